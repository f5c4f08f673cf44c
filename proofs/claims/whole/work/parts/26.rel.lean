/-! PURE, 15: ranges -/
def sh_ir (lo hi x : Int32) : Bool := decide (lo ≤ x) && decide (x ≤ hi)
theorem c_inI (d : Nat) (v lo hi : Int32) (L H : Int64) (h : av_M) (eL : L = lo.toInt64) (eH : H = hi.toInt64) : av_x (d + 1) 158 [.long v.toInt64, .long L, .long H] h = some (sh_i (sh_ir lo hi v), 0, h) := by
  rw [eL, eH, c_in, sh_wide]
  rfl
theorem sh_ir_lt {lo hi x : Int32} (h : x < lo) : sh_ir lo hi x = false := by
  unfold sh_ir
  have : ¬ lo ≤ x := by rw [Int32.not_le]; exact h
  simp [this]
theorem sh_ir_gt {lo hi x : Int32} (h : hi < x) : sh_ir lo hi x = false := by
  unfold sh_ir
  have : ¬ x ≤ hi := by rw [Int32.not_le]; exact h
  simp [this]
theorem sh_ir_in {lo hi x : Int32} (h1 : ¬ x < lo) (h2 : ¬ hi < x) : sh_ir lo hi x = true := by
  unfold sh_ir
  have a1 : lo ≤ x := by rw [← Int32.not_lt]; exact h1
  have a2 : x ≤ hi := by rw [← Int32.not_lt]; exact h2
  simp [a1, a2]
theorem c_isDigitX (d : Nat) (x : Int32) (h : av_M) : av_x (d + 1) 106 [.int x] h = some (sh_i (sh_ir 0 9 x), 0, h) := by
  rw [eX6_isDigit_in]
  by_cases h1 : x < 0
  · rw [if_pos h1, sh_ir_lt h1]; rfl
  · rw [if_neg h1]
    by_cases h2 : 9 < x
    · rw [if_pos h2, sh_ir_gt h2]; rfl
    · rw [if_neg h2, sh_ir_in h1 h2]; rfl
theorem c_isSpanX (d : Nat) (x : Int32) (h : av_M) : av_x (d + 1) 107 [.int x] h = some (sh_i (sh_ir 1 60 x), 0, h) := by
  rw [eX6_isSpan_in]
  by_cases h1 : x < 1
  · rw [if_pos h1, sh_ir_lt h1]; rfl
  · rw [if_neg h1]
    by_cases h2 : 60 < x
    · rw [if_pos h2, sh_ir_gt h2]; rfl
    · rw [if_neg h2, sh_ir_in h1 h2]; rfl
theorem c_isBitX (d : Nat) (x : Int32) (h : av_M) : av_x (d + 1) 105 [.int x] h = some (sh_i (sh_ir 0 1 x), 0, h) := by
  rw [eX6_isBit_in]
  by_cases h1 : x = 0
  · rw [if_pos h1, h1]; rfl
  · rw [if_neg h1]
    by_cases h2 : x = 1
    · rw [if_pos h2, h2]; rfl
    · rw [if_neg h2]
      have : sh_ir 0 1 x = false := by
        by_cases g1 : x < 0
        · exact sh_ir_lt g1
        · by_cases g2 : 1 < x
          · exact sh_ir_gt g2
          · exfalso
            rw [Int32.lt_iff_toInt_lt, show (0 : Int32).toInt = 0 by decide] at g1
            rw [Int32.lt_iff_toInt_lt, show (1 : Int32).toInt = 1 by decide] at g2
            by_cases g3 : x.toInt = 0
            · exact h1 (Int32.toInt_inj.mp (by rw [g3]; decide))
            · exact h2 (Int32.toInt_inj.mp (by rw [show (1 : Int32).toInt = 1 by decide]; omega))
      rw [this]
      rfl
