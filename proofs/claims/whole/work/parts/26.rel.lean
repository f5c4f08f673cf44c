/-! PURE, 15: ranges -/
def sh_ir (lo hi x : Int32) : Bool := decide (lo ≤ x) && decide (x ≤ hi)
theorem c_inI (d : Nat) (v lo hi : Int32) (L H : Int64) (h : av_M) (eL : L = lo.toInt64) (eH : H = hi.toInt64) : av_x (d + 1) 158 [.long v.toInt64, .long L, .long H] h = some (sh_i (sh_ir lo hi v), 0, h) := by
  rw [eL, eH, c_in, sh_wide]
  rfl
theorem sh_ir_lt {lo hi x : Int32} (h : x < lo) : sh_ir lo hi x = false := by
  unfold sh_ir
  have : ¬ lo ≤ x := by rw [Int32.not_le]; exact h
  simp [this]
theorem sh_ir_gt {lo hi x : Int32} (h : hi < x) : sh_ir lo hi x = false := by
  unfold sh_ir
  have : ¬ x ≤ hi := by rw [Int32.not_le]; exact h
  simp [this]
theorem sh_ir_in {lo hi x : Int32} (h1 : ¬ x < lo) (h2 : ¬ hi < x) : sh_ir lo hi x = true := by
  unfold sh_ir
  have a1 : lo ≤ x := by rw [← Int32.not_lt]; exact h1
  have a2 : x ≤ hi := by rw [← Int32.not_lt]; exact h2
  simp [a1, a2]
theorem c_isDigitX (d : Nat) (x : Int32) (h : av_M) : av_x (d + 1) 106 [.int x] h = some (sh_i (sh_ir 0 9 x), 0, h) := by
  rw [eX6_isDigit_in]
  by_cases h1 : x < 0
  · rw [if_pos h1, sh_ir_lt h1]; rfl
  · rw [if_neg h1]
    by_cases h2 : 9 < x
    · rw [if_pos h2, sh_ir_gt h2]; rfl
    · rw [if_neg h2, sh_ir_in h1 h2]; rfl
theorem c_isSpanX (d : Nat) (x : Int32) (h : av_M) : av_x (d + 1) 107 [.int x] h = some (sh_i (sh_ir 1 60 x), 0, h) := by
  rw [eX6_isSpan_in]
  by_cases h1 : x < 1
  · rw [if_pos h1, sh_ir_lt h1]; rfl
  · rw [if_neg h1]
    by_cases h2 : 60 < x
    · rw [if_pos h2, sh_ir_gt h2]; rfl
    · rw [if_neg h2, sh_ir_in h1 h2]; rfl
theorem c_isBitX (d : Nat) (x : Int32) (h : av_M) : av_x (d + 1) 105 [.int x] h = some (sh_i (sh_ir 0 1 x), 0, h) := by
  rw [eX6_isBit_in]
  by_cases h1 : x = 0
  · rw [if_pos h1, h1]; rfl
  · rw [if_neg h1]
    by_cases h2 : x = 1
    · rw [if_pos h2, h2]; rfl
    · rw [if_neg h2]
      have : sh_ir 0 1 x = false := by
        by_cases g1 : x < 0
        · exact sh_ir_lt g1
        · by_cases g2 : 1 < x
          · exact sh_ir_gt g2
          · exfalso
            rw [Int32.lt_iff_toInt_lt, show (0 : Int32).toInt = 0 by decide] at g1
            rw [Int32.lt_iff_toInt_lt, show (1 : Int32).toInt = 1 by decide] at g2
            by_cases g3 : x.toInt = 0
            · exact h1 (Int32.toInt_inj.mp (by rw [g3]; decide))
            · exact h2 (Int32.toInt_inj.mp (by rw [show (1 : Int32).toInt = 1 by decide]; omega))
      rw [this]
      rfl
/-- the two sails are one -/
def sh_PA (n : Nat) (r : Nat → Int32) (h : av_M) : Prop := n ≤ 7 ∧ h 5 6 = nI n ∧ h 5 7 = sh_e n ∧ sh_SV 5 h r ∧ h 44 3 = nI n ∧ sh_MV 48 h r ∧ (∀ j, j < n → h 6 j = h 46 j ∧ h 7 j = h 47 j ∧ sh_B 0 99 (h 47 j)) ∧ sh_G n r
/-- the two rules are one -/
def sh_PB (h : av_M) : Prop := ∃ m L, h 19 3 = nI m ∧ h 44 18 = nI L ∧ sh_RR m (h 20) L (h 52)
/-- the told rows are one -/
def sh_PT (h : av_M) : Prop := ∃ t, t ≤ 7 ∧ h 3 1 = nI t ∧ h 44 1 = nI t ∧ ∀ j, j < 2 * t → h 4 j = h 45 j
/-- the texts are one -/
def sh_PX (h : av_M) : Prop := ∃ x, x ≤ 80 ∧ h 1 1 = nI x ∧ h 44 10 = nI x ∧ ∀ j, j < x → h 2 j = h 50 j ∧ sh_B 0 255 (h 50 j)
/-- what can be taken back is one -/
def sh_PU (n : Nat) (h : av_M) : Prop := ∃ a u R, sh_M1 a u R h ∧ sh_M2 u R h ∧ ∀ i, i < u → sh_G n (R i)
/-- the sails kept are one -/
def sh_PK (N n : Nat) (h : av_M) : Prop := ∃ (c : Nat) (w : Nat → Nat) (K : Nat → Nat → Int32), c ≤ N ∧ h 44 4 = nI c ∧ ∀ p, p < 3 → w p ≤ c ∧ h 74 p = nI (w p) ∧ (h 73 p = 0 ∨ h 73 p = 1) ∧ (bt (h 27 4) p = true ↔ (h 73 p = 1 ∧ w p = c)) ∧ (bt (h 27 4) p = true → sh_G n (K p) ∧ sh_RW 29 (33 * p) h (K p) ∧ sh_RM 75 p h (K p))
/-- the sights are one -/
def sh_PF (n : Nat) (h : av_M) : Prop := ∃ s, s ≤ 10 ∧ h 30 3 = 10 ∧ h 30 4 = nI s ∧ h 44 28 = nI s ∧ ∀ i, i < s → h 31 i = h 60 i ∧ h 32 i = h 61 i ∧ h 33 i = h 62 i ∧ sh_kn n (h 60 i) = true ∧ sh_ir (-99) 99 (h 61 i) = true ∧ sh_ir 0 1 (h 62 i) = true
/-- the rumours are one -/
def sh_lo (p : Int32) : Int32 := if p = 1 then 1 else 0
def sh_hi (p : Int32) : Int32 := if p = 0 then 3 else if p = 1 then 9 else if p = 3 then 9 else 1
def sh_PH (h : av_M) : Prop := ∃ s, s ≤ 12 ∧ h 34 3 = 12 ∧ h 34 4 = nI s ∧ h 44 33 = nI s ∧ ∀ i, i < s → h 35 i = h 64 i ∧ h 36 i = h 65 i ∧ sh_ir 0 4 (h 64 i) = true ∧ sh_ir (sh_lo (h 64 i)) (sh_hi (h 64 i)) (h 65 i) = true
/-- the partings are one -/
def sh_PS (h : av_M) : Prop := ∃ s, s ≤ 10 ∧ h 38 3 = 10 ∧ h 38 4 = nI s ∧ h 44 36 = nI s ∧ ∀ i, i < s → h 39 i = h 66 i ∧ h 40 i = h 67 i ∧ h 41 i = h 68 i ∧ sh_ir 0 20 (h 66 i) = true ∧ sh_ir 1 9 (h 67 i) = true ∧ sh_ir 0 1 (h 68 i) = true
theorem sh_PA_fr {n : Nat} {r : Nat → Int32} {S : List Nat} {h h' : av_M} (hf : sh_fr S h h') (hS : 5 ∉ S ∧ 6 ∉ S ∧ 7 ∉ S ∧ 8 ∉ S ∧ 9 ∉ S ∧ 10 ∉ S ∧ 11 ∉ S ∧ 46 ∉ S ∧ 47 ∉ S ∧ 48 ∉ S) (h3 : h' 44 3 = h 44 3) (hp : sh_PA n r h) : sh_PA n r h' := by
  obtain ⟨s5, s6, s7, s8, s9, s10, s11, s46, s47, s48⟩ := hS
  obtain ⟨p1, p2, p3, p4, p5, p6, p7, p8⟩ := hp
  refine ⟨p1, by rw [hf 5 s5]; exact p2, by rw [hf 5 s5]; exact p3, ?_, by rw [h3]; exact p5, sh_MV_fr hf s48 p6, ?_, p8⟩
  · unfold sh_SV at p4 ⊢
    rw [hf 5 s5, show h' (5 + 3) = h (5 + 3) from hf 8 s8, show h' (5 + 4) = h (5 + 4) from hf 9 s9, show h' (5 + 5) = h (5 + 5) from hf 10 s10, show h' (5 + 6) = h (5 + 6) from hf 11 s11]
    exact p4
  · rw [hf 6 s6, hf 7 s7, hf 46 s46, hf 47 s47]
    exact p7
