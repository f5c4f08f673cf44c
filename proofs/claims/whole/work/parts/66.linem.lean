/-! PURE, 56: calls: streamers, 2: signs of lines in the reference -/
theorem av_self {h : av_M} {a k : Nat} {v : Int32} (e : h a k = v) : av_u h a k v = h := by
  funext b j
  by_cases q : b = a
  · subst q
    rw [av_u_eq]
    unfold upd
    by_cases q2 : j = k
    · rw [if_pos q2, q2, e]
    · rw [if_neg q2]
  · rw [av_u_ne q]
/-- the text of the reference, and where it is -/
def sh_TM (x S p : Nat) (G : Nat → Nat) (h : av_M) : Prop := S ≤ 80 ∧ S ≤ x ∧ p ≤ S ∧ h 44 12 = nI S ∧ h 44 11 = nI p ∧ ∀ j, j < x → h 50 j = nI (G j) ∧ G j < 256
def sh_rd (b : Bool) (v : Nat) (p : Nat) (h : av_M) : Option (Int32 × Int64 × av_M) := match b with
  | true => some (nI v, 0, av_u h 44 11 (nI (p + 1)))
  | false => some (-1, 0, h)
def sh_dg (lo c : Nat) : Bool := decide (48 + lo ≤ c) && decide (c ≤ 57)
theorem t_takesCo (d x S p : Nat) (G : Nat → Nat) (h : av_M) (hT : sh_TM x S p G h) : av_x (d + 1) 178 [.ref 44, .ref 92] h = sh_rd (decide (p < S) && decide (sh_cN (G p) < 4)) (sh_cN (G p)) p h := by
  obtain ⟨t1, t2, t3, t4, t5, t6⟩ := hT
  rw [eX7_takesOf_r44_r92_in]
  by_cases q : p < S
  · obtain ⟨g1, g2⟩ := t6 p (by omega)
    have st : ∀ a, a < 4 → av_xp d 178 2 [.ref 44, .ref 92, .int (nI a)] [] h = if av_txc 92 a = nI (G p) then some (nI a, 0, av_u h 44 11 (nI (p + 1))) else av_xp d 178 2 [.ref 44, .ref 92, .int (nI (a + 1))] [] h := by
      intro a ha
      rw [eX7_takesOf_r44_r92_2, if_neg (show ¬ (4 : Int32) ≤ nI a from sh_lt (n := 4) ha (by decide)), t4, t5, if_neg (sh_lt q (by omega)), sh_inb ha (by decide), sh_inb (show p < 80 by omega) (by decide), nI_clamp (by omega), nI_clamp (by omega), g1, nI_1, nI_1]
      rfl
    have en : av_xp d 178 2 [.ref 44, .ref 92, .int (nI 4)] [] h = some (-1, 0, h) := by
      rw [eX7_takesOf_r44_r92_2, if_pos (show (4 : Int32) ≤ nI 4 by decide)]
    have e0 : (av_txc 92 0 = nI (G p)) ↔ G p = 112 := by
      rw [show av_txc 92 0 = nI 112 by decide, nI_eq (by omega) (by omega)]; exact eq_comm
    have e1 : (av_txc 92 1 = nI (G p)) ↔ G p = 103 := by
      rw [show av_txc 92 1 = nI 103 by decide, nI_eq (by omega) (by omega)]; exact eq_comm
    have e2 : (av_txc 92 2 = nI (G p)) ↔ G p = 98 := by
      rw [show av_txc 92 2 = nI 98 by decide, nI_eq (by omega) (by omega)]; exact eq_comm
    have e3 : (av_txc 92 3 = nI (G p)) ↔ G p = 121 := by
      rw [show av_txc 92 3 = nI 121 by decide, nI_eq (by omega) (by omega)]; exact eq_comm
    rw [decide_eq_true q, Bool.true_and]
    have s0 := st 0 (by omega)
    have s0' : av_xp d 178 2 [.ref 44, .ref 92, .int 0] [] h = _ := s0
    rw [s0']
    unfold sh_cN
    by_cases q0 : G p = 112
    · rw [if_pos (e0.mpr q0), if_pos q0]; rfl
    · rw [if_neg (fun g => q0 (e0.mp g)), if_neg q0, st 1 (by omega)]
      by_cases q1 : G p = 103
      · rw [if_pos (e1.mpr q1), if_pos q1]; rfl
      · rw [if_neg (fun g => q1 (e1.mp g)), if_neg q1, st 2 (by omega)]
        by_cases q2 : G p = 98
        · rw [if_pos (e2.mpr q2), if_pos q2]; rfl
        · rw [if_neg (fun g => q2 (e2.mp g)), if_neg q2, st 3 (by omega)]
          by_cases q3 : G p = 121
          · rw [if_pos (e3.mpr q3), if_pos q3]; rfl
          · rw [if_neg (fun g => q3 (e3.mp g)), if_neg q3, en]; rfl
  · rw [decide_eq_false q, Bool.false_and, eX7_takesOf_r44_r92_2, if_neg (by decide), t4, t5, if_pos (sh_ge (by omega) (by omega))]
    rfl
theorem sh_dg1 : ∀ c, c < 256 → sh_ir 1 9 (nI c - 48) = sh_dg 1 c := by decide +kernel
theorem sh_dg0 : ∀ c, c < 256 → sh_ir 48 57 (nI c) = sh_dg 0 c := by decide +kernel
theorem t_digitIn (d x S p : Nat) (G : Nat → Nat) (h : av_M) (hT : sh_TM x S p G h) : av_x (d + 2) 180 [.ref 44, .int 1, .int 9] h = sh_rd (decide (p < S) && sh_dg 1 (G p)) (G p - 48) p h := by
  obtain ⟨t1, t2, t3, t4, t5, t6⟩ := hT
  rw [eX7_digitIn_r44_in, t4, t5]
  by_cases q : p < S
  · obtain ⟨g1, g2⟩ := t6 p (by omega)
    rw [if_neg (sh_lt q (by omega)), sh_inb (show p < 80 by omega) (by decide), nI_clamp (by omega), g1, c_inI _ _ 1 9 _ _ _ rfl rfl, sh_dg1 _ g2, decide_eq_true q, Bool.true_and]
    simp only [cond_true, Option.bind_some]
    cases hd : sh_dg 1 (G p)
    · rfl
    · rw [if_neg (show ¬ sh_i true = 0 by decide), t5, show nI p + 1 - 1 = nI p by rw [nI_1, show (1 : Int32) = nI 1 from rfl, nI_sub (by omega)]; rfl, sh_inb (show p < 80 by omega) (by decide), nI_clamp (by omega), g1, nI_1]
      unfold sh_dg at hd
      simp only [Bool.and_eq_true, decide_eq_true_eq] at hd
      rw [show nI (G p) - 48 = nI (G p - 48) from nI_sub (b := 48) (by omega)]
      rfl
  · rw [if_pos (sh_ge (by omega) (by omega)), decide_eq_false q]; rfl
theorem t_isDigit (d x S p : Nat) (G : Nat → Nat) (h : av_M) (hT : sh_TM x S p G h) : av_x (d + 2) 177 [.ref 44] h = some (sh_i (decide (p < S) && sh_dg 0 (G p)), 0, h) := by
  obtain ⟨t1, t2, t3, t4, t5, t6⟩ := hT
  rw [eX7_isDigit_r44_in, t4, t5]
  by_cases q : p < S
  · obtain ⟨g1, g2⟩ := t6 p (by omega)
    rw [if_neg (sh_lt q (by omega)), sh_inb (show p < 80 by omega) (by decide), nI_clamp (by omega), g1, c_inI _ _ 48 57 _ _ _ (by decide) (by decide), sh_dg0 _ g2, decide_eq_true q, Bool.true_and]
    simp only [cond_true, Option.bind_some]
    cases sh_dg 0 (G p) <;> rfl
  · rw [if_pos (sh_ge (by omega) (by omega)), decide_eq_false q]; rfl
theorem t_number1 (d x S p : Nat) (G : Nat → Nat) (h : av_M) (hT : sh_TM x S p G h) : av_x (d + 3) 179 [.ref 44, .int 1] h = sh_rd (decide (p < S) && sh_dg 0 (G p)) (G p - 48) p h := by
  have e1 := t_isDigit d x S p G h hT
  obtain ⟨t1, t2, t3, t4, t5, t6⟩ := hT
  rw [eX7_number_r44_in, e1]
  simp only [Option.bind_some]
  cases hd : (decide (p < S) && sh_dg 0 (G p))
  · rfl
  · rw [hd] at e1
    have hd2 := hd
    unfold sh_dg at hd2
    simp only [Bool.and_eq_true, decide_eq_true_eq] at hd2
    obtain ⟨g1, g2⟩ := t6 p (by omega)
    rw [if_neg (show ¬ sh_i true = 0 by decide), eX7_number_r44_13, if_neg (by decide), e1]
    simp only [Option.bind_some]
    rw [if_neg (show ¬ sh_i true = 0 by decide), t5, sh_inb (show p < 80 by omega) (by decide), nI_clamp (by omega), g1, nI_1, cond_true, eX7_number_r44_13, if_pos (by decide)]
    rw [show (10 : Int32) * 0 + nI (G p) - 48 = nI (G p - 48) by rw [show (10 : Int32) * 0 = nI 0 from rfl, nI_add, Nat.zero_add]; exact nI_sub (b := 48) (by omega)]
    rfl
theorem t_takes (d x S p c : Nat) (G : Nat → Nat) (h : av_M) (hc : c < 256) (hT : sh_TM x S p G h) : av_x (d + 2) 176 [.ref 44, .int (nI c)] h = some (sh_i (decide (p < S) && decide (G p = c)), 0, if (decide (p < S) && decide (G p = c)) = true then av_u h 44 11 (nI (p + 1)) else h) := by
  obtain ⟨t1, t2, t3, t4, t5, t6⟩ := hT
  rw [eX7_takes_r44_in, t4, t5]
  by_cases q : p < S
  · obtain ⟨g1, g2⟩ := t6 p (by omega)
    rw [if_neg (sh_lt q (by omega)), sh_inb (show p < 80 by omega) (by decide), nI_clamp (by omega), g1, decide_eq_true q, Bool.true_and, c_flag0, c_flag1]
    simp only [cond_true, Option.bind_some]
    by_cases e : G p = c
    · rw [if_pos (by rw [e]), decide_eq_true e, if_pos rfl, sh_111, nI_1]; rfl
    · rw [if_neg (fun g => e ((nI_eq (by omega) (by omega)).mp g)), decide_eq_false e, if_neg (by decide), sh_001, Int32.add_zero, av_self t5]; rfl
  · rw [if_pos (sh_ge (by omega) (by omega)), decide_eq_false q, Bool.false_and, c_flag0, if_neg (by decide)]
    simp only [Option.bind_some]
    rw [sh_001, Int32.add_zero, av_self t5]; rfl
