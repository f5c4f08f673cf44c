/-! PURE, 63: calls: sailing, 2: an act in the reference -/
def sh_kd (c : Nat) : Nat := if c = 110 then 0 else if c = 100 then 1 else if c = 115 then 2 else if c = 112 then 3 else if c = 114 then 4 else if c = 109 then 5 else 6
theorem sh_kd6 (c : Nat) : sh_kd c ≤ 6 := by
  unfold sh_kd
  split
  · omega
  · split
    · omega
    · split
      · omega
      · split
        · omega
        · split
          · omega
          · split <;> omega
theorem sh_kd_wd : ∀ c, c < 256 → (sh_kd c < 3 → sh_wd c = 1) ∧ (sh_kd c = 3 ∨ sh_kd c = 4 → sh_wd c = 2) ∧ (sh_kd c = 5 → sh_wd c = 3) ∧ (sh_kd c = 6 → sh_wd c = 0) := by decide +kernel
theorem t_takesK (d x S p : Nat) (G : Nat → Nat) (h : av_M) (hT : sh_TM x S p G h) (q : p < S) : av_x (d + 1) 178 [.ref 44, .ref 97] h = sh_rd (decide (sh_kd (G p) < 6)) (sh_kd (G p)) p h := by
  obtain ⟨t1, t2, t3, t4, t5, t6⟩ := hT
  rw [eX7_takesOf_r44_r97_in]
  obtain ⟨g1, g2⟩ := t6 p (by omega)
  have st : ∀ a, a < 6 → av_xp d 178 2 [.ref 44, .ref 97, .int (nI a)] [] h = if av_txc 97 a = nI (G p) then some (nI a, 0, av_u h 44 11 (nI (p + 1))) else av_xp d 178 2 [.ref 44, .ref 97, .int (nI (a + 1))] [] h := by
    intro a ha
    rw [eX7_takesOf_r44_r97_2, if_neg (show ¬ (6 : Int32) ≤ nI a from sh_lt (n := 6) ha (by decide)), t4, t5, if_neg (sh_lt q (by omega)), sh_inb ha (by decide), sh_inb (show p < 80 by omega) (by decide), nI_clamp (by omega), nI_clamp (by omega), g1, nI_1, nI_1]
    rfl
  have en : av_xp d 178 2 [.ref 44, .ref 97, .int (nI 6)] [] h = some (-1, 0, h) := by
    rw [eX7_takesOf_r44_r97_2, if_pos (show (6 : Int32) ≤ nI 6 by decide)]
  have e0 : (av_txc 97 0 = nI (G p)) ↔ G p = 110 := by
    rw [show av_txc 97 0 = nI 110 by decide, nI_eq (by omega) (by omega)]; exact eq_comm
  have e1 : (av_txc 97 1 = nI (G p)) ↔ G p = 100 := by
    rw [show av_txc 97 1 = nI 100 by decide, nI_eq (by omega) (by omega)]; exact eq_comm
  have e2 : (av_txc 97 2 = nI (G p)) ↔ G p = 115 := by
    rw [show av_txc 97 2 = nI 115 by decide, nI_eq (by omega) (by omega)]; exact eq_comm
  have e3 : (av_txc 97 3 = nI (G p)) ↔ G p = 112 := by
    rw [show av_txc 97 3 = nI 112 by decide, nI_eq (by omega) (by omega)]; exact eq_comm
  have e4 : (av_txc 97 4 = nI (G p)) ↔ G p = 114 := by
    rw [show av_txc 97 4 = nI 114 by decide, nI_eq (by omega) (by omega)]; exact eq_comm
  have e5 : (av_txc 97 5 = nI (G p)) ↔ G p = 109 := by
    rw [show av_txc 97 5 = nI 109 by decide, nI_eq (by omega) (by omega)]; exact eq_comm
  have s0 := st 0 (by omega)
  have s0' : av_xp d 178 2 [.ref 44, .ref 97, .int 0] [] h = _ := s0
  rw [s0']
  unfold sh_kd
  by_cases q0 : G p = 110
  · rw [if_pos (e0.mpr q0), if_pos q0]; rfl
  rw [if_neg (fun g => q0 (e0.mp g)), if_neg q0, st 1 (by omega)]
  by_cases q1 : G p = 100
  · rw [if_pos (e1.mpr q1), if_pos q1]; rfl
  rw [if_neg (fun g => q1 (e1.mp g)), if_neg q1, st 2 (by omega)]
  by_cases q2 : G p = 115
  · rw [if_pos (e2.mpr q2), if_pos q2]; rfl
  rw [if_neg (fun g => q2 (e2.mp g)), if_neg q2, st 3 (by omega)]
  by_cases q3 : G p = 112
  · rw [if_pos (e3.mpr q3), if_pos q3]; rfl
  rw [if_neg (fun g => q3 (e3.mp g)), if_neg q3, st 4 (by omega)]
  by_cases q4 : G p = 114
  · rw [if_pos (e4.mpr q4), if_pos q4]; rfl
  rw [if_neg (fun g => q4 (e4.mp g)), if_neg q4, st 5 (by omega)]
  by_cases q5 : G p = 109
  · rw [if_pos (e5.mpr q5), if_pos q5]; rfl
  rw [if_neg (fun g => q5 (e5.mp g)), if_neg q5, en]; rfl
theorem av_us {h : av_M} {a k : Nat} {v : Int32} : (av_u h a k v) a k = v := by rw [av_u_eq]; exact upd_s
def sh_AQ (i q : Nat) (h h' : av_M) : Prop := sh_fr [44, 57, 58, 59] h h' ∧ (∀ j, j ≠ 11 → j ≠ 27 → h' 44 j = h 44 j) ∧ h' 44 11 = nI q ∧ ∀ j, j < i → h' 57 j = h 57 j ∧ h' 58 j = h 58 j ∧ h' 59 j = h 59 j
theorem sh_AQ_0 {i q : Nat} {h : av_M} (e : h 44 11 = nI q) : sh_AQ i q h h := ⟨sh_fr_refl _ _, fun _ _ _ => rfl, e, fun _ _ => ⟨rfl, rfl, rfl⟩⟩
theorem sh_AQ_p {i q q' : Nat} {h h' : av_M} (H : sh_AQ i q h h') : sh_AQ i q' h (av_u h' 44 11 (nI q')) := by
  obtain ⟨a1, a2, a3, a4⟩ := H
  refine ⟨sh_fr_u (by decide) a1, ?_, rfl, a4⟩
  intro j g1 g2
  show upd (h' 44) 11 _ j = _
  unfold upd
  rw [if_neg g1]
  exact a2 j g1 g2
theorem sh_AQ_27 {i q : Nat} {v : Int32} {h h' : av_M} (H : sh_AQ i q h h') : sh_AQ i q h (av_u h' 44 27 v) := by
  obtain ⟨a1, a2, a3, a4⟩ := H
  refine ⟨sh_fr_u (by decide) a1, ?_, a3, a4⟩
  intro j g1 g2
  show upd (h' 44) 27 _ j = _
  unfold upd
  rw [if_neg g2]
  exact a2 j g1 g2
theorem sh_AQ_w7 {i q : Nat} {v : Int32} {h h' : av_M} (H : sh_AQ i q h h') : sh_AQ i q h (av_u h' 57 i v) := by
  obtain ⟨a1, a2, a3, a4⟩ := H
  refine ⟨sh_fr_u (by decide) a1, a2, a3, fun j hj => ⟨?_, (a4 j hj).2⟩⟩
  show upd (h' 57) i v j = _
  unfold upd
  rw [if_neg (by omega)]
  exact (a4 j hj).1
theorem sh_AQ_w8 {i q : Nat} {v : Int32} {h h' : av_M} (H : sh_AQ i q h h') : sh_AQ i q h (av_u h' 58 i v) := by
  obtain ⟨a1, a2, a3, a4⟩ := H
  refine ⟨sh_fr_u (by decide) a1, a2, a3, fun j hj => ⟨(a4 j hj).1, ?_, (a4 j hj).2.2⟩⟩
  show upd (h' 58) i v j = _
  unfold upd
  rw [if_neg (by omega)]
  exact (a4 j hj).2.1
theorem sh_AQ_w9 {i q : Nat} {v : Int32} {h h' : av_M} (H : sh_AQ i q h h') : sh_AQ i q h (av_u h' 59 i v) := by
  obtain ⟨a1, a2, a3, a4⟩ := H
  refine ⟨sh_fr_u (by decide) a1, a2, a3, fun j hj => ⟨(a4 j hj).1, (a4 j hj).2.1, ?_⟩⟩
  show upd (h' 59) i v j = _
  unfold upd
  rw [if_neg (by omega)]
  exact (a4 j hj).2.2
theorem sh_aw_n {G : Nat → Nat} {S p due : Nat} (hp : p < S) : sh_aw G (S - p) p due = if due = 0 then (if sh_wd (G p) = 0 then (p, 0) else sh_aw G (S - (p + 1)) (p + 1) (sh_wd (G p))) else (if sh_dg 0 (G p) = true then sh_aw G (S - (p + 1)) (p + 1) (due - 1) else (p, due)) := by
  rw [show S - p = (S - (p + 1)) + 1 by omega, sh_aw_s]
theorem sh_aw_d {G : Nat → Nat} {S p due : Nat} (hp : p < S) (hd : due ≠ 0) (hg : sh_dg 0 (G p) = true) : sh_aw G (S - p) p due = sh_aw G (S - (p + 1)) (p + 1) (due - 1) := by
  rw [sh_aw_n hp, if_neg hd, if_pos hg]
theorem sh_aw_x {G : Nat → Nat} {S p due : Nat} (hp : p ≤ S) (hd : due ≠ 0) (hg : (decide (p < S) && sh_dg 0 (G p)) = false) : sh_aw G (S - p) p due = (p, due) := by
  by_cases q : p < S
  · rw [decide_eq_true q, Bool.true_and] at hg
    rw [sh_aw_n q, if_neg hd, if_neg (by rw [hg]; decide)]
  · rw [show S - p = 0 by omega]; rfl
/-- an act of the text: its kind and its numbers -/
def sh_AV (G : Nat → Nat) (p i : Nat) (h : av_M) : Prop := sh_kd (G p) < 6 ∧ h 57 i = nI (sh_kd (G p)) ∧ h 58 i = nI (G (p + 1) - 48) ∧ sh_dg 0 (G (p + 1)) = true ∧ (sh_kd (G p) = 3 ∨ sh_kd (G p) = 4 → sh_dg 0 (G (p + 2)) = true ∧ h 59 i = nI (G (p + 2) - 48)) ∧ (sh_kd (G p) = 5 → sh_dg 0 (G (p + 2)) = true ∧ sh_dg 0 (G (p + 3)) = true ∧ h 59 i = nI (10 * (G (p + 2) - 48) + (G (p + 3) - 48)))
def sh_RA (S p i : Nat) (G : Nat → Nat) (h : av_M) (o : Option (Int32 × Int64 × av_M)) : Prop := ∃ b q h', o = some (sh_i b, 0, h') ∧ sh_AQ i q h h' ∧ h' 44 27 = nI (i + 1) ∧ q ≤ S ∧ (b = true → q = p + 1 + sh_wd (G p) ∧ sh_aw G (S - p) p 0 = sh_aw G (S - q) q 0 ∧ sh_AV G p i h') ∧ (b = false → (sh_aw G (S - p) p 0).1 = q ∧ (q < S ∨ (sh_aw G (S - p) p 0).2 ≠ 0))
