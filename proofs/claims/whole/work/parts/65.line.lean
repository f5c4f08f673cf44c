/-! PURE, 55: calls: streamers, 1: signs of lines -/
def sh_cN (c : Nat) : Nat := if c = 112 then 0 else if c = 103 then 1 else if c = 98 then 2 else if c = 121 then 3 else 4
def sh_cI (c : Nat) : Int32 := if sh_cN c = 4 then -1 else nI (sh_cN c)
def sh_dI (lo c : Nat) : Int32 := if 48 + lo ≤ c ∧ c ≤ 57 then nI (c - 48) else -1
def sh_fz (n p c : Nat) : Bool := if p % 7 = 0 then (decide (n + p / 7 < 7) && decide (sh_cN c < 4)) else if p % 7 = 1 then (decide (49 ≤ c) && decide (c ≤ 57)) else if p % 7 = 6 then decide (c = 59) else (decide (48 ≤ c) && decide (c ≤ 57))
def sh_sc (ok : Nat → Bool) : Nat → Nat → Nat
  | 0, p => p
  | T + 1, p => if ok p = true then sh_sc ok T (p + 1) else p
theorem sh_sc_s (ok : Nat → Bool) (T p : Nat) : sh_sc ok (T + 1) p = if ok p = true then sh_sc ok T (p + 1) else p := rfl
/-- the text of the class -/
def sh_TX (x : Nat) (G : Nat → Nat) (h : av_M) : Prop := x ≤ 80 ∧ h 1 1 = nI x ∧ ∀ j, j < x → h 2 j = nI (G j) ∧ G j < 256
theorem c_atX (d x p : Nat) (G : Nat → Nat) (h : av_M) (hT : sh_TX x G h) (hp : p < x) : av_x (d + 1) 50 [.ref 1, .int (nI p)] h = some (nI (G p), 0, h) := by
  obtain ⟨t1, t2, t3⟩ := hT
  rw [eX5_at_r1_in, if_neg (show ¬ nI p < 0 from nI_nlt (b := 0) (by omega) (by omega)), t2, if_pos (nI_lt hp (by omega)), sh_inb (show p < 80 by omega) (by decide), nI_clamp (by omega), (t3 p hp).1]
  rfl
theorem c_digX (d x p : Nat) (G : Nat → Nat) (h : av_M) (hT : sh_TX x G h) (hp : p < x) : av_x (d + 2) 51 [.ref 1, .int (nI p)] h = some (sh_dI 0 (G p), 0, h) := by
  rw [eX5_digit_r1_in, c_atX d x p G h hT hp]
  simp only [Option.bind_some]
  have h1 := (hT.2.2 p hp).2
  unfold sh_dI
  by_cases q1 : G p < 48
  · rw [if_pos (show nI (G p) < 48 from nI_lt (b := 48) q1 (by omega)), if_neg (by omega)]
  · rw [if_neg (show ¬ nI (G p) < 48 from nI_nlt (b := 48) (by omega) (by omega))]
    by_cases q2 : 57 < G p
    · rw [if_pos (show (57 : Int32) < nI (G p) from nI_lt (a := 57) q2 (by omega)), if_neg (by omega)]
    · rw [if_neg (show ¬ (57 : Int32) < nI (G p) from nI_nlt (a := 57) (by omega) (by omega)), if_pos (by omega), show nI (G p) - 48 = nI (G p) - nI 48 from rfl, nI_sub (by omega)]
theorem c_colX (d c : Nat) (h : av_M) (hc : c < 256) : av_x (d + 1) 118 [.int (nI c)] h = some (sh_cI c, 0, h) := by
  have e : ∀ k, k < 256 → (nI c = nI k ↔ c = k) := fun k hk => nI_eq (by omega) (by omega)
  have e1 : (nI c = 98 ↔ c = 98) := e 98 (by omega)
  have e2 : (nI c = 103 ↔ c = 103) := e 103 (by omega)
  have e3 : (nI c = 112 ↔ c = 112) := e 112 (by omega)
  have e4 : (nI c = 121 ↔ c = 121) := e 121 (by omega)
  rw [eX6_colourOf_in]
  unfold sh_cI sh_cN
  by_cases q1 : c = 98
  · subst q1; rfl
  · rw [if_neg (fun q => q1 (e1.mp q))]
    by_cases q2 : c = 103
    · subst q2; rfl
    · rw [if_neg (fun q => q2 (e2.mp q))]
      by_cases q3 : c = 112
      · subst q3; rfl
      · rw [if_neg (fun q => q3 (e3.mp q))]
        by_cases q4 : c = 121
        · subst q4; rfl
        · rw [if_neg (fun q => q4 (e4.mp q)), if_neg q3, if_neg q2, if_neg q1, if_neg q4, if_pos rfl]
theorem sh_cN4 (c : Nat) : sh_cN c ≤ 4 := by
  unfold sh_cN
  split
  · omega
  · split
    · omega
    · split
      · omega
      · split <;> omega
theorem sh_cI_neg (c : Nat) : sh_cI c < 0 ↔ ¬ sh_cN c < 4 := by
  have h4 := sh_cN4 c
  unfold sh_cI
  by_cases q : sh_cN c = 4
  · rw [if_pos q]
    exact ⟨fun _ => by omega, fun _ => by decide⟩
  · rw [if_neg q]
    exact ⟨fun g => absurd g (nI_nlt (b := 0) (by omega) (by omega)), fun g => absurd (show sh_cN c < 4 by omega) g⟩
theorem c_fitsLine (d x n p : Nat) (G : Nat → Nat) (h : av_M) (hn : n ≤ 7) (hm : h 5 6 = nI n) (hT : sh_TX x G h) (hp : p < x) : av_x (d + 3) 116 [.ref 0, .int (nI p)] h = some (sh_i (sh_fz n p (G p)), 0, h) := by
  have hc := (hT.2.2 p hp).2
  have hx := hT.1
  have er : nI p - nI p / 7 * 7 = nI (p % 7) := nI_rem p (b := 7) (by omega) (by omega) (by omega)
  have ed : nI p / 7 = nI (p / 7) := nI_div p (b := 7) (by omega) (by omega) (by omega)
  have e0 : (nI (p % 7) = 0 ↔ p % 7 = 0) := nI_eq (b := 0) (by omega) (by omega)
  have e1 : (nI (p % 7) = 1 ↔ p % 7 = 1) := nI_eq (b := 1) (by omega) (by omega)
  have e6 : (nI (p % 7) = 6 ↔ p % 7 = 6) := nI_eq (b := 6) (by omega) (by omega)
  rw [eX6_fitsLine_r0_in, er, ed, hm, nI_add]
  unfold sh_fz
  by_cases q0 : p % 7 = 0
  · rw [if_pos (e0.mpr q0), if_pos q0]
    by_cases g : n + p / 7 < 7
    · rw [if_neg (show ¬ (7 : Int32) ≤ nI (n + p / 7) from sh_lt (n := 7) g (by decide)), c_atX _ x p G h hT hp, decide_eq_true g]
      simp only [Option.bind_some]
      rw [c_colX _ _ _ hc]
      simp only [Option.bind_some, Bool.true_and]
      by_cases g2 : sh_cN (G p) < 4
      · rw [if_neg (fun q => (sh_cI_neg _).mp q g2), decide_eq_true g2, sh_111]; rfl
      · rw [if_pos ((sh_cI_neg _).mpr g2), decide_eq_false g2, sh_001]; rfl
    · rw [if_pos (show (7 : Int32) ≤ nI (n + p / 7) from sh_ge (n := 7) (by omega) (by omega)), decide_eq_false g, sh_001]; rfl
  · rw [if_neg (fun q => q0 (e0.mp q)), if_neg q0]
    by_cases q1 : p % 7 = 1
    · rw [if_pos (e1.mpr q1), if_pos q1, c_digX _ x p G h hT hp]
      simp only [Option.bind_some]
      unfold sh_dI
      by_cases g : 48 + 0 ≤ G p ∧ G p ≤ 57
      · rw [if_pos g]
        by_cases g2 : 49 ≤ G p
        · rw [if_neg (show ¬ nI (G p - 48) < 1 from nI_nlt (b := 1) (by omega) (by omega)), decide_eq_true g2, decide_eq_true g.2, sh_111]; rfl
        · rw [if_pos (show nI (G p - 48) < 1 from nI_lt (b := 1) (by omega) (by omega)), decide_eq_false g2, sh_001]; rfl
      · rw [if_neg g, if_pos (by decide), sh_001]
        by_cases g2 : 49 ≤ G p
        · rw [decide_eq_false (show ¬ G p ≤ 57 by omega), Bool.and_false]; rfl
        · rw [decide_eq_false g2]; rfl
    · rw [if_neg (fun q => q1 (e1.mp q)), if_neg q1]
      by_cases q6 : p % 7 = 6
      · rw [if_pos (e6.mpr q6), if_pos q6, c_atX _ x p G h hT hp]
        simp only [Option.bind_some]
        by_cases g : G p = 59
        · rw [if_pos (by rw [g]; rfl), decide_eq_true g, sh_111]; rfl
        · rw [if_neg (show ¬ nI (G p) = 59 from fun q => g ((nI_eq (b := 59) (by omega) (by omega)).mp q)), decide_eq_false g, sh_001]; rfl
      · rw [if_neg (fun q => q6 (e6.mp q)), if_neg q6, c_digX _ x p G h hT hp]
        simp only [Option.bind_some]
        unfold sh_dI
        by_cases g : 48 + 0 ≤ G p ∧ G p ≤ 57
        · rw [if_pos g, if_neg (show ¬ nI (G p - 48) < 0 from nI_nlt (b := 0) (by omega) (by omega)), decide_eq_true g.2, decide_eq_true (show 48 ≤ G p by omega), sh_111]; rfl
        · rw [if_neg g, if_pos (by decide), sh_001]
          by_cases g2 : 48 ≤ G p
          · rw [decide_eq_false (show ¬ G p ≤ 57 by omega), Bool.and_false]; rfl
          · rw [decide_eq_false g2]; rfl
/-- the first bad sign of S signs of x -/
def sh_bd (x S q : Nat) : Int32 := if q < S then nI q else if (S = 0 ∨ S % 7 = 6) ∧ x = S then -1 else nI S
theorem f_bad_l (d x n S : Nat) (G : Nat → Nat) (h : av_M) (hn : n ≤ 7) (hm : h 5 6 = nI n) (hT : sh_TX x G h) (hS : S ≤ x) : ∀ T p, p + T = S → av_xp (d + 3) 115 15 [.ref 0, .int (nI S), .int (nI p)] [] h = some (sh_bd x S (sh_sc (fun p => sh_fz n p (G p)) T p), 0, h) := by
  have hx := hT.1
  intro T
  induction T with
  | zero =>
    intro p e
    have er : nI S - nI S / 7 * 7 = nI (S % 7) := nI_rem S (b := 7) (by omega) (by omega) (by omega)
    have e6 : (nI (S % 7) = 6 ↔ S % 7 = 6) := nI_eq (b := 6) (by omega) (by omega)
    have e0 : (nI S = 0 ↔ S = 0) := nI_eq (b := 0) (by omega) (by omega)
    have ex : (nI x = nI S ↔ x = S) := nI_eq (by omega) (by omega)
    rw [eX6_badLineSign_r0_15, if_pos (sh_ge (by omega) (by omega)), er, hT.2.1]
    show _ = some (sh_bd x S p, 0, h)
    unfold sh_bd
    rw [if_neg (show ¬ p < S by omega)]
    by_cases q0 : S = 0
    · rw [if_pos (e0.mpr q0)]
      by_cases qx : x = S
      · rw [if_pos (ex.mpr qx), if_pos ⟨Or.inl q0, qx⟩]
      · rw [if_neg (fun q => qx (ex.mp q)), if_neg (fun q => qx q.2)]
    · rw [if_neg (fun q => q0 (e0.mp q))]
      by_cases q6 : S % 7 = 6
      · rw [if_pos (e6.mpr q6)]
        by_cases qx : x = S
        · rw [if_pos (ex.mpr qx), if_pos ⟨Or.inr q6, qx⟩]
        · rw [if_neg (fun q => qx (ex.mp q)), if_neg (fun q => qx q.2)]
      · rw [if_neg (fun q => q6 (e6.mp q)), if_neg (fun q => q.1.elim q0 q6)]
  | succ T ih =>
    intro p e
    rw [eX6_badLineSign_r0_15, if_neg (sh_lt (by omega) (by omega)), c_fitsLine d x n p G h hn hm hT (by omega), sh_sc_s]
    simp only [Option.bind_some, nI_1]
    cases hq : sh_fz n p (G p)
    · rw [if_pos (show sh_i false = 0 from rfl), if_neg (by decide)]
      unfold sh_bd
      rw [if_pos (by omega)]
    · rw [if_neg (show ¬ sh_i true = 0 by decide), if_pos rfl]
      exact ih (p + 1) (by omega)
theorem c_badLine (d x n : Nat) (G : Nat → Nat) (h : av_M) (hn : n ≤ 7) (hm : h 5 6 = nI n) (hT : sh_TX x G h) : av_x (d + 4) 115 [.ref 0] h = some (sh_bd x (min x 48) (sh_sc (fun p => sh_fz n p (G p)) (min x 48) 0), 0, h) := by
  have hx := hT.1
  have em : av_min (nI x) 48 = nI (min x 48) := by
    unfold av_min
    by_cases q : 48 < x
    · rw [if_pos (show (48 : Int32) < nI x from nI_lt (a := 48) q (by omega)), show min x 48 = 48 by omega]; rfl
    · rw [if_neg (show ¬ (48 : Int32) < nI x from nI_nlt (a := 48) (by omega) (by omega)), show min x 48 = x by omega]
  rw [eX6_badLineSign_r0_in, hT.2.1, em]
  exact f_bad_l d x n (min x 48) G h hn hm hT (by omega) (min x 48) 0 (by omega)
