/-! PURE, 62: calls: sailing, 1: signs of acts in the class -/
def sh_wI (p0 : Int32) : Int32 := (if p0 = 100 then 1 else (if p0 = 101 then 0 else (if p0 = 102 then 0 else (if p0 = 103 then 0 else (if p0 = 104 then 0 else (if p0 = 105 then 0 else (if p0 = 106 then 0 else (if p0 = 107 then 0 else (if p0 = 108 then 0 else (if p0 = 109 then 3 else (if p0 = 110 then 1 else (if p0 = 111 then 0 else (if p0 = 112 then 2 else (if p0 = 113 then 0 else (if p0 = 114 then 2 else (if p0 = 115 then 1 else 0))))))))))))))))
def sh_wd (c : Nat) : Nat := if c = 110 ∨ c = 100 ∨ c = 115 then 1 else if c = 112 ∨ c = 114 then 2 else if c = 109 then 3 else 0
theorem sh_wI_wd : ∀ c, c < 256 → sh_wI (nI c) = nI (sh_wd c) := by decide +kernel
theorem c_behindI (d : Nat) (p0 : Int32) (h : av_M) : av_x (d + 1) 121 [.int p0] h = some (sh_wI p0, 0, h) := by
  rw [eX6_digitsBehind_in]
  unfold sh_wI
  by_cases q0 : p0 = 100
  · rw [if_pos q0, if_pos q0]
  rw [if_neg q0, if_neg q0]
  by_cases q1 : p0 = 101
  · rw [if_pos q1, if_pos q1]
  rw [if_neg q1, if_neg q1]
  by_cases q2 : p0 = 102
  · rw [if_pos q2, if_pos q2]
  rw [if_neg q2, if_neg q2]
  by_cases q3 : p0 = 103
  · rw [if_pos q3, if_pos q3]
  rw [if_neg q3, if_neg q3]
  by_cases q4 : p0 = 104
  · rw [if_pos q4, if_pos q4]
  rw [if_neg q4, if_neg q4]
  by_cases q5 : p0 = 105
  · rw [if_pos q5, if_pos q5]
  rw [if_neg q5, if_neg q5]
  by_cases q6 : p0 = 106
  · rw [if_pos q6, if_pos q6]
  rw [if_neg q6, if_neg q6]
  by_cases q7 : p0 = 107
  · rw [if_pos q7, if_pos q7]
  rw [if_neg q7, if_neg q7]
  by_cases q8 : p0 = 108
  · rw [if_pos q8, if_pos q8]
  rw [if_neg q8, if_neg q8]
  by_cases q9 : p0 = 109
  · rw [if_pos q9, if_pos q9]
  rw [if_neg q9, if_neg q9]
  by_cases q10 : p0 = 110
  · rw [if_pos q10, if_pos q10]
  rw [if_neg q10, if_neg q10]
  by_cases q11 : p0 = 111
  · rw [if_pos q11, if_pos q11]
  rw [if_neg q11, if_neg q11]
  by_cases q12 : p0 = 112
  · rw [if_pos q12, if_pos q12]
  rw [if_neg q12, if_neg q12]
  by_cases q13 : p0 = 113
  · rw [if_pos q13, if_pos q13]
  rw [if_neg q13, if_neg q13]
  by_cases q14 : p0 = 114
  · rw [if_pos q14, if_pos q14]
  rw [if_neg q14, if_neg q14]
  by_cases q15 : p0 = 115
  · rw [if_pos q15, if_pos q15]
  rw [if_neg q15, if_neg q15]
theorem c_behind (d c : Nat) (h : av_M) (hc : c < 256) : av_x (d + 1) 121 [.int (nI c)] h = some (nI (sh_wd c), 0, h) := by
  rw [c_behindI, sh_wI_wd c hc]
theorem sh_wd3 (c : Nat) : sh_wd c ≤ 3 := by
  unfold sh_wd
  split
  · omega
  · split
    · omega
    · split <;> omega
/-- the walk over the signs: where it stops, and how many digits are due there -/
def sh_aw (G : Nat → Nat) : Nat → Nat → Nat → Nat × Nat
  | 0, p, due => (p, due)
  | T + 1, p, due => if due = 0 then (if sh_wd (G p) = 0 then (p, 0) else sh_aw G T (p + 1) (sh_wd (G p))) else (if sh_dg 0 (G p) = true then sh_aw G T (p + 1) (due - 1) else (p, due))
theorem sh_aw_s (G : Nat → Nat) (T p due : Nat) : sh_aw G (T + 1) p due = if due = 0 then (if sh_wd (G p) = 0 then (p, 0) else sh_aw G T (p + 1) (sh_wd (G p))) else (if sh_dg 0 (G p) = true then sh_aw G T (p + 1) (due - 1) else (p, due)) := rfl
def sh_az (x S : Nat) (z : Nat × Nat) : Int32 := if z.1 < S then nI z.1 else if z.2 = 0 ∧ x = S then -1 else nI S
theorem sh_dec : ∀ k, k < 4 → 0 < k → nI k + (-1) = nI (k - 1) := by decide +kernel
theorem sh_dI_ge {c : Nat} (hc : c < 256) : (0 ≤ sh_dI 0 c) ↔ sh_dg 0 c = true := by
  unfold sh_dI sh_dg
  by_cases g : 48 + 0 ≤ c ∧ c ≤ 57
  · rw [if_pos g, decide_eq_true g.1, decide_eq_true g.2]
    exact ⟨fun _ => rfl, fun _ => sh_ge (n := 0) (by omega) (by omega)⟩
  · rw [if_neg g]
    refine ⟨fun z => absurd z (by decide), fun z => ?_⟩
    rw [Bool.and_eq_true] at z
    exact absurd ⟨of_decide_eq_true z.1, of_decide_eq_true z.2⟩ g
theorem f_act_l (d x S : Nat) (G : Nat → Nat) (h : av_M) (hT : sh_TX x G h) (hS : S ≤ x) : ∀ T p due, p + T = S → due ≤ 3 → av_xp (d + 2) 120 17 [.ref 0, .int (nI S), .int (nI due), .int (nI p)] [] h = some (sh_az x S (sh_aw G T p due), 0, h) := by
  have hx := hT.1
  intro T
  induction T with
  | zero =>
    intro p due e hd
    have ed : (nI due = 0 ↔ due = 0) := nI_eq (b := 0) (by omega) (by omega)
    have ex : (nI x = nI S ↔ x = S) := nI_eq (by omega) (by omega)
    rw [eX6_badActSign_r0_17, if_pos (sh_ge (by omega) (by omega)), hT.2.1]
    show _ = some (sh_az x S (p, due), 0, h)
    unfold sh_az
    rw [if_neg (show ¬ p < S by omega)]
    by_cases q0 : due = 0
    · rw [if_pos (ed.mpr q0)]
      by_cases qx : x = S
      · rw [if_pos (ex.mpr qx), if_pos ⟨q0, qx⟩]
      · rw [if_neg (fun q => qx (ex.mp q)), if_neg (fun q => qx q.2)]
    · rw [if_neg (fun q => q0 (ed.mp q)), if_neg (fun q => q0 q.1)]
  | succ T ih =>
    intro p due e hd
    have hc := (hT.2.2 p (by omega)).2
    have hw := sh_wd3 (G p)
    rw [eX6_badActSign_r0_17, if_neg (sh_lt (by omega) (by omega)), sh_aw_s]
    by_cases q0 : due = 0
    · rw [if_pos (show nI due ≤ 0 by rw [q0]; decide), if_pos q0, c_atX (d + 1) x p G h hT (by omega)]
      simp only [Option.bind_some]
      rw [c_behind (d + 1) _ h hc]
      simp only [Option.bind_some, nI_1]
      by_cases qw : sh_wd (G p) = 0
      · rw [if_pos (by rw [qw]; rfl), if_pos qw]
        unfold sh_az
        rw [if_pos (by show p < S; omega)]
      · rw [if_neg (show ¬ nI (sh_wd (G p)) = 0 from fun q => qw ((nI_eq (b := 0) (by omega) (by omega)).mp q)), if_neg qw]
        exact ih (p + 1) _ (by omega) hw
    · rw [if_neg (show ¬ nI due ≤ 0 from sh_lt (k := 0) (by omega) (by omega)), if_neg q0, c_digX d x p G h hT (by omega)]
      simp only [Option.bind_some, nI_1]
      by_cases qd : sh_dg 0 (G p) = true
      · rw [if_pos ((sh_dI_ge hc).mpr qd), if_pos qd, sh_dec due (by omega) (by omega)]
        exact ih (p + 1) _ (by omega) (by omega)
      · rw [if_neg (fun q => qd ((sh_dI_ge hc).mp q)), if_neg qd]
        unfold sh_az
        rw [if_pos (by show p < S; omega)]
theorem sh_min60 {x : Nat} (hx : x ≤ 80) : av_min (nI x) 60 = nI (min x 60) := by
  unfold av_min
  by_cases q : 60 < x
  · rw [if_pos (show (60 : Int32) < nI x from nI_lt (a := 60) q (by omega)), show min x 60 = 60 by omega]; rfl
  · rw [if_neg (show ¬ (60 : Int32) < nI x from nI_nlt (a := 60) (by omega) (by omega)), show min x 60 = x by omega]
theorem c_badAct (d x : Nat) (G : Nat → Nat) (h : av_M) (hT : sh_TX x G h) : av_x (d + 3) 120 [.ref 0] h = some (sh_az x (min x 60) (sh_aw G (min x 60) 0 0), 0, h) := by
  rw [eX6_badActSign_r0_in, hT.2.1, sh_min60 hT.1]
  exact f_act_l d x (min x 60) G h hT (by omega) (min x 60) 0 0 (by omega) (by omega)
theorem sh_aw_ge (G : Nat → Nat) : ∀ T p due, p ≤ (sh_aw G T p due).1 ∧ (sh_aw G T p due).1 ≤ p + T := by
  intro T
  induction T with
  | zero => intro p due; exact ⟨Nat.le_refl _, Nat.le_refl _⟩
  | succ T ih =>
    intro p due
    rw [sh_aw_s]
    split
    · split
      · exact ⟨Nat.le_refl _, by show p ≤ _; omega⟩
      · have := ih (p + 1) (sh_wd (G p)); omega
    · split
      · have := ih (p + 1) (due - 1); omega
      · exact ⟨Nat.le_refl _, by show p ≤ _; omega⟩
