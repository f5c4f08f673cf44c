/-! PURE, 79: calls: rule, 5: signs of a rule in the reference -/
def sh_fx (c : Nat) : List Nat → Nat
  | [] => 0
  | a :: l => if a = c then 0 else sh_fx c l + 1
theorem t_takesL (d x S p a n : Nat) (G : Nat → Nat) (h : av_M) (hT : sh_TM x S p G h) (hp : p < S) (hn : n < 80)
    (heq : ∀ a2 : Int32, av_xp d 178 2 [.ref 44, .ref a, .int a2] [] h = (if nI n ≤ a2 then some (((-1) : Int32), (0 : Int64), h) else (if (h 44 12) ≤ (h 44 11) then some (((-1) : Int32), (0 : Int64), h) else (cond (av_inb a2 n) ((cond (av_inb (h 44 11) 80) ((if (av_txc a (Int32.toNatClampNeg a2)) = (h 50 (Int32.toNatClampNeg (h 44 11))) then some ((a2 : Int32), (0 : Int64), (av_u h 44 11 ((h 44 11) + 1))) else av_xp d 178 2 [.ref 44, .ref a, .int (a2 + 1)] [] h)) none)) none)))) :
    ∀ (L : List Nat) (k : Nat), k + L.length = n → (∀ j, j < L.length → av_txc a (k + j) = nI (L.getD j 0) ∧ L.getD j 0 < 256) → av_xp d 178 2 [.ref 44, .ref a, .int (nI k)] [] h = sh_rd (decide (sh_fx (G p) L < L.length)) (k + sh_fx (G p) L) p h := by
  obtain ⟨t1, t2, t3, t4, t5, t6⟩ := id hT
  obtain ⟨g1, g2⟩ := t6 p (by omega)
  intro L
  induction L with
  | nil =>
    intro k hk _
    rw [heq, if_pos (nI_le (by have : k = n := hk; omega) (by omega))]
    rfl
  | cons c L ih =>
    intro k hk hL
    have hk : k + (L.length + 1) = n := hk
    obtain ⟨c1, c2⟩ := hL 0 (by simp)
    have c1 : av_txc a k = nI c := c1
    have c2 : c < 256 := c2
    have ih := ih (k + 1) (by omega) (fun j hj => by
      have := hL (j + 1) (by simp; omega)
      rw [show k + 1 + j = k + (j + 1) by omega]
      exact this)
    rw [heq, if_neg (sh_lt (show k < n by omega) (by omega)), t4, t5, if_neg (sh_lt hp (by omega)), sh_inb (show k < n by omega) (by omega), sh_inb (show p < 80 by omega) (by decide), cond_true, cond_true, nI_clamp (by omega), nI_clamp (by omega), g1, c1, nI_1, nI_1, ih]
    show _ = sh_rd (decide ((if c = G p then 0 else sh_fx (G p) L + 1) < L.length + 1)) (k + if c = G p then 0 else sh_fx (G p) L + 1) p h
    by_cases e : c = G p
    · rw [if_pos (by rw [e]), if_pos e, decide_eq_true (by omega)]
      rfl
    · rw [if_neg (fun z => e ((nI_eq (by omega) (by omega)).mp z)), if_neg e, show k + 1 + sh_fx (G p) L = k + (sh_fx (G p) L + 1) by omega]
      congr 1
      rw [decide_eq_decide]
      omega
def sh_L3 : List Nat := [107, 115, 114, 112, 118, 99, 110]
def sh_L4 : List Nat := [60, 62, 61]
def sh_L5 : List Nat := [43, 45]
def sh_L6 : List Nat := [42, 47]
theorem t_takes3 (d x S p : Nat) (G : Nat → Nat) (h : av_M) (hT : sh_TM x S p G h) : av_x (d + 1) 178 [.ref 44, .ref 93] h = sh_rd (decide (p < S) && decide (sh_fx (G p) sh_L3 < 7)) (sh_fx (G p) sh_L3) p h := by
  rw [eX7_takesOf_r44_r93_in]
  by_cases g : p < S
  · rw [decide_eq_true g, Bool.true_and]
    have := t_takesL d x S p 93 7 G h hT g (by decide) (fun a2 => eX7_takesOf_r44_r93_2 d h a2) sh_L3 0 rfl (by decide)
    rw [Nat.zero_add] at this
    exact this
  · rw [decide_eq_false g, Bool.false_and]
    obtain ⟨t1, t2, t3, t4, t5, t6⟩ := hT
    rw [eX7_takesOf_r44_r93_2, t4, t5, if_neg (by decide), if_pos (nI_le (by omega) (by omega))]
    rfl
theorem t_takes4 (d x S p : Nat) (G : Nat → Nat) (h : av_M) (hT : sh_TM x S p G h) : av_x (d + 1) 178 [.ref 44, .ref 94] h = sh_rd (decide (p < S) && decide (sh_fx (G p) sh_L4 < 3)) (sh_fx (G p) sh_L4) p h := by
  rw [eX7_takesOf_r44_r94_in]
  by_cases g : p < S
  · rw [decide_eq_true g, Bool.true_and]
    have := t_takesL d x S p 94 3 G h hT g (by decide) (fun a2 => eX7_takesOf_r44_r94_2 d h a2) sh_L4 0 rfl (by decide)
    rw [Nat.zero_add] at this
    exact this
  · rw [decide_eq_false g, Bool.false_and]
    obtain ⟨t1, t2, t3, t4, t5, t6⟩ := hT
    rw [eX7_takesOf_r44_r94_2, t4, t5, if_neg (by decide), if_pos (nI_le (by omega) (by omega))]
    rfl
theorem t_takes5 (d x S p : Nat) (G : Nat → Nat) (h : av_M) (hT : sh_TM x S p G h) : av_x (d + 1) 178 [.ref 44, .ref 95] h = sh_rd (decide (p < S) && decide (sh_fx (G p) sh_L5 < 2)) (sh_fx (G p) sh_L5) p h := by
  rw [eX7_takesOf_r44_r95_in]
  by_cases g : p < S
  · rw [decide_eq_true g, Bool.true_and]
    have := t_takesL d x S p 95 2 G h hT g (by decide) (fun a2 => eX7_takesOf_r44_r95_2 d h a2) sh_L5 0 rfl (by decide)
    rw [Nat.zero_add] at this
    exact this
  · rw [decide_eq_false g, Bool.false_and]
    obtain ⟨t1, t2, t3, t4, t5, t6⟩ := hT
    rw [eX7_takesOf_r44_r95_2, t4, t5, if_neg (by decide), if_pos (nI_le (by omega) (by omega))]
    rfl
theorem t_takes6 (d x S p : Nat) (G : Nat → Nat) (h : av_M) (hT : sh_TM x S p G h) : av_x (d + 1) 178 [.ref 44, .ref 96] h = sh_rd (decide (p < S) && decide (sh_fx (G p) sh_L6 < 2)) (sh_fx (G p) sh_L6) p h := by
  rw [eX7_takesOf_r44_r96_in]
  by_cases g : p < S
  · rw [decide_eq_true g, Bool.true_and]
    have := t_takesL d x S p 96 2 G h hT g (by decide) (fun a2 => eX7_takesOf_r44_r96_2 d h a2) sh_L6 0 rfl (by decide)
    rw [Nat.zero_add] at this
    exact this
  · rw [decide_eq_false g, Bool.false_and]
    obtain ⟨t1, t2, t3, t4, t5, t6⟩ := hT
    rw [eX7_takesOf_r44_r96_2, t4, t5, if_neg (by decide), if_pos (nI_le (by omega) (by omega))]
    rfl
/-- a step of the class, told by the reference -/
def sh_cc (a : Nat) : Nat := if a < 1000 then a else if a = 1107 then 1000 else if a = 1115 then 1001 else if a = 1114 then 1002 else if a = 1112 then 1003 else if a = 1118 then 1004 else if a = 1099 then 1005 else if a = 1110 then 1006 else if a = 1060 then 2000 else if a = 1062 then 2001 else if a = 1061 then 2002 else if a = 1043 then 2003 else if a = 1045 then 2004 else if a = 1042 then 2005 else if a = 1047 then 2006 else 3000
theorem sh_fx3 : ∀ c, c < 256 → (sh_nm c = true ↔ sh_fx c sh_L3 < 7) ∧ (sh_nm c = true → sh_cc (1000 + c) = 1000 + sh_fx c sh_L3) := by decide +kernel
theorem sh_fx4 : ∀ c, c < 256 → (sh_yb c = 1 ↔ sh_fx c sh_L4 < 3) ∧ (sh_yb c = 1 → sh_cc (1000 + c) = 2000 + sh_fx c sh_L4 + 0) := by decide +kernel
theorem sh_fx5 : ∀ c, c < 256 → (sh_yb c = 2 ↔ sh_fx c sh_L5 < 2) ∧ (sh_yb c = 2 → sh_cc (1000 + c) = 2000 + sh_fx c sh_L5 + 3) := by decide +kernel
theorem sh_fx6 : ∀ c, c < 256 → (sh_yb c = 3 ↔ sh_fx c sh_L6 < 2) ∧ (sh_yb c = 3 → sh_cc (1000 + c) = 2000 + sh_fx c sh_L6 + 5) := by decide +kernel
theorem t_codes (d c : Nat) (v : Int32) (h : av_M) (hc : c < 80) (e : h 44 19 = nI c) : av_x (d + 1) 185 [.ref 44, .int v] h = some (0, 0, av_u (av_u h 53 c v) 44 19 (nI (c + 1))) := by
  rw [eX7_codes_r44_in, e, sh_inb hc (by decide), cond_true, nI_clamp (by omega), nI_1]
def sh_RQ (q : Nat) (h h' : av_M) : Prop := sh_fr [44] h h' ∧ (∀ j, j ≠ 11 → h' 44 j = h 44 j) ∧ h' 44 11 = nI q
theorem sh_RQ_p {q q' : Nat} {h h' : av_M} (H : sh_RQ q (av_u h 44 11 (nI q')) h') : sh_RQ q h h' := by
  obtain ⟨a1, a2, a3⟩ := H
  refine ⟨sh_fr_tr (sh_fr_u (by decide) (sh_fr_refl _ _)) a1 (fun _ z => z), ?_, a3⟩
  intro j hj
  rw [a2 j hj]
  show upd (h 44) 11 _ j = _
  unfold upd
  rw [if_neg hj]
/-- a number's further digits, on both sides -/
theorem t_numL (d x S : Nat) (G : Nat → Nat) : ∀ t k p v (h : av_M), k + t = 3 → 1 ≤ k → v < 10 ^ k → sh_TM x S p G h →
    ∃ v' p' k' h', av_xp (d + 2) 179 13 [.ref 44, .int 3, .int (nI v), .int (nI k)] [] h = some (nI v', 0, h') ∧ v' < 1000 ∧ sh_RQ p' h h' ∧ p ≤ p' ∧ p' ≤ S ∧ (∀ (o w : List Nat) (n : Nat) (cm : Nat → Bool), sh_yq G p p' (v :: o, w, n, cm, k, false) (v' :: o, w, n, cm, k', false)) ∧ (p' < S → 48 ≤ G p' ∧ G p' ≤ 57 → ¬ (1 ≤ k' ∧ k' ≤ 2)) := by
  intro t
  induction t with
  | zero =>
    intro k p v h hk h1 hv hT
    have hk : k = 3 := hk
    subst hk
    refine ⟨v, p, 3, h, ?_, hv, ⟨sh_fr_refl _ _, fun _ _ => rfl, hT.2.2.2.2.1⟩, Nat.le_refl _, hT.2.2.1, fun _ _ _ _ => sh_yq_0 _ _ _, fun _ _ => by omega⟩
    rw [eX7_number_r44_13, if_pos (show (3 : Int32) ≤ nI 3 by decide)]
  | succ t ih =>
    intro k p v h hk h1 hv hT
    have e1 := t_isDigit d x S p G h hT
    rw [eX7_number_r44_13, if_neg (show ¬ (3 : Int32) ≤ nI k from sh_lt (n := 3) (by omega) (by decide)), e1]
    simp only [Option.bind_some]
    cases hd : (decide (p < S) && sh_dg 0 (G p))
    · refine ⟨v, p, k, h, rfl, ?_, ⟨sh_fr_refl _ _, fun _ _ => rfl, hT.2.2.2.2.1⟩, Nat.le_refl _, hT.2.2.1, fun _ _ _ _ => sh_yq_0 _ _ _, fun z1 z2 => ?_⟩
      · have : k = 1 ∨ k = 2 := by omega
        rcases this with e | e <;> subst e <;> omega
      · rw [decide_eq_true z1, Bool.true_and] at hd
        unfold sh_dg at hd
        rw [decide_eq_true (show 48 + 0 ≤ G p by omega), decide_eq_true z2.2] at hd
        cases hd
    · unfold sh_dg at hd
      simp only [Bool.and_eq_true, decide_eq_true_eq] at hd
      obtain ⟨g1, g2⟩ := hT.2.2.2.2.2 p (by have := hT.2.1; omega)
      have h12 := hT.2.1
      have h80 := hT.1
      obtain ⟨v', p', k', h', q1, q2, q3, q4, q5, q6, q7⟩ := ih (k + 1) (p + 1) (10 * v + (G p - 48)) (av_u h 44 11 (nI (p + 1))) (by omega) (by omega) (by rw [Nat.pow_succ]; omega) (sh_TM_p hT hd.1)
      refine ⟨v', p', k', h', ?_, q2, sh_RQ_p q3, by omega, q5, ?_, q7⟩
      · rw [if_neg (show ¬ sh_i true = 0 by decide), hT.2.2.2.2.1, sh_inb (show p < 80 by omega) (by decide), cond_true, nI_clamp (by omega), g1, nI_1, nI_1, show (10 : Int32) * nI v = nI (10 * v) from nI_mul 10 v, nI_add, show nI (10 * v + G p) - 48 = nI (10 * v + (G p - 48)) by rw [show nI (10 * v + G p) - 48 = nI (10 * v + G p - 48) from nI_sub (b := 48) (by omega), show 10 * v + G p - 48 = 10 * v + (G p - 48) by omega]]
        exact q1
      · intro o w n cm
        refine sh_yq_t (sh_yq_1 ?_) (q6 o w n cm)
        show (if 48 ≤ G p ∧ G p ≤ 57 then (if 1 ≤ k ∧ k ≤ 2 ∧ 1 ≤ (v :: o).length then some (sh_y10 (G p) (v :: o), w, n, cm, k + 1, false) else none) else _) = _
        rw [if_pos ⟨by omega, hd.2.2⟩, if_pos ⟨h1, by omega, by simp⟩]
        rfl
theorem t_num3 (d x S p : Nat) (G : Nat → Nat) (h : av_M) (hT : sh_TM x S p G h) (hp : p < S) (hd : sh_dg 0 (G p) = true) :
    ∃ v' p' k' h', av_x (d + 3) 179 [.ref 44, .int 3] h = some (nI v', 0, h') ∧ v' < 1000 ∧ sh_RQ p' h h' ∧ p + 1 ≤ p' ∧ p' ≤ S ∧ (∀ (o w : List Nat) (n : Nat) (cm : Nat → Bool) (dg : Nat), sh_yq G p p' (o, w, n, cm, dg, true) (v' :: o, w, n, cm, k', false)) ∧ (p' < S → 48 ≤ G p' ∧ G p' ≤ 57 → ¬ (1 ≤ k' ∧ k' ≤ 2)) := by
  have e1 := t_isDigit d x S p G h hT
  rw [decide_eq_true hp, hd] at e1
  unfold sh_dg at hd
  simp only [Bool.and_eq_true, decide_eq_true_eq] at hd
  obtain ⟨g1, g2⟩ := hT.2.2.2.2.2 p (by have := hT.2.1; omega)
  have h12 := hT.2.1
  have h80 := hT.1
  obtain ⟨v', p', k', h', q1, q2, q3, q4, q5, q6, q7⟩ := t_numL d x S G 2 1 (p + 1) (G p - 48) (av_u h 44 11 (nI (p + 1))) (by omega) (by omega) (by omega) (sh_TM_p hT hp)
  refine ⟨v', p', k', h', ?_, q2, sh_RQ_p q3, q4, q5, ?_, q7⟩
  · rw [eX7_number_r44_in, e1]
    simp only [Option.bind_some, Bool.true_and]
    rw [if_neg (show ¬ sh_i true = 0 by decide), eX7_number_r44_13, if_neg (by decide), e1]
    simp only [Option.bind_some, Bool.true_and]
    rw [if_neg (show ¬ sh_i true = 0 by decide), hT.2.2.2.2.1, sh_inb (show p < 80 by omega) (by decide), cond_true, nI_clamp (by omega), g1, nI_1, show (10 : Int32) * 0 + nI (G p) - 48 = nI (G p - 48) by rw [show (10 : Int32) * 0 = nI 0 from rfl, nI_add, Nat.zero_add]; exact nI_sub (b := 48) (by omega)]
    exact q1
  · intro o w n cm dg
    refine sh_yq_t (sh_yq_1 ?_) (q6 o w n cm)
    show (if G p = 45 then _ else if G p = 40 then _ else if 48 ≤ G p ∧ G p ≤ 57 then some ((G p - 48) :: o, w, n, cm, 1, false) else _) = _
    rw [if_neg (by omega), if_neg (by omega), if_pos ⟨by omega, hd.2⟩]
