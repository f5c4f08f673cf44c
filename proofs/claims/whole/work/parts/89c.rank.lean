/-! PURE, 82: calls: rule, 8: ranks -/
def sh_off (r : Nat) : Nat := if r = 0 then 0 else if r = 1 then 3 else 5
theorem t_rkE (f r : Nat) (hr : r < 3) (z : Value) (hz : z = .null ∨ ∃ y, z = .int y) (h : av_M) : av_xp f 187 24 [.ref 44, .int (nI r), .int 1, z] [] h = ((av_x f 178 [.ref 44, .ref (94 + r)] h).bind fun q => if 0 ≤ q.1 then ((av_x f 187 [.ref 44, .int (nI (r + 1))] q.2.2).bind fun q2 => if q2.1 = 0 then some ((0 : Int32), (0 : Int64), q2.2.2) else ((av_x f 185 [.ref 44, .int ((2000 + q.1) + nI (sh_off r))] q2.2.2).bind fun q3 => av_xp f 187 24 [.ref 44, .int (nI r), .int (sh_i (decide (0 < r))), .int q.1] [] q3.2.2)) else some ((1 : Int32), (0 : Int64), q.2.2)) := by
  have e : r = 0 ∨ r = 1 ∨ r = 2 := by omega
  have a1 : ((1 : Int32) = 0) = False := eq_false (by decide)
  have b0 : (nI 0 = (0 : Int32)) = True := eq_true (by decide)
  have b1 : (nI 1 = (0 : Int32)) = False := eq_false (by decide)
  have b2 : (nI 2 = (0 : Int32)) = False := eq_false (by decide)
  have c1 : (nI 1 = (1 : Int32)) = True := eq_true (by decide)
  have c2 : (nI 2 = (1 : Int32)) = False := eq_false (by decide)
  have d0 : (nI 0 ≤ (0 : Int32)) = True := eq_true (by decide)
  have d1 : (nI 1 ≤ (0 : Int32)) = False := eq_false (by decide)
  have d2 : (nI 2 ≤ (0 : Int32)) = False := eq_false (by decide)
  rcases e with rfl | rfl | rfl
  · rcases hz with rfl | ⟨y, rfl⟩
    · rw [eX7_readsRank_r44_24]
      simp only [a1, b0, d0, if_true, if_false, sh_001, sh_111, nI_1]
      rfl
    · rw [eX7_readsRank_r44_24_2]
      simp only [a1, b0, d0, if_true, if_false, sh_001, sh_111, nI_1]
      rfl
  · rcases hz with rfl | ⟨y, rfl⟩
    · rw [eX7_readsRank_r44_24]
      simp only [a1, b1, c1, d1, if_true, if_false, sh_001, sh_111, nI_1]
      rfl
    · rw [eX7_readsRank_r44_24_2]
      simp only [a1, b1, c1, d1, if_true, if_false, sh_001, sh_111, nI_1]
      rfl
  · rcases hz with rfl | ⟨y, rfl⟩
    · rw [eX7_readsRank_r44_24]
      simp only [a1, b2, c2, d2, if_true, if_false, sh_001, sh_111, nI_1]
      rfl
    · rw [eX7_readsRank_r44_24_2]
      simp only [a1, b2, c2, d2, if_true, if_false, sh_001, sh_111, nI_1]
      rfl
theorem t_opr (d x S q r : Nat) (hr : r < 3) (G : Nat → Nat) (h : av_M) (hT : sh_TM x S q G h) :
    (∃ k, q < S ∧ sh_yb (G q) = r + 1 ∧ av_x (d + 1) 178 [.ref 44, .ref (94 + r)] h = some (nI k, 0, av_u h 44 11 (nI (q + 1))) ∧ sh_cc (1000 + G q) = 2000 + k + sh_off r ∧ k < 3) ∨ ((q < S → sh_yb (G q) ≠ r + 1) ∧ av_x (d + 1) 178 [.ref 44, .ref (94 + r)] h = some (-1, 0, h)) := by
  have e : r = 0 ∨ r = 1 ∨ r = 2 := by omega
  have hg : q < S → G q < 256 := fun z => (hT.2.2.2.2.2 q (by have := hT.2.1; omega)).2
  rcases e with rfl | rfl | rfl
  · have t := t_takes4 d x S q G h hT
    cases hd : (decide (q < S) && decide (sh_fx (G q) sh_L4 < 3))
    · rw [hd] at t
      refine Or.inr ⟨fun z1 z2 => ?_, t⟩
      rw [decide_eq_true z1, decide_eq_true ((sh_fx4 _ (hg z1)).1.mp z2)] at hd
      cases hd
    · rw [hd] at t
      simp only [Bool.and_eq_true, decide_eq_true_eq] at hd
      have a := (sh_fx4 _ (hg hd.1)).1.mpr hd.2
      exact Or.inl ⟨_, hd.1, a, t, (sh_fx4 _ (hg hd.1)).2 a, hd.2⟩
  · have t := t_takes5 d x S q G h hT
    cases hd : (decide (q < S) && decide (sh_fx (G q) sh_L5 < 2))
    · rw [hd] at t
      refine Or.inr ⟨fun z1 z2 => ?_, t⟩
      rw [decide_eq_true z1, decide_eq_true ((sh_fx5 _ (hg z1)).1.mp z2)] at hd
      cases hd
    · rw [hd] at t
      simp only [Bool.and_eq_true, decide_eq_true_eq] at hd
      have a := (sh_fx5 _ (hg hd.1)).1.mpr hd.2
      exact Or.inl ⟨_, hd.1, a, t, (sh_fx5 _ (hg hd.1)).2 a, by omega⟩
  · have t := t_takes6 d x S q G h hT
    cases hd : (decide (q < S) && decide (sh_fx (G q) sh_L6 < 2))
    · rw [hd] at t
      refine Or.inr ⟨fun z1 z2 => ?_, t⟩
      rw [decide_eq_true z1, decide_eq_true ((sh_fx6 _ (hg z1)).1.mp z2)] at hd
      cases hd
    · rw [hd] at t
      simp only [Bool.and_eq_true, decide_eq_true_eq] at hd
      have a := (sh_fx6 _ (hg hd.1)).1.mpr hd.2
      exact Or.inl ⟨_, hd.1, a, t, (sh_fx6 _ (hg hd.1)).2 a, by omega⟩
theorem sh_OUT_h {x S r p nest : Nat} {G : Nat → Nat} {o : List Nat} {E : Option av_R} {h0 h : av_M} (f : sh_RF h0 h) (H : sh_OUT x S r p nest G o E h) : sh_OUT x S r p nest G o E h0 := by
  obtain ⟨b, q, C, h', a1, a2, a3⟩ := H
  exact ⟨b, q, C, h', a1, sh_RF_t f a2, a3⟩
def sh_LW (G : Nat → Nat) (S r p q nest : Nat) (C : List Nat) : Prop := ∀ (oy w : List Nat) (cm : Nat → Bool) (dg : Nat), sh_tb r w → (r = 0 → cm nest = false) →
  ∃ (o' e : List Nat) (cm' : Nat → Bool) (dg' : Nat), sh_yq G p q (oy, w, nest, cm, dg, true) (o', e ++ w, nest, cm', dg', false) ∧ (∀ a ∈ e, r + 1 ≤ sh_yb a) ∧ sh_ff e o' = C ++ oy ∧ (∀ i, i < nest → cm' i = cm i) ∧ (1 ≤ r → cm' nest = cm nest) ∧ (r = 0 → cm' nest = false) ∧ sh_nx G S (r + 1) q nest cm' dg'
/-- the class takes a sign of rank r -/
theorem sh_opY {G : Nat → Nat} {S r p q nest : Nat} {C : List Nat} (hr : r < 3) (W : sh_LW G S r p q nest C) (hg : G q < 256) (hq : q < S) (hb : sh_yb (G q) = r + 1) (oy w : List Nat) (cm : Nat → Bool) (dg : Nat) (h1 : sh_tb r w) (h2 : r = 0 → cm nest = false) :
    ∃ (cm2 : Nat → Bool) (dg2 : Nat), sh_yq G p (q + 1) (oy, w, nest, cm, dg, true) (C ++ oy, G q :: w, nest, cm2, dg2, true) ∧ sh_tb (r + 1) (G q :: w) ∧ (∀ i, i < nest → cm2 i = cm i) ∧ (1 ≤ r → cm2 nest = cm nest) ∧ (r = 0 → cm2 nest = true) := by
  obtain ⟨o', e, cm', dg', y1, y2, y3, y4, y5, y6, y7⟩ := W oy w cm dg h1 h2
  have hw : ∀ a, w.head? = some a → sh_yb a < r + 1 := h1.resolve_left (by omega)
  have ya := sh_yr_app (r + 1) e w o' y2 hw
  have nd : ¬ (48 ≤ G q ∧ G q ≤ 57) := fun z => by
    have : ∀ c, c < 256 → 48 ≤ c ∧ c ≤ 57 → sh_yb c = 0 := by decide +kernel
    rw [this _ hg z] at hb
    omega
  have n41 : G q ≠ 41 := fun z => by rw [z] at hb; have : sh_yb 41 = 0 := by decide
                                     omega
  refine ⟨if sh_yb (G q) = 1 then sh_ub cm' nest true else cm', dg', sh_yq_t y1 (sh_yq_1 ?_), Or.inr fun a z => ?_, fun i hi => ?_, fun z => ?_, fun z => ?_⟩
  · show (if 48 ≤ G q ∧ G q ≤ 57 then _ else if G q = 41 then _ else if sh_yb (G q) = 0 then none else if sh_yb (G q) = 1 ∧ cm' nest = true then none else some ((sh_yr (sh_yb (G q)) (e ++ w) o').2, G q :: (sh_yr (sh_yb (G q)) (e ++ w) o').1, nest, if sh_yb (G q) = 1 then sh_ub cm' nest true else cm', dg', true)) = _
    rw [if_neg nd, if_neg n41, if_neg (by omega), if_neg (fun z => by rw [y6 (by omega)] at z; cases z.2)]
    have e1 : sh_yr (sh_yb (G q)) (e ++ w) o' = (w, C ++ oy) := by rw [hb, ya, y3]
    rw [e1]
  · have : G q = a := Option.some.inj z
    rw [← this]
    omega
  · rw [← y4 i hi]
    by_cases g : sh_yb (G q) = 1
    · rw [if_pos g]; unfold sh_ub; rw [if_neg (by omega)]
    · rw [if_neg g]
  · rw [if_neg (by omega)]; exact y5 z
  · rw [if_pos (by omega)]; unfold sh_ub; rw [if_pos rfl]
theorem t_rankL (f x S p nest r : Nat) (G : Nat → Nat) (o : List Nat) (hS : S ≤ 40) (hr : r < 3)
    (IH : ∀ (q : Nat) (o' : List Nat) (h' : av_M), p ≤ q → q ≤ S → sh_RS x S q nest G o' h' → sh_OUT x S (r + 1) q nest G o' (av_x (f + 5) 187 [.ref 44, .int (nI (r + 1))] h') h') :
    ∀ t q C (z : Value) (h : av_M), S ≤ q + t → p ≤ q → q ≤ S → (z = .null ∨ ∃ y, z = .int y) → sh_RS x S q nest G (C ++ o) h → (∀ y, sh_wl o y → sh_wl (C ++ o) (y + 1)) → sh_LW G S r p q nest C → C.length + p ≤ q → sh_OUT x S r p nest G o (av_xp (f + 5) 187 24 [.ref 44, .int (nI r), .int 1, z] [] h) h := by
  intro t
  induction t with
  | zero =>
    intro q C z h ht hp hq hz hR hwl W hl
    obtain ⟨hT, r13, r19, rls, rl⟩ := id hR
    have lc : (C ++ o).length = C.length + o.length := List.length_append
    rw [t_rkE _ r hr z hz]
    rcases t_opr (f + 4) x S q r hr G h hT with ⟨k, k1, -⟩ | ⟨k1, k2⟩
    · omega
    · rw [k2]
      simp only [Option.bind_some]
      rw [if_neg (by decide)]
      refine ⟨true, q, C, h, rfl, sh_RF_r h, hp, hq, hT.2.2.2.2.1, ⟨_, r19, by omega⟩, fun _ => ⟨hR, hwl, fun oy w cm dg a1 a2 => ?_, hl⟩, fun z => (nomatch z)⟩
      obtain ⟨o', e, cm', dg', y1, y2, y3, y4, y5, y6, y7⟩ := W oy w cm dg a1 a2
      exact ⟨o', e, cm', dg', y1, y2, y3, y4, y5, fun z => by omega⟩
  | succ t ih =>
    intro q C z h ht hp hq hz hR hwl W hl
    obtain ⟨hT, r13, r19, rls, rl⟩ := id hR
    have lc : (C ++ o).length = C.length + o.length := List.length_append
    rw [t_rkE _ r hr z hz]
    rcases t_opr (f + 4) x S q r hr G h hT with ⟨k, k1, kb, k2, k3, k4⟩ | ⟨k1, k2⟩
    · have hg : G q < 256 := (hT.2.2.2.2.2 q (by have := hT.2.1; omega)).2
      rw [k2]
      simp only [Option.bind_some]
      rw [if_pos (show (0 : Int32) ≤ nI k from nI_le (a := 0) (by omega) (by omega))]
      have R1 : sh_RS x S (q + 1) nest G (C ++ o) (av_u h 44 11 (nI (q + 1))) := ⟨⟨hT.1, hT.2.1, k1, hT.2.2.2.1, rfl, hT.2.2.2.2.2⟩, r13, r19, rls, by omega⟩
      obtain ⟨b, q2, C2, h2, e2, f2, p2, l2, a2, ⟨c2, m2, n2⟩, ok2, bad2⟩ := IH (q + 1) (C ++ o) _ (by omega) k1 R1
      have F2 : sh_RF h h2 := sh_RF_t (sh_RF_u (Or.inl rfl) (sh_RF_r h)) f2
      rw [e2]
      simp only [Option.bind_some]
      cases b with
      | false =>
        rw [if_pos (show sh_i false = 0 from rfl)]
        refine ⟨false, q2, [], h2, rfl, F2, by omega, l2, a2, ⟨c2, m2, by omega⟩, fun z => (nomatch z), fun _ oy w cm dg a1 a3 => ?_⟩
        obtain ⟨cm2, dg2, y1, y2, y3, y4, y5⟩ := sh_opY hr W hg k1 kb oy w cm dg a1 a3
        obtain ⟨s, s1, s2⟩ := bad2 rfl (C ++ oy) (G q :: w) cm2 dg2 y2 (fun z => (nomatch z))
        exact ⟨s, sh_yq_t y1 s1, s2⟩
      | true =>
        obtain ⟨R2, wl2, W2, len2⟩ := ok2 rfl
        obtain ⟨hT2, s13, s19, sls, sl⟩ := id R2
        have lc2 : (C2 ++ (C ++ o)).length = C2.length + (C ++ o).length := List.length_append
        have lc3 : (C2 ++ C).length = C2.length + C.length := List.length_append
        rw [if_neg (show ¬ sh_i true = 0 by decide), show (2000 : Int32) + nI k + nI (sh_off r) = nI (sh_cc (1000 + G q)) by rw [k3, ← nI_add, ← nI_add]; rfl, t_codes (f + 4) (C2 ++ (C ++ o)).length _ h2 (by omega) s19]
        simp only [Option.bind_some]
        generalize hH : av_u (av_u h2 53 (C2 ++ (C ++ o)).length (nI (sh_cc (1000 + G q)))) 44 19 (nI ((C2 ++ (C ++ o)).length + 1)) = H
        have eC : ((1000 + G q) :: (C2 ++ C)) ++ o = (1000 + G q) :: (C2 ++ (C ++ o)) := by rw [List.cons_append, List.append_assoc]
        have FH : sh_RF h H := by rw [← hH]; exact sh_RF_u (Or.inr (Or.inr rfl)) (sh_RF_v F2)
        have RH : sh_RS x S q2 nest G (((1000 + G q) :: (C2 ++ C)) ++ o) H := by
          rw [eC, ← hH]
          exact ⟨⟨hT2.1, hT2.2.1, l2, hT2.2.2.2.1, a2, hT2.2.2.2.2.2⟩, s13, rfl, sh_ls_u (g := sh_cc) sls, by show (C2 ++ (C ++ o)).length + 1 ≤ q2; omega⟩
        have wlH : ∀ y, sh_wl o y → sh_wl (((1000 + G q) :: (C2 ++ C)) ++ o) (y + 1) := fun y hy => by
          rw [eC]
          exact ⟨y + 1 + 1, wl2 _ (hwl y hy), sh_al_op hg (by omega) (by omega)⟩
        have way : ∀ (oy w : List Nat) (cm : Nat → Bool) (dg : Nat), sh_tb r w → (r = 0 → cm nest = false) →
            ∃ (o' e : List Nat) (cm' : Nat → Bool) (dg' : Nat), sh_yq G p q2 (oy, w, nest, cm, dg, true) (o', e ++ w, nest, cm', dg', false) ∧ (∀ a ∈ e, r + 1 ≤ sh_yb a) ∧ sh_ff e o' = ((1000 + G q) :: (C2 ++ C)) ++ oy ∧ (∀ i, i < nest → cm' i = cm i) ∧ (1 ≤ r → cm' nest = cm nest) ∧ (r = 0 → cm' nest = true) ∧ sh_nx G S (r + 1) q2 nest cm' dg' := by
          intro oy w cm dg a1 a3
          obtain ⟨cm2, dg2, y1, y2, y3, y4, y5⟩ := sh_opY hr W hg k1 kb oy w cm dg a1 a3
          obtain ⟨o', e, cm', dg', w1, w2, w3, w4, w5, w6⟩ := W2 (C ++ oy) (G q :: w) cm2 dg2 y2 (fun z => (nomatch z))
          refine ⟨o', e ++ [G q], cm', dg', sh_yq_t y1 (by rw [List.append_assoc]; exact w1), fun a ha => ?_, by rw [sh_ff_app, w3, List.cons_append, List.append_assoc], fun i hi => (w4 i hi).trans (y3 i hi), fun z => (w5 (by omega)).trans (y4 z), fun z => (w5 (by omega)).trans (y5 z), w6⟩
          rcases List.mem_append.mp ha with z | z
          · have := w2 a z; omega
          · rw [List.mem_singleton.mp z]; omega
        have lenH : ((1000 + G q) :: (C2 ++ C)).length + p ≤ q2 := by show (C2 ++ C).length + 1 + p ≤ q2; omega
        have r19H : H 44 19 = nI ((C2 ++ (C ++ o)).length + 1) := by rw [← hH]; rfl
        by_cases g0 : r = 0
        · rw [decide_eq_false (show ¬ 0 < r by omega), show av_xp (f + 5) 187 24 [.ref 44, .int (nI r), .int (sh_i false), .int (nI k)] [] H = some (1, 0, H) by rw [eX7_readsRank_r44_24_2, if_pos (show sh_i false = 0 from rfl), sh_111]]
          refine ⟨true, q2, (1000 + G q) :: (C2 ++ C), H, rfl, FH, by omega, l2, RH.1.2.2.2.2.1, ⟨_, r19H, by omega⟩, fun _ => ⟨RH, wlH, fun oy w cm dg a1 a3 => ?_, lenH⟩, fun z => (nomatch z)⟩
          obtain ⟨o', e, cm', dg', y1, y2, y3, y4, y5, y6, y7⟩ := way oy w cm dg a1 a3
          refine ⟨o', e, cm', dg', y1, y2, y3, y4, y5, fun z => ⟨(y7 z).1, fun z2 => ?_⟩⟩
          have y72 := (y7 z).2
          by_cases g1 : r + 1 + 1 ≤ sh_yb (G q2)
          · exact y72 g1
          · exact ⟨by omega, y6 g0⟩
        · rw [decide_eq_true (show 0 < r by omega)]
          refine sh_OUT_h FH (ih q2 _ (.int (nI k)) H (by omega) (by omega) l2 (Or.inr ⟨_, rfl⟩) RH wlH ?_ lenH)
          intro oy w cm dg a1 a3
          obtain ⟨o', e, cm', dg', y1, y2, y3, y4, y5, y6, y7⟩ := way oy w cm dg a1 a3
          exact ⟨o', e, cm', dg', y1, y2, y3, y4, y5, fun z => absurd z g0, y7⟩
    · rw [k2]
      simp only [Option.bind_some]
      rw [if_neg (by decide)]
      refine ⟨true, q, C, h, rfl, sh_RF_r h, hp, hq, hT.2.2.2.2.1, ⟨_, r19, by omega⟩, fun _ => ⟨hR, hwl, fun oy w cm dg a1 a2 => ?_, hl⟩, fun z => (nomatch z)⟩
      obtain ⟨o', e, cm', dg', y1, y2, y3, y4, y5, y6, y7⟩ := W oy w cm dg a1 a2
      refine ⟨o', e, cm', dg', y1, y2, y3, y4, y5, fun z => ⟨(y7 z).1, fun z2 => ?_⟩⟩
      have := k1 z
      exact (y7 z).2 (by omega)
