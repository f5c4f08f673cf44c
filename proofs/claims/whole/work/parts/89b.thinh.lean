/-! PURE, 81: calls: rule, 7: a thing -/
theorem sh_TM_h {x S p q : Nat} {G : Nat → Nat} {h h' : av_M} (hT : sh_TM x S p G h) (f : sh_RF h h') (hq : q ≤ S) (e : h' 44 11 = nI q) : sh_TM x S q G h' :=
  ⟨hT.1, hT.2.1, hq, by rw [f.2 12 (by decide) (by decide) (by decide)]; exact hT.2.2.2.1, e, by rw [f.1 50 (by decide) (by decide)]; exact hT.2.2.2.2.2⟩
theorem sh_nx3 {G : Nat → Nat} {S q n : Nat} {cm : Nat → Bool} {dg : Nat} (hg : q < S → G q < 256) (h : q < S → 48 ≤ G q ∧ G q ≤ 57 → ¬ (1 ≤ dg ∧ dg ≤ 2)) : sh_nx G S 3 q n cm dg := fun z => ⟨h z, fun y => by have := sh_yb3 (G q) (hg z); omega⟩
theorem t_thing (f x S p nest : Nat) (G : Nat → Nat) (o : List Nat) (h : av_M) (hS : S ≤ 40) (hn : nest ≤ 4) (hR : sh_RS x S p nest G o h)
    (IT : ∀ (h' : av_M), p + 1 ≤ S → sh_RS x S (p + 1) nest G o h' → sh_OUT x S 3 (p + 1) nest G o (av_x (f + 5) 186 [.ref 44] h') h')
    (IR : ∀ (h' : av_M), nest < 4 → p + 1 ≤ S → sh_RS x S (p + 1) (nest + 1) G o h' → sh_OUT x S 0 (p + 1) (nest + 1) G o (av_x (f + 5) 187 [.ref 44, .int 0] h') h') :
    sh_OUT x S 3 p nest G o (av_x (f + 6) 186 [.ref 44] h) h := by
  obtain ⟨hT, r13, r19, rls, rl⟩ := id hR
  obtain ⟨t1, t2, t3, t4, t5, t6⟩ := id hT
  have hG : ∀ j, j < S → G j < 256 := fun j hj => (t6 j (by omega)).2
  have tk : av_x (f + 5) 176 [.ref 44, .int 45] h = _ := t_takes (f + 3) x S p 45 G h (by decide) hT
  cases hd : (decide (p < S) && decide (G p = 45))
  · rw [hd, if_neg (by decide)] at tk
    have n45 : p < S → G p ≠ 45 := fun z1 z2 => by rw [decide_eq_true z1, decide_eq_true z2] at hd; cases hd
    have td := t_isDigit (f + 3) x S p G h hT
    cases hd2 : (decide (p < S) && sh_dg 0 (G p))
    · rw [hd2] at td
      have ndg : p < S → ¬ (48 ≤ G p ∧ G p ≤ 57) := fun z1 z2 => by
        rw [decide_eq_true z1, Bool.true_and] at hd2
        unfold sh_dg at hd2
        rw [decide_eq_true (show 48 + 0 ≤ G p by omega), decide_eq_true z2.2] at hd2
        cases hd2
      have t3' := t_takes3 (f + 4) x S p G h hT
      cases hd3 : (decide (p < S) && decide (sh_fx (G p) sh_L3 < 7))
      · rw [hd3] at t3'
        have nnm : p < S → sh_nm (G p) = false := fun z1 => by
          rw [decide_eq_true z1, Bool.true_and] at hd3
          cases e : sh_nm (G p) with
          | false => rfl
          | true => rw [decide_eq_true ((sh_fx3 _ (hG p z1)).1.mp e)] at hd3; cases hd3
        have ydn : p < S → (G p = 40 → ¬ nest < 4) → ∀ (oy w : List Nat) (cm : Nat → Bool) (dg : Nat), sh_yd (G p) (oy, w, nest, cm, dg, true) = none := fun z1 z2 oy w cm dg => by
          show (if G p = 45 then _ else if G p = 40 then (if nest < 4 then _ else none) else if 48 ≤ G p ∧ G p ≤ 57 then _ else if sh_nm (G p) = true then _ else none) = none
          rw [if_neg (n45 z1)]
          by_cases g : G p = 40
          · rw [if_pos g, if_neg (z2 g)]
          · rw [if_neg g, if_neg (ndg z1), nnm z1, if_neg (by decide)]
        have dead : ∀ E : Option av_R, (p < S → G p = 40 → ¬ nest < 4) → E = some (sh_i false, 0, h) → sh_OUT x S 3 p nest G o E h := by
          intro E z e
          refine ⟨false, p, [], h, e, sh_RF_r h, Nat.le_refl _, t3, t5, ⟨o.length, r19, Nat.le_refl _⟩, fun q => (nomatch q), fun _ oy w cm dg _ _ => ⟨_, sh_yq_0 _ _ _, ?_⟩⟩
          by_cases g : p < S
          · exact Or.inl ⟨g, ydn g (z g) oy w cm dg⟩
          · exact Or.inr ⟨by omega, Or.inl rfl⟩
        rw [eX7_readsThing_r44_in, tk]
        simp only [Option.bind_some]
        rw [if_pos (show sh_i false = 0 from rfl), td]
        simp only [Option.bind_some]
        rw [if_pos (show sh_i false = 0 from rfl), t3']
        show sh_OUT x S 3 p nest G o ((some ((-1 : Int32), (0 : Int64), h)).bind _) h
        simp only [Option.bind_some]
        rw [if_pos (show (-1 : Int32) < 0 by decide), r13]
        by_cases g4 : nest = 4
        · rw [if_pos (show nI nest = 4 by rw [g4]; rfl)]
          exact dead _ (fun _ _ => by omega) (by rw [sh_001]; rfl)
        · rw [if_neg (show ¬ nI nest = 4 from fun z => g4 ((nI_eq (b := 4) (by omega) (by decide)).mp z))]
          have tp : av_x (f + 5) 176 [.ref 44, .int 40] h = _ := t_takes (f + 3) x S p 40 G h (by decide) hT
          cases hd4 : (decide (p < S) && decide (G p = 40))
          · rw [hd4, if_neg (by decide)] at tp
            rw [tp]
            simp only [Option.bind_some]
            rw [if_pos (show sh_i false = 0 from rfl)]
            exact dead _ (fun z1 z2 => by rw [decide_eq_true z1, decide_eq_true z2] at hd4; cases hd4) (by rw [sh_001]; rfl)
          · rw [hd4, if_pos rfl] at tp
            simp only [Bool.and_eq_true, decide_eq_true_eq] at hd4
            obtain ⟨b1, b2⟩ := hd4
            have R1 : sh_RS x S (p + 1) (nest + 1) G o (av_u (av_u h 44 11 (nI (p + 1))) 44 13 (nI (nest + 1))) := ⟨⟨t1, t2, b1, t4, rfl, t6⟩, rfl, r19, rls, by omega⟩
            obtain ⟨b, q, C, h2, e2, f2, p2, q2, a2, ⟨c2, k2, l2⟩, ok2, bad2⟩ := IR _ (by omega) b1 R1
            have F2 : sh_RF h h2 := sh_RF_t (sh_RF_u (Or.inr (Or.inl rfl)) (sh_RF_u (Or.inl rfl) (sh_RF_r h))) f2
            have ydp : ∀ (oy w : List Nat) (cm : Nat → Bool) (dg : Nat), sh_yd (G p) (oy, w, nest, cm, dg, true) = some (oy, 40 :: w, nest + 1, sh_ub cm (nest + 1) false, dg, true) := fun oy w cm dg => by
              show (if G p = 45 then _ else if G p = 40 then (if nest < 4 then _ else none) else _) = _
              rw [if_neg (n45 b1), if_pos b2, if_pos (by omega)]
            have tb40 : ∀ w, sh_tb 0 (40 :: w) := fun w => Or.inr fun a z => by cases z; decide
            have cm0 : ∀ cm : Nat → Bool, (0 : Nat) = 0 → sh_ub cm (nest + 1) false (nest + 1) = false := fun cm _ => by unfold sh_ub; rw [if_pos rfl]
            rw [tp]
            simp only [Option.bind_some]
            rw [if_neg (show ¬ sh_i true = 0 by decide), show (av_u h 44 11 (nI (p + 1))) 44 13 + 1 = nI (nest + 1) by rw [show (av_u h 44 11 (nI (p + 1))) 44 13 = nI nest from r13, nI_1], e2]
            simp only [Option.bind_some]
            cases b with
            | false =>
              rw [if_pos (show sh_i false = 0 from rfl)]
              refine ⟨false, q, [], h2, by rw [sh_001]; rfl, F2, by omega, q2, a2, ⟨c2, k2, by omega⟩, fun z => (nomatch z), fun _ oy w cm dg _ _ => ?_⟩
              obtain ⟨s, s1, s2⟩ := bad2 rfl oy (40 :: w) (sh_ub cm (nest + 1) false) dg (tb40 w) (cm0 cm)
              exact ⟨s, sh_yq_t (sh_yq_1 (ydp oy w cm dg)) s1, s2⟩
            | true =>
              obtain ⟨R2, wl2, W2, len2⟩ := ok2 rfl
              obtain ⟨hT2, s13, s19, sls, sl⟩ := id R2
              rw [if_neg (show ¬ sh_i true = 0 by decide)]
              have tc : av_x (f + 5) 176 [.ref 44, .int 41] h2 = _ := t_takes (f + 3) x S q 41 G h2 (by decide) hT2
              cases hd5 : (decide (q < S) && decide (G q = 41))
              · rw [hd5, if_neg (by decide)] at tc
                rw [tc]
                simp only [Option.bind_some]
                rw [if_pos (show sh_i false = 0 from rfl)]
                refine ⟨false, q, [], h2, by rw [sh_001]; rfl, F2, by omega, q2, a2, ⟨c2, k2, by omega⟩, fun z => (nomatch z), fun _ oy w cm dg _ _ => ?_⟩
                obtain ⟨o', e, cm', dg', y1, y2, y3, y4, y5, y6⟩ := W2 oy (40 :: w) (sh_ub cm (nest + 1) false) dg (tb40 w) (cm0 cm)
                refine ⟨_, sh_yq_t (sh_yq_1 (ydp oy w cm dg)) y1, ?_⟩
                by_cases g : q < S
                · exact Or.inl ⟨g, sh_stop o' _ y6 g (hG q g) (Or.inl (fun z => by rw [decide_eq_true g, decide_eq_true z] at hd5; cases hd5))⟩
                · exact Or.inr ⟨by omega, Or.inr (show nest + 1 ≠ 0 by omega)⟩
              · rw [hd5, if_pos rfl] at tc
                simp only [Bool.and_eq_true, decide_eq_true_eq] at hd5
                obtain ⟨c1, c3⟩ := hd5
                rw [tc]
                simp only [Option.bind_some]
                rw [if_neg (show ¬ sh_i true = 0 by decide), show (av_u h2 44 11 (nI (q + 1))) 44 13 - 1 = nI nest by rw [show (av_u h2 44 11 (nI (q + 1))) 44 13 = nI (nest + 1) from s13, nI_pred]]
                refine ⟨true, q + 1, C, av_u (av_u h2 44 11 (nI (q + 1))) 44 13 (nI nest), by rw [sh_111]; rfl, sh_RF_u (Or.inr (Or.inl rfl)) (sh_RF_u (Or.inl rfl) F2), by omega, c1, rfl, ⟨c2, k2, by omega⟩, fun _ => ⟨⟨⟨hT2.1, hT2.2.1, c1, hT2.2.2.2.1, rfl, hT2.2.2.2.2.2⟩, rfl, s19, sls, by omega⟩, wl2, ?_, by omega⟩, fun z => (nomatch z)⟩
                intro oy w cm dg _ _
                obtain ⟨o', e, cm', dg', y1, y2, y3, y4, y5, y6⟩ := W2 oy (40 :: w) (sh_ub cm (nest + 1) false) dg (tb40 w) (cm0 cm)
                have ya := sh_yr_app 1 e (40 :: w) o' y2 (fun a z => by cases z; decide)
                have ydc : sh_yd (G q) (o', e ++ 40 :: w, nest + 1, cm', dg', false) = some (C ++ oy, w, nest, cm', 0, false) := by
                  show (if 48 ≤ G q ∧ G q ≤ 57 then _ else if G q = 41 then (if nest + 1 = 0 then none else some ((sh_yr 1 (e ++ 40 :: w) o').2, (sh_yr 1 (e ++ 40 :: w) o').1.tail, nest + 1 - 1, cm', 0, false)) else _) = _
                  rw [if_neg (by omega), if_pos c3, if_neg (by omega), ya, y3]
                  rfl
                refine ⟨C ++ oy, [], cm', 0, sh_yq_t (sh_yq_1 (ydp oy w cm dg)) (sh_yq_t y1 (sh_yq_1 ydc)), fun a z => absurd z List.not_mem_nil, rfl, fun i hi => ?_, fun _ => ?_, sh_nx3 (fun z => hG _ z) (fun _ _ => by omega)⟩
                · rw [y4 i (by omega)]
                  unfold sh_ub
                  rw [if_neg (by omega)]
                · rw [y4 nest (by omega)]
                  unfold sh_ub
                  rw [if_neg (by omega)]
      · rw [hd3] at t3'
        simp only [Bool.and_eq_true, decide_eq_true_eq] at hd3
        obtain ⟨b1, b2⟩ := hd3
        obtain ⟨m1, m2⟩ := sh_fx3 (G p) (hG p b1)
        have nm := m1.mpr b2
        have m2 := m2 nm
        have r19' : (av_u h 44 11 (nI (p + 1))) 44 19 = nI o.length := r19
        rw [eX7_readsThing_r44_in, tk]
        simp only [Option.bind_some]
        rw [if_pos (show sh_i false = 0 from rfl), td]
        simp only [Option.bind_some]
        rw [if_pos (show sh_i false = 0 from rfl), t3']
        show sh_OUT x S 3 p nest G o ((some (nI (sh_fx (G p) sh_L3), (0 : Int64), av_u h 44 11 (nI (p + 1)))).bind _) h
        simp only [Option.bind_some]
        rw [if_neg (nI_pos (by omega)), show (1000 : Int32) + nI (sh_fx (G p) sh_L3) = nI (sh_cc (1000 + G p)) by rw [m2]; exact nI_add 1000 _, t_codes (f + 4) o.length _ _ (by omega) r19']
        simp only [Option.bind_some]
        refine ⟨true, p + 1, [1000 + G p], _, by rw [sh_111]; rfl, sh_RF_u (Or.inr (Or.inr rfl)) (sh_RF_v (sh_RF_u (Or.inl rfl) (sh_RF_r h))), by omega, b1, rfl, ⟨o.length + 1, rfl, by omega⟩, fun _ => ⟨⟨⟨t1, t2, b1, t4, rfl, t6⟩, r13, rfl, sh_ls_u (g := sh_cc) rls, by show o.length + 1 ≤ p + 1; omega⟩, fun y hy => ⟨y, hy, sh_al_nm (hG p b1) nm (by have := sh_wl_le o y hy; omega)⟩, ?_, by show 0 + 1 + p ≤ p + 1; omega⟩, fun z => (nomatch z)⟩
        intro oy w cm dg _ _
        refine ⟨(1000 + G p) :: oy, [], cm, 0, sh_yq_1 ?_, fun a z => absurd z List.not_mem_nil, rfl, fun _ _ => rfl, fun _ => rfl, sh_nx3 (fun z => hG _ z) (fun _ _ => by omega)⟩
        show (if G p = 45 then _ else if G p = 40 then _ else if 48 ≤ G p ∧ G p ≤ 57 then _ else if sh_nm (G p) = true then some ((1000 + G p) :: oy, w, nest, cm, 0, false) else none) = _
        rw [if_neg (n45 b1), if_neg (fun z => by rw [z] at nm; cases nm), if_neg (ndg b1), if_pos nm]
        rfl
    · rw [hd2] at td
      simp only [Bool.and_eq_true, decide_eq_true_eq] at hd2
      obtain ⟨b1, b2⟩ := hd2
      obtain ⟨v, q, k, h1, e1, v1, f1, l1, l2, y1, y2⟩ := t_num3 (f + 2) x S p G h hT b1 b2
      have F1 := sh_RF_q f1
      have u19 : h1 44 19 = nI o.length := by rw [f1.2.1 19 (by decide)]; exact r19
      have u53 : h1 53 = h 53 := f1.1 53 (by decide)
      have cv : sh_cc v = v := by unfold sh_cc; rw [if_pos v1]
      have hT1 := sh_TM_h hT F1 l2 f1.2.2
      rw [eX7_readsThing_r44_in, tk]
      simp only [Option.bind_some]
      rw [if_pos (show sh_i false = 0 from rfl), td]
      simp only [Option.bind_some]
      rw [if_neg (show ¬ sh_i true = 0 by decide), e1]
      simp only [Option.bind_some]
      rw [t_codes (f + 4) o.length _ _ (by omega) u19]
      simp only [Option.bind_some]
      refine ⟨true, q, [v], _, by rw [sh_111]; rfl, sh_RF_u (Or.inr (Or.inr rfl)) (sh_RF_v F1), by omega, l2, f1.2.2, ⟨o.length + 1, rfl, by omega⟩, fun _ => ⟨⟨⟨hT1.1, hT1.2.1, l2, hT1.2.2.2.1, f1.2.2, hT1.2.2.2.2.2⟩, by show h1 44 13 = nI nest; rw [f1.2.1 13 (by decide)]; exact r13, rfl, ?_, by show o.length + 1 ≤ q; omega⟩, fun y hy => ⟨y, hy, ?_⟩, ?_, by show 0 + 1 + p ≤ q; omega⟩, fun z => (nomatch z)⟩
      · have := sh_ls_u (g := sh_cc) (a := v) rls
        rw [cv] at this
        show sh_ls (upd (h1 53) o.length (nI v)) sh_cc (v :: o)
        rw [u53]
        exact this
      · have := sh_n1000 v v1
        rw [cv]
        exact Or.inl ⟨Or.inl ⟨this.1, rfl, this.2⟩, by have := sh_wl_le o y hy; omega, rfl⟩
      · intro oy w cm dg _ _
        exact ⟨v :: oy, [], cm, k, y1 oy w nest cm dg, fun a z => absurd z List.not_mem_nil, rfl, fun _ _ => rfl, fun _ => rfl, sh_nx3 (fun z => hG _ z) y2⟩
  · rw [hd, if_pos rfl] at tk
    simp only [Bool.and_eq_true, decide_eq_true_eq] at hd
    obtain ⟨b1, b2⟩ := hd
    have R1 : sh_RS x S (p + 1) nest G o (av_u h 44 11 (nI (p + 1))) := ⟨⟨t1, t2, b1, t4, rfl, t6⟩, r13, r19, rls, by omega⟩
    obtain ⟨b, q, C, h2, e2, f2, p2, q2, a2, ⟨c2, k2, l2⟩, ok2, bad2⟩ := IT _ b1 R1
    have F2 : sh_RF h h2 := sh_RF_t (sh_RF_u (Or.inl rfl) (sh_RF_r h)) f2
    have ydp : ∀ (oy w : List Nat) (cm : Nat → Bool) (dg : Nat), sh_yd (G p) (oy, w, nest, cm, dg, true) = some (oy, 256 :: w, nest, cm, dg, true) := fun oy w cm dg => by
      show (if G p = 45 then _ else _) = _
      rw [if_pos b2]
    rw [eX7_readsThing_r44_in, tk]
    simp only [Option.bind_some]
    rw [if_neg (show ¬ sh_i true = 0 by decide), e2]
    simp only [Option.bind_some]
    rw [t_codes (f + 4) c2 _ _ (by omega) k2]
    simp only [Option.bind_some]
    refine ⟨b, q, 1256 :: C, av_u (av_u h2 53 c2 3000) 44 19 (nI (c2 + 1)), by rw [sh_ia], sh_RF_u (Or.inr (Or.inr rfl)) (sh_RF_v F2), by omega, q2, a2, ⟨c2 + 1, rfl, by omega⟩, fun z => ?_, fun z oy w cm dg _ _ => ?_⟩
    · obtain ⟨R2, wl2, W2, len2⟩ := ok2 z
      obtain ⟨hT2, s13, s19, sls, sl⟩ := id R2
      have ec : c2 = (C ++ o).length := (nI_eq (by omega) (by omega)).mp (k2.symm.trans s19)
      have lc : (C ++ o).length = C.length + o.length := List.length_append
      refine ⟨⟨⟨hT2.1, hT2.2.1, q2, hT2.2.2.2.1, a2, hT2.2.2.2.2.2⟩, s13, by rw [ec]; rfl, ?_, by show (C ++ o).length + 1 ≤ q; omega⟩, fun y hy => ⟨y + 1, wl2 y hy, Or.inr (Or.inl ⟨by decide, by rw [sh_cc1256]; decide, by omega, rfl⟩)⟩, ?_, by show C.length + 1 + p ≤ q; omega⟩
      · have := sh_ls_u (g := sh_cc) (a := 1256) sls
        rw [sh_cc1256] at this
        show sh_ls (upd (h2 53) c2 3000) sh_cc (1256 :: (C ++ o))
        rw [ec]
        exact this
      · intro oy w cm dg _ _
        obtain ⟨o', e, cm', dg', y1, y2, y3, y4, y5, y6⟩ := W2 oy (256 :: w) cm dg (Or.inl rfl) (fun z => (nomatch z))
        refine ⟨o', e ++ [256], cm', dg', sh_yq_t (sh_yq_1 (ydp oy w cm dg)) (by rw [List.append_assoc]; exact y1), fun a ha => ?_, by rw [sh_ff_app, y3]; rfl, y4, y5, y6⟩
        rcases List.mem_append.mp ha with z | z
        · exact y2 a z
        · rw [List.mem_singleton.mp z]; decide
    · obtain ⟨s, s1, s2⟩ := bad2 z oy (256 :: w) cm dg (Or.inl rfl) (fun z => (nomatch z))
      exact ⟨s, sh_yq_t (sh_yq_1 (ydp oy w cm dg)) s1, s2⟩
