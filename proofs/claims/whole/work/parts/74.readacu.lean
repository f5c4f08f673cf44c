/-! PURE, 64: calls: sailing, 3: an act in the reference, read -/
theorem sh_m1lt : (-1 : Int32) < 0 := by decide
theorem t_readsAct (d i x S p : Nat) (G : Nat → Nat) (h : av_M) (hi : i < 60) (hT : sh_TM x S p G h) (hp : p < S) (h27 : h 44 27 = nI i) : sh_RA S p i G h (av_x (d + 5) 215 [.ref 44] h) := by
  have hc : G p < 256 := (hT.2.2.2.2.2 _ (by have := hT.2.1; omega)).2
  obtain ⟨kw1, kw2, kw3, kw6⟩ := sh_kd_wd (G p) hc
  have k6 := sh_kd6 (G p)
  have hcs : ∀ j, j < S → G j < 256 := fun j hj => (hT.2.2.2.2.2 _ (by have := hT.2.1; omega)).2
  rw [eX7_readsAct_r44_in, t_takesK (d + 3) x S p G h hT hp, h27, sh_inb hi (by decide), nI_clamp (by omega)]
  simp only [cond_true]
  by_cases hk : sh_kd (G p) < 6
  · have hw0 : sh_wd (G p) ≠ 0 := by
      by_cases g : sh_kd (G p) < 3
      · rw [kw1 g]; decide
      · by_cases g5 : sh_kd (G p) = 5
        · rw [kw3 g5]; decide
        · rw [kw2 (by omega)]; decide
    rw [decide_eq_true hk, show sh_rd true (sh_kd (G p)) p h = some (nI (sh_kd (G p)), 0, av_u h 44 11 (nI (p + 1))) from rfl]
    simp only [Option.bind_some, av_us]
    rw [if_pos (show (0 : Int32) ≤ nI (sh_kd (G p)) from sh_ge (n := 0) (by omega) (by omega)), show (av_u h 44 11 (nI (p + 1))) 44 27 = nI i from h27, nI_1]
    have A2 : sh_AQ i (p + 1) h (av_u (av_u (av_u h 44 11 (nI (p + 1))) 57 i (nI (sh_kd (G p)))) 44 27 (nI (i + 1))) := sh_AQ_27 (sh_AQ_w7 (sh_AQ_p (sh_AQ_0 hT.2.2.2.2.1)))
    have T2 : sh_TM x S (p + 1) G (av_u (av_u (av_u h 44 11 (nI (p + 1))) 57 i (nI (sh_kd (G p)))) 44 27 (nI (i + 1))) := ⟨hT.1, hT.2.1, hp, hT.2.2.2.1, rfl, hT.2.2.2.2.2⟩
    have e27 : (av_u (av_u (av_u h 44 11 (nI (p + 1))) 57 i (nI (sh_kd (G p)))) 44 27 (nI (i + 1))) 44 27 = nI (i + 1) := rfl
    have e57 : (av_u (av_u (av_u h 44 11 (nI (p + 1))) 57 i (nI (sh_kd (G p)))) 44 27 (nI (i + 1))) 57 i = nI (sh_kd (G p)) := upd_s
    generalize av_u (av_u (av_u h 44 11 (nI (p + 1))) 57 i (nI (sh_kd (G p)))) 44 27 (nI (i + 1)) = M2 at *
    rw [t_number1 (d + 1) x S (p + 1) G M2 T2]
    cases hd : (decide (p + 1 < S) && sh_dg 0 (G (p + 1)))
    · rw [show sh_rd false (G (p + 1) - 48) (p + 1) M2 = some (-1, 0, M2) from rfl]
      simp only [Option.bind_some, av_us]
      rw [if_pos sh_m1lt, if_pos sh_m1lt, sh_001]
      refine ⟨false, p + 1, av_u M2 58 i (-1), rfl, sh_AQ_w8 A2, e27, hp, fun g => (nomatch g), fun _ => ?_⟩
      rw [sh_aw_n hp, if_pos rfl, if_neg hw0, sh_aw_x hp hw0 hd]
      exact ⟨rfl, Or.inr hw0⟩
    · have hd1 := hd
      rw [Bool.and_eq_true] at hd1
      obtain ⟨hd1, hd2⟩ := hd1
      have hd1 := of_decide_eq_true hd1
      have c1 := hcs (p + 1) hd1
      rw [show sh_rd true (G (p + 1) - 48) (p + 1) M2 = some (nI (G (p + 1) - 48), 0, av_u M2 44 11 (nI (p + 1 + 1))) from rfl]
      simp only [Option.bind_some, av_us]
      have nn : ¬ nI (G (p + 1) - 48) < 0 := nI_nlt (b := 0) (by omega) (by omega)
      rw [if_neg nn, show (av_u M2 44 11 (nI (p + 1 + 1))) 57 i = nI (sh_kd (G p)) from e57]
      have A3 : sh_AQ i (p + 1 + 1) h (av_u (av_u M2 44 11 (nI (p + 1 + 1))) 58 i (nI (G (p + 1) - 48))) := sh_AQ_w8 (sh_AQ_p A2)
      have T3 : sh_TM x S (p + 1 + 1) G (av_u (av_u M2 44 11 (nI (p + 1 + 1))) 58 i (nI (G (p + 1) - 48))) := sh_TM_p T2 hd1
      have f27 : (av_u (av_u M2 44 11 (nI (p + 1 + 1))) 58 i (nI (G (p + 1) - 48))) 44 27 = nI (i + 1) := e27
      have f57 : (av_u (av_u M2 44 11 (nI (p + 1 + 1))) 58 i (nI (G (p + 1) - 48))) 57 i = nI (sh_kd (G p)) := e57
      have f58 : (av_u (av_u M2 44 11 (nI (p + 1 + 1))) 58 i (nI (G (p + 1) - 48))) 58 i = nI (G (p + 1) - 48) := upd_s
      generalize av_u (av_u M2 44 11 (nI (p + 1 + 1))) 58 i (nI (G (p + 1) - 48)) = M3 at *
      have w1 : sh_aw G (S - p) p 0 = sh_aw G (S - (p + 1 + 1)) (p + 1 + 1) (sh_wd (G p) - 1) := by
        rw [sh_aw_n hp, if_pos rfl, if_neg hw0, sh_aw_d hd1 hw0 hd2]
      by_cases g3 : sh_kd (G p) < 3
      · rw [if_neg (show ¬ (3 : Int32) ≤ nI (sh_kd (G p)) from sh_lt (n := 3) g3 (by decide)), if_neg nn, sh_111]
        rw [kw1 g3] at w1
        refine ⟨true, p + 1 + 1, M3, rfl, A3, f27, T3.2.2.1, fun _ => ⟨by rw [kw1 g3], w1, hk, f57, f58, hd2, fun z => absurd z (by omega), fun z => absurd z (by omega)⟩, fun g => (nomatch g)⟩
      · rw [if_pos (show (3 : Int32) ≤ nI (sh_kd (G p)) from sh_ge (n := 3) (by omega) (by omega))]
        by_cases g5 : sh_kd (G p) = 5
        · rw [if_pos (show nI (sh_kd (G p)) = 5 by rw [g5]; rfl), t_two d x S (p + 1 + 1) G M3 T3]
          rw [kw3 g5] at w1
          cases hz : (decide (p + 1 + 1 < S) && sh_dg 0 (G (p + 1 + 1)))
          · rw [if_neg (by decide)]
            simp only [Option.bind_some, av_us]
            rw [if_pos sh_m1lt, sh_001]
            refine ⟨false, p + 1 + 1, av_u M3 59 i (-1), rfl, sh_AQ_w9 A3, f27, T3.2.2.1, fun g => (nomatch g), fun _ => ?_⟩
            rw [w1, sh_aw_x T3.2.2.1 (by decide) hz]
            exact ⟨rfl, Or.inr (show (3 - 1 : Nat) ≠ 0 by decide)⟩
          · have hz1 := hz
            rw [Bool.and_eq_true] at hz1
            obtain ⟨hz1, hz2⟩ := hz1
            have hz1 := of_decide_eq_true hz1
            have c2 := hcs (p + 1 + 1) hz1
            have w2 := w1.trans (sh_aw_d hz1 (by decide) hz2)
            rw [if_pos rfl]
            cases hy : (decide (p + 1 + 1 + 1 < S) && sh_dg 0 (G (p + 1 + 1 + 1)))
            · rw [if_neg (by decide)]
              simp only [Option.bind_some, av_us]
              rw [if_pos sh_m1lt, sh_001]
              refine ⟨false, p + 1 + 1 + 1, av_u (av_u M3 44 11 (nI (p + 1 + 1 + 1))) 59 i (-1), rfl, sh_AQ_w9 (sh_AQ_p A3), f27, hz1, fun g => (nomatch g), fun _ => ?_⟩
              rw [w2, sh_aw_x hz1 (by decide) hy]
              exact ⟨rfl, Or.inr (show (3 - 1 - 1 : Nat) ≠ 0 by decide)⟩
            · have hy1 := hy
              rw [Bool.and_eq_true] at hy1
              obtain ⟨hy1, hy2⟩ := hy1
              have hy1 := of_decide_eq_true hy1
              have c3 := hcs (p + 1 + 1 + 1) hy1
              have w3 := w2.trans (sh_aw_d hy1 (by decide) hy2)
              rw [if_pos rfl]
              simp only [Option.bind_some, av_us]
              rw [if_neg (show ¬ nI (10 * (G (p + 1 + 1) - 48) + (G (p + 1 + 1 + 1) - 48)) < 0 from nI_nlt (b := 0) (by omega) (by omega)), sh_111]
              exact ⟨true, p + 1 + 1 + 1 + 1, _, rfl, sh_AQ_w9 (sh_AQ_p (sh_AQ_p A3)), f27, hy1, fun _ => ⟨by rw [kw3 g5], w3, hk, f57, f58, hd2, fun z => absurd z (by omega), fun _ => ⟨hz2, hy2, upd_s⟩⟩, fun g => (nomatch g)⟩
        · rw [if_neg (show ¬ nI (sh_kd (G p)) = 5 from fun z => g5 ((nI_eq (b := 5) (by omega) (by omega)).mp z)), t_number1 (d + 1) x S (p + 1 + 1) G M3 T3]
          rw [kw2 (by omega)] at w1
          cases hz : (decide (p + 1 + 1 < S) && sh_dg 0 (G (p + 1 + 1)))
          · rw [show sh_rd false (G (p + 1 + 1) - 48) (p + 1 + 1) M3 = some (-1, 0, M3) from rfl]
            simp only [Option.bind_some, av_us]
            rw [if_pos sh_m1lt, sh_001]
            refine ⟨false, p + 1 + 1, av_u M3 59 i (-1), rfl, sh_AQ_w9 A3, f27, T3.2.2.1, fun g => (nomatch g), fun _ => ?_⟩
            rw [w1, sh_aw_x T3.2.2.1 (by decide) hz]
            exact ⟨rfl, Or.inr (show (2 - 1 : Nat) ≠ 0 by decide)⟩
          · have hz1 := hz
            rw [Bool.and_eq_true] at hz1
            obtain ⟨hz1, hz2⟩ := hz1
            have hz1 := of_decide_eq_true hz1
            have c2 := hcs (p + 1 + 1) hz1
            have w2 := w1.trans (sh_aw_d hz1 (by decide) hz2)
            rw [show sh_rd true (G (p + 1 + 1) - 48) (p + 1 + 1) M3 = some (nI (G (p + 1 + 1) - 48), 0, av_u M3 44 11 (nI (p + 1 + 1 + 1))) from rfl]
            simp only [Option.bind_some, av_us]
            rw [if_neg (show ¬ nI (G (p + 1 + 1) - 48) < 0 from nI_nlt (b := 0) (by omega) (by omega)), sh_111]
            exact ⟨true, p + 1 + 1 + 1, _, rfl, sh_AQ_w9 (sh_AQ_p A3), f27, hz1, fun _ => ⟨by rw [kw2 (by omega)], w2, hk, f57, f58, hd2, fun _ => ⟨hz2, upd_s⟩, fun z => absurd z g5⟩, fun g => (nomatch g)⟩
  · rw [decide_eq_false hk, show sh_rd false (sh_kd (G p)) p h = some (-1, 0, h) from rfl]
    simp only [Option.bind_some, av_us]
    rw [if_neg (show ¬ (0 : Int32) ≤ -1 by decide), if_pos sh_m1lt, if_pos sh_m1lt, sh_001, h27, nI_1]
    refine ⟨false, p, _, rfl, sh_AQ_w8 (sh_AQ_27 (sh_AQ_w7 (sh_AQ_0 hT.2.2.2.2.1))), rfl, by omega, fun g => (nomatch g), fun _ => ?_⟩
    rw [sh_aw_n hp, if_pos rfl, if_pos (kw6 (by omega))]
    exact ⟨rfl, Or.inl hp⟩
