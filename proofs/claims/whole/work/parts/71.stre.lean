/-! PURE, 61: calls: streamers, the relation -/
theorem sh_R0_tx {N n : Nat} {r : Nat → Int32} {h h' : av_M} (hf : sh_fr [1, 44, 51] h h') (hj : ∀ j, j ∉ [0, 10, 11, 12, 13, 15] → h' 44 j = h 44 j) (h1 : h' 1 1 = 0) (h10 : h' 44 10 = 0) (H : sh_R0 N n r h) : sh_R0 N n r h' := by
  obtain ⟨pA, pB, pX, pU, pK, pF, pH, pS, pN⟩ := H
  refine ⟨?_, ?_, ?_, ?_, ?_, ?_, ?_, ?_, ?_⟩
  · exact sh_PA_s (hf _ (by decide)) (hf _ (by decide)) (hf _ (by decide)) (hf _ (by decide)) (hf _ (by decide)) (hf _ (by decide)) (hf _ (by decide)) (hf _ (by decide)) (hf _ (by decide)) (hf _ (by decide)) (hj _ (by decide)) pA
  · exact sh_PB_s (hf _ (by decide)) (hf _ (by decide)) (hf _ (by decide)) (hj _ (by decide)) pB
  · exact ⟨0, by omega, h1, h10, fun j hj => absurd hj (by omega)⟩
  · exact sh_PU_s (by rw [hf 27 (by decide)]) (by rw [hf 27 (by decide)]) (hf _ (by decide)) (hj _ (by decide)) (hf _ (by decide)) pU
  · exact sh_PK_s (by rw [hf 27 (by decide)]) (hf _ (by decide)) (hj _ (by decide)) (hf _ (by decide)) (hf _ (by decide)) (hf _ (by decide)) pK
  · exact sh_PF_s (hf _ (by decide)) (hf _ (by decide)) (hf _ (by decide)) (hf _ (by decide)) (hj _ (by decide)) (hf _ (by decide)) (hf _ (by decide)) (hf _ (by decide)) pF
  · exact sh_PH_s (hf _ (by decide)) (hf _ (by decide)) (hf _ (by decide)) (hj _ (by decide)) (hf _ (by decide)) (hf _ (by decide)) pH
  · exact sh_PS_s (hf _ (by decide)) (hf _ (by decide)) (hf _ (by decide)) (hf _ (by decide)) (hj _ (by decide)) (hf _ (by decide)) (hf _ (by decide)) (hf _ (by decide)) pS
  · exact sh_PN_s (by rw [hf 0 (by decide)]) (hf _ (by decide)) pN
theorem sh_kn_up {n m : Nat} {p : Int32} (hn : n ≤ 7) (hm : n ≤ m) (h7 : m ≤ 7) (h : sh_kn n p = true) : sh_kn m p = true := by
  obtain ⟨k, hk, rfl⟩ := sh_kn_of hn h
  unfold sh_kn
  rw [decide_eq_true (show (0 : Int32) ≤ nI k from sh_ge (n := 0) (by omega) (by omega)), decide_eq_true (nI_lt (show k < m by omega) (by omega))]
  rfl
theorem sh_C1_B {n L x : Nat} {G : Nat → Nat} {T : Nat → Int32} (H : sh_LG n L x G) (hT : ∀ j, j < n → sh_B 0 99 (T j)) : ∀ j, j < n + L → sh_B 0 99 (sh_C1 n G T 1 j) := by
  intro j hj
  unfold sh_C1
  by_cases g : j < n
  · rw [if_pos g]; exact hT j g
  · rw [if_neg g]
    have := sh_LG_1 H (l := j - n) (by omega)
    exact sh_B_nI (N := 99) (by omega) (by omega)
theorem sh_R0_new {N n L x : Nat} {G : Nat → Nat} {r : Nat → Int32} {h h3 : av_M} (hL : sh_LG n L x G) (f : sh_fr [1, 5, 6, 7, 8, 9, 10, 27, 44, 46, 47, 48, 51] h h3) (hj : ∀ j, j ∉ [0, 3, 4, 10, 11, 12, 13, 15, 22] → h3 44 j = h 44 j) (h1 : h3 1 1 = 0) (h10 : h3 44 10 = 0) (h4 : h3 44 4 = h 44 4 + 1) (h22 : h3 44 22 = 0) (h27 : h3 27 2 = h 27 2 ∧ h3 27 3 = 0 ∧ h3 27 4 = 0) (s1 : sh_SL1 n L G r (h 46) (h 47) h3) (s2 : sh_SL2 n L G r (h 46) (h 47) h3) (H : sh_R0 N n r h) : sh_R0 (N + 1) (n + L) (sh_rN n G r L) h3 := by
  obtain ⟨pA, pB, pX, pU, pK, pF, pH, pS, pN⟩ := H
  have hn : n ≤ 7 := pA.1
  have hL7 := hL.2.1
  refine ⟨?_, ?_, ?_, ?_, ?_, ?_, ?_, ?_, ?_⟩
  · obtain ⟨p1, p2, p3, p4, p5, p6, p7, p8⟩ := pA
    obtain ⟨a1, a2, a3, a4, a5⟩ := s1
    obtain ⟨b1, b2, b3, b4⟩ := s2
    refine ⟨hL7, a1, a2, a3, b1, b2, ?_, sh_G_N hL p8 L (Nat.le_refl _)⟩
    intro j hj
    rw [a4 j hj, a5 j hj, b3 j hj, b4 j hj]
    exact ⟨rfl, rfl, sh_C1_B hL (fun j hj => (p7 j hj).2.2) j hj⟩
  · exact sh_PB_s (f _ (by decide)) (f _ (by decide)) (f _ (by decide)) (hj _ (by decide)) pB
  · exact ⟨0, by omega, h1, h10, fun j hj => absurd hj (by omega)⟩
  · obtain ⟨a, u, R, ⟨m1, m2, m3, m4, m5⟩, _, _⟩ := pU
    exact ⟨a, 0, R, ⟨m1, by omega, by rw [h27.1]; exact m3, h27.2.1, fun i hi => absurd hi (by omega)⟩, ⟨by omega, h22, fun i hi => absurd hi (by omega)⟩, fun i hi => absurd hi (by omega)⟩
  · obtain ⟨c, w, K, c1, c2, c3⟩ := pK
    refine ⟨c + 1, w, K, by omega, by rw [h4, c2, nI_1], ?_⟩
    intro p hp
    obtain ⟨w1, w2, w3, w4, w5⟩ := c3 p hp
    rw [f 73 (by decide), f 74 (by decide), h27.2.2, b_0]
    exact ⟨by omega, w2, w3, ⟨fun g => (nomatch g), fun g => absurd g.2 (by omega)⟩, fun g => (nomatch g)⟩
  · obtain ⟨s, q1, q2, q3, q4, q5⟩ := pF
    refine ⟨s, q1, by rw [f 30 (by decide)]; exact q2, by rw [f 30 (by decide)]; exact q3, by rw [hj 28 (by decide)]; exact q4, ?_⟩
    intro i hi
    rw [f 31 (by decide), f 32 (by decide), f 33 (by decide), f 60 (by decide), f 61 (by decide), f 62 (by decide)]
    obtain ⟨g1, g2, g3, g4, g5⟩ := q5 i hi
    exact ⟨g1, g2, g3, sh_kn_up hn (by omega) hL7 g4, g5⟩
  · exact sh_PH_s (f _ (by decide)) (f _ (by decide)) (f _ (by decide)) (hj _ (by decide)) (f _ (by decide)) (f _ (by decide)) pH
  · exact sh_PS_s (f _ (by decide)) (f _ (by decide)) (f _ (by decide)) (f _ (by decide)) (hj _ (by decide)) (f _ (by decide)) (f _ (by decide)) (f _ (by decide)) pS
  · exact sh_PN_s (by rw [f 0 (by decide)]) (f _ (by decide)) pN
theorem c_streamers : sh_P 54 184 [] := sh_p fun d N n r h _ h0 => by
  obtain ⟨pA, pB, pX, pU, pK, pF, pH, pS, pN⟩ := id h0
  obtain ⟨a1, a2, a3, a4, a5, a6, a7, a8⟩ := id pA
  obtain ⟨x, hx, x1, x2, x3⟩ := id pX
  obtain ⟨G, hG⟩ : ∃ G : Nat → Nat, G = fun j => (h 50 j).toNatClampNeg := ⟨_, rfl⟩
  have g50 : ∀ j, j < x → h 50 j = nI (G j) ∧ G j < 256 := by
    intro j hj
    obtain ⟨c, c1, c2, c3⟩ := sh_B_nat (N := 255) (x3 j hj).2
    have : G j = c := by rw [hG]; show (h 50 j).toNatClampNeg = c; rw [c3, nI_clamp (by omega)]
    rw [this]
    exact ⟨c3, by omega⟩
  have hTX : sh_TX x G h := ⟨hx, x1, fun j hj => ⟨(x3 j hj).1.trans (g50 j hj).1, (g50 j hj).2⟩⟩
  obtain ⟨q, hq⟩ : ∃ q, q = sh_sc (fun p => sh_fz n p (G p)) (min x 48) 0 := ⟨_, rfl⟩
  have hqS : q ≤ min x 48 := by
    have := (sh_sc_le (fun p => sh_fz n p (G p)) (min x 48) 0).2
    rw [hq]; omega
  have hqo : ∀ j, j < q → sh_fz n j (G j) = true := fun j hj => sh_sc_ok (fun p => sh_fz n p (G p)) (min x 48) 0 j (by omega) (by rw [← hq]; exact hj)
  have hb : av_x (d + 99) 115 [.ref 0] h = some (if sh_gq x q = true ∧ q = min x 48 ∧ x ≤ 48 then -1 else nI q, 0, h) := by
    rw [c_badLine (d + 95) x n G h a1 a2 hTX, ← hq, sh_bd_eq (good := sh_gq x q) rfl hqS (fun g1 g2 => by
      unfold sh_gq at g1
      have := of_decide_eq_true g1
      omega) (fun g => by
      unfold sh_gq at g
      have := of_decide_eq_false g
      omega) (fun g => by unfold sh_gq; exact decide_eq_true (Or.inl g))]
  by_cases hs : sh_gq x q = true ∧ q = min x 48 ∧ x ≤ 48
  · rw [if_pos hs] at hb
    by_cases hx0 : x = 0
    · subst hx0
      obtain ⟨h2, e2, f2, k2, t2⟩ := t_run0 (d + 93) (av_u h 1 1 0) x2
      refine ⟨0, av_u h 1 1 0, h2, ?_, e2, ⟨n, r, sh_R0_up (by omega) (sh_R0_tx (sh_fr_tr (sh_fr_u (a := 1) (k := 1) (v := 0) (by decide) (sh_fr_refl _ _)) (sh_fr_up f2 (by decide)) (fun _ q => q)) (fun j hj => k2 j hj) (by rw [f2 1 (by decide)]; rfl) t2 h0)⟩, by rw [f2 3 (by decide)]; rfl, by rw [f2 4 (by decide)]; rfl, k2 1 (by decide), by rw [f2 45 (by decide)]; rfl⟩
      rw [eX6_streamers_r0_in, hb]
      simp only [Option.bind_some]
      rw [if_neg (by decide), eX6_addLines_r0_in, x1, if_pos (show nI 0 ≤ 0 by decide), mX6_addLines_r0_19 _ _ _ _ _ _ _ (Or.inl ⟨rfl, rfl, rfl, rfl⟩), x1, if_pos (show nI 0 ≤ 0 by decide)]
      simp only [Option.bind_some]
      rw [if_pos (by decide)]
      rfl
    · have hxp : 0 < x := by omega
      have hq6 : q % 7 = 6 := by
        have := of_decide_eq_true (show decide (x = 0 ∨ q % 7 = 6) = true from hs.1)
        omega
      obtain ⟨L, hLe⟩ : ∃ L, L = (x + 1) / 7 := ⟨_, rfl⟩
      have hqx : q = x := by omega
      have hLG : sh_LG n L x G := by
        refine ⟨by omega, ?_, fun j hj => hqo j (by omega)⟩
        have := hqo (7 * (L - 1)) (by omega)
        unfold sh_fz at this
        rw [if_pos (by omega), show 7 * (L - 1) / 7 = L - 1 by omega, Bool.and_eq_true] at this
        have := of_decide_eq_true this.1
        omega
      obtain ⟨h1, e1, f1, s1⟩ := f_adds_l (d + 95) n L x G r (h 46) (h 47) hLG L 0 (av_u (av_u h 27 3 0) 27 4 0) .null .null .null .null (by omega) (Or.inl ⟨rfl, rfl, rfl, rfl⟩) hTX ⟨a2, a3, a4, fun j hj => by
        unfold sh_C1
        rw [if_pos (by omega)]
        exact (a7 j (by omega)).1, fun j hj => by
        unfold sh_C1
        rw [if_pos (by omega)]
        exact (a7 j (by omega)).2.1⟩
      have f01 : sh_fr [1, 5, 6, 7, 8, 9, 10, 27, 44, 46, 47, 48, 51] h (av_u h1 1 1 0) := sh_fr_u (by decide) (sh_fr_tr (sh_fr_u (a := 27) (k := 4) (v := 0) (by decide) (sh_fr_u (a := 27) (k := 3) (v := 0) (by decide) (sh_fr_refl _ _))) (sh_fr_up f1 (by decide)) (fun _ q => q))
      have f44 : (av_u h1 1 1 0) 44 = h 44 := by rw [show (av_u h1 1 1 0) 44 = h1 44 from rfl, f1 44 (by decide)]; rfl
      have e50 : (av_u h1 1 1 0) 50 = h 50 := f01 50 (by decide)
      obtain ⟨h2, e2, f2, k2, t2, w2⟩ := t_run (d + 93) n x q G (av_u h1 1 1 0) hq hx hxp a1 (by rw [f44]; exact a5) (by rw [f44]; exact x2) (by rw [e50]; exact g50)
      obtain ⟨w3, w4⟩ := w2 hs.1
      rw [hqx, ← hLe] at w3 w4
      have e46 : h2 46 = h 46 := by rw [f2 46 (by decide)]; rw [show (av_u h1 1 1 0) 46 = h1 46 from rfl, f1 46 (by decide)]; rfl
      have e47 : h2 47 = h 47 := by rw [f2 47 (by decide)]; rw [show (av_u h1 1 1 0) 47 = h1 47 from rfl, f1 47 (by decide)]; rfl
      have e48 : h2 48 = h 48 := by rw [f2 48 (by decide)]; rw [show (av_u h1 1 1 0) 48 = h1 48 from rfl, f1 48 (by decide)]; rfl
      obtain ⟨h3, e3, f3, s3, u3, v3, k3⟩ := t_adds_l (d + 98) n L G r (h 46) (h 47) (nI x) (sh_i (sh_gq x q)) 0 0 hLG.2.1 (by omega) L 0 h2 (by omega) w3 w4 ⟨by rw [k2 3 (by decide), f44]; exact a5, by rw [show sh_rN n G r 0 = r from rfl]; intro i hi; rw [e48]; exact a6 i hi, fun j hj => by
        unfold sh_C1
        rw [if_pos (by omega), e46], fun j hj => by
        unfold sh_C1
        rw [if_pos (by omega), e47]⟩
      have f03 : sh_fr [1, 5, 6, 7, 8, 9, 10, 27, 44, 46, 47, 48, 51] h h3 := sh_fr_tr f01 (sh_fr_tr (sh_fr_up f2 (by decide)) (sh_fr_up f3 (by decide)) (fun _ q => q)) (fun _ q => q)
      have f13 : ∀ b, b ∉ [1, 44, 46, 47, 48, 51] → h3 b = h1 b := by
        intro b hb
        simp only [List.mem_cons, List.not_mem_nil, or_false, not_or] at hb
        rw [f3 b (by simp; omega), f2 b (by simp; omega)]
        exact av_u_ne hb.1
      refine ⟨nI L, av_u h1 1 1 0, h3, ?_, ?_, ⟨n + L, sh_rN n G r L, sh_R0_new hLG f03 ?_ ?_ ?_ ?_ u3 ⟨?_, ?_, ?_⟩ ?_ s3 h0⟩, by rw [f03 3 (by decide)], f03 4 (by decide), ?_, f03 45 (by decide)⟩
      · rw [eX6_streamers_r0_in, hb]
        simp only [Option.bind_some]
        rw [if_neg (by decide), eX6_addLines_r0_in, x1, if_neg (show ¬ nI x ≤ 0 from sh_lt (k := 0) hxp (by omega)), eX1_loseAll_r27_in]
        simp only [Option.bind_some]
        have e1' : av_xp (d + 98) 117 19 [.ref 0, .int 0, .null, .null, .null, .null] [] (av_u (av_u h 27 3 0) 27 4 0) = _ := e1
        rw [e1']
        simp only [Option.bind_some]
        rw [if_pos (by decide), nI_1, show nI (x + 1) / 7 = nI ((x + 1) / 7) from nI_div (x + 1) (b := 7) (by omega) (by omega) (by omega), ← hLe]
      · rw [e2, if_pos hs]
        exact e3
      · intro j hj
        simp only [List.mem_cons, List.not_mem_nil, or_false, not_or] at hj
        rw [k3 j (by omega) (by omega) (by omega), k2 j (by simp; omega), f44]
      · rw [f3 1 (by decide), f2 1 (by decide)]; rfl
      · rw [k3 10 (by decide) (by decide) (by decide)]; exact t2
      · rw [v3, k2 4 (by decide), f44]
      · rw [f13 27 (by decide), f1 27 (by decide)]; rfl
      · rw [f13 27 (by decide), f1 27 (by decide)]; rfl
      · rw [f13 27 (by decide), f1 27 (by decide)]; rfl
      · obtain ⟨z1, z2, z3, z4, z5⟩ := s1
        refine ⟨by rw [f13 5 (by decide)]; exact z1, by rw [f13 5 (by decide)]; exact z2, ?_, by rw [f13 6 (by decide)]; exact z4, by rw [f13 7 (by decide)]; exact z5⟩
        unfold sh_SV at z3 ⊢
        rw [f13 5 (by decide), show h3 (5 + 3) = h1 (5 + 3) from f13 8 (by decide), show h3 (5 + 4) = h1 (5 + 4) from f13 9 (by decide), show h3 (5 + 5) = h1 (5 + 5) from f13 10 (by decide), show h3 (5 + 6) = h1 (5 + 6) from f13 11 (by decide)]
        exact z3
      · rw [k3 1 (by decide) (by decide) (by decide), k2 1 (by decide), f44]
  · rw [if_neg hs] at hb
    have hxp : 0 < x := by
      rcases Nat.eq_zero_or_pos x with g | g
      · exact absurd ⟨decide_eq_true (Or.inl g), by omega, by omega⟩ hs
      · exact g
    obtain ⟨h2, e2, f2, k2, t2, _⟩ := t_run (d + 93) n x q G (av_u h 1 1 0) hq hx hxp a1 a5 x2 g50
    refine ⟨-1 - nI q, av_u h 1 1 0, h2, ?_, ?_, ⟨n, r, sh_R0_up (by omega) (sh_R0_tx (sh_fr_tr (sh_fr_u (a := 1) (k := 1) (v := 0) (by decide) (sh_fr_refl _ _)) (sh_fr_up f2 (by decide)) (fun _ q => q)) (fun j hj => k2 j hj) (by rw [f2 1 (by decide)]; rfl) t2 h0)⟩, by rw [f2 3 (by decide)]; rfl, by rw [f2 4 (by decide)]; rfl, k2 1 (by decide), by rw [f2 45 (by decide)]; rfl⟩
    · rw [eX6_streamers_r0_in, hb]
      simp only [Option.bind_some]
      rw [if_pos (show (0 : Int32) ≤ nI q from sh_ge (n := 0) (by omega) (by omega)), if_neg (show ¬ nI q < 0 from nI_nlt (b := 0) (by omega) (by omega))]
    · rw [e2, if_neg hs]
