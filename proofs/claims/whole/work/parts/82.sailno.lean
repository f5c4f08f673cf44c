/-! PURE, 72: calls: sailing, 11: a text that is refused -/
theorem c_sail_no {d N n x S : Nat} {r : Nat → Int32} {G : Nat → Nat} {h : av_M} (h0 : sh_R0 N n r h) (hx : x ≤ 80) (hS : S = min x 60) (x2 : h 44 10 = nI x) (hTX : sh_TX x G h) (g50 : ∀ j, j < x → h 50 j = nI (G j) ∧ G j < 256) (hno : ¬ sh_ag x (sh_aw G S 0 0)) : sh_pc d N 64 217 [] h := by
  obtain ⟨pA, pB, pX, pU, pK, pF, pH, pS, pN⟩ := id h0
  have hz : (sh_aw G S 0 0).1 ≤ S := by have := (sh_aw_ge G S 0 0).2; omega
  have hb := c_badAct (d + 96) x G h hTX
  rw [← hS] at hb
  have hq := (sh_az_eq (x := x) (z := sh_aw G S 0 0) (by rw [← hS]; exact hz)).2 hno
  rw [← hS] at hq
  rw [hq] at hb
  obtain ⟨A, h2, _, e2, f2, k2, t2, _⟩ := t_runS (d + 94) x S G (av_u h 1 1 0) hS hx x2 g50
  have e2 := e2 hno
  obtain ⟨q, hqe⟩ : ∃ q, q = (sh_aw G S 0 0).1 := ⟨_, rfl⟩
  rw [← hqe] at hb e2 hz
  have fh : sh_fr [1, 44, 57, 58, 59] h h2 := sh_fr_tr (sh_fr_u (a := 1) (k := 1) (v := 0) (by decide) (sh_fr_refl _ _)) (sh_fr_up f2 (by decide)) (fun _ q => q)
  refine ⟨-1 - nI q, av_u h 1 1 0, h2, ?_, e2, ⟨n, r, sh_R0_sail h0 (fun b b1 b2 => fh b (fun e => ?_)) (fun j hj => k2 j ?_) (by rw [fh 27 (by decide)]) (by rw [fh 5 (by decide)]; exact pA.2.1) (by rw [fh 5 (by decide)]; exact pA.2.2.1) (sh_SV5 fh (by decide) pA.2.2.2.1) (sh_MV_fr fh (by decide) pA.2.2.2.2.2.1) pA.2.2.2.2.2.2.2 (sh_PU_s (by rw [fh 27 (by decide)]) (by rw [fh 27 (by decide)]) (fh _ (by decide)) (k2 22 (by decide)) (fh _ (by decide)) pU) (by rw [f2 1 (by decide)]; rfl) t2⟩, by rw [fh 3 (by decide)], fh 4 (by decide), k2 1 (by decide), fh 45 (by decide)⟩
  · rw [eX6_sailing_r0_in, hb]
    simp only [Option.bind_some]
    rw [if_neg (show ¬ nI q < 0 from nI_nlt (b := 0) (by omega) (by omega))]
  · exact (by decide : ∀ b, b ∈ [1, 44, 57, 58, 59] → b ∉ sh_X1 → b ∉ [1, 57, 58, 59] → False) b e b1 b2
  · exact (by decide : ∀ j, j ∈ [3, 4, 18, 28, 33, 36] → j ∉ [0, 10, 11, 12, 13, 27]) j hj
