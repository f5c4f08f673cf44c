/-! PURE, 74: calls: sailing -/
theorem c_sailing : sh_P 64 217 [] := by
  intro d N h hN hR
  obtain ⟨⟨n, r, h0⟩, hT⟩ := hR
  obtain ⟨pA, pB, pX, pU, pK, pF, pH, pS, pN⟩ := id h0
  obtain ⟨x, hx, x1, x2, x3⟩ := id pX
  obtain ⟨G, hG⟩ : ∃ G : Nat → Nat, G = fun j => (h 50 j).toNatClampNeg := ⟨_, rfl⟩
  have g50 : ∀ j, j < x → h 50 j = nI (G j) ∧ G j < 256 := by
    intro j hj
    obtain ⟨c, c1, c2, c3⟩ := sh_B_nat (N := 255) (x3 j hj).2
    have : G j = c := by rw [hG]; show (h 50 j).toNatClampNeg = c; rw [c3, nI_clamp (by omega)]
    rw [this]
    exact ⟨c3, by omega⟩
  have hTX : sh_TX x G h := ⟨hx, x1, fun j hj => ⟨(x3 j hj).1.trans (g50 j hj).1, (g50 j hj).2⟩⟩
  obtain ⟨S, hS⟩ : ∃ S, S = min x 60 := ⟨_, rfl⟩
  by_cases hg : sh_ag x (sh_aw G S 0 0)
  · exact c_sail_yes h0 hT hx hS x2 hTX g50 hg
  · obtain ⟨a, h1, h2, e1, e2, R, t1, t2, t3, t4⟩ := c_sail_no (d := d) h0 hx hS x2 hTX g50 hg
    exact ⟨a, h1, h2, e1, e2, R, sh_PT_s t1 t2 t3 t4 hT⟩
