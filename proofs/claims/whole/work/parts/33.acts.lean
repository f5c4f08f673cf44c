/-! PURE, 23: calls: again; acts -/
theorem c_again (p : Int32) : sh_P 101 272 [.int p] := sh_p fun d N n r h hN h0 => by
  obtain ⟨pA, pB, pX, pU, pK, pF, pH, pS, pN⟩ := id h0
  obtain ⟨a1, a2, a3, a4, a5, a6, a7, a8⟩ := id pA
  have eM0 : ∀ H : av_M, sh_ir 0 2 p = false → av_x (d + 100) 272 [.ref 44, .int p] H = some (0, 0, av_u H 44 0 0) := by
    intro H q
    rw [eX7_again_r44_in, c_inI _ p 0 2 _ _ _ (by decide) (by decide), q]
    rfl
  by_cases g1 : p < 0
  · refine sh_ref (a := 0) h0 ?_ (eM0 h (sh_ir_lt g1))
    rw [eX6_again_r0_in, eX1_bringKept_r27_r5_in, if_pos g1]; simp only [Option.bind_some, sh_001]
  · by_cases g2 : 2 < p
    · refine sh_ref (a := 0) h0 ?_ (eM0 h (sh_ir_gt g2))
      rw [eX6_again_r0_in, eX1_bringKept_r27_r5_in, if_neg g1, if_pos ((sh_lt_le (by decide)).mp g2)]; simp only [Option.bind_some, sh_001]
    · obtain ⟨j, hj, rfl⟩ := nI_of2 (M := 2) (n := 2) (by decide) g1 (by rw [← Int32.not_lt]; exact g2)
      obtain ⟨c, w, K, c1, c2, c3⟩ := id pK
      obtain ⟨d1, d2, d3, d4, d5⟩ := c3 j (by omega)
      have eM1 : ∀ H : av_M, H 44 4 = nI c → H 73 j = h 73 j → H 74 j = nI (w j) → av_x (d + 100) 272 [.ref 44, .int (nI j)] H = if h 73 j = 1 ∧ w j = c then av_xp (d + 99) 272 43 [.ref 44, .int (nI j), .int 0] [] (av_u H 44 0 0) else some (0, 0, av_u H 44 0 0) := by
        intro H q1 q2 q3
        rw [eX7_again_r44_in, c_inI _ _ 0 2 _ _ _ (by decide) (by decide), sh_ir_in g1 g2]
        simp only [Option.bind_some]
        rw [if_neg (by decide), sh_inb (show j < 3 by omega) (by decide)]
        simp only [cond_true]
        rw [nI_clamp (by omega), show (av_u H 44 0 0) 73 j = h 73 j from q2, show (av_u H 44 0 0) 74 j = nI (w j) from q3, show (av_u H 44 0 0) 44 4 = nI c from q1]
        rcases d3 with z | z
        · rw [if_pos z, if_neg (fun y => absurd (z.symm.trans y.1) (by decide))]
          rfl
        · rw [if_neg (by rw [z]; decide)]
          by_cases y : w j = c
          · rw [if_pos (by rw [y]), if_pos ⟨z, y⟩]
          · rw [if_neg (fun q => y ((nI_eq (by omega) (by omega)).mp q)), if_neg (fun q => y q.2)]
            rfl
      have eX1 : av_x (d + 100) 101 [.ref 0, .int (nI j)] h = if bt (h 27 4) j = true then (av_x (d + 98) 47 [.ref 5, .ref 29, .int (nI (33 * j))] h).bind (fun q => some (1, 0, av_u q.2.2 27 3 0)) else some (0, 0, h) := by
        rw [eX6_again_r0_in, eX1_bringKept_r27_r5_in, if_neg g1, if_neg (show ¬ (3 : Int32) ≤ nI j from sh_lt (n := 3) (by omega) (by decide)), c_isIn, sh_b_bt _ (by omega), show nI j * (33 : Int32) = nI (33 * j) by rw [show nI j * (33 : Int32) = nI (j * 33) from nI_mul j 33, Nat.mul_comm]]
        simp only [Option.bind_some]
        cases hb : bt (h 27 4) j
        · rw [if_pos (show sh_i false = 0 from rfl), if_neg (by decide)]
          simp only [Option.bind_some, sh_001]
        · rw [if_neg (by decide), if_pos rfl]
          cases av_x (d + 98) 47 [.ref 5, .ref 29, .int (nI (33 * j))] h with
          | none => rfl
          | some q => simp only [Option.bind_some, sh_111]
      cases hb : bt (h 27 4) j
      · refine sh_ref (a := 0) h0 ?_ ?_
        · rw [eX1, hb, if_neg (by decide)]
        · rw [eM1 h c2 rfl d2, if_neg (fun q => by rw [d4.mpr q] at hb; cases hb)]
      · obtain ⟨z1, z2, z3⟩ := d5 hb
        obtain ⟨h1, e1, f1, s1, g3, g4⟩ := c_readBack29 (d + 97) (33 * j) h (K j) (by omega) z2
        have eX : av_x (d + 100) 101 [.ref 0, .int (nI j)] h = some (1, 0, av_u h1 27 3 0) := by
          rw [eX1, hb, if_pos rfl, e1]
          rfl
        have q44 : h1 44 = h 44 := f1 44 (by decide)
        have q75 : h1 75 = h 75 := f1 75 (by decide)
        obtain ⟨h2, e2, f2, v2⟩ := c_again_l (d + 99) j (K j) (by omega) 33 0 (av_u (av_u h1 27 3 0) 44 0 0) (by omega) (fun o ho => by show h1 75 _ = _; rw [q75]; exact z3 o ho) (fun o ho => absurd ho (by omega))
        have eM : av_x (d + 100) 272 [.ref 44, .int (nI j)] (av_u h1 27 3 0) = some (1, 0, av_u h2 44 22 0) := by
          rw [eM1 (av_u h1 27 3 0) (by show h1 44 4 = _; rw [q44]; exact c2) (by show h1 73 j = _; rw [f1 73 (by decide)]) (by show h1 74 j = _; rw [f1 74 (by decide)]; exact d2), if_pos (d4.mp hb)]
          exact e2
        have x : ∀ b, b ∉ [5, 8, 9, 10, 11, 27, 44, 48] → (av_u h2 44 22 0) b = h b := by
          intro b hb
          rw [av_u_ne (fun q => hb (by simp [q])), f2 b (fun q => hb (by revert q; simp; intro q; simp [q])), av_u_ne (fun q => hb (by simp [q])), av_u_ne (fun q => hb (by simp [q])), f1 b (fun q => hb (by revert q; simp; intro q; omega))]
        have x1 : ∀ b, b ∉ [27, 44, 48] → (av_u h2 44 22 0) b = h1 b := by
          intro b hb
          rw [av_u_ne (fun q => hb (by simp [q])), f2 b (fun q => hb (by revert q; simp; intro q; simp [q])), av_u_ne (fun q => hb (by simp [q])), av_u_ne (fun q => hb (by simp [q]))]
        have k : ∀ i, i ≠ 0 → i ≠ 22 → (av_u h2 44 22 0) 44 i = h 44 i := by
          intro i j1 j2
          rw [av_u_eq, f2 44 (by decide)]
          show upd (upd (h1 44) 0 0) 22 0 i = _
          unfold upd
          rw [if_neg j2, if_neg j1, q44]
        have k27 : ∀ i, i ≠ 3 → (av_u h2 44 22 0) 27 i = h 27 i := by
          intro i j1
          rw [av_u_ne (by decide), f2 27 (by decide)]
          show upd (h1 27) 3 0 i = _
          unfold upd
          rw [if_neg j1, f1 27 (by decide)]
        refine ⟨1, _, _, eX, eM, ⟨n, K j, ?_⟩, by rw [x 3 (by decide)], x 4 (by decide), k 1 (by decide) (by decide), x 45 (by decide)⟩
        refine ⟨?_, sh_PB_s (x _ (by decide)) (x _ (by decide)) (x _ (by decide)) (k _ (by decide) (by decide)) pB, sh_PX_s (x _ (by decide)) (x _ (by decide)) (k _ (by decide) (by decide)) (x _ (by decide)) pX, ?_, sh_PK_up (by omega) (sh_PK_s (k27 _ (by decide)) (x _ (by decide)) (k _ (by decide) (by decide)) (x _ (by decide)) (x _ (by decide)) (x _ (by decide)) pK), sh_PF_s (x _ (by decide)) (x _ (by decide)) (x _ (by decide)) (x _ (by decide)) (k _ (by decide) (by decide)) (x _ (by decide)) (x _ (by decide)) (x _ (by decide)) pF, sh_PH_s (x _ (by decide)) (x _ (by decide)) (x _ (by decide)) (k _ (by decide) (by decide)) (x _ (by decide)) (x _ (by decide)) pH, sh_PS_s (x _ (by decide)) (x _ (by decide)) (x _ (by decide)) (x _ (by decide)) (k _ (by decide) (by decide)) (x _ (by decide)) (x _ (by decide)) (x _ (by decide)) pS, sh_PN_s (by rw [x 0 (by decide)]) (x _ (by decide)) pN⟩
        · refine ⟨a1, by rw [x1 5 (by decide), g3]; exact a2, by rw [x1 5 (by decide), g4]; exact a3, ?_, by rw [k 3 (by decide) (by decide)]; exact a5, sh_MV_fr (S := [44]) (sh_fr_u (by decide) (sh_fr_refl _ _)) (by decide) v2, ?_, z1⟩
          · unfold sh_SV at s1 ⊢
            rw [x1 5 (by decide), x1 (5 + 3) (by decide), x1 (5 + 4) (by decide), x1 (5 + 5) (by decide), x1 (5 + 6) (by decide)]
            exact s1
          · rw [x 6 (by decide), x 7 (by decide), x 46 (by decide), x 47 (by decide)]
            exact a7
        · obtain ⟨a, u, R, m1, m2, m3⟩ := pU
          refine ⟨a, 0, R, ⟨m1.1, by omega, by rw [k27 2 (by decide)]; exact m1.2.2.1, ?_, fun i hi => absurd hi (by omega)⟩, ⟨by omega, by rw [av_u_eq, upd_s]; rfl, fun i hi => absurd hi (by omega)⟩, fun i hi => absurd hi (by omega)⟩
          rw [av_u_ne (by decide), f2 27 (by decide)]
          rfl
/-! the sail's numbers by their place in the row -/
theorem sh_SV_get {o : Nat} {h : av_M} {r : Nat → Int32} (hv : sh_SV o h r) {a s i : Nat} (hi : (i < 28 ∧ a = o + 3 + i / 7 ∧ s = i % 7) ∨ (28 ≤ i ∧ i < 33 ∧ a = o ∧ s = i - 20)) : h a s = r i := by
  obtain ⟨v1, v2, v3, v4, v5, v6, v7, v8, v9⟩ := hv
  rcases hi with ⟨h1, rfl, rfl⟩ | ⟨h1, h2, rfl, rfl⟩
  · have q : i / 7 = 0 ∨ i / 7 = 1 ∨ i / 7 = 2 ∨ i / 7 = 3 := by omega
    rcases q with q | q | q | q
    · rw [q]; exact (v1 _ (by omega)).trans (congrArg r (by omega))
    · rw [q]; exact (v2 _ (by omega)).trans (congrArg r (by omega))
    · rw [q]; exact (v3 _ (by omega)).trans (congrArg r (by omega))
    · rw [q]; exact (v4 _ (by omega)).trans (congrArg r (by omega))
  · have q : i = 28 ∨ i = 29 ∨ i = 30 ∨ i = 31 ∨ i = 32 := by omega
    rcases q with rfl | rfl | rfl | rfl | rfl
    · exact v5
    · exact v6
    · exact v7
    · exact v8
    · exact v9
theorem sh_SV_mk {o : Nat} {h : av_M} {r : Nat → Int32} (H : ∀ a s i : Nat, (i < 28 ∧ a = o + 3 + i / 7 ∧ s = i % 7) ∨ (28 ≤ i ∧ i < 33 ∧ a = o ∧ s = i - 20) → h a s = r i) : sh_SV o h r := by
  refine ⟨fun k hk => H _ _ k (Or.inl (by omega)), fun k hk => H _ _ (7 + k) (Or.inl (by omega)), fun k hk => H _ _ (14 + k) (Or.inl (by omega)), fun k hk => H _ _ (21 + k) (Or.inl (by omega)), H _ _ 28 (Or.inr ⟨by decide, by decide, rfl, rfl⟩), H _ _ 29 (Or.inr ⟨by decide, by decide, rfl, rfl⟩), H _ _ 30 (Or.inr ⟨by decide, by decide, rfl, rfl⟩), H _ _ 31 (Or.inr ⟨by decide, by decide, rfl, rfl⟩), H _ _ 32 (Or.inr ⟨by decide, by decide, rfl, rfl⟩)⟩
theorem sh_SV_u {o : Nat} {h : av_M} {r : Nat → Int32} {v : Int32} (hv : sh_SV o h r) {a s i : Nat} (hi : (i < 28 ∧ a = o + 3 + i / 7 ∧ s = i % 7) ∨ (28 ≤ i ∧ i < 33 ∧ a = o ∧ s = i - 20)) : sh_SV o (av_u h a s v) (upd r i v) := by
  refine sh_SV_mk fun b t j hj => ?_
  by_cases e : j = i
  · have e1 : b = a := by subst e; omega
    have e2 : t = s := by subst e; omega
    subst e e1 e2
    rw [av_u_eq, upd_s, upd_s]
  · have eu : upd r i v j = r j := by unfold upd; rw [if_neg e]
    rw [eu]
    by_cases e1 : b = a
    · subst e1
      rw [av_u_eq]
      unfold upd
      rw [if_neg (by omega)]
      exact sh_SV_get hv hj
    · rw [av_u_ne e1]
      exact sh_SV_get hv hj
theorem sh_G_u {n i : Nat} {r : Nat → Int32} {v : Int32} (h : sh_G n r) (b1 : i < 7 → sh_B 0 99 v) (b2 : 7 ≤ i → i < 21 → sh_B 0 9 v) (b3 : 21 ≤ i → i < 28 → sh_B 0 9999 v) (b4 : i = 28 ∨ i = 29 → ∀ j, n ≤ j → j < 32 → bt v j = false) (b5 : i = 30 → sh_B 0 9999 v) (b6 : i = 31 → sh_B 0 9 v) : sh_G n (upd r i v) := by
  obtain ⟨g1, g2, g3, g4, g5⟩ := h
  have u : ∀ j (P : Int32 → Prop), (j = i → P v) → P (r j) → P (upd r i v j) := by
    intro j P p1 p2
    unfold upd
    by_cases e : j = i
    · rw [if_pos e]; exact p1 e
    · rw [if_neg e]; exact p2
  refine ⟨fun k hk => ⟨u k _ (fun e => b1 (by omega)) (g1 k hk).1, u (7 + k) _ (fun e => b2 (by omega) (by omega)) (g1 k hk).2.1, u (14 + k) _ (fun e => b2 (by omega) (by omega)) (g1 k hk).2.2.1, u (21 + k) _ (fun e => b3 (by omega) (by omega)) (g1 k hk).2.2.2⟩, u 30 _ (fun e => b5 (by omega)) g2, u 31 _ (fun e => b6 (by omega)) g3, ?_, ?_⟩
  · intro j hj h2
    exact u 28 (fun x => bt x j = false) (fun e => b4 (by omega) j hj h2) (g4 j hj h2)
  · intro j hj h2
    exact u 29 (fun x => bt x j = false) (fun e => b4 (by omega) j hj h2) (g5 j hj h2)
theorem sh_B_nat {N : Nat} {x : Int32} (h : sh_B 0 N x) : ∃ c, c ≤ N ∧ c < 2147483648 ∧ x = nI c := by
  have h0 : ¬ x < 0 := by
    rw [Int32.lt_iff_toInt_lt, show (0 : Int32).toInt = 0 by decide]
    have := h.1
    omega
  obtain ⟨c, hc, rfl⟩ := nI_of h0
  have h2 := h.2
  rw [nI_toInt hc] at h2
  exact ⟨c, by omega, by omega, rfl⟩
theorem sh_ir_nat {lo hi : Nat} {x : Int32} (hl : lo ≤ hi) (hh : hi < 2147483648) (h : sh_ir (nI lo) (nI hi) x = true) : ∃ c, lo ≤ c ∧ c ≤ hi ∧ x = nI c := by
  unfold sh_ir at h
  simp only [Bool.and_eq_true, decide_eq_true_eq] at h
  obtain ⟨h1, h2⟩ := h
  rw [Int32.le_iff_toInt_le, nI_toInt (n := hi) (by omega)] at h2
  rw [Int32.le_iff_toInt_le, nI_toInt (n := lo) (by omega)] at h1
  obtain ⟨c, c1, c2, rfl⟩ := sh_B_nat (N := hi) (x := x) ⟨by omega, by omega⟩
  rw [nI_toInt (by omega)] at h1 h2
  exact ⟨c, by omega, by omega, rfl⟩
