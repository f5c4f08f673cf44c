/-! PURE, 84: calls: rule -/
theorem c_copyR_l (d : Nat) : ∀ t k (h : av_M), k + t = 40 → (∀ j, j < k → h 20 j = h 24 j) → ∃ h', av_xp d 10 2 [.ref 19, .ref 23, .int (nI k)] [] h = some (0, 0, av_u h' 19 3 (h 23 3)) ∧ sh_fr [20] h h' ∧ ∀ j, j < 40 → h' 20 j = h 24 j := by
  intro t
  induction t with
  | zero =>
    intro k h hk hj
    refine ⟨h, ?_, sh_fr_refl _ _, fun j q => hj j (by omega)⟩
    rw [eX3_copy_r19_r23_2, if_pos (show (40 : Int32) ≤ nI k from sh_ge (n := 40) (by omega) (by omega))]
  | succ t ih =>
    intro k h hk hj
    obtain ⟨h', e, f, g⟩ := ih (k + 1) (av_u h 20 k (h 24 k)) (by omega) (fun j q => by
      show upd (h 20) k (h 24 k) j = h 24 j
      unfold upd
      by_cases e : j = k
      · rw [if_pos e, e]
      · rw [if_neg e]; exact hj j (by omega))
    refine ⟨h', ?_, sh_fr_tr (sh_fr_u (by decide) (sh_fr_refl _ _)) f (fun _ z => z), g⟩
    rw [eX3_copy_r19_r23_2, if_neg (show ¬ (40 : Int32) ≤ nI k from sh_lt (n := 40) (by omega) (by decide)), sh_inb (show k < 40 by omega) (by decide), cond_true, cond_true, nI_clamp (by omega), nI_1]
    exact e
theorem c_copyR (d : Nat) (h : av_M) : ∃ h', av_x (d + 1) 10 [.ref 19, .ref 23] h = some (0, 0, h') ∧ sh_fr [19, 20] h h' ∧ h' 19 3 = h 23 3 ∧ ∀ j, j < 40 → h' 20 j = h 24 j := by
  obtain ⟨h', e, f, g⟩ := c_copyR_l d 40 0 h (by omega) (fun j q => absurd q (Nat.not_lt_zero _))
  refine ⟨av_u h' 19 3 (h 23 3), ?_, sh_fr_u (by decide) (sh_fr_up f (by decide)), rfl, g⟩
  rw [eX3_copy_r19_r23_in]
  exact e
theorem t_lays53_l (d L : Nat) (hL : L ≤ 40) : ∀ t k (h : av_M), k + t = L → (∀ j, j < k → h 52 j = h 53 j) → ∃ h', av_xp d 189 7 [.ref 44, .ref 53, .int (nI L), .int (nI k)] [] h = some (0, 0, h') ∧ sh_fr [52] h h' ∧ ∀ j, j < L → h' 52 j = h 53 j := by
  intro t
  induction t with
  | zero =>
    intro k h hk hj
    refine ⟨h, ?_, sh_fr_refl _ _, fun j q => hj j (by omega)⟩
    rw [eX7_laysCode_r44_r53_7, if_pos (sh_ge (by omega) (by omega))]
  | succ t ih =>
    intro k h hk hj
    obtain ⟨h', e, f, g⟩ := ih (k + 1) (av_u h 52 k (h 53 k)) (by omega) (fun j q => by
      show upd (h 52) k (h 53 k) j = h 53 j
      unfold upd
      by_cases e : j = k
      · rw [if_pos e, e]
      · rw [if_neg e]; exact hj j (by omega))
    refine ⟨h', ?_, sh_fr_tr (sh_fr_u (by decide) (sh_fr_refl _ _)) f (fun _ z => z), g⟩
    rw [eX7_laysCode_r44_r53_7, if_neg (sh_lt (by omega) (by omega)), sh_inb (show k < 80 by omega) (by decide), cond_true, cond_true, nI_clamp (by omega), nI_1]
    exact e
theorem t_lays53 (d L : Nat) (hL : L ≤ 40) (h : av_M) : ∃ h', av_x (d + 1) 189 [.ref 44, .ref 53, .int (nI L)] h = some (0, 0, h') ∧ sh_fr [52] (av_u h 44 18 (nI L)) h' ∧ ∀ j, j < L → h' 52 j = h 53 j := by
  obtain ⟨h', e, f, g⟩ := t_lays53_l d L hL L 0 (av_u h 44 18 (nI L)) (by omega) (fun j q => absurd q (Nat.not_lt_zero _))
  refine ⟨h', ?_, f, g⟩
  rw [eX7_laysCode_r44_r53_in]
  exact e
theorem t_lays72_l (d L : Nat) (hL : L ≤ 40) : ∀ t k (h : av_M), k + t = L → (∀ j, j < k → h 52 j = h 72 j) → ∃ h', av_xp d 189 7 [.ref 44, .ref 72, .int (nI L), .int (nI k)] [] h = some (0, 0, h') ∧ sh_fr [52] h h' ∧ ∀ j, j < L → h' 52 j = h 72 j := by
  intro t
  induction t with
  | zero =>
    intro k h hk hj
    refine ⟨h, ?_, sh_fr_refl _ _, fun j q => hj j (by omega)⟩
    rw [eX7_laysCode_r44_r72_7, if_pos (sh_ge (by omega) (by omega))]
  | succ t ih =>
    intro k h hk hj
    obtain ⟨h', e, f, g⟩ := ih (k + 1) (av_u h 52 k (h 72 k)) (by omega) (fun j q => by
      show upd (h 52) k (h 72 k) j = h 72 j
      unfold upd
      by_cases e : j = k
      · rw [if_pos e, e]
      · rw [if_neg e]; exact hj j (by omega))
    refine ⟨h', ?_, sh_fr_tr (sh_fr_u (by decide) (sh_fr_refl _ _)) f (fun _ z => z), g⟩
    rw [eX7_laysCode_r44_r72_7, if_neg (sh_lt (by omega) (by omega)), sh_inb (show k < 80 by omega) (by decide), cond_true, cond_true, nI_clamp (by omega), nI_1]
    exact e
theorem t_lays72 (d L : Nat) (hL : L ≤ 40) (h : av_M) : ∃ h', av_x (d + 1) 189 [.ref 44, .ref 72, .int (nI L)] h = some (0, 0, h') ∧ sh_fr [52] (av_u h 44 18 (nI L)) h' ∧ ∀ j, j < L → h' 52 j = h 72 j := by
  obtain ⟨h', e, f, g⟩ := t_lays72_l d L hL L 0 (av_u h 44 18 (nI L)) (by omega) (fun j q => absurd q (Nat.not_lt_zero _))
  refine ⟨h', ?_, f, g⟩
  rw [eX7_laysCode_r44_r72_in]
  exact e
theorem sh_R0_rule {N n : Nat} {r : Nat → Int32} {S : List Nat} {h h' : av_M} (hf : sh_fr S h h') (hS : ∀ a, a ∈ sh_W → a ∈ S → a = 1 ∨ a = 19 ∨ a = 20 ∨ a = 52) (h0 : 0 ∉ S) (hj : ∀ j, j ∈ [3, 4, 22, 28, 33, 36] → h' 44 j = h 44 j) (h1 : h' 1 1 = 0) (h10 : h' 44 10 = 0) (hB : sh_PB h') (H : sh_R0 N n r h) : sh_R0 N n r h' := by
  obtain ⟨pA, pB, pX, pU, pK, pF, pH, pS, pN⟩ := H
  have g : ∀ a, a ∈ sh_W → a ≠ 1 → a ≠ 19 → a ≠ 20 → a ≠ 52 → h' a = h a := fun a b c1 c2 c3 c4 => hf a (fun z => by rcases hS a b z with q | q | q | q <;> contradiction)
  have G : ∀ a, decide (a ∈ sh_W ∧ a ≠ 1 ∧ a ≠ 19 ∧ a ≠ 20 ∧ a ≠ 52) = true → h' a = h a := fun a z => by
    have z := of_decide_eq_true z
    exact g a z.1 z.2.1 z.2.2.1 z.2.2.2.1 z.2.2.2.2
  refine ⟨?_, hB, ⟨0, by omega, h1, h10, fun j hj => absurd hj (by omega)⟩, ?_, ?_, ?_, ?_, ?_, ?_⟩
  · exact sh_PA_s (G _ (by decide)) (G _ (by decide)) (G _ (by decide)) (G _ (by decide)) (G _ (by decide)) (G _ (by decide)) (G _ (by decide)) (G _ (by decide)) (G _ (by decide)) (G _ (by decide)) (hj _ (by decide)) pA
  · exact sh_PU_s (by rw [G 27 (by decide)]) (by rw [G 27 (by decide)]) (G _ (by decide)) (hj _ (by decide)) (G _ (by decide)) pU
  · exact sh_PK_s (by rw [G 27 (by decide)]) (G _ (by decide)) (hj _ (by decide)) (G _ (by decide)) (G _ (by decide)) (G _ (by decide)) pK
  · exact sh_PF_s (G _ (by decide)) (G _ (by decide)) (G _ (by decide)) (G _ (by decide)) (hj _ (by decide)) (G _ (by decide)) (G _ (by decide)) (G _ (by decide)) pF
  · exact sh_PH_s (G _ (by decide)) (G _ (by decide)) (G _ (by decide)) (hj _ (by decide)) (G _ (by decide)) (G _ (by decide)) pH
  · exact sh_PS_s (G _ (by decide)) (G _ (by decide)) (G _ (by decide)) (G _ (by decide)) (hj _ (by decide)) (G _ (by decide)) (G _ (by decide)) (G _ (by decide)) pS
  · exact sh_PN_s (by rw [hf 0 h0]) (G _ (by decide)) pN
theorem sh_FM_u {h h' : av_M} {v : Int32} (F : sh_FM (av_u h 44 0 v) h') : (∀ a, a ≠ 44 → a ≠ 53 → h' a = h a) ∧ (∀ j, j ≠ 0 → j ≠ 10 → j ≠ 11 → j ≠ 12 → j ≠ 13 → j ≠ 19 → h' 44 j = h 44 j) ∧ h' 44 10 = 0 := by
  refine ⟨fun a p q => by rw [F.1 a p q, av_u_ne p], fun j q0 q1 q2 q3 q4 q5 => ?_, F.2.2⟩
  rw [F.2.1 j q1 q2 q3 q4 q5]
  show upd (h 44) 0 v j = _
  unfold upd
  rw [if_neg q0]
theorem sh_PX_TX {h : av_M} (pX : sh_PX h) : ∃ x G, sh_TX x G h ∧ h 44 10 = nI x ∧ ∀ j, j < x → h 50 j = nI (G j) ∧ G j < 256 := by
  obtain ⟨x, hx, x1, x2, x3⟩ := pX
  obtain ⟨G, hG⟩ : ∃ G : Nat → Nat, G = fun j => (h 50 j).toNatClampNeg := ⟨_, rfl⟩
  have g50 : ∀ j, j < x → h 50 j = nI (G j) ∧ G j < 256 := by
    intro j hj
    obtain ⟨c, c1, c2, c3⟩ := sh_B_nat (N := 255) (x3 j hj).2
    have : G j = c := by rw [hG]; show (h 50 j).toNatClampNeg = c; rw [c3, nI_clamp (by omega)]
    rw [this]
    exact ⟨c3, by omega⟩
  exact ⟨x, G, ⟨hx, x1, fun j hj => ⟨(x3 j hj).1.trans (g50 j hj).1, (g50 j hj).2⟩⟩, x2, g50⟩
theorem sh_q40 : ∀ q, q < 41 → ¬ nI q < (0 : Int32) ∧ ¬ nI q = (-1 : Int32) ∧ ¬ (-1 : Int32) - nI q = 0 ∧ (-1 : Int32) - nI q + 1 - 10000 = -10000 - nI q ∧ ¬ (0 : Int32) ≤ -1 - nI q := by decide +kernel
theorem sh_inj3 {a b : Int32} {h1 h2 : av_M} {E : Option av_R} (e1 : E = some (a, 0, h1)) (e2 : E = some (b, 0, h2)) : a = b ∧ h1 = h2 := by
  rw [e1] at e2
  injection e2 with e2
  injection e2 with e3 e4
  injection e4 with _ e5
  exact ⟨e3, e5⟩
theorem c_rule_yes {d N n x m0 L0 : Nat} {G : Nat → Nat} {r : Nat → Int32} {h h1 hd : av_M} (h0 : sh_R0 N n r h) (hTX : sh_TX x G h) (x10 : h 44 10 = nI x) (g50 : ∀ j, j < x → h 50 j = nI (G j) ∧ G j < 256) (u1 : av_x (d + 99) 11 [.ref 23, .ref 1] h = some (-1, 0, h1)) (u2 : sh_fr [23, 24, 25] h h1) (u3 : h1 23 3 = nI m0) (u4 : sh_RR m0 (h1 24) L0 (hd 53)) : sh_pc d N 55 190 [] h := by
  have m40 := u4.1
  obtain ⟨h2, v1, v2, v3, v4⟩ := c_copyR (d + 98) (av_u h1 1 1 0)
  have F2 : sh_fr [1, 19, 20, 23, 24, 25] h h2 := sh_fr_tr (sh_fr_u (by decide) (sh_fr_up u2 (by decide))) v2 (by decide)
  have eX : av_x (d + 100) 55 [.ref 0] h = some (0, 0, h2) := by
    rw [eX6_rule_r0_in, u1]
    simp only [Option.bind_some]
    rw [if_pos (by decide), v1]
    rfl
  have g2 : ∀ j, j < x → (av_u h2 44 0 0) 50 j = nI (G j) ∧ G j < 256 := fun j hj => by
    show h2 50 j = _ ∧ _
    rw [F2 50 (by decide)]
    exact g50 j hj
  rcases c_ruleB (d + 9) x G h (av_u h2 44 0 0) hTX (by show h2 44 10 = _; rw [F2 44 (by decide)]; exact x10) g2 with ⟨m, L, k1, h3, w1, -, w3, w4, w5, w6, w7⟩ | ⟨q, k1, h3, w0, w1, -, -, -⟩
  · obtain ⟨-, e⟩ := sh_inj3 u1 w1
    subst e
    obtain ⟨f1, f2, f3⟩ := sh_FM_u w5
    obtain ⟨h4, y1, y2, y3⟩ := t_lays53 (d + 98) L (sh_RR_L w7) h3
    have eM : av_x (d + 100) 190 [.ref 44] h2 = some (0, 0, h4) := by
      rw [eX7_rule_r44_in, w4]
      simp only [Option.bind_some]
      rw [if_pos trivial, w6, y1]
      rfl
    have F4 : sh_fr [1, 19, 20, 23, 24, 25, 44, 52, 53] h h4 := fun a ha => by
      rw [y2 a (fun z => ha (by simp at z; simp [z])), av_u_ne (fun z => ha (by simp [z])), f1 a (fun z => ha (by simp [z])) (fun z => ha (by simp [z]))]
      exact F2 a (fun z => ha (by simp at z ⊢; omega))
    have k4 : ∀ j, j ≠ 0 → j ≠ 10 → j ≠ 11 → j ≠ 12 → j ≠ 13 → j ≠ 18 → j ≠ 19 → h4 44 j = h 44 j := fun j a0 a1 a2 a3 a4 a5 a6 => by
      rw [y2 44 (by decide)]
      show upd (h3 44) 18 _ j = _
      unfold upd
      rw [if_neg a5, f2 j a0 a1 a2 a3 a4 a6, F2 44 (by decide)]
    refine ⟨0, h2, h4, eX, eM, ⟨n, r, sh_R0_up (by omega) (sh_R0_rule F4 (by decide) (by decide) (fun j hj => ?_) ?_ ?_ ?_ h0)⟩, by rw [F4 3 (by decide)], F4 4 (by decide), k4 1 (by decide) (by decide) (by decide) (by decide) (by decide) (by decide) (by decide), F4 45 (by decide)⟩
    · have z := (by decide : ∀ j, j ∈ [3, 4, 22, 28, 33, 36] → j ≠ 0 ∧ j ≠ 10 ∧ j ≠ 11 ∧ j ≠ 12 ∧ j ≠ 13 ∧ j ≠ 18 ∧ j ≠ 19) j hj
      exact k4 j z.1 z.2.1 z.2.2.1 z.2.2.2.1 z.2.2.2.2.1 z.2.2.2.2.2.1 z.2.2.2.2.2.2
    · rw [y2 1 (by decide), av_u_ne (by decide), f1 1 (by decide) (by decide), v2 1 (by decide)]
      rfl
    · rw [y2 44 (by decide)]
      exact f3
    · refine ⟨m, L, ?_, ?_, ?_⟩
      · rw [y2 19 (by decide), av_u_ne (by decide), f1 19 (by decide) (by decide), v3]
        exact w3
      · rw [y2 44 (by decide)]
        rfl
      · refine sh_RR_c w7 (fun k hk => ?_) (fun k hk => y3 k hk)
        have := w7.1
        rw [y2 20 (by decide), av_u_ne (by decide), f1 20 (by decide) (by decide)]
        exact v4 k (by omega)
  · obtain ⟨e, -⟩ := sh_inj3 u1 w1
    exact absurd e.symm (sh_q40 q (by omega)).2.1
theorem c_rule_no {d N n x q0 : Nat} {G : Nat → Nat} {r : Nat → Int32} {h h1 : av_M} (h0 : sh_R0 N n r h) (hTX : sh_TX x G h) (x10 : h 44 10 = nI x) (g50 : ∀ j, j < x → h 50 j = nI (G j) ∧ G j < 256) (u0 : q0 ≤ 40) (u1 : av_x (d + 99) 11 [.ref 23, .ref 1] h = some (nI q0, 0, h1)) (u2 : sh_fr [23, 24, 25] h h1) : sh_pc d N 55 190 [] h := by
  have pB := h0.2.1
  obtain ⟨v, hv⟩ : ∃ v : Int32, v = -1 - nI q0 := ⟨_, rfl⟩
  have hv0 : ¬ v = 0 := by rw [hv]; exact (sh_q40 q0 (by omega)).2.2.1
  have F1 : sh_fr [1, 23, 24, 25] h (av_u h1 1 1 0) := sh_fr_u (by decide) (sh_fr_up u2 (by decide))
  have eX : av_x (d + 100) 55 [.ref 0] h = some (v, 0, av_u h1 1 1 0) := by
    rw [eX6_rule_r0_in, u1]
    simp only [Option.bind_some]
    rw [if_neg (sh_q40 q0 (by omega)).1, ← hv]
  have g2 : ∀ j, j < x → (av_u (av_u h1 1 1 0) 44 0 0) 50 j = nI (G j) ∧ G j < 256 := fun j hj => by
    show h1 50 j = _ ∧ _
    rw [u2 50 (by decide)]
    exact g50 j hj
  rcases c_ruleB (d + 9) x G h (av_u (av_u h1 1 1 0) 44 0 0) hTX (by show h1 44 10 = _; rw [u2 44 (by decide)]; exact x10) g2 with ⟨m, L, k1, h3, w1, -, -⟩ | ⟨q, k1, h3, w0, w1, -, w4, w5⟩
  · obtain ⟨e, -⟩ := sh_inj3 u1 w1
    exact absurd e (sh_q40 q0 (by omega)).2.1
  · obtain ⟨e, -⟩ := sh_inj3 u1 w1
    rw [← e, ← hv] at w4
    obtain ⟨f1, f2, f3⟩ := sh_FM_u w5
    have eM : av_x (d + 100) 190 [.ref 44] (av_u h1 1 1 0) = some (v, 0, h3) := by
      rw [eX7_rule_r44_in, w4]
      simp only [Option.bind_some]
      rw [if_neg hv0]
    have F4 : sh_fr [1, 23, 24, 25, 44, 53] h h3 := fun a ha => by
      rw [f1 a (fun z => ha (by simp [z])) (fun z => ha (by simp [z]))]
      exact F1 a (fun z => ha (by simp at z ⊢; omega))
    have k4 : ∀ j, j ≠ 0 → j ≠ 10 → j ≠ 11 → j ≠ 12 → j ≠ 13 → j ≠ 19 → h3 44 j = h 44 j := fun j a0 a1 a2 a3 a4 a6 => by
      rw [f2 j a0 a1 a2 a3 a4 a6, F1 44 (by decide)]
    refine ⟨v, _, h3, eX, eM, ⟨n, r, sh_R0_up (by omega) (sh_R0_rule F4 (by decide) (by decide) (fun j hj => ?_) ?_ f3 (sh_PB_s (F4 19 (by decide)) (F4 20 (by decide)) (F4 52 (by decide)) (k4 18 (by decide) (by decide) (by decide) (by decide) (by decide) (by decide)) pB) h0)⟩, by rw [F4 3 (by decide)], F4 4 (by decide), k4 1 (by decide) (by decide) (by decide) (by decide) (by decide) (by decide), F4 45 (by decide)⟩
    · have z := (by decide : ∀ j, j ∈ [3, 4, 22, 28, 33, 36] → j ≠ 0 ∧ j ≠ 10 ∧ j ≠ 11 ∧ j ≠ 12 ∧ j ≠ 13 ∧ j ≠ 19) j hj
      exact k4 j z.1 z.2.1 z.2.2.1 z.2.2.2.1 z.2.2.2.2.1 z.2.2.2.2.2
    · rw [f1 1 (by decide) (by decide)]
      rfl
theorem c_rule : sh_P 55 190 [] := sh_p fun d N n r h hN h0 => by
  obtain ⟨x, G, hTX, x10, g50⟩ := sh_PX_TX h0.2.2.1
  rcases c_ruleB (d + 9) x G h h hTX x10 g50 with ⟨m0, L0, h1, hd, u1, u2, u3, -, -, -, u4⟩ | ⟨q0, h1, hd, u0, u1, u2, -, -⟩
  · exact c_rule_yes h0 hTX x10 g50 u1 u2 u3 u4
  · exact c_rule_no h0 hTX x10 g50 u0 u1 u2
