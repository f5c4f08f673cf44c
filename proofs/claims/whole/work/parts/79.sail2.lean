/-! PURE, 69: calls: sailing, 8: runs and ends -/
theorem sh_ap_inj {G : Nat → Nat} {A B : Nat} (h : sh_ap G A = sh_ap G B) : A = B := by
  have k : ∀ a b, a < b → sh_ap G a < sh_ap G b := by
    intro a b hab
    have := sh_ap_mono G (b - (a + 1)) (a + 1)
    rw [show a + 1 + (b - (a + 1)) = b by omega] at this
    have e1 : sh_ap G (a + 1) = sh_ap G a + 1 + sh_wd (G (sh_ap G a)) := rfl
    omega
  rcases Nat.lt_trichotomy A B with g | g | g
  · have := k A B g; omega
  · exact g
  · have := k B A g; omega
theorem sh_bJ_i (b : Bool) : Int32.toInt64 (sh_i b) = sh_bJ b := by cases b <;> decide
theorem c_sX (d b u D : Nat) (R : Nat → Nat → Int32) (r : Nat → Int32) (bad : Bool) (h : av_M) (hD : D < 1000) (m1 : sh_M1 b u R h) (w : sh_RW 28 (33 * b) h r) : ∃ h', sh_SX (d + 25) D bad h = some (nI D, 0, h') ∧ sh_fr [1, 3, 4, 27] h h' ∧ h' 1 1 = 0 ∧ h' 27 4 = h 27 4 ∧ sh_t1 [sh_bJ bad, Int32.toInt64 (h 5 10)] h' ∧ (D = 0 → sh_M1 b u R h') ∧ (D ≠ 0 → sh_M1 ((b + 1) % 16) (min 15 (u + 1)) (sh_Rn u R r) h') := by
  unfold sh_SX
  by_cases g : D = 0
  · obtain ⟨h2, e2, f2, t2⟩ := c_tell2 (d + 23) (av_u h 1 1 0) (sh_bJ bad) (Int32.toInt64 (h 5 10))
    rw [if_pos (show nI D ≤ 0 by rw [g]; decide), e2]
    refine ⟨h2, rfl, sh_fr_tr (sh_fr_u (by decide) (sh_fr_refl _ _)) (sh_fr_up f2 (by decide)) (fun _ q => q), by rw [f2 1 (by decide)]; rfl, by rw [f2 27 (by decide)]; rfl, t2, fun _ => ?_, fun z => absurd g z⟩
    exact sh_M1_fr f2 (by decide) (by decide) (sh_M1_fr (S := [1]) (sh_fr_u (by decide) (sh_fr_refl _ _)) (by decide) (by decide) m1)
  · obtain ⟨h1, e1, f1, n1, k1⟩ := c_confirm (d + 24) b u R h r m1 w
    obtain ⟨h2, e2, f2, t2⟩ := c_tell2 (d + 23) (av_u h1 1 1 0) (sh_bJ bad) (Int32.toInt64 (h1 5 10))
    rw [if_neg (show ¬ nI D ≤ 0 from sh_lt (k := 0) (by omega) (by omega)), e1]
    simp only [Option.bind_some]
    rw [e2]
    refine ⟨h2, rfl, sh_fr_tr (sh_fr_u (by decide) (sh_fr_up f1 (by decide))) (sh_fr_up f2 (by decide)) (fun _ q => q), by rw [f2 1 (by decide)]; rfl, by rw [f2 27 (by decide)]; exact k1, by rw [← show h1 5 10 = h 5 10 by rw [f1 5 (by decide)]]; exact t2, fun z => absurd z g, fun _ => ?_⟩
    exact sh_M1_fr f2 (by decide) (by decide) (sh_M1_fr (S := [1]) (sh_fr_u (by decide) (sh_fr_refl _ _)) (by decide) (by decide) n1)
theorem c_sM (d u D : Nat) (R : Nat → Nat → Int32) (r : Nat → Int32) (bad : Bool) (h : av_M) (hD : D < 1000) (m2 : sh_M2 u R h) (w : sh_RM 56 u h r) : ∃ h', sh_SM (d + 25) D bad h = some (nI D, 0, h') ∧ sh_fr [44, 45, 56] h h' ∧ (∀ j, 2 ≤ j → j < 44 → j ≠ 22 → h' 44 j = h 44 j) ∧ sh_t2 [sh_bJ bad, Int32.toInt64 (h 48 30)] h' ∧ (D = 0 → sh_M2 u R h') ∧ (D ≠ 0 → sh_M2 (min 15 (u + 1)) (sh_Rn u R r) h') := by
  obtain ⟨h1, e1, g1, f1, t1⟩ := c_ent1 (d + 24) (av_u h 44 1 0) (sh_bJ bad) rfl
  have e48 : h1 48 30 = h 48 30 := by rw [f1 48 (by decide)]; rfl
  obtain ⟨h2, e2, g2, f2, t2⟩ := c_enters (d + 24) h1 _ (Int32.toInt64 (h 48 30)) (by simp) t1
  have k2 : ∀ j, 2 ≤ j → j < 44 → h2 44 j = h 44 j := by
    intro j j1 j2
    rw [g2.2 j j1 j2, g1.2 j j1 j2]
    show upd (h 44) 1 0 j = h 44 j
    unfold upd
    rw [if_neg (by omega)]
  have f02 : sh_fr [44, 45, 56] h h2 := sh_fr_tr (sh_fr_tr (sh_fr_u (a := 44) (k := 1) (v := 0) (by decide) (sh_fr_refl _ _)) (sh_fr_up f1 (by decide)) (fun _ q => q)) (sh_fr_up f2 (by decide)) (fun _ q => q)
  have m22 : sh_M2 u R h2 := by
    refine ⟨m2.1, by rw [k2 22 (by decide) (by decide)]; exact m2.2.1, ?_⟩
    intro i hi o ho
    rw [f2 56 (by decide), f1 56 (by decide)]
    exact m2.2.2 i hi o ho
  have w2 : sh_RM 56 u h2 r := by
    intro o ho
    rw [f2 56 (by decide), f1 56 (by decide)]
    exact w o ho
  unfold sh_SM
  rw [c_flag]
  simp only [Option.bind_some]
  rw [sh_bJ_i, e1]
  simp only [Option.bind_some]
  rw [e48, e2]
  simp only [Option.bind_some]
  by_cases g : D = 0
  · rw [if_pos (show nI D ≤ 0 by rw [g]; decide), g]
    exact ⟨h2, rfl, f02, fun j j1 j2 _ => k2 j j1 j2, t2, fun _ => m22, fun z => absurd rfl z⟩
  · rw [if_neg (show ¬ nI D ≤ 0 from sh_lt (k := 0) (by omega) (by omega))]
    obtain ⟨h3, e3, f3, k3, n3, p3⟩ := c_counted (d + 24) u R h2 r (nI D) m22 w2
    rw [eX7_counted_r44_in, if_pos (show (0 : Int32) ≤ nI D from sh_ge (n := 0) (by omega) (by omega))] at e3
    refine ⟨h3, e3, sh_fr_tr f02 (sh_fr_up f3 (by decide)) (fun _ q => q), fun j j1 j2 j3 => (k3 j j3).trans (k2 j j1 j2), ?_, fun z => absurd z g, fun _ => p3 (nI_nlt (b := 0) (by omega) (by omega))⟩
    have t3 := t2
    unfold sh_t2 at t3 ⊢
    rw [k3 1 (by decide), f3 45 (by decide)]
    exact t3
theorem sh_R0_sail {N n : Nat} {r r' : Nat → Int32} {h h' : av_M} (h0 : sh_R0 N n r h) (x : ∀ b, b ∉ sh_X1 → b ∉ [1, 57, 58, 59] → h' b = h b) (k : ∀ j, j ∈ [3, 4, 18, 28, 33, 36] → h' 44 j = h 44 j) (k27 : h' 27 4 = h 27 4) (e6 : h' 5 6 = nI n) (e7 : h' 5 7 = sh_e n) (sv : sh_SV 5 h' r') (mv : sh_MV 48 h' r') (hG : sh_G n r') (pU' : sh_PU n h') (x1 : h' 1 1 = 0) (x10 : h' 44 10 = 0) : sh_R0 (N + 1) n r' h' := by
  obtain ⟨pA, pB, pX, pU, pK, pF, pH, pS, pN⟩ := h0
  refine ⟨⟨pA.1, e6, e7, sv, by rw [k 3 (by decide)]; exact pA.2.2.2.2.1, mv, ?_, hG⟩, ?_, ⟨0, by omega, x1, x10, fun j hj => absurd hj (by omega)⟩, pU', sh_PK_up (N := N) (by omega) ?_, ?_, ?_, ?_, ?_⟩
  · rw [x 6 (by decide) (by decide), x 7 (by decide) (by decide), x 46 (by decide) (by decide), x 47 (by decide) (by decide)]
    exact pA.2.2.2.2.2.2.1
  · exact sh_PB_s (x _ (by decide) (by decide)) (x _ (by decide) (by decide)) (x _ (by decide) (by decide)) (k _ (by decide)) pB
  · exact sh_PK_s k27 (x _ (by decide) (by decide)) (k _ (by decide)) (x _ (by decide) (by decide)) (x _ (by decide) (by decide)) (x _ (by decide) (by decide)) pK
  · exact sh_PF_s (x _ (by decide) (by decide)) (x _ (by decide) (by decide)) (x _ (by decide) (by decide)) (x _ (by decide) (by decide)) (k _ (by decide)) (x _ (by decide) (by decide)) (x _ (by decide) (by decide)) (x _ (by decide) (by decide)) pF
  · exact sh_PH_s (x _ (by decide) (by decide)) (x _ (by decide) (by decide)) (x _ (by decide) (by decide)) (k _ (by decide)) (x _ (by decide) (by decide)) (x _ (by decide) (by decide)) pH
  · exact sh_PS_s (x _ (by decide) (by decide)) (x _ (by decide) (by decide)) (x _ (by decide) (by decide)) (x _ (by decide) (by decide)) (k _ (by decide)) (x _ (by decide) (by decide)) (x _ (by decide) (by decide)) (x _ (by decide) (by decide)) pS
  · exact sh_PN_s (by rw [x 0 (by decide) (by decide)]) (x _ (by decide) (by decide)) pN
