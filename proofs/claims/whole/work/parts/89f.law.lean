/-! PURE, 85: calls: law -/
theorem c_heldB2 (d n m L z : Nat) (st : Nat → Int32) (h : av_M) (r : Nat → Int32) (hn : n ≤ 7) (hz : z < 1000) (hm : h 44 3 = nI n) (hv : sh_MV 48 h r) (h9 : sh_L9 r) (hR : sh_RR m st L (h 52)) (hL : h 44 18 = nI L) (ρ : Nat → Int32) (hρ : ρ = sh_lp (fun _ => sh_hr n (h 46) (h 47) (sh_rl m st)) z 0 r) :
    ∃ h', av_x (d + 7) 227 [.ref 44, .int (h 48 31), .int (nI z)] h = some (sh_bc (sh_hd n ρ), 0, h') ∧ sh_fr [49, 54, 55] h h' ∧ h' 49 30 = ρ 30 := by
  subst hρ
  rw [eX7_heldBy_r44_in]
  obtain ⟨h1, e1, f1, v1⟩ := c_copies (d + 5) h r hv
  rw [e1]
  simp only [Option.bind_some]
  have f2 : sh_fr [49, 54, 55] h (av_u h1 49 31 (h 48 31)) := sh_fr_u (by decide) (sh_fr_up f1 (by decide))
  have er : upd r 31 (h 48 31) = r := by
    funext j
    unfold upd
    by_cases e : j = 31
    · rw [if_pos e, e]; exact hv 31 (by decide)
    · rw [if_neg e]
  have v2 := sh_MV_u (k := 31) (h 48 31) v1
  rw [er] at v2
  obtain ⟨h2, e2, f3, v3, -⟩ := c_goesOn49 d n m L z st (av_u h1 49 31 (h 48 31)) r hn hz (by rw [f2 44 (by decide)]; exact hm) v2 h9 (by rw [f2 52 (by decide)]; exact hR) (by rw [f2 44 (by decide)]; exact hL)
  rw [f2 46 (by decide), f2 47 (by decide)] at v3
  rw [e2]
  simp only [Option.bind_some]
  rw [c_holdingM49 (d + 4) n h2 _ (by rw [f3 44 (by decide), f2 44 (by decide)]; exact hm) v3]
  simp only [Option.bind_some]
  rw [c_bc (d + 5)]
  exact ⟨h2, rfl, sh_fr_tr f2 f3 (fun _ z => z), v3 30 (by decide)⟩
/-- the class's two looks ahead -/
theorem f_law (d n m L m0 L0 : Nat) (cd : Nat → Int32) (r : Nat → Int32) (h h1 : av_M) (pA : sh_PA n r h) (l1 : h 19 3 = nI m) (l3 : sh_RR m (h 20) L (h 52)) (u1 : av_x (d + 99) 11 [.ref 23, .ref 1] h = some (-1, 0, h1)) (u2 : sh_fr [23, 24, 25] h h1) (u3 : h1 23 3 = nI m0) (u4 : sh_RR m0 (h1 24) L0 cd) (ρo ρr : Nat → Int32)
    (ho : ρo = sh_lp (fun _ => sh_hr n (h 46) (h 47) (sh_rl m0 (h1 24))) 20 0 r) (hr : ρr = sh_lp (fun _ => sh_hr n (h 46) (h 47) (sh_rl m (h 20))) 20 0 r) :
    ∃ hH, av_x (d + 100) 97 [.ref 0] h = some (sh_bc (sh_hd n ρo) - sh_bc (sh_hd n ρr), 0, hH) ∧ sh_fr [1, 3, 4, 12, 13, 14, 15, 16, 17, 18, 22, 23, 24, 25, 26] h hH ∧ hH 1 1 = 0 ∧ sh_t1 [Int32.toInt64 (sh_bc (sh_hd n ρo)), Int32.toInt64 (sh_bc (sh_hd n ρr)), Int32.toInt64 (ρo 30), Int32.toInt64 (ρr 30)] hH := by
  obtain ⟨a1, a2, a3, a4, a5, a6, a7, a8⟩ := id pA
  have fU : sh_fr [1, 23, 24, 25] h (av_u h1 1 1 0) := sh_fr_u (by decide) (sh_fr_up u2 (by decide))
  obtain ⟨hA, eA, fA, vA, A6, A7, A13, A14⟩ := c_copy (d + 98) (av_u h1 1 1 0) r (sh_SV5 fU (by decide) a4)
  rw [fU 5 (by decide)] at A6 A7
  rw [fU 6 (by decide)] at A13
  rw [fU 7 (by decide)] at A14
  have cA : ∀ rl, sh_hr n (hA 13) (hA 14) rl = sh_hr n (h 46) (h 47) rl := fun rl => funext fun ρ => sh_hr_cong (fun j hj => (A13 j (by omega)).trans (a7 j hj).1) (fun j hj => (A14 j (by omega)).trans (a7 j hj).2.1) rl ρ
  obtain ⟨hB, eB, fB, vB, B6, B7⟩ := c_passHours2312_l (d + 93) n m0 20 (hA 13) (hA 14) (sh_rl m0 (h1 24)) a1 u4.1 (by decide) 20 0 hA r (by decide) rfl rfl (A6.trans a2) (A7.trans a3) vA (by rw [fA 23 (by decide)]; exact u3) (fun g q => by rw [fA 24 (by decide)]; exact sh_rl_pl u4 g q)
  rw [cA, ← ho] at vB
  have eB : av_x (d + 99) 42 [.ref 12, .ref 23, .int 20] hA = some (0, 0, hB) := by rw [eX4_passHours_r12_r23_in]; exact eB
  have fUB : sh_fr [12, 13, 14, 15, 16, 17, 18, 26] (av_u h1 1 1 0) hB := sh_fr_tr (sh_fr_up fA (by decide)) fB (by decide)
  have f0B : sh_fr [1, 12, 13, 14, 15, 16, 17, 18, 23, 24, 25, 26] h hB := sh_fr_tr (sh_fr_up fU (by decide)) fUB (by decide)
  obtain ⟨hC, eC, fC, vC, C6, C7, C13, C14⟩ := c_copy (d + 97) hB r (sh_SV5 f0B (by decide) a4)
  rw [f0B 5 (by decide)] at C6 C7
  rw [f0B 6 (by decide)] at C13
  rw [f0B 7 (by decide)] at C14
  have cC : ∀ rl, sh_hr n (hC 13) (hC 14) rl = sh_hr n (h 46) (h 47) rl := fun rl => funext fun ρ => sh_hr_cong (fun j hj => (C13 j (by omega)).trans (a7 j hj).1) (fun j hj => (C14 j (by omega)).trans (a7 j hj).2.1) rl ρ
  have f0C : sh_fr [1, 12, 13, 14, 15, 16, 17, 18, 23, 24, 25, 26] h hC := sh_fr_tr f0B fC (by decide)
  obtain ⟨hD, eD, fD, vD, D6, D7⟩ := c_passHours1912_l (d + 92) n m 20 (hC 13) (hC 14) (sh_rl m (h 20)) a1 l3.1 (by decide) 20 0 hC r (by decide) rfl rfl (C6.trans a2) (C7.trans a3) vC (by rw [f0C 19 (by decide)]; exact l1) (fun g q => by rw [f0C 20 (by decide)]; exact sh_rl_pl l3 g q)
  rw [cC, ← hr] at vD
  have eD : av_x (d + 98) 42 [.ref 12, .ref 19, .int 20] hC = some (0, 0, hD) := by rw [eX4_passHours_r12_r19_in]; exact eD
  have eF : av_x (d + 99) 114 [.ref 0, .int 20] hB = some (0, 0, hD) := by
    rw [eX6_foresee_r0_in, eC]
    simp only [Option.bind_some]
    rw [eD]
    rfl
  have f0D : sh_fr [1, 12, 13, 14, 15, 16, 17, 18, 22, 23, 24, 25, 26] h hD := sh_fr_tr (sh_fr_up f0C (by decide)) fD (by decide)
  obtain ⟨hE, eE, fE, tE⟩ := c_tell2 (d + 97) hD (Int32.toInt64 (sh_bc (sh_hd n ρo))) (Int32.toInt64 (sh_bc (sh_hd n ρr)))
  obtain ⟨hG, eG, fG, tG⟩ := c_add (d + 98) hE _ (Int32.toInt64 (hB 12 10)) (by simp) tE
  obtain ⟨hH, eH, fH, tH⟩ := c_add (d + 98) hG _ (Int32.toInt64 (hG 12 10)) (by simp) tG
  have z1 : hB 12 10 = ρo 30 := vB.2.2.2.2.2.2.1
  have z2 : hG 12 10 = ρr 30 := by rw [fG 12 (by decide), fE 12 (by decide)]; exact vD.2.2.2.2.2.2.1
  have f1H : hH 1 1 = 0 := by
    rw [fH 1 (by decide), fG 1 (by decide), fE 1 (by decide), fD 1 (by decide), fC 1 (by decide), fUB 1 (by decide)]
    rfl
  refine ⟨hH, ?_, sh_fr_tr (sh_fr_up f0D (by decide)) (sh_fr_tr fE (sh_fr_tr fG fH (fun _ z => z)) (fun _ z => z)) (by decide), f1H, ?_⟩
  · rw [eX6_law_r0_in, u1]
    simp only [Option.bind_some]
    rw [if_pos (by decide), eA]
    simp only [Option.bind_some]
    rw [eB]
    simp only [Option.bind_some]
    rw [c_holding12 (d + 98) n hB ρo B7 vB]
    simp only [Option.bind_some]
    rw [c_bc]
    simp only [Option.bind_some]
    rw [eF]
    simp only [Option.bind_some]
    rw [c_holding12 (d + 98) n hD ρr D7 vD]
    simp only [Option.bind_some]
    rw [c_bc]
    simp only [Option.bind_some]
    rw [eE]
    simp only [Option.bind_some]
    rw [eG]
    simp only [Option.bind_some]
    rw [eH]
    rfl
  · rw [z2] at tH
    rw [z1] at tH
    exact tH
theorem t_law_l (d L : Nat) (hL : L ≤ 40) (a1 a2 a3 a4 : Int32) : ∀ t k (h : av_M), k + t = L → h 44 18 = nI L → (∀ j, j < k → h 72 j = h 52 j) →
    ∃ h', av_xp d 265 53 [.ref 44, .int a1, .int a2, .int a3, .int a4, .int (nI k)] [] h = av_xp d 265 53 [.ref 44, .int a1, .int a2, .int a3, .int a4, .int (nI L)] [] h' ∧ sh_fr [72] h h' ∧ ∀ j, j < L → h' 72 j = h 52 j := by
  intro t
  induction t with
  | zero =>
    intro k h hk _ hj
    have e : k = L := hk
    subst e
    exact ⟨h, rfl, sh_fr_refl _ _, hj⟩
  | succ t ih =>
    intro k h hk h18 hj
    obtain ⟨h', e, f, g⟩ := ih (k + 1) (av_u h 72 k (h 52 k)) (by omega) h18 (fun j q => by
      show upd (h 72) k (h 52 k) j = h 52 j
      unfold upd
      by_cases e : j = k
      · rw [if_pos e, e]
      · rw [if_neg e]; exact hj j (by omega))
    refine ⟨h', ?_, sh_fr_tr (sh_fr_u (by decide) (sh_fr_refl _ _)) f (fun _ z => z), g⟩
    rw [eX7_law_r44_53, h18, if_neg (sh_lt (by omega) (by omega)), sh_inb (show k < 80 by omega) (by decide), cond_true, cond_true, nI_clamp (by omega), nI_1]
    exact e
theorem c_law_yes {d N n x m0 L0 : Nat} {G : Nat → Nat} {r : Nat → Int32} {h h1 hd : av_M} (h0 : sh_R0 N n r h) (hTX : sh_TX x G h) (x10 : h 44 10 = nI x) (g50 : ∀ j, j < x → h 50 j = nI (G j) ∧ G j < 256) (u1 : av_x (d + 99) 11 [.ref 23, .ref 1] h = some (-1, 0, h1)) (u2 : sh_fr [23, 24, 25] h h1) (u3 : h1 23 3 = nI m0) (u4 : sh_RR m0 (h1 24) L0 (hd 53)) : ∃ a k1 k2, av_x (d + 100) 97 [.ref 0] h = some (a, 0, k1) ∧ av_x (d + 100) 265 [.ref 44] k1 = some (a, 0, k2) ∧ sh_Rel (N + 1) k2 := by
  obtain ⟨pA, pB, pX, pU, pK, pF, pH, pS, pN⟩ := id h0
  obtain ⟨a1, a2, a3, a4, a5, a6, a7, a8⟩ := id pA
  obtain ⟨m, L, l1, l2, l3⟩ := id pB
  have hL40 := sh_RR_L l3
  obtain ⟨ρo, ho⟩ : ∃ ρo, ρo = sh_lp (fun _ => sh_hr n (h 46) (h 47) (sh_rl m0 (h1 24))) 20 0 r := ⟨_, rfl⟩
  obtain ⟨ρr, hr⟩ : ∃ ρr, ρr = sh_lp (fun _ => sh_hr n (h 46) (h 47) (sh_rl m (h 20))) 20 0 r := ⟨_, rfl⟩
  obtain ⟨hH, eX, fX, x1, tX⟩ := f_law d n m L m0 L0 _ r h h1 pA l1 l3 u1 u2 u3 u4 ρo ρr ho hr
  have g2 : ∀ j, j < x → (av_u hH 44 0 0) 50 j = nI (G j) ∧ G j < 256 := fun j hj => by
    show hH 50 j = _ ∧ _
    rw [fX 50 (by decide)]
    exact g50 j hj
  rcases c_ruleB (d + 9) x G h (av_u hH 44 0 0) hTX (by show hH 44 10 = _; rw [fX 44 (by decide)]; exact x10) g2 with ⟨m', L', k1, h2, w1, -, w3, w4, w5, w6, w7⟩ | ⟨q, k1, h2, w0, w1, -, -, -⟩
  · obtain ⟨-, e⟩ := sh_inj3 u1 w1
    subst e
    have em : m' = m0 := (nI_eq (by have := w7.1; omega) (by have := u4.1; omega)).mp (w3.symm.trans u3)
    subst em
    have hL' := sh_RR_L w7
    obtain ⟨f1, f2, f3⟩ := sh_FM_u w5
    have j2 : ∀ j, j ≠ 0 → j ≠ 10 → j ≠ 11 → j ≠ 12 → j ≠ 13 → j ≠ 19 → h2 44 j = h 44 j := fun j b0 b1 b2 b3 b4 b5 => by rw [f2 j b0 b1 b2 b3 b4 b5, fX 44 (by decide)]
    obtain ⟨h3, e3, f3', w3'⟩ := c_heldB2 (d + 92) n m L 20 (h 20) h2 r a1 (by decide) (by rw [j2 3 (by decide) (by decide) (by decide) (by decide) (by decide) (by decide)]; exact a5) (fun i hi => by rw [f1 48 (by decide) (by decide), fX 48 (by decide)]; exact a6 i hi) (sh_G_L9 a8) (by rw [f1 52 (by decide) (by decide), fX 52 (by decide)]; exact l3) (by rw [j2 18 (by decide) (by decide) (by decide) (by decide) (by decide) (by decide)]; exact l2) ρr (by rw [f1 46 (by decide) (by decide), fX 46 (by decide), f1 47 (by decide) (by decide), fX 47 (by decide)]; exact hr)
    have h318 : h3 44 18 = nI L := by rw [f3' 44 (by decide), j2 18 (by decide) (by decide) (by decide) (by decide) (by decide) (by decide)]; exact l2
    obtain ⟨h4, e4, f4, g4⟩ := t_law_l (d + 99) L hL40 0 (sh_bc (sh_hd n ρr)) (ρr 30) (nI L) L 0 h3 (by omega) h318 (fun j q => absurd q (Nat.not_lt_zero _))
    obtain ⟨h5, e5, f5, g5⟩ := t_lays53 (d + 98) L' hL' h4
    have q53 : h4 53 = h2 53 := by rw [f4 53 (by decide), f3' 53 (by decide)]
    have k5 : ∀ a, a ≠ 44 → a ∉ [49, 52, 53, 54, 55, 72] → h5 a = hH a := fun a b1 b2 => by
      rw [f5 a (fun z => b2 (by simp at z; simp [z])), av_u_ne b1, f4 a (fun z => b2 (by simp at z; simp [z])), f3' a (fun z => b2 (by simp at z ⊢; omega)), f1 a b1 (fun z => b2 (by simp [z]))]
    have j5 : ∀ j, j ≠ 0 → j ≠ 10 → j ≠ 11 → j ≠ 12 → j ≠ 13 → j ≠ 18 → j ≠ 19 → h5 44 j = h 44 j := fun j b0 b1 b2 b3 b4 b6 b5 => by
      rw [f5 44 (by decide)]
      show upd (h4 44) 18 _ j = _
      unfold upd
      rw [if_neg b6, f4 44 (by decide), f3' 44 (by decide), j2 j b0 b1 b2 b3 b4 b5]
    have h518 : h5 44 18 = nI L' := by rw [f5 44 (by decide)]; rfl
    obtain ⟨h6, e6, f6, w6'⟩ := c_heldB2 (d + 92) n m' L' 20 (h1 24) h5 r a1 (by decide) (by rw [j5 3 (by decide) (by decide) (by decide) (by decide) (by decide) (by decide) (by decide)]; exact a5) (fun i hi => by rw [k5 48 (by decide) (by decide), fX 48 (by decide)]; exact a6 i hi) (sh_G_L9 a8) (sh_RR_c w7 (fun k _ => rfl) (fun k hk => by rw [g5 k hk, q53])) h518 ρo (by rw [k5 46 (by decide) (by decide), fX 46 (by decide), k5 47 (by decide) (by decide), fX 47 (by decide)]; exact ho)
    obtain ⟨h7, e7, f7, g7⟩ := t_lays72 (d + 98) L hL40 h6
    obtain ⟨h8, e8, c8, f8, t8⟩ := c_ent1 (d + 98) (av_u h7 44 1 0) (Int32.toInt64 (sh_bc (sh_hd n ρo))) rfl
    obtain ⟨h9, e9, c9, f9, t9⟩ := c_enters (d + 98) h8 _ (Int32.toInt64 (sh_bc (sh_hd n ρr))) (by simp) t8
    obtain ⟨h10, e10, c10, f10, t10⟩ := c_enters (d + 98) h9 _ (Int32.toInt64 (h9 49 30)) (by simp) t9
    obtain ⟨h11, e11, c11, f11, t11⟩ := c_enters (d + 98) h10 _ (Int32.toInt64 (ρr 30)) (by simp) t10
    have z9 : h9 49 30 = ρo 30 := by
      rw [f9 49 (by decide), f8 49 (by decide), av_u_ne (by decide), f7 49 (by decide), av_u_ne (by decide)]
      exact w6'
    have fE : sh_fr [44, 45] (av_u h7 44 1 0) h11 := sh_fr_tr f8 (sh_fr_tr f9 (sh_fr_tr f10 f11 (fun _ z => z)) (fun _ z => z)) (fun _ z => z)
    have cE : sh_m (av_u h7 44 1 0) h11 := sh_m_tr c8 (sh_m_tr c9 (sh_m_tr c10 c11))
    have kE : ∀ a, a ∉ [44, 45, 49, 52, 53, 54, 55, 72] → h11 a = hH a := fun a b => by
      have b44 : a ≠ 44 := fun z => b (by simp [z])
      rw [fE a (fun z => b (by simp at z ⊢; omega)), av_u_ne b44, f7 a (fun z => b (by simp at z; simp [z])), av_u_ne b44, f6 a (fun z => b (by simp at z ⊢; omega))]
      exact k5 a b44 (fun z => b (by simp at z ⊢; omega))
    have j7 : ∀ j, j ≠ 0 → j ≠ 1 → j ≠ 10 → j ≠ 11 → j ≠ 12 → j ≠ 13 → j ≠ 18 → j ≠ 19 → (av_u h7 44 1 0) 44 j = h 44 j := fun j b0 b7 b1 b2 b3 b4 b6 b5 => by
      show upd (h7 44) 1 _ j = _
      unfold upd
      rw [if_neg b7, f7 44 (by decide)]
      show upd (h6 44) 18 _ j = _
      unfold upd
      rw [if_neg b6, f6 44 (by decide), j5 j b0 b1 b2 b3 b4 b6 b5]
    have k1 := fun a b => (kE a b).trans rfl
    have eM : av_x (d + 100) 265 [.ref 44] hH = some (sh_bc (sh_hd n ρo) - sh_bc (sh_hd n ρr), 0, h11) := by
      rw [eX7_law_r44_in, w4]
      simp only [Option.bind_some]
      rw [if_pos (by decide)]
      have e3 : av_x (d + 99) 227 [.ref 44, .int (h2 48 31), .int 20] h2 = _ := e3
      rw [e3]
      simp only [Option.bind_some]
      have e4 : av_xp (d + 99) 265 53 [.ref 44, .int 0, .int (sh_bc (sh_hd n ρr)), .int (ρr 30), .int (nI L), .int 0] [] h3 = _ := e4
      rw [w3', h318, e4, eX7_law_r44_53, f4 44 (by decide), h318, if_pos (sh_ge (Nat.le_refl _) (by omega)), show h3 44 19 = nI L' by rw [f3' 44 (by decide)]; exact w6, e5]
      simp only [Option.bind_some]
      have e6 : av_x (d + 99) 227 [.ref 44, .int (h5 48 31), .int 20] h5 = _ := e6
      rw [e6]
      simp only [Option.bind_some]
      rw [e7]
      simp only [Option.bind_some]
      rw [e8]
      simp only [Option.bind_some]
      rw [e9]
      simp only [Option.bind_some]
      rw [e10]
      simp only [Option.bind_some]
      rw [e11]
      rfl
    have F11 : sh_fr [1, 3, 4, 12, 13, 14, 15, 16, 17, 18, 22, 23, 24, 25, 26, 44, 45, 49, 52, 53, 54, 55, 72] h h11 := fun a ha => by
      rw [kE a (fun z => ha (by simp at z ⊢; omega))]
      exact fX a (fun z => ha (by simp at z ⊢; omega))
    have j11 : ∀ j, 2 ≤ j → j < 44 → j ≠ 10 → j ≠ 11 → j ≠ 12 → j ≠ 13 → j ≠ 18 → j ≠ 19 → h11 44 j = h 44 j := fun j b0 b7 b1 b2 b3 b4 b6 b5 => by
      rw [cE.2 j b0 b7]
      exact j7 j (by omega) (by omega) b1 b2 b3 b4 b6 b5
    refine ⟨_, hH, h11, eX, eM, ⟨n, r, sh_R0_up (by omega) (sh_R0_rule F11 (by decide) (by decide) (fun j hj => ?_) ?_ ?_ ⟨m, L, ?_, ?_, ?_⟩ h0)⟩, sh_PT_of (l := [Int32.toInt64 (sh_bc (sh_hd n ρo)), Int32.toInt64 (sh_bc (sh_hd n ρr)), Int32.toInt64 (ρo 30), Int32.toInt64 (ρr 30)]) (by simp) ?_ ?_⟩
    · have z := (by decide : ∀ j, j ∈ [3, 4, 22, 28, 33, 36] → 2 ≤ j ∧ j < 44 ∧ j ≠ 10 ∧ j ≠ 11 ∧ j ≠ 12 ∧ j ≠ 13 ∧ j ≠ 18 ∧ j ≠ 19) j hj
      exact j11 j z.1 z.2.1 z.2.2.1 z.2.2.2.1 z.2.2.2.2.1 z.2.2.2.2.2.1 z.2.2.2.2.2.2.1 z.2.2.2.2.2.2.2
    · rw [kE 1 (by decide)]; exact x1
    · rw [cE.2 10 (by decide) (by decide)]
      show h7 44 10 = 0
      rw [f7 44 (by decide)]
      show h6 44 10 = 0
      rw [f6 44 (by decide), f5 44 (by decide)]
      show h4 44 10 = 0
      rw [f4 44 (by decide), f3' 44 (by decide)]
      exact f3
    · rw [F11 19 (by decide)]; exact l1
    · rw [cE.2 18 (by decide) (by decide)]
      show h7 44 18 = nI L
      rw [f7 44 (by decide)]
      rfl
    · rw [F11 20 (by decide)]
      refine sh_RR_c l3 (fun k _ => rfl) (fun k hk => ?_)
      rw [fE 52 (by decide), av_u_ne (by decide), g7 k hk, f6 72 (by decide), f5 72 (by decide), av_u_ne (by decide), g4 k hk, f3' 52 (by decide), f1 52 (by decide) (by decide), fX 52 (by decide)]
    · obtain ⟨t1, t2⟩ := tX
      exact ⟨by rw [kE 3 (by decide)]; exact t1, by rw [kE 4 (by decide)]; exact t2⟩
    · rw [z9] at t11
      exact t11
  · obtain ⟨e, -⟩ := sh_inj3 u1 w1
    exact absurd e.symm (sh_q40 q (by omega)).2.1
theorem c_law_no {d N n x q0 : Nat} {G : Nat → Nat} {r : Nat → Int32} {h h1 : av_M} (h0 : sh_R0 N n r h) (hTX : sh_TX x G h) (x10 : h 44 10 = nI x) (g50 : ∀ j, j < x → h 50 j = nI (G j) ∧ G j < 256) (u0 : q0 ≤ 40) (u1 : av_x (d + 99) 11 [.ref 23, .ref 1] h = some (nI q0, 0, h1)) (u2 : sh_fr [23, 24, 25] h h1) : sh_pc d N 97 265 [] h := by
  have pB := h0.2.1
  obtain ⟨v, hv⟩ : ∃ v : Int32, v = -1 - nI q0 := ⟨_, rfl⟩
  obtain ⟨w, hw⟩ : ∃ w : Int32, w = -10000 - nI q0 := ⟨_, rfl⟩
  have hv0 : ¬ 0 ≤ v := by rw [hv]; exact (sh_q40 q0 (by omega)).2.2.2.2
  have hvw : v + 1 - 10000 = w := by rw [hv, hw]; exact (sh_q40 q0 (by omega)).2.2.2.1
  have F1 : sh_fr [1, 23, 24, 25] h (av_u h1 1 1 0) := sh_fr_u (by decide) (sh_fr_up u2 (by decide))
  have eX : av_x (d + 100) 97 [.ref 0] h = some (w, 0, av_u h1 1 1 0) := by
    rw [eX6_law_r0_in, u1]
    simp only [Option.bind_some]
    rw [if_neg (sh_q40 q0 (by omega)).1, ← hw]
  have g2 : ∀ j, j < x → (av_u (av_u h1 1 1 0) 44 0 0) 50 j = nI (G j) ∧ G j < 256 := fun j hj => by
    show h1 50 j = _ ∧ _
    rw [u2 50 (by decide)]
    exact g50 j hj
  rcases c_ruleB (d + 9) x G h (av_u (av_u h1 1 1 0) 44 0 0) hTX (by show h1 44 10 = _; rw [u2 44 (by decide)]; exact x10) g2 with ⟨m, L, k1, h3, w1, -, -⟩ | ⟨q, k1, h3, w0, w1, -, w4, w5⟩
  · obtain ⟨e, -⟩ := sh_inj3 u1 w1
    exact absurd e (sh_q40 q0 (by omega)).2.1
  · obtain ⟨e, -⟩ := sh_inj3 u1 w1
    rw [← e, ← hv] at w4
    obtain ⟨f1, f2, f3⟩ := sh_FM_u w5
    have eM : av_x (d + 100) 265 [.ref 44] (av_u h1 1 1 0) = some (w, 0, h3) := by
      rw [eX7_law_r44_in, w4]
      simp only [Option.bind_some]
      rw [if_neg hv0, hvw]
    have F4 : sh_fr [1, 23, 24, 25, 44, 53] h h3 := fun a ha => by
      rw [f1 a (fun z => ha (by simp [z])) (fun z => ha (by simp [z]))]
      exact F1 a (fun z => ha (by simp at z ⊢; omega))
    have k4 : ∀ j, j ≠ 0 → j ≠ 10 → j ≠ 11 → j ≠ 12 → j ≠ 13 → j ≠ 19 → h3 44 j = h 44 j := fun j a0 a1 a2 a3 a4 a6 => by
      rw [f2 j a0 a1 a2 a3 a4 a6, F1 44 (by decide)]
    refine ⟨w, _, h3, eX, eM, ⟨n, r, sh_R0_up (by omega) (sh_R0_rule F4 (by decide) (by decide) (fun j hj => ?_) ?_ f3 (sh_PB_s (F4 19 (by decide)) (F4 20 (by decide)) (F4 52 (by decide)) (k4 18 (by decide) (by decide) (by decide) (by decide) (by decide) (by decide)) pB) h0)⟩, by rw [F4 3 (by decide)], F4 4 (by decide), k4 1 (by decide) (by decide) (by decide) (by decide) (by decide) (by decide), F4 45 (by decide)⟩
    · have z := (by decide : ∀ j, j ∈ [3, 4, 22, 28, 33, 36] → j ≠ 0 ∧ j ≠ 10 ∧ j ≠ 11 ∧ j ≠ 12 ∧ j ≠ 13 ∧ j ≠ 19) j hj
      exact k4 j z.1 z.2.1 z.2.2.1 z.2.2.2.1 z.2.2.2.2.1 z.2.2.2.2.2
    · rw [f1 1 (by decide) (by decide)]
      rfl
theorem c_law : sh_P 97 265 [] := by
  intro d N h hN hR
  obtain ⟨⟨n, r, h0⟩, hT⟩ := hR
  obtain ⟨x, G, hTX, x10, g50⟩ := sh_PX_TX h0.2.2.1
  rcases c_ruleB (d + 9) x G h h hTX x10 g50 with ⟨m0, L0, h1, hd, u1, u2, u3, -, -, -, u4⟩ | ⟨q0, h1, hd, u0, u1, u2, -, -⟩
  · exact c_law_yes h0 hTX x10 g50 u1 u2 u3 u4
  · obtain ⟨a, k1, k2, e1, e2, R, t1, t2, t3, t4⟩ := c_law_no (d := d) h0 hTX x10 g50 u0 u1 u2
    exact ⟨a, k1, k2, e1, e2, R, sh_PT_s t1 t2 t3 t4 hT⟩
