/-! PURE, 86: calls: streamer, row -/
theorem sh_R0_76 {N n : Nat} {r : Nat → Int32} {h h1 hM : av_M} (H : sh_R0 N n r h) (hc : sh_c h h1) (q : ∀ a, a ≠ 76 → hM a = h1 a) : sh_R0 N n r hM :=
  sh_R0_k ⟨fun a ha => by rw [q a ((by decide : ∀ a, a ∈ sh_W → a ≠ 76) a ha)]; exact hc a ((by decide : ∀ a, a ∈ sh_W → a ∉ sh_C) a ha), fun j _ => by rw [q 44 (by decide), hc 44 (by decide)], by rw [q 0 (by decide), hc 0 (by decide)]⟩ H
/-- what streamer tells -/
def sh_sv (n : Nat) (col str : Nat → Int32) (r : Nat → Int32) (pull : Int32) (k j : Nat) : Int32 := match j with
  | 0 => col k
  | 1 => str k
  | 2 => r k
  | 3 => r (7 + k)
  | 4 => r (14 + k)
  | 5 => r (21 + k)
  | 6 => if sh_b (r 28) k = true then 2 else sh_i (sh_b (r 29) k)
  | 7 => 20000 + sh_lk r k
  | _ => 100 + pull
theorem f_streamer (d n m L k j : Nat) (r : Nat → Int32) (h : av_M) (pA : sh_PA n r h) (l1 : h 19 3 = nI m) (l3 : sh_RR m (h 20) L (h 52)) (hk : k < n) (hj : j ≤ 8) :
    ∃ h1, av_x (d + 100) 56 [.ref 0, .int (nI k), .int (nI j)] h = some (sh_sv n (h 46) (h 47) r (sh_rl m (h 20) (sh_q n (h 46) (h 47) r k)) k j, 0, h1) ∧ sh_fr [22] h h1 := by
  obtain ⟨a1, a2, a3, a4, a5, a6, a7, a8⟩ := id pA
  obtain ⟨v1, v2, v3, v4, v5, v6, v7, v8, v9⟩ := id a4
  have kn : av_x (d + 99) 26 [.ref 5, .int (nI k)] h = some (1, 0, h) := c_knows5 (d + 98) n h k a1 a2 hk
  have hb : av_inb (nI k) 7 = true := sh_inb (by omega) (by decide)
  have ek : Int32.toNatClampNeg (nI k) = k := nI_clamp (by omega)
  have ne : ∀ i, i ≤ 8 → i ≠ j → ¬ nI j = nI i := fun i hi q z => q ((nI_eq (by omega) (by omega)).mp z).symm
  have n0 : j ≠ 0 → ¬ nI j = (0 : Int32) := fun q => ne 0 (by omega) (fun z => q z.symm)
  have n1 : j ≠ 1 → ¬ nI j = (1 : Int32) := fun q => ne 1 (by omega) (fun z => q z.symm)
  have n2 : j ≠ 2 → ¬ nI j = (2 : Int32) := fun q => ne 2 (by omega) (fun z => q z.symm)
  have n3 : j ≠ 3 → ¬ nI j = (3 : Int32) := fun q => ne 3 (by omega) (fun z => q z.symm)
  have n4 : j ≠ 4 → ¬ nI j = (4 : Int32) := fun q => ne 4 (by omega) (fun z => q z.symm)
  have n5 : j ≠ 5 → ¬ nI j = (5 : Int32) := fun q => ne 5 (by omega) (fun z => q z.symm)
  have n6 : j ≠ 6 → ¬ nI j = (6 : Int32) := fun q => ne 6 (by omega) (fun z => q z.symm)
  have n7 : j ≠ 7 → ¬ nI j = (7 : Int32) := fun q => ne 7 (by omega) (fun z => q z.symm)
  rw [eX6_streamer_r0_in, kn]
  simp only [Option.bind_some]
  rw [if_neg (show ¬ (1 : Int32) = 0 by decide)]
  by_cases e0 : j = 0
  · subst e0
    rw [if_pos (show nI 0 = (0 : Int32) from rfl), hb, cond_true, ek, (a7 k hk).1]
    exact ⟨h, rfl, sh_fr_refl _ _⟩
  rw [if_neg (n0 e0)]
  by_cases e1 : j = 1
  · subst e1
    rw [if_pos (show nI 1 = (1 : Int32) from rfl), hb, cond_true, ek, (a7 k hk).2.1]
    exact ⟨h, rfl, sh_fr_refl _ _⟩
  rw [if_neg (n1 e1)]
  by_cases e2 : j = 2
  · subst e2
    rw [if_pos (show nI 2 = (2 : Int32) from rfl), hb, cond_true, ek, show h 8 k = r k from v1 k (by omega)]
    exact ⟨h, rfl, sh_fr_refl _ _⟩
  rw [if_neg (n2 e2)]
  by_cases e3 : j = 3
  · subst e3
    rw [if_pos (show nI 3 = (3 : Int32) from rfl), hb, cond_true, ek, show h 9 k = r (7 + k) from v2 k (by omega)]
    exact ⟨h, rfl, sh_fr_refl _ _⟩
  rw [if_neg (n3 e3)]
  by_cases e4 : j = 4
  · subst e4
    rw [if_pos (show nI 4 = (4 : Int32) from rfl), hb, cond_true, ek, show h 10 k = r (14 + k) from v3 k (by omega)]
    exact ⟨h, rfl, sh_fr_refl _ _⟩
  rw [if_neg (n4 e4)]
  by_cases e5 : j = 5
  · subst e5
    rw [if_pos (show nI 5 = (5 : Int32) from rfl), hb, cond_true, ek, show h 11 k = r (21 + k) from v4 k (by omega)]
    exact ⟨h, rfl, sh_fr_refl _ _⟩
  rw [if_neg (n5 e5)]
  by_cases e6 : j = 6
  · subst e6
    rw [if_pos (show nI 6 = (6 : Int32) from rfl), eX4_fate_r5_in, v5, c_isIn]
    simp only [Option.bind_some]
    show ∃ h1, _ = some ((if sh_b (r 28) k = true then (2 : Int32) else sh_i (sh_b (r 29) k)), (0 : Int64), h1) ∧ _
    cases b8 : sh_b (r 28) k
    · rw [if_pos (show sh_i false = 0 from rfl), v6, c_isIn]
      simp only [Option.bind_some]
      cases b9 : sh_b (r 29) k
      · exact ⟨h, rfl, sh_fr_refl _ _⟩
      · exact ⟨h, rfl, sh_fr_refl _ _⟩
    · exact ⟨h, rfl, sh_fr_refl _ _⟩
  rw [if_neg (n6 e6)]
  by_cases e7 : j = 7
  · subst e7
    rw [if_pos (show nI 7 = (7 : Int32) from rfl), c_lack5 (d + 98) h k (by omega), v7, show h 10 k = r (14 + k) from v3 k (by omega), show h 11 k = r (21 + k) from v4 k (by omega)]
    exact ⟨h, rfl, sh_fr_refl _ _⟩
  have e8 : j = 8 := by omega
  subst e8
  rw [if_neg (n7 e7), if_pos (show nI 8 = (8 : Int32) from rfl), c_pull195 (d + 95) n m h r k (by omega) a1 a2 a4 l3.1 l1, sh_rl_pl l3]
  refine ⟨sh_r h 22 (sh_run m (h 20) (sh_q n (h 6) (h 7) r k) (h 22)).2, ?_, fun a ha => by unfold sh_r; rw [if_neg (fun z => ha (by simp [z]))]⟩
  have qc : sh_q n (h 6) (h 7) r k = sh_q n (h 46) (h 47) r k := sh_q_cong (fun j hj => (a7 j hj).1) (fun j hj => (a7 j hj).2.1) r hk
  rw [qc]
  rfl
theorem t_streamer (d n m L k j : Nat) (st : Nat → Int32) (r : Nat → Int32) (h : av_M) (pA : sh_PA n r h) (l2 : h 44 18 = nI L) (l3 : sh_RR m st L (h 52)) (hk : k < n) (hj : j ≤ 8) :
    ∃ h1, av_x (d + 100) 195 [.ref 44, .int (nI k), .int (nI j)] h = some (sh_sv n (h 46) (h 47) r (sh_rl m st (sh_q n (h 46) (h 47) r k)) k j, 0, h1) ∧ sh_m h h1 ∧ h1 44 0 = 0 ∧ h1 44 1 = h 44 1 ∧ h1 45 = h 45 := by
  obtain ⟨a1, a2, a3, a4, a5, a6, a7, a8⟩ := id pA
  have m0 : sh_m h (av_u h 44 0 0) := sh_m_s (by decide) (sh_m_refl _)
  have kn : av_x (d + 99) 164 [.ref 44, .int (nI k)] (av_u h 44 0 0) = some (sh_i (sh_kn n (nI k)), 0, av_u h 44 0 0) := c_isOne (d + 97) n _ (nI k) a1 a5
  have hb : av_inb (nI k) 7 = true := sh_inb (by omega) (by decide)
  have ek : Int32.toNatClampNeg (nI k) = k := nI_clamp (by omega)
  have r8 : sh_ir 0 8 (nI j) = true := sh_ir_in (nI_pos (by omega)) (show ¬ (8 : Int32) < nI j from nI_nlt (a := 8) hj (by decide))
  have ne : ∀ i, i ≤ 8 → i ≠ j → ¬ nI j = nI i := fun i hi q z => q ((nI_eq (by omega) (by omega)).mp z).symm
  have n0 : j ≠ 0 → ¬ nI j = (0 : Int32) := fun q => ne 0 (by omega) (fun z => q z.symm)
  have n1 : j ≠ 1 → ¬ nI j = (1 : Int32) := fun q => ne 1 (by omega) (fun z => q z.symm)
  have n2 : j ≠ 2 → ¬ nI j = (2 : Int32) := fun q => ne 2 (by omega) (fun z => q z.symm)
  have n3 : j ≠ 3 → ¬ nI j = (3 : Int32) := fun q => ne 3 (by omega) (fun z => q z.symm)
  have n4 : j ≠ 4 → ¬ nI j = (4 : Int32) := fun q => ne 4 (by omega) (fun z => q z.symm)
  have n5 : j ≠ 5 → ¬ nI j = (5 : Int32) := fun q => ne 5 (by omega) (fun z => q z.symm)
  have n6 : j ≠ 6 → ¬ nI j = (6 : Int32) := fun q => ne 6 (by omega) (fun z => q z.symm)
  have n7 : j ≠ 7 → ¬ nI j = (7 : Int32) := fun q => ne 7 (by omega) (fun z => q z.symm)
  have row : ∀ i, 2 ≤ i → i ≤ 5 → ((nI i : Int32) - 2) * 7 + nI k = nI ((i - 2) * 7 + k) := fun i h2 h5 => by
    rw [show (nI i : Int32) - 2 = nI (i - 2) from nI_sub (b := 2) h2, show (7 : Int32) = nI 7 from rfl, nI_mul, nI_add]
  have at' : ∀ i, i < 33 → (av_u h 44 0 0) 48 i = r i := fun i hi => a6 i hi
  rw [eX7_streamer_r44_in, kn, sh_kn_nI a1 hk]
  simp only [Option.bind_some]
  rw [if_neg (show ¬ sh_i true = 0 by decide), c_inI (d + 98) (nI j) 0 8 _ _ _ (by decide) (by decide), r8]
  simp only [Option.bind_some]
  rw [if_neg (show ¬ sh_i true = 0 by decide)]
  by_cases e0 : j = 0
  · subst e0
    rw [if_pos (show nI 0 = (0 : Int32) from rfl), hb, cond_true, ek]
    exact ⟨_, rfl, m0, rfl, rfl, rfl⟩
  rw [if_neg (n0 e0)]
  by_cases e1 : j = 1
  · subst e1
    rw [if_pos (show nI 1 = (1 : Int32) from rfl), hb, cond_true, ek]
    exact ⟨_, rfl, m0, rfl, rfl, rfl⟩
  rw [if_neg (n1 e1)]
  by_cases e2 : j = 2
  · subst e2
    rw [if_pos (show nI 2 = (2 : Int32) from rfl), row 2 (by decide) (by decide), sh_inb (show (2 - 2) * 7 + k < 33 by omega) (by decide), cond_true, nI_clamp (by omega), at' _ (by omega)]
    exact ⟨_, by rw [show (2 - 2) * 7 + k = k by omega]; rfl, m0, rfl, rfl, rfl⟩
  rw [if_neg (n2 e2)]
  by_cases e3 : j = 3
  · subst e3
    rw [if_pos (show nI 3 = (3 : Int32) from rfl), row 3 (by decide) (by decide), sh_inb (show (3 - 2) * 7 + k < 33 by omega) (by decide), cond_true, nI_clamp (by omega), at' _ (by omega)]
    exact ⟨_, rfl, m0, rfl, rfl, rfl⟩
  rw [if_neg (n3 e3)]
  by_cases e4 : j = 4
  · subst e4
    rw [if_pos (show nI 4 = (4 : Int32) from rfl), row 4 (by decide) (by decide), sh_inb (show (4 - 2) * 7 + k < 33 by omega) (by decide), cond_true, nI_clamp (by omega), at' _ (by omega)]
    exact ⟨_, rfl, m0, rfl, rfl, rfl⟩
  rw [if_neg (n4 e4)]
  by_cases e5 : j = 5
  · subst e5
    rw [if_pos (show nI 5 = (5 : Int32) from rfl), row 5 (by decide) (by decide), sh_inb (show (5 - 2) * 7 + k < 33 by omega) (by decide), cond_true, nI_clamp (by omega), at' _ (by omega)]
    exact ⟨_, rfl, m0, rfl, rfl, rfl⟩
  rw [if_neg (n5 e5)]
  by_cases e6 : j = 6
  · subst e6
    rw [if_pos (show nI 6 = (6 : Int32) from rfl), at' 28 (by decide), c_has]
    simp only [Option.bind_some]
    show ∃ h1, _ = some ((if sh_b (r 28) k = true then (2 : Int32) else sh_i (sh_b (r 29) k)), (0 : Int64), h1) ∧ _
    cases b8 : sh_b (r 28) k
    · rw [if_pos (show sh_i false = 0 from rfl), at' 29 (by decide), c_has]
      simp only [Option.bind_some]
      rw [c_flag]
      simp only [Option.bind_some]
      exact ⟨_, by rw [if_neg (by decide)], m0, rfl, rfl, rfl⟩
    · rw [if_neg (show ¬ sh_i true = 0 by decide)]
      exact ⟨_, by rw [if_pos rfl], m0, rfl, rfl, rfl⟩
  rw [if_neg (n6 e6)]
  by_cases e7 : j = 7
  · subst e7
    rw [if_pos (show nI 7 = (7 : Int32) from rfl), c_lackM48 (d + 98) _ r k (by omega) at']
    exact ⟨_, rfl, m0, rfl, rfl, rfl⟩
  have e8 : j = 8 := by omega
  subst e8
  obtain ⟨h1, p1, p2⟩ := c_pullM48 (d + 95) n m L st (av_u h 44 0 0) r k hk a1 a5 at' l3 l2
  rw [if_neg (n7 e7), if_pos (show nI 8 = (8 : Int32) from rfl), p1]
  exact ⟨h1, rfl, sh_m_tr m0 (sh_m_of p2 (by decide)), by rw [p2 44 (by decide)]; rfl, by rw [p2 44 (by decide)]; rfl, by rw [p2 45 (by decide)]; rfl⟩
/-- no such streamer, or nothing of that number -/
theorem t_streamer_no (d n : Nat) (r : Nat → Int32) (p q : Int32) (h : av_M) (pA : sh_PA n r h) (hn : sh_kn n p = false ∨ sh_ir 0 8 q = false) : av_x (d + 100) 195 [.ref 44, .int p, .int q] h = some (0, 0, av_u (av_u h 44 0 0) 44 0 1) := by
  obtain ⟨a1, a2, a3, a4, a5, a6, a7, a8⟩ := id pA
  have kn : av_x (d + 99) 164 [.ref 44, .int p] (av_u h 44 0 0) = some (sh_i (sh_kn n p), 0, av_u h 44 0 0) := c_isOne (d + 97) n _ p a1 a5
  rw [eX7_streamer_r44_in, kn]
  simp only [Option.bind_some]
  cases hp : sh_kn n p
  · rw [if_pos (show sh_i false = 0 from rfl), eX7_refuse_r44_in]
    rfl
  · have hq : sh_ir 0 8 q = false := hn.resolve_left (by rw [hp]; decide)
    rw [if_neg (show ¬ sh_i true = 0 by decide), c_inI (d + 98) q 0 8 _ _ _ (by decide) (by decide), hq]
    simp only [Option.bind_some]
    rw [if_pos (show sh_i false = 0 from rfl), eX7_refuse_r44_in]
    rfl
/-- both answer -/
theorem c_streamer (d N : Nat) (p q : Int32) (h : av_M) (hR : sh_Rel N h) :
    (∃ a h1, av_x (d + 100) 56 [.ref 0, .int p, .int q] h = some (a, 0, h1) ∧ ∀ hM : av_M, (∀ c, c ≠ 76 → hM c = h1 c) → ∃ h2, av_x (d + 100) 195 [.ref 44, .int p, .int q] hM = some (a, 0, h2) ∧ h2 44 0 = 0 ∧ h2 76 = hM 76 ∧ sh_Rel (N + 1) h2) ∨
    ((∃ b : Bool, av_x (d + 99) 26 [.ref 5, .int p] h = some (sh_i b, 0, h) ∧ (b = false ∨ sh_ir 0 8 q = false)) ∧ ∃ h2, av_x (d + 100) 195 [.ref 44, .int p, .int q] h = some (0, 0, h2) ∧ h2 44 0 = 1 ∧ sh_Rel (N + 1) h2) := by
  obtain ⟨⟨n, r, h0⟩, hT⟩ := hR
  obtain ⟨pA, pB, -⟩ := id h0
  obtain ⟨m, L, l1, l2, l3⟩ := id pB
  obtain ⟨a1, a2, -⟩ := id pA
  by_cases g : sh_kn n p = true ∧ sh_ir 0 8 q = true
  · obtain ⟨k, hk, rfl⟩ := sh_kn_of a1 g.1
    obtain ⟨j, hj, rfl⟩ : ∃ j, j ≤ 8 ∧ q = nI j := by
      have g2 := g.2
      unfold sh_ir at g2
      simp only [Bool.and_eq_true, decide_eq_true_eq] at g2
      exact nI_of2 (M := 8) (n := 8) (by decide) (by rw [Int32.not_lt]; exact g2.1) g2.2
    obtain ⟨h1, e1, f1⟩ := f_streamer d n m L k j r h pA l1 l3 hk hj
    refine Or.inl ⟨_, h1, e1, fun hM qM => ?_⟩
    have hc : sh_c h h1 := sh_c_of f1 (by decide)
    have hM0 := sh_R0_76 h0 hc qM
    have k : ∀ c, c ≠ 76 → c ∉ sh_C → hM c = h c := fun c c1 c2 => (qM c c1).trans (hc c c2)
    obtain ⟨h2, e2, m2, z0, z1, z2⟩ := t_streamer d n m L _ j (h 20) r hM hM0.1 (by rw [k 44 (by decide) (by decide)]; exact l2) (by rw [k 52 (by decide) (by decide)]; exact l3) hk hj
    rw [k 46 (by decide) (by decide), k 47 (by decide) (by decide)] at e2
    refine ⟨h2, e2, z0, m2.1 76 (by decide) (by decide), ⟨n, r, sh_R0_up (by omega) (sh_R0_k (sh_k_m m2) hM0)⟩, sh_PT_s ?_ ?_ ?_ ?_ hT⟩
    · rw [m2.1 3 (by decide) (by decide), qM 3 (by decide), f1 3 (by decide)]
    · rw [m2.1 4 (by decide) (by decide), qM 4 (by decide), f1 4 (by decide)]
    · rw [z1, k 44 (by decide) (by decide)]
    · rw [z2, k 45 (by decide) (by decide)]
  · have hn : sh_kn n p = false ∨ sh_ir 0 8 q = false := by
      cases hp : sh_kn n p
      · exact Or.inl rfl
      · cases hq : sh_ir 0 8 q
        · exact Or.inr rfl
        · exact absurd ⟨hp, hq⟩ g
    refine Or.inr ⟨⟨sh_kn n p, c_knowsp (d + 98) n h p a2, hn⟩, _, t_streamer_no d n r p q h pA hn, rfl, ⟨n, r, sh_R0_up (by omega) (sh_R0_k (sh_k_m (sh_m_s (by decide) (sh_m_s (by decide) (sh_m_refl _)))) h0)⟩, sh_PT_s rfl rfl rfl rfl hT⟩
