/-! PURE, 53: calls: letting, the call -/
def sh_zI (p t : Nat) : Nat → Nat → Option (Nat × Nat)
  | 0, _ => none
  | T + 1, l => if sh_nv l = sh_nv (p - t - l) then some (t, l) else sh_zI p t T (l + 1)
def sh_zR (p : Nat) : Option (Nat × Nat) := match sh_zI p 1 (p + 1 - 1) 0 with
  | some z => some z
  | none => sh_zI p 2 (p + 1 - 2) 0
def sh_zA (o : Option (Nat × Nat)) : Int32 := match o with
  | some _ => 1
  | none => 0
def sh_zL (o : Option (Nat × Nat)) : List Int64 := match o with
  | some z => [Int32.toInt64 (nI z.1), Int32.toInt64 (nI z.2)]
  | none => []
theorem sh_zI_s (p t T l : Nat) : sh_zI p t (T + 1) l = if sh_nv l = sh_nv (p - t - l) then some (t, l) else sh_zI p t T (l + 1) := rfl
theorem f_let_in (d p t : Nat) (h : av_M) (hp : p < 61) (h1 : 1 ≤ t) (ht : t ≤ 2) (hw : ∀ i, i < p + 1 → h 43 i = sh_nv i) : ∀ T l, l + T = p + 1 - t → (sh_zI p t T l = none → av_xp (d + 2) 96 33 [.ref 0, .int (nI p), .int (nI t), .int (nI l)] [] h = av_xp (d + 2) 96 26 [.ref 0, .int (nI p), .int (nI (t + 1)), .int (nI (p + 1 - t))] [] h) ∧ ∀ z, sh_zI p t T l = some z → ∃ h', av_xp (d + 2) 96 33 [.ref 0, .int (nI p), .int (nI t), .int (nI l)] [] h = some (1, 0, h') ∧ sh_fr [3, 4] h h' ∧ sh_t1 (sh_zL (some z)) h' := by
  intro T
  induction T with
  | zero =>
    intro l e
    rw [eX6_letting_r0_33, if_pos ((sh_ltA hp (by omega) (by omega)).mpr (by omega)), nI_1, show l = p + 1 - t by omega]
    exact ⟨fun _ => rfl, fun z q => (nomatch q)⟩
  | succ T ih =>
    intro l e
    rw [eX6_letting_r0_33, if_neg (fun q => by have := (sh_ltA hp (by omega) (by omega)).mp q; omega), sh_ix (by omega), sh_inb (show l < 61 by omega) (by decide), sh_inb (show p - t - l < 61 by omega) (by decide), nI_clamp (by omega), nI_clamp (by omega), hw l (by omega), hw (p - t - l) (by omega), sh_zI_s, nI_1]
    simp only [cond_true]
    by_cases q : sh_nv l = sh_nv (p - t - l)
    · rw [if_pos q, if_pos q]
      refine ⟨fun q => (nomatch q), fun z q => ?_⟩
      injection q with q
      subst q
      obtain ⟨h2, e2, f2, t2⟩ := c_tell2 d h (Int32.toInt64 (nI t)) (Int32.toInt64 (nI l))
      rw [e2]
      exact ⟨h2, rfl, f2, t2⟩
    · rw [if_neg q, if_neg q]
      exact ih (l + 1) (by omega)
theorem f_let (d p : Nat) (h : av_M) (hp : p < 61) (hw : ∀ i, i < p + 1 → h 43 i = sh_nv i) (h0 : sh_t1 [] h) : ∃ h', av_xp (d + 2) 96 26 [.ref 0, .int (nI p), .int 1, .null] [] h = some (sh_zA (sh_zR p), 0, h') ∧ sh_fr [3, 4] h h' ∧ sh_t1 (sh_zL (sh_zR p)) h' := by
  obtain ⟨a1, b1⟩ := f_let_in d p 1 h hp (by omega) (by omega) hw (p + 1 - 1) 0 (by omega)
  obtain ⟨a2, b2⟩ := f_let_in d p 2 h hp (by omega) (by omega) hw (p + 1 - 2) 0 (by omega)
  rw [mX6_letting_r0_26 _ _ _ _ _ (Or.inl rfl), if_neg (by decide)]
  unfold sh_zR
  cases q1 : sh_zI p 1 (p + 1 - 1) 0 with
  | some z => exact b1 z q1
  | none =>
    have a1' : av_xp (d + 2) 96 33 [.ref 0, .int (nI p), .int 1, .int 0] [] h = _ := a1 q1
    rw [a1', mX6_letting_r0_26 _ _ _ _ _ (Or.inr ⟨_, rfl⟩), if_neg (by decide)]
    cases q2 : sh_zI p 2 (p + 1 - 2) 0 with
    | some z => exact b2 z q2
    | none =>
      have a2' : av_xp (d + 2) 96 33 [.ref 0, .int (nI p), .int (nI 2), .int 0] [] h = _ := a2 q2
      show ∃ h', av_xp (d + 2) 96 33 [.ref 0, .int (nI p), .int (nI 2), .int 0] [] h = some (0, 0, h') ∧ sh_fr [3, 4] h h' ∧ sh_t1 [] h'
      rw [a2', mX6_letting_r0_26 _ _ _ _ _ (Or.inr ⟨_, rfl⟩), if_pos (by decide)]
      exact ⟨h, rfl, sh_fr_refl _ _, h0⟩
theorem t_let_in (d p t : Nat) (h : av_M) (hp : p < 61) (h1 : 1 ≤ t) (ht : t ≤ 2) (hw : ∀ i, i < p + 1 → h 70 i = sh_nv i) (h0 : sh_t2 [] h) : ∀ T l, l + T = p + 1 - t → (sh_zI p t T l = none → av_xp (d + 1) 264 38 [.ref 44, .int (nI p), .int (nI t), .int (nI l)] [] h = av_xp (d + 1) 264 31 [.ref 44, .int (nI p), .int (nI (t + 1)), .int (nI (p + 1 - t))] [] h) ∧ ∀ z, sh_zI p t T l = some z → ∃ h', av_xp (d + 1) 264 38 [.ref 44, .int (nI p), .int (nI t), .int (nI l)] [] h = some (1, 0, h') ∧ sh_m h h' ∧ sh_t2 (sh_zL (some z)) h' := by
  intro T
  induction T with
  | zero =>
    intro l e
    rw [eX7_letting_r44_38, if_pos ((sh_ltB hp (by omega) (by omega)).mpr (by omega)), nI_1, show l = p + 1 - t by omega]
    exact ⟨fun _ => rfl, fun z q => (nomatch q)⟩
  | succ T ih =>
    intro l e
    rw [eX7_letting_r44_38, if_neg (fun q => by have := (sh_ltB hp (by omega) (by omega)).mp q; omega), sh_ix (by omega), sh_inb (show l < 61 by omega) (by decide), sh_inb (show p - t - l < 61 by omega) (by decide), nI_clamp (by omega), nI_clamp (by omega), hw l (by omega), hw (p - t - l) (by omega), sh_zI_s, nI_1]
    simp only [cond_true]
    by_cases q : sh_nv l = sh_nv (p - t - l)
    · rw [if_pos q, if_pos q]
      refine ⟨fun q => (nomatch q), fun z q => ?_⟩
      injection q with q
      subst q
      obtain ⟨h2, e2, m2, f2, t2⟩ := c_enters d h [] (Int32.toInt64 (nI t)) (by decide) h0
      obtain ⟨h3, e3, m3, f3, t3⟩ := c_enters d h2 _ (Int32.toInt64 (nI l)) (by simp) t2
      rw [e2]
      simp only [Option.bind_some]
      rw [e3]
      exact ⟨h3, rfl, sh_m_tr m2 m3, t3⟩
    · rw [if_neg q, if_neg q]
      exact ih (l + 1) (by omega)
theorem t_let (d p : Nat) (h : av_M) (hp : p < 61) (hw : ∀ i, i < p + 1 → h 70 i = sh_nv i) (h0 : sh_t2 [] h) : ∃ h', av_xp (d + 1) 264 31 [.ref 44, .int (nI p), .int 1, .null] [] h = some (sh_zA (sh_zR p), 0, h') ∧ sh_m h h' ∧ sh_t2 (sh_zL (sh_zR p)) h' := by
  obtain ⟨a1, b1⟩ := t_let_in d p 1 h hp (by omega) (by omega) hw h0 (p + 1 - 1) 0 (by omega)
  obtain ⟨a2, b2⟩ := t_let_in d p 2 h hp (by omega) (by omega) hw h0 (p + 1 - 2) 0 (by omega)
  rw [mX7_letting_r44_31 _ _ _ _ _ (Or.inl rfl), if_neg (by decide)]
  unfold sh_zR
  cases q1 : sh_zI p 1 (p + 1 - 1) 0 with
  | some z => exact b1 z q1
  | none =>
    have a1' : av_xp (d + 1) 264 38 [.ref 44, .int (nI p), .int 1, .int 0] [] h = _ := a1 q1
    rw [a1', mX7_letting_r44_31 _ _ _ _ _ (Or.inr ⟨_, rfl⟩), if_neg (by decide)]
    cases q2 : sh_zI p 2 (p + 1 - 2) 0 with
    | some z => exact b2 z q2
    | none =>
      have a2' : av_xp (d + 1) 264 38 [.ref 44, .int (nI p), .int (nI 2), .int 0] [] h = _ := a2 q2
      show ∃ h', av_xp (d + 1) 264 38 [.ref 44, .int (nI p), .int (nI 2), .int 0] [] h = some (0, 0, h') ∧ sh_m h h' ∧ sh_t2 [] h'
      rw [a2', mX7_letting_r44_31 _ _ _ _ _ (Or.inr ⟨_, rfl⟩), if_pos (by decide)]
      exact ⟨h, rfl, sh_m_refl _, h0⟩
theorem sh_R0_n {N n : Nat} {r : Nat → Int32} {h h' : av_M} (hf : sh_fr [0, 3, 4, 43] h h') (hN : sh_PN h') (H : sh_R0 N n r h) : sh_R0 N n r h' := by
  obtain ⟨pA, pB, pX, pU, pK, pF, pH, pS, pN⟩ := H
  refine ⟨?_, ?_, ?_, ?_, ?_, ?_, ?_, ?_, hN⟩
  · exact sh_PA_s (hf _ (by decide)) (hf _ (by decide)) (hf _ (by decide)) (hf _ (by decide)) (hf _ (by decide)) (hf _ (by decide)) (hf _ (by decide)) (hf _ (by decide)) (hf _ (by decide)) (hf _ (by decide)) (by rw [hf 44 (by decide)]) pA
  · exact sh_PB_s (hf _ (by decide)) (hf _ (by decide)) (hf _ (by decide)) (by rw [hf 44 (by decide)]) pB
  · exact sh_PX_s (hf _ (by decide)) (hf _ (by decide)) (by rw [hf 44 (by decide)]) (hf _ (by decide)) pX
  · exact sh_PU_s (by rw [hf 27 (by decide)]) (by rw [hf 27 (by decide)]) (hf _ (by decide)) (by rw [hf 44 (by decide)]) (hf _ (by decide)) pU
  · exact sh_PK_s (by rw [hf 27 (by decide)]) (hf _ (by decide)) (by rw [hf 44 (by decide)]) (hf _ (by decide)) (hf _ (by decide)) (hf _ (by decide)) pK
  · exact sh_PF_s (hf _ (by decide)) (hf _ (by decide)) (hf _ (by decide)) (hf _ (by decide)) (by rw [hf 44 (by decide)]) (hf _ (by decide)) (hf _ (by decide)) (hf _ (by decide)) pF
  · exact sh_PH_s (hf _ (by decide)) (hf _ (by decide)) (hf _ (by decide)) (by rw [hf 44 (by decide)]) (hf _ (by decide)) (hf _ (by decide)) pH
  · exact sh_PS_s (hf _ (by decide)) (hf _ (by decide)) (hf _ (by decide)) (hf _ (by decide)) (by rw [hf 44 (by decide)]) (hf _ (by decide)) (hf _ (by decide)) (hf _ (by decide)) pS
theorem c_letting (p : Int32) : sh_P 96 264 [.int p] := by
  intro d N h hN hR
  obtain ⟨⟨n, r, h0⟩, hT⟩ := hR
  have eM0 : ∀ h' : av_M, av_x (d + 100) 264 [.ref 44, .int p] h' = if sh_ir 0 60 p = true then ((av_x (d + 99) 263 [.ref 44, .int p] (av_u h' 44 0 0)).bind fun q2 => av_xp (d + 99) 264 31 [.ref 44, .int p, .int 1, .null] [] (av_u q2.2.2 44 1 0)) else some (-1, 0, av_u h' 44 0 0) := by
    intro h'
    rw [eX7_letting_r44_in, show (0 : Int64) = (0 : Int32).toInt64 by decide, c_inI _ p 0 60 _ _ _ rfl (by decide)]
    simp only [Option.bind_some]
    cases sh_ir 0 60 p <;> rfl
  have eX0 : av_x (d + 100) 96 [.ref 0, .int p] h = if sh_ir 0 60 p = true then ((av_x (d + 99) 150 [.ref 0, .int p] h).bind fun q1 => ((av_x (d + 99) 8 [.ref 3] q1.2.2).bind fun q2 => av_xp (d + 99) 96 26 [.ref 0, .int p, .int 1, .null] [] q2.2.2)) else some (-1, 0, h) := by
    rw [eX6_letting_r0_in]
    by_cases g1 : p < 0
    · rw [if_pos g1, sh_ir_lt g1]; rfl
    · by_cases g2 : 60 < p
      · rw [if_neg g1, if_neg (by rw [Int32.not_le]; exact g2), sh_ir_gt g2]; rfl
      · rw [if_neg g1, if_pos (by rw [← Int32.not_lt]; exact g2), sh_ir_in g1 g2, if_pos rfl]
  cases hp : sh_ir 0 60 p
  · refine ⟨-1, h, av_u h 44 0 0, ?_, ?_, ⟨n, r, sh_R0_up (by omega) (sh_R0_k (sh_k_m (sh_m_s (by decide) (sh_m_refl _))) h0)⟩, sh_PT_s rfl rfl rfl rfl hT⟩
    · rw [eX0, hp, if_neg (by decide)]
    · rw [eM0, hp, if_neg (by decide)]
  · obtain ⟨v, _, hv, rfl⟩ := sh_ir_nat (lo := 0) (hi := 60) (by decide) (by decide) hp
    obtain ⟨K, hK, k0, kw⟩ := id h0.2.2.2.2.2.2.2.2
    obtain ⟨h1, e1, f1, K1, q1, q2, q3, q4⟩ := f_nims (d + 95) v (by omega) (v + 1 - K) K h rfl hK k0 kw
    obtain ⟨h2, e2, f2, t2⟩ := f_let (d + 97) v (av_u h1 3 1 0) (by omega) (fun i hi => q4 i (by omega)) (sh_t1_nil rfl)
    have f02 : sh_fr [0, 3, 4, 43] h h2 := sh_fr_tr (sh_fr_u (a := 3) (k := 1) (v := 0) (by decide) (sh_fr_up f1 (by decide))) (sh_fr_up f2 (by decide)) (fun _ q => q)
    have R2 : sh_R0 N n r h2 := sh_R0_n f02 ⟨K1, q2, by rw [f2 0 (by decide)]; exact q3, by rw [f2 43 (by decide)]; exact q4⟩ h0
    obtain ⟨h3, e3, f3, w3⟩ := t_lay_l (d + 98) v (by omega) (v + 1) 0 .null .null (av_u h2 44 0 0) (by omega) (Or.inl ⟨rfl, rfl⟩) (fun i hi => absurd hi (by omega))
    obtain ⟨h4, e4, m4, t4⟩ := t_let (d + 98) v (av_u h3 44 1 0) (by omega) w3 (sh_t2_nil rfl)
    have m24 : sh_m h2 h4 := sh_m_tr (sh_m_s (k := 1) (v := 0) (by decide) (sh_m_tr (sh_m_s (k := 0) (v := 0) (by decide) (sh_m_refl h2)) (sh_m_of f3 (by decide)))) m4
    refine ⟨sh_zA (sh_zR v), h2, h4, ?_, ?_, ⟨n, r, sh_R0_up (by omega) (sh_R0_k (sh_k_m m24) R2)⟩, sh_PT_of (l := sh_zL (sh_zR v)) ?_ ?_ t4⟩
    · rw [eX0, hp, if_pos rfl, eX6_learnNimbers_r0_in, e1]
      simp only [Option.bind_some]
      rw [c_clear]
      exact e2
    · rw [eM0, hp, if_pos rfl, eX7_laysWorth_r44_in]
      have e3' : av_xp (d + 98) 263 2 [.ref 44, .int (nI v), .int 0, .null, .null] [] (av_u h2 44 0 0) = _ := e3
      rw [e3']
      exact e4
    · cases sh_zR v <;> simp [sh_zL]
    · unfold sh_t1 at t2 ⊢
      rw [m24.1 3 (by decide) (by decide), m24.1 4 (by decide) (by decide)]
      exact t2
