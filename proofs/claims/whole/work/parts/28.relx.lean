/-! PURE, 18: the relation of class and reference -/
/-- the worths of rows of ends -/
def sh_nt : List Nat := [0, 1, 2, 3, 1, 4, 3, 2, 1, 4, 2, 6, 4, 1, 2, 7, 1, 4, 3, 2, 1, 4, 6, 7, 4, 1, 2, 8, 5, 4, 7, 2, 1, 8, 6, 7, 4, 1, 2, 3, 1, 4, 7, 2, 1, 8, 2, 7, 4, 1, 2, 8, 1, 4, 7, 2, 1, 4, 2, 7, 4]
def sh_nv (i : Nat) : Int32 := nI (sh_nt.getD i 0)
def sh_PN (h : av_M) : Prop := ∃ K, K ≤ 61 ∧ h 0 12 = nI K ∧ ∀ i, i < K → h 43 i = sh_nv i
theorem sh_PA_s {n : Nat} {r : Nat → Int32} {h h' : av_M} (a5 : h' 5 = h 5) (a6 : h' 6 = h 6) (a7 : h' 7 = h 7) (a8 : h' 8 = h 8) (a9 : h' 9 = h 9) (a10 : h' 10 = h 10) (a11 : h' 11 = h 11) (a46 : h' 46 = h 46) (a47 : h' 47 = h 47) (a48 : h' 48 = h 48) (k : h' 44 3 = h 44 3) (hp : sh_PA n r h) : sh_PA n r h' := by
  obtain ⟨p1, p2, p3, p4, p5, p6, p7, p8⟩ := hp
  refine ⟨p1, by rw [a5]; exact p2, by rw [a5]; exact p3, ?_, by rw [k]; exact p5, ?_, ?_, p8⟩
  · unfold sh_SV at p4 ⊢
    rw [a5, show h' (5 + 3) = h (5 + 3) from a8, show h' (5 + 4) = h (5 + 4) from a9, show h' (5 + 5) = h (5 + 5) from a10, show h' (5 + 6) = h (5 + 6) from a11]
    exact p4
  · intro i hi
    rw [a48]
    exact p6 i hi
  · rw [a6, a7, a46, a47]
    exact p7
theorem sh_PB_s {h h' : av_M} (a19 : h' 19 = h 19) (a20 : h' 20 = h 20) (a52 : h' 52 = h 52) (k : h' 44 18 = h 44 18) (hp : sh_PB h) : sh_PB h' := by
  unfold sh_PB at hp ⊢
  rw [a19, a20, a52, k]
  exact hp
theorem sh_PT_s {h h' : av_M} (a3 : h' 3 1 = h 3 1) (a4 : h' 4 = h 4) (k : h' 44 1 = h 44 1) (a45 : h' 45 = h 45) (hp : sh_PT h) : sh_PT h' := by
  unfold sh_PT at hp ⊢
  rw [a3, a4, a45, k]
  exact hp
theorem sh_PX_s {h h' : av_M} (a1 : h' 1 = h 1) (a2 : h' 2 = h 2) (k : h' 44 10 = h 44 10) (a50 : h' 50 = h 50) (hp : sh_PX h) : sh_PX h' := by
  unfold sh_PX at hp ⊢
  rw [a1, a2, a50, k]
  exact hp
theorem sh_PU_s {n : Nat} {h h' : av_M} (a27 : h' 27 2 = h 27 2) (b27 : h' 27 3 = h 27 3) (a28 : h' 28 = h 28) (k : h' 44 22 = h 44 22) (a56 : h' 56 = h 56) (hp : sh_PU n h) : sh_PU n h' := by
  unfold sh_PU sh_M1 sh_M2 sh_RW sh_RM at hp ⊢
  rw [a27, b27, a28, a56, k]
  exact hp
theorem sh_PK_s {N n : Nat} {h h' : av_M} (a27 : h' 27 4 = h 27 4) (a29 : h' 29 = h 29) (k : h' 44 4 = h 44 4) (a73 : h' 73 = h 73) (a74 : h' 74 = h 74) (a75 : h' 75 = h 75) (hp : sh_PK N n h) : sh_PK N n h' := by
  unfold sh_PK sh_RW sh_RM at hp ⊢
  rw [a27, a29, a73, a74, a75, k]
  exact hp
theorem sh_PK_up {N M n : Nat} {h : av_M} (hN : N ≤ M) (hp : sh_PK N n h) : sh_PK M n h := by
  obtain ⟨c, w, K, p1, p2⟩ := hp
  exact ⟨c, w, K, by omega, p2⟩
theorem sh_PF_s {n : Nat} {h h' : av_M} (a30 : h' 30 = h 30) (a31 : h' 31 = h 31) (a32 : h' 32 = h 32) (a33 : h' 33 = h 33) (k : h' 44 28 = h 44 28) (a60 : h' 60 = h 60) (a61 : h' 61 = h 61) (a62 : h' 62 = h 62) (hp : sh_PF n h) : sh_PF n h' := by
  unfold sh_PF at hp ⊢
  rw [a30, a31, a32, a33, a60, a61, a62, k]
  exact hp
theorem sh_PH_s {h h' : av_M} (a34 : h' 34 = h 34) (a35 : h' 35 = h 35) (a36 : h' 36 = h 36) (k : h' 44 33 = h 44 33) (a64 : h' 64 = h 64) (a65 : h' 65 = h 65) (hp : sh_PH h) : sh_PH h' := by
  unfold sh_PH at hp ⊢
  rw [a34, a35, a36, a64, a65, k]
  exact hp
theorem sh_PS_s {h h' : av_M} (a38 : h' 38 = h 38) (a39 : h' 39 = h 39) (a40 : h' 40 = h 40) (a41 : h' 41 = h 41) (k : h' 44 36 = h 44 36) (a66 : h' 66 = h 66) (a67 : h' 67 = h 67) (a68 : h' 68 = h 68) (hp : sh_PS h) : sh_PS h' := by
  unfold sh_PS at hp ⊢
  rw [a38, a39, a40, a41, a66, a67, a68, k]
  exact hp
theorem sh_PN_s {h h' : av_M} (a0 : h' 0 12 = h 0 12) (a43 : h' 43 = h 43) (hp : sh_PN h) : sh_PN h' := by
  unfold sh_PN at hp ⊢
  rw [a0, a43]
  exact hp
/-- all but the told rows -/
def sh_R0 (N n : Nat) (r : Nat → Int32) (h : av_M) : Prop := sh_PA n r h ∧ sh_PB h ∧ sh_PX h ∧ sh_PU n h ∧ sh_PK N n h ∧ sh_PF n h ∧ sh_PH h ∧ sh_PS h ∧ sh_PN h
def sh_Rel (N : Nat) (h : av_M) : Prop := (∃ n r, sh_R0 N n r h) ∧ sh_PT h
def sh_W : List Nat := [1, 2, 5, 6, 7, 8, 9, 10, 11, 19, 20, 27, 28, 29, 30, 31, 32, 33, 34, 35, 36, 37, 38, 39, 40, 41, 43, 46, 47, 48, 50, 52, 56, 60, 61, 62, 64, 65, 66, 67, 68, 73, 74, 75]
def sh_J : List Nat := [3, 4, 10, 18, 22, 28, 33, 36]
def sh_k (h h' : av_M) : Prop := (∀ a, a ∈ sh_W → h' a = h a) ∧ (∀ j, j ∈ sh_J → h' 44 j = h 44 j) ∧ h' 0 12 = h 0 12
theorem sh_R0_k {N n : Nat} {r : Nat → Int32} {h h' : av_M} (hk : sh_k h h') (H : sh_R0 N n r h) : sh_R0 N n r h' := by
  obtain ⟨hw, hj, h0⟩ := hk
  obtain ⟨pA, pB, pX, pU, pK, pF, pH, pS, pN⟩ := H
  refine ⟨?_, ?_, ?_, ?_, ?_, ?_, ?_, ?_, ?_⟩
  · exact sh_PA_s (hw _ (by decide)) (hw _ (by decide)) (hw _ (by decide)) (hw _ (by decide)) (hw _ (by decide)) (hw _ (by decide)) (hw _ (by decide)) (hw _ (by decide)) (hw _ (by decide)) (hw _ (by decide)) (hj _ (by decide)) pA
  · exact sh_PB_s (hw _ (by decide)) (hw _ (by decide)) (hw _ (by decide)) (hj _ (by decide)) pB
  · exact sh_PX_s (hw _ (by decide)) (hw _ (by decide)) (hj _ (by decide)) (hw _ (by decide)) pX
  · exact sh_PU_s (by rw [hw 27 (by decide)]) (by rw [hw 27 (by decide)]) (hw _ (by decide)) (hj _ (by decide)) (hw _ (by decide)) pU
  · exact sh_PK_s (by rw [hw 27 (by decide)]) (hw _ (by decide)) (hj _ (by decide)) (hw _ (by decide)) (hw _ (by decide)) (hw _ (by decide)) pK
  · exact sh_PF_s (hw _ (by decide)) (hw _ (by decide)) (hw _ (by decide)) (hw _ (by decide)) (hj _ (by decide)) (hw _ (by decide)) (hw _ (by decide)) (hw _ (by decide)) pF
  · exact sh_PH_s (hw _ (by decide)) (hw _ (by decide)) (hw _ (by decide)) (hj _ (by decide)) (hw _ (by decide)) (hw _ (by decide)) pH
  · exact sh_PS_s (hw _ (by decide)) (hw _ (by decide)) (hw _ (by decide)) (hw _ (by decide)) (hj _ (by decide)) (hw _ (by decide)) (hw _ (by decide)) (hw _ (by decide)) pS
  · exact sh_PN_s h0 (hw _ (by decide)) pN
theorem sh_R0_up {N M n : Nat} {r : Nat → Int32} {h : av_M} (hN : N ≤ M) (H : sh_R0 N n r h) : sh_R0 M n r h := by
  obtain ⟨pA, pB, pX, pU, pK, pF, pH, pS, pN⟩ := H
  exact ⟨pA, pB, pX, pU, sh_PK_up hN pK, pF, pH, pS, pN⟩
theorem sh_k_c {h h' : av_M} (hf : sh_c h h') : sh_k h h' :=
  ⟨fun a ha => hf a ((by decide : ∀ a, a ∈ sh_W → a ∉ sh_C) a ha), fun j _ => by rw [hf 44 (by decide)], by rw [hf 0 (by decide)]⟩
theorem sh_k_m {h h' : av_M} (hf : sh_m h h') : sh_k h h' :=
  ⟨fun a ha => hf.1 a ((by decide : ∀ a, a ∈ sh_W → a ≠ 44) a ha) ((by decide : ∀ a, a ∈ sh_W → a ∉ sh_D) a ha), fun j hj => hf.2 j ((by decide : ∀ j, j ∈ sh_J → 2 ≤ j) j hj) ((by decide : ∀ j, j ∈ sh_J → j < 44) j hj), by rw [hf.1 0 (by decide) (by decide)]⟩
/-- a call of both: alike answers, and the relation again -/
def sh_P (kx km : Nat) (as : List Value) : Prop := ∀ (d N : Nat) (h : av_M), N < 1000000 → sh_Rel N h → ∃ a h1 h2, av_x (d + 100) kx (.ref 0 :: as) h = some (a, 0, h1) ∧ av_x (d + 100) km (.ref 44 :: as) h1 = some (a, 0, h2) ∧ sh_Rel (N + 1) h2
def sh_o1 (o : Option (List Int64)) (h h' : av_M) : Prop := match o with
  | none => h' 3 1 = h 3 1 ∧ h' 4 = h 4
  | some l => sh_t1 l h'
def sh_o2 (o : Option (List Int64)) (h h' : av_M) : Prop := match o with
  | none => h' 44 1 = h 44 1 ∧ h' 45 = h 45
  | some l => sh_t2 l h'
def sh_QX (d k : Nat) (as : List Value) (h : av_M) (a : Int32) (o : Option (List Int64)) : Prop := ∃ h', av_x d k as h = some (a, 0, h') ∧ sh_c h h' ∧ sh_o1 o h h'
def sh_QM (d k : Nat) (as : List Value) (h : av_M) (a : Int32) (o : Option (List Int64)) : Prop := ∃ h', av_x d k as h = some (a, 0, h') ∧ sh_m h h' ∧ sh_o2 o h h'
theorem sh_qq {kx km : Nat} {as : List Value} (H : ∀ (d N n : Nat) (r : Nat → Int32) (h : av_M), sh_R0 N n r h → sh_PT h → ∃ a o, (∀ l, o = some l → l.length ≤ 7) ∧ sh_QX (d + 100) kx (.ref 0 :: as) h a o ∧ ∀ h', sh_c h h' → sh_R0 N n r h' → sh_QM (d + 100) km (.ref 44 :: as) h' a o) : sh_P kx km as := by
  intro d N h _ hR
  obtain ⟨⟨n, r, h0⟩, hT⟩ := hR
  obtain ⟨a, o, hl, ⟨h1, e1, c1, t1⟩, hM⟩ := H d N n r h h0 hT
  have h01 := sh_R0_k (sh_k_c c1) h0
  obtain ⟨h2, e2, c2, t2⟩ := hM h1 c1 h01
  refine ⟨a, h1, h2, e1, e2, ⟨n, r, sh_R0_up (by omega) (sh_R0_k (sh_k_m c2) h01)⟩, ?_⟩
  have b3 : h2 3 = h1 3 := c2.1 3 (by decide) (by decide)
  have b4 : h2 4 = h1 4 := c2.1 4 (by decide) (by decide)
  cases o with
  | none => exact sh_PT_s (by rw [b3]; exact t1.1) (by rw [b4]; exact t1.2) (by rw [t2.1, c1 44 (by decide)]) (by rw [t2.2, c1 45 (by decide)]) hT
  | some l =>
    refine sh_PT_of (hl l rfl) ?_ t2
    unfold sh_o1 sh_t1 at t1
    unfold sh_t1
    rw [b3, b4]
    exact t1
/-- a question without told numbers -/
theorem sh_QX_n {d k : Nat} {as : List Value} {h : av_M} {a : Int32} (e : av_x d k as h = some (a, 0, h)) : sh_QX d k as h a none := ⟨h, e, sh_c_refl _, rfl, rfl⟩
theorem sh_QM_n {d k : Nat} {as : List Value} {h : av_M} {a v : Int32} (e : av_x d k as h = some (a, 0, av_u h 44 0 v)) : sh_QM d k as h a none := ⟨_, e, sh_m_s (by decide) (sh_m_refl _), rfl, rfl⟩
/-- a call that changes the state in a way: both sides, and the relation behind; what is told stays -/
def sh_pc (d N kx km : Nat) (as : List Value) (h : av_M) : Prop := ∃ a h1 h2, av_x (d + 100) kx (.ref 0 :: as) h = some (a, 0, h1) ∧ av_x (d + 100) km (.ref 44 :: as) h1 = some (a, 0, h2) ∧ (∃ n r, sh_R0 (N + 1) n r h2) ∧ h2 3 1 = h 3 1 ∧ h2 4 = h 4 ∧ h2 44 1 = h 44 1 ∧ h2 45 = h 45
theorem sh_p {kx km : Nat} {as : List Value} (H : ∀ (d N n : Nat) (r : Nat → Int32) (h : av_M), N < 1000000 → sh_R0 N n r h → sh_pc d N kx km as h) : sh_P kx km as := by
  intro d N h hN hR
  obtain ⟨⟨n, r, h0⟩, hT⟩ := hR
  obtain ⟨a, h1, h2, e1, e2, R, t1, t2, t3, t4⟩ := H d N n r h hN h0
  exact ⟨a, h1, h2, e1, e2, R, sh_PT_s t1 t2 t3 t4 hT⟩
theorem sh_ref {d N n kx km : Nat} {r : Nat → Int32} {as : List Value} {h : av_M} {a : Int32} (h0 : sh_R0 N n r h) (eX : av_x (d + 100) kx (.ref 0 :: as) h = some (a, 0, h)) (eM : av_x (d + 100) km (.ref 44 :: as) h = some (a, 0, av_u h 44 0 0)) : sh_pc d N kx km as h :=
  ⟨a, h, _, eX, eM, ⟨n, r, sh_R0_up (by omega) (sh_R0_k (sh_k_m (sh_m_s (by decide) (sh_m_refl _))) h0)⟩, rfl, rfl, rfl, rfl⟩
