/-! PURE, 52: calls: letting -/
def sh_ne (row t l : Nat) : Nat := sh_nt.getD l 0 ^^^ sh_nt.getD (row - t - l) 0
def sh_ri (row t : Nat) (l : Nat) (a : Int32) : Int32 := a ||| ((1 : Int32) <<< (nI (sh_ne row t l) &&& 31))
def sh_ro (row t : Nat) (a : Int32) : Int32 := sh_lp (sh_ri row t) (row + 1 - t) 0 a
def sh_rc (row : Nat) : Int32 := sh_ro row 2 (sh_ro row 1 0)
def sh_mx (s : Int32) : Nat → Nat → Nat
  | 0, k => k
  | T + 1, k => if sh_b s k = true then sh_mx s T (k + 1) else k
theorem sh_nim : ∀ row, row < 61 → sh_mx (sh_rc row) 31 0 = sh_nt.getD row 0 := by decide +kernel
theorem sh_nt16 : ∀ l, l < 61 → sh_nt.getD l 0 < 16 := by decide +kernel
theorem sh_ne32 {row t l : Nat} (h1 : row < 61) (h2 : l < 61) : sh_ne row t l < 32 := by
  have := Nat.xor_lt_two_pow (n := 4) (sh_nt16 l h2) (sh_nt16 (row - t - l) (by omega))
  unfold sh_ne
  omega
theorem sh_ltA {p t l : Nat} (h1 : p < 61) (h2 : t < 4) (h3 : l < 62) : (nI p - nI t < nI l) ↔ p < l + t := by
  rw [Int32.lt_iff_toInt_lt, sh_B_sub (sh_B_nI (k := p) (N := 60) (by omega) (by omega)) (sh_B_nI (k := t) (N := 3) (by omega) (by omega)) (by omega) (by omega), nI_toInt (by omega), nI_toInt (by omega), nI_toInt (by omega)]
  omega
theorem sh_ltB {p t l : Nat} (h1 : p < 61) (h2 : t < 4) (h3 : l < 62) : (nI p < nI l + nI t) ↔ p < l + t := by
  rw [nI_add]
  exact nI_ltI (by omega) (by omega)
theorem sh_ix {p t l : Nat} (h : l + t ≤ p) : nI p - nI t - nI l = nI (p - t - l) := by
  rw [nI_sub (show t ≤ p by omega), nI_sub (show l ≤ p - t by omega)]
theorem f_nim_in (d row t : Nat) (h : av_M) (hr : row < 61) (h1 : 1 ≤ t) (ht : t ≤ 2) (hw : ∀ i, i < row → h 43 i = sh_nv i) : ∀ T l a, l + T = row + 1 - t → av_xp (d + 1) 151 12 [.ref 0, .int (nI row), .int a, .int (nI t), .int (nI l)] [] h = av_xp (d + 1) 151 4 [.ref 0, .int (nI row), .int (sh_lp (sh_ri row t) T l a), .int (nI (t + 1)), .int (nI (row + 1 - t))] [] h := by
  intro T
  induction T with
  | zero =>
    intro l a e
    rw [eX6_nimberOf_r0_12, if_pos ((sh_ltA hr (by omega) (by omega)).mpr (by omega)), nI_1, show l = row + 1 - t by omega]
    rfl
  | succ T ih =>
    intro l a e
    rw [eX6_nimberOf_r0_12, if_neg (fun q => by have := (sh_ltA hr (by omega) (by omega)).mp q; omega), sh_ix (by omega), sh_inb (show l < 61 by omega) (by decide), sh_inb (show row - t - l < 61 by omega) (by decide), nI_clamp (by omega), nI_clamp (by omega), hw l (by omega), hw (row - t - l) (by omega)]
    simp only [cond_true, nI_1]
    rw [sh_lp_s, show sh_nv l ^^^ sh_nv (row - t - l) = nI (sh_ne row t l) from nx_xor _ _]
    exact ih (l + 1) (sh_ri row t l a) (by omega)
theorem f_nim_mx (d : Nat) (R s : Int32) (h : av_M) : ∀ T k, k + T = 31 → av_xp (d + 1) 151 61 [.ref 0, .int R, .int s, .int (nI k), .int (nI k)] [] h = some (nI (sh_mx s T k), 0, h) := by
  intro T
  induction T with
  | zero =>
    intro k e
    rw [eX6_nimberOf_r0_61, show k = 31 by omega, if_pos (show (31 : Int32) ≤ nI 31 by decide)]
    rfl
  | succ T ih =>
    intro k e
    rw [eX6_nimberOf_r0_61, if_neg (show ¬ (31 : Int32) ≤ nI k from sh_lt (n := 31) (by omega) (by decide)), c_isIn]
    simp only [Option.bind_some, nI_1]
    rw [show sh_mx s (T + 1) k = if sh_b s k = true then sh_mx s T (k + 1) else k from rfl]
    cases hb : sh_b s k
    · rw [if_pos (show sh_i false = 0 from rfl), if_neg (by decide)]
    · rw [if_neg (show ¬ sh_i true = 0 by decide), if_pos rfl]
      exact ih (k + 1) (by omega)
theorem c_nim (d row : Nat) (h : av_M) (hr : row < 61) (hw : ∀ i, i < row → h 43 i = sh_nv i) : av_x (d + 2) 151 [.ref 0, .int (nI row)] h = some (sh_nv row, 0, h) := by
  have k1 : av_xp (d + 1) 151 12 [.ref 0, .int (nI row), .int 0, .int 1, .int 0] [] h = _ := f_nim_in d row 1 h hr (by omega) (by omega) hw (row + 1 - 1) 0 0 (by omega)
  have k2 : ∀ a, av_xp (d + 1) 151 12 [.ref 0, .int (nI row), .int a, .int (nI 2), .int 0] [] h = _ := fun a => f_nim_in d row 2 h hr (by omega) (by omega) hw (row + 1 - 2) 0 a (by omega)
  have k3 : ∀ s, av_xp (d + 1) 151 61 [.ref 0, .int (nI row), .int s, .int 0, .int 0] [] h = _ := fun s => f_nim_mx d (nI row) s h 31 0 (by omega)
  rw [eX6_nimberOf_r0_in, mX6_nimberOf_r0_4 _ _ _ _ _ _ (Or.inl rfl), if_neg (by decide), k1, mX6_nimberOf_r0_4 _ _ _ _ _ _ (Or.inr ⟨_, rfl⟩), if_neg (by decide), k2, mX6_nimberOf_r0_4 _ _ _ _ _ _ (Or.inr ⟨_, rfl⟩), if_pos (by decide), k3]
  rw [show sh_nv row = nI (sh_nt.getD row 0) from rfl, ← sh_nim row hr]
  rfl
/-- the table of the class, up to a place -/
def sh_PQ (p : Nat) (h : av_M) : Prop := ∃ K, p < K ∧ K ≤ 61 ∧ h 0 12 = nI K ∧ ∀ i, i < K → h 43 i = sh_nv i
theorem f_nims (d p : Nat) (hp : p < 61) : ∀ T K (h : av_M), p + 1 - K = T → K ≤ 61 → h 0 12 = nI K → (∀ i, i < K → h 43 i = sh_nv i) → ∃ h', av_xp (d + 3) 150 0 [.ref 0, .int (nI p)] [] h = some (0, 0, h') ∧ sh_fr [0, 43] h h' ∧ sh_PQ p h' := by
  intro T
  induction T with
  | zero =>
    intro K h e hK h0 hw
    rw [eX6_learnNimbers_r0_0, h0, if_pos (nI_lt (show p < K by omega) (by omega))]
    exact ⟨h, rfl, sh_fr_refl _ _, K, by omega, hK, h0, hw⟩
  | succ T ih =>
    intro K h e hK h0 hw
    rw [eX6_learnNimbers_r0_0, h0, if_neg (nI_nlt (show K ≤ p by omega) (by omega)), if_neg (show ¬ (61 : Int32) ≤ nI K from sh_lt (n := 61) (by omega) (by decide)), c_nim _ K h (by omega) hw]
    simp only [Option.bind_some]
    rw [sh_inb (show K < 61 by omega) (by decide), nI_clamp (by omega), h0, nI_1, cond_true]
    obtain ⟨h2, e2, f2, q2⟩ := ih (K + 1) (av_u (av_u h 43 K (sh_nv K)) 0 12 (nI (K + 1))) (by omega) (by omega) rfl (fun i hi => by
      show upd (h 43) K (sh_nv K) i = sh_nv i
      unfold upd
      by_cases ei : i = K
      · rw [if_pos ei, ei]
      · rw [if_neg ei]; exact hw i (by omega))
    exact ⟨h2, e2, sh_fr_tr (sh_fr_u (by decide) (sh_fr_u (by decide) (sh_fr_refl _ _))) f2 (fun _ q => q), q2⟩
/-! the reference -/
theorem t_lay0 (d : Nat) (P R : Int32) (x1 : Value) (hx : (x1 = .null) ∨ (∃ (y1 : Int32), x1 = .int y1)) : ∀ T v (h : av_M), v + T = 128 → (∀ i, i < v → h 71 i = 0) → ∃ h', av_xp d 263 9 [.ref 44, .int P, .int R, .int (nI v), x1] [] h = av_xp d 263 33 [.ref 44, .int P, .int R, .int 1, x1] [] h' ∧ sh_fr [71] h h' ∧ ∀ i, i < 128 → h' 71 i = 0 := by
  intro T
  induction T with
  | zero =>
    intro v h e hw
    rw [mX7_laysWorth_r44_9 _ _ _ _ _ _ hx, show v = 128 by omega, if_pos (show (128 : Int32) ≤ nI 128 by decide)]
    exact ⟨h, rfl, sh_fr_refl _ _, fun i hi => hw i (by omega)⟩
  | succ T ih =>
    intro v h e hw
    rw [mX7_laysWorth_r44_9 _ _ _ _ _ _ hx, if_neg (show ¬ (128 : Int32) ≤ nI v from sh_lt (n := 128) (by omega) (by decide)), sh_inb (show v < 128 by omega) (by decide), nI_clamp (by omega), sh_001, nI_1, cond_true]
    obtain ⟨h2, e2, f2, w2⟩ := ih (v + 1) (av_u h 71 v 0) (by omega) (fun i hi => by
      show upd (h 71) v 0 i = 0
      unfold upd
      by_cases ei : i = v
      · rw [if_pos ei]
      · rw [if_neg ei]; exact hw i (by omega))
    exact ⟨h2, e2, sh_fr_tr (sh_fr_u (by decide) (sh_fr_refl _ _)) f2 (fun _ q => q), w2⟩
theorem sh_ri_b {row t l v : Nat} {a : Int32} (he : sh_ne row t l < 32) (hv : v < 32) : sh_b (sh_ri row t l a) v = (sh_b a v || decide (v = sh_ne row t l)) := by
  rw [sh_b_bt _ hv, sh_b_bt _ hv]
  unfold sh_ri
  rw [b_or, b_shl _ he _ hv]
  congr 1
  obtain ⟨e, he2⟩ : ∃ e, e = sh_ne row t l := ⟨_, rfl⟩
  rw [← he2] at he ⊢
  by_cases q : v = e
  · rw [q, decide_eq_true (Nat.le_refl _), Nat.sub_self, decide_eq_true rfl]; decide
  · rw [decide_eq_false q]
    by_cases q2 : e ≤ v
    · rw [decide_eq_true q2, Bool.true_and]
      exact (by decide +kernel : ∀ j, j < 32 → j ≠ 0 → bt 1 j = false) (v - e) (by omega) (by omega)
    · rw [decide_eq_false q2, Bool.false_and]
theorem t_lay_in (d row t : Nat) (P : Int32) (hr : row < 61) (h1 : 1 ≤ t) (ht : t ≤ 2) : ∀ T l a (h : av_M), l + T = row + 1 - t → (∀ i, i < row → h 70 i = sh_nv i) → (∀ v, v < 32 → h 71 v = sh_i (sh_b a v)) → ∃ h', av_xp d 263 41 [.ref 44, .int P, .int (nI row), .int (nI t), .int (nI l)] [] h = av_xp d 263 33 [.ref 44, .int P, .int (nI row), .int (nI (t + 1)), .int (nI (row + 1 - t))] [] h' ∧ sh_fr [71] h h' ∧ ∀ v, v < 32 → h' 71 v = sh_i (sh_b (sh_lp (sh_ri row t) T l a) v) := by
  intro T
  induction T with
  | zero =>
    intro l a h e hw hb
    rw [eX7_laysWorth_r44_41, if_pos ((sh_ltB hr (by omega) (by omega)).mpr (by omega)), nI_1, show l = row + 1 - t by omega]
    exact ⟨h, rfl, sh_fr_refl _ _, hb⟩
  | succ T ih =>
    intro l a h e hw hb
    have hne := sh_ne32 (row := row) (t := t) (l := l) hr (by omega)
    rw [eX7_laysWorth_r44_41, if_neg (fun q => by have := (sh_ltB hr (by omega) (by omega)).mp q; omega), sh_ix (by omega), sh_inb (show l < 61 by omega) (by decide), sh_inb (show row - t - l < 61 by omega) (by decide), nI_clamp (by omega), nI_clamp (by omega), hw l (by omega), hw (row - t - l) (by omega), show sh_nv l ^^^ sh_nv (row - t - l) = nI (sh_ne row t l) from nx_xor _ _, sh_inb (show sh_ne row t l < 128 by omega) (by decide), nI_clamp (by omega), sh_111, nI_1]
    simp only [cond_true]
    obtain ⟨h2, e2, f2, w2⟩ := ih (l + 1) (sh_ri row t l a) (av_u h 71 (sh_ne row t l) 1) (by omega) hw (fun v hv => by
      rw [sh_ri_b hne hv]
      show upd (h 71) (sh_ne row t l) 1 v = _
      unfold upd
      by_cases ei : v = sh_ne row t l
      · rw [if_pos ei, decide_eq_true ei, Bool.or_true]; rfl
      · rw [if_neg ei, decide_eq_false ei, Bool.or_false]; exact hb v hv)
    exact ⟨h2, e2, sh_fr_tr (sh_fr_u (by decide) (sh_fr_refl _ _)) f2 (fun _ q => q), w2⟩
theorem t_lay_mx (d row : Nat) (P : Int32) (s : Int32) (x1 : Value) (hr : row < 61) (hx : (x1 = .null) ∨ (∃ (y1 : Int32), x1 = .int y1)) (h : av_M) (hb : ∀ v, v < 32 → h 71 v = sh_i (sh_b s v)) : ∀ T k, k + T = 31 → sh_mx s T k < 31 → av_xp d 263 88 [.ref 44, .int P, .int (nI row), .int (nI k), x1] [] h = av_xp d 263 2 [.ref 44, .int P, .int (nI (row + 1)), .int (nI (sh_mx s T k)), x1] [] (av_u h 70 row (nI (sh_mx s T k))) := by
  intro T
  induction T with
  | zero =>
    intro k e hm
    exact absurd (show k < 31 from hm) (by omega)
  | succ T ih =>
    intro k e hm
    rw [show sh_mx s (T + 1) k = if sh_b s k = true then sh_mx s T (k + 1) else k from rfl] at hm ⊢
    rw [mX7_laysWorth_r44_88 _ _ _ _ _ _ hx, sh_inb (show k < 128 by omega) (by decide), nI_clamp (by omega), hb k (by omega), sh_inb (show row < 61 by omega) (by decide), nI_clamp (by omega), nI_1, nI_1]
    simp only [cond_true]
    cases hq : sh_b s k
    · rw [if_pos (show sh_i false = 0 from rfl), if_neg (by decide)]
    · rw [hq, if_pos rfl] at hm
      rw [if_neg (show ¬ sh_i true = 0 by decide), if_pos rfl]
      exact ih (k + 1) (by omega) hm
theorem t_lay_row (d row : Nat) (P : Int32) (x1 x2 : Value) (hr : row < 61) (hP : ¬ P < nI row) (hx : (x1 = .null ∧ x2 = .null) ∨ (∃ (y1 : Int32) (y2 : Int32), x1 = .int y1 ∧ x2 = .int y2)) (h : av_M) (hw : ∀ i, i < row → h 70 i = sh_nv i) : ∃ y1 y2 h', av_xp d 263 2 [.ref 44, .int P, .int (nI row), x1, x2] [] h = av_xp d 263 2 [.ref 44, .int P, .int (nI (row + 1)), .int y1, .int y2] [] h' ∧ sh_fr [70, 71] h h' ∧ ∀ i, i < row + 1 → h' 70 i = sh_nv i := by
  have hx2 : (x2 = .null) ∨ (∃ (y1 : Int32), x2 = .int y1) := by
    rcases hx with ⟨_, q⟩ | ⟨_, y, _, q⟩
    · exact Or.inl q
    · exact Or.inr ⟨y, q⟩
  obtain ⟨h1, e1, f1, w1⟩ := t_lay0 d P (nI row) x2 hx2 128 0 h (by omega) (fun i hi => absurd hi (by omega))
  have e1' : av_xp d 263 9 [.ref 44, .int P, .int (nI row), .int 0, x2] [] h = _ := e1
  obtain ⟨h2, e2, f2, w2⟩ := t_lay_in d row 1 P hr (by omega) (by omega) (row + 1 - 1) 0 0 h1 (by omega) (fun i hi => by rw [f1 70 (by decide)]; exact hw i hi) (fun v hv => by rw [w1 v (by omega), sh_b_bt _ hv, b_0]; rfl)
  have e2' : av_xp d 263 41 [.ref 44, .int P, .int (nI row), .int 1, .int 0] [] h1 = _ := e2
  obtain ⟨h3, e3, f3, w3⟩ := t_lay_in d row 2 P hr (by omega) (by omega) (row + 1 - 2) 0 (sh_ro row 1 0) h2 (by omega) (fun i hi => by rw [f2 70 (by decide), f1 70 (by decide)]; exact hw i hi) w2
  have e3' : av_xp d 263 41 [.ref 44, .int P, .int (nI row), .int (nI 2), .int 0] [] h2 = _ := e3
  have hm := sh_nim row hr
  have h16 := sh_nt16 row hr
  have e4 := t_lay_mx d row P (sh_rc row) (.int (nI (row + 1 - 2))) hr (Or.inr ⟨_, rfl⟩) h3 w3 31 0 (by omega) (by rw [hm]; omega)
  have e4' : av_xp d 263 88 [.ref 44, .int P, .int (nI row), .int 0, .int (nI (row + 1 - 2))] [] h3 = _ := e4
  rw [hm] at e4'
  refine ⟨nI (sh_nt.getD row 0), nI (row + 1 - 2), av_u h3 70 row (nI (sh_nt.getD row 0)), ?_, ?_, ?_⟩
  · rw [mX7_laysWorth_r44_2 _ _ _ _ _ _ (by
      rcases hx with q | q
      · exact Or.inl q
      · exact Or.inr (Or.inr q)), if_neg hP, e1', mX7_laysWorth_r44_33 _ _ _ _ _ _ hx2, if_neg (by decide), e2', mX7_laysWorth_r44_33 _ _ _ _ _ _ (Or.inr ⟨_, rfl⟩), if_neg (by decide), e3', mX7_laysWorth_r44_33 _ _ _ _ _ _ (Or.inr ⟨_, rfl⟩), if_pos (by decide), e4']
  · exact sh_fr_u (by decide) (sh_fr_tr (sh_fr_tr (sh_fr_up f1 (by decide)) (sh_fr_up f2 (by decide)) (fun _ q => q)) (sh_fr_up f3 (by decide)) (fun _ q => q))
  · intro i hi
    show upd (h3 70) row (nI (sh_nt.getD row 0)) i = sh_nv i
    unfold upd
    by_cases ei : i = row
    · rw [if_pos ei, ei]; rfl
    · rw [if_neg ei, f3 70 (by decide), f2 70 (by decide), f1 70 (by decide)]; exact hw i (by omega)
theorem t_lay_l (d p : Nat) (hp : p < 61) : ∀ T row (x1 x2 : Value) (h : av_M), row + T = p + 1 → ((x1 = .null ∧ x2 = .null) ∨ (∃ (y1 : Int32) (y2 : Int32), x1 = .int y1 ∧ x2 = .int y2)) → (∀ i, i < row → h 70 i = sh_nv i) → ∃ h', av_xp d 263 2 [.ref 44, .int (nI p), .int (nI row), x1, x2] [] h = some (0, 0, h') ∧ sh_fr [70, 71] h h' ∧ ∀ i, i < p + 1 → h' 70 i = sh_nv i := by
  intro T
  induction T with
  | zero =>
    intro row x1 x2 h e hx hw
    rw [mX7_laysWorth_r44_2 _ _ _ _ _ _ (by
      rcases hx with q | q
      · exact Or.inl q
      · exact Or.inr (Or.inr q)), if_pos (nI_lt (show p < row by omega) (by omega))]
    exact ⟨h, rfl, sh_fr_refl _ _, fun i hi => hw i (by omega)⟩
  | succ T ih =>
    intro row x1 x2 h e hx hw
    obtain ⟨y1, y2, h1, e1, f1, w1⟩ := t_lay_row d row (nI p) x1 x2 (by omega) (nI_nlt (by omega) (by omega)) hx h hw
    obtain ⟨h2, e2, f2, w2⟩ := ih (row + 1) _ _ h1 (by omega) (Or.inr ⟨y1, y2, rfl, rfl⟩) w1
    exact ⟨h2, e1.trans e2, sh_fr_tr f1 f2 (fun _ q => q), w2⟩
