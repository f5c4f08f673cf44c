/-! PURE, 12: the reference's rows kept -/
theorem nI_mul (a b : Nat) : nI a * nI b = nI (a * b) := by
  apply Int32.toBitVec_inj.mp
  rw [Int32.toBitVec_mul]
  unfold nI
  rw [Int32.toBitVec_ofNat', Int32.toBitVec_ofNat', Int32.toBitVec_ofNat', BitVec.ofNat_mul]
theorem sh_33 (u k : Nat) : (33 : Int32) * nI u + nI k = nI (33 * u + k) := by
  rw [show (33 : Int32) * nI u = nI (33 * u) from nI_mul 33 u, nI_add]
/-- a row of the reference's -/
def sh_RM (a u : Nat) (h : av_M) (r : Nat → Int32) : Prop := ∀ o, o < 33 → h a (33 * u + o) = r o
theorem c_putsBy_l (d u : Nat) (r : Nat → Int32) (hu : u ≤ 15) : ∀ t k (h : av_M), k + t = 33 → h 44 22 = nI u → sh_MV 48 h r → (∀ o, o < k → h 56 (33 * u + o) = r o) →
    ∃ h', av_xp d 197 2 [.ref 44, .int (nI k)] [] h = some (0, 0, h') ∧ sh_fr [56] h h' ∧ sh_RM 56 u h' r ∧ (∀ j, j < 33 * u ∨ 33 * u + 33 ≤ j → h' 56 j = h 56 j) := by
  intro t
  induction t with
  | zero =>
    intro k h e hm hv hw
    have ek : k = 33 := by omega
    subst ek
    rw [eX7_putsBy_r44_2, if_pos (show (33 : Int32) ≤ nI 33 by decide)]
    exact ⟨h, rfl, sh_fr_refl _ _, hw, fun _ _ => rfl⟩
  | succ t ih =>
    intro k h e hm hv hw
    rw [eX7_putsBy_r44_2, if_neg (show ¬ (33 : Int32) ≤ nI k from sh_lt (n := 33) (by omega) (by omega)), hm, sh_33, sh_inb (show k < 33 by omega) (by decide), sh_inb (show 33 * u + k < 528 by omega) (by decide), cond_true, cond_true, nI_1, nI_clamp (by omega), nI_clamp (by omega), hv k (by omega)]
    obtain ⟨h', e1, f1, w1, g1⟩ := ih (k + 1) (av_u h 56 (33 * u + k) (r k)) (by omega) hm hv (by
      intro o ho
      rw [av_u_eq]
      unfold upd
      by_cases e : o = k
      · rw [if_pos (by omega), e]
      · rw [if_neg (by omega)]; exact hw o (by omega))
    refine ⟨h', e1, sh_fr_tr (sh_fr_u (by decide) (sh_fr_refl _ _)) f1 (fun _ z => z), w1, ?_⟩
    intro j hj
    rw [g1 j hj, av_u_eq]
    unfold upd
    rw [if_neg (by omega)]
theorem c_putsBy (d u : Nat) (h : av_M) (r : Nat → Int32) (hu : u ≤ 15) (hm : h 44 22 = nI u) (hv : sh_MV 48 h r) :
    ∃ h', av_x (d + 1) 197 [.ref 44] h = some (0, 0, h') ∧ sh_fr [56] h h' ∧ sh_RM 56 u h' r ∧ (∀ j, j < 33 * u ∨ 33 * u + 33 ≤ j → h' 56 j = h 56 j) := by
  rw [eX7_putsBy_r44_in]
  exact c_putsBy_l d u r hu 33 0 h (by omega) hm hv (fun o ho => absurd ho (by omega))
theorem c_undo_l (d u : Nat) (r : Nat → Int32) (hu : u ≤ 15) : ∀ t k (h : av_M), k + t = 33 → h 44 22 = nI u → sh_RM 56 u h r → (∀ o, o < k → h 48 o = r o) →
    ∃ h', av_xp d 200 26 [.ref 44, .int (nI k)] [] h = some (nI u, 0, h') ∧ sh_fr [48] h h' ∧ sh_MV 48 h' r := by
  intro t
  induction t with
  | zero =>
    intro k h e hm hv hw
    have ek : k = 33 := by omega
    subst ek
    rw [eX7_undo_r44_26, if_pos (show (33 : Int32) ≤ nI 33 by decide), hm]
    exact ⟨h, rfl, sh_fr_refl _ _, hw⟩
  | succ t ih =>
    intro k h e hm hv hw
    rw [eX7_undo_r44_26, if_neg (show ¬ (33 : Int32) ≤ nI k from sh_lt (n := 33) (by omega) (by omega)), hm, sh_33, sh_inb (show k < 33 by omega) (by decide), sh_inb (show 33 * u + k < 528 by omega) (by decide), cond_true, cond_true, nI_1, nI_clamp (by omega), nI_clamp (by omega), hv k (by omega)]
    obtain ⟨h', e1, f1, w1⟩ := ih (k + 1) (av_u h 48 k (r k)) (by omega) hm hv (by
      intro o ho
      rw [av_u_eq]
      unfold upd
      by_cases e : o = k
      · rw [if_pos e, e]
      · rw [if_neg e]; exact hw o (by omega))
    exact ⟨h', e1, sh_fr_tr (sh_fr_u (by decide) (sh_fr_refl _ _)) f1 (fun _ z => z), w1⟩
theorem c_keep_l (d p : Nat) (r : Nat → Int32) (hu : p < 3) : ∀ t k (h : av_M), k + t = 33 → sh_MV 48 h r → (∀ o, o < k → h 75 (33 * p + o) = r o) →
    ∃ h', av_xp d 271 38 [.ref 44, .int (nI p), .int (nI k)] [] h = some (1, 0, h') ∧ sh_fr [75] h h' ∧ sh_RM 75 p h' r ∧ (∀ j, j < 33 * p ∨ 33 * p + 33 ≤ j → h' 75 j = h 75 j) := by
  intro t
  induction t with
  | zero =>
    intro k h e hv hw
    have ek : k = 33 := by omega
    subst ek
    rw [eX7_keep_r44_38, if_pos (show (33 : Int32) ≤ nI 33 by decide)]
    exact ⟨h, rfl, sh_fr_refl _ _, hw, fun _ _ => rfl⟩
  | succ t ih =>
    intro k h e hv hw
    rw [eX7_keep_r44_38, if_neg (show ¬ (33 : Int32) ≤ nI k from sh_lt (n := 33) (by omega) (by omega)), sh_33, sh_inb (show k < 33 by omega) (by decide), sh_inb (show 33 * p + k < 99 by omega) (by decide), cond_true, cond_true, nI_1, nI_clamp (by omega), nI_clamp (by omega), hv k (by omega)]
    obtain ⟨h', e1, f1, w1, g1⟩ := ih (k + 1) (av_u h 75 (33 * p + k) (r k)) (by omega) hv (by
      intro o ho
      rw [av_u_eq]
      unfold upd
      by_cases e : o = k
      · rw [if_pos (by omega), e]
      · rw [if_neg (by omega)]; exact hw o (by omega))
    refine ⟨h', e1, sh_fr_tr (sh_fr_u (by decide) (sh_fr_refl _ _)) f1 (fun _ z => z), w1, ?_⟩
    intro j hj
    rw [g1 j hj, av_u_eq]
    unfold upd
    rw [if_neg (by omega)]
theorem c_again_l (d p : Nat) (r : Nat → Int32) (hu : p < 3) : ∀ t k (h : av_M), k + t = 33 → sh_RM 75 p h r → (∀ o, o < k → h 48 o = r o) →
    ∃ h', av_xp d 272 43 [.ref 44, .int (nI p), .int (nI k)] [] h = some (1, 0, av_u h' 44 22 0) ∧ sh_fr [48] h h' ∧ sh_MV 48 h' r := by
  intro t
  induction t with
  | zero =>
    intro k h e hv hw
    have ek : k = 33 := by omega
    subst ek
    rw [eX7_again_r44_43, if_pos (show (33 : Int32) ≤ nI 33 by decide)]
    exact ⟨h, rfl, sh_fr_refl _ _, hw⟩
  | succ t ih =>
    intro k h e hv hw
    rw [eX7_again_r44_43, if_neg (show ¬ (33 : Int32) ≤ nI k from sh_lt (n := 33) (by omega) (by omega)), sh_33, sh_inb (show k < 33 by omega) (by decide), sh_inb (show 33 * p + k < 99 by omega) (by decide), cond_true, cond_true, nI_1, nI_clamp (by omega), nI_clamp (by omega), hv k (by omega)]
    obtain ⟨h', e1, f1, w1⟩ := ih (k + 1) (av_u h 48 k (r k)) (by omega) hv (by
      intro o ho
      rw [av_u_eq]
      unfold upd
      by_cases e : o = k
      · rw [if_pos e, e]
      · rw [if_neg e]; exact hw o (by omega))
    exact ⟨h', e1, sh_fr_tr (sh_fr_u (by decide) (sh_fr_refl _ _)) f1 (fun _ z => z), w1⟩
theorem c_adds_l (d : Nat) (v : Int32) (g0 : Nat → Int32) : ∀ t k (h : av_M), k + t = 495 → (∀ o, o < k → h 56 o = g0 (o + 33)) → (∀ o, k ≤ o → h 56 o = g0 o) →
    ∃ h', av_xp d 198 21 [.ref 44, .int v, .int (nI k)] [] h = some (v, 0, av_u h' 44 22 (h' 44 22 - 1)) ∧ sh_fr [56] h h' ∧ (∀ o, o < 495 → h' 56 o = g0 (o + 33)) := by
  intro t
  induction t with
  | zero =>
    intro k h e hw hz
    have ek : k = 495 := by omega
    subst ek
    rw [eX7_adds_r44_21, if_pos (show (495 : Int32) ≤ nI 495 by decide)]
    exact ⟨h, rfl, sh_fr_refl _ _, hw⟩
  | succ t ih =>
    intro k h e hw hz
    rw [eX7_adds_r44_21, if_neg (show ¬ (495 : Int32) ≤ nI k from sh_lt (n := 495) (by omega) (by omega)), show nI k + 33 = nI (k + 33) from nI_add k 33, sh_inb (show k < 528 by omega) (by decide), sh_inb (show k + 33 < 528 by omega) (by decide), cond_true, cond_true, nI_1, nI_clamp (by omega), nI_clamp (by omega)]
    obtain ⟨h', e1, f1, w1⟩ := ih (k + 1) (av_u h 56 k (h 56 (k + 33))) (by omega) (by
      intro o ho
      rw [av_u_eq]
      unfold upd
      by_cases e : o = k
      · rw [if_pos e, e]; exact hz _ (by omega)
      · rw [if_neg e]; exact hw o (by omega)) (by
      intro o ho
      rw [av_u_eq]
      unfold upd
      rw [if_neg (by omega)]
      exact hz o (by omega))
    exact ⟨h', e1, sh_fr_tr (sh_fr_u (by decide) (sh_fr_refl _ _)) f1 (fun _ z => z), w1⟩
theorem c_adds (d u : Nat) (v : Int32) (h : av_M) (hu : u ≤ 15) (hm : h 44 22 = nI u) :
    ∃ h', av_x (d + 1) 198 [.ref 44, .int v] h = some (v, 0, h') ∧ ((u < 15 ∧ h' = av_u h 44 22 (nI (u + 1))) ∨ (u = 15 ∧ ∃ h1, h' = av_u h1 44 22 (nI 15) ∧ sh_fr [56, 44] h h1 ∧ (∀ j, j ≠ 22 → h1 44 j = h 44 j) ∧ (∀ o, o < 495 → h1 56 o = h 56 (o + 33)))) := by
  rw [eX7_adds_r44_in, hm, nI_1]
  by_cases e : u < 15
  · rw [if_pos (show nI (u + 1) ≤ (15 : Int32) from nI_le (b := 15) (by omega) (by omega))]
    exact ⟨_, rfl, Or.inl ⟨e, rfl⟩⟩
  · have e15 : u = 15 := by omega
    subst e15
    rw [if_neg (show ¬ nI (15 + 1) ≤ (15 : Int32) by decide)]
    obtain ⟨h', e1, f1, w1⟩ := c_adds_l d v (h 56) 495 0 (av_u h 44 22 (nI 16)) (by omega) (fun o ho => absurd ho (by omega)) (fun o _ => rfl)
    refine ⟨_, e1, Or.inr ⟨rfl, h', ?_, sh_fr_tr (sh_fr_u (by decide) (sh_fr_refl _ _)) f1 (by decide), ?_, w1⟩⟩
    · rw [f1 44 (by decide), av_u_eq]
      unfold upd
      rw [if_pos rfl, show nI 16 - 1 = nI 15 from nI_pred 15]
    · intro j hj
      rw [f1 44 (by decide), av_u_eq]
      unfold upd
      rw [if_neg hj]
