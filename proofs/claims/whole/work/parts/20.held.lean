/-! PURE, 9: HOURS on, copies, how long one HOLDS -/
theorem c_copies_l (d : Nat) (r : Nat → Int32) : ∀ t k (h : av_M), k + t = 33 → sh_MV 48 h r → (∀ i, i < k → h 49 i = r i) →
    ∃ h', av_xp d 172 2 [.ref 49, .ref 48, .int (nI k)] [] h = some (0, 0, h') ∧ sh_fr [49] h h' ∧ sh_MV 49 h' r := by
  intro t
  induction t with
  | zero =>
    intro k h e hv hw
    rw [eX7_copies_r49_r48_2, if_pos (show (33 : Int32) ≤ nI k by rw [show k = 33 by omega]; decide)]
    exact ⟨h, rfl, sh_fr_refl _ _, fun i hi => hw i (by omega)⟩
  | succ t ih =>
    intro k h e hv hw
    rw [eX7_copies_r49_r48_2, if_neg (show ¬ (33 : Int32) ≤ nI k from sh_lt (n := 33) (by omega) (by omega)), sh_inb (show k < 33 by omega) (by decide), cond_true, cond_true, nI_1, nI_clamp (by omega), hv k (by omega)]
    obtain ⟨h', e1, f1, v1⟩ := ih (k + 1) (av_u h 49 k (r k)) (by omega) (fun i hi => hv i hi) (by
      intro i hi
      rw [av_u_eq]
      unfold upd
      by_cases e : i = k
      · rw [if_pos e, e]
      · rw [if_neg e]; exact hw i (by omega))
    exact ⟨h', e1, sh_fr_tr (sh_fr_u (by decide) (sh_fr_refl _ _)) f1 (fun _ z => z), v1⟩
theorem c_copies (d : Nat) (h : av_M) (r : Nat → Int32) (hv : sh_MV 48 h r) : ∃ h', av_x (d + 1) 172 [.ref 49, .ref 48] h = some (0, 0, h') ∧ sh_fr [49] h h' ∧ sh_MV 49 h' r := by
  rw [eX7_copies_r49_r48_in]
  exact c_copies_l d r 33 0 h (by omega) hv (fun i hi => absurd hi (by omega))
/-- the class's copy of a sail -/
def sh_cpy (k : Nat) (h h' : av_M) : Prop := ∀ j, j < k → h' 13 j = h 6 j ∧ h' 14 j = h 7 j ∧ h' 15 j = h 8 j ∧ h' 16 j = h 9 j ∧ h' 17 j = h 10 j ∧ h' 18 j = h 11 j
theorem c_copy_l (d : Nat) (r : Nat → Int32) : ∀ t k (h : av_M), k + t = 7 → sh_SV 5 h r → (∀ j, j < k → h 13 j = h 6 j ∧ h 14 j = h 7 j ∧ h 15 j = h 8 j ∧ h 16 j = h 9 j ∧ h 17 j = h 10 j ∧ h 18 j = h 11 j) →
    ∃ h', av_xp d 45 2 [.ref 12, .ref 5, .int (nI k)] [] h = some (0, 0, h') ∧ sh_fr [12, 13, 14, 15, 16, 17, 18] h h' ∧ sh_SV 12 h' r ∧ h' 12 6 = h 5 6 ∧ h' 12 7 = h 5 7 ∧ (∀ j, j < 7 → h' 13 j = h 6 j) ∧ (∀ j, j < 7 → h' 14 j = h 7 j) := by
  intro t
  induction t with
  | zero =>
    intro k h e hv hw
    obtain ⟨v1, v2, v3, v4, v5, v6, v7, v8, v9⟩ := id hv
    rw [eX4_copy_r12_r5_2, if_pos (show (7 : Int32) ≤ nI k by rw [show k = 7 by omega]; decide)]
    have ek : k = 7 := by omega
    subst ek
    refine ⟨_, rfl, ?_, ⟨?_, ?_, ?_, ?_, v5, v6, v7, v8, v9⟩, rfl, rfl, fun j hj => (hw j hj).1, fun j hj => (hw j hj).2.1⟩
    · exact sh_fr_u (by decide) (sh_fr_u (by decide) (sh_fr_u (by decide) (sh_fr_u (by decide) (sh_fr_u (by decide) (sh_fr_u (by decide) (sh_fr_u (by decide) (sh_fr_refl _ _)))))))
    · intro j hj; exact (hw j hj).2.2.1.trans (v1 j hj)
    · intro j hj; exact (hw j hj).2.2.2.1.trans (v2 j hj)
    · intro j hj; exact (hw j hj).2.2.2.2.1.trans (v3 j hj)
    · intro j hj; exact (hw j hj).2.2.2.2.2.trans (v4 j hj)
  | succ t ih =>
    intro k h e hv hw
    rw [eX4_copy_r12_r5_2, if_neg (show ¬ (7 : Int32) ≤ nI k from sh_lt (n := 7) (by omega) (by omega)), sh_inb (show k < 7 by omega) (by decide), nI_1, nI_clamp (by omega)]
    simp only [cond_true]
    have hf : sh_fr [12, 13, 14, 15, 16, 17, 18] h (av_u (av_u (av_u (av_u (av_u (av_u h 13 k (h 6 k)) 14 k (h 7 k)) 15 k (h 8 k)) 16 k (h 9 k)) 17 k (h 10 k)) 18 k (h 11 k)) := sh_fr_u (by decide) (sh_fr_u (by decide) (sh_fr_u (by decide) (sh_fr_u (by decide) (sh_fr_u (by decide) (sh_fr_u (by decide) (sh_fr_refl _ _))))))
    have up : ∀ (f g : Nat → Int32), (∀ j, j < k → f j = g j) → ∀ j, j < k + 1 → upd f k (g k) j = g j := by
      intro f g hfg j hj
      unfold upd
      by_cases e : j = k
      · rw [if_pos e, e]
      · rw [if_neg e]; exact hfg j (by omega)
    obtain ⟨h', e1, f1, v1, g1, g2, g3, g4⟩ := ih (k + 1) (av_u (av_u (av_u (av_u (av_u (av_u h 13 k (h 6 k)) 14 k (h 7 k)) 15 k (h 8 k)) 16 k (h 9 k)) 17 k (h 10 k)) 18 k (h 11 k)) (by omega) hv (fun j hj => ⟨up _ _ (fun j hj => (hw j hj).1) j hj, up _ _ (fun j hj => (hw j hj).2.1) j hj, up _ _ (fun j hj => (hw j hj).2.2.1) j hj, up _ _ (fun j hj => (hw j hj).2.2.2.1) j hj, up _ _ (fun j hj => (hw j hj).2.2.2.2.1) j hj, up _ _ (fun j hj => (hw j hj).2.2.2.2.2) j hj⟩)
    exact ⟨h', e1, sh_fr_tr hf f1 (fun _ z => z), v1, g1, g2, g3, g4⟩
theorem c_copy (d : Nat) (h : av_M) (r : Nat → Int32) (hv : sh_SV 5 h r) :
    ∃ h', av_x (d + 1) 45 [.ref 12, .ref 5] h = some (0, 0, h') ∧ sh_fr [12, 13, 14, 15, 16, 17, 18] h h' ∧ sh_SV 12 h' r ∧ h' 12 6 = h 5 6 ∧ h' 12 7 = h 5 7 ∧ (∀ j, j < 7 → h' 13 j = h 6 j) ∧ (∀ j, j < 7 → h' 14 j = h 7 j) := by
  rw [eX4_copy_r12_r5_in]
  exact c_copy_l d r 7 0 h (by omega) hv (fun j hj => absurd hj (by omega))
theorem c_goesOn48_l (d n m L z : Nat) (st col str : Nat → Int32) (hn : n ≤ 7) (hz : z < 1000) : ∀ t k (h : av_M) (r : Nat → Int32), k + t = z → h 44 3 = nI n → sh_MV 48 h r → sh_L9 r → sh_RR m st L (h 52) → h 44 18 = nI L → h 46 = col → h 47 = str →
    ∃ h', av_xp (d + 5) 202 2 [.ref 44, .ref 48, .int (nI z), .int (nI k)] [] h = some (0, 0, h') ∧ sh_fr [48, 54, 55] h h' ∧ sh_MV 48 h' (sh_lp (fun _ => sh_hr n col str (sh_rl m st)) t k r) ∧ sh_L9 (sh_lp (fun _ => sh_hr n col str (sh_rl m st)) t k r) := by
  intro t
  induction t with
  | zero =>
    intro k h r e hm hv h9 hR hL h46 h47
    rw [eX7_goesOn_r44_r48_2, if_pos (sh_ge (by omega) (by omega))]
    exact ⟨h, rfl, sh_fr_refl _ _, hv, h9⟩
  | succ t ih =>
    intro k h r e hm hv h9 hR hL h46 h47
    rw [eX7_goesOn_r44_r48_2, if_neg (sh_lt (by omega) (by omega))]
    obtain ⟨h1, e1, f1, v1, l1⟩ := c_hourM48 d n m L st h r hn hm hv h9 hR hL
    rw [e1]
    simp only [Option.bind_some, nI_1]
    rw [h46, h47] at v1 l1
    obtain ⟨h2, e2, f2, v2, l2⟩ := ih (k + 1) h1 _ (by omega) (by rw [f1 44 (by decide)]; exact hm) v1 l1 (by rw [f1 52 (by decide)]; exact hR) (by rw [f1 44 (by decide)]; exact hL) (by rw [f1 46 (by decide)]; exact h46) (by rw [f1 47 (by decide)]; exact h47)
    exact ⟨h2, e2, sh_fr_tr f1 f2 (fun _ z => z), v2, l2⟩
theorem c_goesOn48 (d n m L z : Nat) (st : Nat → Int32) (h : av_M) (r : Nat → Int32) (hn : n ≤ 7) (hz : z < 1000) (hm : h 44 3 = nI n) (hv : sh_MV 48 h r) (h9 : sh_L9 r) (hR : sh_RR m st L (h 52)) (hL : h 44 18 = nI L) :
    ∃ h', av_x (d + 6) 202 [.ref 44, .ref 48, .int (nI z)] h = some (0, 0, h') ∧ sh_fr [48, 54, 55] h h' ∧ sh_MV 48 h' (sh_lp (fun _ => sh_hr n (h 46) (h 47) (sh_rl m st)) z 0 r) ∧ sh_L9 (sh_lp (fun _ => sh_hr n (h 46) (h 47) (sh_rl m st)) z 0 r) := by
  rw [eX7_goesOn_r44_r48_in]
  exact c_goesOn48_l d n m L z st _ _ hn hz z 0 h r (by omega) hm hv h9 hR hL rfl rfl
theorem c_goesOn49_l (d n m L z : Nat) (st col str : Nat → Int32) (hn : n ≤ 7) (hz : z < 1000) : ∀ t k (h : av_M) (r : Nat → Int32), k + t = z → h 44 3 = nI n → sh_MV 49 h r → sh_L9 r → sh_RR m st L (h 52) → h 44 18 = nI L → h 46 = col → h 47 = str →
    ∃ h', av_xp (d + 5) 202 2 [.ref 44, .ref 49, .int (nI z), .int (nI k)] [] h = some (0, 0, h') ∧ sh_fr [49, 54, 55] h h' ∧ sh_MV 49 h' (sh_lp (fun _ => sh_hr n col str (sh_rl m st)) t k r) ∧ sh_L9 (sh_lp (fun _ => sh_hr n col str (sh_rl m st)) t k r) := by
  intro t
  induction t with
  | zero =>
    intro k h r e hm hv h9 hR hL h46 h47
    rw [eX7_goesOn_r44_r49_2, if_pos (sh_ge (by omega) (by omega))]
    exact ⟨h, rfl, sh_fr_refl _ _, hv, h9⟩
  | succ t ih =>
    intro k h r e hm hv h9 hR hL h46 h47
    rw [eX7_goesOn_r44_r49_2, if_neg (sh_lt (by omega) (by omega))]
    obtain ⟨h1, e1, f1, v1, l1⟩ := c_hourM49 d n m L st h r hn hm hv h9 hR hL
    rw [e1]
    simp only [Option.bind_some, nI_1]
    rw [h46, h47] at v1 l1
    obtain ⟨h2, e2, f2, v2, l2⟩ := ih (k + 1) h1 _ (by omega) (by rw [f1 44 (by decide)]; exact hm) v1 l1 (by rw [f1 52 (by decide)]; exact hR) (by rw [f1 44 (by decide)]; exact hL) (by rw [f1 46 (by decide)]; exact h46) (by rw [f1 47 (by decide)]; exact h47)
    exact ⟨h2, e2, sh_fr_tr f1 f2 (fun _ z => z), v2, l2⟩
theorem c_goesOn49 (d n m L z : Nat) (st : Nat → Int32) (h : av_M) (r : Nat → Int32) (hn : n ≤ 7) (hz : z < 1000) (hm : h 44 3 = nI n) (hv : sh_MV 49 h r) (h9 : sh_L9 r) (hR : sh_RR m st L (h 52)) (hL : h 44 18 = nI L) :
    ∃ h', av_x (d + 6) 202 [.ref 44, .ref 49, .int (nI z)] h = some (0, 0, h') ∧ sh_fr [49, 54, 55] h h' ∧ sh_MV 49 h' (sh_lp (fun _ => sh_hr n (h 46) (h 47) (sh_rl m st)) z 0 r) ∧ sh_L9 (sh_lp (fun _ => sh_hr n (h 46) (h 47) (sh_rl m st)) z 0 r) := by
  rw [eX7_goesOn_r44_r49_in]
  exact c_goesOn49_l d n m L z st _ _ hn hz z 0 h r (by omega) hm hv h9 hR hL rfl rfl
