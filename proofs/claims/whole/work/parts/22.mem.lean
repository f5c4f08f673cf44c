/-! PURE, 11: rows kept: the class's ring and kept rows, the reference's undone and kept -/
theorem sh_nneg {b : Nat} (h : b < 2147483648) : ¬ nI b < 0 := by
  rw [Int32.not_lt]
  exact nI_pos' (by omega)
/-- where the class lays the reference's number -/
def sh_pi (o : Nat) : Nat := if o < 28 then 7 * (o % 4) + o / 4 else o
theorem sh_pi4 {k j : Nat} (hk : k < 7) (hj : j < 4) : sh_pi (4 * k + j) = 7 * j + k := by
  unfold sh_pi
  rw [if_pos (by omega)]
  omega
def sh_RW (a b : Nat) (h : av_M) (r : Nat → Int32) : Prop := ∀ o, o < 33 → h a (b + o) = r (sh_pi o)
theorem sh_u4 (g : Nat → Int32) (b : Nat) (v0 v1 v2 v3 : Int32) : ∀ j, upd (upd (upd (upd g b v0) (b + 1) v1) (b + 2) v2) (b + 3) v3 j = if j = b then v0 else if j = b + 1 then v1 else if j = b + 2 then v2 else if j = b + 3 then v3 else g j := by
  intro j
  unfold upd
  by_cases e0 : j = b
  · rw [if_neg (by omega), if_neg (by omega), if_neg (by omega), if_pos e0, if_pos e0]
  · by_cases e1 : j = b + 1
    · rw [if_neg (by omega), if_neg (by omega), if_pos e1, if_neg e0, if_pos e1]
    · by_cases e2 : j = b + 2
      · rw [if_neg (by omega), if_pos e2, if_neg e0, if_neg e1, if_pos e2]
      · by_cases e3 : j = b + 3
        · rw [if_pos e3, if_neg e0, if_neg e1, if_neg e2, if_pos e3]
        · rw [if_neg e3, if_neg e2, if_neg e1, if_neg e0, if_neg e0, if_neg e1, if_neg e2, if_neg e3]
theorem sh_u5 (g : Nat → Int32) (b : Nat) (v0 v1 v2 v3 v4 : Int32) : ∀ j, upd (upd (upd (upd (upd g b v0) (b + 1) v1) (b + 2) v2) (b + 3) v3) (b + 4) v4 j = if j = b then v0 else if j = b + 1 then v1 else if j = b + 2 then v2 else if j = b + 3 then v3 else if j = b + 4 then v4 else g j := by
  intro j
  unfold upd
  by_cases e0 : j = b
  · rw [if_neg (by omega), if_neg (by omega), if_neg (by omega), if_neg (by omega), if_pos e0, if_pos e0]
  · by_cases e1 : j = b + 1
    · rw [if_neg (by omega), if_neg (by omega), if_neg (by omega), if_pos e1, if_neg e0, if_pos e1]
    · by_cases e2 : j = b + 2
      · rw [if_neg (by omega), if_neg (by omega), if_pos e2, if_neg e0, if_neg e1, if_pos e2]
      · by_cases e3 : j = b + 3
        · rw [if_neg (by omega), if_pos e3, if_neg e0, if_neg e1, if_neg e2, if_pos e3]
        · by_cases e4 : j = b + 4
          · rw [if_pos e4, if_neg e0, if_neg e1, if_neg e2, if_neg e3, if_pos e4]
          · rw [if_neg e4, if_neg e3, if_neg e2, if_neg e1, if_neg e0, if_neg e0, if_neg e1, if_neg e2, if_neg e3, if_neg e4]
theorem c_write28_l (d b : Nat) (r : Nat → Int32) (hb : b ≤ 495) : ∀ t k (h : av_M), k + t = 7 → sh_SV 5 h r → (∀ o, o < 4 * k → h 28 (b + o) = r (sh_pi o)) →
    ∃ h', av_xp d 46 19 [.ref 5, .ref 28, .int (nI b), .int (nI (b + 4 * k)), .int (nI k)] [] h = some (0, 0, h') ∧ sh_fr [28] h h' ∧ sh_RW 28 b h' r ∧ (∀ j, j < b ∨ b + 33 ≤ j → h' 28 j = h 28 j) := by
  intro t
  induction t with
  | zero =>
    intro k h e hv hw
    have ek : k = 7 := by omega
    subst ek
    obtain ⟨v1, v2, v3, v4, v5, v6, v7, v8, v9⟩ := id hv
    rw [eX4_write_r5_r28_19, if_pos (show (7 : Int32) ≤ nI 7 by decide), show nI (b + 4 * 7) + 1 = nI (b + 28 + 1) from nI_add (b + 28) 1, show nI (b + 4 * 7) + 2 = nI (b + 28 + 2) from nI_add (b + 28) 2, show nI (b + 4 * 7) + 3 = nI (b + 28 + 3) from nI_add (b + 28) 3, show nI (b + 4 * 7) + 4 = nI (b + 28 + 4) from nI_add (b + 28) 4, show b + 4 * 7 = b + 28 from rfl]
    rw [sh_inb (show b + 28 < 528 by omega) (by decide), sh_inb (show b + 28 + 1 < 528 by omega) (by decide), sh_inb (show b + 28 + 2 < 528 by omega) (by decide), sh_inb (show b + 28 + 3 < 528 by omega) (by decide), sh_inb (show b + 28 + 4 < 528 by omega) (by decide)]
    simp only [cond_true]
    rw [nI_clamp (show b + 28 < 2 ^ 31 by omega), nI_clamp (show b + 28 + 1 < 2 ^ 31 by omega), nI_clamp (show b + 28 + 2 < 2 ^ 31 by omega), nI_clamp (show b + 28 + 3 < 2 ^ 31 by omega), nI_clamp (show b + 28 + 4 < 2 ^ 31 by omega), v5, v6, v7, v8, v9]
    refine ⟨_, rfl, sh_fr_u (by decide) (sh_fr_u (by decide) (sh_fr_u (by decide) (sh_fr_u (by decide) (sh_fr_u (by decide) (sh_fr_refl _ _))))), ?_, ?_⟩
    · intro o ho
      rw [av_u_eq, av_u_eq, av_u_eq, av_u_eq, av_u_eq, sh_u5]
      by_cases h1 : o < 28
      · rw [if_neg (by omega), if_neg (by omega), if_neg (by omega), if_neg (by omega), if_neg (by omega)]
        exact hw o (by omega)
      · unfold sh_pi
        rw [if_neg h1]
        by_cases e0 : o = 28
        · rw [if_pos (by omega), e0]
        · by_cases e1 : o = 29
          · rw [if_neg (by omega), if_pos (by omega), e1]
          · by_cases e2 : o = 30
            · rw [if_neg (by omega), if_neg (by omega), if_pos (by omega), e2]
            · by_cases e3 : o = 31
              · rw [if_neg (by omega), if_neg (by omega), if_neg (by omega), if_pos (by omega), e3]
              · rw [if_neg (by omega), if_neg (by omega), if_neg (by omega), if_neg (by omega), if_pos (by omega), show o = 32 by omega]
    · intro j hj
      rw [av_u_eq, av_u_eq, av_u_eq, av_u_eq, av_u_eq, sh_u5, if_neg (by omega), if_neg (by omega), if_neg (by omega), if_neg (by omega), if_neg (by omega)]
  | succ t ih =>
    intro k h e hv hw
    obtain ⟨v1, v2, v3, v4, v5, v6, v7, v8, v9⟩ := id hv
    rw [eX4_write_r5_r28_19, if_neg (show ¬ (7 : Int32) ≤ nI k from sh_lt (n := 7) (by omega) (by omega)), show nI (b + 4 * k) + 1 = nI (b + 4 * k + 1) from nI_add (b + 4 * k) 1, show nI (b + 4 * k) + 2 = nI (b + 4 * k + 2) from nI_add (b + 4 * k) 2, show nI (b + 4 * k) + 3 = nI (b + 4 * k + 3) from nI_add (b + 4 * k) 3, show nI (b + 4 * k) + 4 = nI (b + 4 * k + 4) from nI_add (b + 4 * k) 4]
    rw [sh_inb (show k < 7 by omega) (by decide), sh_inb (show b + 4 * k < 528 by omega) (by decide), sh_inb (show b + 4 * k + 1 < 528 by omega) (by decide), sh_inb (show b + 4 * k + 2 < 528 by omega) (by decide), sh_inb (show b + 4 * k + 3 < 528 by omega) (by decide)]
    simp only [cond_true]
    rw [nI_clamp (show b + 4 * k < 2 ^ 31 by omega), nI_clamp (show b + 4 * k + 1 < 2 ^ 31 by omega), nI_clamp (show b + 4 * k + 2 < 2 ^ 31 by omega), nI_clamp (show b + 4 * k + 3 < 2 ^ 31 by omega), nI_clamp (show k < 2 ^ 31 by omega), nI_1, v1 k (by omega), v2 k (by omega), v3 k (by omega), v4 k (by omega)]
    have hfr : sh_fr [28] h (av_u (av_u (av_u (av_u h 28 (b + 4 * k) (r k)) 28 (b + 4 * k + 1) (r (7 + k))) 28 (b + 4 * k + 2) (r (14 + k))) 28 (b + 4 * k + 3) (r (21 + k))) := sh_fr_u (by decide) (sh_fr_u (by decide) (sh_fr_u (by decide) (sh_fr_u (by decide) (sh_fr_refl _ _))))
    obtain ⟨h', e1, f1, w1, g1⟩ := ih (k + 1) _ (by omega) (sh_SV_fr hfr (by decide) hv) (by
      intro o ho
      rw [av_u_eq, av_u_eq, av_u_eq, av_u_eq, sh_u4]
      by_cases h1 : o < 4 * k
      · rw [if_neg (by omega), if_neg (by omega), if_neg (by omega), if_neg (by omega)]
        exact hw o h1
      · by_cases e0 : o = 4 * k + 0
        · rw [if_pos (by omega), e0, sh_pi4 (by omega) (by decide)]; rw [show 7 * 0 + k = k by omega]
        · by_cases e1 : o = 4 * k + 1
          · rw [if_neg (by omega), if_pos (by omega), e1, sh_pi4 (by omega) (by decide)]
          · by_cases e2 : o = 4 * k + 2
            · rw [if_neg (by omega), if_neg (by omega), if_pos (by omega), e2, sh_pi4 (by omega) (by decide)]
            · rw [if_neg (by omega), if_neg (by omega), if_neg (by omega), if_pos (by omega), show o = 4 * k + 3 by omega, sh_pi4 (by omega) (by decide)])
    rw [show b + 4 * k + 4 = b + 4 * (k + 1) by omega]
    refine ⟨h', e1, sh_fr_tr hfr f1 (fun _ z => z), w1, ?_⟩
    intro j hj
    rw [g1 j hj, av_u_eq, av_u_eq, av_u_eq, av_u_eq, sh_u4, if_neg (by omega), if_neg (by omega), if_neg (by omega), if_neg (by omega)]
theorem c_write28 (d b : Nat) (h : av_M) (r : Nat → Int32) (hb : b ≤ 495) (hv : sh_SV 5 h r) :
    ∃ h', av_x (d + 1) 46 [.ref 5, .ref 28, .int (nI b)] h = some (0, 0, h') ∧ sh_fr [28] h h' ∧ sh_RW 28 b h' r ∧ (∀ j, j < b ∨ b + 33 ≤ j → h' 28 j = h 28 j) := by
  rw [eX4_write_r5_r28_in, if_neg (sh_nneg (show b < 2147483648 by omega)), show ((528 : Int32) - 33) = nI 495 by decide, if_pos (sh_ge (show b ≤ 495 from hb) (by omega))]
  exact c_write28_l d b r hb 7 0 h (by omega) hv (fun o ho => absurd ho (by omega))
theorem c_readBack28_l (d b : Nat) (r : Nat → Int32) (hb : b ≤ 495) : ∀ t k (h : av_M), k + t = 7 → sh_RW 28 b h r → (∀ o, o < k → h 8 o = r o ∧ h 9 o = r (7 + o) ∧ h 10 o = r (14 + o) ∧ h 11 o = r (21 + o)) →
    ∃ h', av_xp d 47 19 [.ref 5, .ref 28, .int (nI b), .int (nI (b + 4 * k)), .int (nI k)] [] h = some (0, 0, h') ∧ sh_fr [5, 8, 9, 10, 11] h h' ∧ sh_SV 5 h' r ∧ h' 5 6 = h 5 6 ∧ h' 5 7 = h 5 7 := by
  intro t
  induction t with
  | zero =>
    intro k h e hv hw
    have ek : k = 7 := by omega
    subst ek
    rw [eX4_readBack_r5_r28_19, if_pos (show (7 : Int32) ≤ nI 7 by decide), show nI (b + 4 * 7) + 1 = nI (b + 29) from nI_add (b + 28) 1, show nI (b + 4 * 7) + 2 = nI (b + 30) from nI_add (b + 28) 2, show nI (b + 4 * 7) + 3 = nI (b + 31) from nI_add (b + 28) 3, show nI (b + 4 * 7) + 4 = nI (b + 32) from nI_add (b + 28) 4, show b + 4 * 7 = b + 28 from rfl]
    rw [sh_inb (show b + 28 < 528 by omega) (by decide), sh_inb (show b + 29 < 528 by omega) (by decide), sh_inb (show b + 30 < 528 by omega) (by decide), sh_inb (show b + 31 < 528 by omega) (by decide), sh_inb (show b + 32 < 528 by omega) (by decide)]
    simp only [cond_true]
    rw [nI_clamp (show b + 28 < 2 ^ 31 by omega), nI_clamp (show b + 29 < 2 ^ 31 by omega), nI_clamp (show b + 30 < 2 ^ 31 by omega), nI_clamp (show b + 31 < 2 ^ 31 by omega), nI_clamp (show b + 32 < 2 ^ 31 by omega)]
    refine ⟨_, rfl, sh_fr_u (by decide) (sh_fr_u (by decide) (sh_fr_u (by decide) (sh_fr_u (by decide) (sh_fr_u (by decide) (sh_fr_refl _ _))))), ⟨fun o ho => (hw o ho).1, fun o ho => (hw o ho).2.1, fun o ho => (hw o ho).2.2.1, fun o ho => (hw o ho).2.2.2, ?_, ?_, ?_, ?_, ?_⟩, rfl, rfl⟩
    · exact hv 28 (by decide)
    · exact hv 29 (by decide)
    · exact hv 30 (by decide)
    · exact hv 31 (by decide)
    · exact hv 32 (by decide)
  | succ t ih =>
    intro k h e hv hw
    rw [eX4_readBack_r5_r28_19, if_neg (show ¬ (7 : Int32) ≤ nI k from sh_lt (n := 7) (by omega) (by omega)), show nI (b + 4 * k) + 1 = nI (b + 4 * k + 1) from nI_add (b + 4 * k) 1, show nI (b + 4 * k) + 2 = nI (b + 4 * k + 2) from nI_add (b + 4 * k) 2, show nI (b + 4 * k) + 3 = nI (b + 4 * k + 3) from nI_add (b + 4 * k) 3, show nI (b + 4 * k) + 4 = nI (b + 4 * k + 4) from nI_add (b + 4 * k) 4]
    rw [sh_inb (show k < 7 by omega) (by decide), sh_inb (show b + 4 * k < 528 by omega) (by decide), sh_inb (show b + 4 * k + 1 < 528 by omega) (by decide), sh_inb (show b + 4 * k + 2 < 528 by omega) (by decide), sh_inb (show b + 4 * k + 3 < 528 by omega) (by decide)]
    simp only [cond_true]
    have w0 : h 28 (b + 4 * k) = r k := by rw [show b + 4 * k = b + (4 * k + 0) by omega, hv _ (by omega), sh_pi4 (by omega) (by decide)]; rw [show 7 * 0 + k = k by omega]
    have w1 : h 28 (b + 4 * k + 1) = r (7 + k) := by rw [show b + 4 * k + 1 = b + (4 * k + 1) by omega, hv _ (by omega), sh_pi4 (by omega) (by decide)]
    have w2 : h 28 (b + 4 * k + 2) = r (14 + k) := by rw [show b + 4 * k + 2 = b + (4 * k + 2) by omega, hv _ (by omega), sh_pi4 (by omega) (by decide)]
    have w3 : h 28 (b + 4 * k + 3) = r (21 + k) := by rw [show b + 4 * k + 3 = b + (4 * k + 3) by omega, hv _ (by omega), sh_pi4 (by omega) (by decide)]
    rw [nI_clamp (show b + 4 * k < 2 ^ 31 by omega), nI_clamp (show b + 4 * k + 1 < 2 ^ 31 by omega), nI_clamp (show b + 4 * k + 2 < 2 ^ 31 by omega), nI_clamp (show b + 4 * k + 3 < 2 ^ 31 by omega), nI_clamp (show k < 2 ^ 31 by omega), nI_1, w0, w1, w2, w3]
    have hfr : sh_fr [5, 8, 9, 10, 11] h (av_u (av_u (av_u (av_u h 8 k (r k)) 9 k (r (7 + k))) 10 k (r (14 + k))) 11 k (r (21 + k))) := sh_fr_u (by decide) (sh_fr_u (by decide) (sh_fr_u (by decide) (sh_fr_u (by decide) (sh_fr_refl _ _))))
    have up : ∀ (f : Nat → Int32) (i : Nat), (∀ o, o < k → f o = r (i + o)) → ∀ o, o < k + 1 → upd f k (r (i + k)) o = r (i + o) := by
      intro f i hf o ho
      unfold upd
      by_cases e : o = k
      · rw [if_pos e, e]
      · rw [if_neg e]; exact hf o (by omega)
    have up0 : ∀ (f : Nat → Int32), (∀ o, o < k → f o = r o) → ∀ o, o < k + 1 → upd f k (r k) o = r o := by
      intro f hf o ho
      unfold upd
      by_cases e : o = k
      · rw [if_pos e, e]
      · rw [if_neg e]; exact hf o (by omega)
    obtain ⟨h', e1, f1, s1, g1, g2⟩ := ih (k + 1) (av_u (av_u (av_u (av_u h 8 k (r k)) 9 k (r (7 + k))) 10 k (r (14 + k))) 11 k (r (21 + k))) (by omega) hv (fun o ho => ⟨up0 _ (fun o ho => (hw o ho).1) o ho, up _ 7 (fun o ho => (hw o ho).2.1) o ho, up _ 14 (fun o ho => (hw o ho).2.2.1) o ho, up _ 21 (fun o ho => (hw o ho).2.2.2) o ho⟩)
    rw [show b + 4 * k + 4 = b + 4 * (k + 1) by omega]
    exact ⟨h', e1, sh_fr_tr hfr f1 (fun _ z => z), s1, g1, g2⟩
theorem c_readBack28 (d b : Nat) (h : av_M) (r : Nat → Int32) (hb : b ≤ 495) (hv : sh_RW 28 b h r) :
    ∃ h', av_x (d + 1) 47 [.ref 5, .ref 28, .int (nI b)] h = some (0, 0, h') ∧ sh_fr [5, 8, 9, 10, 11] h h' ∧ sh_SV 5 h' r ∧ h' 5 6 = h 5 6 ∧ h' 5 7 = h 5 7 := by
  rw [eX4_readBack_r5_r28_in, if_neg (sh_nneg (show b < 2147483648 by omega)), show ((528 : Int32) - 33) = nI 495 by decide, if_pos (sh_ge (show b ≤ 495 from hb) (by omega))]
  exact c_readBack28_l d b r hb 7 0 h (by omega) hv (fun o ho => absurd ho (by omega))
theorem c_write29_l (d b : Nat) (r : Nat → Int32) (hb : b ≤ 66) : ∀ t k (h : av_M), k + t = 7 → sh_SV 5 h r → (∀ o, o < 4 * k → h 29 (b + o) = r (sh_pi o)) →
    ∃ h', av_xp d 46 19 [.ref 5, .ref 29, .int (nI b), .int (nI (b + 4 * k)), .int (nI k)] [] h = some (0, 0, h') ∧ sh_fr [29] h h' ∧ sh_RW 29 b h' r ∧ (∀ j, j < b ∨ b + 33 ≤ j → h' 29 j = h 29 j) := by
  intro t
  induction t with
  | zero =>
    intro k h e hv hw
    have ek : k = 7 := by omega
    subst ek
    obtain ⟨v1, v2, v3, v4, v5, v6, v7, v8, v9⟩ := id hv
    rw [eX4_write_r5_r29_19, if_pos (show (7 : Int32) ≤ nI 7 by decide), show nI (b + 4 * 7) + 1 = nI (b + 28 + 1) from nI_add (b + 28) 1, show nI (b + 4 * 7) + 2 = nI (b + 28 + 2) from nI_add (b + 28) 2, show nI (b + 4 * 7) + 3 = nI (b + 28 + 3) from nI_add (b + 28) 3, show nI (b + 4 * 7) + 4 = nI (b + 28 + 4) from nI_add (b + 28) 4, show b + 4 * 7 = b + 28 from rfl]
    rw [sh_inb (show b + 28 < 99 by omega) (by decide), sh_inb (show b + 28 + 1 < 99 by omega) (by decide), sh_inb (show b + 28 + 2 < 99 by omega) (by decide), sh_inb (show b + 28 + 3 < 99 by omega) (by decide), sh_inb (show b + 28 + 4 < 99 by omega) (by decide)]
    simp only [cond_true]
    rw [nI_clamp (show b + 28 < 2 ^ 31 by omega), nI_clamp (show b + 28 + 1 < 2 ^ 31 by omega), nI_clamp (show b + 28 + 2 < 2 ^ 31 by omega), nI_clamp (show b + 28 + 3 < 2 ^ 31 by omega), nI_clamp (show b + 28 + 4 < 2 ^ 31 by omega), v5, v6, v7, v8, v9]
    refine ⟨_, rfl, sh_fr_u (by decide) (sh_fr_u (by decide) (sh_fr_u (by decide) (sh_fr_u (by decide) (sh_fr_u (by decide) (sh_fr_refl _ _))))), ?_, ?_⟩
    · intro o ho
      rw [av_u_eq, av_u_eq, av_u_eq, av_u_eq, av_u_eq, sh_u5]
      by_cases h1 : o < 28
      · rw [if_neg (by omega), if_neg (by omega), if_neg (by omega), if_neg (by omega), if_neg (by omega)]
        exact hw o (by omega)
      · unfold sh_pi
        rw [if_neg h1]
        by_cases e0 : o = 28
        · rw [if_pos (by omega), e0]
        · by_cases e1 : o = 29
          · rw [if_neg (by omega), if_pos (by omega), e1]
          · by_cases e2 : o = 30
            · rw [if_neg (by omega), if_neg (by omega), if_pos (by omega), e2]
            · by_cases e3 : o = 31
              · rw [if_neg (by omega), if_neg (by omega), if_neg (by omega), if_pos (by omega), e3]
              · rw [if_neg (by omega), if_neg (by omega), if_neg (by omega), if_neg (by omega), if_pos (by omega), show o = 32 by omega]
    · intro j hj
      rw [av_u_eq, av_u_eq, av_u_eq, av_u_eq, av_u_eq, sh_u5, if_neg (by omega), if_neg (by omega), if_neg (by omega), if_neg (by omega), if_neg (by omega)]
  | succ t ih =>
    intro k h e hv hw
    obtain ⟨v1, v2, v3, v4, v5, v6, v7, v8, v9⟩ := id hv
    rw [eX4_write_r5_r29_19, if_neg (show ¬ (7 : Int32) ≤ nI k from sh_lt (n := 7) (by omega) (by omega)), show nI (b + 4 * k) + 1 = nI (b + 4 * k + 1) from nI_add (b + 4 * k) 1, show nI (b + 4 * k) + 2 = nI (b + 4 * k + 2) from nI_add (b + 4 * k) 2, show nI (b + 4 * k) + 3 = nI (b + 4 * k + 3) from nI_add (b + 4 * k) 3, show nI (b + 4 * k) + 4 = nI (b + 4 * k + 4) from nI_add (b + 4 * k) 4]
    rw [sh_inb (show k < 7 by omega) (by decide), sh_inb (show b + 4 * k < 99 by omega) (by decide), sh_inb (show b + 4 * k + 1 < 99 by omega) (by decide), sh_inb (show b + 4 * k + 2 < 99 by omega) (by decide), sh_inb (show b + 4 * k + 3 < 99 by omega) (by decide)]
    simp only [cond_true]
    rw [nI_clamp (show b + 4 * k < 2 ^ 31 by omega), nI_clamp (show b + 4 * k + 1 < 2 ^ 31 by omega), nI_clamp (show b + 4 * k + 2 < 2 ^ 31 by omega), nI_clamp (show b + 4 * k + 3 < 2 ^ 31 by omega), nI_clamp (show k < 2 ^ 31 by omega), nI_1, v1 k (by omega), v2 k (by omega), v3 k (by omega), v4 k (by omega)]
    have hfr : sh_fr [29] h (av_u (av_u (av_u (av_u h 29 (b + 4 * k) (r k)) 29 (b + 4 * k + 1) (r (7 + k))) 29 (b + 4 * k + 2) (r (14 + k))) 29 (b + 4 * k + 3) (r (21 + k))) := sh_fr_u (by decide) (sh_fr_u (by decide) (sh_fr_u (by decide) (sh_fr_u (by decide) (sh_fr_refl _ _))))
    obtain ⟨h', e1, f1, w1, g1⟩ := ih (k + 1) _ (by omega) (sh_SV_fr hfr (by decide) hv) (by
      intro o ho
      rw [av_u_eq, av_u_eq, av_u_eq, av_u_eq, sh_u4]
      by_cases h1 : o < 4 * k
      · rw [if_neg (by omega), if_neg (by omega), if_neg (by omega), if_neg (by omega)]
        exact hw o h1
      · by_cases e0 : o = 4 * k + 0
        · rw [if_pos (by omega), e0, sh_pi4 (by omega) (by decide)]; rw [show 7 * 0 + k = k by omega]
        · by_cases e1 : o = 4 * k + 1
          · rw [if_neg (by omega), if_pos (by omega), e1, sh_pi4 (by omega) (by decide)]
          · by_cases e2 : o = 4 * k + 2
            · rw [if_neg (by omega), if_neg (by omega), if_pos (by omega), e2, sh_pi4 (by omega) (by decide)]
            · rw [if_neg (by omega), if_neg (by omega), if_neg (by omega), if_pos (by omega), show o = 4 * k + 3 by omega, sh_pi4 (by omega) (by decide)])
    rw [show b + 4 * k + 4 = b + 4 * (k + 1) by omega]
    refine ⟨h', e1, sh_fr_tr hfr f1 (fun _ z => z), w1, ?_⟩
    intro j hj
    rw [g1 j hj, av_u_eq, av_u_eq, av_u_eq, av_u_eq, sh_u4, if_neg (by omega), if_neg (by omega), if_neg (by omega), if_neg (by omega)]
theorem c_write29 (d b : Nat) (h : av_M) (r : Nat → Int32) (hb : b ≤ 66) (hv : sh_SV 5 h r) :
    ∃ h', av_x (d + 1) 46 [.ref 5, .ref 29, .int (nI b)] h = some (0, 0, h') ∧ sh_fr [29] h h' ∧ sh_RW 29 b h' r ∧ (∀ j, j < b ∨ b + 33 ≤ j → h' 29 j = h 29 j) := by
  rw [eX4_write_r5_r29_in, if_neg (sh_nneg (show b < 2147483648 by omega)), show ((99 : Int32) - 33) = nI 66 by decide, if_pos (sh_ge (show b ≤ 66 from hb) (by omega))]
  exact c_write29_l d b r hb 7 0 h (by omega) hv (fun o ho => absurd ho (by omega))
theorem c_readBack29_l (d b : Nat) (r : Nat → Int32) (hb : b ≤ 66) : ∀ t k (h : av_M), k + t = 7 → sh_RW 29 b h r → (∀ o, o < k → h 8 o = r o ∧ h 9 o = r (7 + o) ∧ h 10 o = r (14 + o) ∧ h 11 o = r (21 + o)) →
    ∃ h', av_xp d 47 19 [.ref 5, .ref 29, .int (nI b), .int (nI (b + 4 * k)), .int (nI k)] [] h = some (0, 0, h') ∧ sh_fr [5, 8, 9, 10, 11] h h' ∧ sh_SV 5 h' r ∧ h' 5 6 = h 5 6 ∧ h' 5 7 = h 5 7 := by
  intro t
  induction t with
  | zero =>
    intro k h e hv hw
    have ek : k = 7 := by omega
    subst ek
    rw [eX4_readBack_r5_r29_19, if_pos (show (7 : Int32) ≤ nI 7 by decide), show nI (b + 4 * 7) + 1 = nI (b + 29) from nI_add (b + 28) 1, show nI (b + 4 * 7) + 2 = nI (b + 30) from nI_add (b + 28) 2, show nI (b + 4 * 7) + 3 = nI (b + 31) from nI_add (b + 28) 3, show nI (b + 4 * 7) + 4 = nI (b + 32) from nI_add (b + 28) 4, show b + 4 * 7 = b + 28 from rfl]
    rw [sh_inb (show b + 28 < 99 by omega) (by decide), sh_inb (show b + 29 < 99 by omega) (by decide), sh_inb (show b + 30 < 99 by omega) (by decide), sh_inb (show b + 31 < 99 by omega) (by decide), sh_inb (show b + 32 < 99 by omega) (by decide)]
    simp only [cond_true]
    rw [nI_clamp (show b + 28 < 2 ^ 31 by omega), nI_clamp (show b + 29 < 2 ^ 31 by omega), nI_clamp (show b + 30 < 2 ^ 31 by omega), nI_clamp (show b + 31 < 2 ^ 31 by omega), nI_clamp (show b + 32 < 2 ^ 31 by omega)]
    refine ⟨_, rfl, sh_fr_u (by decide) (sh_fr_u (by decide) (sh_fr_u (by decide) (sh_fr_u (by decide) (sh_fr_u (by decide) (sh_fr_refl _ _))))), ⟨fun o ho => (hw o ho).1, fun o ho => (hw o ho).2.1, fun o ho => (hw o ho).2.2.1, fun o ho => (hw o ho).2.2.2, ?_, ?_, ?_, ?_, ?_⟩, rfl, rfl⟩
    · exact hv 28 (by decide)
    · exact hv 29 (by decide)
    · exact hv 30 (by decide)
    · exact hv 31 (by decide)
    · exact hv 32 (by decide)
  | succ t ih =>
    intro k h e hv hw
    rw [eX4_readBack_r5_r29_19, if_neg (show ¬ (7 : Int32) ≤ nI k from sh_lt (n := 7) (by omega) (by omega)), show nI (b + 4 * k) + 1 = nI (b + 4 * k + 1) from nI_add (b + 4 * k) 1, show nI (b + 4 * k) + 2 = nI (b + 4 * k + 2) from nI_add (b + 4 * k) 2, show nI (b + 4 * k) + 3 = nI (b + 4 * k + 3) from nI_add (b + 4 * k) 3, show nI (b + 4 * k) + 4 = nI (b + 4 * k + 4) from nI_add (b + 4 * k) 4]
    rw [sh_inb (show k < 7 by omega) (by decide), sh_inb (show b + 4 * k < 99 by omega) (by decide), sh_inb (show b + 4 * k + 1 < 99 by omega) (by decide), sh_inb (show b + 4 * k + 2 < 99 by omega) (by decide), sh_inb (show b + 4 * k + 3 < 99 by omega) (by decide)]
    simp only [cond_true]
    have w0 : h 29 (b + 4 * k) = r k := by rw [show b + 4 * k = b + (4 * k + 0) by omega, hv _ (by omega), sh_pi4 (by omega) (by decide)]; rw [show 7 * 0 + k = k by omega]
    have w1 : h 29 (b + 4 * k + 1) = r (7 + k) := by rw [show b + 4 * k + 1 = b + (4 * k + 1) by omega, hv _ (by omega), sh_pi4 (by omega) (by decide)]
    have w2 : h 29 (b + 4 * k + 2) = r (14 + k) := by rw [show b + 4 * k + 2 = b + (4 * k + 2) by omega, hv _ (by omega), sh_pi4 (by omega) (by decide)]
    have w3 : h 29 (b + 4 * k + 3) = r (21 + k) := by rw [show b + 4 * k + 3 = b + (4 * k + 3) by omega, hv _ (by omega), sh_pi4 (by omega) (by decide)]
    rw [nI_clamp (show b + 4 * k < 2 ^ 31 by omega), nI_clamp (show b + 4 * k + 1 < 2 ^ 31 by omega), nI_clamp (show b + 4 * k + 2 < 2 ^ 31 by omega), nI_clamp (show b + 4 * k + 3 < 2 ^ 31 by omega), nI_clamp (show k < 2 ^ 31 by omega), nI_1, w0, w1, w2, w3]
    have hfr : sh_fr [5, 8, 9, 10, 11] h (av_u (av_u (av_u (av_u h 8 k (r k)) 9 k (r (7 + k))) 10 k (r (14 + k))) 11 k (r (21 + k))) := sh_fr_u (by decide) (sh_fr_u (by decide) (sh_fr_u (by decide) (sh_fr_u (by decide) (sh_fr_refl _ _))))
    have up : ∀ (f : Nat → Int32) (i : Nat), (∀ o, o < k → f o = r (i + o)) → ∀ o, o < k + 1 → upd f k (r (i + k)) o = r (i + o) := by
      intro f i hf o ho
      unfold upd
      by_cases e : o = k
      · rw [if_pos e, e]
      · rw [if_neg e]; exact hf o (by omega)
    have up0 : ∀ (f : Nat → Int32), (∀ o, o < k → f o = r o) → ∀ o, o < k + 1 → upd f k (r k) o = r o := by
      intro f hf o ho
      unfold upd
      by_cases e : o = k
      · rw [if_pos e, e]
      · rw [if_neg e]; exact hf o (by omega)
    obtain ⟨h', e1, f1, s1, g1, g2⟩ := ih (k + 1) (av_u (av_u (av_u (av_u h 8 k (r k)) 9 k (r (7 + k))) 10 k (r (14 + k))) 11 k (r (21 + k))) (by omega) hv (fun o ho => ⟨up0 _ (fun o ho => (hw o ho).1) o ho, up _ 7 (fun o ho => (hw o ho).2.1) o ho, up _ 14 (fun o ho => (hw o ho).2.2.1) o ho, up _ 21 (fun o ho => (hw o ho).2.2.2) o ho⟩)
    rw [show b + 4 * k + 4 = b + 4 * (k + 1) by omega]
    exact ⟨h', e1, sh_fr_tr hfr f1 (fun _ z => z), s1, g1, g2⟩
theorem c_readBack29 (d b : Nat) (h : av_M) (r : Nat → Int32) (hb : b ≤ 66) (hv : sh_RW 29 b h r) :
    ∃ h', av_x (d + 1) 47 [.ref 5, .ref 29, .int (nI b)] h = some (0, 0, h') ∧ sh_fr [5, 8, 9, 10, 11] h h' ∧ sh_SV 5 h' r ∧ h' 5 6 = h 5 6 ∧ h' 5 7 = h 5 7 := by
  rw [eX4_readBack_r5_r29_in, if_neg (sh_nneg (show b < 2147483648 by omega)), show ((99 : Int32) - 33) = nI 66 by decide, if_pos (sh_ge (show b ≤ 66 from hb) (by omega))]
  exact c_readBack29_l d b r hb 7 0 h (by omega) hv (fun o ho => absurd ho (by omega))
