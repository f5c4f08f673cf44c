/-! PURE, 13: what can be taken back, in both -/
theorem sh_m16 : ∀ x, x < 64 → nI x - nI x / 16 * 16 = nI (x % 16) := by decide +kernel
/-- the class's ring: u rows, the newest before a -/
def sh_M1 (a u : Nat) (R : Nat → Nat → Int32) (h : av_M) : Prop := a < 16 ∧ u ≤ 15 ∧ h 27 2 = nI a ∧ h 27 3 = nI u ∧ ∀ i, i < u → sh_RW 28 (33 * ((a + 16 - u + i) % 16)) h (R i)
/-- the reference's rows undone -/
def sh_M2 (u : Nat) (R : Nat → Nat → Int32) (h : av_M) : Prop := u ≤ 15 ∧ h 44 22 = nI u ∧ ∀ i, i < u → sh_RM 56 i h (R i)
def sh_Rn (u : Nat) (R : Nat → Nat → Int32) (r : Nat → Int32) (i : Nat) : Nat → Int32 := if u < 15 then (if i = u then r else R i) else (if i = 14 then r else R (i + 1))
theorem c_mark (d a u : Nat) (R : Nat → Nat → Int32) (h : av_M) (r : Nat → Int32) (hM : sh_M1 a u R h) (hv : sh_SV 5 h r) :
    ∃ h', av_x (d + 2) 2 [.ref 27, .ref 5] h = some (0, 0, h') ∧ sh_fr [28] h h' ∧ sh_M1 a u R h' ∧ sh_RW 28 (33 * a) h' r := by
  obtain ⟨ha, hu, m2, m3, hR⟩ := hM
  rw [eX1_mark_r27_r5_in, m2, show nI a * (33 : Int32) = nI (33 * a) by rw [show nI a * (33 : Int32) = nI (a * 33) from nI_mul a 33, Nat.mul_comm]]
  obtain ⟨h', e1, f1, w1, g1⟩ := c_write28 d (33 * a) h r (by omega) hv
  rw [e1]
  refine ⟨h', rfl, f1, ⟨ha, hu, by rw [f1 27 (by decide)]; exact m2, by rw [f1 27 (by decide)]; exact m3, ?_⟩, w1⟩
  intro i hi o ho
  rw [g1 _ (by omega)]
  exact hR i hi o ho
theorem c_confirm (d a u : Nat) (R : Nat → Nat → Int32) (h : av_M) (r : Nat → Int32) (hM : sh_M1 a u R h) (hw : sh_RW 28 (33 * a) h r) :
    ∃ h', av_x (d + 1) 3 [.ref 27] h = some (0, 0, h') ∧ sh_fr [27] h h' ∧ sh_M1 ((a + 1) % 16) (min 15 (u + 1)) (sh_Rn u R r) h' ∧ h' 27 4 = h 27 4 := by
  obtain ⟨ha, hu, m2, m3, hR⟩ := hM
  rw [eX1_confirm_r27_in, m2, m3, nI_1, nI_1, sh_m16 (a + 1) (by omega)]
  have em : av_min 15 (nI (u + 1)) = nI (min 15 (u + 1)) := by
    unfold av_min
    by_cases e : u < 14
    · rw [if_pos (show nI (u + 1) < 15 from nI_lt (b := 15) (by omega) (by omega)), show min 15 (u + 1) = u + 1 by omega]
    · rw [if_neg (show ¬ nI (u + 1) < 15 from nI_nlt (b := 15) (by omega) (by omega)), show min 15 (u + 1) = 15 by omega]
      rfl
  rw [em]
  refine ⟨_, rfl, sh_fr_u (by decide) (sh_fr_u (by decide) (sh_fr_refl _ _)), ⟨by omega, by omega, rfl, rfl, ?_⟩, rfl⟩
  intro i hi o ho
  show h 28 _ = _
  unfold sh_Rn
  by_cases e : u < 15
  · rw [if_pos e]
    by_cases ei : i = u
    · rw [if_pos ei, show ((a + 1) % 16 + 16 - min 15 (u + 1) + i) % 16 = a by omega]
      exact hw o ho
    · rw [if_neg ei, show ((a + 1) % 16 + 16 - min 15 (u + 1) + i) % 16 = (a + 16 - u + i) % 16 by omega]
      exact hR i (by omega) o ho
  · rw [if_neg e]
    by_cases ei : i = 14
    · rw [if_pos ei, show ((a + 1) % 16 + 16 - min 15 (u + 1) + i) % 16 = a by omega]
      exact hw o ho
    · rw [if_neg ei, show ((a + 1) % 16 + 16 - min 15 (u + 1) + i) % 16 = (a + 16 - u + (i + 1)) % 16 by omega]
      exact hR (i + 1) (by omega) o ho
theorem sh_M1_fr {a u : Nat} {R : Nat → Nat → Int32} {S : List Nat} {h h' : av_M} (hf : sh_fr S h h') (h1 : 27 ∉ S) (h2 : 28 ∉ S) (hM : sh_M1 a u R h) : sh_M1 a u R h' := by
  obtain ⟨ha, hu, m2, m3, hR⟩ := hM
  refine ⟨ha, hu, by rw [hf 27 h1]; exact m2, by rw [hf 27 h1]; exact m3, ?_⟩
  intro i hi o ho
  rw [hf 28 h2]
  exact hR i hi o ho
theorem c_settled (d a u : Nat) (R : Nat → Nat → Int32) (h : av_M) (r : Nat → Int32) (v : Int32) (hM : sh_M1 a u R h) (hw : sh_RW 28 (33 * a) h r) :
    ∃ h', av_x (d + 2) 122 [.ref 0, .int v] h = some (v, 0, h') ∧ sh_fr [27] h h' ∧ h' 27 4 = h 27 4 ∧ (v < 0 → sh_M1 a u R h') ∧ (¬ v < 0 → sh_M1 ((a + 1) % 16) (min 15 (u + 1)) (sh_Rn u R r) h') := by
  rw [eX6_settled_r0_in]
  by_cases e : v < 0
  · rw [if_pos e]
    exact ⟨h, rfl, sh_fr_refl _ _, rfl, fun _ => hM, fun z => absurd e z⟩
  · rw [if_neg e]
    obtain ⟨h', e1, f1, w1, g1⟩ := c_confirm d a u R h r hM hw
    rw [e1]
    exact ⟨h', rfl, f1, g1, fun z => absurd z e, fun _ => w1⟩
theorem sh_M2_fr {u : Nat} {R : Nat → Nat → Int32} {S : List Nat} {h h' : av_M} (hf : sh_fr S h h') (h1 : h' 44 22 = h 44 22) (h2 : 56 ∉ S) (hM : sh_M2 u R h) : sh_M2 u R h' := by
  obtain ⟨hu, m2, hR⟩ := hM
  refine ⟨hu, by rw [h1]; exact m2, ?_⟩
  intro i hi o ho
  rw [hf 56 h2]
  exact hR i hi o ho
theorem c_puts (d u : Nat) (R : Nat → Nat → Int32) (h : av_M) (r : Nat → Int32) (hM : sh_M2 u R h) (hv : sh_MV 48 h r) :
    ∃ h', av_x (d + 1) 197 [.ref 44] h = some (0, 0, h') ∧ sh_fr [56] h h' ∧ sh_M2 u R h' ∧ sh_RM 56 u h' r := by
  obtain ⟨hu, m2, hR⟩ := hM
  obtain ⟨h', e1, f1, w1, g1⟩ := c_putsBy d u h r hu m2 hv
  refine ⟨h', e1, f1, ⟨hu, by rw [f1 44 (by decide)]; exact m2, ?_⟩, w1⟩
  intro i hi o ho
  rw [g1 _ (by omega)]
  exact hR i hi o ho
theorem c_counted (d u : Nat) (R : Nat → Nat → Int32) (h : av_M) (r : Nat → Int32) (v : Int32) (hM : sh_M2 u R h) (hw : sh_RM 56 u h r) :
    ∃ h', av_x (d + 2) 199 [.ref 44, .int v] h = some (v, 0, h') ∧ sh_fr [44, 56] h h' ∧ (∀ j, j ≠ 22 → h' 44 j = h 44 j) ∧ (v < 0 → sh_M2 u R h') ∧ (¬ v < 0 → sh_M2 (min 15 (u + 1)) (sh_Rn u R r) h') := by
  obtain ⟨hu, m2, hR⟩ := id hM
  rw [eX7_counted_r44_in]
  by_cases e : v < 0
  · rw [if_neg (show ¬ 0 ≤ v by rw [Int32.not_le]; exact e)]
    exact ⟨h, rfl, sh_fr_refl _ _, fun _ _ => rfl, fun _ => hM, fun z => absurd e z⟩
  · rw [if_pos (show 0 ≤ v by rw [← Int32.not_lt]; exact e)]
    obtain ⟨h', e1, g1⟩ := c_adds d u v h hu m2
    rw [e1, Option.bind_some]
    dsimp only
    rcases g1 with ⟨u1, rfl⟩ | ⟨u1, h1, rfl, f1, k1, w1⟩
    · refine ⟨_, rfl, sh_fr_u (by decide) (sh_fr_refl _ _), ?_, fun z => absurd z e, fun _ => ⟨by omega, ?_, ?_⟩⟩
      · intro j hj
        rw [av_u_eq]
        unfold upd
        rw [if_neg hj]
      · rw [av_u_eq, show min 15 (u + 1) = u + 1 by omega]
        unfold upd
        rw [if_pos rfl]
      · intro i hi o ho
        show h 56 _ = _
        unfold sh_Rn
        rw [if_pos u1]
        by_cases ei : i = u
        · rw [if_pos ei, ei]
          exact hw o ho
        · rw [if_neg ei]
          exact hR i (by omega) o ho
    · refine ⟨_, rfl, sh_fr_u (by decide) (sh_fr_up f1 (by decide)), ?_, fun z => absurd z e, fun _ => ⟨by omega, ?_, ?_⟩⟩
      · intro j hj
        rw [av_u_eq]
        unfold upd
        rw [if_neg hj]
        exact k1 j hj
      · rw [av_u_eq, show min 15 (u + 1) = 15 by omega]
        unfold upd
        rw [if_pos rfl]
      · intro i hi o ho
        show h1 56 _ = _
        rw [w1 _ (by omega)]
        unfold sh_Rn
        rw [if_neg (by omega)]
        by_cases ei : i = 14
        · rw [if_pos ei, show 33 * i + o + 33 = 33 * u + o by omega]
          exact hw o ho
        · rw [if_neg ei, show 33 * i + o + 33 = 33 * (i + 1) + o by omega]
          exact hR (i + 1) (by omega) o ho
theorem c_bringBack (d a u : Nat) (R : Nat → Nat → Int32) (h : av_M) (hM : sh_M1 a (u + 1) R h) :
    ∃ h', av_x (d + 2) 4 [.ref 27, .ref 5] h = some (1, 0, h') ∧ sh_fr [5, 8, 9, 10, 11, 27] h h' ∧ sh_M1 ((a + 15) % 16) u R h' ∧ sh_SV 5 h' (R u) ∧ h' 5 6 = h 5 6 ∧ h' 5 7 = h 5 7 ∧ h' 27 4 = h 27 4 := by
  obtain ⟨ha, hu, m2, m3, hR⟩ := hM
  rw [eX1_bringBack_r27_r5_in, m3, m2, if_neg (nI_ne0 (by omega) (by omega)), nI_pred, show nI a + 16 - 1 = nI (a + 15) by rw [show nI a + 16 = nI (a + 15 + 1) from nI_add a 16, nI_pred], sh_m16 (a + 15) (by omega), show nI ((a + 15) % 16) * (33 : Int32) = nI (33 * ((a + 15) % 16)) by rw [show nI ((a + 15) % 16) * (33 : Int32) = nI ((a + 15) % 16 * 33) from nI_mul _ 33, Nat.mul_comm]]
  have hf : sh_fr [27] h (av_u (av_u h 27 3 (nI u)) 27 2 (nI ((a + 15) % 16))) := sh_fr_u (by decide) (sh_fr_u (by decide) (sh_fr_refl _ _))
  have hw : sh_RW 28 (33 * ((a + 15) % 16)) (av_u (av_u h 27 3 (nI u)) 27 2 (nI ((a + 15) % 16))) (R u) := by
    intro o ho
    have := hR u (by omega) o ho
    rw [show (a + 16 - (u + 1) + u) % 16 = (a + 15) % 16 by omega] at this
    exact this
  obtain ⟨h', e1, f1, s1, g1, g2⟩ := c_readBack28 d (33 * ((a + 15) % 16)) _ (R u) (by omega) hw
  rw [e1]
  refine ⟨h', rfl, sh_fr_tr (sh_fr_up hf (by decide)) f1 (by decide), ⟨by omega, by omega, ?_, ?_, ?_⟩, s1, g1, g2, ?_⟩
  · rw [f1 27 (by decide)]; rfl
  · rw [f1 27 (by decide)]; rfl
  · intro i hi o ho
    rw [f1 28 (by decide)]
    have := hR i (by omega) o ho
    rw [show ((a + 15) % 16 + 16 - u + i) % 16 = (a + 16 - (u + 1) + i) % 16 by omega]
    exact this
  · rw [f1 27 (by decide)]; rfl
