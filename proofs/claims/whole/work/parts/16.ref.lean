/-! PURE, 4: the reference's leaves -/
theorem sh_cmp_lt (x y : Int64) : lg_cmp x y < 0 ↔ x < y := by
  unfold lg_cmp
  by_cases h : x > y
  · rw [if_pos h]
    have : ¬ x < y := by
      have h : y < x := h
      rw [Int64.lt_iff_toInt_lt] at h ⊢
      omega
    simp [this]
  · rw [if_neg h]
    by_cases e : x = y
    · rw [if_pos e, e]
      have : ¬ y < y := by rw [Int64.lt_iff_toInt_lt]; omega
      simp [this]
    · rw [if_neg e]
      have : x < y := by
        have h : ¬ y < x := h
        rw [Int64.lt_iff_toInt_lt] at h ⊢
        have : x.toInt ≠ y.toInt := fun q => e (Int64.toInt_inj.mp q)
        omega
      simp [this]
theorem sh_cmp_gt (x y : Int64) : 0 < lg_cmp x y ↔ y < x := by
  unfold lg_cmp
  by_cases h : x > y
  · rw [if_pos h]
    have h : y < x := h
    simp [h]
  · rw [if_neg h]
    have h : ¬ y < x := h
    by_cases e : x = y
    · rw [if_pos e]; simp [h]
    · rw [if_neg e]; simp [h]
theorem c_in (d : Nat) (v lo hi : Int64) (h : av_M) : av_x (d + 1) 158 [.long v, .long lo, .long hi] h = some (sh_i (decide (lo ≤ v) && decide (v ≤ hi)), 0, h) := by
  rw [eX7_in_in]
  by_cases h1 : v < lo
  · rw [if_pos ((sh_cmp_lt v lo).mpr h1)]
    have : ¬ lo ≤ v := by rw [Int64.not_le]; exact h1
    simp [this, sh_i]
  · rw [if_neg (fun q => h1 ((sh_cmp_lt v lo).mp q))]
    have h1 : lo ≤ v := by rw [← Int64.not_lt]; exact h1
    by_cases h2 : hi < v
    · rw [if_pos ((sh_cmp_gt v hi).mpr h2)]
      have : ¬ v ≤ hi := by rw [Int64.not_le]; exact h2
      simp [this, sh_i]
    · rw [if_neg (fun q => h2 ((sh_cmp_gt v hi).mp q))]
      have h2 : v ≤ hi := by rw [← Int64.not_lt]; exact h2
      simp [h1, h2, sh_i]
/-- an int between two others, told in longs -/
theorem sh_wide (v lo hi : Int32) : (decide (lo.toInt64 ≤ v.toInt64) && decide (v.toInt64 ≤ hi.toInt64)) = (decide (lo ≤ v) && decide (v ≤ hi)) := by
  have e1 : decide (lo.toInt64 ≤ v.toInt64) = decide (lo ≤ v) := decide_eq_decide.mpr (by rw [Int64.le_iff_toInt_le, Int32.le_iff_toInt_le, Int32.toInt_toInt64, Int32.toInt_toInt64])
  have e2 : decide (v.toInt64 ≤ hi.toInt64) = decide (v ≤ hi) := decide_eq_decide.mpr (by rw [Int64.le_iff_toInt_le, Int32.le_iff_toInt_le, Int32.toInt_toInt64, Int32.toInt_toInt64])
  rw [e1, e2]
/-- a number of a streamer -/
def sh_kn (n : Nat) (p : Int32) : Bool := decide (0 ≤ p) && decide (p < nI n)
theorem sh_kn_of {n : Nat} {p : Int32} (hn : n ≤ 7) (h : sh_kn n p = true) : ∃ k, k < n ∧ p = nI k := by
  unfold sh_kn at h
  simp only [Bool.and_eq_true, decide_eq_true_eq] at h
  obtain ⟨k, hk, rfl⟩ := nI_of (x := p) (by rw [Int32.not_lt]; exact h.1)
  exact ⟨k, (nI_ltI hk (by omega)).mp h.2, rfl⟩
theorem sh_kn_nI {n k : Nat} (hn : n ≤ 7) (h : k < n) : sh_kn n (nI k) = true := by
  unfold sh_kn
  simp only [Bool.and_eq_true, decide_eq_true_eq]
  exact ⟨nI_pos' (by omega), nI_lt h (by omega)⟩
theorem c_isOne (d n : Nat) (h : av_M) (p : Int32) (hn : n ≤ 7) (hm : h 44 3 = nI n) : av_x (d + 2) 164 [.ref 44, .int p] h = some (sh_i (sh_kn n p), 0, h) := by
  rw [eX7_isOne_r44_in, hm, show (0 : Int64) = Int32.toInt64 0 from by decide, c_in, sh_wide]
  simp only [Option.bind_some, sh_ia]
  have : decide (p ≤ nI n - 1) = decide (p < nI n) := by
    have key : ∀ n, n ≤ 7 → (nI n - 1).toInt = (n : Int) - 1 := by decide +kernel
    have k2 : (nI n).toInt = (n : Int) := nI_toInt (by omega)
    exact decide_eq_decide.mpr (by rw [Int32.le_iff_toInt_le, Int32.lt_iff_toInt_lt, key n hn, k2]; omega)
  rw [this]
  rfl
theorem c_knowsp (d n : Nat) (h : av_M) (p : Int32) (hm : h 5 6 = nI n) : av_x (d + 1) 26 [.ref 5, .int p] h = some (sh_i (sh_kn n p), 0, h) := by
  rw [eX4_knows_r5_in, hm]
  unfold sh_kn
  by_cases h1 : p < 0
  · rw [if_pos h1]
    have : ¬ 0 ≤ p := by rw [Int32.not_le]; exact h1
    simp [this, sh_i]
  · rw [if_neg h1]
    have h1 : 0 ≤ p := by rw [← Int32.not_lt]; exact h1
    by_cases h2 : nI n ≤ p
    · rw [if_pos h2]
      have : ¬ p < nI n := by rw [Int32.not_lt]; exact h2
      simp [this, sh_i]
    · rw [if_neg h2]
      have h2 : p < nI n := by rw [← Int32.not_le]; exact h2
      simp [h1, h2, sh_i]
theorem c_flag (d : Nat) (b : Bool) (h : av_M) : av_x (d + 1) 160 [.int (sh_i b)] h = some (sh_i b, 0, h) := by
  rw [eX7_flag_in]
  cases b
  · rw [if_pos (show sh_i false = 0 from rfl)]; rfl
  · rw [if_neg (show ¬ sh_i true = 0 by decide)]; rfl
theorem c_flag0 (d : Nat) (h : av_M) : av_x (d + 1) 160 [.int 0] h = some (0, 0, h) := c_flag d false h
theorem c_flag1 (d : Nat) (h : av_M) : av_x (d + 1) 160 [.int 1] h = some (1, 0, h) := c_flag d true h
theorem c_all (d n : Nat) (h : av_M) (hm : h 44 3 = nI n) : av_x (d + 1) 165 [.ref 44] h = some (sh_e n, 0, h) := by
  rw [eX7_all_r44_in, hm]
  rfl
def sh_MV (a : Nat) (h : av_M) (r : Nat → Int32) : Prop := ∀ i, i < 33 → h a i = r i
theorem c_ofColourM_l (d n : Nat) (h : av_M) (c : Int32) (hn : n ≤ 7) (hm : h 44 3 = nI n) : ∀ t k a, k + t = n → av_xp d 193 4 [.ref 44, .int c, .int a, .int (nI k)] [] h = some (sh_lp (sh_cF (h 46) c) t k a, 0, h) := by
  intro t
  induction t with
  | zero =>
    intro k a e
    rw [eX7_ofColour_r44_4, hm, if_pos (sh_ge (by omega) (by omega))]
    rfl
  | succ t ih =>
    intro k a e
    rw [eX7_ofColour_r44_4, hm, if_neg (sh_lt (by omega) (by omega))]
    simp only [sh_inb (show k < 7 by omega) (by decide), cond_true, nI_1, nI_clamp (show k < 2 ^ 31 by omega)]
    by_cases hc : h 46 k = c
    · rw [if_pos hc, ih (k + 1) _ (by omega)]
      simp [sh_lp, sh_cF, hc]
    · rw [if_neg hc, ih (k + 1) _ (by omega)]
      simp [sh_lp, sh_cF, hc]
theorem c_ofColourM (d n : Nat) (h : av_M) (c : Int32) (hn : n ≤ 7) (hm : h 44 3 = nI n) : av_x (d + 1) 193 [.ref 44, .int c] h = some (sh_oc n (h 46) c, 0, h) := by
  rw [eX7_ofColour_r44_in]
  exact c_ofColourM_l d n h c hn hm n 0 0 (by omega)
def sh_us (x c : Int32) : Int32 := (Int32.toUInt32 x >>> (Int32.toUInt32 c &&& Int32.toUInt32 31)).toInt32
def sh_bc (x : Int32) : Int32 :=
  let i1 := x - (sh_us x 1 &&& 1431655765)
  let i2 := (i1 &&& 858993459) + (sh_us i1 2 &&& 858993459)
  let i3 := (i2 + sh_us i2 4) &&& 252645135
  let i4 := i3 + sh_us i3 8
  let i5 := i4 + sh_us i4 16
  i5 &&& 63
theorem c_bc (d : Nat) (x : Int32) (h : av_M) : av_x (d + 1) 275 [.int x] h = some (sh_bc x, 0, h) := by
  rw [eJ6_bitCount_0f7a4_in]
  rfl
def sh_ct (s : Int32) (j : Nat) (a : Int32) : Int32 := if sh_b s j = true then a + 1 else a
theorem sh_bc_small : ∀ s, s < 128 → sh_bc (nI s) = sh_lp (sh_ct (nI s)) 7 0 0 := by decide +kernel
theorem c_lackM48 (d : Nat) (h : av_M) (r : Nat → Int32) (k : Nat) (hk : k < 7) (hv : sh_MV 48 h r) : av_x (d + 1) 167 [.ref 48, .int (nI k)] h = some (sh_lk r k, 0, h) := by
  rw [eX7_lack_r48_in, show (14 : Int32) + nI k = nI (14 + k) from nI_add 14 k, show (21 : Int32) + nI k = nI (21 + k) from nI_add 21 k, sh_inb (show 14 + k < 33 by omega) (by decide), sh_inb (show 21 + k < 33 by omega) (by decide), cond_true, cond_true, nI_clamp (by omega), nI_clamp (by omega), hv 30 (by decide), hv (14 + k) (by omega), hv (21 + k) (by omega)]
  rfl
theorem c_holdingM48 (d n : Nat) (h : av_M) (r : Nat → Int32) (hm : h 44 3 = nI n) (hv : sh_MV 48 h r) : av_x (d + 2) 166 [.ref 44, .ref 48] h = some (sh_hd n r, 0, h) := by
  rw [eX7_holding_r44_r48_in, c_all d n h hm]
  simp only [Option.bind_some]
  rw [hv 28 (by decide), hv 29 (by decide)]
  rfl
theorem c_tautM48_l (d n : Nat) (h : av_M) (r : Nat → Int32) (hn : n ≤ 7) (hm : h 44 3 = nI n) (hv : sh_MV 48 h r) : ∀ t k a, k + t = n → av_xp (d + 2) 168 4 [.ref 44, .ref 48, .int a, .int (nI k)] [] h = some (sh_lp (sh_tF n r) t k a, 0, h) := by
  intro t
  induction t with
  | zero =>
    intro k a e
    rw [eX7_taut_r44_r48_4, hm, if_pos (sh_ge (by omega) (by omega))]
    rfl
  | succ t ih =>
    intro k a e
    rw [eX7_taut_r44_r48_4, hm, if_neg (sh_lt (by omega) (by omega)), c_holdingM48 d n h r hm hv]
    simp only [Option.bind_some, c_has, c_lackM48 _ h r k (show k < 7 by omega) hv, nI_1, Int32.or_zero]
    cases hb : sh_b (sh_hd n r) k
    · rw [if_pos (show sh_i false = 0 from rfl), ih (k + 1) _ (by omega)]
      simp [sh_lp, sh_tF, hb]
    · rw [if_neg (show ¬ sh_i true = 0 by decide)]
      by_cases hl : sh_lk r k < 0
      · rw [if_pos hl, ih (k + 1) _ (by omega)]
        simp [sh_lp, sh_tF, hl]
      · rw [if_neg hl, ih (k + 1) _ (by omega)]
        simp [sh_lp, sh_tF, hl, hb]
theorem c_tautM48 (d n : Nat) (h : av_M) (r : Nat → Int32) (hn : n ≤ 7) (hm : h 44 3 = nI n) (hv : sh_MV 48 h r) : av_x (d + 3) 168 [.ref 44, .ref 48] h = some (sh_tt n r, 0, h) := by
  rw [eX7_taut_r44_r48_in]
  exact c_tautM48_l d n h r hn hm hv n 0 0 (by omega)
theorem c_dragOf48 (d n : Nat) (h : av_M) (r : Nat → Int32) (hn : n ≤ 7) (hm : h 44 3 = nI n) (hv : sh_MV 48 h r) : av_x (d + 4) 170 [.ref 44, .ref 48] h = some (sh_w n (h 47) (sh_tt n r) / 5, 0, h) := by
  rw [eX7_dragOf_r44_r48_in, c_tautM48 d n h r hn hm hv]
  simp only [Option.bind_some]
  rw [c_counts (d + 1) n h _ hn hm]
  rfl
theorem c_reelsOf48_l (d n : Nat) (h : av_M) (r : Nat → Int32) (hn : n ≤ 7) (hm : h 44 3 = nI n) (hv : sh_MV 48 h r) : ∀ t k a, k + t = n → av_xp d 171 4 [.ref 44, .ref 48, .int a, .int (nI k)] [] h = some (sh_lp (fun k a => a + r k) t k a, 0, h) := by
  intro t
  induction t with
  | zero =>
    intro k a e
    rw [eX7_reelsOf_r44_r48_4, hm, if_pos (sh_ge (by omega) (by omega))]
    rfl
  | succ t ih =>
    intro k a e
    rw [eX7_reelsOf_r44_r48_4, hm, if_neg (sh_lt (by omega) (by omega)), sh_inb (show k < 33 by omega) (by decide), cond_true, nI_1, nI_clamp (by omega), hv k (by omega), ih (k + 1) _ (by omega)]
    rfl
theorem c_reelsOf48 (d n : Nat) (h : av_M) (r : Nat → Int32) (hn : n ≤ 7) (hm : h 44 3 = nI n) (hv : sh_MV 48 h r) : av_x (d + 1) 171 [.ref 44, .ref 48] h = some (sh_lp (fun k a => a + r k) n 0 0, 0, h) := by
  rw [eX7_reelsOf_r44_r48_in]
  exact c_reelsOf48_l d n h r hn hm hv n 0 0 (by omega)
theorem c_lackM49 (d : Nat) (h : av_M) (r : Nat → Int32) (k : Nat) (hk : k < 7) (hv : sh_MV 49 h r) : av_x (d + 1) 167 [.ref 49, .int (nI k)] h = some (sh_lk r k, 0, h) := by
  rw [eX7_lack_r49_in, show (14 : Int32) + nI k = nI (14 + k) from nI_add 14 k, show (21 : Int32) + nI k = nI (21 + k) from nI_add 21 k, sh_inb (show 14 + k < 33 by omega) (by decide), sh_inb (show 21 + k < 33 by omega) (by decide), cond_true, cond_true, nI_clamp (by omega), nI_clamp (by omega), hv 30 (by decide), hv (14 + k) (by omega), hv (21 + k) (by omega)]
  rfl
theorem c_holdingM49 (d n : Nat) (h : av_M) (r : Nat → Int32) (hm : h 44 3 = nI n) (hv : sh_MV 49 h r) : av_x (d + 2) 166 [.ref 44, .ref 49] h = some (sh_hd n r, 0, h) := by
  rw [eX7_holding_r44_r49_in, c_all d n h hm]
  simp only [Option.bind_some]
  rw [hv 28 (by decide), hv 29 (by decide)]
  rfl
theorem c_tautM49_l (d n : Nat) (h : av_M) (r : Nat → Int32) (hn : n ≤ 7) (hm : h 44 3 = nI n) (hv : sh_MV 49 h r) : ∀ t k a, k + t = n → av_xp (d + 2) 168 4 [.ref 44, .ref 49, .int a, .int (nI k)] [] h = some (sh_lp (sh_tF n r) t k a, 0, h) := by
  intro t
  induction t with
  | zero =>
    intro k a e
    rw [eX7_taut_r44_r49_4, hm, if_pos (sh_ge (by omega) (by omega))]
    rfl
  | succ t ih =>
    intro k a e
    rw [eX7_taut_r44_r49_4, hm, if_neg (sh_lt (by omega) (by omega)), c_holdingM49 d n h r hm hv]
    simp only [Option.bind_some, c_has, c_lackM49 _ h r k (show k < 7 by omega) hv, nI_1, Int32.or_zero]
    cases hb : sh_b (sh_hd n r) k
    · rw [if_pos (show sh_i false = 0 from rfl), ih (k + 1) _ (by omega)]
      simp [sh_lp, sh_tF, hb]
    · rw [if_neg (show ¬ sh_i true = 0 by decide)]
      by_cases hl : sh_lk r k < 0
      · rw [if_pos hl, ih (k + 1) _ (by omega)]
        simp [sh_lp, sh_tF, hl]
      · rw [if_neg hl, ih (k + 1) _ (by omega)]
        simp [sh_lp, sh_tF, hl, hb]
theorem c_tautM49 (d n : Nat) (h : av_M) (r : Nat → Int32) (hn : n ≤ 7) (hm : h 44 3 = nI n) (hv : sh_MV 49 h r) : av_x (d + 3) 168 [.ref 44, .ref 49] h = some (sh_tt n r, 0, h) := by
  rw [eX7_taut_r44_r49_in]
  exact c_tautM49_l d n h r hn hm hv n 0 0 (by omega)
theorem c_dragOf49 (d n : Nat) (h : av_M) (r : Nat → Int32) (hn : n ≤ 7) (hm : h 44 3 = nI n) (hv : sh_MV 49 h r) : av_x (d + 4) 170 [.ref 44, .ref 49] h = some (sh_w n (h 47) (sh_tt n r) / 5, 0, h) := by
  rw [eX7_dragOf_r44_r49_in, c_tautM49 d n h r hn hm hv]
  simp only [Option.bind_some]
  rw [c_counts (d + 1) n h _ hn hm]
  rfl
theorem c_reelsOf49_l (d n : Nat) (h : av_M) (r : Nat → Int32) (hn : n ≤ 7) (hm : h 44 3 = nI n) (hv : sh_MV 49 h r) : ∀ t k a, k + t = n → av_xp d 171 4 [.ref 44, .ref 49, .int a, .int (nI k)] [] h = some (sh_lp (fun k a => a + r k) t k a, 0, h) := by
  intro t
  induction t with
  | zero =>
    intro k a e
    rw [eX7_reelsOf_r44_r49_4, hm, if_pos (sh_ge (by omega) (by omega))]
    rfl
  | succ t ih =>
    intro k a e
    rw [eX7_reelsOf_r44_r49_4, hm, if_neg (sh_lt (by omega) (by omega)), sh_inb (show k < 33 by omega) (by decide), cond_true, nI_1, nI_clamp (by omega), hv k (by omega), ih (k + 1) _ (by omega)]
    rfl
theorem c_reelsOf49 (d n : Nat) (h : av_M) (r : Nat → Int32) (hn : n ≤ 7) (hm : h 44 3 = nI n) (hv : sh_MV 49 h r) : av_x (d + 1) 171 [.ref 44, .ref 49] h = some (sh_lp (fun k a => a + r k) n 0 0, 0, h) := by
  rw [eX7_reelsOf_r44_r49_in]
  exact c_reelsOf49_l d n h r hn hm hv n 0 0 (by omega)
