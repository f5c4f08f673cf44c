/-! PURE, 2: the sail -/
/-- the sail's numbers as one row (the reference's order): REELS, RATES, PLACES, LENGTHS by sevens, BROKEN, DROPPED, WAY, SPEED, HOUR -/
def sh_SV (o : Nat) (h : av_M) (r : Nat → Int32) : Prop := (∀ k, k < 7 → h (o + 3) k = r k) ∧ (∀ k, k < 7 → h (o + 4) k = r (7 + k)) ∧ (∀ k, k < 7 → h (o + 5) k = r (14 + k)) ∧ (∀ k, k < 7 → h (o + 6) k = r (21 + k)) ∧ h o 8 = r 28 ∧ h o 9 = r 29 ∧ h o 10 = r 30 ∧ h o 11 = r 31 ∧ h o 12 = r 32
def sh_e (n : Nat) : Int32 := ((1 : Int32) <<< (nI n &&& 31)) - 1
def sh_hd (n : Nat) (r : Nat → Int32) : Int32 := (sh_e n &&& (r 28 ^^^ (-1))) &&& (r 29 ^^^ (-1))
def sh_lk (r : Nat → Int32) (k : Nat) : Int32 := r 30 - r (14 + k) - r (21 + k)
def sh_tF (n : Nat) (r : Nat → Int32) (k : Nat) (a : Int32) : Int32 := if sh_b (sh_hd n r) k = true ∧ ¬ sh_lk r k < 0 then a ||| ((1 : Int32) <<< (nI k &&& 31)) else a
def sh_tt (n : Nat) (r : Nat → Int32) : Int32 := sh_lp (sh_tF n r) n 0 0
def sh_w (n : Nat) (str : Nat → Int32) (s : Int32) : Int32 := sh_lp (sh_wF str s) n 0 0
def sh_cF (col : Nat → Int32) (c : Int32) (k : Nat) (a : Int32) : Int32 := if col k = c then a ||| ((1 : Int32) <<< (nI k &&& 31)) else a
def sh_oc (n : Nat) (col : Nat → Int32) (c : Int32) : Int32 := sh_lp (sh_cF col c) n 0 0


theorem c_knows5 (d n : Nat) (h : av_M) (k : Nat) (hn : n ≤ 7) (hm : h 5 6 = nI n) (hk : k < n) : av_x (d + 1) 26 [.ref 5, .int (nI k)] h = some (1, 0, h) := by
  rw [eX4_knows_r5_in, hm, if_neg (nI_pos (by omega)), if_neg (sh_lt hk (by omega))]
  rfl
theorem c_lack5 (d : Nat) (h : av_M) (k : Nat) (hk : k < 7) : av_x (d + 1) 32 [.ref 5, .int (nI k)] h = some (h 5 10 - h 10 k - h 11 k, 0, h) := by
  rw [eX4_lack_r5_in, sh_inb hk (by decide), cond_true, cond_true, nI_clamp (by omega)]
theorem c_reach5 (d : Nat) (h : av_M) (k : Nat) (hk : k < 7) : av_x (d + 1) 31 [.ref 5, .int (nI k)] h = some (h 10 k + h 11 k, 0, h) := by
  rw [eX4_reach_r5_in, sh_inb hk (by decide), cond_true, cond_true, nI_clamp (by omega)]
theorem c_holding5 (d n : Nat) (h : av_M) (r : Nat → Int32) (he : h 5 7 = sh_e n) (hv : sh_SV 5 h r) : av_x (d + 1) 28 [.ref 5] h = some (sh_hd n r, 0, h) := by
  rw [eX4_holding_r5_in, he, sh_hold_eq, hv.2.2.2.2.1, hv.2.2.2.2.2.1]
  rfl
theorem c_holds5 (d n : Nat) (h : av_M) (r : Nat → Int32) (k : Nat) (he : h 5 7 = sh_e n) (hv : sh_SV 5 h r) : av_x (d + 2) 29 [.ref 5, .int (nI k)] h = some (sh_i (sh_b (sh_hd n r) k), 0, h) := by
  rw [eX4_holds_r5_in, c_holding5 d n h r he hv]
  simp only [Option.bind_some, c_isIn, sh_ia]
theorem c_taut5_l (d n : Nat) (h : av_M) (r : Nat → Int32) (hn : n ≤ 7) (hm : h 5 6 = nI n) (he : h 5 7 = sh_e n) (hv : sh_SV 5 h r) : ∀ t k a, k + t = n → av_xp (d + 1) 33 4 [.ref 5, .int a, .int (nI k)] [] h = some (sh_lp (sh_tF n r) t k (a &&& sh_hd n r), 0, h) := by
  intro t
  induction t with
  | zero =>
    intro k a e
    rw [eX4_taut_r5_4, hm, if_pos (sh_ge (by omega) (by omega)), c_holding5 d n h r he hv]
    rfl
  | succ t ih =>
    intro k a e
    rw [eX4_taut_r5_4, hm, if_neg (sh_lt (by omega) (by omega)), c_lack5 d h k (by omega)]
    simp only [Option.bind_some, nI_1]
    rw [show h 5 10 - h 10 k - h 11 k = sh_lk r k by rw [hv.2.2.2.2.2.2.1, hv.2.2.1 k (by omega), hv.2.2.2.1 k (by omega)]; rfl]
    by_cases hl : sh_lk r k < 0
    · rw [if_pos hl, ih (k + 1) _ (by omega)]
      simp [sh_lp, sh_tF, hl]
    · rw [if_neg hl, ih (k + 1) _ (by omega), sh_or_and _ _ (by omega)]
      cases hb : sh_b (sh_hd n r) k <;> simp [sh_lp, sh_tF, hl, hb]
theorem c_taut5 (d n : Nat) (h : av_M) (r : Nat → Int32) (hn : n ≤ 7) (hm : h 5 6 = nI n) (he : h 5 7 = sh_e n) (hv : sh_SV 5 h r) : av_x (d + 2) 33 [.ref 5] h = some (sh_tt n r, 0, h) := by
  rw [eX4_taut_r5_in]
  refine (c_taut5_l d n h r hn hm he hv n 0 0 (by omega)).trans ?_
  rw [show (0 : Int32) &&& sh_hd n r = 0 by simp]
  rfl
theorem c_weight5_l (d n : Nat) (h : av_M) (s : Int32) (hn : n ≤ 7) (hm : h 5 6 = nI n) : ∀ t k a, k + t = n → av_xp (d + 1) 38 4 [.ref 5, .int s, .int a, .int (nI k)] [] h = some (sh_lp (sh_wF (h 7) s) t k a, 0, h) := by
  intro t
  induction t with
  | zero =>
    intro k a e
    rw [eX4_weight_r5_4, hm, if_pos (sh_ge (by omega) (by omega))]
    rfl
  | succ t ih =>
    intro k a e
    rw [eX4_weight_r5_4, hm, if_neg (sh_lt (by omega) (by omega)), c_isIn]
    simp only [Option.bind_some, sh_i0, sh_inb (show k < 7 by omega) (by decide), cond_true, nI_1, nI_clamp (show k < 2 ^ 31 by omega)]
    cases hb : sh_b s k
    · rw [if_pos rfl, ih (k + 1) _ (by omega)]
      simp [sh_lp, sh_wF, hb]
    · rw [if_neg (by decide), ih (k + 1) _ (by omega)]
      simp [sh_lp, sh_wF, hb]
theorem c_weight5 (d n : Nat) (h : av_M) (s : Int32) (hn : n ≤ 7) (hm : h 5 6 = nI n) : av_x (d + 2) 38 [.ref 5, .int s] h = some (sh_w n (h 7) s, 0, h) := by
  rw [eX4_weight_r5_in]
  exact c_weight5_l d n h s hn hm n 0 0 (by omega)
theorem c_heldBack5 (d n : Nat) (h : av_M) (r : Nat → Int32) (hn : n ≤ 7) (hm : h 5 6 = nI n) (he : h 5 7 = sh_e n) (hv : sh_SV 5 h r) : av_x (d + 3) 41 [.ref 5] h = some (sh_w n (h 7) (sh_tt n r) / 5, 0, h) := by
  rw [eX4_heldBack_r5_in, c_taut5 d n h r hn hm he hv]
  simp only [Option.bind_some, c_weight5 d n h _ hn hm]
theorem c_ofColour5_l (d n : Nat) (h : av_M) (c : Int32) (hn : n ≤ 7) (hm : h 5 6 = nI n) : ∀ t k a, k + t = n → av_xp d 34 4 [.ref 5, .int c, .int a, .int (nI k)] [] h = some (sh_lp (sh_cF (h 6) c) t k a, 0, h) := by
  intro t
  induction t with
  | zero =>
    intro k a e
    rw [eX4_ofColour_r5_4, hm, if_pos (sh_ge (by omega) (by omega))]
    rfl
  | succ t ih =>
    intro k a e
    rw [eX4_ofColour_r5_4, hm, if_neg (sh_lt (by omega) (by omega))]
    simp only [sh_inb (show k < 7 by omega) (by decide), cond_true, nI_1, nI_clamp (show k < 2 ^ 31 by omega)]
    by_cases hc : h 6 k = c
    · rw [if_pos hc, ih (k + 1) _ (by omega)]
      simp [sh_lp, sh_cF, hc]
    · rw [if_neg hc, ih (k + 1) _ (by omega)]
      simp [sh_lp, sh_cF, hc]
theorem c_ofColour5 (d n : Nat) (h : av_M) (c : Int32) (hn : n ≤ 7) (hm : h 5 6 = nI n) : av_x (d + 1) 34 [.ref 5, .int c] h = some (sh_oc n (h 6) c, 0, h) := by
  rw [eX4_ofColour_r5_in]
  exact c_ofColour5_l d n h c hn hm n 0 0 (by omega)


theorem c_lack12 (d : Nat) (h : av_M) (k : Nat) (hk : k < 7) : av_x (d + 1) 32 [.ref 12, .int (nI k)] h = some (h 12 10 - h 17 k - h 18 k, 0, h) := by
  rw [eX4_lack_r12_in, sh_inb hk (by decide), cond_true, cond_true, nI_clamp (by omega)]
theorem c_holding12 (d n : Nat) (h : av_M) (r : Nat → Int32) (he : h 12 7 = sh_e n) (hv : sh_SV 12 h r) : av_x (d + 1) 28 [.ref 12] h = some (sh_hd n r, 0, h) := by
  rw [eX4_holding_r12_in, he, sh_hold_eq, hv.2.2.2.2.1, hv.2.2.2.2.2.1]
  rfl
theorem c_holds12 (d n : Nat) (h : av_M) (r : Nat → Int32) (k : Nat) (he : h 12 7 = sh_e n) (hv : sh_SV 12 h r) : av_x (d + 2) 29 [.ref 12, .int (nI k)] h = some (sh_i (sh_b (sh_hd n r) k), 0, h) := by
  rw [eX4_holds_r12_in, c_holding12 d n h r he hv]
  simp only [Option.bind_some, c_isIn, sh_ia]
theorem c_taut12_l (d n : Nat) (h : av_M) (r : Nat → Int32) (hn : n ≤ 7) (hm : h 12 6 = nI n) (he : h 12 7 = sh_e n) (hv : sh_SV 12 h r) : ∀ t k a, k + t = n → av_xp (d + 1) 33 4 [.ref 12, .int a, .int (nI k)] [] h = some (sh_lp (sh_tF n r) t k (a &&& sh_hd n r), 0, h) := by
  intro t
  induction t with
  | zero =>
    intro k a e
    rw [eX4_taut_r12_4, hm, if_pos (sh_ge (by omega) (by omega)), c_holding12 d n h r he hv]
    rfl
  | succ t ih =>
    intro k a e
    rw [eX4_taut_r12_4, hm, if_neg (sh_lt (by omega) (by omega)), c_lack12 d h k (by omega)]
    simp only [Option.bind_some, nI_1]
    rw [show h 12 10 - h 17 k - h 18 k = sh_lk r k by rw [hv.2.2.2.2.2.2.1, hv.2.2.1 k (by omega), hv.2.2.2.1 k (by omega)]; rfl]
    by_cases hl : sh_lk r k < 0
    · rw [if_pos hl, ih (k + 1) _ (by omega)]
      simp [sh_lp, sh_tF, hl]
    · rw [if_neg hl, ih (k + 1) _ (by omega), sh_or_and _ _ (by omega)]
      cases hb : sh_b (sh_hd n r) k <;> simp [sh_lp, sh_tF, hl, hb]
theorem c_taut12 (d n : Nat) (h : av_M) (r : Nat → Int32) (hn : n ≤ 7) (hm : h 12 6 = nI n) (he : h 12 7 = sh_e n) (hv : sh_SV 12 h r) : av_x (d + 2) 33 [.ref 12] h = some (sh_tt n r, 0, h) := by
  rw [eX4_taut_r12_in]
  refine (c_taut12_l d n h r hn hm he hv n 0 0 (by omega)).trans ?_
  rw [show (0 : Int32) &&& sh_hd n r = 0 by simp]
  rfl
theorem c_weight12_l (d n : Nat) (h : av_M) (s : Int32) (hn : n ≤ 7) (hm : h 12 6 = nI n) : ∀ t k a, k + t = n → av_xp (d + 1) 38 4 [.ref 12, .int s, .int a, .int (nI k)] [] h = some (sh_lp (sh_wF (h 14) s) t k a, 0, h) := by
  intro t
  induction t with
  | zero =>
    intro k a e
    rw [eX4_weight_r12_4, hm, if_pos (sh_ge (by omega) (by omega))]
    rfl
  | succ t ih =>
    intro k a e
    rw [eX4_weight_r12_4, hm, if_neg (sh_lt (by omega) (by omega)), c_isIn]
    simp only [Option.bind_some, sh_i0, sh_inb (show k < 7 by omega) (by decide), cond_true, nI_1, nI_clamp (show k < 2 ^ 31 by omega)]
    cases hb : sh_b s k
    · rw [if_pos rfl, ih (k + 1) _ (by omega)]
      simp [sh_lp, sh_wF, hb]
    · rw [if_neg (by decide), ih (k + 1) _ (by omega)]
      simp [sh_lp, sh_wF, hb]
theorem c_weight12 (d n : Nat) (h : av_M) (s : Int32) (hn : n ≤ 7) (hm : h 12 6 = nI n) : av_x (d + 2) 38 [.ref 12, .int s] h = some (sh_w n (h 14) s, 0, h) := by
  rw [eX4_weight_r12_in]
  exact c_weight12_l d n h s hn hm n 0 0 (by omega)
theorem c_heldBack12 (d n : Nat) (h : av_M) (r : Nat → Int32) (hn : n ≤ 7) (hm : h 12 6 = nI n) (he : h 12 7 = sh_e n) (hv : sh_SV 12 h r) : av_x (d + 3) 41 [.ref 12] h = some (sh_w n (h 14) (sh_tt n r) / 5, 0, h) := by
  rw [eX4_heldBack_r12_in, c_taut12 d n h r hn hm he hv]
  simp only [Option.bind_some, c_weight12 d n h _ hn hm]
