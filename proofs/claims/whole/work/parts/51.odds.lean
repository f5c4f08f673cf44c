/-! PURE, 41: calls: odds -/
theorem sh_cb_cut {P : Nat → Bool} : ∀ s t k, (∀ j, k + s ≤ j → j < k + s + t → P j = false) → sh_cb P (s + t) k = sh_cb P s k := by
  intro s
  induction s with
  | zero =>
    intro t
    induction t with
    | zero => intro k _; rfl
    | succ t ih =>
      intro k h
      have e := ih (k + 1) (fun j h1 h2 => h j (by omega) (by omega))
      rw [Nat.zero_add] at e ⊢
      show (match P k with
        | true => 1
        | false => 0) + sh_cb P t (k + 1) = 0
      rw [h k (by omega) (by omega), e]
      rfl
  | succ s ih =>
    intro t k h
    rw [show s + 1 + t = (s + t) + 1 by omega]
    show (match P k with
        | true => 1
        | false => 0) + sh_cb P (s + t) (k + 1) = (match P k with
        | true => 1
        | false => 0) + sh_cb P s (k + 1)
    rw [ih t (k + 1) (fun j h1 h2 => h j (by omega) (by omega))]
theorem c_times_l (d f m : Nat) (h : av_M) (hm : m < 1000) : ∀ t j p, j + t = m → av_xp d 136 5 [.long (lN f), .null, .int (nI m), .long (lN p), .null, .int (nI j)] [] h = some (0, lN (p * f ^ t), h) := by
  intro t
  induction t with
  | zero =>
    intro j p e
    rw [eX6_times_5, if_pos (sh_ge (by omega) (by omega)), Nat.pow_zero, Nat.mul_one]
  | succ t ih =>
    intro j p e
    rw [eX6_times_5, if_neg (sh_lt (by omega) (by omega)), lN_mul, nI_1, ih (j + 1) (p * f) (by omega), Nat.mul_assoc, Nat.pow_succ, Nat.mul_comm f]
theorem c_times (d f m : Nat) (h : av_M) (hm : m < 1000) : av_x (d + 1) 136 [.long (lN f), .int (nI m)] h = some (0, lN (f ^ m), h) := by
  rw [eX6_times_in]
  have := c_times_l d f m h hm m 0 1 (by omega)
  rw [Nat.one_mul] at this
  exact this
def sh_og (P w k : Nat) : Nat := (10 - P) ^ sh_pq k * P ^ (sh_pq w - sh_pq k)
theorem sh_og_le {P w k : Nat} (hP : P ≤ 10) (h : sh_pq k ≤ sh_pq w) : sh_og P w k ≤ 10 ^ 7 := by
  have h7 := sh_pq_le w
  have h1 : (10 - P) ^ sh_pq k ≤ 10 ^ sh_pq k := Nat.pow_le_pow_left (by omega) _
  have h2 : P ^ (sh_pq w - sh_pq k) ≤ 10 ^ (sh_pq w - sh_pq k) := Nat.pow_le_pow_left hP _
  have h3 := Nat.mul_le_mul h1 h2
  rw [← Nat.pow_add, show sh_pq k + (sh_pq w - sh_pq k) = sh_pq w by omega] at h3
  have h4 : 10 ^ sh_pq w ≤ 10 ^ 7 := Nat.pow_le_pow_right (by decide) h7
  unfold sh_og
  omega
def sh_oQ (n : Nat) (str : Nat → Int32) (W K : Int32) (k : Nat) : Bool := sh_wi W k && !decide (sh_w n str (nI k) < K)
theorem f_odd_l (d n w P : Nat) (K : Int32) (h : av_M) (hP : P ≤ 10) (hn : n ≤ 7) (hm : h 5 6 = nI n) (hw : w < 128) : ∀ t k c (x : Value), k + t = 128 → sh_j1 x → ∃ x', sh_j1 x' ∧ av_xp (d + 20) 91 42 [.ref 0, .int (nI P), .int K, .int (nI w), .int (nI (sh_pq w)), .long (lN c), .null, .int (nI k), x] [] h = av_xp (d + 20) 91 42 [.ref 0, .int (nI P), .int K, .int (nI w), .int (nI (sh_pq w)), .long (lN (sh_lp (sh_vF (sh_oQ n (h 7) (nI w) K) (sh_og P w)) t k c)), .null, .int (nI 128), x'] [] h := by
  intro t
  induction t with
  | zero =>
    intro k c x e hx
    rw [show k = 128 by omega]
    exact ⟨x, hx, rfl⟩
  | succ t ih =>
    intro k c x e hx
    rw [mX6_odds_r0_42 _ _ _ _ _ _ _ _ _ hx, if_neg (show ¬ (128 : Int32) ≤ nI k from sh_lt (n := 128) (by omega) (by decide)), c_isWithin]
    simp only [Option.bind_some]
    have step : sh_lp (sh_vF (sh_oQ n (h 7) (nI w) K) (sh_og P w)) (t + 1) k c = sh_lp (sh_vF (sh_oQ n (h 7) (nI w) K) (sh_og P w)) t (k + 1) (sh_vF (sh_oQ n (h 7) (nI w) K) (sh_og P w) k c) := rfl
    rw [step]
    cases hwi : decide (nI k &&& (nI w ^^^ (-1)) = 0)
    · have hq : sh_oQ n (h 7) (nI w) K k = false := by unfold sh_oQ sh_wi; rw [hwi]; rfl
      rw [if_pos (show sh_i false = 0 from rfl), nI_1, show sh_vF (sh_oQ n (h 7) (nI w) K) (sh_og P w) k c = c by unfold sh_vF; rw [hq]]
      exact ih (k + 1) c x (by omega) hx
    · rw [if_neg (show ¬ sh_i true = 0 by decide), c_weight5 _ n h _ hn hm]
      simp only [Option.bind_some]
      by_cases hs : sh_w n (h 7) (nI k) < K
      · have hq : sh_oQ n (h 7) (nI w) K k = false := by unfold sh_oQ; rw [decide_eq_true hs, Bool.not_true, Bool.and_false]
        rw [if_pos hs, nI_1, show sh_vF (sh_oQ n (h 7) (nI w) K) (sh_og P w) k c = c by unfold sh_vF; rw [hq]]
        exact ih (k + 1) c x (by omega) hx
      · have hq : sh_oQ n (h 7) (nI w) K k = true := by unfold sh_oQ sh_wi; rw [hwi, decide_eq_false hs]; rfl
        have hle : sh_pq k ≤ sh_pq w := sh_pq_mono hwi
        have hp7 := sh_pq_le w
        rw [if_neg hs, c_bc, sh_bc_pc k (by omega)]
        simp only [Option.bind_some]
        rw [show (10 : Int32) - nI P = nI (10 - P) from nI_sub (a := 10) hP, nI_l (by omega), c_times _ (10 - P) (sh_pq k) h (by omega)]
        simp only [Option.bind_some]
        rw [nI_sub hle, nI_l (by omega), c_times _ P (sh_pq w - sh_pq k) h (by omega)]
        simp only [Option.bind_some]
        rw [lN_mul, lN_add, nI_1, show sh_vF (sh_oQ n (h 7) (nI w) K) (sh_og P w) k c = c + (10 - P) ^ sh_pq k * P ^ (sh_pq w - sh_pq k) by unfold sh_vF; rw [hq]; rfl]
        exact ih (k + 1) _ _ (by omega) (Or.inr ⟨_, rfl⟩)
/-- one factor -/
def sh_of (P w k i : Nat) : Nat := match bt (nI w) i with
  | false => 1
  | true => match bt (nI k) i with
    | true => 10 - P
    | false => P
def sh_op (P w k : Nat) : Nat → Nat → Nat → Nat
  | 0, _, X => X
  | t + 1, i, X => sh_op P w k t (i + 1) (X * sh_of P w k i)
theorem sh_op_0 (P w k : Nat) : ∀ t i, sh_op P w k t i 0 = 0 := by
  intro t
  induction t with
  | zero => intro i; rfl
  | succ t ih =>
    intro i
    show sh_op P w k t (i + 1) (0 * sh_of P w k i) = 0
    rw [Nat.zero_mul]
    exact ih (i + 1)
theorem sh_of_le {P w k i : Nat} (hP : P ≤ 10) : sh_of P w k i ≤ 10 := by
  unfold sh_of
  cases bt (nI w) i
  · exact (by decide : 1 ≤ 10)
  · cases bt (nI k) i
    · exact hP
    · dsimp only; omega
theorem lN_ncmp {a : Nat} (ha : a < 2147483648) (h0 : 0 < a) : ¬ (lg_cmp (lN a) 0) ≤ 0 := by
  rw [Int32.not_le, sh_cmp_gt]
  exact (lN_lt (a := 0) (by omega) (by omega)).mpr h0
theorem t_odd_in (d n w P k c D : Nat) (K : Int32) (h : av_M) (hP : P ≤ 10) (hn : n ≤ 7) (hm : h 44 3 = nI n) : ∀ t i X, i + t = n → X ≤ 10 ^ i → ∃ (x : Int64) (y : Int32), av_xp (d + 20) 256 114 [.ref 44, .int (nI P), .int K, .int (nI w), .long (lN c), .null, .long (lN D), .null, .int (nI k), .long (lN X), .null, .int (nI i)] [] h = av_xp (d + 20) 256 75 [.ref 44, .int (nI P), .int K, .int (nI w), .long (lN (c + sh_op P w k t i X)), .null, .long (lN D), .null, .int (nI (k + 1)), .long x, .null, .int y] [] h := by
  intro t
  induction t with
  | zero =>
    intro i X e _
    rw [eX7_odds_r44_114, hm, if_pos (sh_ge (by omega) (by omega)), lN_add, nI_1]
    exact ⟨_, _, rfl⟩
  | succ t ih =>
    intro i X e hX
    have hpow : 10 ^ i ≤ 10 ^ 7 := Nat.pow_le_pow_right (by decide) (by omega)
    rw [eX7_odds_r44_114, hm, if_neg (sh_lt (by omega) (by omega))]
    rcases Nat.eq_zero_or_pos X with e0 | hp
    · subst e0
      rw [if_pos (show lg_cmp (lN 0) 0 ≤ 0 by decide), lN_add, nI_1, sh_op_0]
      exact ⟨_, _, rfl⟩
    · have hnx : X * sh_of P w k i ≤ 10 ^ (i + 1) := by
        rw [Nat.pow_succ]
        exact Nat.mul_le_mul hX (sh_of_le hP)
      have R := ih (i + 1) (X * sh_of P w k i) (by omega) hnx
      rw [if_neg (lN_ncmp (by omega) hp), c_has]
      simp only [Option.bind_some]
      show ∃ (x : Int64) (y : Int32), _ = av_xp (d + 20) 256 75 [.ref 44, .int (nI P), .int K, .int (nI w), .long (lN (c + sh_op P w k t (i + 1) (X * sh_of P w k i))), .null, .long (lN D), .null, .int (nI (k + 1)), .long x, .null, .int y] [] h
      rw [sh_b_bt _ (show i < 32 by omega)]
      have hof : sh_of P w k i = (match bt (nI w) i with
        | false => 1
        | true => match bt (nI k) i with
          | true => 10 - P
          | false => P) := rfl
      cases hb : bt (nI w) i
      · rw [hb] at hof
        rw [if_pos (show sh_i false = 0 from rfl), nI_1, show lN X * 1 = lN (X * sh_of P w k i) by rw [hof]; exact lN_mul X 1]
        exact R
      · rw [hb] at hof
        rw [if_neg (show ¬ sh_i true = 0 by decide), c_has, sh_b_bt _ (show i < 32 by omega)]
        simp only [Option.bind_some]
        cases hb2 : bt (nI k) i
        · rw [hb2] at hof
          rw [if_pos (show sh_i false = 0 from rfl), nI_1, nI_l (by omega), lN_mul, show X * P = X * sh_of P w k i by rw [hof]]
          exact R
        · rw [hb2] at hof
          rw [if_neg (show ¬ sh_i true = 0 by decide), nI_1, show (10 : Int32) - nI P = nI (10 - P) from nI_sub (a := 10) hP, nI_l (by omega), lN_mul, show X * (10 - P) = X * sh_of P w k i by rw [hof]]
          exact R
theorem sh_op_eq (P w k : Nat) : ∀ t i X, sh_op P w k t i X = X * ((10 - P) ^ sh_cb (fun j => bt (nI w) j && bt (nI k) j) t i * P ^ sh_cb (fun j => bt (nI w) j && !bt (nI k) j) t i) := by
  intro t
  induction t with
  | zero => intro i X; show X = X * (_ ^ 0 * _ ^ 0); simp
  | succ t ih =>
    intro i X
    show sh_op P w k t (i + 1) (X * sh_of P w k i) = _
    rw [ih (i + 1), show sh_cb (fun j => bt (nI w) j && bt (nI k) j) (t + 1) i = (match bt (nI w) i && bt (nI k) i with
      | true => 1
      | false => 0) + sh_cb (fun j => bt (nI w) j && bt (nI k) j) t (i + 1) from rfl, show sh_cb (fun j => bt (nI w) j && !bt (nI k) j) (t + 1) i = (match bt (nI w) i && !bt (nI k) i with
      | true => 1
      | false => 0) + sh_cb (fun j => bt (nI w) j && !bt (nI k) j) t (i + 1) from rfl, Nat.mul_assoc]
    congr 1
    unfold sh_of
    cases bt (nI w) i
    · simp only [Bool.false_and, Nat.zero_add, Nat.one_mul]
    · cases bt (nI k) i
      · simp only [Bool.true_and, Bool.not_false, Nat.zero_add]
        rw [Nat.pow_add, Nat.pow_one, ← Nat.mul_assoc, ← Nat.mul_assoc, Nat.mul_comm P]
      · simp only [Bool.true_and, Bool.not_true, Nat.zero_add]
        rw [Nat.pow_add, Nat.pow_one, Nat.mul_assoc]
theorem sh_op_og {P w k n : Nat} (hn : n ≤ 7) (hw : ∀ j, n ≤ j → j < 32 → bt (nI w) j = false) (h : sh_wi (nI w) k = true) : sh_op P w k n 0 1 = sh_og P w k := by
  rw [sh_op_eq, Nat.one_mul]
  unfold sh_og
  have hsub := sh_wi_iff.mp h
  have cutw : ∀ Q : Nat → Bool, (∀ j, j < 7 → Q j = true → bt (nI w) j = true) → sh_cb Q 7 0 = sh_cb Q n 0 := by
    intro Q hQ
    rw [show 7 = n + (7 - n) by omega]
    apply sh_cb_cut
    intro j h1 h2
    cases hq : Q j
    · rfl
    · have := hQ j (by omega) hq
      rw [hw j (by omega) (by omega)] at this
      cases this
  have e1 : sh_cb (fun j => bt (nI w) j && bt (nI k) j) n 0 = sh_pq k := by
    rw [← cutw _ (fun j _ hq => by rw [Bool.and_eq_true] at hq; exact hq.1)]
    have := sh_cb_add (P := fun j => bt (nI w) j && bt (nI k) j) (Q := fun _ => false) (R := fun j => bt (nI k) j) 7 0 (fun j _ hj => by
      skip
      cases hb : bt (nI k) j
      · simp
      · rw [hsub j (by omega) hb]; simp)
    have z : sh_cb (fun _ => false) 7 0 = 0 := by decide
    rw [z, Nat.add_zero] at this
    exact this
  have e2 : sh_cb (fun j => bt (nI w) j && bt (nI k) j) n 0 + sh_cb (fun j => bt (nI w) j && !bt (nI k) j) n 0 = sh_pq w := by
    rw [sh_cb_add (R := fun j => bt (nI w) j) n 0 (fun j _ _ => by cases bt (nI w) j <;> cases bt (nI k) j <;> exact ⟨rfl, rfl⟩), ← cutw (fun j => bt (nI w) j) (fun j _ q => q)]
    rfl
  rw [e1] at e2 ⊢
  rw [show sh_cb (fun j => bt (nI w) j && !bt (nI k) j) n 0 = sh_pq w - sh_pq k by omega]
theorem t_odd_l (d n w P D : Nat) (K : Int32) (h : av_M) (hP : P ≤ 10) (hn : n ≤ 7) (hm : h 44 3 = nI n) (hw : w < 128) (hwb : ∀ j, n ≤ j → j < 32 → bt (nI w) j = false) : ∀ t k c (x1 x2 : Value), k + t = w + 1 → ((x1 = .null ∧ x2 = .null) ∨ (∃ (y1 : Int64) (y2 : Int32), x1 = .long y1 ∧ x2 = .int y2)) → ∃ x1' x2', ((x1' = .null ∧ x2' = .null) ∨ (∃ (y1 : Int64) (y2 : Int32), x1' = .long y1 ∧ x2' = .int y2)) ∧ av_xp (d + 20) 256 75 [.ref 44, .int (nI P), .int K, .int (nI w), .long (lN c), .null, .long (lN D), .null, .int (nI k), x1, .null, x2] [] h = av_xp (d + 20) 256 75 [.ref 44, .int (nI P), .int K, .int (nI w), .long (lN (sh_lp (sh_vF (sh_oQ n (h 47) (nI w) K) (sh_og P w)) t k c)), .null, .long (lN D), .null, .int (nI (w + 1)), x1', .null, x2'] [] h := by
  intro t
  induction t with
  | zero =>
    intro k c x1 x2 e hx
    rw [show k = w + 1 by omega]
    exact ⟨x1, x2, hx, rfl⟩
  | succ t ih =>
    intro k c x1 x2 e hx
    rw [mX7_odds_r44_75 _ _ _ _ _ _ _ _ _ _ hx, if_neg (show ¬ nI w < nI k from nI_nlt (by omega) (by omega))]
    have step : sh_lp (sh_vF (sh_oQ n (h 47) (nI w) K) (sh_og P w)) (t + 1) k c = sh_lp (sh_vF (sh_oQ n (h 47) (nI w) K) (sh_og P w)) t (k + 1) (sh_vF (sh_oQ n (h 47) (nI w) K) (sh_og P w) k c) := rfl
    rw [step]
    have zero : ∀ q : sh_oQ n (h 47) (nI w) K k = false, ∃ x1' x2', ((x1' = .null ∧ x2' = .null) ∨ (∃ (y1 : Int64) (y2 : Int32), x1' = .long y1 ∧ x2' = .int y2)) ∧ av_xp (d + 20) 256 114 [.ref 44, .int (nI P), .int K, .int (nI w), .long (lN c), .null, .long (lN D), .null, .int (nI k), .long (Int32.toInt64 0), .null, .int 0] [] h = av_xp (d + 20) 256 75 [.ref 44, .int (nI P), .int K, .int (nI w), .long (lN (sh_lp (sh_vF (sh_oQ n (h 47) (nI w) K) (sh_og P w)) t (k + 1) (sh_vF (sh_oQ n (h 47) (nI w) K) (sh_og P w) k c))), .null, .long (lN D), .null, .int (nI (w + 1)), x1', .null, x2'] [] h := by
      intro q
      obtain ⟨x, y, e1⟩ := t_odd_in d n w P k c D K h hP hn hm n 0 0 (by omega) (by omega)
      rw [sh_op_0, Nat.add_zero] at e1
      rw [show sh_vF (sh_oQ n (h 47) (nI w) K) (sh_og P w) k c = c by unfold sh_vF; rw [q], show Int32.toInt64 0 = lN 0 by decide, show (0 : Int32) = nI 0 from rfl, e1]
      exact ih (k + 1) c _ _ (by omega) (Or.inr ⟨_, _, rfl, rfl⟩)
    by_cases hwi : nI k &&& (nI w ^^^ (-1)) = 0
    · have hw1 : sh_wi (nI w) k = true := decide_eq_true hwi
      rw [if_pos hwi, c_counts _ n h _ hn hm, show sh_lp (sh_wF (h 47) (nI k)) n 0 0 = sh_w n (h 47) (nI k) from rfl]
      simp only [Option.bind_some]
      by_cases hs : sh_w n (h 47) (nI k) < K
      · have hq : sh_oQ n (h 47) (nI w) K k = false := by unfold sh_oQ; rw [decide_eq_true hs, Bool.not_true, Bool.and_false]
        rw [if_pos hs, c_flag0]
        exact zero hq
      · have hq : sh_oQ n (h 47) (nI w) K k = true := by unfold sh_oQ; rw [hw1, decide_eq_false hs]; rfl
        rw [if_neg hs, c_flag1]
        simp only [Option.bind_some]
        obtain ⟨x, y, e1⟩ := t_odd_in d n w P k c D K h hP hn hm n 0 1 (by omega) (by omega)
        rw [sh_op_og hn hwb hw1] at e1
        rw [show sh_vF (sh_oQ n (h 47) (nI w) K) (sh_og P w) k c = c + sh_og P w k by unfold sh_vF; rw [hq], show Int32.toInt64 1 = lN 1 by decide, show (0 : Int32) = nI 0 from rfl, e1]
        exact ih (k + 1) _ _ _ (by omega) (Or.inr ⟨_, _, rfl, rfl⟩)
    · have hq : sh_oQ n (h 47) (nI w) K k = false := by unfold sh_oQ sh_wi; rw [decide_eq_false hwi]; rfl
      rw [if_neg hwi, c_flag0]
      exact zero hq
theorem t_odd_d (d w P : Nat) (K : Int32) (h : av_M) (hw : w < 128) : ∀ t i X, i + t = sh_pq w → av_xp (d + 20) 256 49 [.ref 44, .int (nI P), .int K, .int (nI w), .long 0, .null, .long (lN X), .null, .int (nI i), .null, .null, .null] [] h = av_xp (d + 20) 256 75 [.ref 44, .int (nI P), .int K, .int (nI w), .long 0, .null, .long (lN (X * 10 ^ t)), .null, .int 0, .null, .null, .null] [] h := by
  have hp7 := sh_pq_le w
  intro t
  induction t with
  | zero =>
    intro i X e
    rw [eX7_odds_r44_49, c_bc, sh_bc_pc w hw]
    simp only [Option.bind_some]
    rw [if_pos (sh_ge (by omega) (by omega)), Nat.pow_zero, Nat.mul_one]
  | succ t ih =>
    intro i X e
    rw [eX7_odds_r44_49, c_bc, sh_bc_pc w hw]
    simp only [Option.bind_some]
    rw [if_neg (sh_lt (by omega) (by omega)), nI_1, show lN X * 10 = lN (X * 10) from lN_mul X 10, ih (i + 1) (X * 10) (by omega), Nat.mul_assoc, Nat.pow_succ, Nat.mul_comm 10]
theorem sh_oQ_cong {n : Nat} {str str' : Nat → Int32} (hs : ∀ j, j < n → str j = str' j) (W K : Int32) : sh_oQ n str W K = sh_oQ n str' W K := by
  funext k
  unfold sh_oQ
  rw [sh_w_cong hs]
theorem c_odds (p v : Int32) : sh_P 91 256 [.int p, .int v] := sh_qF fun d N n m L r h F E hF => by
  obtain ⟨a1, a2, a3, a4, a5, a6, a7, a8⟩ := id E.1.1
  obtain ⟨w, hw, ew⟩ := sh_sm_nI (sh_sm_hd a1 r)
  have eX0 : av_x (d + 100) 91 [.ref 0, .int p, .int v] h = if (sh_ir 0 10 p && sh_ir 0 63 v) = true then av_xp (d + 99) 91 42 [.ref 0, .int p, .int v, .int (nI w), .int (nI (sh_pq w)), .long 0, .null, .int 0, .null] [] h else some (-1, 0, h) := by
    rw [eX6_odds_r0_in]
    by_cases g1 : p < 0
    · rw [if_pos g1, sh_ir_lt g1]; rfl
    · by_cases g2 : 10 < p
      · rw [if_neg g1, if_pos g2, sh_ir_gt g2]; rfl
      · rw [if_neg g1, if_neg g2, sh_ir_in g1 g2]
        by_cases g3 : v < 0
        · rw [if_pos g3, sh_ir_lt g3]; rfl
        · by_cases g4 : 63 < v
          · rw [if_neg g3, if_neg (by rw [Int32.not_le]; exact g4), sh_ir_gt g4]; rfl
          · rw [if_neg g3, if_pos (by rw [← Int32.not_lt]; exact g4), sh_ir_in g3 g4, c_holding5 _ n h r a3 a4, ew]
            simp only [Option.bind_some, c_bc]
            rw [sh_bc_pc w hw]
            rfl
  have eM0 : ∀ h' : av_M, h' 44 3 = nI n → sh_MV 48 h' r → av_x (d + 100) 256 [.ref 44, .int p, .int v] h' = if (sh_ir 0 10 p && sh_ir 0 63 v) = true then av_xp (d + 99) 256 49 [.ref 44, .int p, .int v, .int (nI w), .long 0, .null, .long 1, .null, .int 0, .null, .null, .null] [] (av_u h' 44 0 0) else some (-1, 0, av_u h' 44 0 0) := by
    intro h' hm hv
    rw [eX7_odds_r44_in, c_inI _ p 0 10 _ _ _ (by decide) (by decide)]
    simp only [Option.bind_some]
    cases sh_ir 0 10 p
    · rfl
    · rw [if_neg (show ¬ sh_i true = 0 by decide), c_inI _ v 0 63 _ _ _ (by decide) (by decide)]
      simp only [Option.bind_some]
      cases sh_ir 0 63 v
      · rfl
      · rw [if_neg (show ¬ sh_i true = 0 by decide), c_holdingM48 _ n _ r (show (av_u h' 44 0 0) 44 3 = nI n from hm) (show sh_MV 48 (av_u h' 44 0 0) r from hv), ew]
        rfl
  cases hT : (sh_ir 0 10 p && sh_ir 0 63 v)
  · exact ⟨-1, none, fun _ q => (nomatch q), sh_QX_n (by rw [eX0, hT, if_neg (by decide)]), fun h' hc E' _ => sh_QM_n (v := 0) (by rw [eM0 h' E'.1.1.2.2.2.2.1 E'.1.1.2.2.2.2.2.1, hT, if_neg (by decide)])⟩
  · have hTp : sh_ir 0 10 p = true := by
      rw [Bool.and_eq_true] at hT
      exact hT.1
    obtain ⟨P, _, hP, rfl⟩ := sh_ir_nat (lo := 0) (hi := 10) (by decide) (by decide) hTp
    have eQ : sh_oQ n (h 7) (nI w) v = sh_oQ n (h 47) (nI w) v := sh_oQ_cong (fun j hj => (a7 j hj).2.1) _ _
    have hp7 := sh_pq_le w
    have hwb : ∀ j, n ≤ j → j < 32 → bt (nI w) j = false := by
      intro j j1 j2
      rw [← ew]
      unfold sh_hd
      rw [b_and, b_and, sh_e_bt n a1 j j2, decide_eq_false (by omega)]
      rfl
    have cut : sh_lp (sh_vF (sh_oQ n (h 47) (nI w) v) (sh_og P w)) 128 0 0 = sh_lp (sh_vF (sh_oQ n (h 47) (nI w) v) (sh_og P w)) (w + 1) 0 0 := by
      apply sh_vF_cut hw
      intro k k1 k2
      unfold sh_oQ
      cases hq : sh_wi (nI w) k
      · rfl
      · have := sh_wi_le w hw k k2 hq
        omega
    obtain ⟨C, hC⟩ : ∃ C, C = sh_lp (sh_vF (sh_oQ n (h 47) (nI w) v) (sh_og P w)) 128 0 0 := ⟨_, rfl⟩
    have hC3 : C < 2147483648 := by
      have hg : ∀ k, k < 128 → sh_oQ n (h 47) (nI w) v k = true → sh_og P w k ≤ 10 ^ 7 := by
        intro k k1 k2
        unfold sh_oQ at k2
        rw [Bool.and_eq_true] at k2
        exact sh_og_le hP (sh_pq_mono k2.1)
      have := sh_vF_le (Q := sh_oQ n (h 47) (nI w) v) hg 128 0 0 (by omega)
      rw [hC]
      omega
    have hpow : 10 ^ sh_pq w ≤ 10 ^ 7 := Nat.pow_le_pow_right (by decide) hp7
    have hpow0 : 0 < 10 ^ sh_pq w := Nat.pow_pos (by decide)
    refine ⟨0, some (sh_fl C (10 ^ sh_pq w)), fun l q => by injection q with q; subst q; simp [sh_fl], ?_, ?_⟩
    · obtain ⟨x', hx', K⟩ := f_odd_l (d + 79) n w P v h hP a1 a2 hw 128 0 0 .null (by omega) (Or.inl rfl)
      rw [eQ, ← hC] at K
      obtain ⟨h2, e2, c2, t2⟩ := c_tellFr (d + 78) C (10 ^ sh_pq w) h hC3 (by omega) hpow0
      refine ⟨h2, ?_, c2, t2⟩
      rw [eX0, hT, if_pos rfl]
      refine K.trans ?_
      rw [mX6_odds_r0_42 _ _ _ _ _ _ _ _ _ hx', if_pos (show (128 : Int32) ≤ nI 128 by decide), show (10 : Int64) = lN 10 from rfl, c_times _ 10 (sh_pq w) h (by omega)]
      simp only [Option.bind_some]
      rw [e2]
      rfl
    · intro h' hc E' hF'
      obtain ⟨b1, b2, b3, b4, b5, b6, b7, b8⟩ := id E'.1.1
      have q47 : (av_u h' 44 0 0) 47 = h 47 := hc 47 (by decide)
      have hm0 : (av_u h' 44 0 0) 44 3 = nI n := b5
      have D1 := t_odd_d (d + 79) w P v (av_u h' 44 0 0) hw (sh_pq w) 0 1 (by omega)
      rw [Nat.one_mul] at D1
      obtain ⟨x1', x2', hx', K⟩ := t_odd_l (d + 79) n w P (10 ^ sh_pq w) v (av_u h' 44 0 0) hP a1 hm0 hw hwb (w + 1) 0 0 .null .null (by omega) (Or.inl ⟨rfl, rfl⟩)
      rw [q47, ← cut, ← hC] at K
      obtain ⟨h2, e2, c2, t2⟩ := c_entersFr (d + 48) C (10 ^ sh_pq w) (av_u h' 44 0 0) hC3 (by omega) hpow0
      refine ⟨h2, ?_, sh_m_tr (sh_m_s (k := 0) (v := 0) (by decide) (sh_m_refl h')) c2, t2⟩
      rw [eM0 h' b5 b6, hT, if_pos rfl]
      refine (D1.trans K).trans ?_
      rw [mX7_odds_r44_75 _ _ _ _ _ _ _ _ _ _ hx', if_pos (show nI w < nI (w + 1) from nI_lt (by omega) (by omega)), e2]
      rfl
