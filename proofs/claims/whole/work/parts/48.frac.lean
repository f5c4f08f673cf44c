/-! PURE, 38: fractions -/
theorem lN_div (a : Nat) {b : Nat} (ha : a < 2147483648) (hb : b < 2147483648) (h0 : 0 < b) : lN a / lN b = lN (a / b) := by
  have hd : a / b ≤ a := Nat.div_le_self a b
  apply Int64.toInt_inj.mp
  rw [Int64.toInt_div, lN_toInt (by omega), lN_toInt (by omega), lN_toInt (by omega)]
  have e : (a : Int).tdiv (b : Int) = ((a / b : Nat) : Int) := by
    rw [Int.tdiv_eq_ediv_of_nonneg (by omega)]
    rfl
  rw [e]
  clear e
  generalize a / b = q at hd ⊢
  apply Int.bmod_eq_of_le <;> omega
theorem lN_rem (a : Nat) {b : Nat} (ha : a < 2147483648) (hb : b < 2147483648) (h0 : 0 < b) : lN a - lN a / lN b * lN b = lN (a % b) := by
  rw [lN_div a ha hb h0, lN_mul, lN_sub (Nat.div_mul_le_self a b)]
  congr 1
  have := Nat.div_add_mod a b
  rw [Nat.mul_comm] at this
  omega
theorem lN_cmp0 : (lg_cmp (lN 0) 0) = 0 := by decide
theorem lN_cmp1 {a : Nat} (ha : a < 2147483648) (h0 : 0 < a) : ¬ (lg_cmp (lN a) 0) = 0 := by
  intro q
  have h1 : ¬ (0 : Int32) < lg_cmp (lN a) 0 := by rw [q]; decide
  rw [sh_cmp_gt] at h1
  exact h1 ((lN_lt (a := 0) (by omega) (by omega)).mpr h0)
theorem lN_nz {a : Nat} (ha : a < 2147483648) (h0 : 0 < a) : av_nzl (lN a) = true := by
  unfold av_nzl
  rw [decide_eq_false (fun q => by have := (lN_eq (b := 0) (by omega) (by omega)).mp q; omega)]
  rfl
theorem sh_gcd_step {a b : Nat} (h0 : 0 < b) : Nat.gcd a b = Nat.gcd b (a % b) := by
  rw [Nat.gcd_comm a b, Nat.gcd_rec b a, Nat.gcd_comm]
theorem sh_half {b r : Nat} (hr : 0 < r) (hb : r < b) : 2 * (b % r) ≤ b := by
  have h1 := Nat.mod_lt b hr
  rcases Nat.lt_or_ge b (2 * r) with h | h
  · have : b % r = b - r := by
      rw [Nat.mod_eq_sub_mod (by omega), Nat.mod_eq_of_lt (by omega)]
    omega
  · omega
theorem f_euc_end (d U W a k : Nat) (x : Value) (h : av_M) (ha : a < 2147483648) (h0 : 0 < a) (hU : U < 2147483648) (hW : W < 2147483648) (hk : k ≤ 99) (hx : x = .null ∨ ∃ y : Int64, x = .long y) :
    av_xp (d + 20) 112 9 [.ref 0, .long (lN U), .null, .long (lN W), .null, .long (lN a), .null, .long (lN 0), .null, .int (nI k), x, .null] [] h = (av_x (d + 20) 111 [.ref 0, .long (lN (U / a)), .long (lN (W / a))] h).bind fun q => some (0, 0, q.2.2) := by
  rw [mX6_tellFraction_r0_9 _ _ _ _ _ _ _ _ hx, if_neg (show ¬ (100 : Int32) ≤ nI k from sh_lt (n := 100) (by omega) (by decide)), if_pos lN_cmp0, if_neg (lN_cmp1 ha h0), lN_nz ha h0]
  simp only [cond_true]
  rw [lN_div U hU ha h0, lN_div W hW ha h0]
theorem f_euc_step (d U W a b k : Nat) (x : Value) (h : av_M) (ha : a < 2147483648) (hb : b < 2147483648) (h0 : 0 < b) (hk : k ≤ 99) (hx : x = .null ∨ ∃ y : Int64, x = .long y) :
    ∃ y : Int64, av_xp (d + 20) 112 9 [.ref 0, .long (lN U), .null, .long (lN W), .null, .long (lN a), .null, .long (lN b), .null, .int (nI k), x, .null] [] h = av_xp (d + 20) 112 9 [.ref 0, .long (lN U), .null, .long (lN W), .null, .long (lN b), .null, .long (lN (a % b)), .null, .int (nI (k + 1)), .long y, .null] [] h := by
  rw [mX6_tellFraction_r0_9 _ _ _ _ _ _ _ _ hx, if_neg (show ¬ (100 : Int32) ≤ nI k from sh_lt (n := 100) (by omega) (by decide)), if_neg (lN_cmp1 hb h0), lN_nz hb h0]
  simp only [cond_true]
  rw [lN_rem a ha hb h0, nI_1]
  exact ⟨_, rfl⟩
theorem f_euc (d U W : Nat) (h : av_M) (hU : U < 2147483648) (hW : W < 2147483648) : ∀ t a b k (x : Value), b < 2 ^ t → a < 2147483648 → b < 2147483648 → 0 < a → k + 2 * t ≤ 99 → (x = .null ∨ ∃ y : Int64, x = .long y) →
    av_xp (d + 20) 112 9 [.ref 0, .long (lN U), .null, .long (lN W), .null, .long (lN a), .null, .long (lN b), .null, .int (nI k), x, .null] [] h = (av_x (d + 20) 111 [.ref 0, .long (lN (U / Nat.gcd a b)), .long (lN (W / Nat.gcd a b))] h).bind fun q => some (0, 0, q.2.2) := by
  intro t
  induction t with
  | zero =>
    intro a b k x hb ha hb2 h0 hk hx
    have e : b = 0 := by
      rw [Nat.pow_zero] at hb
      omega
    subst e
    rw [Nat.gcd_zero_right]
    exact f_euc_end d U W a k x h ha h0 hU hW (by omega) hx
  | succ t ih =>
    intro a b k x hb ha hb2 h0 hk hx
    rcases Nat.eq_zero_or_pos b with e | hp
    · subst e
      rw [Nat.gcd_zero_right]
      exact f_euc_end d U W a k x h ha h0 hU hW (by omega) hx
    · obtain ⟨y, e1⟩ := f_euc_step d U W a b k x h ha hb2 hp (by omega) hx
      rw [e1, sh_gcd_step hp]
      have hr := Nat.mod_lt a hp
      rcases Nat.eq_zero_or_pos (a % b) with e | hp2
      · rw [e, Nat.gcd_zero_right]
        exact f_euc_end d U W b (k + 1) _ h hb2 hp hU hW (by omega) (Or.inr ⟨_, rfl⟩)
      · obtain ⟨y2, e2⟩ := f_euc_step d U W b (a % b) (k + 1) (.long y) h hb2 (by omega) hp2 (by omega) (Or.inr ⟨_, rfl⟩)
        rw [e2, sh_gcd_step hp2]
        have h2 := sh_half hp2 hr
        have hpow : 2 ^ (t + 1) = 2 * 2 ^ t := by rw [Nat.pow_succ, Nat.mul_comm]
        exact ih (a % b) (b % (a % b)) (k + 1 + 1) _ (by omega) (by omega) (by omega) hp2 (by omega) (Or.inr ⟨_, rfl⟩)
def sh_fl (U W : Nat) : List Int64 := [lN (U / Nat.gcd U W), lN (W / Nat.gcd U W)]
theorem c_tellFr (d U W : Nat) (h : av_M) (hU : U < 2147483648) (hW : W < 2147483648) (h0 : 0 < W) : ∃ h', av_x (d + 21) 112 [.ref 0, .long (lN U), .long (lN W)] h = some (0, 0, h') ∧ sh_c h h' ∧ sh_t1 (sh_fl U W) h' := by
  have e := f_euc d U W h hU hW 31 W U 0 .null (by omega) hW hU h0 (by decide) (Or.inl rfl)
  obtain ⟨h2, e2, f2, t2⟩ := c_tell2 (d + 18) h (lN (U / Nat.gcd W U)) (lN (W / Nat.gcd W U))
  rw [e2] at e
  rw [eX6_tellFraction_r0_in]
  refine ⟨h2, e, sh_c_of f2 (by decide), ?_⟩
  unfold sh_fl
  rw [Nat.gcd_comm U W]
  exact t2
theorem c_common (h : av_M) : ∀ t a b d, b < 2 ^ t → a < 2147483648 → b < 2147483648 → av_x (d + 2 * t + 2) 161 [.long (lN a), .long (lN b)] h = some (0, lN (Nat.gcd a b), h) := by
  intro t
  induction t with
  | zero =>
    intro a b d hb ha hb2
    have e : b = 0 := by
      rw [Nat.pow_zero] at hb
      omega
    subst e
    rw [Nat.gcd_zero_right, eX7_common_in, if_pos lN_cmp0]
  | succ t ih =>
    intro a b d hb ha hb2
    rcases Nat.eq_zero_or_pos b with e | hp
    · subst e
      rw [Nat.gcd_zero_right, eX7_common_in, if_pos lN_cmp0]
    · rw [show d + 2 * (t + 1) + 2 = (d + 2 * t + 2 + 1) + 1 by omega, eX7_common_in, if_neg (lN_cmp1 hb2 hp), lN_nz hb2 hp, lN_rem a ha hb2 hp, sh_gcd_step hp]
      simp only [cond_true]
      have hr := Nat.mod_lt a hp
      rcases Nat.eq_zero_or_pos (a % b) with e | hp2
      · rw [e, Nat.gcd_zero_right, eX7_common_in, if_pos lN_cmp0]
        rfl
      · rw [eX7_common_in, if_neg (lN_cmp1 (by omega) hp2), lN_nz (by omega) hp2, lN_rem b hb2 (by omega) hp2, sh_gcd_step hp2]
        simp only [cond_true]
        have h2 := sh_half hp2 hr
        have hpow : 2 ^ (t + 1) = 2 * 2 ^ t := by rw [Nat.pow_succ, Nat.mul_comm]
        rw [ih (a % b) (b % (a % b)) d (by omega) (by omega) (by omega)]
        rfl
theorem c_entersFr (d U W : Nat) (h : av_M) (hU : U < 2147483648) (hW : W < 16777216) (h0 : 0 < W) : ∃ h', av_x (d + 51) 163 [.ref 44, .long (lN U), .long (lN W)] h = some (0, 0, h') ∧ sh_m h h' ∧ sh_t2 (sh_fl U W) h' := by
  rw [eX7_entersFraction_r44_in, show d + 50 = d + 2 * 24 + 2 by omega, c_common h 24 U W d (by omega) hU (by omega)]
  simp only [Option.bind_some]
  have hg : 0 < Nat.gcd U W := Nat.gcd_pos_of_pos_right U h0
  have hg2 : Nat.gcd U W ≤ W := Nat.gcd_le_right U h0
  rw [lN_nz (by omega) hg]
  simp only [cond_true]
  rw [lN_div U hU (by omega) hg, lN_div W (by omega) (by omega) hg]
  obtain ⟨h2, e2, m2, f2, t2⟩ := c_ent1 (d + 2 * 24 + 1) (av_u h 44 1 0) (lN (U / Nat.gcd U W)) rfl
  rw [e2]
  simp only [Option.bind_some]
  obtain ⟨h3, e3, m3, f3, t3⟩ := c_enters (d + 2 * 24 + 1) h2 _ (lN (W / Nat.gcd U W)) (by simp) t2
  rw [e3]
  exact ⟨h3, rfl, sh_m_tr (sh_m_tr (sh_m_s (k := 1) (v := 0) (by decide) (sh_m_refl h)) m2) m3, t3⟩
