/-! PURE, 50: calls: wars -/
def sh_gn (a b v : Int32) : Int32 := if a = b then v / 2 - a else if b ≤ a then v - b - (a - b) / 3 else -a
def sh_gt (a b v : Int32) : Int32 := if a ≤ b then (if a = b then v / 2 - av_min a b else 0 - av_min a b) else v - (a - b) / 3 - av_min a b
theorem sh_gn_gt : ∀ a, a < 10 → ∀ b, b < 10 → ∀ v, v < 21 → sh_gt (nI a) (nI b) (nI v) = sh_gn (nI a) (nI b) (nI v) := by decide +kernel
theorem c_gain (d : Nat) (a b v : Int32) (h : av_M) : av_x (d + 1) 153 [.int a, .int b, .int v] h = some (sh_gn a b v, 0, h) := by
  rw [eX6_gain_in]
  unfold sh_gn
  by_cases e : a = b
  · rw [if_pos e, if_pos e]
  · rw [if_neg e, if_neg e]
    by_cases l : b ≤ a
    · rw [if_pos l, if_pos l]
    · rw [if_neg l, if_neg l]
theorem c_gets (d : Nat) (a b v : Int32) (h : av_M) : av_x (d + 1) 266 [.int a, .int b, .int v] h = some (sh_gt a b v, 0, h) := by
  rw [eX7_gets_in]
  unfold sh_gt
  by_cases l : a ≤ b
  · rw [if_pos l, if_pos l]
    by_cases e : a = b
    · rw [if_pos e, if_pos e]
    · rw [if_neg e, if_neg e]
  · rw [if_neg l, if_neg l]
def sh_bs (v a b o : Nat) : Bool := decide (sh_gn (nI o) (nI b) (nI v) ≤ sh_gn (nI a) (nI b) (nI v))
theorem c_best (d v a b : Nat) (h : av_M) : av_x (d + 2) 152 [.int (nI a), .int (nI b), .int (nI v)] h = some (sh_i (sh_ev (sh_bs v a b) 10 0), 0, h) := by
  have L : ∀ t o, o + t = 10 → av_xp (d + 1) 152 10 [.int (nI a), .int (nI b), .int (nI v), .int (sh_gn (nI a) (nI b) (nI v)), .int (nI o)] [] h = some (sh_i (sh_ev (sh_bs v a b) t o), 0, h) := by
    intro t
    induction t with
    | zero =>
      intro o e
      rw [show o = 10 by omega, eX6_isBestAgainst_10, if_pos (show (9 : Int32) < nI 10 by decide)]
      rfl
    | succ t ih =>
      intro o e
      rw [eX6_isBestAgainst_10, if_neg (show ¬ (9 : Int32) < nI o from nI_nlt (b := o) (a := 9) (by omega) (by omega)), c_gain]
      simp only [Option.bind_some, nI_1]
      show _ = some (sh_i (sh_bs v a b o && sh_ev (sh_bs v a b) t (o + 1)), 0, h)
      unfold sh_bs
      by_cases q : sh_gn (nI o) (nI b) (nI v) ≤ sh_gn (nI a) (nI b) (nI v)
      · rw [if_pos q, decide_eq_true q]
        exact ih (o + 1) (by omega)
      · rw [if_neg q, decide_eq_false q]
        rfl
  rw [eX6_isBestAgainst_in, c_gain]
  exact L 10 0 (by omega)
theorem c_rest (d v a b : Nat) (h : av_M) (ha : a < 10) (hb : b < 10) (hv : v < 21) : av_x (d + 2) 267 [.int (nI a), .int (nI b), .int (nI v)] h = some (sh_i (sh_ev (sh_bs v a b) 10 0), 0, h) := by
  have L : ∀ t o (z : Bool), o + t = 10 → av_xp (d + 1) 267 5 [.int (nI a), .int (nI b), .int (nI v), .int (sh_i z), .int (nI o)] [] h = some (sh_i (z && sh_ev (sh_bs v a b) t o), 0, h) := by
    intro t
    induction t with
    | zero =>
      intro o z e
      rw [show o = 10 by omega, eX7_isRest_5, if_pos (show (9 : Int32) < nI 10 by decide), sh_ia]
      unfold sh_ev
      rw [Bool.and_true]
    | succ t ih =>
      intro o z e
      rw [eX7_isRest_5, if_neg (show ¬ (9 : Int32) < nI o from nI_nlt (b := o) (a := 9) (by omega) (by omega))]
      cases z
      · rw [if_pos (show sh_i false = 0 from rfl), nI_1]
        exact (ih (o + 1) false (by omega)).trans (by simp only [Bool.false_and])
      · rw [if_neg (show ¬ sh_i true = 0 by decide), c_gets]
        simp only [Option.bind_some]
        rw [c_gets, sh_gn_gt o (by omega) b hb v hv, sh_gn_gt a ha b hb v hv]
        simp only [Option.bind_some, nI_1]
        show _ = some (sh_i (true && (sh_bs v a b o && sh_ev (sh_bs v a b) t (o + 1))), 0, h)
        have R1 := ih (o + 1) true (by omega)
        have R0 := ih (o + 1) false (by omega)
        rw [Bool.true_and] at R1 ⊢
        rw [Bool.false_and] at R0
        unfold sh_bs
        by_cases q : sh_gn (nI o) (nI b) (nI v) ≤ sh_gn (nI a) (nI b) (nI v)
        · rw [if_neg (by rw [Int32.not_lt]; exact q), decide_eq_true q]
          exact R1
        · rw [if_pos (by rw [← Int32.not_le]; exact q), decide_eq_false q]
          exact R0
  rw [eX7_isRest_in]
  have := L 10 0 true (by omega)
  rw [Bool.true_and] at this
  exact this
def sh_wQ (v q : Nat) : Bool := sh_ev (sh_bs v (q / 10) (q % 10)) 10 0 && sh_ev (sh_bs v (q % 10) (q / 10)) 10 0
def sh_wL (o : Option Nat) : List Int64 := match o with
  | none => []
  | some q => [Int32.toInt64 (nI (q / 10)), Int32.toInt64 (nI (q % 10))]
theorem f_war_in (d v x : Nat) (hx : x < 10) : ∀ t y (z : Option Nat × Nat) (h : av_M), y + t = 10 → sh_eI (10 * x + y) z → sh_t1 (sh_wL z.1) h →
    ∃ h', sh_eI (10 * x + 10) (sh_lp (sh_eF (sh_wQ v)) t (10 * x + y) z) ∧ av_xp (d + 20) 98 32 [.ref 0, .int (nI v), .int (nI z.2), .int (nI x), .int (nI y)] [] h = av_xp (d + 20) 98 32 [.ref 0, .int (nI v), .int (nI (sh_lp (sh_eF (sh_wQ v)) t (10 * x + y) z).2), .int (nI x), .int (nI 10)] [] h' ∧ sh_c h h' ∧ sh_t1 (sh_wL (sh_lp (sh_eF (sh_wQ v)) t (10 * x + y) z).1) h' := by
  intro t
  induction t with
  | zero =>
    intro y z h e hI ht
    have ey : y = 10 := by omega
    subst ey
    exact ⟨h, hI, rfl, sh_c_refl h, ht⟩
  | succ t ih =>
    intro y z h e hI ht
    have hI2 := sh_eI_s (Q := sh_wQ v) hI
    have hq : sh_wQ v (10 * x + y) = (sh_ev (sh_bs v x y) 10 0 && sh_ev (sh_bs v y x) 10 0) := by
      unfold sh_wQ
      rw [show (10 * x + y) / 10 = x by omega, show (10 * x + y) % 10 = y by omega]
    rw [eX6_wars_r0_32, if_neg (show ¬ (9 : Int32) < nI y from nI_nlt (b := y) (a := 9) (by omega) (by omega)), c_best]
    simp only [Option.bind_some, nI_1]
    rw [sh_lp_s]
    obtain ⟨o, m⟩ := z
    have no : sh_wQ v (10 * x + y) = false → ∃ h', sh_eI (10 * x + 10) (sh_lp (sh_eF (sh_wQ v)) t (10 * x + y + 1) (sh_eF (sh_wQ v) (10 * x + y) (o, m))) ∧ av_xp (d + 20) 98 32 [.ref 0, .int (nI v), .int (nI m), .int (nI x), .int (nI (y + 1))] [] h = av_xp (d + 20) 98 32 [.ref 0, .int (nI v), .int (nI (sh_lp (sh_eF (sh_wQ v)) t (10 * x + y + 1) (sh_eF (sh_wQ v) (10 * x + y) (o, m))).2), .int (nI x), .int (nI 10)] [] h' ∧ sh_c h h' ∧ sh_t1 (sh_wL (sh_lp (sh_eF (sh_wQ v)) t (10 * x + y + 1) (sh_eF (sh_wQ v) (10 * x + y) (o, m))).1) h' := by
      intro q
      have es : sh_eF (sh_wQ v) (10 * x + y) (o, m) = (o, m) := by unfold sh_eF; rw [q]
      rw [es] at hI2 ⊢
      exact ih (y + 1) (o, m) h (by omega) hI2 ht
    cases q1 : sh_ev (sh_bs v x y) 10 0
    · rw [q1] at hq
      rw [if_pos (show sh_i false = 0 from rfl)]
      exact no hq
    · rw [q1] at hq
      rw [if_neg (show ¬ sh_i true = 0 by decide), c_best]
      simp only [Option.bind_some]
      cases q2 : sh_ev (sh_bs v y x) 10 0
      · rw [q2] at hq
        rw [if_pos (show sh_i false = 0 from rfl)]
        exact no hq
      · rw [q2] at hq
        have hq : sh_wQ v (10 * x + y) = true := hq
        rw [if_neg (show ¬ sh_i true = 0 by decide)]
        cases o with
        | none =>
          have em : m = 0 := hI.1.mp rfl
          subst em
          have es : sh_eF (sh_wQ v) (10 * x + y) (none, 0) = (some (10 * x + y), 1) := by unfold sh_eF; rw [hq]
          rw [es] at hI2 ⊢
          rw [if_pos (show nI 0 = 0 from rfl)]
          obtain ⟨h2, e2, f2, t2⟩ := c_tell2 (d + 18) h (Int32.toInt64 (nI x)) (Int32.toInt64 (nI y))
          rw [e2]
          simp only [Option.bind_some]
          obtain ⟨h3, i3, e3, c3, t3⟩ := ih (y + 1) (some (10 * x + y), 1) h2 (by omega) hI2 (by
            unfold sh_wL
            dsimp only
            rw [show (10 * x + y) / 10 = x by omega, show (10 * x + y) % 10 = y by omega]
            exact t2)
          exact ⟨h3, i3, e3, sh_c_tr (sh_c_of f2 (by decide)) c3, t3⟩
        | some b =>
          have hm0 : m ≠ 0 := fun q => by have := hI.1.mpr q; cases this
          have hm1 := hI.2
          dsimp only at hm1
          have es : sh_eF (sh_wQ v) (10 * x + y) (some b, m) = (some b, m + 1) := by unfold sh_eF; rw [hq]
          rw [es] at hI2 ⊢
          rw [if_neg (show ¬ nI m = 0 from nI_ne0 (by omega) (by omega))]
          exact ih (y + 1) (some b, m + 1) h (by omega) hI2 ht
theorem f_war_l (d v : Nat) : ∀ t x (z : Option Nat × Nat) (w : Value) (h : av_M), x + t = 10 → sh_j1 w → sh_eI (10 * x) z → sh_t1 (sh_wL z.1) h →
    ∃ h', av_xp (d + 20) 98 23 [.ref 0, .int (nI v), .int (nI z.2), .int (nI x), w] [] h = some (nI (sh_lp (sh_eF (sh_wQ v)) (10 * t) (10 * x) z).2, 0, h') ∧ sh_c h h' ∧ sh_t1 (sh_wL (sh_lp (sh_eF (sh_wQ v)) (10 * t) (10 * x) z).1) h' := by
  intro t
  induction t with
  | zero =>
    intro x z w h e hw hI ht
    have ex : x = 10 := by omega
    subst ex
    rw [mX6_wars_r0_23 _ _ _ _ _ _ hw, if_pos (show (9 : Int32) < nI 10 by decide)]
    exact ⟨h, rfl, sh_c_refl h, ht⟩
  | succ t ih =>
    intro x z w h e hw hI ht
    obtain ⟨h2, i2, e2, c2, t2⟩ := f_war_in d v x (by omega) 10 0 z h (by omega) hI ht
    have e2' : av_xp (d + 20) 98 32 [.ref 0, .int (nI v), .int (nI z.2), .int (nI x), .int 0] [] h = _ := e2
    rw [mX6_wars_r0_23 _ _ _ _ _ _ hw, if_neg (show ¬ (9 : Int32) < nI x from nI_nlt (b := x) (a := 9) (by omega) (by omega)), e2', eX6_wars_r0_32, if_pos (show (9 : Int32) < nI 10 by decide), nI_1]
    have sp : sh_lp (sh_eF (sh_wQ v)) (10 * (t + 1)) (10 * x) z = sh_lp (sh_eF (sh_wQ v)) (10 * t) (10 * (x + 1)) (sh_lp (sh_eF (sh_wQ v)) 10 (10 * x + 0) z) := by
      rw [show 10 * (t + 1) = 10 + 10 * t by omega, sh_lp_split, show 10 * (x + 1) = 10 * x + 10 by omega]
      rfl
    rw [sp]
    obtain ⟨h3, e3, c3, t3⟩ := ih (x + 1) _ (.int (nI 10)) h2 (by omega) (Or.inr ⟨_, rfl⟩) (by rw [show 10 * (x + 1) = 10 * x + 10 by omega]; exact i2) t2
    exact ⟨h3, e3, sh_c_tr c2 c3, t3⟩
theorem t_war_in (d v x : Nat) (hx : x < 10) (hv : v < 21) : ∀ t y (z : Option Nat × Nat) (h : av_M), y + t = 10 → sh_eI (10 * x + y) z → sh_t2 (sh_wL z.1) h →
    ∃ h', sh_eI (10 * x + 10) (sh_lp (sh_eF (sh_wQ v)) t (10 * x + y) z) ∧ av_xp (d + 20) 268 37 [.ref 44, .int (nI v), .int (nI z.2), .int (nI x), .int (nI y)] [] h = av_xp (d + 20) 268 37 [.ref 44, .int (nI v), .int (nI (sh_lp (sh_eF (sh_wQ v)) t (10 * x + y) z).2), .int (nI x), .int (nI 10)] [] h' ∧ sh_m h h' ∧ sh_t2 (sh_wL (sh_lp (sh_eF (sh_wQ v)) t (10 * x + y) z).1) h' := by
  intro t
  induction t with
  | zero =>
    intro y z h e hI ht
    have ey : y = 10 := by omega
    subst ey
    exact ⟨h, hI, rfl, sh_m_refl h, ht⟩
  | succ t ih =>
    intro y z h e hI ht
    have hI2 := sh_eI_s (Q := sh_wQ v) hI
    have hq : sh_wQ v (10 * x + y) = (sh_ev (sh_bs v x y) 10 0 && sh_ev (sh_bs v y x) 10 0) := by
      unfold sh_wQ
      rw [show (10 * x + y) / 10 = x by omega, show (10 * x + y) % 10 = y by omega]
    rw [eX7_wars_r44_37, if_neg (show ¬ (9 : Int32) < nI y from nI_nlt (b := y) (a := 9) (by omega) (by omega)), c_rest _ v x y h hx (by omega) hv]
    simp only [Option.bind_some, nI_1]
    rw [sh_lp_s]
    obtain ⟨o, m⟩ := z
    have no : sh_wQ v (10 * x + y) = false → ∃ h', sh_eI (10 * x + 10) (sh_lp (sh_eF (sh_wQ v)) t (10 * x + y + 1) (sh_eF (sh_wQ v) (10 * x + y) (o, m))) ∧ av_xp (d + 20) 268 37 [.ref 44, .int (nI v), .int (nI m), .int (nI x), .int (nI (y + 1))] [] h = av_xp (d + 20) 268 37 [.ref 44, .int (nI v), .int (nI (sh_lp (sh_eF (sh_wQ v)) t (10 * x + y + 1) (sh_eF (sh_wQ v) (10 * x + y) (o, m))).2), .int (nI x), .int (nI 10)] [] h' ∧ sh_m h h' ∧ sh_t2 (sh_wL (sh_lp (sh_eF (sh_wQ v)) t (10 * x + y + 1) (sh_eF (sh_wQ v) (10 * x + y) (o, m))).1) h' := by
      intro q
      have es : sh_eF (sh_wQ v) (10 * x + y) (o, m) = (o, m) := by unfold sh_eF; rw [q]
      rw [es] at hI2 ⊢
      exact ih (y + 1) (o, m) h (by omega) hI2 ht
    cases q1 : sh_ev (sh_bs v x y) 10 0
    · rw [q1] at hq
      rw [if_pos (show sh_i false = 0 from rfl)]
      exact no hq
    · rw [q1] at hq
      rw [if_neg (show ¬ sh_i true = 0 by decide), c_rest _ v y x h (by omega) hx hv]
      simp only [Option.bind_some]
      cases q2 : sh_ev (sh_bs v y x) 10 0
      · rw [q2] at hq
        rw [if_pos (show sh_i false = 0 from rfl)]
        exact no hq
      · rw [q2] at hq
        have hq : sh_wQ v (10 * x + y) = true := hq
        rw [if_neg (show ¬ sh_i true = 0 by decide)]
        cases o with
        | none =>
          have em : m = 0 := hI.1.mp rfl
          subst em
          have es : sh_eF (sh_wQ v) (10 * x + y) (none, 0) = (some (10 * x + y), 1) := by unfold sh_eF; rw [hq]
          rw [es] at hI2 ⊢
          rw [if_pos (show nI 0 = 0 from rfl)]
          obtain ⟨h2, e2, m2, f2, t2⟩ := c_enters (d + 19) h [] (Int32.toInt64 (nI x)) (by decide) ht
          rw [e2]
          simp only [Option.bind_some]
          obtain ⟨h3, e3, m3, f3, t3⟩ := c_enters (d + 19) h2 _ (Int32.toInt64 (nI y)) (by simp) t2
          rw [e3]
          simp only [Option.bind_some]
          obtain ⟨h4, i4, e4, c4, t4⟩ := ih (y + 1) (some (10 * x + y), 1) h3 (by omega) hI2 (by
            unfold sh_wL
            dsimp only
            rw [show (10 * x + y) / 10 = x by omega, show (10 * x + y) % 10 = y by omega]
            exact t3)
          exact ⟨h4, i4, e4, sh_m_tr (sh_m_tr m2 m3) c4, t4⟩
        | some b =>
          have hm0 : m ≠ 0 := fun q => by have := hI.1.mpr q; cases this
          have hm1 := hI.2
          dsimp only at hm1
          have es : sh_eF (sh_wQ v) (10 * x + y) (some b, m) = (some b, m + 1) := by unfold sh_eF; rw [hq]
          rw [es] at hI2 ⊢
          rw [if_neg (show ¬ nI m = 0 from nI_ne0 (by omega) (by omega))]
          exact ih (y + 1) (some b, m + 1) h (by omega) hI2 ht
theorem t_war_l (d v : Nat) (hv : v < 21) : ∀ t x (z : Option Nat × Nat) (w : Value) (h : av_M), x + t = 10 → sh_j1 w → sh_eI (10 * x) z → sh_t2 (sh_wL z.1) h →
    ∃ h', av_xp (d + 20) 268 28 [.ref 44, .int (nI v), .int (nI z.2), .int (nI x), w] [] h = some (nI (sh_lp (sh_eF (sh_wQ v)) (10 * t) (10 * x) z).2, 0, h') ∧ sh_m h h' ∧ sh_t2 (sh_wL (sh_lp (sh_eF (sh_wQ v)) (10 * t) (10 * x) z).1) h' := by
  intro t
  induction t with
  | zero =>
    intro x z w h e hw hI ht
    have ex : x = 10 := by omega
    subst ex
    rw [mX7_wars_r44_28 _ _ _ _ _ _ hw, if_pos (show (9 : Int32) < nI 10 by decide)]
    exact ⟨h, rfl, sh_m_refl h, ht⟩
  | succ t ih =>
    intro x z w h e hw hI ht
    obtain ⟨h2, i2, e2, c2, t2⟩ := t_war_in d v x (by omega) hv 10 0 z h (by omega) hI ht
    have e2' : av_xp (d + 20) 268 37 [.ref 44, .int (nI v), .int (nI z.2), .int (nI x), .int 0] [] h = _ := e2
    rw [mX7_wars_r44_28 _ _ _ _ _ _ hw, if_neg (show ¬ (9 : Int32) < nI x from nI_nlt (b := x) (a := 9) (by omega) (by omega)), e2', eX7_wars_r44_37, if_pos (show (9 : Int32) < nI 10 by decide), nI_1]
    have sp : sh_lp (sh_eF (sh_wQ v)) (10 * (t + 1)) (10 * x) z = sh_lp (sh_eF (sh_wQ v)) (10 * t) (10 * (x + 1)) (sh_lp (sh_eF (sh_wQ v)) 10 (10 * x + 0) z) := by
      rw [show 10 * (t + 1) = 10 + 10 * t by omega, sh_lp_split, show 10 * (x + 1) = 10 * x + 10 by omega]
      rfl
    rw [sp]
    obtain ⟨h3, e3, c3, t3⟩ := ih (x + 1) _ (.int (nI 10)) h2 (by omega) (Or.inr ⟨_, rfl⟩) (by rw [show 10 * (x + 1) = 10 * x + 10 by omega]; exact i2) t2
    exact ⟨h3, e3, sh_m_tr c2 c3, t3⟩
theorem sh_wL_le (o : Option Nat) : (sh_wL o).length ≤ 7 := by
  cases o with
  | none => exact Nat.zero_le _
  | some b => exact (by decide : 2 ≤ 7)
theorem c_wars (p : Int32) : sh_P 98 268 [.int p] := sh_qF fun d N n m L r h F E hF => by
  have eM0 : ∀ h' : av_M, av_x (d + 100) 268 [.ref 44, .int p] h' = if sh_ir 0 20 p = true then av_xp (d + 99) 268 28 [.ref 44, .int p, .int 0, .int 0, .null] [] (av_u (av_u h' 44 0 0) 44 1 0) else some (-1, 0, av_u h' 44 0 0) := by
    intro h'
    rw [eX7_wars_r44_in, c_inI _ p 0 20 _ _ _ (by decide) (by decide)]
    simp only [Option.bind_some]
    cases sh_ir 0 20 p <;> rfl
  have eX0 : av_x (d + 100) 98 [.ref 0, .int p] h = if sh_ir 0 20 p = true then av_xp (d + 99) 98 23 [.ref 0, .int p, .int 0, .int 0, .null] [] (av_u h 3 1 0) else some (-1, 0, h) := by
    rw [eX6_wars_r0_in]
    by_cases g1 : p < 0
    · rw [if_pos g1, sh_ir_lt g1]; rfl
    · by_cases g2 : 20 < p
      · rw [if_neg g1, if_neg (by rw [Int32.not_le]; exact g2), sh_ir_gt g2]; rfl
      · rw [if_neg g1, if_pos (by rw [← Int32.not_lt]; exact g2), sh_ir_in g1 g2, c_clear]
        rfl
  cases hp : sh_ir 0 20 p
  · exact ⟨-1, none, fun _ q => (nomatch q), sh_QX_n (by rw [eX0, hp, if_neg (by decide)]), fun h' hc E' _ => sh_QM_n (v := 0) (by rw [eM0, hp, if_neg (by decide)])⟩
  · obtain ⟨v, _, hv, rfl⟩ := sh_ir_nat (lo := 0) (hi := 20) (by decide) (by decide) hp
    obtain ⟨O, hO⟩ : ∃ O, O = sh_lp (sh_eF (sh_wQ v)) (10 * 10) (10 * 0) (none, 0) := ⟨_, rfl⟩
    have hI : sh_eI (10 * 0) (none, 0) := ⟨⟨fun _ => rfl, fun _ => rfl⟩, Nat.le_refl _⟩
    refine ⟨nI O.2, some (sh_wL O.1), fun l q => by injection q with q; subst q; exact sh_wL_le _, ?_, ?_⟩
    · have K := f_war_l (d + 79) v 10 0 (none, 0) .null (av_u h 3 1 0) (by omega) (Or.inl rfl) hI (sh_t1_nil rfl)
      rw [← hO] at K
      obtain ⟨h2, e2, c2, t2⟩ := K
      refine ⟨h2, ?_, sh_c_tr (sh_c_u (by decide) (sh_c_refl h)) c2, t2⟩
      rw [eX0, hp, if_pos rfl]
      exact e2
    · intro h' hc E' hF'
      have K := t_war_l (d + 79) v (by omega) 10 0 (none, 0) .null (av_u (av_u h' 44 0 0) 44 1 0) (by omega) (Or.inl rfl) hI (sh_t2_nil rfl)
      rw [← hO] at K
      obtain ⟨h2, e2, c2, t2⟩ := K
      refine ⟨h2, ?_, sh_m_tr (sh_m_s (k := 1) (v := 0) (by decide) (sh_m_s (k := 0) (v := 0) (by decide) (sh_m_refl h'))) c2, t2⟩
      rw [eM0, hp, if_pos rfl]
      exact e2
