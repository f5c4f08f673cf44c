/-! PURE, 37: calls: ends -/
def sh_eC (n : Nat) (col : Nat → Int32) (c a : Int32) (k : Nat) : Bool := decide (sh_bc (nI k &&& sh_oc n col c) = a)
theorem c_mayBeEnds (d : Nat) (x : Int32) (h : av_M) : av_x (d + 1) 137 [.int x] h = some (sh_i (sh_ir 0 7 x), 0, h) := by
  rw [eX6_mayBeEnds_in]
  by_cases h1 : x < 0
  · rw [if_pos h1, sh_ir_lt h1]; rfl
  · rw [if_neg h1]
    by_cases h2 : 7 < x
    · rw [if_pos h2, sh_ir_gt h2]; rfl
    · rw [if_neg h2, sh_ir_in h1 h2]; rfl
theorem c_colAre (d n k : Nat) (a b c e : Int32) (h : av_M) (hn : n ≤ 7) (hm : h 5 6 = nI n) : av_x (d + 2) 138 [.ref 0, .int (nI k), .int a, .int b, .int c, .int e] h = some (sh_i (sh_eC n (h 6) 0 a k && sh_eC n (h 6) 1 b k && sh_eC n (h 6) 2 c k && sh_eC n (h 6) 3 e k), 0, h) := by
  rw [eX6_coloursAre_r0_in, c_ofColour5 _ n h _ hn hm]
  simp only [Option.bind_some, c_bc]
  unfold sh_eC
  by_cases q0 : sh_bc (nI k &&& sh_oc n (h 6) 0) = a
  · rw [if_pos q0, c_ofColour5 _ n h _ hn hm, decide_eq_true q0]
    simp only [Option.bind_some, c_bc]
    by_cases q1 : sh_bc (nI k &&& sh_oc n (h 6) 1) = b
    · rw [if_pos q1, c_ofColour5 _ n h _ hn hm, decide_eq_true q1]
      simp only [Option.bind_some, c_bc]
      by_cases q2 : sh_bc (nI k &&& sh_oc n (h 6) 2) = c
      · rw [if_pos q2, c_ofColour5 _ n h _ hn hm, decide_eq_true q2]
        simp only [Option.bind_some, c_bc]
        by_cases q3 : sh_bc (nI k &&& sh_oc n (h 6) 3) = e
        · rw [if_pos q3, decide_eq_true q3]; rfl
        · rw [if_neg q3, decide_eq_false q3]; rfl
      · rw [if_neg q2, decide_eq_false q2]; rfl
    · rw [if_neg q1, decide_eq_false q1]; rfl
  · rw [if_neg q0, decide_eq_false q0]; rfl
theorem t_ends_0 (d n k : Nat) (a b c e L m : Int32) (h : av_M) (z : Bool) (x : Value) (hx : sh_j1 x) (hn : n ≤ 7) (hm : h 44 3 = nI n) : av_xp (d + 20) 240 113 [.ref 44, .int a, .int b, .int c, .int e, .int L, .int m, .int (nI k), .int (sh_i z), .int 0, x] [] h = av_xp (d + 20) 240 113 [.ref 44, .int a, .int b, .int c, .int e, .int L, .int m, .int (nI k), .int (sh_i (z && sh_eC n (h 46) 0 a k)), .int 1, .int a] [] h := by
  rw [mX7_ends_r44_113 _ _ _ _ _ _ _ _ _ _ _ _ hx, if_neg (show ¬ (4 : Int32) ≤ 0 by decide), if_pos rfl]
  cases z
  · rw [if_pos (show sh_i false = 0 from rfl)]
    rfl
  · rw [if_neg (show ¬ sh_i true = 0 by decide), c_ofColourM _ n h _ hn hm]
    simp only [Option.bind_some, c_bc]
    unfold sh_eC
    by_cases q : sh_bc (nI k &&& sh_oc n (h 46) 0) = a
    · rw [if_pos q, decide_eq_true q]; rfl
    · rw [if_neg q, decide_eq_false q]; rfl
theorem t_ends_1 (d n k : Nat) (a b c e L m : Int32) (h : av_M) (z : Bool) (x : Value) (hx : sh_j1 x) (hn : n ≤ 7) (hm : h 44 3 = nI n) : av_xp (d + 20) 240 113 [.ref 44, .int a, .int b, .int c, .int e, .int L, .int m, .int (nI k), .int (sh_i z), .int 1, x] [] h = av_xp (d + 20) 240 113 [.ref 44, .int a, .int b, .int c, .int e, .int L, .int m, .int (nI k), .int (sh_i (z && sh_eC n (h 46) 1 b k)), .int 2, .int b] [] h := by
  rw [mX7_ends_r44_113 _ _ _ _ _ _ _ _ _ _ _ _ hx, if_neg (show ¬ (4 : Int32) ≤ 1 by decide), if_neg (show ¬ (1 : Int32) = 0 by decide), if_pos rfl]
  cases z
  · rw [if_pos (show sh_i false = 0 from rfl)]
    rfl
  · rw [if_neg (show ¬ sh_i true = 0 by decide), c_ofColourM _ n h _ hn hm]
    simp only [Option.bind_some, c_bc]
    unfold sh_eC
    by_cases q : sh_bc (nI k &&& sh_oc n (h 46) 1) = b
    · rw [if_pos q, decide_eq_true q]; rfl
    · rw [if_neg q, decide_eq_false q]; rfl
theorem t_ends_2 (d n k : Nat) (a b c e L m : Int32) (h : av_M) (z : Bool) (x : Value) (hx : sh_j1 x) (hn : n ≤ 7) (hm : h 44 3 = nI n) : av_xp (d + 20) 240 113 [.ref 44, .int a, .int b, .int c, .int e, .int L, .int m, .int (nI k), .int (sh_i z), .int 2, x] [] h = av_xp (d + 20) 240 113 [.ref 44, .int a, .int b, .int c, .int e, .int L, .int m, .int (nI k), .int (sh_i (z && sh_eC n (h 46) 2 c k)), .int 3, .int c] [] h := by
  rw [mX7_ends_r44_113 _ _ _ _ _ _ _ _ _ _ _ _ hx, if_neg (show ¬ (4 : Int32) ≤ 2 by decide), if_neg (show ¬ (2 : Int32) = 0 by decide), if_neg (show ¬ (2 : Int32) = 1 by decide), if_pos rfl]
  cases z
  · rw [if_pos (show sh_i false = 0 from rfl)]
    rfl
  · rw [if_neg (show ¬ sh_i true = 0 by decide), c_ofColourM _ n h _ hn hm]
    simp only [Option.bind_some, c_bc]
    unfold sh_eC
    by_cases q : sh_bc (nI k &&& sh_oc n (h 46) 2) = c
    · rw [if_pos q, decide_eq_true q]; rfl
    · rw [if_neg q, decide_eq_false q]; rfl
theorem t_ends_3 (d n k : Nat) (a b c e L m : Int32) (h : av_M) (z : Bool) (x : Value) (hx : sh_j1 x) (hn : n ≤ 7) (hm : h 44 3 = nI n) : av_xp (d + 20) 240 113 [.ref 44, .int a, .int b, .int c, .int e, .int L, .int m, .int (nI k), .int (sh_i z), .int 3, x] [] h = av_xp (d + 20) 240 113 [.ref 44, .int a, .int b, .int c, .int e, .int L, .int m, .int (nI k), .int (sh_i (z && sh_eC n (h 46) 3 e k)), .int 4, .int e] [] h := by
  rw [mX7_ends_r44_113 _ _ _ _ _ _ _ _ _ _ _ _ hx, if_neg (show ¬ (4 : Int32) ≤ 3 by decide), if_neg (show ¬ (3 : Int32) = 0 by decide), if_neg (show ¬ (3 : Int32) = 1 by decide), if_neg (show ¬ (3 : Int32) = 2 by decide)]
  cases z
  · rw [if_pos (show sh_i false = 0 from rfl)]
    rfl
  · rw [if_neg (show ¬ sh_i true = 0 by decide), c_ofColourM _ n h _ hn hm]
    simp only [Option.bind_some, c_bc]
    unfold sh_eC
    by_cases q : sh_bc (nI k &&& sh_oc n (h 46) 3) = e
    · rw [if_pos q, decide_eq_true q]; rfl
    · rw [if_neg q, decide_eq_false q]; rfl
def sh_eQ (n : Nat) (col : Nat → Int32) (L a b c e : Int32) (k : Nat) : Bool := sh_wi L k && (sh_eC n col 0 a k && sh_eC n col 1 b k && sh_eC n col 2 c k && sh_eC n col 3 e k)
theorem t_ends_4 (d n k : Nat) (a b c e L m : Int32) (h : av_M) (x : Value) (hx : sh_j1 x) (hn : n ≤ 7) (hm : h 44 3 = nI n) : av_xp (d + 20) 240 113 [.ref 44, .int a, .int b, .int c, .int e, .int L, .int m, .int (nI k), .int (sh_i (sh_wi L k)), .int 0, x] [] h = av_xp (d + 20) 240 113 [.ref 44, .int a, .int b, .int c, .int e, .int L, .int m, .int (nI k), .int (sh_i (sh_eQ n (h 46) L a b c e k)), .int 4, .int e] [] h := by
  rw [t_ends_0 d n k a b c e L m h _ x hx hn hm, t_ends_1 d n k a b c e L m h _ _ (Or.inr ⟨_, rfl⟩) hn hm, t_ends_2 d n k a b c e L m h _ _ (Or.inr ⟨_, rfl⟩) hn hm, t_ends_3 d n k a b c e L m h _ _ (Or.inr ⟨_, rfl⟩) hn hm]
  unfold sh_eQ
  simp only [Bool.and_assoc]
def sh_eF (Q : Nat → Bool) (k : Nat) (z : Option Nat × Nat) : Option Nat × Nat := match Q k with
  | true => (match z.1 with
    | none => some k
    | some b => some b, z.2 + 1)
  | false => z
def sh_el (o : Option Nat) : List Int64 := match o with
  | none => []
  | some b => [Int32.toInt64 (nI b)]
def sh_eI (k : Nat) (z : Option Nat × Nat) : Prop := (z.1 = none ↔ z.2 = 0) ∧ z.2 ≤ k
theorem sh_eI_s {Q : Nat → Bool} {k : Nat} {z : Option Nat × Nat} (h : sh_eI k z) : sh_eI (k + 1) (sh_eF Q k z) := by
  obtain ⟨h2, h3⟩ := h
  unfold sh_eF
  cases Q k
  · exact ⟨h2, by dsimp only; omega⟩
  · refine ⟨?_, by dsimp only; omega⟩
    dsimp only
    cases z.1 with
    | none => exact ⟨fun q => (nomatch q), fun q => absurd q (by omega)⟩
    | some b => exact ⟨fun q => (nomatch q), fun q => absurd q (by omega)⟩
theorem f_ends_l (d n : Nat) (r col : Nat → Int32) (L a b c e : Int32) (hn : n ≤ 7) : ∀ t k (z : Option Nat × Nat) (h : av_M), k + t = 128 → sh_eI k z → h 5 6 = nI n → h 6 = col → sh_t1 (sh_el z.1) h →
    ∃ h', av_xp (d + 20) 81 63 [.ref 0, .int a, .int b, .int c, .int e, .int L, .int (nI z.2), .int (nI k)] [] h = some (nI (sh_lp (sh_eF (sh_eQ n col L a b c e)) t k z).2, 0, h') ∧ sh_c h h' ∧ sh_t1 (sh_el (sh_lp (sh_eF (sh_eQ n col L a b c e)) t k z).1) h' := by
  intro t
  induction t with
  | zero =>
    intro k z h q hI hm hc ht
    have ek : k = 128 := by omega
    subst ek
    rw [eX6_ends_r0_63, if_pos (show (128 : Int32) ≤ nI 128 by decide)]
    exact ⟨h, rfl, sh_c_refl h, ht⟩
  | succ t ih =>
    intro k z h q hI hm hc ht
    have hI2 := sh_eI_s (Q := sh_eQ n col L a b c e) hI
    rw [eX6_ends_r0_63, if_neg (show ¬ (128 : Int32) ≤ nI k from sh_lt (n := 128) (by omega) (by decide)), c_isWithin]
    simp only [Option.bind_some]
    have step : sh_lp (sh_eF (sh_eQ n col L a b c e)) (t + 1) k z = sh_lp (sh_eF (sh_eQ n col L a b c e)) t (k + 1) (sh_eF (sh_eQ n col L a b c e) k z) := rfl
    rw [step]
    obtain ⟨o, m⟩ := z
    cases hw : decide (nI k &&& (L ^^^ (-1)) = 0)
    · have hq : sh_eQ n col L a b c e k = false := by unfold sh_eQ sh_wi; rw [hw]; rfl
      have es : sh_eF (sh_eQ n col L a b c e) k (o, m) = (o, m) := by unfold sh_eF; rw [hq]
      rw [es] at hI2 ⊢
      rw [if_pos (show sh_i false = 0 from rfl), nI_1]
      exact ih (k + 1) (o, m) h (by omega) hI2 hm hc ht
    · rw [if_neg (show ¬ sh_i true = 0 by decide), c_colAre _ n k a b c e h hn hm, hc]
      simp only [Option.bind_some]
      cases hs : (sh_eC n col 0 a k && sh_eC n col 1 b k && sh_eC n col 2 c k && sh_eC n col 3 e k)
      · have hq : sh_eQ n col L a b c e k = false := by unfold sh_eQ; rw [hs, Bool.and_false]
        have es : sh_eF (sh_eQ n col L a b c e) k (o, m) = (o, m) := by unfold sh_eF; rw [hq]
        rw [es] at hI2 ⊢
        rw [if_pos (show sh_i false = 0 from rfl), nI_1]
        exact ih (k + 1) (o, m) h (by omega) hI2 hm hc ht
      · have hq : sh_eQ n col L a b c e k = true := by unfold sh_eQ sh_wi; rw [hs, hw]; rfl
        rw [if_neg (show ¬ sh_i true = 0 by decide)]
        cases o with
        | none =>
          have em : m = 0 := hI.1.mp rfl
          subst em
          have es : sh_eF (sh_eQ n col L a b c e) k (none, 0) = (some k, 1) := by unfold sh_eF; rw [hq]
          rw [es] at hI2 ⊢
          rw [if_pos (show nI 0 = 0 from rfl)]
          obtain ⟨h2, e2, f2, t2⟩ := c_add (d + 19) h [] (Int32.toInt64 (nI k)) (by decide) ht
          rw [e2]
          simp only [Option.bind_some, nI_1]
          obtain ⟨h3, e3, c3, t3⟩ := ih (k + 1) (some k, 1) h2 (by omega) hI2 (by rw [f2 5 (by decide)]; exact hm) (by rw [f2 6 (by decide)]; exact hc) t2
          exact ⟨h3, e3, sh_c_tr (sh_c_of f2 (by decide)) c3, t3⟩
        | some b' =>
          have hm0 : m ≠ 0 := fun q => by have := hI.1.mpr q; cases this
          have hm1 := hI.2
          dsimp only at hm1
          have es : sh_eF (sh_eQ n col L a b c e) k (some b', m) = (some b', m + 1) := by unfold sh_eF; rw [hq]
          rw [es] at hI2 ⊢
          rw [if_neg (show ¬ nI m = 0 from nI_ne0 (by omega) (by omega)), nI_1, nI_1]
          exact ih (k + 1) (some b', m + 1) h (by omega) hI2 hm hc ht
theorem t_ends_l (d n B : Nat) (r col : Nat → Int32) (L a b c e : Int32) (hn : n ≤ 7) (hB : B < 128) (he : sh_e n = nI B) : ∀ t k (z : Option Nat × Nat) (x1 x2 x3 : Value) (h : av_M), k + t = B + 1 → ((x1 = .null ∧ x2 = .null ∧ x3 = .null) ∨ (∃ (y1 : Int32) (y2 : Int32), x1 = .int y1 ∧ x2 = .int y2 ∧ x3 = .null) ∨ (∃ (y1 : Int32) (y2 : Int32) (y3 : Int32), x1 = .int y1 ∧ x2 = .int y2 ∧ x3 = .int y3)) → sh_eI k z → h 44 3 = nI n → h 46 = col → sh_t2 (sh_el z.1) h →
    ∃ h', av_xp (d + 20) 240 84 [.ref 44, .int a, .int b, .int c, .int e, .int L, .int (nI z.2), .int (nI k), x1, x2, x3] [] h = some (nI (sh_lp (sh_eF (sh_eQ n col L a b c e)) t k z).2, 0, h') ∧ sh_m h h' ∧ sh_t2 (sh_el (sh_lp (sh_eF (sh_eQ n col L a b c e)) t k z).1) h' := by
  intro t
  induction t with
  | zero =>
    intro k z x1 x2 x3 h q hx hI hm hc ht
    rw [mX7_ends_r44_84 _ _ _ _ _ _ _ _ _ _ _ _ hx, c_all _ n h hm, he]
    simp only [Option.bind_some]
    rw [if_pos (show nI B < nI k from nI_lt (by omega) (by omega))]
    exact ⟨h, rfl, sh_m_refl h, ht⟩
  | succ t ih =>
    intro k z x1 x2 x3 h q hx hI hm hc ht
    have hI2 := sh_eI_s (Q := sh_eQ n col L a b c e) hI
    have hx3 : sh_j1 x3 := by
      rcases hx with ⟨_, _, rfl⟩ | ⟨_, _, _, _, rfl⟩ | ⟨_, _, y, _, _, rfl⟩
      · exact Or.inl rfl
      · exact Or.inl rfl
      · exact Or.inr ⟨_, rfl⟩
    rw [mX7_ends_r44_84 _ _ _ _ _ _ _ _ _ _ _ _ hx, c_all _ n h hm, he]
    simp only [Option.bind_some]
    rw [if_neg (show ¬ nI B < nI k from nI_nlt (by omega) (by omega))]
    have e1 : (if nI k &&& (L ^^^ (-1)) = 0 then av_xp (d + 20) 240 113 [.ref 44, .int a, .int b, .int c, .int e, .int L, .int (nI z.2), .int (nI k), .int 1, .int 0, x3] [] h else av_xp (d + 20) 240 113 [.ref 44, .int a, .int b, .int c, .int e, .int L, .int (nI z.2), .int (nI k), .int 0, .int 0, x3] [] h) = av_xp (d + 20) 240 113 [.ref 44, .int a, .int b, .int c, .int e, .int L, .int (nI z.2), .int (nI k), .int (sh_i (sh_wi L k)), .int 0, x3] [] h := by
      unfold sh_wi
      by_cases hw : nI k &&& (L ^^^ (-1)) = 0
      · rw [if_pos hw, decide_eq_true hw]; rfl
      · rw [if_neg hw, decide_eq_false hw]; rfl
    rw [e1, t_ends_4 d n k a b c e L (nI z.2) h x3 hx3 hn hm, hc, mX7_ends_r44_113 _ _ _ _ _ _ _ _ _ _ _ _ (Or.inr ⟨_, rfl⟩), if_pos (show (4 : Int32) ≤ 4 by decide)]
    have step : sh_lp (sh_eF (sh_eQ n col L a b c e)) (t + 1) k z = sh_lp (sh_eF (sh_eQ n col L a b c e)) t (k + 1) (sh_eF (sh_eQ n col L a b c e) k z) := rfl
    rw [step]
    obtain ⟨o, m⟩ := z
    cases hq : sh_eQ n col L a b c e k
    · have es : sh_eF (sh_eQ n col L a b c e) k (o, m) = (o, m) := by unfold sh_eF; rw [hq]
      rw [es] at hI2 ⊢
      rw [if_pos (show sh_i false = 0 from rfl), c_flag]
      simp only [Option.bind_some, nI_1]
      rw [show sh_i false = 0 from rfl, Int32.add_zero]
      exact ih (k + 1) (o, m) _ _ _ h (by omega) (Or.inr (Or.inr ⟨_, _, _, rfl, rfl, rfl⟩)) hI2 hm hc ht
    · rw [if_neg (show ¬ sh_i true = 0 by decide)]
      cases o with
      | none =>
        have em : m = 0 := hI.1.mp rfl
        subst em
        have es : sh_eF (sh_eQ n col L a b c e) k (none, 0) = (some k, 1) := by unfold sh_eF; rw [hq]
        rw [es] at hI2 ⊢
        rw [if_pos (show nI 0 = 0 from rfl)]
        obtain ⟨h2, e2, m2, f2, t2⟩ := c_enters (d + 19) h [] (Int32.toInt64 (nI k)) (by decide) ht
        rw [e2]
        simp only [Option.bind_some, nI_1, c_flag]
        obtain ⟨h3, e3, c3, t3⟩ := ih (k + 1) (some k, 1) (.int (sh_i true)) (.int 4) (.int e) h2 (by omega) (Or.inr (Or.inr ⟨_, _, _, rfl, rfl, rfl⟩)) hI2 (by rw [m2.2 3 (by decide) (by decide)]; exact hm) (by rw [f2 46 (by decide)]; exact hc) t2
        exact ⟨h3, e3, sh_m_tr m2 c3, t3⟩
      | some b' =>
        have hm0 : m ≠ 0 := fun q => by have := hI.1.mpr q; cases this
        have hm1 := hI.2
        dsimp only at hm1
        have es : sh_eF (sh_eQ n col L a b c e) k (some b', m) = (some b', m + 1) := by unfold sh_eF; rw [hq]
        rw [es] at hI2 ⊢
        rw [if_neg (show ¬ nI m = 0 from nI_ne0 (by omega) (by omega)), c_flag]
        simp only [Option.bind_some, nI_1]
        rw [show nI m + sh_i true = nI (m + 1) from nI_1 m]
        exact ih (k + 1) (some b', m + 1) _ _ _ h (by omega) (Or.inr (Or.inr ⟨_, _, _, rfl, rfl, rfl⟩)) hI2 hm hc ht
theorem sh_el_le (o : Option Nat) : (sh_el o).length ≤ 7 := by
  cases o with
  | none => exact Nat.zero_le _
  | some b => show 1 ≤ 7; omega
theorem sh_eC_cong {n : Nat} {col col' : Nat → Int32} (hc : ∀ j, j < n → col j = col' j) (c a : Int32) (k : Nat) : sh_eC n col c a k = sh_eC n col' c a k := by
  unfold sh_eC
  rw [sh_oc_cong hc]
theorem sh_eQ_cong {n : Nat} {col col' : Nat → Int32} (hc : ∀ j, j < n → col j = col' j) (L a b c e : Int32) : sh_eQ n col L a b c e = sh_eQ n col' L a b c e := by
  funext k
  unfold sh_eQ
  rw [sh_eC_cong hc, sh_eC_cong hc, sh_eC_cong hc, sh_eC_cong hc]
theorem c_ends (a b c e : Int32) : sh_P 81 240 [.int a, .int b, .int c, .int e] := sh_qF fun d N n m L r h F E hF => by
  obtain ⟨a1, a2, a3, a4, a5, a6, a7, a8⟩ := id E.1.1
  have eX0 : av_x (d + 100) 81 [.ref 0, .int a, .int b, .int c, .int e] h = if (sh_ir 0 7 a && sh_ir 0 7 b && sh_ir 0 7 c && sh_ir 0 7 e) = true then av_xp (d + 99) 81 63 [.ref 0, .int a, .int b, .int c, .int e, .int (sh_e n &&& (sh_hd n r ^^^ (-1))), .int 0, .int 0] [] (av_u h 3 1 0) else some (-1, 0, h) := by
    rw [eX6_ends_r0_in, c_mayBeEnds]
    simp only [Option.bind_some]
    cases sh_ir 0 7 a
    · rfl
    · rw [if_neg (show ¬ sh_i true = 0 by decide), c_mayBeEnds]
      simp only [Option.bind_some]
      cases sh_ir 0 7 b
      · rfl
      · rw [if_neg (show ¬ sh_i true = 0 by decide), c_mayBeEnds]
        simp only [Option.bind_some]
        cases sh_ir 0 7 c
        · rfl
        · rw [if_neg (show ¬ sh_i true = 0 by decide), c_mayBeEnds]
          simp only [Option.bind_some]
          cases sh_ir 0 7 e
          · rfl
          · rw [if_neg (show ¬ sh_i true = 0 by decide), c_holding5 _ n h r a3 a4, a3]
            simp only [Option.bind_some]
            rw [c_clear]
            rfl
  have eM0 : ∀ h' : av_M, h' 44 3 = nI n → sh_MV 48 h' r → av_x (d + 100) 240 [.ref 44, .int a, .int b, .int c, .int e] h' = if (sh_ir 0 7 a && sh_ir 0 7 b && sh_ir 0 7 c && sh_ir 0 7 e) = true then av_xp (d + 99) 240 84 [.ref 44, .int a, .int b, .int c, .int e, .int (sh_e n &&& (sh_hd n r ^^^ (-1))), .int 0, .int 0, .null, .null, .null] [] (av_u (av_u h' 44 0 0) 44 1 0) else some (-1, 0, av_u h' 44 0 0) := by
    intro h' hm hv
    rw [eX7_ends_r44_in, c_inI _ a 0 7 _ _ _ (by decide) (by decide)]
    simp only [Option.bind_some]
    cases sh_ir 0 7 a
    · rfl
    · rw [if_neg (show ¬ sh_i true = 0 by decide), c_inI _ b 0 7 _ _ _ (by decide) (by decide)]
      simp only [Option.bind_some]
      cases sh_ir 0 7 b
      · rfl
      · rw [if_neg (show ¬ sh_i true = 0 by decide), c_inI _ c 0 7 _ _ _ (by decide) (by decide)]
        simp only [Option.bind_some]
        cases sh_ir 0 7 c
        · rfl
        · rw [if_neg (show ¬ sh_i true = 0 by decide), c_inI _ e 0 7 _ _ _ (by decide) (by decide)]
          simp only [Option.bind_some]
          cases sh_ir 0 7 e
          · rfl
          · rw [if_neg (show ¬ sh_i true = 0 by decide), c_all _ n _ (show (av_u h' 44 0 0) 44 3 = nI n from hm)]
            simp only [Option.bind_some]
            rw [c_holdingM48 _ n _ r (show (av_u h' 44 0 0) 44 3 = nI n from hm) (show sh_MV 48 (av_u h' 44 0 0) r from hv)]
            rfl
  cases hT : (sh_ir 0 7 a && sh_ir 0 7 b && sh_ir 0 7 c && sh_ir 0 7 e)
  · exact ⟨-1, none, fun _ q => (nomatch q), sh_QX_n (by rw [eX0, hT, if_neg (by decide)]), fun h' hc E' _ => sh_QM_n (v := 0) (by rw [eM0 h' E'.1.1.2.2.2.2.1 E'.1.1.2.2.2.2.2.1, hT, if_neg (by decide)])⟩
  · obtain ⟨B, hB, eB⟩ := sh_e_nI n a1
    obtain ⟨w, hw, ew⟩ := sh_sm_nI (sh_sm_and (sh_hd n r ^^^ (-1)) (sh_sm_e a1))
    have hwB : w ≤ B := by
      apply sh_wi_le B hB w hw
      unfold sh_wi
      apply decide_eq_true
      rw [← eB, ← ew]
      apply b_ext
      intro i hi
      simp only [b_and, b_xor, b_m1 i hi, b_0]
      cases bt (sh_e n) i <;> cases bt (sh_hd n r) i <;> rfl
    obtain ⟨Q, hQ⟩ : ∃ Q, Q = sh_eQ n (h 46) (nI w) a b c e := ⟨_, rfl⟩
    have eQ : sh_eQ n (h 6) (nI w) a b c e = Q := by rw [hQ]; exact sh_eQ_cong (fun j hj => (a7 j hj).1) _ _ _ _ _
    have cut : sh_lp (sh_eF Q) 128 0 (none, 0) = sh_lp (sh_eF Q) (B + 1) 0 (none, 0) := by
      rw [show 128 = (B + 1) + (127 - B) by omega, sh_lp_split]
      refine sh_lp_id _ _ _ (fun j h1 h2 z => ?_)
      have hq : Q j = false := by
        rw [hQ]
        unfold sh_eQ
        cases hq : sh_wi (nI w) j
        · rfl
        · have := sh_wi_le w hw j (by omega) hq
          omega
      unfold sh_eF
      rw [hq]
    obtain ⟨O, hO⟩ : ∃ O, O = sh_lp (sh_eF Q) 128 0 (none, 0) := ⟨_, rfl⟩
    have hI : sh_eI 0 (none, 0) := ⟨⟨fun _ => rfl, fun _ => rfl⟩, Nat.le_refl _⟩
    refine ⟨nI O.2, some (sh_el O.1), fun l q => by injection q with q; subst q; exact sh_el_le _, ?_, ?_⟩
    · have K := f_ends_l (d + 79) n r (h 6) (nI w) a b c e a1 128 0 (none, 0) (av_u h 3 1 0) (by omega) hI a2 rfl (sh_t1_nil rfl)
      rw [eQ, ← hO] at K
      obtain ⟨h2, e2, c2, t2⟩ := K
      refine ⟨h2, ?_, sh_c_tr (sh_c_u (by decide) (sh_c_refl h)) c2, t2⟩
      rw [eX0, hT, if_pos rfl, ew]
      exact e2
    · intro h' hc E' hF'
      obtain ⟨b1, b2, b3, b4, b5, b6, b7, b8⟩ := id E'.1.1
      have K := t_ends_l (d + 79) n B r (h 46) (nI w) a b c e a1 hB eB (B + 1) 0 (none, 0) .null .null .null (av_u (av_u h' 44 0 0) 44 1 0) (by omega) (Or.inl ⟨rfl, rfl, rfl⟩) hI b5 (hc 46 (by decide)) (sh_t2_nil rfl)
      rw [← hQ, ← cut, ← hO] at K
      obtain ⟨h2, e2, c2, t2⟩ := K
      refine ⟨h2, ?_, sh_m_tr (sh_m_s (k := 1) (v := 0) (by decide) (sh_m_s (k := 0) (v := 0) (by decide) (sh_m_refl h'))) c2, t2⟩
      rw [eM0 h' b5 b6, hT, if_pos rfl, ew]
      exact e2
