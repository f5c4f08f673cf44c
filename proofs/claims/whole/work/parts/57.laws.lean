/-! PURE, 47: laws of parting; laws -/
def sh_br (l : Nat) (k s : Int32) : Bool := !decide ((1 + nI l / 10) * k ≤ s + (nI l - nI l / 10 * 10))
theorem c_breaks (d l : Nat) (k s : Int32) (h : av_M) : av_x (d + 2) 146 [.int (nI l), .int k, .int s] h = some (sh_i (sh_br l k s), 0, h) := by
  rw [eX6_breaks_in, eX6_factorOf_in]
  simp only [Option.bind_some]
  rw [eX6_slackOf_in]
  simp only [Option.bind_some]
  unfold sh_br
  by_cases c : (1 + nI l / 10) * k ≤ s + (nI l - nI l / 10 * 10)
  · rw [if_pos c, decide_eq_true c]; rfl
  · rw [if_neg c, decide_eq_false c]; rfl
theorem c_breaksBy (d l : Nat) (k s : Int32) (h : av_M) : av_x (d + 2) 259 [.int (nI l), .int k, .int s] h = some (sh_i (sh_br l k s), 0, h) := by
  rw [eX7_breaksBy_in, c_flag0, c_flag1]
  unfold sh_br
  by_cases c : (1 + nI l / 10) * k ≤ s + (nI l - nI l / 10 * 10)
  · rw [if_pos c, decide_eq_true c]; rfl
  · rw [if_neg c, decide_eq_false c]; rfl
def sh_lo3 (g0 g1 g2 : Nat → Int32) (l i : Nat) : Bool := match sh_br l (g0 i) (g1 i) with
  | true => decide (g2 i = 1)
  | false => !decide (g2 i = 1)
def sh_SL (s : Nat) (g0 g1 g2 : Nat → Int32) : Prop := s ≤ 10 ∧ ∀ i, i < s → sh_ir 0 20 (g0 i) = true ∧ sh_ir 1 9 (g1 i) = true ∧ sh_ir 0 1 (g2 i) = true
theorem c_fitsP_l (d s l : Nat) (g0 g1 g2 : Nat → Int32) (h : av_M) (hs : h 38 4 = nI s) (hS : sh_SL s g0 g1 g2) (hg : ∀ i, i < s → h 39 i = g0 i ∧ h 40 i = g1 i ∧ h 41 i = g2 i) : ∀ t k (x : Value), k + t = s → sh_j1 x → av_xp (d + 20) 147 2 [.ref 0, .int (nI l), .int (nI k), x] [] h = some (sh_i (sh_ev (sh_lo3 g0 g1 g2 l) t k), 0, h) := by
  have hs10 := hS.1
  intro t
  induction t with
  | zero =>
    intro k x e hx
    rw [mX6_fitsPartings_r0_2 _ _ _ _ _ hx, hs, if_pos (sh_ge (by omega) (by omega))]
    rfl
  | succ t ih =>
    intro k x e hx
    obtain ⟨q0, q1, q2⟩ := hg k (by omega)
    rw [mX6_fitsPartings_r0_2 _ _ _ _ _ hx, hs, if_neg (sh_lt (by omega) (by omega)), sh_inb (show k < 12 by omega) (by decide), nI_clamp (by omega), q0, q1]
    simp only [cond_true]
    rw [c_breaks]
    simp only [Option.bind_some, nI_1]
    rw [q2]
    show _ = some (sh_i (sh_lo3 g0 g1 g2 l k && sh_ev (sh_lo3 g0 g1 g2 l) t (k + 1)), 0, h)
    have es : sh_lo3 g0 g1 g2 l k = (match sh_br l (g0 k) (g1 k) with
      | true => decide (g2 k = 1)
      | false => !decide (g2 k = 1)) := rfl
    rw [es]
    cases sh_br l (g0 k) (g1 k)
    · rw [if_pos (show sh_i false = 0 from rfl)]
      by_cases z : g2 k = 1
      · rw [if_pos z, decide_eq_true z]; rfl
      · rw [if_neg z, decide_eq_false z]
        exact ih (k + 1) _ (by omega) (Or.inr ⟨_, rfl⟩)
    · rw [if_neg (show ¬ sh_i true = 0 by decide)]
      by_cases z : g2 k = 1
      · rw [if_pos z, decide_eq_true z]
        exact ih (k + 1) _ (by omega) (Or.inr ⟨_, rfl⟩)
      · rw [if_neg z, decide_eq_false z]; rfl
theorem c_fitsP (d s l : Nat) (g0 g1 g2 : Nat → Int32) (h : av_M) (hs : h 38 4 = nI s) (hS : sh_SL s g0 g1 g2) (hg : ∀ i, i < s → h 39 i = g0 i ∧ h 40 i = g1 i ∧ h 41 i = g2 i) : av_x (d + 21) 147 [.ref 0, .int (nI l)] h = some (sh_i (sh_ev (sh_lo3 g0 g1 g2 l) s 0), 0, h) := by
  rw [eX6_fitsPartings_r0_in]
  exact c_fitsP_l d s l g0 g1 g2 h hs hS hg s 0 .null (by omega) (Or.inl rfl)
theorem c_isLaw_l (d s l : Nat) (h : av_M) (hs : h 44 36 = nI s) (hS : sh_SL s (h 66) (h 67) (h 68)) : ∀ t k (b : Bool), k + t = s → av_xp (d + 20) 260 4 [.ref 44, .int (nI l), .int (sh_i b), .int (nI k)] [] h = some (sh_i (b && sh_ev (sh_lo3 (h 66) (h 67) (h 68) l) t k), 0, h) := by
  have hs10 := hS.1
  intro t
  induction t with
  | zero =>
    intro k b e
    rw [eX7_isLaw_r44_4, hs, if_pos (sh_ge (by omega) (by omega)), sh_ia]
    unfold sh_ev
    rw [Bool.and_true]
  | succ t ih =>
    intro k b e
    rw [eX7_isLaw_r44_4, hs, if_neg (sh_lt (by omega) (by omega))]
    cases b
    · rw [if_pos (show sh_i false = 0 from rfl), nI_1]
      exact (ih (k + 1) false (by omega)).trans (by simp only [Bool.false_and])
    · obtain ⟨p0, p1, p2⟩ := hS.2 k (by omega)
      rw [if_neg (show ¬ sh_i true = 0 by decide), sh_inb (show k < 10 by omega) (by decide), nI_clamp (by omega)]
      simp only [cond_true]
      rw [c_breaksBy]
      simp only [Option.bind_some, nI_1]
      show _ = some (sh_i (true && (sh_lo3 (h 66) (h 67) (h 68) l k && sh_ev (sh_lo3 (h 66) (h 67) (h 68) l) t (k + 1))), 0, h)
      have es : sh_lo3 (h 66) (h 67) (h 68) l k = (match sh_br l (h 66 k) (h 67 k) with
        | true => decide (h 68 k = 1)
        | false => !decide (h 68 k = 1)) := rfl
      rw [es, Bool.true_and]
      have R1 := ih (k + 1) true (by omega)
      have R0 := ih (k + 1) false (by omega)
      rw [Bool.true_and] at R1
      rw [Bool.false_and] at R0
      rcases sh_01 p2 with z | z
      · rw [z]
        cases sh_br l (h 66 k) (h 67 k)
        · rw [if_pos (show sh_i false = 0 by decide), decide_eq_false (show ¬ (0 : Int32) = 1 by decide)]
          exact R1
        · rw [if_neg (show ¬ sh_i true = 0 by decide), decide_eq_false (show ¬ (0 : Int32) = 1 by decide)]
          exact R0
      · rw [z]
        cases sh_br l (h 66 k) (h 67 k)
        · rw [if_neg (show ¬ sh_i false = 1 by decide), decide_eq_true (show (1 : Int32) = 1 by decide)]
          exact R0
        · rw [if_pos (show sh_i true = 1 by decide), decide_eq_true (show (1 : Int32) = 1 by decide)]
          exact R1
theorem c_isLaw (d s l : Nat) (h : av_M) (hs : h 44 36 = nI s) (hS : sh_SL s (h 66) (h 67) (h 68)) : av_x (d + 21) 260 [.ref 44, .int (nI l)] h = some (sh_i (sh_ev (sh_lo3 (h 66) (h 67) (h 68) l) s 0), 0, h) := by
  rw [eX7_isLaw_r44_in]
  have := c_isLaw_l d s l h hs hS s 0 true (by omega)
  rw [Bool.true_and] at this
  exact this
/-! laws: so many, the first -/
def sh_ll (o : Option Nat) : List Int64 := match o with
  | none => []
  | some l => [Int32.toInt64 (1 + nI l / 10), Int32.toInt64 (nI l - nI l / 10 * 10)]
theorem f_laws_l (d s : Nat) (g0 g1 g2 : Nat → Int32) (fit : Nat → Bool) (hfit : fit = fun l => sh_ev (sh_lo3 g0 g1 g2 l) s 0) (hS : sh_SL s g0 g1 g2) : ∀ t k (z : Option Nat × Nat) (h : av_M), k + t = 40 → sh_eI k z → h 38 4 = nI s → (∀ i, i < s → h 39 i = g0 i ∧ h 40 i = g1 i ∧ h 41 i = g2 i) → sh_t1 (sh_ll z.1) h →
    ∃ h', av_xp (d + 22) 94 11 [.ref 0, .int (nI z.2), .int (nI k)] [] h = some (nI (sh_lp (sh_eF fit) t k z).2, 0, h') ∧ sh_c h h' ∧ sh_t1 (sh_ll (sh_lp (sh_eF fit) t k z).1) h' := by
  intro t
  induction t with
  | zero =>
    intro k z h e hI _ _ ht
    have ek : k = 40 := by omega
    subst ek
    rw [eX6_laws_r0_11, if_pos (show (40 : Int32) ≤ nI 40 by decide)]
    exact ⟨h, rfl, sh_c_refl h, ht⟩
  | succ t ih =>
    intro k z h e hI hs hg ht
    have hI2 := sh_eI_s (Q := fit) hI
    rw [eX6_laws_r0_11, if_neg (show ¬ (40 : Int32) ≤ nI k from sh_lt (n := 40) (by omega) (by decide)), c_fitsP _ s k g0 g1 g2 h hs hS hg, show sh_ev (sh_lo3 g0 g1 g2 k) s 0 = fit k by rw [hfit]]
    simp only [Option.bind_some]
    rw [show sh_lp (sh_eF fit) (t + 1) k z = sh_lp (sh_eF fit) t (k + 1) (sh_eF fit k z) from rfl]
    obtain ⟨o, m⟩ := z
    cases hq : fit k
    · have es : sh_eF fit k (o, m) = (o, m) := by unfold sh_eF; rw [hq]
      rw [es] at hI2 ⊢
      rw [if_pos (show sh_i false = 0 from rfl), nI_1]
      exact ih (k + 1) (o, m) h (by omega) hI2 hs hg ht
    · rw [if_neg (show ¬ sh_i true = 0 by decide)]
      cases o with
      | none =>
        have em : m = 0 := hI.1.mp rfl
        subst em
        have es : sh_eF fit k (none, 0) = (some k, 1) := by unfold sh_eF; rw [hq]
        rw [es] at hI2 ⊢
        rw [if_pos (show nI 0 = 0 from rfl), eX6_factorOf_in]
        simp only [Option.bind_some]
        obtain ⟨h2, e2, f2, t2⟩ := c_add (d + 21) h [] (Int32.toInt64 (1 + nI k / 10)) (by decide) ht
        rw [e2]
        simp only [Option.bind_some]
        rw [eX6_slackOf_in]
        simp only [Option.bind_some]
        obtain ⟨h3, e3, f3, t3⟩ := c_add (d + 21) h2 _ (Int32.toInt64 (nI k - nI k / 10 * 10)) (by simp) t2
        rw [e3]
        simp only [Option.bind_some, nI_1]
        have f23 : sh_fr [3, 4] h h3 := sh_fr_tr f2 f3 (fun _ q => q)
        obtain ⟨h4, e4, c4, t4⟩ := ih (k + 1) (some k, 1) h3 (by omega) hI2 (by rw [f23 38 (by decide)]; exact hs) (fun i hi => by rw [f23 39 (by decide), f23 40 (by decide), f23 41 (by decide)]; exact hg i hi) t3
        exact ⟨h4, e4, sh_c_tr (sh_c_of f23 (by decide)) c4, t4⟩
      | some b' =>
        have hm0 : m ≠ 0 := fun q => by have := hI.1.mpr q; cases this
        have hm1 := hI.2
        dsimp only at hm1
        have es : sh_eF fit k (some b', m) = (some b', m + 1) := by unfold sh_eF; rw [hq]
        rw [es] at hI2 ⊢
        rw [if_neg (show ¬ nI m = 0 from nI_ne0 (by omega) (by omega)), nI_1, nI_1]
        exact ih (k + 1) (some b', m + 1) h (by omega) hI2 hs hg ht
theorem t_laws_l (d s : Nat) (g0 g1 g2 : Nat → Int32) (fit : Nat → Bool) (hfit : fit = fun l => sh_ev (sh_lo3 g0 g1 g2 l) s 0) (hS : sh_SL s g0 g1 g2) : ∀ t k (z : Option Nat × Nat) (x : Value) (h : av_M), k + t = 40 → sh_j1 x → sh_eI k z → h 44 36 = nI s → h 66 = g0 → h 67 = g1 → h 68 = g2 → sh_t2 (sh_ll z.1) h →
    ∃ h', av_xp (d + 22) 261 14 [.ref 44, .int (nI z.2), .int (nI k), x] [] h = some (nI (sh_lp (sh_eF fit) t k z).2, 0, h') ∧ sh_m h h' ∧ sh_t2 (sh_ll (sh_lp (sh_eF fit) t k z).1) h' := by
  intro t
  induction t with
  | zero =>
    intro k z x h e hx hI _ _ _ _ ht
    have ek : k = 40 := by omega
    subst ek
    rw [mX7_laws_r44_14 _ _ _ _ _ hx, if_pos (show (40 : Int32) ≤ nI 40 by decide)]
    exact ⟨h, rfl, sh_m_refl h, ht⟩
  | succ t ih =>
    intro k z x h e hx hI hs q0 q1 q2 ht
    have hI2 := sh_eI_s (Q := fit) hI
    rw [mX7_laws_r44_14 _ _ _ _ _ hx, if_neg (show ¬ (40 : Int32) ≤ nI k from sh_lt (n := 40) (by omega) (by decide)), c_isLaw _ s k h hs (by rw [q0, q1, q2]; exact hS), q0, q1, q2, show sh_ev (sh_lo3 g0 g1 g2 k) s 0 = fit k by rw [hfit]]
    simp only [Option.bind_some, c_flag]
    rw [show sh_lp (sh_eF fit) (t + 1) k z = sh_lp (sh_eF fit) t (k + 1) (sh_eF fit k z) from rfl]
    obtain ⟨o, m⟩ := z
    cases hq : fit k
    · have es : sh_eF fit k (o, m) = (o, m) := by unfold sh_eF; rw [hq]
      rw [es] at hI2 ⊢
      rw [if_pos (show sh_i false = 0 from rfl), nI_1, show sh_i false = 0 from rfl, Int32.add_zero]
      exact ih (k + 1) (o, m) _ h (by omega) (Or.inr ⟨_, rfl⟩) hI2 hs q0 q1 q2 ht
    · rw [if_neg (show ¬ sh_i true = 0 by decide)]
      cases o with
      | none =>
        have em : m = 0 := hI.1.mp rfl
        subst em
        have es : sh_eF fit k (none, 0) = (some k, 1) := by unfold sh_eF; rw [hq]
        rw [es] at hI2 ⊢
        rw [if_pos (show nI 0 = 0 from rfl)]
        obtain ⟨h2, e2, m2, f2, t2⟩ := c_enters (d + 21) h [] (Int32.toInt64 (1 + nI k / 10)) (by decide) ht
        rw [e2]
        simp only [Option.bind_some]
        obtain ⟨h3, e3, m3, f3, t3⟩ := c_enters (d + 21) h2 _ (Int32.toInt64 (nI k - nI k / 10 * 10)) (by simp) t2
        rw [e3]
        simp only [Option.bind_some, nI_1, c_flag]
        have m23 := sh_m_tr m2 m3
        obtain ⟨h4, e4, c4, t4⟩ := ih (k + 1) (some k, 1) (.int (sh_i true)) h3 (by omega) (Or.inr ⟨_, rfl⟩) hI2 (by rw [m23.2 36 (by decide) (by decide)]; exact hs) (by rw [m23.1 66 (by decide) (by decide)]; exact q0) (by rw [m23.1 67 (by decide) (by decide)]; exact q1) (by rw [m23.1 68 (by decide) (by decide)]; exact q2) t3
        exact ⟨h4, e4, sh_m_tr m23 c4, t4⟩
      | some b' =>
        have hm0 : m ≠ 0 := fun q => by have := hI.1.mpr q; cases this
        have hm1 := hI.2
        dsimp only at hm1
        have es : sh_eF fit k (some b', m) = (some b', m + 1) := by unfold sh_eF; rw [hq]
        rw [es] at hI2 ⊢
        rw [if_neg (show ¬ nI m = 0 from nI_ne0 (by omega) (by omega)), nI_1, show nI m + sh_i true = nI (m + 1) from nI_1 m]
        exact ih (k + 1) (some b', m + 1) _ h (by omega) (Or.inr ⟨_, rfl⟩) hI2 hs q0 q1 q2 ht
theorem c_laws : sh_P 94 261 [] := sh_qF fun d N n m L0 r h F E hF => by
  obtain ⟨s, s1, s2, s3, s4, s5⟩ := id E.1.2.2.2.2.2.2.2.1
  have hS : sh_SL s (h 66) (h 67) (h 68) := ⟨s1, fun i hi => (s5 i hi).2.2.2⟩
  obtain ⟨fit, hfit⟩ : ∃ fit : Nat → Bool, fit = fun l => sh_ev (sh_lo3 (h 66) (h 67) (h 68) l) s 0 := ⟨_, rfl⟩
  obtain ⟨O, hO⟩ : ∃ O, O = sh_lp (sh_eF fit) 40 0 (none, 0) := ⟨_, rfl⟩
  have hI : sh_eI 0 (none, 0) := ⟨⟨fun _ => rfl, fun _ => rfl⟩, Nat.le_refl _⟩
  refine ⟨nI O.2, some (sh_ll O.1), fun l q => by
    injection q with q
    subst q
    cases O.1 with
    | none => exact Nat.zero_le _
    | some b => exact (by decide : 2 ≤ 7), ?_, ?_⟩
  · have K := f_laws_l (d + 77) s (h 66) (h 67) (h 68) fit hfit hS 40 0 (none, 0) (av_u h 3 1 0) (by omega) hI s3 (fun i hi => ⟨(s5 i hi).1, (s5 i hi).2.1, (s5 i hi).2.2.1⟩) (sh_t1_nil rfl)
    rw [← hO] at K
    obtain ⟨h2, e2, c2, t2⟩ := K
    refine ⟨h2, ?_, sh_c_tr (sh_c_u (by decide) (sh_c_refl h)) c2, t2⟩
    rw [eX6_laws_r0_in, c_clear]
    exact e2
  · intro h' hc E' hF'
    have K := t_laws_l (d + 77) s (h 66) (h 67) (h 68) fit hfit hS 40 0 (none, 0) .null (av_u (av_u h' 44 0 0) 44 1 0) (by omega) (Or.inl rfl) hI (by show h' 44 36 = _; rw [hc 44 (by decide)]; exact s4) (hc 66 (by decide)) (hc 67 (by decide)) (hc 68 (by decide)) (sh_t2_nil rfl)
    rw [← hO] at K
    obtain ⟨h2, e2, c2, t2⟩ := K
    refine ⟨h2, ?_, sh_m_tr (sh_m_s (k := 1) (v := 0) (by decide) (sh_m_s (k := 0) (v := 0) (by decide) (sh_m_refl h'))) c2, t2⟩
    rw [eX7_laws_r44_in]
    exact e2
