/-! PURE, 49: calls: tries -/
theorem f_fl_l (d s : Nat) (g0 g1 g2 : Nat → Int32) (fit : Nat → Bool) (hfit : fit = fun l => sh_ev (sh_lo3 g0 g1 g2 l) s 0) (h : av_M) (hs : h 38 4 = nI s) (hS : sh_SL s g0 g1 g2) (hg : ∀ i, i < s → h 39 i = g0 i ∧ h 40 i = g1 i ∧ h 41 i = g2 i) : ∀ t k, k + t = 40 → av_xp (d + 22) 148 4 [.ref 0, .long (lN (sh_mk fit k)), .null, .int (nI k)] [] h = some (0, lN (sh_mk fit 40), h) := by
  intro t
  induction t with
  | zero =>
    intro k e
    rw [show k = 40 by omega, eX6_fittingLaws_r0_4, if_pos (show (40 : Int32) ≤ nI 40 by decide)]
  | succ t ih =>
    intro k e
    rw [eX6_fittingLaws_r0_4, if_neg (show ¬ (40 : Int32) ≤ nI k from sh_lt (n := 40) (by omega) (by decide)), c_fitsP _ s k g0 g1 g2 h hs hS hg, show sh_ev (sh_lo3 g0 g1 g2 k) s 0 = fit k by rw [hfit]]
    simp only [Option.bind_some, nI_1]
    have R := ih (k + 1) (by omega)
    rw [show sh_mk fit (k + 1) = (match fit k with
      | true => sh_mk fit k + 2 ^ k
      | false => sh_mk fit k) from rfl] at R
    cases hq : fit k
    · rw [hq] at R
      rw [if_pos (show sh_i false = 0 from rfl)]
      exact R
    · rw [hq] at R
      rw [if_neg (show ¬ sh_i true = 0 by decide), sh_shl40 k (by omega), lN_or, sh_mk_or (sh_mk_lt fit k)]
      exact R
theorem f_bl_l (d : Nat) (K S : Int32) (h : av_M) : ∀ t k, k + t = 40 → av_xp (d + 2) 149 5 [.int K, .int S, .long (lN (sh_mk (fun l => sh_br l K S) k)), .null, .int (nI k)] [] h = some (0, lN (sh_mk (fun l => sh_br l K S) 40), h) := by
  intro t
  induction t with
  | zero =>
    intro k e
    rw [show k = 40 by omega, eX6_breakingLaws_5, if_pos (show (40 : Int32) ≤ nI 40 by decide)]
  | succ t ih =>
    intro k e
    rw [eX6_breakingLaws_5, if_neg (show ¬ (40 : Int32) ≤ nI k from sh_lt (n := 40) (by omega) (by decide)), c_breaks]
    simp only [Option.bind_some, nI_1]
    have R := ih (k + 1) (by omega)
    rw [show sh_mk (fun l => sh_br l K S) (k + 1) = (match sh_br k K S with
      | true => sh_mk (fun l => sh_br l K S) k + 2 ^ k
      | false => sh_mk (fun l => sh_br l K S) k) from rfl] at R
    cases hq : sh_br k K S
    · rw [hq] at R
      rw [if_pos (show sh_i false = 0 from rfl)]
      exact R
    · rw [hq] at R
      rw [if_neg (show ¬ sh_i true = 0 by decide), sh_shl40 k (by omega), lN_or, sh_mk_or (sh_mk_lt _ k)]
      exact R
theorem c_bls (d : Nat) (K S : Int32) (h : av_M) : av_x (d + 3) 149 [.int K, .int S] h = some (0, lN (sh_mk (fun l => sh_br l K S) 40), h) := by
  rw [eX6_breakingLaws_in]
  exact f_bl_l d K S h 40 0 (by omega)
def sh_ty (fit : Nat → Bool) (k s : Nat) : Nat := sh_cb (fun l => fit l && sh_br l (nI k) (nI s)) 40 0
def sh_tI (fit : Nat → Bool) (L k s : Nat) (o : Option (Nat × Nat)) : Option (Nat × Nat) := sh_am (sh_mo2 L (sh_ty fit k s)) (10 * k + s) o
def sh_tO (fit : Nat → Bool) (L k : Nat) (o : Option (Nat × Nat)) : Option (Nat × Nat) := sh_lp (sh_tI fit L k) 9 1 o
theorem sh_ty_le (fit : Nat → Bool) (k s : Nat) : sh_ty fit k s ≤ sh_cb fit 40 0 := sh_cb_sub 40 0
theorem f_try_in (d L k : Nat) (fit : Nat → Bool) (h : av_M) (hL : L = sh_cb fit 40 0) (hk : k < 21) : ∀ t s (o : Option (Nat × Nat)) (x1 x2 : Value), s + t = 10 → ((x1 = .null ∧ x2 = .null) ∨ (∃ (y1 : Int32) (y2 : Int32), x1 = .int y1 ∧ x2 = .int y2)) → sh_aI L o →
    ∃ x1' x2', ((x1' = .null ∧ x2' = .null) ∨ (∃ (y1 : Int32) (y2 : Int32), x1' = .int y1 ∧ x2' = .int y2)) ∧ sh_aI L (sh_lp (sh_tI fit L k) t s o) ∧ av_xp (d + 22) 95 38 [.ref 0, .long (lN (sh_mk fit 40)), .null, .int (nI L), .int (sh_af (nI (L + 1)) o), .int (sh_ab 0 o), .int (nI k), .int (nI s), x1, x2] [] h = av_xp (d + 22) 95 38 [.ref 0, .long (lN (sh_mk fit 40)), .null, .int (nI L), .int (sh_af (nI (L + 1)) (sh_lp (sh_tI fit L k) t s o)), .int (sh_ab 0 (sh_lp (sh_tI fit L k) t s o)), .int (nI k), .int (nI 10), x1', x2'] [] h := by
  have hL40 : L ≤ 40 := by rw [hL]; exact sh_cb_le _ _ _
  intro t
  induction t with
  | zero =>
    intro s o x1 x2 e hx hI
    rw [show s = 10 by omega]
    exact ⟨x1, x2, hx, hI, rfl⟩
  | succ t ih =>
    intro s o x1 x2 e hx hI
    have hle : sh_ty fit k s ≤ L := by rw [hL]; exact sh_ty_le fit k s
    have hm := sh_mo2_le hle
    rw [mX6_tries_r0_38 _ _ _ _ _ _ _ _ _ _ hx, if_neg (show ¬ (9 : Int32) < nI s from nI_nlt (b := s) (a := 9) (by omega) (by omega)), c_bls]
    simp only [Option.bind_some, c_bl]
    rw [sh_bl_mk2, show sh_cb (fun l => fit l && sh_br l (nI k) (nI s)) 40 0 = sh_ty fit k s from rfl, sh_most (by omega) hle, nI_1]
    rw [sh_lp_s]
    show ∃ x1' x2', ((x1' = .null ∧ x2' = .null) ∨ (∃ (y1 : Int32) (y2 : Int32), x1' = .int y1 ∧ x2' = .int y2)) ∧ sh_aI L (sh_lp (sh_tI fit L k) t (s + 1) (sh_am (sh_mo2 L (sh_ty fit k s)) (10 * k + s) o)) ∧ _ = av_xp (d + 22) 95 38 [.ref 0, .long (lN (sh_mk fit 40)), .null, .int (nI L), .int (sh_af (nI (L + 1)) (sh_lp (sh_tI fit L k) t (s + 1) (sh_am (sh_mo2 L (sh_ty fit k s)) (10 * k + s) o))), .int (sh_ab 0 (sh_lp (sh_tI fit L k) t (s + 1) (sh_am (sh_mo2 L (sh_ty fit k s)) (10 * k + s) o))), .int (nI k), .int (nI 10), x1', x2'] [] h
    have hI2 := sh_am_I (b := 10 * k + s) hm hI
    obtain ⟨t1, t2⟩ := sh_am_t (10 * k + s) hm (by omega) (show ¬ nI (L + 1) ≤ nI (sh_mo2 L (sh_ty fit k s)) from nI_ge (by omega) (by omega)) hI
    by_cases q : sh_af (nI (L + 1)) o ≤ nI (sh_mo2 L (sh_ty fit k s))
    · rw [if_pos q, t1 q]
      exact ih (s + 1) o _ _ (by omega) (Or.inr ⟨_, _, rfl, rfl⟩) hI
    · rw [t2 q] at hI2 ⊢
      rw [if_neg q, show (10 : Int32) * nI k + nI s = nI (10 * k + s) by rw [show (10 : Int32) * nI k = nI (10 * k) from nI_mul 10 k, nI_add]]
      exact ih (s + 1) (some (sh_mo2 L (sh_ty fit k s), 10 * k + s)) _ _ (by omega) (Or.inr ⟨_, _, rfl, rfl⟩) hI2
theorem sh_tI_I {fit : Nat → Bool} {L : Nat} (hL : L = sh_cb fit 40 0) : ∀ t k s (o : Option (Nat × Nat)), sh_aI L o → sh_aI L (sh_lp (sh_tI fit L k) t s o) := by
  intro t
  induction t with
  | zero => intro k s o h; exact h
  | succ t ih =>
    intro k s o h
    exact ih k (s + 1) _ (sh_am_I (sh_mo2_le (by rw [hL]; exact sh_ty_le fit k s)) h)
theorem f_try_l (d L : Nat) (fit : Nat → Bool) (h : av_M) (hL : L = sh_cb fit 40 0) : ∀ t k (o : Option (Nat × Nat)) (x1 x2 x3 : Value), k + t = 21 → sh_x3 x1 x2 x3 → sh_aI L o → sh_lp (sh_tO fit L) t k o ≠ none →
    ∃ h', av_xp (d + 22) 95 28 [.ref 0, .long (lN (sh_mk fit 40)), .null, .int (nI L), .int (sh_af (nI (L + 1)) o), .int (sh_ab 0 o), .int (nI k), x1, x2, x3] [] h = some (nI (sh_oz (sh_lp (sh_tO fit L) t k o)).2, 0, h') ∧ sh_c h h' ∧ sh_t1 [Int32.toInt64 (nI (sh_oz (sh_lp (sh_tO fit L) t k o)).1)] h' := by
  intro t
  induction t with
  | zero =>
    intro k o x1 x2 x3 e hx hI hne
    have ek : k = 21 := by omega
    subst ek
    rw [mX6_tries_r0_28 _ _ _ _ _ _ _ _ _ _ hx, if_pos (show (20 : Int32) < nI 21 by decide)]
    cases o with
    | none => exact absurd rfl hne
    | some z =>
      obtain ⟨h2, e2, f2, t2⟩ := c_tell (d + 20) h (Int32.toInt64 (nI z.1))
      rw [show sh_af (nI (L + 1)) (some z) = nI z.1 from rfl, e2]
      exact ⟨h2, rfl, sh_c_of f2 (by decide), t2⟩
  | succ t ih =>
    intro k o x1 x2 x3 e hx hI hne
    obtain ⟨y1, y2, hy, hI2, e1⟩ := f_try_in d L k fit h hL (by omega) 9 1 o x2 x3 (by omega) (sh_x32 hx) hI
    rw [mX6_tries_r0_28 _ _ _ _ _ _ _ _ _ _ hx, if_neg (show ¬ (20 : Int32) < nI k from nI_nlt (b := k) (a := 20) (by omega) (by omega)), show (1 : Int32) = nI 1 from rfl, e1, mX6_tries_r0_38 _ _ _ _ _ _ _ _ _ _ hy, if_pos (show (9 : Int32) < nI 10 by decide), nI_1]
    rw [sh_lp_s] at hne ⊢
    exact ih (k + 1) (sh_tO fit L k o) _ y1 y2 (by omega) (sh_x23 hy) hI2 hne
/-! the reference -/
theorem t_fit9_l (d s : Nat) (g0 g1 g2 : Nat → Int32) (fit : Nat → Bool) (hfit : fit = fun l => sh_ev (sh_lo3 g0 g1 g2 l) s 0) (hS : sh_SL s g0 g1 g2) : ∀ t k (h : av_M), k + t = 40 → h 44 36 = nI s → h 66 = g0 → h 67 = g1 → h 68 = g2 → (∀ i, i < k → h 69 i = sh_i (fit i)) →
    ∃ h', av_xp (d + 22) 262 9 [.ref 44, .int (nI (sh_cb fit k 0)), .int (nI k), .null, .null, .null, .null, .null] [] h = av_xp (d + 22) 262 9 [.ref 44, .int (nI (sh_cb fit 40 0)), .int (nI 40), .null, .null, .null, .null, .null] [] h' ∧ sh_fr [69] h h' ∧ ∀ i, i < 40 → h' 69 i = sh_i (fit i) := by
  intro t
  induction t with
  | zero =>
    intro k h e _ _ _ _ hw
    rw [show k = 40 by omega]
    exact ⟨h, rfl, sh_fr_refl _ _, fun i hi => hw i (by omega)⟩
  | succ t ih =>
    intro k h e hs q0 q1 q2 hw
    rw [eX7_tries_r44_9, if_neg (show ¬ (40 : Int32) ≤ nI k from sh_lt (n := 40) (by omega) (by decide)), c_isLaw _ s k h hs (by rw [q0, q1, q2]; exact hS), q0, q1, q2, show sh_ev (sh_lo3 g0 g1 g2 k) s 0 = fit k by rw [hfit]]
    simp only [Option.bind_some]
    rw [sh_inb (show k < 40 by omega) (by decide), nI_clamp (by omega), sh_ia]
    simp only [cond_true]
    rw [av_u_eq, upd_s, c_flag]
    simp only [Option.bind_some, nI_1]
    have hcb : nI (sh_cb fit k 0) + sh_i (fit k) = nI (sh_cb fit (k + 1) 0) := by
      have := sh_cb_split fit k 1 0
      rw [this, Nat.zero_add]
      show _ = nI (sh_cb fit k 0 + ((match fit k with
        | true => 1
        | false => 0) + 0))
      cases fit k
      · exact Int32.add_zero _
      · exact nI_1 _
    rw [hcb]
    obtain ⟨h2, e2, f2, w2⟩ := ih (k + 1) (av_u h 69 k (sh_i (fit k))) (by omega) hs q0 q1 q2 (fun i hi => by
      rw [av_u_eq]
      unfold upd
      by_cases ei : i = k
      · rw [if_pos ei, ei]
      · rw [if_neg ei]; exact hw i (by omega))
    exact ⟨h2, e2, sh_fr_tr (sh_fr_u (by decide) (sh_fr_refl _ _)) f2 (fun _ q => q), w2⟩
theorem t_tryy_l (d k s : Nat) (fit : Nat → Bool) (L A B : Int32) (h : av_M) (hw : ∀ i, i < 40 → h 69 i = sh_i (fit i)) : ∀ t l, l + t = 40 → av_xp (d + 22) 262 83 [.ref 44, .int L, .int A, .int B, .int (nI k), .int (nI s), .int (nI (sh_cb (fun l => fit l && sh_br l (nI k) (nI s)) l 0)), .int (nI l)] [] h = av_xp (d + 22) 262 83 [.ref 44, .int L, .int A, .int B, .int (nI k), .int (nI s), .int (nI (sh_ty fit k s)), .int (nI 40)] [] h := by
  intro t
  induction t with
  | zero =>
    intro l e
    rw [show l = 40 by omega]
    rfl
  | succ t ih =>
    intro l e
    have hcb : nI (sh_cb (fun l => fit l && sh_br l (nI k) (nI s)) l 0) + sh_i (fit l && sh_br l (nI k) (nI s)) = nI (sh_cb (fun l => fit l && sh_br l (nI k) (nI s)) (l + 1) 0) := by
      have := sh_cb_split (fun l => fit l && sh_br l (nI k) (nI s)) l 1 0
      rw [this, Nat.zero_add]
      show _ = nI (_ + ((match (fit l && sh_br l (nI k) (nI s)) with
        | true => 1
        | false => 0) + 0))
      cases (fit l && sh_br l (nI k) (nI s))
      · exact Int32.add_zero _
      · exact nI_1 _
    have R := ih (l + 1) (by omega)
    rw [← hcb] at R
    rw [eX7_tries_r44_83, if_neg (show ¬ (40 : Int32) ≤ nI l from sh_lt (n := 40) (by omega) (by decide)), sh_inb (show l < 40 by omega) (by decide), nI_clamp (by omega), hw l (by omega)]
    simp only [cond_true, nI_1]
    cases hf : fit l
    · rw [hf] at R
      rw [if_pos (show sh_i false = 0 from rfl)]
      exact R
    · rw [hf, Bool.true_and] at R
      rw [if_neg (show ¬ sh_i true = 0 by decide), c_breaksBy]
      exact R
theorem t_try_in (d L k : Nat) (fit : Nat → Bool) (h : av_M) (hL : L = sh_cb fit 40 0) (hk : k < 21) (hw : ∀ i, i < 40 → h 69 i = sh_i (fit i)) : ∀ t s (o : Option (Nat × Nat)) (x1 x2 : Value), s + t = 10 → ((x1 = .null ∧ x2 = .null) ∨ (∃ (y1 : Int32) (y2 : Int32), x1 = .int y1 ∧ x2 = .int y2)) → sh_aI L o →
    ∃ x1' x2', ((x1' = .null ∧ x2' = .null) ∨ (∃ (y1 : Int32) (y2 : Int32), x1' = .int y1 ∧ x2' = .int y2)) ∧ sh_aI L (sh_lp (sh_tI fit L k) t s o) ∧ av_xp (d + 22) 262 70 [.ref 44, .int (nI L), .int (sh_ab (-1) o), .int (sh_af 1000000 o), .int (nI k), .int (nI s), x1, x2] [] h = av_xp (d + 22) 262 70 [.ref 44, .int (nI L), .int (sh_ab (-1) (sh_lp (sh_tI fit L k) t s o)), .int (sh_af 1000000 (sh_lp (sh_tI fit L k) t s o)), .int (nI k), .int (nI 10), x1', x2'] [] h := by
  have hL40 : L ≤ 40 := by rw [hL]; exact sh_cb_le _ _ _
  intro t
  induction t with
  | zero =>
    intro s o x1 x2 e hx hI
    rw [show s = 10 by omega]
    exact ⟨x1, x2, hx, hI, rfl⟩
  | succ t ih =>
    intro s o x1 x2 e hx hI
    have hle : sh_ty fit k s ≤ L := by rw [hL]; exact sh_ty_le fit k s
    have hm := sh_mo2_le hle
    have Y := t_tryy_l d k s fit (nI L) (sh_ab (-1) o) (sh_af 1000000 o) h hw 40 0 (by omega)
    have Y2 : av_xp (d + 22) 262 83 [.ref 44, .int (nI L), .int (sh_ab (-1) o), .int (sh_af 1000000 o), .int (nI k), .int (nI s), .int 0, .int 0] [] h = av_xp (d + 22) 262 83 [.ref 44, .int (nI L), .int (sh_ab (-1) o), .int (sh_af 1000000 o), .int (nI k), .int (nI s), .int (nI (sh_ty fit k s)), .int (nI 40)] [] h := Y
    rw [mX7_tries_r44_70 _ _ _ _ _ _ _ _ _ hx, if_neg (show ¬ (9 : Int32) < nI s from nI_nlt (b := s) (a := 9) (by omega) (by omega)), Y2, eX7_tries_r44_83, if_pos (show (40 : Int32) ≤ nI 40 by decide), sh_most (by omega) hle, nI_1]
    rw [sh_lp_s]
    show ∃ x1' x2', ((x1' = .null ∧ x2' = .null) ∨ (∃ (y1 : Int32) (y2 : Int32), x1' = .int y1 ∧ x2' = .int y2)) ∧ sh_aI L (sh_lp (sh_tI fit L k) t (s + 1) (sh_am (sh_mo2 L (sh_ty fit k s)) (10 * k + s) o)) ∧ _ = av_xp (d + 22) 262 70 [.ref 44, .int (nI L), .int (sh_ab (-1) (sh_lp (sh_tI fit L k) t (s + 1) (sh_am (sh_mo2 L (sh_ty fit k s)) (10 * k + s) o))), .int (sh_af 1000000 (sh_lp (sh_tI fit L k) t (s + 1) (sh_am (sh_mo2 L (sh_ty fit k s)) (10 * k + s) o))), .int (nI k), .int (nI 10), x1', x2'] [] h
    have h0 : ¬ (1000000 : Int32) ≤ nI (sh_mo2 L (sh_ty fit k s)) := sh_lt (n := 1000000) (by omega) (by decide)
    have hI2 := sh_am_I (b := 10 * k + s) hm hI
    obtain ⟨t1, t2⟩ := sh_am_t (10 * k + s) hm (by omega) h0 hI
    rw [sh_am_min (10 * k + s) hm (by omega) h0 hI]
    by_cases q : sh_af 1000000 o ≤ nI (sh_mo2 L (sh_ty fit k s))
    · rw [if_pos q, t1 q]
      exact ih (s + 1) o _ _ (by omega) (Or.inr ⟨_, _, rfl, rfl⟩) hI
    · rw [t2 q] at hI2 ⊢
      rw [if_neg q, show (10 : Int32) * nI k + nI s = nI (10 * k + s) by rw [show (10 : Int32) * nI k = nI (10 * k) from nI_mul 10 k, nI_add]]
      exact ih (s + 1) (some (sh_mo2 L (sh_ty fit k s), 10 * k + s)) _ _ (by omega) (Or.inr ⟨_, _, rfl, rfl⟩) hI2
theorem t_try_l (d L : Nat) (fit : Nat → Bool) (h : av_M) (hL : L = sh_cb fit 40 0) (hw : ∀ i, i < 40 → h 69 i = sh_i (fit i)) : ∀ t k (o : Option (Nat × Nat)) (x1 x2 x3 : Value), k + t = 21 → sh_x3 x1 x2 x3 → sh_aI L o → sh_lp (sh_tO fit L) t k o ≠ none →
    ∃ h', av_xp (d + 22) 262 60 [.ref 44, .int (nI L), .int (sh_ab (-1) o), .int (sh_af 1000000 o), .int (nI k), x1, x2, x3] [] h = some (nI (sh_oz (sh_lp (sh_tO fit L) t k o)).2, 0, h') ∧ sh_m h h' ∧ sh_t2 [Int32.toInt64 (nI (sh_oz (sh_lp (sh_tO fit L) t k o)).1)] h' := by
  intro t
  induction t with
  | zero =>
    intro k o x1 x2 x3 e hx hI hne
    have ek : k = 21 := by omega
    subst ek
    rw [mX7_tries_r44_60 _ _ _ _ _ _ _ _ _ hx, if_pos (show (20 : Int32) < nI 21 by decide)]
    cases o with
    | none => exact absurd rfl hne
    | some z =>
      obtain ⟨h2, e2, m2, f2, t2⟩ := c_ent1 (d + 21) (av_u h 44 1 0) (Int32.toInt64 (nI z.1)) rfl
      rw [show sh_af 1000000 (some z) = nI z.1 from rfl, e2]
      exact ⟨h2, rfl, sh_m_tr (sh_m_s (k := 1) (v := 0) (by decide) (sh_m_refl h)) m2, t2⟩
  | succ t ih =>
    intro k o x1 x2 x3 e hx hI hne
    obtain ⟨y1, y2, hy, hI2, e1⟩ := t_try_in d L k fit h hL (by omega) hw 9 1 o x2 x3 (by omega) (sh_x32 hx) hI
    have e1' : av_xp (d + 22) 262 70 [.ref 44, .int (nI L), .int (sh_ab (-1) o), .int (sh_af 1000000 o), .int (nI k), .int 1, x2, x3] [] h = _ := e1
    rw [mX7_tries_r44_60 _ _ _ _ _ _ _ _ _ hx, if_neg (show ¬ (20 : Int32) < nI k from nI_nlt (b := k) (a := 20) (by omega) (by omega)), e1', mX7_tries_r44_70 _ _ _ _ _ _ _ _ _ hy, if_pos (show (9 : Int32) < nI 10 by decide), nI_1]
    rw [sh_lp_s] at hne ⊢
    exact ih (k + 1) (sh_tO fit L k o) _ y1 y2 (by omega) (sh_x23 hy) hI2 hne
theorem sh_tI_ne {fit : Nat → Bool} {L k : Nat} : ∀ t s (o : Option (Nat × Nat)), o ≠ none → sh_lp (sh_tI fit L k) t s o ≠ none := by
  intro t
  induction t with
  | zero => intro s o h; exact h
  | succ t ih => intro s o _; rw [sh_lp_s]; exact ih (s + 1) _ (sh_am_some _ _ _)
theorem sh_tO_1 {fit : Nat → Bool} {L k : Nat} (o : Option (Nat × Nat)) : sh_tO fit L k o ≠ none := by
  unfold sh_tO
  rw [sh_lp_s (t := 8)]
  exact sh_tI_ne 8 _ _ (sh_am_some _ _ _)
theorem sh_tO_ne {fit : Nat → Bool} {L : Nat} : ∀ t k (o : Option (Nat × Nat)), o ≠ none → sh_lp (sh_tO fit L) t k o ≠ none := by
  intro t
  induction t with
  | zero => intro k o h; exact h
  | succ t ih => intro k o _; rw [sh_lp_s]; exact ih (k + 1) _ (sh_tO_1 _)
theorem sh_tO_T {fit : Nat → Bool} {L : Nat} (T z : Nat) (eT : T = 20 + 1) (ez : z = 0) : sh_lp (sh_tO fit L) T z none ≠ none := by
  rw [eT, ez, sh_lp_s]
  exact sh_tO_ne 20 _ _ (sh_tO_1 _)
theorem c_tries : sh_P 95 262 [] := sh_qF fun d N n m L0 r h F E hF => by
  obtain ⟨s, s1, s2, s3, s4, s5⟩ := id E.1.2.2.2.2.2.2.2.1
  have hS : sh_SL s (h 66) (h 67) (h 68) := ⟨s1, fun i hi => (s5 i hi).2.2.2⟩
  obtain ⟨fit, hfit⟩ : ∃ fit : Nat → Bool, fit = fun l => sh_ev (sh_lo3 (h 66) (h 67) (h 68) l) s 0 := ⟨_, rfl⟩
  obtain ⟨L, hL⟩ : ∃ L, L = sh_cb fit 40 0 := ⟨_, rfl⟩
  have hL40 : L ≤ 40 := by rw [hL]; exact sh_cb_le _ _ _
  have eX0 : av_x (d + 100) 95 [.ref 0] h = if nI L = 0 then some (-2, 0, h) else av_xp (d + 99) 95 28 [.ref 0, .long (lN (sh_mk fit 40)), .null, .int (nI L), .int (nI (L + 1)), .int 0, .int (nI 0), .null, .null, .null] [] h := by
    have K := f_fl_l (d + 76) s (h 66) (h 67) (h 68) fit hfit h s3 hS (fun i hi => ⟨(s5 i hi).1, (s5 i hi).2.1, (s5 i hi).2.2.1⟩) 40 0 (by omega)
    have K2 : av_xp (d + 98) 148 4 [.ref 0, .long 0, .null, .int 0] [] h = some (0, lN (sh_mk fit 40), h) := K
    rw [eX6_tries_r0_in, eX6_fittingLaws_r0_in, K2]
    simp only [Option.bind_some, c_bl]
    rw [sh_bl_mk, ← hL, nI_1]
    rfl
  have eM0 : ∀ h' : av_M, sh_c h h' → ∃ h2, av_x (d + 100) 262 [.ref 44] h' = (if nI L = 0 then some (-2, 0, h2) else av_xp (d + 99) 262 60 [.ref 44, .int (nI L), .int (-1), .int 1000000, .int (nI 0), .null, .null, .null] [] h2) ∧ sh_m h' h2 ∧ h2 44 1 = h' 44 1 ∧ h2 45 = h' 45 ∧ (∀ i, i < 40 → h2 69 i = sh_i (fit i)) := by
    intro h' hc
    obtain ⟨h2, e2, f2, w2⟩ := t_fit9_l (d + 77) s (h 66) (h 67) (h 68) fit hfit hS 40 0 (av_u h' 44 0 0) (by omega) (by show h' 44 36 = nI s; rw [hc 44 (by decide)]; exact s4) (hc 66 (by decide)) (hc 67 (by decide)) (hc 68 (by decide)) (fun i hi => absurd hi (by omega))
    refine ⟨h2, ?_, sh_m_tr (sh_m_s (k := 0) (v := 0) (by decide) (sh_m_refl h')) (sh_m_of f2 (by decide)), by rw [f2 44 (by decide)]; rfl, by rw [f2 45 (by decide)]; rfl, w2⟩
    rw [eX7_tries_r44_in]
    refine e2.trans ?_
    rw [eX7_tries_r44_9, if_pos (show (40 : Int32) ≤ nI 40 by decide), ← hL]
    rfl
  by_cases hz : L = 0
  · refine ⟨-2, none, fun _ q => (nomatch q), sh_QX_n ?_, ?_⟩
    · rw [eX0, if_pos (by rw [hz]; rfl)]
    · intro h' hc E' hF'
      obtain ⟨h2, e2, m2, q1, q2, _⟩ := eM0 h' hc
      refine ⟨h2, ?_, m2, q1, q2⟩
      rw [e2, if_pos (by rw [hz]; rfl)]
  · have hLp : 0 < L := by omega
    obtain ⟨O, hO⟩ : ∃ O, O = sh_lp (sh_tO fit L) 21 0 none := ⟨_, rfl⟩
    refine ⟨nI (sh_oz O).2, some [Int32.toInt64 (nI (sh_oz O).1)], fun l q => by injection q with q; subst q; simp, ?_, ?_⟩
    · have K := f_try_l (d + 77) L fit h hL 21 0 none .null .null .null (by omega) (Or.inl ⟨rfl, rfl, rfl⟩) (fun z q => (nomatch q)) (sh_tO_T 21 0 (by decide) rfl)
      rw [← hO] at K
      obtain ⟨h2, e2, c2, t2⟩ := K
      refine ⟨h2, ?_, c2, t2⟩
      rw [eX0, if_neg (nI_ne0 hLp (by omega))]
      exact e2
    · intro h' hc E' hF'
      obtain ⟨h2, e2, m2, q1, q2, w2⟩ := eM0 h' hc
      have K := t_try_l (d + 77) L fit h2 hL w2 21 0 none .null .null .null (by omega) (Or.inl ⟨rfl, rfl, rfl⟩) (fun z q => (nomatch q)) (sh_tO_T 21 0 (by decide) rfl)
      rw [← hO] at K
      obtain ⟨h3, e3, c3, t3⟩ := K
      refine ⟨h3, ?_, sh_m_tr m2 c3, t3⟩
      rw [e2, if_neg (nI_ne0 hLp (by omega))]
      exact e3
