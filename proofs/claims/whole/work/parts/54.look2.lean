/-! PURE, 44: calls: looks -/
def sh_x3 (x1 x2 x3 : Value) : Prop := (x1 = .null ∧ x2 = .null ∧ x3 = .null) ∨ (∃ (y1 : Int32), x1 = .int y1 ∧ x2 = .null ∧ x3 = .null) ∨ (∃ (y1 : Int32) (y2 : Int32) (y3 : Int32), x1 = .int y1 ∧ x2 = .int y2 ∧ x3 = .int y3)
theorem sh_x32 {x1 x2 x3 : Value} (h : sh_x3 x1 x2 x3) : (x2 = .null ∧ x3 = .null) ∨ (∃ (y1 : Int32) (y2 : Int32), x2 = .int y1 ∧ x3 = .int y2) := by
  rcases h with ⟨_, h2, h3⟩ | ⟨_, _, h2, h3⟩ | ⟨_, y2, y3, _, h2, h3⟩
  · exact Or.inl ⟨h2, h3⟩
  · exact Or.inl ⟨h2, h3⟩
  · exact Or.inr ⟨y2, y3, h2, h3⟩
theorem sh_x23 {y : Int32} {x2 x3 : Value} (h : (x2 = .null ∧ x3 = .null) ∨ (∃ (y1 : Int32) (y2 : Int32), x2 = .int y1 ∧ x3 = .int y2)) : sh_x3 (.int y) x2 x3 := by
  rcases h with ⟨h2, h3⟩ | ⟨y1, y2, h2, h3⟩
  · exact Or.inr (Or.inl ⟨_, rfl, h2, h3⟩)
  · exact Or.inr (Or.inr ⟨_, _, _, rfl, h2, h3⟩)
theorem sh_lkO_I {fit : Nat → Bool} {L : Nat} {ρ : Nat → Nat} (hL : L = sh_cb fit 60 0) : ∀ t i j (o : Option (Nat × Nat)), sh_aI L o → sh_aI L (sh_lp (sh_lkI fit L ρ i) t j o) := by
  intro t
  induction t with
  | zero => intro i j o h; exact h
  | succ t ih =>
    intro i j o h
    exact ih i (j + 1) _ (sh_am_I (sh_mo2_le (by rw [hL]; exact sh_lo2_le fit (ρ i) j)) h)
def sh_oz (o : Option (Nat × Nat)) : Nat × Nat := match o with
  | none => (0, 0)
  | some z => z
theorem f_look_l (d n L : Nat) (r : Nat → Int32) (fit : Nat → Bool) (ρ : Nat → Nat) (h : av_M) (hn : n ≤ 7) (hm : h 5 6 = nI n) (hv : sh_SV 5 h r) (hL : L = sh_cb fit 60 0) (hρ : ∀ i, i < 7 → r (14 + i) + r (21 + i) = nI (ρ i) ∧ ρ i < 10100) (hw : ∀ i, i ≤ 60 → h 42 i = nI (sh_cb fit (60 - i) i)) : ∀ t i (o : Option (Nat × Nat)) (x1 x2 x3 : Value), i + t = n → sh_x3 x1 x2 x3 → sh_aI L o → sh_lp (sh_lkO fit L ρ) t i o ≠ none →
    ∃ h', av_xp (d + 22) 86 31 [.ref 0, .int (nI L), .int (sh_af (nI (L + 1)) o), .int (sh_ab 0 o), .int (nI i), x1, x2, x3] [] h = some (nI (sh_oz (sh_lp (sh_lkO fit L ρ) t i o)).2, 0, h') ∧ sh_c h h' ∧ sh_t1 [Int32.toInt64 (nI (sh_oz (sh_lp (sh_lkO fit L ρ) t i o)).1)] h' := by
  intro t
  induction t with
  | zero =>
    intro i o x1 x2 x3 e hx hI hne
    rw [mX6_looks_r0_31 _ _ _ _ _ _ _ _ _ hx, hm, if_pos (sh_ge (by omega) (by omega))]
    cases o with
    | none => exact absurd rfl hne
    | some z =>
      obtain ⟨h2, e2, f2, t2⟩ := c_tell (d + 20) h (Int32.toInt64 (nI z.1))
      rw [show sh_af (nI (L + 1)) (some z) = nI z.1 from rfl, e2]
      exact ⟨h2, rfl, sh_c_of f2 (by decide), t2⟩
  | succ t ih =>
    intro i o x1 x2 x3 e hx hI hne
    obtain ⟨q1, q2⟩ := hρ i (by omega)
    obtain ⟨y1, y2, hy, hI2, e1⟩ := f_look_in d n L r fit ρ i h (by omega) hv hL q1 q2 hw 199 0 o x2 x3 (by omega) (sh_x32 hx) hI
    rw [mX6_looks_r0_31 _ _ _ _ _ _ _ _ _ hx, hm, if_neg (sh_lt (by omega) (by omega)), show (-99 : Int32) = nI 0 - 99 by decide, e1, mX6_looks_r0_47 _ _ _ _ _ _ _ _ _ hy, if_pos (show (99 : Int32) < nI 199 - 99 by decide), nI_1]
    exact ih (i + 1) (sh_lkO fit L ρ i o) _ y1 y2 (by omega) (sh_x23 hy) hI2 hne
/-! the reference -/
theorem t_left_l (d n s : Nat) (r : Nat → Int32) (g0 g1 g2 : Nat → Int32) (fit : Nat → Bool) (hfit : fit = fun w => sh_ev (sh_so r g0 g1 g2 (nI w)) s 0) (hn : n ≤ 7) (hS : sh_SF n s g0 g1 g2) : ∀ t k (h : av_M), k + t = 60 → sh_MV 48 h r → h 44 28 = nI s → h 60 = g0 → h 61 = g1 → h 62 = g2 → (∀ i, i < k → h 63 i = sh_i (fit i)) →
    ∃ h', av_xp (d + 22) 247 9 [.ref 44, .int (nI (sh_cb fit k 0)), .int (nI k), .null, .null, .null, .null, .null] [] h = av_xp (d + 22) 247 9 [.ref 44, .int (nI (sh_cb fit 60 0)), .int (nI 60), .null, .null, .null, .null, .null] [] h' ∧ sh_fr [63] h h' ∧ ∀ i, i < 60 → h' 63 i = sh_i (fit i) := by
  intro t
  induction t with
  | zero =>
    intro k h e _ _ _ _ _ hw
    rw [show k = 60 by omega]
    exact ⟨h, rfl, sh_fr_refl _ _, fun i hi => hw i (by omega)⟩
  | succ t ih =>
    intro k h e hv hs q0 q1 q2 hw
    rw [eX7_looks_r44_9, if_neg (show ¬ (59 : Int32) < nI k from nI_nlt (b := k) (a := 59) (by omega) (by omega)), c_asSeen _ n s r _ h hn hv hs (by rw [q0, q1, q2]; exact hS), q0, q1, q2, show sh_ev (sh_so r g0 g1 g2 (nI k)) s 0 = fit k by rw [hfit]]
    simp only [Option.bind_some]
    rw [sh_inb (show k < 60 by omega) (by decide), nI_clamp (by omega), sh_ia]
    simp only [cond_true]
    rw [av_u_eq, upd_s, c_flag]
    simp only [Option.bind_some, nI_1]
    have hcb : nI (sh_cb fit k 0) + sh_i (fit k) = nI (sh_cb fit (k + 1) 0) := by
      have := sh_cb_split fit k 1 0
      rw [this, Nat.zero_add]
      show _ = nI (sh_cb fit k 0 + ((match fit k with
        | true => 1
        | false => 0) + 0))
      cases fit k
      · exact Int32.add_zero _
      · exact nI_1 _
    rw [hcb]
    obtain ⟨h2, e2, f2, w2⟩ := ih (k + 1) (av_u h 63 k (sh_i (fit k))) (by omega) (sh_MV_fr (S := [63]) (sh_fr_u (by decide) (sh_fr_refl _ _)) (by decide) hv) hs q0 q1 q2 (fun i hi => by
      rw [av_u_eq]
      unfold upd
      by_cases ei : i = k
      · rw [if_pos ei, ei]
      · rw [if_neg ei]; exact hw i (by omega))
    exact ⟨h2, e2, sh_fr_tr (sh_fr_u (by decide) (sh_fr_refl _ _)) f2 (fun _ q => q), w2⟩
theorem t_yes_l (d i j p l : Nat) (r : Nat → Int32) (fit : Nat → Bool) (L A B : Int32) (h : av_M) (hi : i < 7) (hv : sh_MV 48 h r) (hw : ∀ i, i < 60 → h 63 i = sh_i (fit i)) (hp : p ≤ 9) (hl : l ≤ 9999) (ep : r (14 + i) = nI p) (el : r (21 + i) = nI l) (hj : j < 199) : ∀ t k, k + t = 60 → av_xp (d + 22) 247 93 [.ref 44, .int L, .int A, .int B, .int (nI i), .int (nI j - 99), .int (nI (sh_cb (fun w => fit w && decide (min 60 (j + (p + l) - 99) ≤ w)) k 0)), .int (nI k)] [] h = av_xp (d + 22) 247 93 [.ref 44, .int L, .int A, .int B, .int (nI i), .int (nI j - 99), .int (nI (sh_cb (fun w => fit w && decide (min 60 (j + (p + l) - 99) ≤ w)) 60 0)), .int (nI 60)] [] h := by
  intro t
  induction t with
  | zero =>
    intro k e
    rw [show k = 60 by omega]
  | succ t ih =>
    intro k e
    have hcb : nI (sh_cb (fun w => fit w && decide (min 60 (j + (p + l) - 99) ≤ w)) k 0) + sh_i (fit k && decide (min 60 (j + (p + l) - 99) ≤ k)) = nI (sh_cb (fun w => fit w && decide (min 60 (j + (p + l) - 99) ≤ w)) (k + 1) 0) := by
      have := sh_cb_split (fun w => fit w && decide (min 60 (j + (p + l) - 99) ≤ w)) k 1 0
      rw [this, Nat.zero_add]
      show _ = nI (_ + ((match (fit k && decide (min 60 (j + (p + l) - 99) ≤ k)) with
        | true => 1
        | false => 0) + 0))
      cases (fit k && decide (min 60 (j + (p + l) - 99) ≤ k))
      · exact Int32.add_zero _
      · exact nI_1 _
    have R := ih (k + 1) (by omega)
    rw [← hcb] at R
    rw [eX7_looks_r44_93, if_neg (show ¬ (59 : Int32) < nI k from nI_nlt (b := k) (a := 59) (by omega) (by omega)), sh_inb (show k < 60 by omega) (by decide), nI_clamp (by omega), hw k (by omega)]
    simp only [cond_true, nI_1, c_flag0, c_flag1, Option.bind_some]
    cases hf : fit k
    · rw [hf] at R
      rw [if_pos (show sh_i false = 0 from rfl)]
      exact R
    · rw [hf, Bool.true_and] at R
      rw [if_neg (show ¬ sh_i true = 0 by decide), c_lacks _ i r _ _ h hi hv, ep, el, sh_lk99 (by omega) hp hl hj]
      simp only [Option.bind_some]
      cases hd : decide (min 60 (j + (p + l) - 99) ≤ k)
      · rw [hd] at R
        rw [if_pos (show sh_i false = 0 from rfl)]
        exact R
      · rw [hd, show sh_i true = 1 from rfl, nI_1] at R
        rw [if_neg (show ¬ sh_i true = 0 by decide)]
        exact R
theorem t_look_in (d L i p l : Nat) (r : Nat → Int32) (fit : Nat → Bool) (ρ : Nat → Nat) (h : av_M) (hi : i < 7) (hv : sh_MV 48 h r) (hL : L = sh_cb fit 60 0) (hw : ∀ i, i < 60 → h 63 i = sh_i (fit i)) (hp : p ≤ 9) (hl : l ≤ 9999) (ep : r (14 + i) = nI p) (el : r (21 + i) = nI l) (hρ : ρ i = p + l) : ∀ t j (o : Option (Nat × Nat)) (x1 x2 : Value), j + t = 199 → ((x1 = .null ∧ x2 = .null) ∨ (∃ (y1 : Int32) (y2 : Int32), x1 = .int y1 ∧ x2 = .int y2)) → sh_aI L o →
    ∃ x1' x2', ((x1' = .null ∧ x2' = .null) ∨ (∃ (y1 : Int32) (y2 : Int32), x1' = .int y1 ∧ x2' = .int y2)) ∧ sh_aI L (sh_lp (sh_lkI fit L ρ i) t j o) ∧ av_xp (d + 22) 247 80 [.ref 44, .int (nI L), .int (sh_ab (-1) o), .int (sh_af 1000000 o), .int (nI i), .int (nI j - 99), x1, x2] [] h = av_xp (d + 22) 247 80 [.ref 44, .int (nI L), .int (sh_ab (-1) (sh_lp (sh_lkI fit L ρ i) t j o)), .int (sh_af 1000000 (sh_lp (sh_lkI fit L ρ i) t j o)), .int (nI i), .int (nI 199 - 99), x1', x2'] [] h := by
  have hL60 : L ≤ 60 := by rw [hL]; exact sh_cb_le _ _ _
  intro t
  induction t with
  | zero =>
    intro j o x1 x2 e hx hI
    rw [show j = 199 by omega]
    exact ⟨x1, x2, hx, hI, rfl⟩
  | succ t ih =>
    intro j o x1 x2 e hx hI
    have hle := sh_lo2_le fit (ρ i) j
    have hm := sh_mo2_le (L := L) (so := sh_lo2 fit (ρ i) j) (by omega)
    have Y := t_yes_l d i j p l r fit (nI L) (sh_ab (-1) o) (sh_af 1000000 o) h hi hv hw hp hl ep el (by omega) 60 0 (by omega)
    rw [sh_lo2_eq fit _ (by omega), ← hρ, show sh_cb fit (60 - min 60 (j + ρ i - 99)) (min 60 (j + ρ i - 99)) = sh_lo2 fit (ρ i) j from rfl] at Y
    rw [mX7_looks_r44_80 _ _ _ _ _ _ _ _ _ hx, if_neg (fun q => by have := (sh_v99 j (by omega)).mp q; omega)]
    have Y2 : av_xp (d + 22) 247 93 [.ref 44, .int (nI L), .int (sh_ab (-1) o), .int (sh_af 1000000 o), .int (nI i), .int (nI j - 99), .int 0, .int 0] [] h = av_xp (d + 22) 247 93 [.ref 44, .int (nI L), .int (sh_ab (-1) o), .int (sh_af 1000000 o), .int (nI i), .int (nI j - 99), .int (nI (sh_lo2 fit (ρ i) j)), .int (nI 60)] [] h := Y
    rw [Y2, eX7_looks_r44_93, if_pos (show (59 : Int32) < nI 60 by decide), sh_most (by omega) (by omega), sh_vS]
    have step : sh_lp (sh_lkI fit L ρ i) (t + 1) j o = sh_lp (sh_lkI fit L ρ i) t (j + 1) (sh_am (sh_mo2 L (sh_lo2 fit (ρ i) j)) (200 * i + j) o) := rfl
    rw [step]
    have h0 : ¬ (1000000 : Int32) ≤ nI (sh_mo2 L (sh_lo2 fit (ρ i) j)) := sh_lt (n := 1000000) (by omega) (by decide)
    have hI2 := sh_am_I (b := 200 * i + j) hm hI
    obtain ⟨t1, t2⟩ := sh_am_t (200 * i + j) hm (by omega) h0 hI
    rw [sh_am_min (200 * i + j) hm (by omega) h0 hI]
    by_cases q : sh_af 1000000 o ≤ nI (sh_mo2 L (sh_lo2 fit (ρ i) j))
    · rw [if_pos q, t1 q]
      exact ih (j + 1) o _ _ (by omega) (Or.inr ⟨_, _, rfl, rfl⟩) hI
    · rw [t2 q] at hI2 ⊢
      rw [if_neg q, sh_vB, show (200 : Int32) * nI i + nI j = nI (200 * i + j) by rw [show (200 : Int32) * nI i = nI (200 * i) from nI_mul 200 i, nI_add]]
      exact ih (j + 1) (some (sh_mo2 L (sh_lo2 fit (ρ i) j), 200 * i + j)) _ _ (by omega) (Or.inr ⟨_, _, rfl, rfl⟩) hI2
theorem t_look_l (d n L : Nat) (r : Nat → Int32) (fit : Nat → Bool) (ρ : Nat → Nat) (h : av_M) (hn : n ≤ 7) (hm : h 44 3 = nI n) (hv : sh_MV 48 h r) (hL : L = sh_cb fit 60 0) (hρ : ∀ i, i < 7 → ∃ p l, p ≤ 9 ∧ l ≤ 9999 ∧ r (14 + i) = nI p ∧ r (21 + i) = nI l ∧ ρ i = p + l) (hw : ∀ i, i < 60 → h 63 i = sh_i (fit i)) : ∀ t i (o : Option (Nat × Nat)) (x1 x2 x3 : Value), i + t = n → sh_x3 x1 x2 x3 → sh_aI L o → sh_lp (sh_lkO fit L ρ) t i o ≠ none →
    ∃ h', av_xp (d + 22) 247 67 [.ref 44, .int (nI L), .int (sh_ab (-1) o), .int (sh_af 1000000 o), .int (nI i), x1, x2, x3] [] h = some (nI (sh_oz (sh_lp (sh_lkO fit L ρ) t i o)).2, 0, h') ∧ sh_m h h' ∧ sh_t2 [Int32.toInt64 (nI (sh_oz (sh_lp (sh_lkO fit L ρ) t i o)).1)] h' := by
  intro t
  induction t with
  | zero =>
    intro i o x1 x2 x3 e hx hI hne
    rw [mX7_looks_r44_67 _ _ _ _ _ _ _ _ _ hx, hm, if_pos (sh_ge (by omega) (by omega))]
    cases o with
    | none => exact absurd rfl hne
    | some z =>
      obtain ⟨h2, e2, m2, f2, t2⟩ := c_ent1 (d + 21) (av_u h 44 1 0) (Int32.toInt64 (nI z.1)) rfl
      rw [show sh_af 1000000 (some z) = nI z.1 from rfl, e2]
      exact ⟨h2, rfl, sh_m_tr (sh_m_s (k := 1) (v := 0) (by decide) (sh_m_refl h)) m2, t2⟩
  | succ t ih =>
    intro i o x1 x2 x3 e hx hI hne
    obtain ⟨p, l, hp, hl, ep, el, eρ⟩ := hρ i (by omega)
    obtain ⟨y1, y2, hy, hI2, e1⟩ := t_look_in d L i p l r fit ρ h (by omega) hv hL hw hp hl ep el eρ 199 0 o x2 x3 (by omega) (sh_x32 hx) hI
    rw [mX7_looks_r44_67 _ _ _ _ _ _ _ _ _ hx, hm, if_neg (sh_lt (by omega) (by omega)), show (-99 : Int32) = nI 0 - 99 by decide, e1, mX7_looks_r44_80 _ _ _ _ _ _ _ _ _ hy, if_pos (show (99 : Int32) < nI 199 - 99 by decide), nI_1]
    exact ih (i + 1) (sh_lkO fit L ρ i o) _ y1 y2 (by omega) (sh_x23 hy) hI2 hne
theorem sh_lk_ne {fit : Nat → Bool} {L : Nat} {ρ : Nat → Nat} {i : Nat} : ∀ t j (o : Option (Nat × Nat)), (1 ≤ t ∨ o ≠ none) → sh_lp (sh_lkI fit L ρ i) t j o ≠ none := by
  intro t
  induction t with
  | zero => intro j o h; rcases h with h | h; (· omega); (· exact h)
  | succ t ih => intro j o _; exact ih (j + 1) _ (Or.inr (sh_am_some _ _ _))
theorem sh_lkO_ne {fit : Nat → Bool} {L : Nat} {ρ : Nat → Nat} : ∀ t i (o : Option (Nat × Nat)), (1 ≤ t ∨ o ≠ none) → sh_lp (sh_lkO fit L ρ) t i o ≠ none := by
  intro t
  induction t with
  | zero => intro i o h; rcases h with h | h; (· omega); (· exact h)
  | succ t ih => intro i o _; exact ih (i + 1) _ (Or.inr (sh_lk_ne 199 0 o (Or.inl (by omega))))
theorem c_looks : sh_P 86 247 [] := sh_qF fun d N n m L0 r h F E hF => by
  obtain ⟨a1, a2, a3, a4, a5, a6, a7, a8⟩ := id E.1.1
  obtain ⟨s, s1, s2, s3, s4, s5⟩ := id E.1.2.2.2.2.2.1
  have hS : sh_SF n s (h 60) (h 61) (h 62) := ⟨s1, fun i hi => (s5 i hi).2.2.2⟩
  obtain ⟨fit, hfit⟩ : ∃ fit : Nat → Bool, fit = fun w => sh_ev (sh_so r (h 60) (h 61) (h 62) (nI w)) s 0 := ⟨_, rfl⟩
  obtain ⟨L, hL⟩ : ∃ L, L = sh_cb fit 60 0 := ⟨_, rfl⟩
  have hL60 : L ≤ 60 := by rw [hL]; exact sh_cb_le _ _ _
  obtain ⟨h1, e1, f1, w1⟩ := f_ways_l (d + 76) n s r (h 60) (h 61) (h 62) fit hfit a1 hS 60 (av_u h 42 60 0) (by omega) (sh_SV5 (S := [42]) (sh_fr_u (by decide) (sh_fr_refl _ _)) (by decide) a4) s3 (fun i hi => ⟨(s5 i hi).1, (s5 i hi).2.1, (s5 i hi).2.2.1⟩) (fun i i1 i2 => by
    have : i = 60 := by omega
    subst this
    rw [av_u_eq, upd_s]
    rfl)
  have g1 : sh_fr [42] h h1 := sh_fr_tr (sh_fr_u (by decide) (sh_fr_refl _ _)) f1 (fun _ q => q)
  have eX1 : av_x (d + 99) 140 [.ref 0] h = some (nI L, 0, h1) := by
    rw [eX6_countWaysFrom_r0_in, hL]
    exact e1
  have eM1 : ∀ h' : av_M, sh_c h h' → sh_R0 N n r h' → ∃ h2, av_x (d + 100) 247 [.ref 44] h' = (if nI L = 0 then some (-2, 0, h2) else if nI n = 0 then some (-2, 0, h2) else av_xp (d + 99) 247 67 [.ref 44, .int (nI L), .int (-1), .int 1000000, .int (nI 0), .null, .null, .null] [] h2) ∧ sh_m h' h2 ∧ h2 44 1 = h' 44 1 ∧ h2 45 = h' 45 ∧ (∀ i, i < 60 → h2 63 i = sh_i (fit i)) := by
    intro h' hc h0'
    have q60 : h' 60 = h 60 := hc 60 (by decide)
    have q61 : h' 61 = h 61 := hc 61 (by decide)
    have q62 : h' 62 = h 62 := hc 62 (by decide)
    obtain ⟨b1, b2, b3, b4, b5, b6, b7, b8⟩ := id h0'.1
    obtain ⟨h2, e2, f2, w2⟩ := t_left_l (d + 77) n s r (h 60) (h 61) (h 62) fit hfit a1 hS 60 0 (av_u h' 44 0 0) (by omega) b6 (by show h' 44 28 = nI s; rw [hc 44 (by decide)]; exact s4) q60 q61 q62 (fun i hi => absurd hi (by omega))
    refine ⟨h2, ?_, sh_m_tr (sh_m_s (k := 0) (v := 0) (by decide) (sh_m_refl h')) (sh_m_of f2 (by decide)), by rw [f2 44 (by decide)]; rfl, by rw [f2 45 (by decide)]; rfl, w2⟩
    rw [eX7_looks_r44_in]
    refine e2.trans ?_
    rw [eX7_looks_r44_9, if_pos (show (59 : Int32) < nI 60 by decide), ← hL, show h2 44 3 = nI n by rw [f2 44 (by decide)]; exact b5]
    rfl
  by_cases hz : L = 0 ∨ n = 0
  · refine ⟨-2, none, fun _ q => (nomatch q), ⟨h1, ?_, sh_c_of g1 (by decide), by rw [g1 3 (by decide)], g1 4 (by decide)⟩, ?_⟩
    · rw [eX6_looks_r0_in, eX1]
      simp only [Option.bind_some]
      rcases hz with hz | hz
      · rw [if_pos (show nI L = 0 by rw [hz]; rfl)]
      · by_cases hl : nI L = 0
        · rw [if_pos hl]
        · rw [if_neg hl, g1 5 (by decide), a2, if_pos (show nI n = 0 by rw [hz]; rfl)]
    · intro h' hc E' hF'
      obtain ⟨h2, e2, m2, q1, q2, _⟩ := eM1 h' hc E'.1
      refine ⟨h2, ?_, m2, q1, q2⟩
      rw [e2]
      rcases hz with hz | hz
      · rw [if_pos (show nI L = 0 by rw [hz]; rfl)]
      · by_cases hl : nI L = 0
        · rw [if_pos hl]
        · rw [if_neg hl, if_pos (show nI n = 0 by rw [hz]; rfl)]
  · have hLp : 0 < L := by omega
    have hnp : 0 < n := by omega
    obtain ⟨ρ, hρ⟩ : ∃ ρ : Nat → Nat, ∀ i, i < 7 → ∃ p l, p ≤ 9 ∧ l ≤ 9999 ∧ r (14 + i) = nI p ∧ r (21 + i) = nI l ∧ ρ i = p + l := by
      refine ⟨fun i => (r (14 + i)).toNatClampNeg + (r (21 + i)).toNatClampNeg, fun i hi => ?_⟩
      obtain ⟨p, p1, p2, p3⟩ := sh_B_nat (N := 9) (a8.1 i hi).2.2.1
      obtain ⟨l, l1, l2, l3⟩ := sh_B_nat (N := 9999) (a8.1 i hi).2.2.2
      refine ⟨p, l, p1, l1, p3, l3, ?_⟩
      dsimp only
      rw [p3, l3, nI_clamp (by omega), nI_clamp (by omega)]
    have hρ2 : ∀ i, i < 7 → r (14 + i) + r (21 + i) = nI (ρ i) ∧ ρ i < 10100 := by
      intro i hi
      obtain ⟨p, l, p1, l1, p2, l2, q⟩ := hρ i hi
      exact ⟨by rw [p2, l2, q, nI_add], by omega⟩
    obtain ⟨O, hO⟩ : ∃ O, O = sh_lp (sh_lkO fit L ρ) n 0 none := ⟨_, rfl⟩
    have hne : sh_lp (sh_lkO fit L ρ) n 0 none ≠ none := sh_lkO_ne n 0 none (Or.inl hnp)
    refine ⟨nI (sh_oz O).2, some [Int32.toInt64 (nI (sh_oz O).1)], fun l q => by injection q with q; subst q; simp, ?_, ?_⟩
    · have K := f_look_l (d + 77) n L r fit ρ h1 a1 (by rw [g1 5 (by decide)]; exact a2) (sh_SV5 g1 (by decide) a4) hL hρ2 w1 n 0 none .null .null .null (by omega) (Or.inl ⟨rfl, rfl, rfl⟩) (fun z q => (nomatch q)) hne
      rw [← hO] at K
      obtain ⟨h2, e2, c2, t2⟩ := K
      refine ⟨h2, ?_, sh_c_tr (sh_c_of g1 (by decide)) c2, t2⟩
      rw [eX6_looks_r0_in, eX1]
      simp only [Option.bind_some]
      rw [if_neg (nI_ne0 hLp (by omega)), g1 5 (by decide), a2, if_neg (nI_ne0 hnp (by omega)), nI_1]
      exact e2
    · intro h' hc E' hF'
      obtain ⟨b1, b2, b3, b4, b5, b6, b7, b8⟩ := id E'.1.1
      obtain ⟨h2, e2, m2, q1, q2, w2⟩ := eM1 h' hc E'.1
      have K := t_look_l (d + 77) n L r fit ρ h2 a1 (by rw [m2.2 3 (by decide) (by decide)]; exact b5) (fun i hi => by rw [m2.1 48 (by decide) (by decide)]; exact b6 i hi) hL hρ w2 n 0 none .null .null .null (by omega) (Or.inl ⟨rfl, rfl, rfl⟩) (fun z q => (nomatch q)) hne
      rw [← hO] at K
      obtain ⟨h3, e3, c3, t3⟩ := K
      refine ⟨h3, ?_, sh_m_tr m2 c3, t3⟩
      rw [e2, if_neg (nI_ne0 hLp (by omega)), if_neg (nI_ne0 hnp (by omega))]
      exact e3
