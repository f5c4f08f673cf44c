/-! PURE, 29: calls: stopped, order -/
theorem sh_hr_way {n : Nat} (hn : n ≤ 7) {col str : Nat → Int32} {rl : (Nat → Int32) → Int32} {r : Nat → Int32} (hs : ∀ j, j < n → sh_B 0 99 (str j)) (h : sh_G n r) : (r 30).toInt ≤ (sh_hr n col str rl r 30).toInt := by
  have hpo := sh_G_pos (n := n) (H := sh_hd n r) n 0 r (by omega) h
  have h30 : sh_lp (sh_poF (sh_hd n r)) n 0 r 30 = r 30 := sh_po_hi (by decide) n 0 r (by omega)
  unfold sh_hr
  try dsimp only
  generalize sh_lp (sh_poF (sh_hd n r)) n 0 r = r1 at hpo h30 ⊢
  obtain ⟨g1, g2, g3, g4, g5⟩ := hpo
  have hw0 : sh_B 0 (693 : Nat) (sh_w n str (sh_tt n r1)) := by
    obtain ⟨b1, b2⟩ := sh_w_B str (sh_tt n r1) n hn hs
    exact ⟨b1, by unfold sh_w; omega⟩
  have hw := sh_div5_B hw0 (by decide)
  generalize sh_w n str (sh_tt n r1) / 5 = w at hw ⊢
  have e1 : (r1 31 - w).toInt = (r1 31).toInt - w.toInt := sh_B_sub g3 hw (by omega) (by decide)
  have m1 : sh_B 0 9 (av_max 0 (r1 31 - w)) := by
    unfold sh_B
    rw [sh_max_toInt, e1, show (0 : Int32).toInt = 0 by decide]
    have := g3.1; have := g3.2; have := hw.1
    omega
  have e2 : (r1 30 + av_max 0 (r1 31 - w)).toInt = (r1 30).toInt + (av_max 0 (r1 31 - w)).toInt := sh_B_add g2 m1 (by decide) (by decide)
  have key : (r1 30).toInt ≤ (av_min 9999 (r1 30 + av_max 0 (r1 31 - w))).toInt := by
    rw [sh_min_toInt, e2, sh_9999]
    have := g2.2; have := m1.1
    omega
  rw [h30] at key
  rw [h30]
  exact key
theorem t_way {N n m L : Nat} {r ρ : Nat → Int32} {h : av_M} {F : (Nat → Int32) → (Nat → Int32)} (E : sh_En N n m L r h) (hF : F = sh_F n m h) (hG : sh_G n ρ) : ρ 30 < F ρ 30 ↔ ¬ F ρ 30 = ρ 30 := by
  have := sh_hr_way E.1.1.1 (col := h 46) (rl := sh_rl m (h 20)) (fun j hj => (E.1.1.2.2.2.2.2.2.1 j hj).2.2) hG
  have hk : (ρ 30).toInt ≤ (F ρ 30).toInt := by rw [hF]; exact this
  rw [Int32.lt_iff_toInt_lt, ← Int32.toInt_inj]
  omega
def sh_sp (F : (Nat → Int32) → (Nat → Int32)) (k : Nat) (z : (Nat → Int32) × Option (Nat × Int32 × Nat)) : (Nat → Int32) × Option (Nat × Int32 × Nat) :=
  (F z.1, if F z.1 30 = z.1 30 then (match z.2 with
    | none => some (k, F z.1 30, 1)
    | some y => some (y.1, y.2.1, y.2.2 + 1)) else z.2)
def sh_sA (c0 : Int32) (o : Option (Nat × Int32 × Nat)) : Int32 := match o with
  | none => c0
  | some y => nI y.1
def sh_sW (o : Option (Nat × Int32 × Nat)) : Int32 := match o with
  | none => 0
  | some y => y.2.1
def sh_sC (o : Option (Nat × Int32 × Nat)) : Int32 := match o with
  | none => 0
  | some y => nI y.2.2
def sh_sL (o : Option (Nat × Int32 × Nat)) : Option (List Int64) := match o with
  | none => none
  | some y => some [Int32.toInt64 (nI y.2.2), Int32.toInt64 y.2.1]
theorem sh_sC0 {o : Option (Nat × Int32 × Nat)} (hI : ∀ y, o = some y → 1 ≤ y.2.2 ∧ y.2.2 < 1000) : sh_sC o = 0 ↔ o = none := by
  cases o with
  | none => exact ⟨fun _ => rfl, fun _ => rfl⟩
  | some y =>
    obtain ⟨h1, h2⟩ := hI y rfl
    refine ⟨fun q => absurd q (nI_ne0 (by omega) (by omega)), fun q => (nomatch q)⟩
def sh_j1 (x : Value) : Prop := x = .null ∨ ∃ y, x = .int y
theorem f_stop_l (d : Nat) {N n m L : Nat} {r : Nat → Int32} {h : av_M} {F : (Nat → Int32) → (Nat → Int32)} (E : sh_En N n m L r h) (hF : F = sh_F n m h) : ∀ t k (h1 : av_M) (ρ : Nat → Int32) (o : Option (Nat × Int32 × Nat)) (x : Value), k + t = 100 → sh_j1 x → (∀ y, o = some y → 1 ≤ y.2.2 ∧ y.2.2 ≤ k) → sh_G n ρ → sh_fut n h ρ h1 → h1 3 = h 3 → h1 4 = h 4 →
    ∃ h', av_xp (d + 20) 70 20 [.ref 0, .int (sh_sA 0 o), .int (sh_sW o), .int (sh_sC o), .int (nI k), x] [] h1 = some (sh_sA (-2) (sh_lp (sh_sp F) t k (ρ, o)).2, 0, h') ∧ sh_c h h' ∧ sh_o1 (sh_sL (sh_lp (sh_sp F) t k (ρ, o)).2) h h' := by
  intro t
  induction t with
  | zero =>
    intro k h1 ρ o x e hx hI hG hf e3 e4
    have eq : av_xp (d + 20) 70 20 [.ref 0, .int (sh_sA 0 o), .int (sh_sW o), .int (sh_sC o), .int (nI k), x] [] h1 = (if sh_sC o = 0 then some (((-2) : Int32), (0 : Int64), h1) else ((av_x (d + 20) 111 [.ref 0, .long (Int32.toInt64 (sh_sC o)), .long (Int32.toInt64 (sh_sW o))] h1).bind fun q1 => some (sh_sA 0 o, (0 : Int64), q1.2.2))) := by
      rcases hx with rfl | ⟨y, rfl⟩
      · rw [eX6_stopped_r0_20, if_pos (show (99 : Int32) < nI k from nI_lt (a := 99) (by omega) (by omega))]
      · rw [eX6_stopped_r0_20_2, if_pos (show (99 : Int32) < nI k from nI_lt (a := 99) (by omega) (by omega))]
    rw [eq]
    cases o with
    | none =>
      rw [if_pos (show sh_sC none = 0 from rfl)]
      exact ⟨h1, rfl, hf.1, by rw [e3], e4⟩
    | some y =>
      obtain ⟨i1, i2⟩ := hI y rfl
      rw [if_neg (show ¬ sh_sC (some y) = 0 from nI_ne0 (by omega) (by omega))]
      obtain ⟨h2, e2, f2, t2⟩ := c_tell2 (d + 18) h1 (Int32.toInt64 (sh_sC (some y))) (Int32.toInt64 (sh_sW (some y)))
      rw [e2]
      exact ⟨h2, rfl, (f_t1 f2 rfl hf).1, t2⟩
  | succ t ih =>
    intro k h1 ρ o x e hx hI hG hf e3 e4
    obtain ⟨h2, e2, f2, q3, q4⟩ := f_hour (d + 15) E hF hf
    have w1 : h1 12 10 = ρ 30 := hf.2.2.2.1.2.2.2.2.2.2.1
    have w2 : h2 12 10 = F ρ 30 := f2.2.2.2.1.2.2.2.2.2.2.1
    have eq : av_xp (d + 20) 70 20 [.ref 0, .int (sh_sA 0 o), .int (sh_sW o), .int (sh_sC o), .int (nI k), x] [] h1 = (if ρ 30 < F ρ 30 then av_xp (d + 20) 70 20 [.ref 0, .int (sh_sA 0 o), .int (sh_sW o), .int (sh_sC o), .int (nI (k + 1)), .int (ρ 30)] [] h2 else (if (sh_sC o + 1) = 1 then av_xp (d + 20) 70 20 [.ref 0, .int (nI k), .int (F ρ 30), .int (sh_sC o + 1), .int (nI (k + 1)), .int (ρ 30)] [] h2 else av_xp (d + 20) 70 20 [.ref 0, .int (sh_sA 0 o), .int (sh_sW o), .int (sh_sC o + 1), .int (nI (k + 1)), .int (ρ 30)] [] h2)) := by
      rcases hx with rfl | ⟨y, rfl⟩
      · rw [eX6_stopped_r0_20, if_neg (show ¬ (99 : Int32) < nI k from nI_nlt (b := k) (a := 99) (by omega) (by omega)), e2]
        simp only [Option.bind_some, nI_1]
        rw [w1, w2]
      · rw [eX6_stopped_r0_20_2, if_neg (show ¬ (99 : Int32) < nI k from nI_nlt (b := k) (a := 99) (by omega) (by omega)), e2]
        simp only [Option.bind_some, nI_1]
        rw [w1, w2]
    rw [eq]
    have step : sh_lp (sh_sp F) (t + 1) k (ρ, o) = sh_lp (sh_sp F) t (k + 1) (sh_sp F k (ρ, o)) := rfl
    rw [step]
    have hG2 := t_G E hF hG
    by_cases hw : F ρ 30 = ρ 30
    · rw [if_neg (fun q => (t_way E hF hG).mp q hw)]
      cases o with
      | none =>
        have es : sh_sp F k (ρ, none) = (F ρ, some (k, F ρ 30, 1)) := by unfold sh_sp; simp only [if_pos hw]
        rw [es, if_pos (show sh_sC none + 1 = 1 by decide)]
        exact ih (k + 1) h2 (F ρ) (some (k, F ρ 30, 1)) _ (by omega) (Or.inr ⟨_, rfl⟩) (fun y q => by injection q with q; subst q; simp) hG2 f2 (by rw [q3, e3]) (by rw [q4, e4])
      | some y =>
        obtain ⟨i1, i2⟩ := hI y rfl
        have es : sh_sp F k (ρ, some y) = (F ρ, some (y.1, y.2.1, y.2.2 + 1)) := by unfold sh_sp; simp only [if_pos hw]
        have ec : sh_sC (some y) + 1 = nI (y.2.2 + 1) := nI_1 y.2.2
        rw [es, ec, if_neg (show ¬ nI (y.2.2 + 1) = 1 from fun q => by have := (nI_eq (b := 1) (by omega) (by decide)).mp q; omega)]
        exact ih (k + 1) h2 (F ρ) (some (y.1, y.2.1, y.2.2 + 1)) _ (by omega) (Or.inr ⟨_, rfl⟩) (fun z q => by injection q with q; subst q; exact ⟨by simp, by simp; omega⟩) hG2 f2 (by rw [q3, e3]) (by rw [q4, e4])
    · rw [if_pos ((t_way E hF hG).mpr hw)]
      have es : sh_sp F k (ρ, o) = (F ρ, o) := by unfold sh_sp; simp only [if_neg hw]
      rw [es]
      exact ih (k + 1) h2 (F ρ) o _ (by omega) (Or.inr ⟨_, rfl⟩) (fun y q => by have := hI y q; omega) hG2 f2 (by rw [q3, e3]) (by rw [q4, e4])
theorem t_stop_l (d : Nat) {N n m L : Nat} {r : Nat → Int32} {h : av_M} {F : (Nat → Int32) → (Nat → Int32)} (E : sh_En N n m L r h) (hF : F = sh_F n m h) : ∀ t k (h1 : av_M) (ρ : Nat → Int32) (o : Option (Nat × Int32 × Nat)) (x x' : Value), k + t = 100 → (x = .null ∧ x' = .null ∨ ∃ y y', x = .int y ∧ x' = .int y') → (∀ y, o = some y → 1 ≤ y.2.2 ∧ y.2.2 ≤ k) → sh_th n h ρ h1 → h1 44 1 = h 44 1 → h1 45 = h 45 →
    ∃ h', av_xp (d + 20) 222 26 [.ref 44, .int (sh_sA (-2) o), .int (sh_sC o), .int (sh_sW o), .int (nI k), x, x'] [] h1 = some (sh_sA (-2) (sh_lp (sh_sp F) t k (ρ, o)).2, 0, h') ∧ sh_m h h' ∧ sh_o2 (sh_sL (sh_lp (sh_sp F) t k (ρ, o)).2) h h' := by
  intro t
  induction t with
  | zero =>
    intro k h1 ρ o x x' e hx hI hf e3 e4
    have eq : av_xp (d + 20) 222 26 [.ref 44, .int (sh_sA (-2) o), .int (sh_sC o), .int (sh_sW o), .int (nI k), x, x'] [] h1 = (if sh_sC o ≤ 0 then some ((sh_sA (-2) o : Int32), (0 : Int64), h1) else ((av_x (d + 20) 162 [.ref 44, .long (Int32.toInt64 (sh_sC o))] (av_u h1 44 1 0)).bind fun q1 => ((av_x (d + 20) 162 [.ref 44, .long (Int32.toInt64 (sh_sW o))] q1.2.2).bind fun q2 => some ((sh_sA (-2) o : Int32), (0 : Int64), q2.2.2)))) := by
      rcases hx with ⟨rfl, rfl⟩ | ⟨y, y', rfl, rfl⟩
      · rw [eX7_stopped_r44_26, if_pos (show (99 : Int32) < nI k from nI_lt (a := 99) (by omega) (by omega))]
      · rw [eX7_stopped_r44_26_2, if_pos (show (99 : Int32) < nI k from nI_lt (a := 99) (by omega) (by omega))]
    rw [eq]
    cases o with
    | none =>
      rw [if_pos (show sh_sC none ≤ 0 by decide)]
      exact ⟨h1, rfl, hf.1, e3, e4⟩
    | some y =>
      obtain ⟨i1, i2⟩ := hI y rfl
      rw [if_neg (show ¬ sh_sC (some y) ≤ 0 from nI_nle (by omega) (by omega))]
      obtain ⟨h2, e2, m2, f2, t2⟩ := c_ent1 (d + 19) (av_u h1 44 1 0) (Int32.toInt64 (sh_sC (some y))) rfl
      rw [e2]
      simp only [Option.bind_some]
      obtain ⟨h3, e3', m3, f3, t3⟩ := c_enters (d + 19) h2 _ (Int32.toInt64 (sh_sW (some y))) (by simp) t2
      rw [e3']
      exact ⟨h3, rfl, (t_m m3 f3 (t_m m2 f2 (t_s (k := 1) (v := 0) (by decide) hf))).1, t3⟩
  | succ t ih =>
    intro k h1 ρ o x x' e hx hI hf e3 e4
    obtain ⟨h2, e2, f2, q3, q4⟩ := t_hour (d + 15) E hF hf
    have w1 : h1 49 30 = ρ 30 := hf.2.1 30 (by decide)
    have w2 : h2 49 30 = F ρ 30 := f2.2.1 30 (by decide)
    have eq : av_xp (d + 20) 222 26 [.ref 44, .int (sh_sA (-2) o), .int (sh_sC o), .int (sh_sW o), .int (nI k), x, x'] [] h1 = (if F ρ 30 = ρ 30 then (if sh_sC o = 0 then av_xp (d + 20) 222 26 [.ref 44, .int (nI k), .int (sh_sC o + 1), .int (ρ 30), .int (nI (k + 1)), .int (ρ 30), .int 1] [] h2 else av_xp (d + 20) 222 26 [.ref 44, .int (sh_sA (-2) o), .int (sh_sC o + 1), .int (sh_sW o), .int (nI (k + 1)), .int (ρ 30), .int 1] [] h2) else av_xp (d + 20) 222 26 [.ref 44, .int (sh_sA (-2) o), .int (sh_sC o + 0), .int (sh_sW o), .int (nI (k + 1)), .int (ρ 30), .int 0] [] h2) := by
      rcases hx with ⟨rfl, rfl⟩ | ⟨y, y', rfl, rfl⟩
      · rw [eX7_stopped_r44_26, if_neg (show ¬ (99 : Int32) < nI k from nI_nlt (b := k) (a := 99) (by omega) (by omega)), e2]
        simp only [Option.bind_some, nI_1, c_flag1, c_flag0]
        rw [w1, w2]
        by_cases hc : sh_sC o = 0
        · simp only [if_pos hc]
        · simp only [if_neg hc]
      · rw [eX7_stopped_r44_26_2, if_neg (show ¬ (99 : Int32) < nI k from nI_nlt (b := k) (a := 99) (by omega) (by omega)), e2]
        simp only [Option.bind_some, nI_1, c_flag1, c_flag0]
        rw [w1, w2]
        by_cases hc : sh_sC o = 0
        · simp only [if_pos hc]
        · simp only [if_neg hc]
    rw [eq]
    have step : sh_lp (sh_sp F) (t + 1) k (ρ, o) = sh_lp (sh_sp F) t (k + 1) (sh_sp F k (ρ, o)) := rfl
    rw [step]
    by_cases hw : F ρ 30 = ρ 30
    · rw [if_pos hw]
      cases o with
      | none =>
        have es : sh_sp F k (ρ, none) = (F ρ, some (k, F ρ 30, 1)) := by unfold sh_sp; simp only [if_pos hw]
        rw [es, if_pos (show sh_sC none = 0 by decide)]
        have := ih (k + 1) h2 (F ρ) (some (k, F ρ 30, 1)) (.int (ρ 30)) (.int 1) (by omega) (Or.inr ⟨_, _, rfl, rfl⟩) (fun y q => by injection q with q; subst q; simp) f2 (by rw [q3, e3]) (by rw [q4, e4])
        rw [show sh_sW (some (k, F ρ 30, 1)) = ρ 30 from hw] at this
        exact this
      | some y =>
        obtain ⟨i1, i2⟩ := hI y rfl
        have es : sh_sp F k (ρ, some y) = (F ρ, some (y.1, y.2.1, y.2.2 + 1)) := by unfold sh_sp; simp only [if_pos hw]
        have ec : sh_sC (some y) + 1 = nI (y.2.2 + 1) := nI_1 y.2.2
        rw [es, ec, if_neg (show ¬ sh_sC (some y) = 0 from nI_ne0 (by omega) (by omega))]
        exact ih (k + 1) h2 (F ρ) (some (y.1, y.2.1, y.2.2 + 1)) _ _ (by omega) (Or.inr ⟨_, _, rfl, rfl⟩) (fun z q => by injection q with q; subst q; exact ⟨by simp, by simp; omega⟩) f2 (by rw [q3, e3]) (by rw [q4, e4])
    · rw [if_neg hw]
      have es : sh_sp F k (ρ, o) = (F ρ, o) := by unfold sh_sp; simp only [if_neg hw]
      rw [es, Int32.add_zero]
      exact ih (k + 1) h2 (F ρ) o _ _ (by omega) (Or.inr ⟨_, _, rfl, rfl⟩) (fun y q => by have := hI y q; omega) f2 (by rw [q3, e3]) (by rw [q4, e4])
theorem sh_sL_le (o : Option (Nat × Int32 × Nat)) : ∀ l, sh_sL o = some l → l.length ≤ 7 := by
  intro l q
  cases o with
  | none => cases q
  | some z =>
    injection q with q
    subst q
    simp
theorem c_stopped : sh_P 70 222 [] := sh_qF fun d N n m L r h F E hF => by
  refine ⟨sh_sA (-2) (sh_lp (sh_sp F) 99 1 (r, none)).2, sh_sL (sh_lp (sh_sp F) 99 1 (r, none)).2, sh_sL_le _, ?_, ?_⟩
  · obtain ⟨h1, e1, f1, q3, q4⟩ := f_copy (d + 98) E (sh_c_refl h)
    obtain ⟨h2, e2, f2, o2⟩ := f_stop_l (d + 79) E hF 99 1 h1 r none .null (by omega) (Or.inl rfl) (fun y q => (nomatch q)) E.1.1.2.2.2.2.2.2.2 f1 q3 q4
    refine ⟨h2, ?_, f2, o2⟩
    rw [eX6_stopped_r0_in, e1]
    exact e2
  · intro h' hc E' hF'
    obtain ⟨h1, e1, f1, q3, q4⟩ := t_copy (d + 98) E' (sh_m_s (k := 0) (v := 0) (by decide) (sh_m_refl h'))
    obtain ⟨h2, e2, f2, o2⟩ := t_stop_l (d + 79) E' hF' 99 1 h1 r none .null .null (by omega) (Or.inl ⟨rfl, rfl⟩) (fun y q => (nomatch q)) f1 (by rw [q3]; rfl) (by rw [q4]; rfl)
    refine ⟨h2, ?_, f2, o2⟩
    rw [eX7_stopped_r44_in, e1]
    exact e2
