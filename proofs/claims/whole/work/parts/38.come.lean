/-! PURE, 28: calls: hours to come -/
def sh_fd (P : (Nat → Int32) → Bool) (F : (Nat → Int32) → (Nat → Int32)) : Nat → Nat → (Nat → Int32) → Option (Nat × (Nat → Int32))
  | 0, _, _ => none
  | t + 1, k, ρ => match P ρ with
    | true => some (k, ρ)
    | false => sh_fd P F t (k + 1) (F ρ)
def sh_fa (o : Option (Nat × (Nat → Int32))) : Int32 := match o with
  | none => -2
  | some z => nI z.1
def sh_fo (g : (Nat → Int32) → List Int64) (o : Option (Nat × (Nat → Int32))) : Option (List Int64) := match o with
  | none => none
  | some z => some (g z.2)
def sh_lW (ρ : Nat → Int32) : List Int64 := [Int32.toInt64 (ρ 30)]
def sh_lWL (i : Nat) (ρ : Nat → Int32) : List Int64 := [Int32.toInt64 (ρ 30), Int32.toInt64 (ρ (21 + i))]
theorem f_when_l (d i : Nat) {N n m L : Nat} {r : Nat → Int32} {h : av_M} {F : (Nat → Int32) → (Nat → Int32)} (E : sh_En N n m L r h) (hF : F = sh_F n m h) (hi : i < n) : ∀ t k (h1 : av_M) (ρ : Nat → Int32), k + t = 100 → sh_fut n h ρ h1 → h1 3 = h 3 → h1 4 = h 4 →
    ∃ h', av_xp (d + 20) 67 26 [.ref 0, .int (nI i), .int (nI k)] [] h1 = some (sh_fa (sh_fd (fun ρ => !sh_b (sh_hd n ρ) i) F t k ρ), 0, h') ∧ sh_c h h' ∧ sh_o1 (sh_fo (sh_lWL i) (sh_fd (fun ρ => !sh_b (sh_hd n ρ) i) F t k ρ)) h h' := by
  have hn := E.1.1.1
  intro t
  induction t with
  | zero =>
    intro k h1 ρ e hf e3 e4
    rw [eX6_when_r0_26, if_pos (show (99 : Int32) < nI k from nI_lt (a := 99) (by omega) (by omega))]
    exact ⟨h1, rfl, hf.1, by rw [e3], e4⟩
  | succ t ih =>
    intro k h1 ρ e hf e3 e4
    rw [eX6_when_r0_26, if_neg (show ¬ (99 : Int32) < nI k from nI_nlt (b := k) (a := 99) (by omega) (by omega)), c_holds12 _ n h1 ρ i hf.2.2.1 hf.2.2.2.1]
    simp only [Option.bind_some]
    cases hb : sh_b (sh_hd n ρ) i
    · rw [if_pos (show sh_i false = 0 from rfl), sh_inb (show i < 7 by omega) (by decide)]
      simp only [cond_true]
      obtain ⟨h2, e2, f2, t2⟩ := c_tell2 (d + 18) h1 (Int32.toInt64 (h1 12 10)) (Int32.toInt64 (h1 18 (nI i).toNatClampNeg))
      rw [e2]
      have hfd : sh_fd (fun ρ => !sh_b (sh_hd n ρ) i) F (t + 1) k ρ = some (k, ρ) := by simp [sh_fd, hb]
      rw [hfd]
      refine ⟨h2, rfl, (f_t1 f2 rfl hf).1, ?_⟩
      rw [nI_clamp (by omega), hf.2.2.2.1.2.2.2.2.2.2.1, hf.2.2.2.1.2.2.2.1 i (by omega)] at t2
      exact t2
    · rw [if_neg (by decide)]
      obtain ⟨h2, e2, f2, q3, q4⟩ := f_hour (d + 15) E hF hf
      rw [e2]
      simp only [Option.bind_some, nI_1]
      have hfd : sh_fd (fun ρ => !sh_b (sh_hd n ρ) i) F (t + 1) k ρ = sh_fd (fun ρ => !sh_b (sh_hd n ρ) i) F t (k + 1) (F ρ) := by simp [sh_fd, hb]
      rw [hfd]
      exact ih (k + 1) h2 (F ρ) (by omega) f2 (by rw [q3, e3]) (by rw [q4, e4])
theorem t_when_l (d i : Nat) {N n m L : Nat} {r : Nat → Int32} {h : av_M} {F : (Nat → Int32) → (Nat → Int32)} (E : sh_En N n m L r h) (hF : F = sh_F n m h) (hi : i < n) : ∀ t k (h1 : av_M) (ρ : Nat → Int32), k + t = 100 → sh_th n h ρ h1 → h1 44 1 = h 44 1 → h1 45 = h 45 →
    ∃ h', av_xp (d + 20) 219 28 [.ref 44, .int (nI i), .int (nI k)] [] h1 = some (sh_fa (sh_fd (fun ρ => !sh_b (sh_hd n ρ) i) F t k ρ), 0, h') ∧ sh_m h h' ∧ sh_o2 (sh_fo (sh_lWL i) (sh_fd (fun ρ => !sh_b (sh_hd n ρ) i) F t k ρ)) h h' := by
  have hn := E.1.1.1
  intro t
  induction t with
  | zero =>
    intro k h1 ρ e hf e3 e4
    rw [eX7_when_r44_28, if_pos (show (99 : Int32) < nI k from nI_lt (a := 99) (by omega) (by omega))]
    exact ⟨h1, rfl, hf.1, e3, e4⟩
  | succ t ih =>
    intro k h1 ρ e hf e3 e4
    rw [eX7_when_r44_28, if_neg (show ¬ (99 : Int32) < nI k from nI_nlt (b := k) (a := 99) (by omega) (by omega)), c_holdingM49 _ n h1 ρ (t_env E hf.1).2.1 hf.2.1]
    simp only [Option.bind_some, c_has]
    cases hb : sh_b (sh_hd n ρ) i
    · rw [if_pos (show sh_i false = 0 from rfl), hf.2.1 30 (by decide)]
      obtain ⟨h2, e2, m2, f2, t2⟩ := c_ent1 (d + 19) (av_u h1 44 1 0) (Int32.toInt64 (ρ 30)) rfl
      have x2 := t_m m2 f2 (t_s (k := 1) (v := 0) (by decide) hf)
      rw [e2]
      simp only [Option.bind_some]
      rw [show (21 : Int32) + nI i = nI (21 + i) from nI_add 21 i, sh_inb (show 21 + i < 33 by omega) (by decide), nI_clamp (by omega), x2.2.1 (21 + i) (by omega)]
      simp only [cond_true]
      obtain ⟨h3, e3', m3, f3, t3⟩ := c_enters (d + 19) h2 _ (Int32.toInt64 (ρ (21 + i))) (by simp) t2
      rw [e3']
      have hfd : sh_fd (fun ρ => !sh_b (sh_hd n ρ) i) F (t + 1) k ρ = some (k, ρ) := by simp [sh_fd, hb]
      rw [hfd]
      exact ⟨h3, rfl, (t_m m3 f3 x2).1, t3⟩
    · rw [if_neg (by decide)]
      obtain ⟨h2, e2, f2, q3, q4⟩ := t_hour (d + 15) E hF hf
      rw [e2]
      simp only [Option.bind_some, nI_1]
      have hfd : sh_fd (fun ρ => !sh_b (sh_hd n ρ) i) F (t + 1) k ρ = sh_fd (fun ρ => !sh_b (sh_hd n ρ) i) F t (k + 1) (F ρ) := by simp [sh_fd, hb]
      rw [hfd]
      exact ih (k + 1) h2 (F ρ) (by omega) f2 (by rw [q3, e3]) (by rw [q4, e4])
theorem sh_fo_le {g : (Nat → Int32) → List Int64} {o : Option (Nat × (Nat → Int32))} (hg : ∀ ρ, (g ρ).length ≤ 7) : ∀ l, sh_fo g o = some l → l.length ≤ 7 := by
  intro l q
  cases o with
  | none => cases q
  | some z =>
    injection q with q
    subst q
    exact hg _
theorem c_when (p : Int32) : sh_P 67 219 [.int p] := sh_qF fun d N n m L r h F E hF => by
  obtain ⟨a1, a2, a3, a4, a5, a6, a7, a8⟩ := id E.1.1
  cases hk : sh_kn n p
  · refine ⟨-1, none, fun _ q => (nomatch q), sh_QX_n ?_, fun h' hc E' _ => sh_QM_n (v := 0) ?_⟩
    · rw [eX6_when_r0_in, c_knowsp _ n h p a2, hk]
      rfl
    · rw [eX7_when_r44_in, c_isOne _ n _ p a1 (show (av_u h' 44 0 0) 44 3 = nI n from E'.1.1.2.2.2.2.1), hk]
      rfl
  · obtain ⟨i, hi, rfl⟩ := sh_kn_of a1 hk
    refine ⟨sh_fa (sh_fd (fun ρ => !sh_b (sh_hd n ρ) i) F 100 0 r), sh_fo (sh_lWL i) (sh_fd (fun ρ => !sh_b (sh_hd n ρ) i) F 100 0 r), sh_fo_le (fun _ => by simp [sh_lWL]), ?_, ?_⟩
    · obtain ⟨h1, e1, f1, q3, q4⟩ := f_copy (d + 98) E (sh_c_refl h)
      obtain ⟨h2, e2, f2, o2⟩ := f_when_l (d + 79) i E hF hi 100 0 h1 r (by omega) f1 q3 q4
      refine ⟨h2, ?_, f2, o2⟩
      rw [eX6_when_r0_in, c_knowsp _ n h _ a2, hk]
      simp only [Option.bind_some]
      rw [if_neg (by decide), e1]
      exact e2
    · intro h' hc E' hF'
      obtain ⟨h1, e1, f1, q3, q4⟩ := t_copy (d + 98) E' (sh_m_s (k := 0) (v := 0) (by decide) (sh_m_refl h'))
      obtain ⟨h2, e2, f2, o2⟩ := t_when_l (d + 79) i E' hF' hi 100 0 h1 r (by omega) f1 (by rw [q3]; rfl) (by rw [q4]; rfl)
      refine ⟨h2, ?_, f2, o2⟩
      rw [eX7_when_r44_in, c_isOne _ n _ _ a1 (show (av_u h' 44 0 0) 44 3 = nI n from E'.1.1.2.2.2.2.1), hk]
      simp only [Option.bind_some]
      rw [if_neg (by decide), e1]
      exact e2
/-! gone -/
theorem f_gone_l (d : Nat) {N n m L : Nat} {r : Nat → Int32} {h : av_M} {F : (Nat → Int32) → (Nat → Int32)} (E : sh_En N n m L r h) (hF : F = sh_F n m h) : ∀ t k (h1 : av_M) (ρ : Nat → Int32), k + t = 100 → sh_fut n h ρ h1 → h1 3 = h 3 → h1 4 = h 4 →
    ∃ h', av_xp (d + 20) 69 13 [.ref 0, .int (nI k)] [] h1 = some (sh_fa (sh_fd (fun ρ => decide (sh_hd n ρ = 0)) F t k ρ), 0, h') ∧ sh_c h h' ∧ sh_o1 (sh_fo sh_lW (sh_fd (fun ρ => decide (sh_hd n ρ = 0)) F t k ρ)) h h' := by
  have hn := E.1.1.1
  intro t
  induction t with
  | zero =>
    intro k h1 ρ e hf e3 e4
    rw [eX6_gone_r0_13, if_pos (show (99 : Int32) < nI k from nI_lt (a := 99) (by omega) (by omega))]
    exact ⟨h1, rfl, hf.1, by rw [e3], e4⟩
  | succ t ih =>
    intro k h1 ρ e hf e3 e4
    rw [eX6_gone_r0_13, if_neg (show ¬ (99 : Int32) < nI k from nI_nlt (b := k) (a := 99) (by omega) (by omega)), c_holding12 _ n h1 ρ hf.2.2.1 hf.2.2.2.1]
    simp only [Option.bind_some]
    by_cases hb : sh_hd n ρ = 0
    · rw [if_pos hb]
      obtain ⟨h2, e2, f2, t2⟩ := c_tell (d + 18) h1 (Int32.toInt64 (h1 12 10))
      rw [e2]
      have hfd : sh_fd (fun ρ => decide (sh_hd n ρ = 0)) F (t + 1) k ρ = some (k, ρ) := by simp [sh_fd, hb]
      rw [hfd]
      refine ⟨h2, rfl, (f_t1 f2 rfl hf).1, ?_⟩
      rw [hf.2.2.2.1.2.2.2.2.2.2.1] at t2
      exact t2
    · rw [if_neg hb]
      obtain ⟨h2, e2, f2, q3, q4⟩ := f_hour (d + 15) E hF hf
      rw [e2]
      simp only [Option.bind_some, nI_1]
      have hfd : sh_fd (fun ρ => decide (sh_hd n ρ = 0)) F (t + 1) k ρ = sh_fd (fun ρ => decide (sh_hd n ρ = 0)) F t (k + 1) (F ρ) := by simp [sh_fd, hb]
      rw [hfd]
      exact ih (k + 1) h2 (F ρ) (by omega) f2 (by rw [q3, e3]) (by rw [q4, e4])
theorem t_gone_l (d : Nat) {N n m L : Nat} {r : Nat → Int32} {h : av_M} {F : (Nat → Int32) → (Nat → Int32)} (E : sh_En N n m L r h) (hF : F = sh_F n m h) : ∀ t k (h1 : av_M) (ρ : Nat → Int32), k + t = 100 → sh_th n h ρ h1 → h1 44 1 = h 44 1 → h1 45 = h 45 →
    ∃ h', av_xp (d + 20) 221 18 [.ref 44, .int (nI k)] [] h1 = some (sh_fa (sh_fd (fun ρ => decide (sh_hd n ρ = 0)) F t k ρ), 0, h') ∧ sh_m h h' ∧ sh_o2 (sh_fo sh_lW (sh_fd (fun ρ => decide (sh_hd n ρ = 0)) F t k ρ)) h h' := by
  have hn := E.1.1.1
  intro t
  induction t with
  | zero =>
    intro k h1 ρ e hf e3 e4
    rw [eX7_gone_r44_18, if_pos (show (99 : Int32) < nI k from nI_lt (a := 99) (by omega) (by omega))]
    exact ⟨h1, rfl, hf.1, e3, e4⟩
  | succ t ih =>
    intro k h1 ρ e hf e3 e4
    rw [eX7_gone_r44_18, if_neg (show ¬ (99 : Int32) < nI k from nI_nlt (b := k) (a := 99) (by omega) (by omega)), c_holdingM49 _ n h1 ρ (t_env E hf.1).2.1 hf.2.1]
    simp only [Option.bind_some]
    by_cases hb : sh_hd n ρ = 0
    · rw [if_pos hb, hf.2.1 30 (by decide)]
      obtain ⟨h2, e2, m2, f2, t2⟩ := c_ent1 (d + 19) (av_u h1 44 1 0) (Int32.toInt64 (ρ 30)) rfl
      have x2 := t_m m2 f2 (t_s (k := 1) (v := 0) (by decide) hf)
      rw [e2]
      have hfd : sh_fd (fun ρ => decide (sh_hd n ρ = 0)) F (t + 1) k ρ = some (k, ρ) := by simp [sh_fd, hb]
      rw [hfd]
      exact ⟨h2, rfl, x2.1, t2⟩
    · rw [if_neg hb]
      obtain ⟨h2, e2, f2, q3, q4⟩ := t_hour (d + 15) E hF hf
      rw [e2]
      simp only [Option.bind_some, nI_1]
      have hfd : sh_fd (fun ρ => decide (sh_hd n ρ = 0)) F (t + 1) k ρ = sh_fd (fun ρ => decide (sh_hd n ρ = 0)) F t (k + 1) (F ρ) := by simp [sh_fd, hb]
      rw [hfd]
      exact ih (k + 1) h2 (F ρ) (by omega) f2 (by rw [q3, e3]) (by rw [q4, e4])
theorem c_gone : sh_P 69 221 [] := sh_qF fun d N n m L r h F E hF => by
  refine ⟨sh_fa (sh_fd (fun ρ => decide (sh_hd n ρ = 0)) F 100 0 r), sh_fo sh_lW (sh_fd (fun ρ => decide (sh_hd n ρ = 0)) F 100 0 r), sh_fo_le (fun _ => by simp [sh_lW]), ?_, ?_⟩
  · obtain ⟨h1, e1, f1, q3, q4⟩ := f_copy (d + 98) E (sh_c_refl h)
    obtain ⟨h2, e2, f2, o2⟩ := f_gone_l (d + 79) E hF 100 0 h1 r (by omega) f1 q3 q4
    refine ⟨h2, ?_, f2, o2⟩
    rw [eX6_gone_r0_in, e1]
    exact e2
  · intro h' hc E' hF'
    obtain ⟨h1, e1, f1, q3, q4⟩ := t_copy (d + 98) E' (sh_m_s (k := 0) (v := 0) (by decide) (sh_m_refl h'))
    obtain ⟨h2, e2, f2, o2⟩ := t_gone_l (d + 79) E' hF' 100 0 h1 r (by omega) f1 (by rw [q3]; rfl) (by rw [q4]; rfl)
    refine ⟨h2, ?_, f2, o2⟩
    rw [eX7_gone_r44_in, e1]
    exact e2
/-! drag -/
theorem c_drag : sh_P 71 223 [] := sh_qF fun d N n m L r h F E hF => by
  obtain ⟨a1, a2, a3, a4, a5, a6, a7, a8⟩ := id E.1.1
  have ew : ∀ s, sh_w n (h 7) s = sh_w n (h 47) s := fun s => sh_w_cong (fun j hj => (a7 j hj).2.1) s
  refine ⟨sh_w n (h 47) (sh_tt n r) / 5, some [Int32.toInt64 (sh_tt n r), Int32.toInt64 (sh_w n (h 47) (sh_hd n r))], fun l q => by injection q with q; subst q; simp, ?_, ?_⟩
  · obtain ⟨h3, e3, f3, t3⟩ := c_tell2 (d + 97) h (Int32.toInt64 (sh_tt n r)) (Int32.toInt64 (sh_w n (h 47) (sh_hd n r)))
    refine ⟨h3, ?_, sh_c_of f3 (by decide), t3⟩
    rw [eX6_drag_r0_in, c_taut5 _ n h r a1 a2 a3 a4]
    simp only [Option.bind_some]
    rw [c_holding5 _ n h r a3 a4]
    simp only [Option.bind_some]
    rw [c_weight5 _ n h _ a1 a2, ew]
    simp only [Option.bind_some]
    rw [e3]
    simp only [Option.bind_some]
    rw [c_heldBack5 _ n h3 r a1 (by rw [f3 5 (by decide)]; exact a2) (by rw [f3 5 (by decide)]; exact a3) (sh_SV5 f3 (by decide) a4), f3 7 (by decide), ew]
    rfl
  · intro h' hc E' hF'
    obtain ⟨b1, b2, b3, b4, b5, b6, b7, b8⟩ := id E'.1.1
    have q47 : h' 47 = h 47 := hc 47 (by decide)
    have k0 : (av_u (av_u h' 44 0 0) 44 1 0) 44 3 = nI n := b5
    have v0 : sh_MV 48 (av_u (av_u h' 44 0 0) 44 1 0) r := b6
    obtain ⟨h4, e4, m4, g4, t4⟩ := c_ent1 (d + 98) (av_u (av_u h' 44 0 0) 44 1 0) (Int32.toInt64 (sh_tt n r)) rfl
    have k4 : h4 44 3 = nI n := by rw [m4.2 3 (by decide) (by decide)]; exact k0
    have v4 : sh_MV 48 h4 r := sh_MV_fr g4 (by decide) v0
    obtain ⟨h5, e5, m5, g5, t5⟩ := c_enters (d + 98) h4 _ (Int32.toInt64 (sh_w n (h 47) (sh_hd n r))) (by simp) t4
    have k5 : h5 44 3 = nI n := by rw [m5.2 3 (by decide) (by decide)]; exact k4
    have v5 : sh_MV 48 h5 r := sh_MV_fr g5 (by decide) v4
    have q4 : h4 47 = h 47 := by rw [g4 47 (by decide)]; exact q47
    have q5 : h5 47 = h 47 := by rw [g5 47 (by decide)]; exact q4
    refine ⟨h5, ?_, sh_m_tr (sh_m_tr (sh_m_s (k := 1) (v := 0) (by decide) (sh_m_s (k := 0) (v := 0) (by decide) (sh_m_refl h'))) m4) m5, t5⟩
    rw [eX7_drag_r44_in, c_tautM48 _ n _ r a1 k0 v0]
    simp only [Option.bind_some]
    rw [e4]
    simp only [Option.bind_some]
    rw [c_holdingM48 _ n _ r k4 v4]
    simp only [Option.bind_some]
    rw [c_counts _ n _ _ a1 k4, q4, show sh_lp (sh_wF (h 47) (sh_hd n r)) n 0 0 = sh_w n (h 47) (sh_hd n r) from rfl]
    simp only [Option.bind_some]
    rw [e5]
    simp only [Option.bind_some]
    rw [c_dragOf48 _ n h5 r a1 k5 v5, q5]
    rfl
