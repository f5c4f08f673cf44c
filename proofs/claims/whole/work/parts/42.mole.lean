/-! PURE, 32: calls: mole, slows -/
theorem sh_upd_id {f : Nat → Int32} {i : Nat} : upd f i (f i) = f := by
  funext j
  unfold upd
  by_cases e : j = i
  · rw [if_pos e, e]
  · rw [if_neg e]
def sh_mo (n : Nat) (F : (Nat → Int32) → (Nat → Int32)) (i z : Nat) (r : Nat → Int32) (v : Nat) : Int32 := sh_ht n F i z (upd r (14 + i) (nI v))
def sh_mF (H : Nat → Int32) (k b : Nat) : Nat := if H k ≤ H b then b else k
theorem sh_mF_le {H : Nat → Int32} : ∀ t k b, b ≤ 9 → k + t ≤ 10 → sh_lp (sh_mF H) t k b ≤ 9 := by
  intro t
  induction t with
  | zero => intro k b h _; exact h
  | succ t ih =>
    intro k b h e
    refine ih (k + 1) _ ?_ (by omega)
    unfold sh_mF
    by_cases q : H k ≤ H b
    · rw [if_pos q]; exact h
    · rw [if_neg q]; omega
theorem f_mole_1 (d i z k : Nat) {N n m L : Nat} {r : Nat → Int32} {h : av_M} {F : (Nat → Int32) → (Nat → Int32)} (E : sh_En N n m L r h) (hF : F = sh_F n m h) (hi : i < n) (hz : z < 1000) (a b : Int32) (h1 : av_M) (x : Value) (hk : k ≤ 9) (hx : sh_j1 x) (hc : sh_c h h1) (e3 : h1 3 = h 3) (e4 : h1 4 = h 4) :
    ∃ h', av_xp (d + 20) 73 28 [.ref 0, .int (nI i), .int (nI z), .int a, .int b, .int (nI k), x] [] h1 = (if sh_mo n F i z r k ≤ b then av_xp (d + 20) 73 28 [.ref 0, .int (nI i), .int (nI z), .int a, .int b, .int (nI (k + 1)), .int (sh_mo n F i z r k)] [] h' else av_xp (d + 20) 73 28 [.ref 0, .int (nI i), .int (nI z), .int (nI k), .int (sh_mo n F i z r k), .int (nI (k + 1)), .int (sh_mo n F i z r k)] [] h') ∧ sh_c h h' ∧ h' 3 = h 3 ∧ h' 4 = h 4 := by
  have hn := E.1.1.1
  obtain ⟨h2, e2, f2, q3, q4⟩ := f_copy (d + 19) E hc
  have f3 := f_set (a := 17) (s := i) (i := 14 + i) (v := nI k) (by omega) f2
  obtain ⟨h4, e4', c4, p3, p4⟩ := f_held (d + 14) z i E hF hz hi f3
  refine ⟨h4, ?_, c4, by rw [p3]; show h2 3 = _; rw [q3, e3], by rw [p4]; show h2 4 = _; rw [q4, e4]⟩
  rcases hx with rfl | ⟨y, rfl⟩
  · rw [eX6_mole_r0_28, if_neg (show ¬ (9 : Int32) < nI k from nI_nlt (b := k) (a := 9) (by omega) (by omega)), e2]
    simp only [Option.bind_some]
    rw [sh_inb (show i < 7 by omega) (by decide), nI_clamp (by omega)]
    simp only [cond_true]
    rw [e4']
    simp only [Option.bind_some, nI_1]
    rfl
  · rw [eX6_mole_r0_28_2, if_neg (show ¬ (9 : Int32) < nI k from nI_nlt (b := k) (a := 9) (by omega) (by omega)), e2]
    simp only [Option.bind_some]
    rw [sh_inb (show i < 7 by omega) (by decide), nI_clamp (by omega)]
    simp only [cond_true]
    rw [e4']
    simp only [Option.bind_some, nI_1]
    rfl
def sh_mL (n : Nat) (F : (Nat → Int32) → (Nat → Int32)) (i z : Nat) (r : Nat → Int32) (b : Nat) : List Int64 := [Int32.toInt64 (sh_mo n F i z r b), Int32.toInt64 (sh_ht n F i z r)]
theorem f_mole_l (d i z : Nat) {N n m L : Nat} {r : Nat → Int32} {h : av_M} {F : (Nat → Int32) → (Nat → Int32)} (E : sh_En N n m L r h) (hF : F = sh_F n m h) (hi : i < n) (hz : z < 1000) : ∀ t k (b : Nat) (h1 : av_M) (x : Value), k + t = 10 → sh_j1 x → sh_c h h1 → h1 3 = h 3 → h1 4 = h 4 →
    ∃ h', av_xp (d + 20) 73 28 [.ref 0, .int (nI i), .int (nI z), .int (nI b), .int (sh_mo n F i z r b), .int (nI k), x] [] h1 = some (nI (sh_lp (sh_mF (sh_mo n F i z r)) t k b), 0, h') ∧ sh_c h h' ∧ sh_t1 (sh_mL n F i z r (sh_lp (sh_mF (sh_mo n F i z r)) t k b)) h' := by
  have hn := E.1.1.1
  intro t
  induction t with
  | zero =>
    intro k b h1 x e hx hc e3 e4
    have ek : k = 10 := by omega
    subst ek
    obtain ⟨h2, e2, f2, q3, q4⟩ := f_copy (d + 19) E hc
    obtain ⟨h4, e4', c4, p3, p4⟩ := f_held (d + 14) z i E hF hz hi f2
    obtain ⟨h5, e5, f5, t5⟩ := c_tell2 (d + 18) h4 (Int32.toInt64 (sh_mo n F i z r b)) (Int32.toInt64 (sh_ht n F i z r))
    refine ⟨h5, ?_, sh_c_tr c4 (sh_c_of f5 (by decide)), t5⟩
    rcases hx with rfl | ⟨y, rfl⟩
    · rw [eX6_mole_r0_28, if_pos (show (9 : Int32) < nI 10 by decide), e2]
      simp only [Option.bind_some]
      rw [e4']
      simp only [Option.bind_some]
      rw [e5]
      rfl
    · rw [eX6_mole_r0_28_2, if_pos (show (9 : Int32) < nI 10 by decide), e2]
      simp only [Option.bind_some]
      rw [e4']
      simp only [Option.bind_some]
      rw [e5]
      rfl
  | succ t ih =>
    intro k b h1 x e hx hc e3 e4
    obtain ⟨h2, e2, c2, q3, q4⟩ := f_mole_1 d i z k E hF hi hz (nI b) (sh_mo n F i z r b) h1 x (by omega) hx hc e3 e4
    rw [e2]
    have step : sh_lp (sh_mF (sh_mo n F i z r)) (t + 1) k b = sh_lp (sh_mF (sh_mo n F i z r)) t (k + 1) (sh_mF (sh_mo n F i z r) k b) := rfl
    rw [step]
    by_cases q : sh_mo n F i z r k ≤ sh_mo n F i z r b
    · have es : sh_mF (sh_mo n F i z r) k b = b := by unfold sh_mF; rw [if_pos q]
      rw [if_pos q, es]
      exact ih (k + 1) b h2 _ (by omega) (Or.inr ⟨_, rfl⟩) c2 q3 q4
    · have es : sh_mF (sh_mo n F i z r) k b = k := by unfold sh_mF; rw [if_neg q]
      rw [if_neg q, es]
      exact ih (k + 1) k h2 _ (by omega) (Or.inr ⟨_, rfl⟩) c2 q3 q4
theorem t_heldAt (d z i : Nat) (v : Int32) {N n m L : Nat} {r : Nat → Int32} {h h1 : av_M} {F : (Nat → Int32) → (Nat → Int32)} (E : sh_En N n m L r h) (hF : F = sh_F n m h) (hz : z < 1000) (hi : i < n) (hc : sh_m h h1) : ∃ h', av_x (d + 6) 225 [.ref 44, .int (nI i), .int v, .int (nI z)] h1 = some (sh_ht n F i z (upd r (14 + i) v), 0, h') ∧ sh_m h h' ∧ h' 44 = h1 44 ∧ h' 45 = h1 45 := by
  obtain ⟨x1, x2, x3, x4, x5, x6, x7⟩ := t_env E hc
  obtain ⟨h2, e2, f2⟩ := c_heldAt d n m L z i (h 20) v h1 r x1 hi hz x2 x3 (sh_G_L9 E.1.1.2.2.2.2.2.2.2) x4 x5
  rw [x6, x7] at e2
  refine ⟨h2, ?_, sh_m_tr hc (sh_m_of f2 (by decide)), f2 44 (by decide), f2 45 (by decide)⟩
  rw [hF]
  exact e2
theorem t_mole_l (d i z : Nat) {N n m L : Nat} {r : Nat → Int32} {h : av_M} {F : (Nat → Int32) → (Nat → Int32)} (E : sh_En N n m L r h) (hF : F = sh_F n m h) (hi : i < n) (hz : z < 1000) : ∀ t k (b : Nat) (h1 : av_M), k + t = 10 → b ≤ 9 → sh_m h h1 →
    ∃ h', av_xp (d + 20) 226 32 [.ref 44, .int (nI i), .int (nI z), .int (nI b), .int (nI k)] [] h1 = some (nI (sh_lp (sh_mF (sh_mo n F i z r)) t k b), 0, h') ∧ sh_m h h' ∧ sh_t2 (sh_mL n F i z r (sh_lp (sh_mF (sh_mo n F i z r)) t k b)) h' := by
  have hn := E.1.1.1
  intro t
  induction t with
  | zero =>
    intro k b h1 e hb hc
    have ek : k = 10 := by omega
    subst ek
    rw [eX7_mole_r44_32, if_pos (show (9 : Int32) < nI 10 by decide)]
    obtain ⟨h2, e2, c2, q3, q4⟩ := t_heldAt (d + 14) z i (nI b) E hF hz hi (sh_m_s (k := 1) (v := 0) (by decide) hc)
    rw [e2]
    simp only [Option.bind_some]
    obtain ⟨h3, e3, m3, f3, t3⟩ := c_ent1 (d + 19) h2 (Int32.toInt64 (sh_ht n F i z (upd r (14 + i) (nI b)))) (by rw [q3]; rfl)
    rw [e3]
    simp only [Option.bind_some]
    have c3 := sh_m_tr c2 m3
    obtain ⟨x1, x2, x3, x4, x5, x6, x7⟩ := t_env E c3
    rw [show (14 : Int32) + nI i = nI (14 + i) from nI_add 14 i, sh_inb (show 14 + i < 33 by omega) (by decide), nI_clamp (by omega), x3 (14 + i) (by omega)]
    simp only [cond_true]
    obtain ⟨h4, e4, c4, p3, p4⟩ := t_heldAt (d + 14) z i (r (14 + i)) E hF hz hi c3
    rw [e4]
    simp only [Option.bind_some]
    rw [sh_upd_id]
    obtain ⟨h5, e5, m5, f5, t5⟩ := c_enters (d + 19) h4 [Int32.toInt64 (sh_ht n F i z (upd r (14 + i) (nI b)))] (Int32.toInt64 (sh_ht n F i z r)) (by simp) (by unfold sh_t2 at t3 ⊢; rw [p3, p4]; exact t3)
    rw [e5]
    exact ⟨h5, rfl, sh_m_tr c4 m5, t5⟩
  | succ t ih =>
    intro k b h1 e hb hc
    rw [eX7_mole_r44_32, if_neg (show ¬ (9 : Int32) < nI k from nI_nlt (b := k) (a := 9) (by omega) (by omega))]
    obtain ⟨h2, e2, c2, q3, q4⟩ := t_heldAt (d + 14) z i (nI k) E hF hz hi hc
    rw [e2]
    simp only [Option.bind_some]
    obtain ⟨h3, e3, c3, p3, p4⟩ := t_heldAt (d + 14) z i (nI b) E hF hz hi c2
    rw [e3]
    simp only [Option.bind_some, nI_1]
    have step : sh_lp (sh_mF (sh_mo n F i z r)) (t + 1) k b = sh_lp (sh_mF (sh_mo n F i z r)) t (k + 1) (sh_mF (sh_mo n F i z r) k b) := rfl
    rw [step]
    by_cases q : sh_mo n F i z r k ≤ sh_mo n F i z r b
    · have es : sh_mF (sh_mo n F i z r) k b = b := by unfold sh_mF; rw [if_pos q]
      rw [if_pos (show sh_ht n F i z (upd r (14 + i) (nI k)) ≤ sh_ht n F i z (upd r (14 + i) (nI b)) from q), es]
      exact ih (k + 1) b h3 (by omega) hb c3
    · have es : sh_mF (sh_mo n F i z r) k b = k := by unfold sh_mF; rw [if_neg q]
      rw [if_neg (show ¬ sh_ht n F i z (upd r (14 + i) (nI k)) ≤ sh_ht n F i z (upd r (14 + i) (nI b)) from q), es]
      exact ih (k + 1) k h3 (by omega) (by omega) c3
theorem c_mole (p v : Int32) : sh_P 73 226 [.int p, .int v] := sh_qF fun d N n m L r h F E hF => by
  obtain ⟨a1, a2, a3, a4, a5, a6, a7, a8⟩ := id E.1.1
  cases hk : sh_kn n p
  · refine ⟨-1, none, fun _ q => (nomatch q), sh_QX_n ?_, fun h' hc E' _ => sh_QM_n (v := 0) ?_⟩
    · rw [eX6_mole_r0_in, c_knowsp _ n h p a2, hk]
      rfl
    · rw [eX7_mole_r44_in, c_isOne _ n _ p a1 (show (av_u h' 44 0 0) 44 3 = nI n from E'.1.1.2.2.2.2.1), hk]
      rfl
  · cases hv : sh_ir 1 60 v
    · refine ⟨-1, none, fun _ q => (nomatch q), sh_QX_n ?_, fun h' hc E' _ => sh_QM_n (v := 0) ?_⟩
      · rw [eX6_mole_r0_in, c_knowsp _ n h p a2, hk]
        simp only [Option.bind_some, c_isSpanX, hv]
        rfl
      · rw [eX7_mole_r44_in, c_isOne _ n _ p a1 (show (av_u h' 44 0 0) 44 3 = nI n from E'.1.1.2.2.2.2.1), hk]
        simp only [Option.bind_some]
        rw [if_neg (by decide), c_inI _ v 1 60 _ _ _ (by decide) (by decide), hv]
        rfl
    · obtain ⟨i, hi, rfl⟩ := sh_kn_of a1 hk
      obtain ⟨z, z1, z2, rfl⟩ := sh_ir_nat (lo := 1) (hi := 60) (by decide) (by decide) hv
      refine ⟨nI (sh_lp (sh_mF (sh_mo n F i z r)) 9 1 0), some (sh_mL n F i z r (sh_lp (sh_mF (sh_mo n F i z r)) 9 1 0)), fun l q => by injection q with q; subst q; simp [sh_mL], ?_, ?_⟩
      · obtain ⟨h1, e1, c1, q3, q4⟩ := f_mole_1 (d + 79) i z 0 E hF hi (by omega) 0 (-1) h .null (by omega) (Or.inl rfl) (sh_c_refl h) rfl rfl
        obtain ⟨c, cz, ec, _⟩ := sh_ht_n E hF hi z (upd r (14 + i) (nI 0))
        have hneg : ¬ sh_mo n F i z r 0 ≤ -1 := by
          rw [show sh_mo n F i z r 0 = nI c from ec, Int32.le_iff_toInt_le, nI_toInt (by omega), show (-1 : Int32).toInt = -1 by decide]
          omega
        rw [if_neg hneg] at e1
        obtain ⟨h2, e2, c2, t2⟩ := f_mole_l (d + 79) i z E hF hi (by omega) 9 1 0 h1 (.int (sh_mo n F i z r 0)) (by omega) (Or.inr ⟨_, rfl⟩) c1 q3 q4
        refine ⟨h2, ?_, c2, t2⟩
        rw [eX6_mole_r0_in, c_knowsp _ n h _ a2, hk]
        simp only [Option.bind_some, c_isSpanX, hv]
        rw [if_neg (by decide), if_neg (by decide)]
        exact e1.trans e2
      · intro h' hc E' hF'
        obtain ⟨h1, e1, c1, o1⟩ := t_mole_l (d + 79) i z E' hF' hi (by omega) 9 1 0 (av_u h' 44 0 0) (by omega) (by omega) (sh_m_s (by decide) (sh_m_refl h'))
        refine ⟨h1, ?_, c1, o1⟩
        rw [eX7_mole_r44_in, c_isOne _ n _ _ a1 (show (av_u h' 44 0 0) 44 3 = nI n from E'.1.1.2.2.2.2.1), hk]
        simp only [Option.bind_some]
        rw [if_neg (by decide), c_inI _ _ 1 60 _ _ _ (by decide) (by decide), hv]
        exact e1
/-! slows -/
def sh_sS (n : Nat) (F : (Nat → Int32) → (Nat → Int32)) (z : Nat) (r : Nat → Int32) (v : Int32) : Int32 := sh_bc (sh_hd n (sh_lp (fun _ => F) z 0 (upd r 31 v)))
def sh_sl (S : Nat → Int32) (p : Int32) : Nat → Option Nat
  | 0 => none
  | t + 1 => if S t < p then sh_sl S p t else some t
def sh_slA (o : Option Nat) : Int32 := match o with
  | none => -2
  | some v => nI v
def sh_slL (S : Nat → Int32) (w : Int32) (o : Option Nat) : Option (List Int64) := match o with
  | none => none
  | some v => some [Int32.toInt64 (S v), Int32.toInt64 w]
theorem f_hbs (d z : Nat) (v : Int32) {N n m L : Nat} {r : Nat → Int32} {h h1 : av_M} {F : (Nat → Int32) → (Nat → Int32)} (E : sh_En N n m L r h) (hF : F = sh_F n m h) (hz : z < 1000) (hc : sh_c h h1) : ∃ h', av_x (d + 7) 131 [.ref 0, .int v, .int (nI z)] h1 = some (sh_sS n F z r v, 0, h') ∧ sh_c h h' ∧ h' 3 = h1 3 ∧ h' 4 = h1 4 := by
  obtain ⟨h2, e2, f2, q3, q4⟩ := f_copy (d + 5) E hc
  have f3 := f_set (a := 12) (s := 11) (i := 31) (v := v) (by omega) f2
  obtain ⟨h4, e4, f4, p3, p4⟩ := f_hours d z E hF hz f3
  refine ⟨h4, ?_, f4.1, by rw [p3]; exact q3, by rw [p4]; exact q4⟩
  rw [eX6_holdBySpeed_r0_in, e2]
  simp only [Option.bind_some]
  rw [e4]
  simp only [Option.bind_some]
  rw [c_holding12 _ n h4 _ f4.2.2.1 f4.2.2.2.1]
  simp only [Option.bind_some, c_bc]
  rfl
theorem t_heldBy (d z : Nat) (v : Int32) {N n m L : Nat} {r : Nat → Int32} {h h1 : av_M} {F : (Nat → Int32) → (Nat → Int32)} (E : sh_En N n m L r h) (hF : F = sh_F n m h) (hz : z < 1000) (hc : sh_m h h1) : ∃ h', av_x (d + 7) 227 [.ref 44, .int v, .int (nI z)] h1 = some (sh_sS n F z r v, 0, h') ∧ sh_m h h' ∧ h' 44 = h1 44 ∧ h' 45 = h1 45 := by
  obtain ⟨x1, x2, x3, x4, x5, x6, x7⟩ := t_env E hc
  obtain ⟨h2, e2, f2⟩ := c_heldBy d n m L z (h 20) v h1 r x1 hz x2 x3 (sh_G_L9 E.1.1.2.2.2.2.2.2.2) x4 x5
  rw [x6, x7] at e2
  refine ⟨h2, ?_, sh_m_tr hc (sh_m_of f2 (by decide)), f2 44 (by decide), f2 45 (by decide)⟩
  rw [hF]
  exact e2
theorem f_slow_l (d z : Nat) (p : Int32) {N n m L : Nat} {r : Nat → Int32} {h : av_M} {F : (Nat → Int32) → (Nat → Int32)} (E : sh_En N n m L r h) (hF : F = sh_F n m h) (hz : z < 1000) : ∀ t (h1 : av_M) (x : Value), t ≤ 10 → sh_j1 x → sh_c h h1 → h1 3 = h 3 → h1 4 = h 4 →
    ∃ h', av_xp (d + 20) 74 22 [.ref 0, .int p, .int (nI z), .int (nI t - 1), x] [] h1 = some (sh_slA (sh_sl (fun v => sh_sS n F z r (nI v)) p t), 0, h') ∧ sh_c h h' ∧ sh_o1 (sh_slL (fun v => sh_sS n F z r (nI v)) (sh_sS n F z r (r 31)) (sh_sl (fun v => sh_sS n F z r (nI v)) p t)) h h' := by
  have hn := E.1.1.1
  intro t
  induction t with
  | zero =>
    intro h1 x ht hx hc e3 e4
    refine ⟨h1, ?_, hc, by rw [e3], e4⟩
    rcases hx with rfl | ⟨y, rfl⟩
    · rw [eX6_slows_r0_22, if_pos (show nI 0 - 1 < 0 by decide)]
      rfl
    · rw [eX6_slows_r0_22_2, if_pos (show nI 0 - 1 < 0 by decide)]
      rfl
  | succ t ih =>
    intro h1 x ht hx hc e3 e4
    obtain ⟨h2, e2, c2, q3, q4⟩ := f_hbs (d + 13) z (nI t) E hF hz hc
    have eq : av_xp (d + 20) 74 22 [.ref 0, .int p, .int (nI z), .int (nI (t + 1) - 1), x] [] h1 = (if sh_sS n F z r (nI t) < p then av_xp (d + 20) 74 22 [.ref 0, .int p, .int (nI z), .int (nI t - 1), .int (sh_sS n F z r (nI t))] [] h2 else ((av_x (d + 20) 131 [.ref 0, .int (h2 5 11), .int (nI z)] h2).bind fun q2 => ((av_x (d + 20) 111 [.ref 0, .long (Int32.toInt64 (sh_sS n F z r (nI t))), .long (Int32.toInt64 q2.1)] q2.2.2).bind fun q3 => some ((nI t : Int32), (0 : Int64), q3.2.2)))) := by
      rw [nI_pred]
      rcases hx with rfl | ⟨y, rfl⟩
      · rw [eX6_slows_r0_22, if_neg (sh_nneg (by omega)), e2]
        simp only [Option.bind_some, sh_pm]
      · rw [eX6_slows_r0_22_2, if_neg (sh_nneg (by omega)), e2]
        simp only [Option.bind_some, sh_pm]
    rw [eq]
    have es : sh_sl (fun v => sh_sS n F z r (nI v)) p (t + 1) = if sh_sS n F z r (nI t) < p then sh_sl (fun v => sh_sS n F z r (nI v)) p t else some t := rfl
    rw [es]
    by_cases q : sh_sS n F z r (nI t) < p
    · rw [if_pos q, if_pos q]
      exact ih h2 _ (by omega) (Or.inr ⟨_, rfl⟩) c2 (by rw [q3, e3]) (by rw [q4, e4])
    · rw [if_neg q, if_neg q, show h2 5 11 = r 31 by rw [c2 5 (by decide)]; exact E.1.1.2.2.2.1.2.2.2.2.2.2.2.1]
      obtain ⟨h4, e4', c4, p3, p4⟩ := f_hbs (d + 13) z (r 31) E hF hz c2
      rw [e4']
      simp only [Option.bind_some]
      obtain ⟨h5, e5, f5, t5⟩ := c_tell2 (d + 18) h4 (Int32.toInt64 (sh_sS n F z r (nI t))) (Int32.toInt64 (sh_sS n F z r (r 31)))
      rw [e5]
      exact ⟨h5, rfl, sh_c_tr c4 (sh_c_of f5 (by decide)), t5⟩
theorem t_slow_l (d z : Nat) (p : Int32) {N n m L : Nat} {r : Nat → Int32} {h : av_M} {F : (Nat → Int32) → (Nat → Int32)} (E : sh_En N n m L r h) (hF : F = sh_F n m h) (hz : z < 1000) : ∀ t (h1 : av_M), t ≤ 10 → sh_m h h1 → h1 44 1 = h 44 1 → h1 45 = h 45 →
    ∃ h', av_xp (d + 20) 228 34 [.ref 44, .int p, .int (nI z), .int (nI t - 1)] [] h1 = some (sh_slA (sh_sl (fun v => sh_sS n F z r (nI v)) p t), 0, h') ∧ sh_m h h' ∧ sh_o2 (sh_slL (fun v => sh_sS n F z r (nI v)) (sh_sS n F z r (r 31)) (sh_sl (fun v => sh_sS n F z r (nI v)) p t)) h h' := by
  have hn := E.1.1.1
  intro t
  induction t with
  | zero =>
    intro h1 ht hc e3 e4
    rw [eX7_slows_r44_34, if_pos (show nI 0 - 1 < 0 by decide), if_neg (show ¬ 0 ≤ nI 0 - 1 by decide)]
    exact ⟨h1, rfl, hc, e3, e4⟩
  | succ t ih =>
    intro h1 ht hc e3 e4
    obtain ⟨h2, e2, c2, q3, q4⟩ := t_heldBy (d + 13) z (nI t) E hF hz hc
    rw [nI_pred, eX7_slows_r44_34, if_neg (sh_nneg (by omega)), e2]
    simp only [Option.bind_some]
    have es : sh_sl (fun v => sh_sS n F z r (nI v)) p (t + 1) = if sh_sS n F z r (nI t) < p then sh_sl (fun v => sh_sS n F z r (nI v)) p t else some t := rfl
    rw [es]
    by_cases q : sh_sS n F z r (nI t) < p
    · rw [if_pos q, if_neg (by rw [Int32.not_le]; exact q), sh_pm]
      exact ih h2 (by omega) c2 (by rw [q3, e3]) (by rw [q4, e4])
    · rw [if_neg q, if_pos (by rw [← Int32.not_lt]; exact q), if_pos (nI_pos' (by omega))]
      obtain ⟨h3, e3', c3, p3, p4⟩ := t_heldBy (d + 13) z (nI t) E hF hz (sh_m_s (k := 1) (v := 0) (by decide) c2)
      rw [e3']
      simp only [Option.bind_some]
      obtain ⟨h4, e4', m4, f4, t4⟩ := c_ent1 (d + 19) h3 (Int32.toInt64 (sh_sS n F z r (nI t))) (by rw [p3]; rfl)
      rw [e4']
      simp only [Option.bind_some]
      have c4 := sh_m_tr c3 m4
      rw [show h4 48 31 = r 31 from (t_env E c4).2.2.1 31 (by decide)]
      obtain ⟨h5, e5, c5, p5, p6⟩ := t_heldBy (d + 13) z (r 31) E hF hz c4
      rw [e5]
      simp only [Option.bind_some]
      obtain ⟨h6, e6, m6, f6, t6⟩ := c_enters (d + 19) h5 [Int32.toInt64 (sh_sS n F z r (nI t))] (Int32.toInt64 (sh_sS n F z r (r 31))) (by simp) (by unfold sh_t2 at t4 ⊢; rw [p5, p6]; exact t4)
      rw [e6]
      exact ⟨h6, rfl, sh_m_tr c5 m6, t6⟩
theorem sh_slL_le {S : Nat → Int32} {w : Int32} (o : Option Nat) : ∀ l, sh_slL S w o = some l → l.length ≤ 7 := by
  intro l q
  cases o with
  | none => cases q
  | some z =>
    injection q with q
    subst q
    simp
theorem c_slows (p v : Int32) : sh_P 74 228 [.int p, .int v] := sh_qF fun d N n m L r h F E hF => by
  obtain ⟨a1, a2, a3, a4, a5, a6, a7, a8⟩ := id E.1.1
  have eM0 : ∀ h' : av_M, av_x (d + 100) 228 [.ref 44, .int p, .int v] h' = if (sh_ir 0 7 p && sh_ir 1 60 v) = true then av_xp (d + 99) 228 34 [.ref 44, .int p, .int v, .int 9] [] (av_u h' 44 0 0) else some (-1, 0, av_u h' 44 0 0) := by
    intro h'
    rw [eX7_slows_r44_in, c_inI _ p 0 7 _ _ _ (by decide) (by decide)]
    simp only [Option.bind_some]
    cases sh_ir 0 7 p
    · rfl
    · rw [if_neg (by decide), c_inI _ v 1 60 _ _ _ (by decide) (by decide)]
      simp only [Option.bind_some]
      cases sh_ir 1 60 v <;> rfl
  have eX0 : av_x (d + 100) 74 [.ref 0, .int p, .int v] h = if (sh_ir 0 7 p && sh_ir 1 60 v) = true then av_xp (d + 99) 74 22 [.ref 0, .int p, .int v, .int 9, .null] [] h else some (-1, 0, h) := by
    rw [eX6_slows_r0_in]
    by_cases g1 : p < 0
    · rw [if_pos g1, sh_ir_lt g1]; rfl
    · by_cases g2 : 7 < p
      · rw [if_neg g1, if_pos g2, sh_ir_gt g2]; rfl
      · rw [if_neg g1, if_neg g2, sh_ir_in g1 g2, c_isSpanX]
        simp only [Option.bind_some]
        cases sh_ir 1 60 v <;> rfl
  cases hT : (sh_ir 0 7 p && sh_ir 1 60 v)
  · exact ⟨-1, none, fun _ q => (nomatch q), sh_QX_n (by rw [eX0, hT, if_neg (by decide)]), fun h' hc E' _ => sh_QM_n (v := 0) (by rw [eM0, hT, if_neg (by decide)])⟩
  · have hv : sh_ir 1 60 v = true := by
      simp only [Bool.and_eq_true] at hT
      exact hT.2
    obtain ⟨z, z1, z2, rfl⟩ := sh_ir_nat (lo := 1) (hi := 60) (by decide) (by decide) hv
    refine ⟨sh_slA (sh_sl (fun v => sh_sS n F z r (nI v)) p 10), sh_slL (fun v => sh_sS n F z r (nI v)) (sh_sS n F z r (r 31)) (sh_sl (fun v => sh_sS n F z r (nI v)) p 10), sh_slL_le _, ?_, ?_⟩
    · obtain ⟨h1, e1, c1, o1⟩ := f_slow_l (d + 79) z p E hF (by omega) 10 h .null (by omega) (Or.inl rfl) (sh_c_refl h) rfl rfl
      refine ⟨h1, ?_, c1, o1⟩
      rw [eX0, hT, if_pos rfl]
      exact e1
    · intro h' hc E' hF'
      obtain ⟨h1, e1, c1, o1⟩ := t_slow_l (d + 79) z p E' hF' (by omega) 10 (av_u h' 44 0 0) (by omega) (sh_m_s (by decide) (sh_m_refl h')) rfl rfl
      refine ⟨h1, ?_, c1, o1⟩
      rw [eM0, hT, if_pos rfl]
      exact e1
