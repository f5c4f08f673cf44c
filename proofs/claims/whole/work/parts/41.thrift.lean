/-! PURE, 31: calls: thrift, mole, slows -/
theorem sh_pm (x : Int32) : x + (-1) = x - 1 := by
  rw [Int32.sub_eq_add_neg]
def sh_ht (n : Nat) (F : (Nat → Int32) → (Nat → Int32)) (i z : Nat) (ρ : Nat → Int32) : Int32 := (sh_lp (sh_hdF n F i) z 0 (ρ, 0)).2
theorem f_held (d z i : Nat) {N n m L : Nat} {r ρ : Nat → Int32} {h h1 : av_M} {F : (Nat → Int32) → (Nat → Int32)} (E : sh_En N n m L r h) (hF : F = sh_F n m h) (hz : z < 1000) (hi : i < n) (hf : sh_fut n h ρ h1) : ∃ h', av_x (d + 6) 130 [.ref 0, .int (nI i), .int (nI z)] h1 = some (sh_ht n F i z ρ, 0, h') ∧ sh_c h h' ∧ h' 3 = h1 3 ∧ h' 4 = h1 4 := by
  obtain ⟨c1, c2, c3, c4, c5, c6⟩ := hf
  obtain ⟨E0, E1, E2, E3⟩ := id E
  obtain ⟨h2, e2, f2⟩ := c_hoursHeld d n m z i h1 ρ (sh_rl m (h 20)) E0.1.1 hi E3.1 hz c2 c3 c4 (by rw [c1 19 (by decide)]; exact E1) (fun g q => by rw [c1 20 (by decide)]; exact sh_rl_pl E3 g q)
  rw [f_F E c5 c6, ← hF] at e2
  exact ⟨h2, e2, sh_c_tr c1 (sh_c_of f2 (by decide)), f2 3 (by decide), f2 4 (by decide)⟩
theorem sh_hd_out {n : Nat} (hn : n ≤ 7) {col str : Nat → Int32} {rl : (Nat → Int32) → Int32} {i : Nat} (hi : i < 32) : ∀ (t k : Nat) (ρ : Nat → Int32), sh_b (sh_hd n ρ) i = false → sh_b (sh_hd n (sh_lp (fun _ => sh_hr n col str rl) t k ρ)) i = false := by
  intro t
  induction t with
  | zero => intro k ρ h; exact h
  | succ t ih => intro k ρ h; exact ih (k + 1) _ (sh_hd_mono hn col str rl ρ hi h)
theorem sh_ht_c {n : Nat} (hn : n ≤ 7) (col str : Nat → Int32) (rl : (Nat → Int32) → Int32) {i : Nat} (hi : i < 32) : ∀ (t k : Nat) (ρ : Nat → Int32) (a : Nat), ∃ c, c ≤ t ∧ (sh_lp (sh_hdF n (sh_hr n col str rl) i) t k (ρ, nI a)).2 = nI (a + c) ∧ (c = t ↔ (t = 0 ∨ sh_b (sh_hd n (sh_lp (fun _ => sh_hr n col str rl) t k ρ)) i = true)) := by
  intro t
  induction t with
  | zero => intro k ρ a; exact ⟨0, Nat.le_refl _, rfl, by simp⟩
  | succ t ih =>
    intro k ρ a
    show ∃ c, c ≤ t + 1 ∧ (sh_lp (sh_hdF n (sh_hr n col str rl) i) t (k + 1) (sh_hr n col str rl ρ, nI a + sh_i (sh_b (sh_hd n (sh_hr n col str rl ρ)) i))).2 = nI (a + c) ∧ (c = t + 1 ↔ (t + 1 = 0 ∨ sh_b (sh_hd n (sh_lp (fun _ => sh_hr n col str rl) t (k + 1) (sh_hr n col str rl ρ))) i = true))
    cases hb : sh_b (sh_hd n (sh_hr n col str rl ρ)) i
    · refine ⟨0, by omega, ?_, ?_⟩
      · rw [sh_hdF_out hn col str rl hi t (k + 1) _ _ hb]
        show nI a + 0 = _
        rw [Int32.add_zero]
        rfl
      · rw [sh_hd_out hn hi t (k + 1) _ hb]
        simp
    · obtain ⟨c, c1, c2, c3⟩ := ih (k + 1) (sh_hr n col str rl ρ) (a + 1)
      refine ⟨c + 1, by omega, ?_, ?_⟩
      · rw [show nI a + sh_i true = nI (a + 1) from nI_1 a, c2, show a + 1 + c = a + (c + 1) by omega]
      · constructor
        · intro q
          rcases c3.mp (by omega) with z | z
          · subst z
            exact Or.inr hb
          · exact Or.inr z
        · intro q
          rcases q with q | q
          · omega
          · have := c3.mpr (Or.inr q)
            omega
theorem sh_ht_n {N n m L : Nat} {r : Nat → Int32} {h : av_M} {F : (Nat → Int32) → (Nat → Int32)} (E : sh_En N n m L r h) (hF : F = sh_F n m h) {i : Nat} (hi : i < n) (z : Nat) (ρ : Nat → Int32) : ∃ c, c ≤ z ∧ sh_ht n F i z ρ = nI c ∧ (c = z ↔ (z = 0 ∨ sh_b (sh_hd n (sh_lp (fun _ => F) z 0 ρ)) i = true)) := by
  have hn := E.1.1.1
  subst hF
  obtain ⟨c, c1, c2, c3⟩ := sh_ht_c hn (h 46) (h 47) (sh_rl m (h 20)) (show i < 32 by omega) z 0 ρ 0
  refine ⟨c, c1, ?_, c3⟩
  rw [Nat.zero_add] at c2
  exact c2
theorem sh_ht_eq {N n m L : Nat} {r : Nat → Int32} {h : av_M} {F : (Nat → Int32) → (Nat → Int32)} (E : sh_En N n m L r h) (hF : F = sh_F n m h) {i : Nat} (hi : i < n) {z : Nat} (hz : z < 1000) (h1 : 1 ≤ z) (ρ : Nat → Int32) : sh_ht n F i z ρ = nI z ↔ sh_b (sh_hd n (sh_lp (fun _ => F) z 0 ρ)) i = true := by
  obtain ⟨c, c1, c2, c3⟩ := sh_ht_n E hF hi z ρ
  rw [c2, nI_eq (by omega) (by omega), c3]
  constructor
  · intro q
    rcases q with q | q
    · omega
    · exact q
  · intro q
    exact Or.inr q
/-! thrift -/
def sh_dn (P : Nat → Bool) : Nat → Int32 × Nat → Int32 × Nat
  | 0, z => z
  | t + 1, z => sh_dn P t (match P t with
    | true => (nI t, z.2 + 1)
    | false => z)
def sh_uq (P : Nat → Bool) : Nat → Int32 × Nat
  | 0 => (-2, 0)
  | t + 1 => match P t with
    | true => (if (sh_uq P t).2 = 0 then nI t else (sh_uq P t).1, (sh_uq P t).2 + 1)
    | false => sh_uq P t
theorem sh_uq_le (P : Nat → Bool) : ∀ t, (sh_uq P t).2 ≤ t := by
  intro t
  induction t with
  | zero => exact Nat.le_refl _
  | succ t ih =>
    unfold sh_uq
    cases P t <;> dsimp only <;> omega
theorem sh_uq_0 (P : Nat → Bool) : ∀ t, (sh_uq P t).2 = 0 → (sh_uq P t).1 = -2 := by
  intro t
  induction t with
  | zero => intro _; rfl
  | succ t ih =>
    unfold sh_uq
    cases P t
    · exact ih
    · intro q
      exact absurd q (by simp)
theorem sh_dn_uq (P : Nat → Bool) : ∀ t a c, sh_dn P t (a, c) = (if (sh_uq P t).2 = 0 then a else (sh_uq P t).1, c + (sh_uq P t).2) := by
  intro t
  induction t with
  | zero => intro a c; rfl
  | succ t ih =>
    intro a c
    unfold sh_dn sh_uq
    cases hP : P t
    · exact ih a c
    · dsimp only
      rw [ih, if_neg (show ¬ (sh_uq P t).2 + 1 = 0 by omega)]
      by_cases e : (sh_uq P t).2 = 0
      · rw [if_pos e, show c + 1 + (sh_uq P t).2 = c + ((sh_uq P t).2 + 1) by omega]
      · rw [if_neg e, show c + 1 + (sh_uq P t).2 = c + ((sh_uq P t).2 + 1) by omega]
def sh_tL (c : Nat) : Option (List Int64) := if c = 0 then none else some [Int32.toInt64 (nI c)]
theorem sh_tL_le (c : Nat) : ∀ l, sh_tL c = some l → l.length ≤ 7 := by
  intro l q
  unfold sh_tL at q
  by_cases e : c = 0
  · rw [if_pos e] at q; cases q
  · rw [if_neg e] at q
    injection q with q
    subst q
    simp
def sh_tP (n : Nat) (F : (Nat → Int32) → (Nat → Int32)) (i z : Nat) (r : Nat → Int32) (v : Nat) : Bool := sh_b (sh_hd n (sh_lp (fun _ => F) z 0 (upd r (7 + i) (nI v)))) i
theorem f_thr_l (d i z : Nat) {N n m L : Nat} {r : Nat → Int32} {h : av_M} {F : (Nat → Int32) → (Nat → Int32)} (E : sh_En N n m L r h) (hF : F = sh_F n m h) (hi : i < n) (hz : z < 1000) (hz1 : 1 ≤ z) : ∀ t (a : Int32) (c : Nat) (h1 : av_M), t + c ≤ 10 → sh_c h h1 → h1 3 = h 3 → h1 4 = h 4 →
    ∃ h', av_xp (d + 20) 72 30 [.ref 0, .int (nI i), .int (nI z), .int a, .int (nI c), .int (nI t - 1)] [] h1 = some ((sh_dn (sh_tP n F i z r) t (a, c)).1, 0, h') ∧ sh_c h h' ∧ sh_o1 (sh_tL (sh_dn (sh_tP n F i z r) t (a, c)).2) h h' := by
  have hn := E.1.1.1
  intro t
  induction t with
  | zero =>
    intro a c h1 e hc e3 e4
    rw [eX6_thrift_r0_30, if_pos (show nI 0 - 1 < 0 by decide)]
    show ∃ h', _ = some (a, 0, h') ∧ sh_c h h' ∧ sh_o1 (sh_tL c) h h'
    unfold sh_tL
    by_cases ec : c = 0
    · subst ec
      rw [if_pos (show nI 0 ≤ 0 by decide), if_pos rfl]
      exact ⟨h1, rfl, hc, by rw [e3], e4⟩
    · rw [if_neg (nI_nle (by omega) (by omega)), if_neg ec]
      obtain ⟨h2, e2, f2, t2⟩ := c_tell (d + 18) h1 (Int32.toInt64 (nI c))
      rw [e2]
      exact ⟨h2, rfl, sh_c_tr hc (sh_c_of f2 (by decide)), t2⟩
  | succ t ih =>
    intro a c h1 e hc e3 e4
    rw [nI_pred, eX6_thrift_r0_30, if_neg (sh_nneg (by omega))]
    obtain ⟨h2, e2, f2, q3, q4⟩ := f_copy (d + 19) E hc
    rw [e2]
    simp only [Option.bind_some]
    rw [sh_inb (show i < 7 by omega) (by decide), nI_clamp (by omega)]
    simp only [cond_true]
    have f3 := f_set (a := 16) (s := i) (i := 7 + i) (v := nI t) (by omega) f2
    obtain ⟨h4, e4', c4, p3, p4⟩ := f_held (d + 14) z i E hF hz hi f3
    rw [e4']
    simp only [Option.bind_some]
    rw [sh_pm, nI_1]
    have k3 : h4 3 = h 3 := by rw [p3]; show h2 3 = _; rw [q3, e3]
    have k4 : h4 4 = h 4 := by rw [p4]; show h2 4 = _; rw [q4, e4]
    have hP : (sh_ht n F i z (upd r (7 + i) (nI t)) = nI z) ↔ sh_tP n F i z r t = true := sh_ht_eq E hF hi hz hz1 _
    have es : sh_dn (sh_tP n F i z r) (t + 1) (a, c) = sh_dn (sh_tP n F i z r) t (match sh_tP n F i z r t with
      | true => (nI t, c + 1)
      | false => (a, c)) := rfl
    rw [es]
    cases hb : sh_tP n F i z r t
    · rw [if_neg (fun q => by rw [hP.mp q] at hb; cases hb)]
      exact ih a c h4 (by omega) c4 k3 k4
    · rw [if_pos (hP.mpr hb)]
      exact ih (nI t) (c + 1) h4 (by omega) c4 k3 k4
theorem t_thr_l (d i z : Nat) {N n m L : Nat} {r : Nat → Int32} {h : av_M} {F : (Nat → Int32) → (Nat → Int32)} (E : sh_En N n m L r h) (hF : F = sh_F n m h) (hi : i < n) (hz : z < 1000) : ∀ t k (h1 : av_M) (x : Value), k + t = 10 → sh_j1 x → sh_m h h1 → h1 44 1 = h 44 1 → h1 45 = h 45 →
    ∃ h', av_xp (d + 20) 224 36 [.ref 44, .int (nI i), .int (nI z), .int (sh_uq (sh_tP n F i z r) k).1, .int (nI (sh_uq (sh_tP n F i z r) k).2), .int (nI k), x] [] h1 = some ((sh_uq (sh_tP n F i z r) 10).1, 0, h') ∧ sh_m h h' ∧ sh_o2 (sh_tL (sh_uq (sh_tP n F i z r) 10).2) h h' := by
  have hn := E.1.1.1
  intro t
  induction t with
  | zero =>
    intro k h1 x e hx hc e3 e4
    have ek : k = 10 := by omega
    subst ek
    have hle := sh_uq_le (sh_tP n F i z r) 10
    generalize sh_uq (sh_tP n F i z r) 10 = y at hle ⊢
    have eq : av_xp (d + 20) 224 36 [.ref 44, .int (nI i), .int (nI z), .int y.1, .int (nI y.2), .int (nI 10), x] [] h1 = (if nI y.2 ≤ 0 then some ((y.1 : Int32), (0 : Int64), h1) else ((av_x (d + 20) 162 [.ref 44, .long (Int32.toInt64 (nI y.2))] (av_u h1 44 1 0)).bind fun q1 => some ((y.1 : Int32), (0 : Int64), q1.2.2))) := by
      rcases hx with rfl | ⟨w, rfl⟩
      · rw [eX7_thrift_r44_36, if_pos (show (9 : Int32) < nI 10 by decide)]
      · rw [eX7_thrift_r44_36_2, if_pos (show (9 : Int32) < nI 10 by decide)]
    rw [eq]
    unfold sh_tL
    by_cases ec : y.2 = 0
    · rw [ec, if_pos (show nI 0 ≤ 0 by decide), if_pos rfl]
      exact ⟨h1, rfl, hc, e3, e4⟩
    · rw [if_neg (nI_nle (by omega) (by omega)), if_neg ec]
      obtain ⟨h2, e2, m2, f2, t2⟩ := c_ent1 (d + 19) (av_u h1 44 1 0) (Int32.toInt64 (nI y.2)) rfl
      rw [e2]
      exact ⟨h2, rfl, sh_m_tr (sh_m_s (k := 1) (v := 0) (by decide) hc) m2, t2⟩
  | succ t ih =>
    intro k h1 x e hx hc e3 e4
    have hle := sh_uq_le (sh_tP n F i z r) k
    obtain ⟨h2, e2, f2, q3, q4⟩ := t_copy (d + 19) E hc
    have hG : sh_G n (upd r (7 + i) (nI k)) := sh_G_u E.1.1.2.2.2.2.2.2.2 (by omega) (fun _ _ => sh_B_nI (N := 9) (by omega) (by decide)) (by omega) (by omega) (by omega) (by omega)
    have f3 := th_set (i := 7 + i) (v := nI k) f2 hG
    obtain ⟨h4, e4', f4, p3, p4⟩ := t_goes (d + 14) z E hF hz f3
    have k3 : h4 44 1 = h 44 1 := by rw [p3]; show h2 44 1 = _; rw [q3, e3]
    have k4 : h4 45 = h 45 := by rw [p4]; show h2 45 = _; rw [q4, e4]
    have eq : av_xp (d + 20) 224 36 [.ref 44, .int (nI i), .int (nI z), .int (sh_uq (sh_tP n F i z r) k).1, .int (nI (sh_uq (sh_tP n F i z r) k).2), .int (nI k), x] [] h1 = (if sh_i (sh_tP n F i z r k) = 0 then av_xp (d + 20) 224 36 [.ref 44, .int (nI i), .int (nI z), .int (sh_uq (sh_tP n F i z r) k).1, .int (nI (sh_uq (sh_tP n F i z r) k).2 + sh_i (sh_tP n F i z r k)), .int (nI (k + 1)), .int (sh_i (sh_tP n F i z r k))] [] h4 else (if nI (sh_uq (sh_tP n F i z r) k).2 = 0 then av_xp (d + 20) 224 36 [.ref 44, .int (nI i), .int (nI z), .int (nI k), .int (nI (sh_uq (sh_tP n F i z r) k).2 + sh_i (sh_tP n F i z r k)), .int (nI (k + 1)), .int (sh_i (sh_tP n F i z r k))] [] h4 else av_xp (d + 20) 224 36 [.ref 44, .int (nI i), .int (nI z), .int (sh_uq (sh_tP n F i z r) k).1, .int (nI (sh_uq (sh_tP n F i z r) k).2 + sh_i (sh_tP n F i z r k)), .int (nI (k + 1)), .int (sh_i (sh_tP n F i z r k))] [] h4)) := by
      have tail : ∀ (T : Option av_R), (cond (av_inb ((7 : Int32) + nI i) 33) T none) = T := by
        intro T
        rw [show (7 : Int32) + nI i = nI (7 + i) from nI_add 7 i, sh_inb (show 7 + i < 33 by omega) (by decide), cond_true]
      have cl : Int32.toNatClampNeg ((7 : Int32) + nI i) = 7 + i := by rw [show (7 : Int32) + nI i = nI (7 + i) from nI_add 7 i, nI_clamp (by omega)]
      rcases hx with rfl | ⟨w, rfl⟩
      · rw [eX7_thrift_r44_36, if_neg (show ¬ (9 : Int32) < nI k from nI_nlt (b := k) (a := 9) (by omega) (by omega)), e2]
        simp only [Option.bind_some]
        rw [tail, cl, e4']
        simp only [Option.bind_some]
        rw [c_holdingM49 _ n h4 _ (t_env E f4.1).2.1 f4.2.1]
        simp only [Option.bind_some, c_has, c_flag, nI_1]
        rfl
      · rw [eX7_thrift_r44_36_2, if_neg (show ¬ (9 : Int32) < nI k from nI_nlt (b := k) (a := 9) (by omega) (by omega)), e2]
        simp only [Option.bind_some]
        rw [tail, cl, e4']
        simp only [Option.bind_some]
        rw [c_holdingM49 _ n h4 _ (t_env E f4.1).2.1 f4.2.1]
        simp only [Option.bind_some, c_has, c_flag, nI_1]
        rfl
    rw [eq]
    have i1 := ih (k + 1) h4 (.int (sh_i (sh_tP n F i z r k))) (by omega) (Or.inr ⟨_, rfl⟩) f4.1 k3 k4
    have es : sh_uq (sh_tP n F i z r) (k + 1) = (match sh_tP n F i z r k with
      | true => (if (sh_uq (sh_tP n F i z r) k).2 = 0 then nI k else (sh_uq (sh_tP n F i z r) k).1, (sh_uq (sh_tP n F i z r) k).2 + 1)
      | false => sh_uq (sh_tP n F i z r) k) := rfl
    rw [es] at i1
    cases hb : sh_tP n F i z r k
    · rw [hb] at i1
      rw [if_pos (show sh_i false = 0 from rfl), show sh_i false = 0 from rfl, Int32.add_zero]
      exact i1
    · rw [hb] at i1
      dsimp only at i1
      rw [if_neg (by decide), show sh_i true = 1 from rfl, nI_1]
      by_cases ec : (sh_uq (sh_tP n F i z r) k).2 = 0
      · rw [if_pos ec] at i1
        rw [if_pos (by rw [ec]; rfl)]
        exact i1
      · rw [if_neg ec] at i1
        rw [if_neg (nI_ne0 (by omega) (by omega))]
        exact i1
theorem c_thrift (p v : Int32) : sh_P 72 224 [.int p, .int v] := sh_qF fun d N n m L r h F E hF => by
  obtain ⟨a1, a2, a3, a4, a5, a6, a7, a8⟩ := id E.1.1
  cases hk : sh_kn n p
  · refine ⟨-1, none, fun _ q => (nomatch q), sh_QX_n ?_, fun h' hc E' _ => sh_QM_n (v := 0) ?_⟩
    · rw [eX6_thrift_r0_in, c_knowsp _ n h p a2, hk]
      rfl
    · rw [eX7_thrift_r44_in, c_isOne _ n _ p a1 (show (av_u h' 44 0 0) 44 3 = nI n from E'.1.1.2.2.2.2.1), hk]
      rfl
  · cases hv : sh_ir 1 60 v
    · refine ⟨-1, none, fun _ q => (nomatch q), sh_QX_n ?_, fun h' hc E' _ => sh_QM_n (v := 0) ?_⟩
      · rw [eX6_thrift_r0_in, c_knowsp _ n h p a2, hk]
        simp only [Option.bind_some, c_isSpanX, hv]
        rfl
      · rw [eX7_thrift_r44_in, c_isOne _ n _ p a1 (show (av_u h' 44 0 0) 44 3 = nI n from E'.1.1.2.2.2.2.1), hk]
        simp only [Option.bind_some]
        rw [if_neg (by decide), c_inI _ v 1 60 _ _ _ (by decide) (by decide), hv]
        rfl
    · obtain ⟨i, hi, rfl⟩ := sh_kn_of a1 hk
      obtain ⟨z, z1, z2, rfl⟩ := sh_ir_nat (lo := 1) (hi := 60) (by decide) (by decide) hv
      refine ⟨(sh_uq (sh_tP n F i z r) 10).1, sh_tL (sh_uq (sh_tP n F i z r) 10).2, sh_tL_le _, ?_, ?_⟩
      · obtain ⟨h1, e1, c1, o1⟩ := f_thr_l (d + 79) i z E hF hi (by omega) z1 10 (-2) 0 h (by omega) (sh_c_refl h) rfl rfl
        have ed := sh_dn_uq (sh_tP n F i z r) 10 (-2) 0
        have ed1 : (sh_dn (sh_tP n F i z r) 10 (-2, 0)).1 = (sh_uq (sh_tP n F i z r) 10).1 := by
          rw [ed]
          show (if _ then _ else _) = _
          by_cases q : (sh_uq (sh_tP n F i z r) 10).2 = 0
          · rw [if_pos q, sh_uq_0 _ _ q]
          · rw [if_neg q]
        have ed2 : (sh_dn (sh_tP n F i z r) 10 (-2, 0)).2 = (sh_uq (sh_tP n F i z r) 10).2 := by
          rw [ed]
          exact Nat.zero_add _
        rw [ed1] at e1
        rw [ed2] at o1
        refine ⟨h1, ?_, c1, o1⟩
        rw [eX6_thrift_r0_in, c_knowsp _ n h _ a2, hk]
        simp only [Option.bind_some, c_isSpanX, hv]
        rw [if_neg (by decide), if_neg (by decide)]
        exact e1
      · intro h' hc E' hF'
        obtain ⟨h1, e1, c1, o1⟩ := t_thr_l (d + 79) i z E' hF' hi (by omega) 10 0 (av_u h' 44 0 0) .null (by omega) (Or.inl rfl) (sh_m_s (by decide) (sh_m_refl h')) rfl rfl
        refine ⟨h1, ?_, c1, o1⟩
        rw [eX7_thrift_r44_in, c_isOne _ n _ _ a1 (show (av_u h' 44 0 0) 44 3 = nI n from E'.1.1.2.2.2.2.1), hk]
        simp only [Option.bind_some]
        rw [if_neg (by decide), c_inI _ _ 1 60 _ _ _ (by decide) (by decide), hv]
        exact e1
