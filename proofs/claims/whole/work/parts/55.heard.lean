/-! PURE, 45: what was heard; fits -/
def sh_ow (n : Nat) (col str r : Nat → Int32) (p v : Int32) : Int32 := if p = 0 then sh_oc n col v else if p = 1 then sh_lp (sh_sF (fun k => !decide (str k < v))) n 0 0 else if p = 2 then (if v = 1 then sh_hd n r else sh_e n &&& (sh_hd n r ^^^ (-1))) else if p = 3 then sh_lp (sh_sF (fun k => !decide (r (14 + k) < v))) n 0 0 else (if v = 1 then sh_tt n r else sh_e n &&& (sh_tt n r ^^^ (-1)))
def sh_is (n : Nat) (col str r : Nat → Int32) (p v : Int32) (k : Nat) : Bool := if p = 0 then decide (col k = v) else if p = 1 then !decide (str k < v) else if p = 2 then decide (sh_i (sh_b (sh_hd n r) k) = v) else if p = 3 then !decide (r (14 + k) < v) else decide (sh_i (sh_b (sh_tt n r) k) = v)
theorem sh_set_bt {n : Nat} (hn : n ≤ 7) {s v : Int32} (hs : ∀ j, n ≤ j → j < 32 → bt s j = false) (hv : v = 0 ∨ v = 1) {k : Nat} (hk : k < 32) : bt (if v = 1 then s else sh_e n &&& (s ^^^ (-1))) k = (decide (k < n) && decide (sh_i (sh_b s k) = v)) := by
  rw [sh_b_bt _ hk]
  rcases hv with rfl | rfl
  · rw [if_neg (show ¬ (0 : Int32) = 1 by decide), b_and, b_xor, b_m1 k hk, sh_e_bt n hn k hk]
    cases bt s k <;> rfl
  · rw [if_pos rfl]
    by_cases e : k < n
    · rw [decide_eq_true e]
      cases bt s k <;> rfl
    · rw [decide_eq_false e, hs k (by omega) hk]
      rfl
theorem sh_ow_bt {n : Nat} (hn : n ≤ 7) (col str r : Nat → Int32) {p v : Int32} (hv : sh_ir (sh_lo p) (sh_hi p) v = true) {k : Nat} (hk : k < 32) : bt (sh_ow n col str r p v) k = (decide (k < n) && sh_is n col str r p v k) := by
  unfold sh_ow sh_is
  by_cases e0 : p = 0
  · rw [if_pos e0, if_pos e0]
    unfold sh_oc
    rw [sh_cF_s, sh_sF_bt _ n k (by omega) hk]
  · rw [if_neg e0, if_neg e0]
    by_cases e1 : p = 1
    · rw [if_pos e1, if_pos e1, sh_sF_bt _ n k (by omega) hk]
    · rw [if_neg e1, if_neg e1]
      by_cases e3 : p = 3
      · rw [if_neg (by rw [e3]; decide), if_pos e3, if_neg (by rw [e3]; decide), if_pos e3, sh_sF_bt _ n k (by omega) hk]
      · have h01 : v = 0 ∨ v = 1 := by
          unfold sh_lo sh_hi at hv
          rw [if_neg e1, if_neg e0, if_neg e1, if_neg e3] at hv
          exact sh_01 hv
        by_cases e2 : p = 2
        · rw [if_pos e2, if_pos e2]
          refine sh_set_bt hn (fun j h1 h2 => ?_) h01 hk
          rw [sh_hd_bt hn r h2, decide_eq_false (by omega)]
          rfl
        · rw [if_neg e2, if_neg e3, if_neg e2, if_neg e3]
          refine sh_set_bt hn (fun j h1 h2 => ?_) h01 hk
          unfold sh_tt
          rw [sh_tF_s, sh_sF_bt _ n j (by omega) h2, decide_eq_false (by omega)]
          rfl
theorem c_asStrong_l (d n : Nat) (h : av_M) (v : Int32) (hn : n ≤ 7) (hm : h 5 6 = nI n) : ∀ t k a, k + t = n → av_xp d 35 4 [.ref 5, .int v, .int a, .int (nI k)] [] h = some (sh_lp (sh_sF (fun k => !decide (h 7 k < v))) t k a, 0, h) := by
  intro t
  induction t with
  | zero =>
    intro k a e
    rw [eX4_asStrong_r5_4, hm, if_pos (sh_ge (by omega) (by omega))]
    rfl
  | succ t ih =>
    intro k a e
    rw [eX4_asStrong_r5_4, hm, if_neg (sh_lt (by omega) (by omega))]
    simp only [sh_inb (show k < 7 by omega) (by decide), cond_true, nI_1, nI_clamp (show k < 2 ^ 31 by omega)]
    by_cases hc : h 7 k < v
    · rw [if_pos hc, ih (k + 1) _ (by omega)]
      simp [sh_lp, sh_sF, hc]
    · rw [if_neg hc, ih (k + 1) _ (by omega)]
      simp [sh_lp, sh_sF, hc]
theorem c_asFar_l (d n : Nat) (h : av_M) (v : Int32) (r : Nat → Int32) (hn : n ≤ 7) (hm : h 5 6 = nI n) (hv : sh_SV 5 h r) : ∀ t k a, k + t = n → av_xp d 36 4 [.ref 5, .int v, .int a, .int (nI k)] [] h = some (sh_lp (sh_sF (fun k => !decide (r (14 + k) < v))) t k a, 0, h) := by
  intro t
  induction t with
  | zero =>
    intro k a e
    rw [eX4_asFarAlong_r5_4, hm, if_pos (sh_ge (by omega) (by omega))]
    rfl
  | succ t ih =>
    intro k a e
    rw [eX4_asFarAlong_r5_4, hm, if_neg (sh_lt (by omega) (by omega))]
    simp only [sh_inb (show k < 7 by omega) (by decide), cond_true, nI_1, nI_clamp (show k < 2 ^ 31 by omega)]
    rw [sh_SV_get hv (a := 10) (s := k) (i := 14 + k) (by omega)]
    by_cases hc : r (14 + k) < v
    · rw [if_pos hc, ih (k + 1) _ (by omega)]
      simp [sh_lp, sh_sF, hc]
    · rw [if_neg hc, ih (k + 1) _ (by omega)]
      simp [sh_lp, sh_sF, hc]
theorem c_ofWhom (d n : Nat) (h : av_M) (r : Nat → Int32) (p v : Int32) (hn : n ≤ 7) (hm : h 5 6 = nI n) (he : h 5 7 = sh_e n) (hv : sh_SV 5 h r) : av_x (d + 3) 143 [.ref 0, .int p, .int v] h = some (sh_ow n (h 6) (h 7) r p v, 0, h) := by
  rw [eX6_ofWhom_r0_in]
  unfold sh_ow
  by_cases e0 : p = 0
  · rw [if_pos e0, if_pos e0, c_ofColour5 _ n h v hn hm]
    rfl
  · rw [if_neg e0, if_neg e0]
    by_cases e1 : p = 1
    · rw [if_pos e1, if_pos e1, eX4_asStrong_r5_in, show (0 : Int32) = nI 0 from rfl, c_asStrong_l _ n h v hn hm n 0 (nI 0) (by omega)]
      rfl
    · rw [if_neg e1, if_neg e1]
      by_cases e2 : p = 2
      · rw [if_pos e2, if_pos e2]
        by_cases ev : v = 1
        · rw [if_pos ev, if_pos ev, c_holding5 _ n h r he hv]
          rfl
        · rw [if_neg ev, if_neg ev, c_holding5 _ n h r he hv, he]
          rfl
      · rw [if_neg e2, if_neg e2]
        by_cases e3 : p = 3
        · rw [if_pos e3, if_pos e3, eX4_asFarAlong_r5_in, show (0 : Int32) = nI 0 from rfl, c_asFar_l _ n h v r hn hm hv n 0 (nI 0) (by omega)]
          rfl
        · rw [if_neg e3, if_neg e3]
          by_cases ev : v = 1
          · rw [if_pos ev, if_pos ev, c_taut5 _ n h r hn hm he hv]
            rfl
          · rw [if_neg ev, if_neg ev, c_taut5 _ n h r hn hm he hv, he]
            rfl
theorem c_isSo (d n k : Nat) (h : av_M) (r : Nat → Int32) (p v : Int32) (hk : k < n) (hn : n ≤ 7) (hm : h 44 3 = nI n) (hv : sh_MV 48 h r) : av_x (d + 4) 252 [.ref 44, .int (nI k), .int p, .int v] h = some (sh_i (sh_is n (h 46) (h 47) r p v k), 0, h) := by
  rw [eX7_isSo_r44_in]
  unfold sh_is
  have fin : ∀ c : Prop, ∀ _ : Decidable c, (if c then some (((1 &&& 1) : Int32), (0 : Int64), h) else some (((0 &&& 1) : Int32), (0 : Int64), h)) = some (sh_i (decide c), 0, h) := by
    intro c hc
    by_cases q : c
    · rw [if_pos q, decide_eq_true q]; rfl
    · rw [if_neg q, decide_eq_false q]; rfl
  have fin2 : ∀ c : Prop, ∀ _ : Decidable c, (if c then some (((0 &&& 1) : Int32), (0 : Int64), h) else some (((1 &&& 1) : Int32), (0 : Int64), h)) = some (sh_i (!decide c), 0, h) := by
    intro c hc
    by_cases q : c
    · rw [if_pos q, decide_eq_true q]; rfl
    · rw [if_neg q, decide_eq_false q]; rfl
  by_cases e0 : p = 0
  · rw [if_pos e0, if_pos e0, sh_inb (show k < 7 by omega) (by decide), nI_clamp (by omega)]
    exact fin _ _
  · rw [if_neg e0, if_neg e0]
    by_cases e1 : p = 1
    · rw [if_pos e1, if_pos e1, sh_inb (show k < 7 by omega) (by decide), nI_clamp (by omega)]
      exact fin2 _ _
    · rw [if_neg e1, if_neg e1]
      by_cases e2 : p = 2
      · rw [if_pos e2, if_pos e2, c_holdingM48 _ n h r hm hv]
        simp only [Option.bind_some, c_has, c_flag]
        exact fin _ _
      · rw [if_neg e2, if_neg e2]
        by_cases e3 : p = 3
        · rw [if_pos e3, if_pos e3, show (14 : Int32) + nI k = nI (14 + k) from nI_add 14 k, sh_inb (show 14 + k < 33 by omega) (by decide), nI_clamp (by omega), hv (14 + k) (by omega)]
          exact fin2 _ _
        · rw [if_neg e3, if_neg e3, c_tautM48 _ n h r hn hm hv]
          simp only [Option.bind_some, c_has, c_flag]
          exact fin _ _
/-- those that fit -/
def sh_fi (n : Nat) (col str r : Nat → Int32) (s : Nat) (g0 g1 : Nat → Int32) : Int32 := sh_lp (sh_sF (fun k => sh_ev (fun i => sh_is n col str r (g0 i) (g1 i) k) s 0)) n 0 0
def sh_SH (s : Nat) (g0 g1 : Nat → Int32) : Prop := s ≤ 12 ∧ ∀ i, i < s → sh_ir 0 4 (g0 i) = true ∧ sh_ir (sh_lo (g0 i)) (sh_hi (g0 i)) (g1 i) = true
theorem c_fitR_l (d n s : Nat) (h : av_M) (r g0 g1 : Nat → Int32) (hn : n ≤ 7) (hm : h 5 6 = nI n) (he : h 5 7 = sh_e n) (hv : sh_SV 5 h r) (hs : h 34 4 = nI s) (hS : sh_SH s g0 g1) (hg : ∀ i, i < s → h 35 i = g0 i ∧ h 36 i = g1 i) : ∀ t k a, k + t = s → av_xp (d + 3) 142 10 [.ref 0, .int a, .int (nI k)] [] h = some (sh_lp (fun i a => a &&& sh_ow n (h 6) (h 7) r (g0 i) (g1 i)) t k a, 0, h) := by
  have hs12 := hS.1
  intro t
  induction t with
  | zero =>
    intro k a e
    rw [eX6_fitRumours_r0_10, hs, if_pos (sh_ge (by omega) (by omega))]
    rfl
  | succ t ih =>
    intro k a e
    rw [eX6_fitRumours_r0_10, hs, if_neg (sh_lt (by omega) (by omega)), sh_inb (show k < 12 by omega) (by decide), nI_clamp (by omega), (hg k (by omega)).1, (hg k (by omega)).2]
    simp only [cond_true]
    rw [c_ofWhom _ n h r _ _ hn hm he hv]
    simp only [Option.bind_some, nI_1]
    exact ih (k + 1) _ (by omega)
theorem sh_and_bt {n s : Nat} (hn : n ≤ 7) (col str r g0 g1 : Nat → Int32) (hS : sh_SH s g0 g1) {j : Nat} (hj : j < 32) : ∀ t k a, k + t ≤ s → (bt a j = true → j < n) → bt (sh_lp (fun i a => a &&& sh_ow n col str r (g0 i) (g1 i)) t k a) j = (bt a j && sh_ev (fun i => sh_is n col str r (g0 i) (g1 i) j) t k) := by
  intro t
  induction t with
  | zero => intro k a _ _; show bt a j = (bt a j && true); rw [Bool.and_true]
  | succ t ih =>
    intro k a e ha
    have hb : bt (a &&& sh_ow n col str r (g0 k) (g1 k)) j = (bt a j && sh_is n col str r (g0 k) (g1 k) j) := by
      rw [b_and, sh_ow_bt hn col str r (hS.2 k (by omega)).2 hj]
      cases h1 : bt a j
      · rfl
      · rw [decide_eq_true (ha h1)]; rfl
    have := ih (k + 1) (a &&& sh_ow n col str r (g0 k) (g1 k)) (by omega) (fun q => ha (by rw [hb, Bool.and_eq_true] at q; exact q.1))
    rw [hb, Bool.and_assoc] at this
    exact this
theorem sh_fi_eq {n s : Nat} (hn : n ≤ 7) (col str r g0 g1 : Nat → Int32) (hS : sh_SH s g0 g1) : sh_lp (fun i a => a &&& sh_ow n col str r (g0 i) (g1 i)) s 0 (sh_e n) = sh_fi n col str r s g0 g1 := by
  apply b_ext
  intro j hj
  unfold sh_fi
  rw [sh_sF_bt _ n j (by omega) hj, sh_and_bt hn col str r g0 g1 hS hj s 0 (sh_e n) (by omega) (fun q => by rw [sh_e_bt n hn j hj] at q; exact of_decide_eq_true q), sh_e_bt n hn j hj]
theorem c_fitR (d n s : Nat) (h : av_M) (r g0 g1 : Nat → Int32) (hn : n ≤ 7) (hm : h 5 6 = nI n) (he : h 5 7 = sh_e n) (hv : sh_SV 5 h r) (hs : h 34 4 = nI s) (hS : sh_SH s g0 g1) (hg : ∀ i, i < s → h 35 i = g0 i ∧ h 36 i = g1 i) : av_x (d + 4) 142 [.ref 0] h = some (sh_fi n (h 6) (h 7) r s g0 g1, 0, h) := by
  rw [eX6_fitRumours_r0_in, he, ← sh_fi_eq hn (h 6) (h 7) r g0 g1 hS]
  exact c_fitR_l d n s h r g0 g1 hn hm he hv hs hS hg s 0 _ (by omega)
theorem t_fit_in (d n s k : Nat) (h : av_M) (r : Nat → Int32) (a : Int32) (hk : k < n) (hn : n ≤ 7) (hm : h 44 3 = nI n) (hv : sh_MV 48 h r) (hs : h 44 33 = nI s) (hs12 : s ≤ 12) : ∀ t i (b : Bool), i + t = s → ∃ x, av_xp (d + 4) 253 17 [.ref 44, .int a, .int (nI k), .int (sh_i b), .int (nI i)] [] h = av_xp (d + 4) 253 4 [.ref 44, .int (if (b && sh_ev (fun i => sh_is n (h 46) (h 47) r (h 64 i) (h 65 i) k) t i) = true then a ||| ((1 : Int32) <<< (nI k &&& 31)) else a), .int (nI (k + 1)), .int x, .int (nI s)] [] h := by
  intro t
  induction t with
  | zero =>
    intro i b e
    rw [eX7_fitting_r44_17, hs, if_pos (sh_ge (by omega) (by omega)), show i = s by omega]
    unfold sh_ev
    cases b
    · rw [if_pos (show sh_i false = 0 from rfl), Int32.or_zero, nI_1]
      exact ⟨_, rfl⟩
    · rw [if_neg (show ¬ sh_i true = 0 by decide), nI_1]
      exact ⟨_, rfl⟩
  | succ t ih =>
    intro i b e
    rw [eX7_fitting_r44_17, hs, if_neg (sh_lt (by omega) (by omega))]
    cases b
    · rw [if_pos (show sh_i false = 0 from rfl), nI_1]
      exact ih (i + 1) false (by omega)
    · rw [if_neg (show ¬ sh_i true = 0 by decide), sh_inb (show i < 12 by omega) (by decide), nI_clamp (by omega)]
      simp only [cond_true]
      rw [c_isSo _ n k h r _ _ hk hn hm hv]
      simp only [Option.bind_some, nI_1]
      have R := ih (i + 1) (sh_is n (h 46) (h 47) r (h 64 i) (h 65 i) k) (by omega)
      unfold sh_ev
      rw [Bool.true_and]
      cases hq : sh_is n (h 46) (h 47) r (h 64 i) (h 65 i) k
      · rw [hq] at R
        rw [if_pos (show sh_i false = 0 from rfl)]
        exact R
      · rw [hq] at R
        rw [if_neg (show ¬ sh_i true = 0 by decide)]
        exact R
theorem t_fit_l (d n s : Nat) (h : av_M) (r : Nat → Int32) (hn : n ≤ 7) (hm : h 44 3 = nI n) (hv : sh_MV 48 h r) (hs : h 44 33 = nI s) (hs12 : s ≤ 12) : ∀ t k a (x y : Value), k + t = n → (x = .null ∧ y = .null ∨ ∃ p q, x = .int p ∧ y = .int q) → av_xp (d + 4) 253 4 [.ref 44, .int a, .int (nI k), x, y] [] h = some (sh_lp (sh_sF (fun k => sh_ev (fun i => sh_is n (h 46) (h 47) r (h 64 i) (h 65 i) k) s 0)) t k a, 0, h) := by
  intro t
  induction t with
  | zero =>
    intro k a x y e hx
    rw [mX7_fitting_r44_4 _ _ _ _ _ _ hx, hm, if_pos (sh_ge (by omega) (by omega))]
    rfl
  | succ t ih =>
    intro k a x y e hx
    obtain ⟨z, e1⟩ := t_fit_in d n s k h r a (by omega) hn hm hv hs hs12 s 0 true (by omega)
    have e1' : av_xp (d + 4) 253 17 [.ref 44, .int a, .int (nI k), .int 1, .int 0] [] h = _ := e1
    rw [mX7_fitting_r44_4 _ _ _ _ _ _ hx, hm, if_neg (sh_lt (by omega) (by omega)), e1', Bool.true_and]
    exact ih (k + 1) _ _ _ (by omega) (Or.inr ⟨_, _, rfl, rfl⟩)
theorem c_fitting (d n s : Nat) (h : av_M) (r : Nat → Int32) (hn : n ≤ 7) (hm : h 44 3 = nI n) (hv : sh_MV 48 h r) (hs : h 44 33 = nI s) (hs12 : s ≤ 12) : av_x (d + 5) 253 [.ref 44] h = some (sh_fi n (h 46) (h 47) r s (h 64) (h 65), 0, h) := by
  rw [eX7_fitting_r44_in]
  exact t_fit_l d n s h r hn hm hv hs hs12 n 0 0 .null .null (by omega) (Or.inl ⟨rfl, rfl⟩)
theorem sh_is_cong {n : Nat} {col col' str str' : Nat → Int32} (hc : ∀ j, j < n → col j = col' j) (hs : ∀ j, j < n → str j = str' j) (r : Nat → Int32) (p v : Int32) {k : Nat} (hk : k < n) : sh_is n col str r p v k = sh_is n col' str' r p v k := by
  unfold sh_is
  rw [hc k hk, hs k hk]
theorem sh_ev_cong {P Q : Nat → Bool} : ∀ t k, (∀ i, k ≤ i → i < k + t → P i = Q i) → sh_ev P t k = sh_ev Q t k := by
  intro t
  induction t with
  | zero => intro k _; rfl
  | succ t ih =>
    intro k h
    unfold sh_ev
    rw [h k (Nat.le_refl _) (by omega), ih (k + 1) (fun i i1 i2 => h i (by omega) (by omega))]
theorem sh_fi_cong {n : Nat} {col col' str str' : Nat → Int32} (hc : ∀ j, j < n → col j = col' j) (hs : ∀ j, j < n → str j = str' j) (r : Nat → Int32) (s : Nat) (g0 g1 : Nat → Int32) : sh_fi n col str r s g0 g1 = sh_fi n col' str' r s g0 g1 := by
  unfold sh_fi
  refine sh_lp_cong n 0 0 (fun j _ hj a => ?_)
  unfold sh_sF
  have q := sh_ev_cong (P := fun i => sh_is n col str r (g0 i) (g1 i) j) (Q := fun i => sh_is n col' str' r (g0 i) (g1 i) j) s 0 (fun i _ _ => sh_is_cong hc hs r (g0 i) (g1 i) (show j < n by omega))
  simp only [q]
theorem c_fits : sh_P 89 254 [] := sh_qF fun d N n m L0 r h F E hF => by
  obtain ⟨a1, a2, a3, a4, a5, a6, a7, a8⟩ := id E.1.1
  obtain ⟨s, s1, s2, s3, s4, s5⟩ := id E.1.2.2.2.2.2.2.1
  have hS : sh_SH s (h 64) (h 65) := ⟨s1, fun i hi => (s5 i hi).2.2⟩
  have eF : sh_fi n (h 6) (h 7) r s (h 64) (h 65) = sh_fi n (h 46) (h 47) r s (h 64) (h 65) := sh_fi_cong (fun j hj => (a7 j hj).1) (fun j hj => (a7 j hj).2.1) r s _ _
  refine ⟨sh_fi n (h 46) (h 47) r s (h 64) (h 65), some [Int32.toInt64 (sh_bc (sh_fi n (h 46) (h 47) r s (h 64) (h 65)))], fun l q => by injection q with q; subst q; simp, ?_, ?_⟩
  · obtain ⟨h2, e2, f2, t2⟩ := c_tell (d + 97) h (Int32.toInt64 (sh_bc (sh_fi n (h 46) (h 47) r s (h 64) (h 65))))
    refine ⟨h2, ?_, sh_c_of f2 (by decide), t2⟩
    rw [eX6_fits_r0_in, c_fitR _ n s h r (h 64) (h 65) a1 a2 a3 a4 s3 hS (fun i hi => ⟨(s5 i hi).1, (s5 i hi).2.1⟩), eF]
    simp only [Option.bind_some, c_bc]
    rw [e2]
    rfl
  · intro h' hc E' hF'
    obtain ⟨b1, b2, b3, b4, b5, b6, b7, b8⟩ := id E'.1.1
    have q46 : h' 46 = h 46 := hc 46 (by decide)
    have q47 : h' 47 = h 47 := hc 47 (by decide)
    have q64 : h' 64 = h 64 := hc 64 (by decide)
    have q65 : h' 65 = h 65 := hc 65 (by decide)
    have q33 : (av_u h' 44 0 0) 44 33 = nI s := by show h' 44 33 = _; rw [hc 44 (by decide)]; exact s4
    obtain ⟨h2, e2, m2, f2, t2⟩ := c_ent1 (d + 98) (av_u (av_u h' 44 0 0) 44 1 0) (Int32.toInt64 (sh_bc (sh_fi n (h 46) (h 47) r s (h 64) (h 65)))) rfl
    refine ⟨h2, ?_, sh_m_tr (sh_m_s (k := 1) (v := 0) (by decide) (sh_m_s (k := 0) (v := 0) (by decide) (sh_m_refl h'))) m2, t2⟩
    rw [eX7_fits_r44_in, c_fitting _ n s (av_u h' 44 0 0) r a1 b5 b6 q33 s1, show (av_u h' 44 0 0) 46 = h 46 from q46, show (av_u h' 44 0 0) 47 = h 47 from q47, show (av_u h' 44 0 0) 64 = h 64 from q64, show (av_u h' 44 0 0) 65 = h 65 from q65]
    simp only [Option.bind_some, c_bc]
    rw [e2]
    rfl
