/-! PURE, 36: calls: parties, colours -/
def sh_pA (n : Nat) (str : Nat → Int32) (A : Int32) (k : Nat) : Int32 := av_abs (A - 2 * sh_w n str (nI k))
def sh_pF (W : Int32) (f : Nat → Int32) (k b : Nat) : Nat := match sh_wi W k with
  | true => if f b ≤ f k then b else k
  | false => b
theorem sh_pF_128 {W : Int32} {f : Nat → Int32} {k b : Nat} (hk : k < 128) (hb : b < 128) : sh_pF W f k b < 128 := by
  unfold sh_pF
  cases sh_wi W k <;> dsimp only
  · exact hb
  · by_cases e : f b ≤ f k
    · rw [if_pos e]; exact hb
    · rw [if_neg e]; exact hk
theorem sh_w_0 (n : Nat) (hn : n ≤ 7) (str : Nat → Int32) : sh_w n str (nI 0) = 0 := by
  have key : ∀ t k, k + t ≤ 7 → sh_lp (sh_wF str (nI 0)) t k 0 = 0 := by
    intro t
    induction t with
    | zero => intro k _; rfl
    | succ t ih =>
      intro k e
      have hb : sh_b (nI 0) k = false := by rw [sh_b_bt _ (by omega)]; exact b_0 k
      show sh_lp (sh_wF str (nI 0)) t (k + 1) (sh_wF str (nI 0) k 0) = 0
      rw [show sh_wF str (nI 0) k 0 = 0 by unfold sh_wF; rw [hb]]
      exact ih (k + 1) (by omega)
  exact key n 0 (by omega)
def sh_pL (n : Nat) (str : Nat → Int32) (b : Nat) : List Int64 := [Int32.toInt64 (nI b), Int32.toInt64 (sh_w n str (nI b))]
theorem f_part_1 (d n k : Nat) (W A a b : Int32) (h : av_M) (x : Value) (hn : n ≤ 7) (hm : h 5 6 = nI n) (hk : k < 128) (hx : sh_j1 x) : ∃ x', sh_j1 x' ∧ av_xp (d + 20) 80 27 [.ref 0, .int W, .int A, .int a, .int b, .int (nI k), x] [] h = (match sh_wi W k with
    | false => av_xp (d + 20) 80 27 [.ref 0, .int W, .int A, .int a, .int b, .int (nI (k + 1)), x'] [] h
    | true => if a ≤ sh_pA n (h 7) A k then av_xp (d + 20) 80 27 [.ref 0, .int W, .int A, .int a, .int b, .int (nI (k + 1)), x'] [] h else av_xp (d + 20) 80 27 [.ref 0, .int W, .int A, .int (sh_pA n (h 7) A k), .int (nI k), .int (nI (k + 1)), x'] [] h) := by
  rw [mX6_parties_r0_27 _ _ _ _ _ _ _ _ hx, if_neg (show ¬ (128 : Int32) ≤ nI k from sh_lt (n := 128) (by omega) (by decide)), c_isWithin]
  simp only [Option.bind_some]
  cases hw : decide (nI k &&& (W ^^^ (-1)) = 0)
  · rw [if_pos (show sh_i false = 0 from rfl), nI_1, show sh_wi W k = false from hw]
    exact ⟨x, hx, rfl⟩
  · rw [if_neg (show ¬ sh_i true = 0 by decide), c_weight5 _ n h _ hn hm, show sh_wi W k = true from hw]
    simp only [Option.bind_some, nI_1]
    exact ⟨_, Or.inr ⟨_, rfl⟩, rfl⟩
theorem f_part_l (d n : Nat) (W A : Int32) (h : av_M) (hn : n ≤ 7) (hm : h 5 6 = nI n) : ∀ t k b (x : Value), k + t = 128 → b < 128 → sh_j1 x →
    ∃ h', av_xp (d + 20) 80 27 [.ref 0, .int W, .int A, .int (sh_pA n (h 7) A b), .int (nI b), .int (nI k), x] [] h = some (sh_pA n (h 7) A (sh_lp (sh_pF W (sh_pA n (h 7) A)) t k b), 0, h') ∧ sh_c h h' ∧ sh_t1 (sh_pL n (h 7) (sh_lp (sh_pF W (sh_pA n (h 7) A)) t k b)) h' := by
  intro t
  induction t with
  | zero =>
    intro k b x e hb hx
    have ek : k = 128 := by omega
    subst ek
    rw [mX6_parties_r0_27 _ _ _ _ _ _ _ _ hx, if_pos (show (128 : Int32) ≤ nI 128 by decide), c_weight5 _ n h _ hn hm]
    simp only [Option.bind_some]
    obtain ⟨h2, e2, f2, t2⟩ := c_tell2 (d + 18) h (Int32.toInt64 (nI b)) (Int32.toInt64 (sh_w n (h 7) (nI b)))
    rw [e2]
    exact ⟨h2, rfl, sh_c_of f2 (by decide), t2⟩
  | succ t ih =>
    intro k b x e hb hx
    obtain ⟨x', hx', e1⟩ := f_part_1 d n k W A (sh_pA n (h 7) A b) (nI b) h x hn hm (by omega) hx
    rw [e1]
    have step : sh_lp (sh_pF W (sh_pA n (h 7) A)) (t + 1) k b = sh_lp (sh_pF W (sh_pA n (h 7) A)) t (k + 1) (sh_pF W (sh_pA n (h 7) A) k b) := rfl
    rw [step]
    cases hw : sh_wi W k
    · have es : sh_pF W (sh_pA n (h 7) A) k b = b := by unfold sh_pF; rw [hw]
      rw [es]
      exact ih (k + 1) b x' (by omega) hb hx'
    · dsimp only
      by_cases q : sh_pA n (h 7) A b ≤ sh_pA n (h 7) A k
      · have es : sh_pF W (sh_pA n (h 7) A) k b = b := by unfold sh_pF; rw [hw]; exact if_pos q
        rw [if_pos q, es]
        exact ih (k + 1) b x' (by omega) hb hx'
      · have es : sh_pF W (sh_pA n (h 7) A) k b = k := by unfold sh_pF; rw [hw]; exact if_neg q
        rw [if_neg q, es]
        exact ih (k + 1) k x' (by omega) (by omega) hx'
theorem t_part_l (d n w : Nat) (A : Int32) (r : Nat → Int32) (h : av_M) (hn : n ≤ 7) (hm : h 44 3 = nI n) (hv : sh_MV 48 h r) (hw : w < 128) (ew : sh_hd n r = nI w) : ∀ t k b (x : Value), k + t = w + 1 → b < 128 → sh_j1 x →
    ∃ h', av_xp (d + 20) 239 22 [.ref 44, .int A, .int (nI b), .int (nI k), x] [] h = some (sh_pA n (h 47) A (sh_lp (sh_pF (nI w) (sh_pA n (h 47) A)) t k b), 0, h') ∧ sh_m h h' ∧ sh_t2 (sh_pL n (h 47) (sh_lp (sh_pF (nI w) (sh_pA n (h 47) A)) t k b)) h' := by
  intro t
  induction t with
  | zero =>
    intro k b x e hb hx
    rw [mX7_parties_r44_22 _ _ _ _ _ _ hx, c_holdingM48 _ n h r hm hv, ew]
    simp only [Option.bind_some]
    rw [if_pos (show nI w < nI k from nI_lt (by omega) (by omega))]
    obtain ⟨h2, e2, m2, f2, t2⟩ := c_ent1 (d + 19) (av_u h 44 1 0) (Int32.toInt64 (nI b)) rfl
    rw [e2]
    simp only [Option.bind_some]
    have m2' : sh_m h h2 := sh_m_tr (sh_m_s (k := 1) (v := 0) (by decide) (sh_m_refl h)) m2
    have q47 : h2 47 = h 47 := m2'.1 47 (by decide) (by decide)
    rw [c_counts _ n h2 _ hn (by rw [m2'.2 3 (by decide) (by decide)]; exact hm), q47, show sh_lp (sh_wF (h 47) (nI b)) n 0 0 = sh_w n (h 47) (nI b) from rfl]
    simp only [Option.bind_some]
    obtain ⟨h3, e3, m3, f3, t3⟩ := c_enters (d + 19) h2 _ (Int32.toInt64 (sh_w n (h 47) (nI b))) (by simp) t2
    rw [e3]
    simp only [Option.bind_some]
    have m3' := sh_m_tr m2' m3
    rw [c_counts _ n h3 _ hn (by rw [m3'.2 3 (by decide) (by decide)]; exact hm), show h3 47 = h 47 from m3'.1 47 (by decide) (by decide), show sh_lp (sh_wF (h 47) (nI b)) n 0 0 = sh_w n (h 47) (nI b) from rfl]
    exact ⟨h3, rfl, m3', t3⟩
  | succ t ih =>
    intro k b x e hb hx
    rw [mX7_parties_r44_22 _ _ _ _ _ _ hx, c_holdingM48 _ n h r hm hv, ew]
    simp only [Option.bind_some]
    rw [if_neg (show ¬ nI w < nI k from nI_nlt (by omega) (by omega)), c_holdingM48 _ n h r hm hv, ew]
    simp only [Option.bind_some]
    have step : sh_lp (sh_pF (nI w) (sh_pA n (h 47) A)) (t + 1) k b = sh_lp (sh_pF (nI w) (sh_pA n (h 47) A)) t (k + 1) (sh_pF (nI w) (sh_pA n (h 47) A) k b) := rfl
    rw [step]
    by_cases hwi : nI k &&& (nI w ^^^ (-1)) = 0
    · have hq : sh_wi (nI w) k = true := decide_eq_true hwi
      rw [if_pos hwi, c_counts _ n h _ hn hm]
      simp only [Option.bind_some]
      rw [c_counts _ n h _ hn hm, show sh_lp (sh_wF (h 47) (nI b)) n 0 0 = sh_w n (h 47) (nI b) from rfl, show sh_lp (sh_wF (h 47) (nI k)) n 0 0 = sh_w n (h 47) (nI k) from rfl]
      simp only [Option.bind_some]
      by_cases q : sh_pA n (h 47) A b ≤ sh_pA n (h 47) A k
      · have es : sh_pF (nI w) (sh_pA n (h 47) A) k b = b := by unfold sh_pF; rw [hq]; exact if_pos q
        rw [if_pos (show av_abs (A - 2 * sh_w n (h 47) (nI b)) ≤ av_abs (A - 2 * sh_w n (h 47) (nI k)) from q), es, nI_1]
        exact ih (k + 1) b _ (by omega) hb (Or.inr ⟨_, rfl⟩)
      · have es : sh_pF (nI w) (sh_pA n (h 47) A) k b = k := by unfold sh_pF; rw [hq]; exact if_neg q
        rw [if_neg (show ¬ av_abs (A - 2 * sh_w n (h 47) (nI b)) ≤ av_abs (A - 2 * sh_w n (h 47) (nI k)) from q), es, nI_1]
        exact ih (k + 1) k _ (by omega) (by omega) (Or.inr ⟨_, rfl⟩)
    · have es : sh_pF (nI w) (sh_pA n (h 47) A) k b = b := by unfold sh_pF; rw [show sh_wi (nI w) k = false from decide_eq_false hwi]
      rw [if_neg hwi, es, nI_1]
      exact ih (k + 1) b _ (by omega) hb (Or.inr ⟨_, rfl⟩)
theorem sh_pA_cong {n : Nat} {str str' : Nat → Int32} (hs : ∀ j, j < n → str j = str' j) (A : Int32) : sh_pA n str A = sh_pA n str' A := by
  funext k
  unfold sh_pA
  rw [sh_w_cong hs]
theorem sh_abs_B {x : Int32} (h : 0 ≤ x) : av_abs x = x := if_pos h
theorem c_parties : sh_P 80 239 [] := sh_qF fun d N n m L r h F E hF => by
  obtain ⟨a1, a2, a3, a4, a5, a6, a7, a8⟩ := id E.1.1
  have hs : ∀ j, j < n → h 7 j = h 47 j := fun j hj => (a7 j hj).2.1
  obtain ⟨w, hw, ew⟩ := sh_sm_nI (sh_sm_hd a1 r)
  obtain ⟨A, hA⟩ : ∃ A, A = sh_w n (h 47) (nI w) := ⟨_, rfl⟩
  have eA : sh_w n (h 7) (nI w) = A := by rw [hA]; exact sh_w_cong hs _
  have bA : sh_B 0 (99 * n) A := by rw [hA]; exact sh_w_B (h 47) (nI w) n a1 (fun j hj => (a7 j hj).2.2)
  have A0 : sh_pA n (h 47) A 0 = A := by
    unfold sh_pA
    rw [sh_w_0 n a1, show (2 : Int32) * 0 = 0 by decide, Int32.sub_zero]
    apply sh_abs_B
    rw [Int32.le_iff_toInt_le, show (0 : Int32).toInt = 0 by decide]
    exact bA.1
  have hA1 : ¬ A + 1 ≤ sh_pA n (h 7) A 0 := by
    rw [sh_pA_cong hs, A0]
    obtain ⟨c, c1, _, rfl⟩ := sh_B_nat (N := 99 * n) bA
    rw [nI_1, Int32.not_le]
    exact nI_lt (by omega) (by omega)
  obtain ⟨O, hO⟩ : ∃ O, O = sh_lp (sh_pF (nI w) (sh_pA n (h 47) A)) 127 1 0 := ⟨_, rfl⟩
  have cut : sh_lp (sh_pF (nI w) (sh_pA n (h 47) A)) 127 1 0 = sh_lp (sh_pF (nI w) (sh_pA n (h 47) A)) w 1 0 := by
    rw [show 127 = w + (127 - w) by omega, sh_lp_split]
    refine sh_lp_id _ _ _ (fun j h1 h2 a => ?_)
    unfold sh_pF
    cases hq : sh_wi (nI w) j
    · rfl
    · have := sh_wi_le w hw j (by omega) hq
      omega
  refine ⟨sh_pA n (h 47) A O, some (sh_pL n (h 47) O), fun l q => by injection q with q; subst q; simp [sh_pL], ?_, ?_⟩
  · obtain ⟨x', hx', e1⟩ := f_part_1 (d + 79) n 0 (nI w) A (A + 1) 0 h .null a1 a2 (by decide) (Or.inl rfl)
    rw [show sh_wi (nI w) 0 = true from decide_eq_true (by rw [show nI 0 = 0 from rfl]; simp)] at e1
    dsimp only at e1
    rw [if_neg hA1] at e1
    have K := f_part_l (d + 79) n (nI w) A h a1 a2 127 1 0 x' (by omega) (by decide) hx'
    rw [sh_pA_cong hs, ← hO] at K
    rw [sh_pA_cong hs] at e1
    obtain ⟨h2, e2, c2, t2⟩ := K
    refine ⟨h2, ?_, c2, ?_⟩
    · rw [eX6_parties_r0_in, c_holding5 _ n h r a3 a4, ew]
      simp only [Option.bind_some]
      rw [c_weight5 _ n h _ a1 a2, eA]
      exact e1.trans e2
    · unfold sh_pL at t2 ⊢
      rw [sh_w_cong hs] at t2
      exact t2
  · intro h' hc E' hF'
    obtain ⟨b1, b2, b3, b4, b5, b6, b7, b8⟩ := id E'.1.1
    have q47 : (av_u h' 44 0 0) 47 = h 47 := hc 47 (by decide)
    have K := t_part_l (d + 79) n w A r (av_u h' 44 0 0) a1 b5 b6 hw ew w 1 0 .null (by omega) (by decide) (Or.inl rfl)
    rw [q47, ← cut, ← hO] at K
    obtain ⟨h2, e2, c2, t2⟩ := K
    refine ⟨h2, ?_, sh_m_tr (sh_m_s (k := 0) (v := 0) (by decide) (sh_m_refl h')) c2, t2⟩
    rw [eX7_parties_r44_in, c_holdingM48 _ n _ r (show (av_u h' 44 0 0) 44 3 = nI n from b5) (show sh_MV 48 (av_u h' 44 0 0) r from b6), ew]
    simp only [Option.bind_some]
    rw [c_counts _ n _ _ a1 (show (av_u h' 44 0 0) 44 3 = nI n from b5), q47, show sh_lp (sh_wF (h 47) (nI w)) n 0 0 = sh_w n (h 47) (nI w) from rfl, ← hA]
    exact e2
/-! colours -/
theorem sh_oc_cong {n : Nat} {col col' : Nat → Int32} (hc : ∀ j, j < n → col j = col' j) (c : Int32) : sh_oc n col c = sh_oc n col' c := by
  unfold sh_oc
  refine sh_lp_cong n 0 0 (fun j _ hj a => ?_)
  unfold sh_cF
  rw [hc j (by omega)]
def sh_kC (n : Nat) (col str r : Nat → Int32) (k : Nat) : Int32 := sh_w n str (sh_hd n r &&& sh_oc n col (nI k))
def sh_kl (C : Nat → Int32) (k : Nat) (l : List Int64) : List Int64 := l ++ [Int32.toInt64 (C k)]
theorem f_col_l (d n : Nat) (r col str : Nat → Int32) (C : Nat → Int32) (hC : C = sh_kC n col str r) (hn : n ≤ 7) : ∀ t k b (l : List Int64) (x : Value) (h : av_M), k + t = 4 → l.length = k → sh_j1 x → h 5 6 = nI n → h 5 7 = sh_e n → sh_SV 5 h r → h 6 = col → h 7 = str → sh_t1 l h →
    ∃ h', av_xp (d + 20) 79 13 [.ref 0, .int (nI b), .int (C b), .int (nI k), x] [] h = some (nI (sh_lp (sh_mF C) t k b), 0, h') ∧ sh_c h h' ∧ sh_t1 (sh_lp (sh_kl C) t k l) h' := by
  intro t
  induction t with
  | zero =>
    intro k b l x h e hl hx _ _ _ _ _ ht
    have ek : k = 4 := by omega
    subst ek
    rw [mX6_colours_r0_13 _ _ _ _ _ _ hx, if_pos (show (4 : Int32) ≤ nI 4 by decide)]
    exact ⟨h, rfl, sh_c_refl h, ht⟩
  | succ t ih =>
    intro k b l x h e hl hx hm he hv h6 h7 ht
    rw [mX6_colours_r0_13 _ _ _ _ _ _ hx, if_neg (show ¬ (4 : Int32) ≤ nI k from sh_lt (n := 4) (by omega) (by decide)), c_holding5 _ n h r he hv]
    simp only [Option.bind_some]
    rw [c_ofColour5 _ n h _ hn hm]
    simp only [Option.bind_some]
    rw [c_weight5 _ n h _ hn hm, h6, h7, show sh_w n str (sh_hd n r &&& sh_oc n col (nI k)) = C k by rw [hC]; rfl]
    simp only [Option.bind_some]
    obtain ⟨h2, e2, f2, t2⟩ := c_add (d + 19) h l (Int32.toInt64 (C k)) (by omega) ht
    rw [e2]
    simp only [Option.bind_some, nI_1]
    have g := fun a ha => f2 a ha
    have step : sh_lp (sh_mF C) (t + 1) k b = sh_lp (sh_mF C) t (k + 1) (sh_mF C k b) := rfl
    have step2 : sh_lp (sh_kl C) (t + 1) k l = sh_lp (sh_kl C) t (k + 1) (l ++ [Int32.toInt64 (C k)]) := rfl
    rw [step, step2]
    have R := fun b' x' hx' => ih (k + 1) b' (l ++ [Int32.toInt64 (C k)]) x' h2 (by omega) (by rw [List.length_append, hl]; rfl) hx' (by rw [g 5 (by decide)]; exact hm) (by rw [g 5 (by decide)]; exact he) (sh_SV5 f2 (by decide) hv) (by rw [g 6 (by decide)]; exact h6) (by rw [g 7 (by decide)]; exact h7) t2
    by_cases q : C k ≤ C b
    · have es : sh_mF C k b = b := by unfold sh_mF; rw [if_pos q]
      rw [if_pos q, es]
      obtain ⟨h3, e3, c3, t3⟩ := R b _ (Or.inr ⟨_, rfl⟩)
      exact ⟨h3, e3, sh_c_tr (sh_c_of f2 (by decide)) c3, t3⟩
    · have es : sh_mF C k b = k := by unfold sh_mF; rw [if_neg q]
      rw [if_neg q, es]
      obtain ⟨h3, e3, c3, t3⟩ := R k _ (Or.inr ⟨_, rfl⟩)
      exact ⟨h3, e3, sh_c_tr (sh_c_of f2 (by decide)) c3, t3⟩
theorem t_col_l (d n : Nat) (r col str : Nat → Int32) (C : Nat → Int32) (hC : C = sh_kC n col str r) (hn : n ≤ 7) : ∀ t k b (l : List Int64) (x : Value) (h : av_M), k + t = 4 → l.length = k → sh_j1 x → h 44 3 = nI n → sh_MV 48 h r → h 46 = col → h 47 = str → sh_t2 l h →
    ∃ h', av_xp (d + 20) 238 14 [.ref 44, .int (nI b), .int (nI k), x] [] h = some (nI (sh_lp (sh_mF C) t k b), 0, h') ∧ sh_m h h' ∧ sh_t2 (sh_lp (sh_kl C) t k l) h' := by
  intro t
  induction t with
  | zero =>
    intro k b l x h e hl hx _ _ _ _ ht
    have ek : k = 4 := by omega
    subst ek
    rw [mX7_colours_r44_14 _ _ _ _ _ hx, if_pos (show (4 : Int32) ≤ nI 4 by decide)]
    exact ⟨h, rfl, sh_m_refl h, ht⟩
  | succ t ih =>
    intro k b l x h e hl hx hm hv h6 h7 ht
    rw [mX7_colours_r44_14 _ _ _ _ _ hx, if_neg (show ¬ (4 : Int32) ≤ nI k from sh_lt (n := 4) (by omega) (by decide)), c_holdingM48 _ n h r hm hv]
    simp only [Option.bind_some]
    rw [c_ofColourM _ n h _ hn hm]
    simp only [Option.bind_some]
    rw [c_counts _ n h _ hn hm, h6, h7, show sh_lp (sh_wF str (sh_hd n r &&& sh_oc n col (nI k))) n 0 0 = C k by rw [hC]; rfl]
    simp only [Option.bind_some]
    rw [c_holdingM48 _ n h r hm hv]
    simp only [Option.bind_some]
    rw [c_ofColourM _ n h _ hn hm]
    simp only [Option.bind_some]
    rw [c_counts _ n h _ hn hm, h6, h7, show sh_lp (sh_wF str (sh_hd n r &&& sh_oc n col (nI b))) n 0 0 = C b by rw [hC]; rfl]
    simp only [Option.bind_some]
    obtain ⟨h2, e2, m2, f2, t2⟩ := c_enters (d + 19) h l (Int32.toInt64 (C k)) (by omega) ht
    rw [e2]
    simp only [Option.bind_some, nI_1]
    have step : sh_lp (sh_mF C) (t + 1) k b = sh_lp (sh_mF C) t (k + 1) (sh_mF C k b) := rfl
    have step2 : sh_lp (sh_kl C) (t + 1) k l = sh_lp (sh_kl C) t (k + 1) (l ++ [Int32.toInt64 (C k)]) := rfl
    rw [step, step2]
    have R := fun b' x' hx' => ih (k + 1) b' (l ++ [Int32.toInt64 (C k)]) x' h2 (by omega) (by rw [List.length_append, hl]; rfl) hx' (by rw [m2.2 3 (by decide) (by decide)]; exact hm) (sh_MV_fr f2 (by decide) hv) (by rw [f2 46 (by decide)]; exact h6) (by rw [f2 47 (by decide)]; exact h7) t2
    by_cases q : C k ≤ C b
    · have es : sh_mF C k b = b := by unfold sh_mF; rw [if_pos q]
      rw [if_pos q, es]
      obtain ⟨h3, e3, c3, t3⟩ := R b _ (Or.inr ⟨_, rfl⟩)
      exact ⟨h3, e3, sh_m_tr m2 c3, t3⟩
    · have es : sh_mF C k b = k := by unfold sh_mF; rw [if_neg q]
      rw [if_neg q, es]
      obtain ⟨h3, e3, c3, t3⟩ := R k _ (Or.inr ⟨_, rfl⟩)
      exact ⟨h3, e3, sh_m_tr m2 c3, t3⟩
theorem sh_kl_len (C : Nat → Int32) : ∀ t k l, (sh_lp (sh_kl C) t k l).length = l.length + t := by
  intro t
  induction t with
  | zero => intro k l; rfl
  | succ t ih =>
    intro k l
    show (sh_lp (sh_kl C) t (k + 1) (sh_kl C k l)).length = _
    rw [ih (k + 1)]
    unfold sh_kl
    rw [List.length_append]
    show l.length + 1 + t = _
    omega
theorem c_colours : sh_P 79 238 [] := sh_qF fun d N n m L r h F E hF => by
  obtain ⟨a1, a2, a3, a4, a5, a6, a7, a8⟩ := id E.1.1
  obtain ⟨C, hC⟩ : ∃ C, C = sh_kC n (h 46) (h 47) r := ⟨_, rfl⟩
  have eC : sh_kC n (h 6) (h 7) r = C := by
    rw [hC]
    funext k
    unfold sh_kC
    rw [sh_oc_cong (fun j hj => (a7 j hj).1), sh_w_cong (fun j hj => (a7 j hj).2.1)]
  have b0 : sh_B 0 (99 * n) (C 0) := by
    rw [hC]
    exact sh_w_B (h 47) _ n a1 (fun j hj => (a7 j hj).2.2)
  obtain ⟨O, hO⟩ : ∃ O, O = sh_lp (sh_mF C) 3 1 0 := ⟨_, rfl⟩
  obtain ⟨l, hl⟩ : ∃ l, l = sh_lp (sh_kl C) 3 1 [Int32.toInt64 (C 0)] := ⟨_, rfl⟩
  refine ⟨nI O, some l, fun l' q => by injection q with q; subst q; rw [hl, sh_kl_len]; simp, ?_, ?_⟩
  · obtain ⟨h2, e2, f2, t2⟩ := c_add (d + 98) (av_u h 3 1 0) [] (Int32.toInt64 (C 0)) (by decide) (sh_t1_nil rfl)
    have g : sh_fr [3, 4] h h2 := sh_fr_tr (sh_fr_u (by decide) (sh_fr_refl _ _)) f2 (fun _ q => q)
    have K := f_col_l (d + 79) n r (h 6) (h 7) C eC.symm a1 3 1 0 [Int32.toInt64 (C 0)] (.int (C 0)) h2 (by omega) rfl (Or.inr ⟨_, rfl⟩) (by rw [g 5 (by decide)]; exact a2) (by rw [g 5 (by decide)]; exact a3) (sh_SV5 g (by decide) a4) (g 6 (by decide)) (g 7 (by decide)) t2
    rw [← hO, ← hl] at K
    obtain ⟨h3, e3, c3, t3⟩ := K
    refine ⟨h3, ?_, sh_c_tr (sh_c_of g (by decide)) c3, t3⟩
    rw [eX6_colours_r0_in, c_clear]
    simp only [Option.bind_some]
    rw [eX6_colours_r0_13, if_neg (show ¬ (4 : Int32) ≤ 0 by decide), c_holding5 _ n _ r (show (av_u h 3 1 0) 5 7 = sh_e n from a3) (show sh_SV 5 (av_u h 3 1 0) r from a4)]
    simp only [Option.bind_some]
    rw [c_ofColour5 _ n _ _ a1 (show (av_u h 3 1 0) 5 6 = nI n from a2)]
    simp only [Option.bind_some]
    rw [c_weight5 _ n _ _ a1 (show (av_u h 3 1 0) 5 6 = nI n from a2), show sh_w n ((av_u h 3 1 0) 7) (sh_hd n r &&& sh_oc n ((av_u h 3 1 0) 6) 0) = C 0 from congrFun eC 0]
    simp only [Option.bind_some]
    rw [e2]
    simp only [Option.bind_some]
    rw [if_neg (show ¬ C 0 ≤ -1 by
      rw [Int32.le_iff_toInt_le, show (-1 : Int32).toInt = -1 by decide]
      have := b0.1
      omega)]
    exact e3
  · intro h' hc E' hF'
    obtain ⟨b1, b2, b3, b4, b5, b6, b7, b8⟩ := id E'.1.1
    have q46 : h' 46 = h 46 := hc 46 (by decide)
    have q47 : h' 47 = h 47 := hc 47 (by decide)
    have K := t_col_l (d + 79) n r (h 46) (h 47) C hC a1 4 0 0 [] .null (av_u (av_u h' 44 0 0) 44 1 0) (by omega) rfl (Or.inl rfl) b5 b6 q46 q47 (sh_t2_nil rfl)
    have s1 : sh_lp (sh_mF C) 4 0 0 = O := by
      rw [hO]
      show sh_lp (sh_mF C) 3 1 (sh_mF C 0 0) = _
      rw [show sh_mF C 0 0 = 0 by unfold sh_mF; rw [ite_self]]
    have s2 : sh_lp (sh_kl C) 4 0 [] = l := by
      rw [hl]
      rfl
    rw [s1, s2] at K
    obtain ⟨h2, e2, c2, t2⟩ := K
    refine ⟨h2, ?_, sh_m_tr (sh_m_s (k := 1) (v := 0) (by decide) (sh_m_s (k := 0) (v := 0) (by decide) (sh_m_refl h'))) c2, t2⟩
    rw [eX7_colours_r44_in]
    exact e2
