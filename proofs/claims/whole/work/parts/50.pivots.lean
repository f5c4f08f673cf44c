/-! PURE, 40: calls: pivots -/
def sh_ft : Nat → Nat
  | 0 => 1
  | n + 1 => (n + 1) * sh_ft n
theorem nI_sub {a b : Nat} (h : b ≤ a) : nI a - nI b = nI (a - b) := by
  have e : nI a = nI (a - b) + nI b := by rw [nI_add, Nat.sub_add_cancel h]
  rw [e, Int32.add_sub_cancel]
theorem sh_ft_le : ∀ m, m ≤ 7 → 0 < sh_ft m ∧ sh_ft m ≤ 5040 := by decide +kernel
theorem c_orders_l (d m : Nat) (h : av_M) (hm : m ≤ 7) : ∀ t j, j + t = m → av_xp d 135 4 [.int (nI m), .long (lN (sh_ft j)), .null, .int (nI (j + 1))] [] h = some (0, lN (sh_ft m), h) := by
  intro t
  induction t with
  | zero =>
    intro j e
    rw [eX6_orders_4, if_pos (show nI m < nI (j + 1) from nI_lt (by omega) (by omega)), show j = m by omega]
  | succ t ih =>
    intro j e
    rw [eX6_orders_4, if_neg (show ¬ nI m < nI (j + 1) from nI_nlt (by omega) (by omega)), nI_l (by omega), lN_mul, nI_1, show sh_ft j * (j + 1) = sh_ft (j + 1) from Nat.mul_comm _ _, ih (j + 1) (by omega)]
theorem c_orders (d m : Nat) (h : av_M) (hm : m ≤ 7) : av_x (d + 1) 135 [.int (nI m)] h = some (0, lN (sh_ft m), h) := by
  rw [eX6_orders_in]
  rcases Nat.eq_zero_or_pos m with e | hp
  · subst e
    rw [eX6_orders_4, if_pos (show nI 0 < 2 by decide)]
    rfl
  · exact c_orders_l d m h hm (m - 1) 1 (by omega)
theorem c_ordersOf (h : av_M) : ∀ m d, m ≤ 7 → av_x (d + m + 1) 235 [.int (nI m)] h = some (0, lN (sh_ft m), h) := by
  intro m
  induction m with
  | zero => intro d _; rw [eX7_ordersOf_in, if_neg (show ¬ 2 ≤ nI 0 by decide)]; rfl
  | succ m ih =>
    intro d hm
    rcases Nat.eq_zero_or_pos m with e | hp
    · subst e
      rw [eX7_ordersOf_in, if_neg (show ¬ 2 ≤ nI (0 + 1) by decide)]
      rfl
    · rw [eX7_ordersOf_in, if_pos (show (2 : Int32) ≤ nI (m + 1) from nI_le (a := 2) (by omega) (by omega)), nI_pred, show d + (m + 1) = d + m + 1 by omega, ih d (by omega)]
      simp only [Option.bind_some]
      rw [nI_l (by omega), lN_mul]
      rfl
def sh_vg (R k : Nat) : Nat := sh_ft (sh_pq k) * sh_ft (R - sh_pq k)
theorem sh_vg_le (R k : Nat) (hR : R ≤ 7) : sh_vg R k ≤ 5040 * 5040 := by
  have h1 := sh_ft_le (sh_pq k) (sh_pq_le k)
  have h2 := sh_ft_le (R - sh_pq k) (by omega)
  exact Nat.mul_le_mul h1.2 h2.2
theorem f_piv_l (d n i v : Nat) (r : Nat → Int32) (h : av_M) (hn : n ≤ 7) (hm : h 5 6 = nI n) (he : h 5 7 = sh_e n) (hv : sh_SV 5 h r) (hv2 : v < 128) (ev : sh_hd n r &&& (((1 : Int32) <<< (nI i &&& 31)) ^^^ (-1)) = nI v) : ∀ t k c (x : Value), k + t = 128 → sh_j1 x → ∃ x', sh_j1 x' ∧ av_xp (d + 20) 78 52 [.ref 0, .int (nI i), .int (nI v), .int (nI (sh_pq v)), .long (lN c), .null, .int (nI k), x] [] h = av_xp (d + 20) 78 52 [.ref 0, .int (nI i), .int (nI v), .int (nI (sh_pq v)), .long (lN (sh_lp (sh_vF (sh_vQ n (h 7) r i) (sh_vg (sh_pq v))) t k c)), .null, .int (nI 128), x'] [] h := by
  intro t
  induction t with
  | zero =>
    intro k c x e hx
    rw [show k = 128 by omega]
    exact ⟨x, hx, rfl⟩
  | succ t ih =>
    intro k c x e hx
    rw [mX6_pivots_r0_52 _ _ _ _ _ _ _ _ hx, if_neg (show ¬ (128 : Int32) ≤ nI k from sh_lt (n := 128) (by omega) (by decide)), c_isWithin]
    simp only [Option.bind_some]
    have step : sh_lp (sh_vF (sh_vQ n (h 7) r i) (sh_vg (sh_pq v))) (t + 1) k c = sh_lp (sh_vF (sh_vQ n (h 7) r i) (sh_vg (sh_pq v))) t (k + 1) (sh_vF (sh_vQ n (h 7) r i) (sh_vg (sh_pq v)) k c) := rfl
    rw [step]
    cases hw : decide (nI k &&& (nI v ^^^ (-1)) = 0)
    · have hq : sh_vQ n (h 7) r i k = false := by unfold sh_vQ sh_wi; rw [ev, hw]; rfl
      rw [if_pos (show sh_i false = 0 from rfl), nI_1, show sh_vF (sh_vQ n (h 7) r i) (sh_vg (sh_pq v)) k c = c by unfold sh_vF; rw [hq]]
      exact ih (k + 1) c x (by omega) hx
    · rw [if_neg (show ¬ sh_i true = 0 by decide), c_tips _ n i k h r hn hm he hv]
      simp only [Option.bind_some]
      have hq : sh_vQ n (h 7) r i k = sh_tp n (h 7) r i k := by unfold sh_vQ sh_wi; rw [ev, hw]; rfl
      cases ht : sh_tp n (h 7) r i k
      · rw [ht] at hq
        rw [if_pos (show sh_i false = 0 from rfl), nI_1, show sh_vF (sh_vQ n (h 7) r i) (sh_vg (sh_pq v)) k c = c by unfold sh_vF; rw [hq]]
        exact ih (k + 1) c x (by omega) hx
      · rw [ht] at hq
        have hle : sh_pq k ≤ sh_pq v := sh_pq_mono hw
        have hp7 := sh_pq_le v
        rw [if_neg (show ¬ sh_i true = 0 by decide), c_bc, sh_bc_pc k (by omega)]
        simp only [Option.bind_some]
        rw [c_orders _ (sh_pq k) h (by omega)]
        simp only [Option.bind_some]
        rw [nI_sub hle, c_orders _ (sh_pq v - sh_pq k) h (by omega)]
        simp only [Option.bind_some]
        rw [lN_mul, lN_add, nI_1, show sh_vF (sh_vQ n (h 7) r i) (sh_vg (sh_pq v)) k c = c + sh_ft (sh_pq k) * sh_ft (sh_pq v - sh_pq k) by unfold sh_vF; rw [hq]; rfl]
        exact ih (k + 1) _ _ (by omega) (Or.inr ⟨_, rfl⟩)
theorem t_piv_l (d n i v B : Nat) (r : Nat → Int32) (h : av_M) (hi : i < 7) (hn : n ≤ 7) (hm : h 44 3 = nI n) (hv : sh_MV 48 h r) (hB : B < 128) (eB : sh_e n = nI B) (hv2 : v < 128) (ev : sh_hd n r &&& (((1 : Int32) <<< (nI i &&& 31)) ^^^ (-1)) = nI v) : ∀ t k c (x : Value), k + t = B + 1 → sh_j1 x → ∃ x', sh_j1 x' ∧ av_xp (d + 20) 237 50 [.ref 44, .int (nI i), .int (nI (sh_pq v + 1)), .long (lN c), .null, .int (nI k), x] [] h = av_xp (d + 20) 237 50 [.ref 44, .int (nI i), .int (nI (sh_pq v + 1)), .long (lN (sh_lp (sh_vF (sh_vQ n (h 47) r i) (sh_vg (sh_pq v))) t k c)), .null, .int (nI (B + 1)), x'] [] h := by
  intro t
  induction t with
  | zero =>
    intro k c x e hx
    rw [show k = B + 1 by omega]
    exact ⟨x, hx, rfl⟩
  | succ t ih =>
    intro k c x e hx
    rw [mX7_pivots_r44_50 _ _ _ _ _ _ _ hx, c_all _ n h hm, eB]
    simp only [Option.bind_some]
    rw [if_neg (show ¬ nI B < nI k from nI_nlt (by omega) (by omega)), c_bc, sh_bc_pc k (by omega)]
    simp only [Option.bind_some]
    rw [c_turnsIt _ n i k h r hi hn hm hv]
    simp only [Option.bind_some]
    have step : sh_lp (sh_vF (sh_vQ n (h 47) r i) (sh_vg (sh_pq v))) (t + 1) k c = sh_lp (sh_vF (sh_vQ n (h 47) r i) (sh_vg (sh_pq v))) t (k + 1) (sh_vF (sh_vQ n (h 47) r i) (sh_vg (sh_pq v)) k c) := rfl
    rw [step]
    cases hq : sh_vQ n (h 47) r i k
    · rw [if_pos (show sh_i false = 0 from rfl), nI_1, Int64.add_zero, show sh_vF (sh_vQ n (h 47) r i) (sh_vg (sh_pq v)) k c = c by unfold sh_vF; rw [hq]]
      exact ih (k + 1) c _ (by omega) (Or.inr ⟨_, rfl⟩)
    · have hle : sh_pq k ≤ sh_pq v := by
        apply sh_pq_mono
        unfold sh_vQ at hq
        rw [ev, Bool.and_eq_true] at hq
        exact hq.1
      have hp7 := sh_pq_le v
      rw [if_neg (show ¬ sh_i true = 0 by decide), show d + 20 = (d + 19 - sh_pq k) + sh_pq k + 1 by omega, c_ordersOf h (sh_pq k) _ (by omega)]
      simp only [Option.bind_some]
      rw [nI_pred, nI_sub hle, show (d + 19 - sh_pq k) + sh_pq k + 1 = (d + 19 - (sh_pq v - sh_pq k)) + (sh_pq v - sh_pq k) + 1 by omega, c_ordersOf h (sh_pq v - sh_pq k) _ (by omega)]
      simp only [Option.bind_some]
      rw [lN_mul, lN_add, nI_1, show sh_vF (sh_vQ n (h 47) r i) (sh_vg (sh_pq v)) k c = c + sh_ft (sh_pq k) * sh_ft (sh_pq v - sh_pq k) by unfold sh_vF; rw [hq]; rfl, show (d + 19 - (sh_pq v - sh_pq k)) + (sh_pq v - sh_pq k) + 1 = d + 20 by omega]
      exact ih (k + 1) _ _ (by omega) (Or.inr ⟨_, rfl⟩)
theorem c_pivots (p : Int32) : sh_P 78 237 [.int p] := sh_qF fun d N n m L r h F E hF => by
  obtain ⟨a1, a2, a3, a4, a5, a6, a7, a8⟩ := id E.1.1
  cases hk : sh_kn n p
  · refine ⟨-1, none, fun _ q => (nomatch q), sh_QX_n ?_, fun h' hc E' _ => sh_QM_n (v := 0) ?_⟩
    · rw [eX6_pivots_r0_in, c_knowsp _ n h p a2, hk]
      rfl
    · rw [eX7_pivots_r44_in, c_isOne _ n _ p a1 (show (av_u h' 44 0 0) 44 3 = nI n from E'.1.1.2.2.2.2.1), hk]
      rfl
  · obtain ⟨i, hi, rfl⟩ := sh_kn_of a1 hk
    cases hb : sh_b (sh_hd n r) i
    · refine ⟨-2, none, fun _ q => (nomatch q), sh_QX_n ?_, fun h' hc E' _ => sh_QM_n (v := 0) ?_⟩
      · rw [eX6_pivots_r0_in, c_knowsp _ n h _ a2, hk]
        simp only [Option.bind_some]
        rw [if_neg (by decide), c_holds5 _ n h r i a3 a4, hb]
        rfl
      · rw [eX7_pivots_r44_in, c_isOne _ n _ _ a1 (show (av_u h' 44 0 0) 44 3 = nI n from E'.1.1.2.2.2.2.1), hk]
        simp only [Option.bind_some]
        rw [if_neg (by decide), c_holdingM48 _ n _ r (show (av_u h' 44 0 0) 44 3 = nI n from E'.1.1.2.2.2.2.1) (show sh_MV 48 (av_u h' 44 0 0) r from E'.1.1.2.2.2.2.2.1)]
        simp only [Option.bind_some, c_has]
        rw [hb]
        rfl
    · obtain ⟨w, v, B, hw, hv, hB, ew, ev, eB, hvB, epc⟩ := sh_votes a1 (show i < 7 by omega) hb
      have hpw := sh_pq_le w
      have eQ : sh_vQ n (h 7) r i = sh_vQ n (h 47) r i := sh_vQ_cong (fun j hj => (a7 j hj).2.1)
      have cut : sh_lp (sh_vF (sh_vQ n (h 47) r i) (sh_vg (sh_pq v))) 128 0 0 = sh_lp (sh_vF (sh_vQ n (h 47) r i) (sh_vg (sh_pq v))) (B + 1) 0 0 := by
        apply sh_vF_cut hB
        intro k k1 k2
        unfold sh_vQ
        rw [ev]
        cases hq : sh_wi (nI v) k
        · rfl
        · have := sh_wi_le v hv k k2 hq
          omega
      obtain ⟨C, hC⟩ : ∃ C, C = sh_lp (sh_vF (sh_vQ n (h 47) r i) (sh_vg (sh_pq v))) 128 0 0 := ⟨_, rfl⟩
      have hC2 : C < 2147483648 → True := fun _ => trivial
      have hft := sh_ft_le (sh_pq w) hpw
      have hC3 : C < 2147483648 := by
        have hg : ∀ k, k < 128 → sh_vQ n (h 47) r i k = true → sh_vg (sh_pq v) k ≤ 720 * 720 := by
          intro k k1 k2
          have hle : sh_pq k ≤ sh_pq v := by
            apply sh_pq_mono
            unfold sh_vQ at k2
            rw [ev, Bool.and_eq_true] at k2
            exact k2.1
          have f6 : ∀ m, m ≤ 6 → sh_ft m ≤ 720 := by decide +kernel
          exact Nat.mul_le_mul (f6 _ (by omega)) (f6 _ (by omega))
        have := sh_vF_le (Q := sh_vQ n (h 47) r i) hg 128 0 0 (by omega)
        rw [hC]
        omega
      refine ⟨0, some (sh_fl C (sh_ft (sh_pq w))), fun l q => by injection q with q; subst q; simp [sh_fl], ?_, ?_⟩
      · obtain ⟨x', hx', K⟩ := f_piv_l (d + 79) n i v r h a1 a2 a3 a4 hv ev 128 0 0 .null (by omega) (Or.inl rfl)
        rw [eQ, ← hC] at K
        obtain ⟨h2, e2, c2, t2⟩ := c_tellFr (d + 78) C (sh_ft (sh_pq w)) h hC3 (by omega) hft.1
        refine ⟨h2, ?_, c2, t2⟩
        rw [eX6_pivots_r0_in, c_knowsp _ n h _ a2, hk]
        simp only [Option.bind_some]
        rw [if_neg (by decide), c_holds5 _ n h r i a3 a4, hb]
        simp only [Option.bind_some]
        rw [if_neg (by decide), c_holding5 _ n h r a3 a4]
        simp only [Option.bind_some]
        rw [ev, c_bc, sh_bc_pc v hv]
        simp only [Option.bind_some]
        refine K.trans ?_
        rw [mX6_pivots_r0_52 _ _ _ _ _ _ _ _ hx', if_pos (show (128 : Int32) ≤ nI 128 by decide), nI_1, ← epc, c_orders _ (sh_pq w) h hpw]
        simp only [Option.bind_some]
        rw [e2]
        rfl
      · intro h' hc E' hF'
        obtain ⟨b1, b2, b3, b4, b5, b6, b7, b8⟩ := id E'.1.1
        have q47 : (av_u h' 44 0 0) 47 = h 47 := hc 47 (by decide)
        have hm0 : (av_u h' 44 0 0) 44 3 = nI n := b5
        have hv0 : sh_MV 48 (av_u h' 44 0 0) r := b6
        obtain ⟨x', hx', K⟩ := t_piv_l (d + 79) n i v B r (av_u h' 44 0 0) (by omega) a1 hm0 hv0 hB eB hv ev (B + 1) 0 0 .null (by omega) (Or.inl rfl)
        rw [q47, ← cut, ← hC] at K
        obtain ⟨h2, e2, c2, t2⟩ := c_entersFr (d + 48) C (sh_ft (sh_pq w)) (av_u h' 44 0 0) hC3 (by omega) hft.1
        refine ⟨h2, ?_, sh_m_tr (sh_m_s (k := 0) (v := 0) (by decide) (sh_m_refl h')) c2, t2⟩
        rw [eX7_pivots_r44_in, c_isOne _ n _ _ a1 hm0, hk]
        simp only [Option.bind_some]
        rw [if_neg (by decide), c_holdingM48 _ n _ r hm0 hv0]
        simp only [Option.bind_some, c_has]
        rw [hb, if_neg (by decide), c_holdingM48 _ n _ r hm0 hv0, ew]
        simp only [Option.bind_some, c_bc]
        rw [sh_bc_pc w hw, epc]
        refine K.trans ?_
        rw [mX7_pivots_r44_50 _ _ _ _ _ _ _ hx', c_all _ n _ hm0, eB]
        simp only [Option.bind_some]
        rw [if_pos (show nI B < nI (B + 1) from nI_lt (by omega) (by omega)), show d + 79 + 20 = (d + 98 - sh_pq w) + sh_pq w + 1 by omega, ← epc, c_ordersOf _ (sh_pq w) _ hpw]
        simp only [Option.bind_some]
        rw [show (d + 98 - sh_pq w) + sh_pq w + 1 = d + 48 + 51 by omega, e2]
        rfl
