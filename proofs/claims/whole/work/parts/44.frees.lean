/-! PURE, 34: calls: frees, just -/
def sh_fP (n : Nat) (F : (Nat → Int32) → (Nat → Int32)) (i z : Nat) (r : Nat → Int32) (k : Nat) : Bool := sh_b (sh_hd n (sh_lp (fun _ => F) z 0 (upd r 29 (r 29 ||| nI k)))) i
theorem f_hw (d z i k : Nat) {N n m L : Nat} {r : Nat → Int32} {h h1 : av_M} {F : (Nat → Int32) → (Nat → Int32)} (E : sh_En N n m L r h) (hF : F = sh_F n m h) (hz : z < 1000) (hz1 : 1 ≤ z) (hi : i < n) (hc : sh_c h h1) : ∃ h', av_x (d + 7) 132 [.ref 0, .int (nI i), .int (nI k), .int (nI z)] h1 = some (sh_i (sh_fP n F i z r k), 0, h') ∧ sh_c h h' ∧ h' 3 = h1 3 ∧ h' 4 = h1 4 := by
  obtain ⟨h2, e2, f2, q3, q4⟩ := f_copy (d + 5) E hc
  have f3 := f_set (a := 12) (s := 9) (i := 29) (v := r 29 ||| nI k) (by omega) f2
  obtain ⟨h4, e4, c4, p3, p4⟩ := f_held d z i E hF hz hi f3
  refine ⟨h4, ?_, c4, by rw [p3]; exact q3, by rw [p4]; exact q4⟩
  rw [eX6_holdsWithout_r0_in, e2]
  simp only [Option.bind_some]
  rw [f2.2.2.2.1.2.2.2.2.2.1, e4]
  simp only [Option.bind_some]
  have hP : (sh_ht n F i z (upd r 29 (r 29 ||| nI k)) = nI z) ↔ sh_fP n F i z r k = true := sh_ht_eq E hF hi hz hz1 _
  cases hb : sh_fP n F i z r k
  · rw [if_neg (fun q => by rw [hP.mp q] at hb; cases hb)]
    rfl
  · rw [if_pos (hP.mpr hb)]
    rfl
def sh_fQ (n : Nat) (F : (Nat → Int32) → (Nat → Int32)) (i z : Nat) (r : Nat → Int32) (W : Int32) (k : Nat) : Bool := sh_wi W k && sh_fP n F i z r k
theorem f_free_l (d z i : Nat) (W : Int32) {N n m L : Nat} {r : Nat → Int32} {h : av_M} {F : (Nat → Int32) → (Nat → Int32)} (E : sh_En N n m L r h) (hF : F = sh_F n m h) (hz : z < 1000) (hz1 : 1 ≤ z) (hi : i < n) : ∀ t k (o : Option Nat) (x : Value) (h1 : av_M), k + t = 128 → sh_j1 x → sh_o7 o → sh_c h h1 → h1 3 = h 3 → h1 4 = h 4 →
    ∃ h', av_xp (d + 20) 76 44 [.ref 0, .int (nI i), .int (nI z), .int W, .int (sh_oN o), .int (sh_oS o), .int (nI k), x] [] h1 = some (sh_oA (sh_lp (sh_fw (sh_fQ n F i z r W)) t k o), 0, h') ∧ sh_c h h' ∧ sh_o1 (sh_oL (sh_lp (sh_fw (sh_fQ n F i z r W)) t k o)) h h' := by
  intro t
  induction t with
  | zero =>
    intro k o x h1 e hx ho hc e3 e4
    have ek : k = 128 := by omega
    subst ek
    rw [mX6_frees_r0_44 _ _ _ _ _ _ _ _ _ hx, if_pos (show (128 : Int32) ≤ nI 128 by decide)]
    obtain ⟨h2, e2, c2, o2⟩ := c_tellSet (d + 17) o h1 ho
    rw [e2]
    refine ⟨h2, rfl, sh_c_tr hc c2, ?_⟩
    revert o2
    show sh_o1 (sh_oL o) h1 h2 → sh_o1 (sh_oL o) h h2
    cases sh_oL o with
    | none => exact fun o2 => ⟨o2.1.trans (by rw [e3]), o2.2.trans e4⟩
    | some l => exact fun o2 => o2
  | succ t ih =>
    intro k o x h1 e hx ho hc e3 e4
    rw [mX6_frees_r0_44 _ _ _ _ _ _ _ _ _ hx, if_neg (show ¬ (128 : Int32) ≤ nI k from sh_lt (n := 128) (by omega) (by decide)), c_isWithin]
    simp only [Option.bind_some, c_bc]
    have step : sh_lp (sh_fw (sh_fQ n F i z r W)) (t + 1) k o = sh_lp (sh_fw (sh_fQ n F i z r W)) t (k + 1) (sh_fw (sh_fQ n F i z r W) k o) := rfl
    rw [step]
    cases hw : decide (nI k &&& (W ^^^ (-1)) = 0)
    · have hq : sh_fQ n F i z r W k = false := by unfold sh_fQ sh_wi; rw [hw]; rfl
      rw [if_pos (show sh_i false = 0 from rfl), sh_fw_no hq, nI_1]
      exact ih (k + 1) o _ h1 (by omega) (Or.inr ⟨_, rfl⟩) ho hc e3 e4
    · rw [if_neg (show ¬ sh_i true = 0 by decide)]
      by_cases hb : sh_oN o ≤ sh_bc (nI k)
      · rw [if_pos hb, sh_fw_not hb (by omega), nI_1]
        exact ih (k + 1) o _ h1 (by omega) (Or.inr ⟨_, rfl⟩) ho hc e3 e4
      · obtain ⟨h2, e2, c2, q3, q4⟩ := f_hw (d + 13) z i k E hF hz hz1 hi hc
        rw [if_neg hb, e2]
        simp only [Option.bind_some]
        cases hs : sh_fP n F i z r k
        · have hq : sh_fQ n F i z r W k = false := by unfold sh_fQ; rw [hs, Bool.and_false]
          rw [if_pos (show sh_i false = 0 from rfl), sh_fw_no hq, nI_1]
          exact ih (k + 1) o _ h2 (by omega) (Or.inr ⟨_, rfl⟩) ho c2 (by rw [q3, e3]) (by rw [q4, e4])
        · have hq : sh_fQ n F i z r W k = true := by unfold sh_fQ sh_wi; rw [hw, hs]; rfl
          rw [if_neg (show ¬ sh_i true = 0 by decide), sh_fw_yes hb hq, nI_1]
          exact ih (k + 1) (some k) _ h2 (by omega) (Or.inr ⟨_, rfl⟩) (fun b q => by injection q with q; omega) c2 (by rw [q3, e3]) (by rw [q4, e4])
theorem sh_wi_bt {W : Int32} {k j : Nat} (hj : j < 32) (h : sh_wi W k = true) (hW : bt W j = false) : bt (nI k) j = false := by
  have h := of_decide_eq_true h
  have hb : bt (nI k &&& (W ^^^ (-1))) j = bt 0 j := by rw [h]
  rw [b_and, b_xor, b_m1 j hj, b_0, hW] at hb
  cases h1 : bt (nI k) j
  · rfl
  · rw [h1] at hb
    exact absurd hb (by decide)
theorem t_free_l (d z i w : Nat) {N n m L : Nat} {r : Nat → Int32} {h : av_M} {F : (Nat → Int32) → (Nat → Int32)} (E : sh_En N n m L r h) (hF : F = sh_F n m h) (hz : z < 1000) (hi : i < n) (hw : w < 128) (hW : ∀ j, n ≤ j → j < 32 → bt (nI w) j = false) : ∀ t k (o : Option Nat) (h1 : av_M), k + t = w + 1 → sh_o7 o → sh_m h h1 → h1 44 1 = h 44 1 → h1 45 = h 45 →
    ∃ h', av_xp (d + 20) 232 48 [.ref 44, .int (nI i), .int (nI z), .int (nI w), .int (sh_oB o), .int (nI k)] [] h1 = some (sh_oA (sh_lp (sh_fw (sh_fQ n F i z r (nI w))) t k o), 0, h') ∧ sh_m h h' ∧ sh_o2 (sh_oL (sh_lp (sh_fw (sh_fQ n F i z r (nI w))) t k o)) h h' := by
  intro t
  induction t with
  | zero =>
    intro k o h1 e ho hc e3 e4
    rw [eX7_frees_r44_48, if_pos (show nI w < nI k from nI_lt (by omega) (by omega))]
    obtain ⟨h2, e2, c2, o2⟩ := c_entersFewest (d + 18) o h1 ho
    rw [e2]
    refine ⟨h2, rfl, sh_m_tr hc c2, ?_⟩
    revert o2
    show sh_o2 (sh_oL o) h1 h2 → sh_o2 (sh_oL o) h h2
    cases sh_oL o with
    | none => exact fun o2 => ⟨o2.1.trans e3, o2.2.trans e4⟩
    | some l => exact fun o2 => o2
  | succ t ih =>
    intro k o h1 e ho hc e3 e4
    rw [eX7_frees_r44_48, if_neg (show ¬ nI w < nI k from nI_nlt (by omega) (by omega))]
    have step : sh_lp (sh_fw (sh_fQ n F i z r (nI w))) (t + 1) k o = sh_lp (sh_fw (sh_fQ n F i z r (nI w))) t (k + 1) (sh_fw (sh_fQ n F i z r (nI w)) k o) := rfl
    rw [step]
    by_cases hwi : nI k &&& (nI w ^^^ (-1)) = 0
    · rw [if_pos hwi, c_isFewer _ k o h1 (by omega) ho]
      simp only [Option.bind_some]
      by_cases hf : sh_oN o ≤ sh_bc (nI k)
      · rw [decide_eq_true hf, if_pos (show sh_i (!true) = 0 from rfl), sh_fw_not hf (by omega), nI_1]
        exact ih (k + 1) o h1 (by omega) ho hc e3 e4
      · rw [decide_eq_false hf, if_neg (show ¬ sh_i (!false) = 0 by decide)]
        obtain ⟨h2, e2, f2, q3, q4⟩ := t_copy (d + 19) E hc
        have hG : sh_G n (upd r 29 (r 29 ||| nI k)) := sh_G_u E.1.1.2.2.2.2.2.2.2 (by omega) (by omega) (by omega) (fun _ j j1 j2 => by rw [b_or, E.1.1.2.2.2.2.2.2.2.2.2.2.2 j j1 j2, sh_wi_bt j2 (decide_eq_true hwi) (hW j j1 j2)]; rfl) (by omega) (by omega)
        have f3 := th_set (i := 29) (v := r 29 ||| nI k) f2 hG
        obtain ⟨h4, e4', f4, p3, p4⟩ := t_goes (d + 14) z E hF hz f3
        have k3 : h4 44 1 = h 44 1 := by rw [p3]; show h2 44 1 = _; rw [q3, e3]
        have k4 : h4 45 = h 45 := by rw [p4]; show h2 45 = _; rw [q4, e4]
        rw [e2]
        simp only [Option.bind_some]
        rw [f2.2.1 29 (by decide), e4']
        simp only [Option.bind_some]
        rw [c_holdingM49 _ n h4 _ (t_env E f4.1).2.1 f4.2.1]
        simp only [Option.bind_some, c_has]
        rw [show sh_b (sh_hd n (sh_lp (fun _ => F) z 0 (upd r 29 (r 29 ||| nI k)))) i = sh_fP n F i z r k from rfl]
        cases hs : sh_fP n F i z r k
        · have hq : sh_fQ n F i z r (nI w) k = false := by unfold sh_fQ; rw [hs, Bool.and_false]
          rw [if_pos (show sh_i false = 0 from rfl), sh_fw_no hq, nI_1]
          exact ih (k + 1) o h4 (by omega) ho f4.1 k3 k4
        · have hq : sh_fQ n F i z r (nI w) k = true := by unfold sh_fQ sh_wi; rw [decide_eq_true hwi, hs]; rfl
          rw [if_neg (show ¬ sh_i true = 0 by decide), sh_fw_yes hf hq, nI_1]
          exact ih (k + 1) (some k) h4 (by omega) (fun b q => by injection q with q; omega) f4.1 k3 k4
    · have hq : sh_fQ n F i z r (nI w) k = false := by unfold sh_fQ sh_wi; rw [decide_eq_false hwi]; rfl
      rw [if_neg hwi, sh_fw_no hq, nI_1]
      exact ih (k + 1) o h1 (by omega) ho hc e3 e4
theorem c_frees (p v : Int32) : sh_P 76 232 [.int p, .int v] := sh_qF fun d N n m L r h F E hF => by
  obtain ⟨a1, a2, a3, a4, a5, a6, a7, a8⟩ := id E.1.1
  cases hk : sh_kn n p
  · refine ⟨-1, none, fun _ q => (nomatch q), sh_QX_n ?_, fun h' hc E' _ => sh_QM_n (v := 0) ?_⟩
    · rw [eX6_frees_r0_in, c_knowsp _ n h p a2, hk]
      rfl
    · rw [eX7_frees_r44_in, c_isOne _ n _ p a1 (show (av_u h' 44 0 0) 44 3 = nI n from E'.1.1.2.2.2.2.1), hk]
      rfl
  · cases hv : sh_ir 1 60 v
    · refine ⟨-1, none, fun _ q => (nomatch q), sh_QX_n ?_, fun h' hc E' _ => sh_QM_n (v := 0) ?_⟩
      · rw [eX6_frees_r0_in, c_knowsp _ n h p a2, hk]
        simp only [Option.bind_some, c_isSpanX, hv]
        rfl
      · rw [eX7_frees_r44_in, c_isOne _ n _ p a1 (show (av_u h' 44 0 0) 44 3 = nI n from E'.1.1.2.2.2.2.1), hk]
        simp only [Option.bind_some]
        rw [if_neg (by decide), c_inI _ v 1 60 _ _ _ (by decide) (by decide), hv]
        rfl
    · obtain ⟨i, hi, rfl⟩ := sh_kn_of a1 hk
      obtain ⟨z, z1, z2, rfl⟩ := sh_ir_nat (lo := 1) (hi := 60) (by decide) (by decide) hv
      obtain ⟨w, hw, ew⟩ := sh_sm_nI (sh_sm_and (((1 : Int32) <<< (nI i &&& 31)) ^^^ (-1)) (sh_sm_hd a1 r))
      obtain ⟨O, hO⟩ : ∃ O, O = sh_lp (sh_fw (sh_fQ n F i z r (nI w))) 128 0 none := ⟨_, rfl⟩
      have cut : sh_lp (sh_fw (sh_fQ n F i z r (nI w))) 128 0 none = sh_lp (sh_fw (sh_fQ n F i z r (nI w))) (w + 1) 0 none := by
        apply sh_fw_cut hw
        intro k k1 k2
        unfold sh_fQ
        cases hq : sh_wi (nI w) k
        · rfl
        · have := sh_wi_le w hw k k2 hq
          omega
      refine ⟨sh_oA O, sh_oL O, sh_oL_le _, ?_, ?_⟩
      · have K := f_free_l (d + 79) z i (nI w) E hF (by omega) z1 hi 128 0 none .null h (by omega) (Or.inl rfl) (sh_fwl_7 (Q := fun _ => true)) (sh_c_refl h) rfl rfl
        rw [← hO] at K
        obtain ⟨h2, e2, c2, o2⟩ := K
        refine ⟨h2, ?_, c2, o2⟩
        rw [eX6_frees_r0_in, c_knowsp _ n h _ a2, hk]
        simp only [Option.bind_some, c_isSpanX, hv]
        rw [if_neg (by decide), if_neg (by decide), c_holding5 _ n h r a3 a4]
        simp only [Option.bind_some]
        rw [ew]
        exact e2
      · intro h' hc E' hF'
        obtain ⟨b1, b2, b3, b4, b5, b6, b7, b8⟩ := id E'.1.1
        have K := t_free_l (d + 79) z i w E' hF' (by omega) hi hw (fun j j1 j2 => by
          rw [← ew, b_and]
          unfold sh_hd
          rw [b_and, b_and, sh_e_bt n a1 j j2, decide_eq_false (by omega)]
          rfl) (w + 1) 0 none (av_u h' 44 0 0) (by omega) (sh_fwl_7 (Q := fun _ => true)) (sh_m_s (by decide) (sh_m_refl h')) rfl rfl
        rw [← cut, ← hO] at K
        obtain ⟨h2, e2, c2, o2⟩ := K
        refine ⟨h2, ?_, c2, o2⟩
        rw [eX7_frees_r44_in, c_isOne _ n _ _ a1 (show (av_u h' 44 0 0) 44 3 = nI n from b5), hk]
        simp only [Option.bind_some]
        rw [if_neg (by decide), c_inI _ _ 1 60 _ _ _ (by decide) (by decide), hv]
        simp only [Option.bind_some]
        rw [if_neg (by decide), c_holdingM48 _ n _ r (show (av_u h' 44 0 0) 44 3 = nI n from b5) (show sh_MV 48 (av_u h' 44 0 0) r from b6)]
        simp only [Option.bind_some]
        rw [ew]
        exact e2
