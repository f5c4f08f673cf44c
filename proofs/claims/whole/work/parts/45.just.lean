/-! PURE, 35: calls: just, parties -/
def sh_ln (n : Nat) (r : Nat → Int32) (s : Int32) : Int32 := sh_lp (sh_wF (fun j => r (21 + j)) s) n 0 0
theorem c_lengths5_l (d n : Nat) (h : av_M) (r : Nat → Int32) (s : Int32) (hn : n ≤ 7) (hm : h 5 6 = nI n) (hv : sh_SV 5 h r) : ∀ t k a, k + t = n → av_xp (d + 1) 39 4 [.ref 5, .int s, .int a, .int (nI k)] [] h = some (sh_lp (sh_wF (fun j => r (21 + j)) s) t k a, 0, h) := by
  intro t
  induction t with
  | zero =>
    intro k a e
    rw [eX4_lengths_r5_4, hm, if_pos (sh_ge (by omega) (by omega))]
    rfl
  | succ t ih =>
    intro k a e
    rw [eX4_lengths_r5_4, hm, if_neg (sh_lt (by omega) (by omega)), c_isIn]
    simp only [Option.bind_some, sh_i0, sh_inb (show k < 7 by omega) (by decide), cond_true, nI_1, nI_clamp (show k < 2 ^ 31 by omega)]
    cases hb : sh_b s k
    · rw [if_pos rfl, ih (k + 1) _ (by omega)]
      simp [sh_lp, sh_wF, hb]
    · rw [if_neg (by decide), ih (k + 1) _ (by omega), hv.2.2.2.1 k (by omega)]
      simp [sh_lp, sh_wF, hb]
theorem c_lengths5 (d n : Nat) (h : av_M) (r : Nat → Int32) (s : Int32) (hn : n ≤ 7) (hm : h 5 6 = nI n) (hv : sh_SV 5 h r) : av_x (d + 2) 39 [.ref 5, .int s] h = some (sh_ln n r s, 0, h) := by
  rw [eX4_lengths_r5_in]
  exact c_lengths5_l d n h r s hn hm hv n 0 0 (by omega)
def sh_jQ (n : Nat) (r : Nat → Int32) (v : Int32) (k : Nat) : Bool := sh_wi (sh_e n) k && decide (sh_ln n r (nI k) = v)
def sh_jF (Q : Nat → Bool) (k : Nat) (z : Option Nat × Nat) : Option Nat × Nat := (sh_fw Q k z.1, match Q k with
  | true => z.2 + 1
  | false => z.2)
def sh_jI (k : Nat) (z : Option Nat × Nat) : Prop := sh_o7 z.1 ∧ (z.1 = none ↔ z.2 = 0) ∧ z.2 ≤ k
theorem sh_fw_some {Q : Nat → Bool} {k : Nat} {o : Option Nat} (hq : Q k = true) : sh_fw Q k o ≠ none := by
  unfold sh_fw
  rw [hq]
  cases o with
  | none => exact fun q => nomatch q
  | some b =>
    dsimp only
    by_cases e : sh_bc (nI b) ≤ sh_bc (nI k)
    · rw [if_pos e]; exact fun q => nomatch q
    · rw [if_neg e]; exact fun q => nomatch q
theorem sh_jI_s {Q : Nat → Bool} {k : Nat} {z : Option Nat × Nat} (hk : k < 128) (h : sh_jI k z) : sh_jI (k + 1) (sh_jF Q k z) := by
  obtain ⟨h1, h2, h3⟩ := h
  refine ⟨sh_fw_7 hk h1, ?_, ?_⟩
  · unfold sh_jF
    cases hq : Q k
    · dsimp only
      rw [sh_fw_no hq]
      exact h2
    · dsimp only
      exact ⟨fun q => absurd q (sh_fw_some hq), fun q => absurd q (by omega)⟩
  · unfold sh_jF
    cases Q k <;> dsimp only <;> omega
def sh_jL (z : Option Nat × Nat) : Option (List Int64) := match z.1 with
  | none => none
  | some b => some [Int32.toInt64 (nI b), Int32.toInt64 (nI z.2)]
theorem f_just_l (d n : Nat) (r : Nat → Int32) (v : Int32) (h : av_M) (hn : n ≤ 7) (hm : h 5 6 = nI n) (he : h 5 7 = sh_e n) (hv : sh_SV 5 h r) : ∀ t k (z : Option Nat × Nat), k + t = 128 → sh_jI k z →
    ∃ h', av_xp (d + 20) 82 24 [.ref 0, .int v, .int (sh_oN z.1), .int (sh_oS z.1), .int (nI z.2), .int (nI k)] [] h = some (sh_oA (sh_lp (sh_jF (sh_jQ n r v)) t k z).1, 0, h') ∧ sh_c h h' ∧ sh_o1 (sh_jL (sh_lp (sh_jF (sh_jQ n r v)) t k z)) h h' := by
  intro t
  induction t with
  | zero =>
    intro k z e hI
    have ek : k = 128 := by omega
    subst ek
    rw [eX6_just_r0_24, if_pos (show (128 : Int32) ≤ nI 128 by decide)]
    obtain ⟨o, c⟩ := z
    obtain ⟨i1, i2, i3⟩ := hI
    cases o with
    | none =>
      rw [if_pos (show nI c = 0 by rw [show c = 0 from i2.mp rfl]; rfl)]
      exact ⟨h, rfl, sh_c_refl h, rfl, rfl⟩
    | some b =>
      have hc : c ≠ 0 := fun q => by have := i2.mpr q; cases this
      dsimp only at i3
      rw [if_neg (show ¬ nI c = 0 from nI_ne0 (by omega) (by omega))]
      obtain ⟨h2, e2, f2, t2⟩ := c_tell2 (d + 18) h (Int32.toInt64 (sh_oS (some b))) (Int32.toInt64 (nI c))
      rw [e2]
      exact ⟨h2, rfl, sh_c_of f2 (by decide), t2⟩
  | succ t ih =>
    intro k z e hI
    have hI2 := sh_jI_s (Q := sh_jQ n r v) (show k < 128 by omega) hI
    rw [eX6_just_r0_24, if_neg (show ¬ (128 : Int32) ≤ nI k from sh_lt (n := 128) (by omega) (by decide)), he, c_isWithin]
    simp only [Option.bind_some, c_bc]
    have step : sh_lp (sh_jF (sh_jQ n r v)) (t + 1) k z = sh_lp (sh_jF (sh_jQ n r v)) t (k + 1) (sh_jF (sh_jQ n r v) k z) := rfl
    rw [step]
    obtain ⟨o, c⟩ := z
    cases hw : decide (nI k &&& (sh_e n ^^^ (-1)) = 0)
    · have hq : sh_jQ n r v k = false := by unfold sh_jQ sh_wi; rw [hw]; rfl
      have es : sh_jF (sh_jQ n r v) k (o, c) = (o, c) := by unfold sh_jF; rw [sh_fw_no hq, hq]
      rw [es] at hI2 ⊢
      rw [if_pos (show sh_i false = 0 from rfl), nI_1]
      exact ih (k + 1) (o, c) (by omega) hI2
    · rw [if_neg (show ¬ sh_i true = 0 by decide), c_lengths5 _ n h r _ hn hm hv]
      simp only [Option.bind_some]
      by_cases hs : sh_ln n r (nI k) = v
      · have hq : sh_jQ n r v k = true := by unfold sh_jQ sh_wi; rw [hw, decide_eq_true hs]; rfl
        rw [if_pos hs]
        by_cases hb : sh_oN o ≤ sh_bc (nI k)
        · have es : sh_jF (sh_jQ n r v) k (o, c) = (o, c + 1) := by unfold sh_jF; rw [sh_fw_not hb (by omega), hq]
          rw [es] at hI2 ⊢
          rw [if_pos hb, nI_1, nI_1]
          exact ih (k + 1) (o, c + 1) (by omega) hI2
        · have es : sh_jF (sh_jQ n r v) k (o, c) = (some k, c + 1) := by unfold sh_jF; rw [sh_fw_yes hb hq, hq]
          rw [es] at hI2 ⊢
          rw [if_neg hb, nI_1, nI_1]
          exact ih (k + 1) (some k, c + 1) (by omega) hI2
      · have hq : sh_jQ n r v k = false := by unfold sh_jQ; rw [decide_eq_false hs, Bool.and_false]
        have es : sh_jF (sh_jQ n r v) k (o, c) = (o, c) := by unfold sh_jF; rw [sh_fw_no hq, hq]
        rw [es] at hI2 ⊢
        rw [if_neg hs, nI_1]
        exact ih (k + 1) (o, c) (by omega) hI2
theorem t_just_in (d n : Nat) (r : Nat → Int32) (v B c S : Int32) (h : av_M) (hn : n ≤ 7) (hm : h 44 3 = nI n) (hv : sh_MV 48 h r) : ∀ t k a, k + t = n → av_xp (d + 20) 241 41 [.ref 44, .int v, .int B, .int c, .int S, .int a, .int (nI k)] [] h = av_xp (d + 20) 241 41 [.ref 44, .int v, .int B, .int c, .int S, .int (sh_lp (sh_wF (fun j => r (21 + j)) S) t k a), .int (nI n)] [] h := by
  intro t
  induction t with
  | zero =>
    intro k a e
    rw [show k = n by omega]
    rfl
  | succ t ih =>
    intro k a e
    rw [eX7_just_r44_41, hm, if_neg (sh_lt (by omega) (by omega)), c_has]
    simp only [Option.bind_some]
    cases hb : sh_b S k
    · rw [if_pos (show sh_i false = 0 from rfl), nI_1, Int32.add_zero, ih (k + 1) _ (by omega)]
      simp [sh_lp, sh_wF, hb]
    · rw [if_neg (show ¬ sh_i true = 0 by decide), show (21 : Int32) + nI k = nI (21 + k) from nI_add 21 k, sh_inb (show 21 + k < 33 by omega) (by decide), cond_true, nI_clamp (by omega), hv (21 + k) (by omega), nI_1, ih (k + 1) _ (by omega)]
      simp [sh_lp, sh_wF, hb]
theorem sh_e_wi : ∀ n, n ≤ 7 → ∀ k, k < 128 → ¬ sh_e n < nI k → sh_wi (sh_e n) k = true := by decide +kernel
theorem t_just_l (d n b : Nat) (r : Nat → Int32) (v : Int32) (h : av_M) (hn : n ≤ 7) (hm : h 44 3 = nI n) (hv : sh_MV 48 h r) (hb : b < 128) (he : sh_e n = nI b) : ∀ t k (z : Option Nat × Nat) (x x' : Value), k + t = b + 1 → (x = .null ∧ x' = .null ∨ ∃ y y', x = .int y ∧ x' = .int y') → sh_jI k z →
    ∃ h', av_xp (d + 20) 241 26 [.ref 44, .int v, .int (sh_oB z.1), .int (nI z.2), .int (nI k), x, x'] [] h = some (sh_oA (sh_lp (sh_jF (sh_jQ n r v)) t k z).1, 0, h') ∧ sh_m h h' ∧ sh_o2 (sh_jL (sh_lp (sh_jF (sh_jQ n r v)) t k z)) h h' := by
  intro t
  induction t with
  | zero =>
    intro k z x x' e hx hI
    obtain ⟨o, c⟩ := z
    obtain ⟨i1, i2, i3⟩ := hI
    rw [mX7_just_r44_26 _ _ _ _ _ _ _ _ hx, c_all _ n h hm, he]
    simp only [Option.bind_some]
    rw [if_pos (show nI b < nI k from nI_lt (by omega) (by omega))]
    obtain ⟨h2, e2, c2, o2⟩ := c_entersFewest (d + 18) o h i1
    rw [e2]
    simp only [Option.bind_some]
    cases o with
    | none =>
      rw [if_pos (show sh_oB none < 0 by decide)]
      exact ⟨h2, rfl, c2, o2⟩
    | some b' =>
      have hb' := i1 b' rfl
      rw [if_neg (show ¬ sh_oB (some b') < 0 from sh_nneg (by omega))]
      obtain ⟨h3, e3, m3, f3, t3⟩ := c_enters (d + 19) h2 _ (Int32.toInt64 (nI c)) (by simp) o2
      rw [e3]
      exact ⟨h3, rfl, sh_m_tr c2 m3, t3⟩
  | succ t ih =>
    intro k z x x' e hx hI
    have hI2 := sh_jI_s (Q := sh_jQ n r v) (show k < 128 by omega) hI
    rw [mX7_just_r44_26 _ _ _ _ _ _ _ _ hx, c_all _ n h hm, he]
    simp only [Option.bind_some]
    rw [if_neg (show ¬ nI b < nI k from nI_nlt (by omega) (by omega)), show av_xp (d + 20) 241 41 [.ref 44, .int v, .int (sh_oB z.1), .int (nI z.2), .int (nI k), .int 0, .int 0] [] h = _ from t_just_in d n r v (sh_oB z.1) (nI z.2) (nI k) h hn hm hv n 0 0 (by omega), eX7_just_r44_41, hm, if_pos (sh_ge (Nat.le_refl _) (by omega)), show sh_lp (sh_wF (fun j => r (21 + j)) (nI k)) n 0 0 = sh_ln n r (nI k) from rfl]
    have step : sh_lp (sh_jF (sh_jQ n r v)) (t + 1) k z = sh_lp (sh_jF (sh_jQ n r v)) t (k + 1) (sh_jF (sh_jQ n r v) k z) := rfl
    rw [step]
    obtain ⟨o, c⟩ := z
    have hw : sh_wi (sh_e n) k = true := sh_e_wi n hn k (by omega) (by rw [he]; exact nI_nlt (by omega) (by omega))
    by_cases hs : sh_ln n r (nI k) = v
    · have hq : sh_jQ n r v k = true := by unfold sh_jQ; rw [hw, decide_eq_true hs]; rfl
      rw [if_pos hs, c_isFewer _ k o h (by omega) hI.1]
      simp only [Option.bind_some]
      by_cases hf : sh_oN o ≤ sh_bc (nI k)
      · have es : sh_jF (sh_jQ n r v) k (o, c) = (o, c + 1) := by unfold sh_jF; rw [sh_fw_not hf (by omega), hq]
        rw [es] at hI2 ⊢
        rw [decide_eq_true hf, if_pos (show sh_i (!true) = 0 from rfl), if_pos hs, c_flag1]
        simp only [Option.bind_some, nI_1]
        exact ih (k + 1) (o, c + 1) _ _ (by omega) (Or.inr ⟨_, _, rfl, rfl⟩) hI2
      · have es : sh_jF (sh_jQ n r v) k (o, c) = (some k, c + 1) := by unfold sh_jF; rw [sh_fw_yes hf hq, hq]
        rw [es] at hI2 ⊢
        rw [decide_eq_false hf, if_neg (show ¬ sh_i (!false) = 0 by decide), if_pos hs, c_flag1]
        simp only [Option.bind_some, nI_1]
        exact ih (k + 1) (some k, c + 1) _ _ (by omega) (Or.inr ⟨_, _, rfl, rfl⟩) hI2
    · have hq : sh_jQ n r v k = false := by unfold sh_jQ; rw [decide_eq_false hs, Bool.and_false]
      have es : sh_jF (sh_jQ n r v) k (o, c) = (o, c) := by unfold sh_jF; rw [sh_fw_no hq, hq]
      rw [es] at hI2 ⊢
      rw [if_neg hs, if_neg hs, c_flag0]
      simp only [Option.bind_some, nI_1]
      rw [Int32.add_zero]
      exact ih (k + 1) (o, c) _ _ (by omega) (Or.inr ⟨_, _, rfl, rfl⟩) hI2
theorem sh_jL_le (z : Option Nat × Nat) : ∀ l, sh_jL z = some l → l.length ≤ 7 := by
  intro l q
  obtain ⟨o, c⟩ := z
  cases o with
  | none => cases q
  | some z =>
    injection q with q
    subst q
    simp
theorem c_just (v : Int32) : sh_P 82 241 [.int v] := sh_qF fun d N n m L r h F E hF => by
  obtain ⟨a1, a2, a3, a4, a5, a6, a7, a8⟩ := id E.1.1
  cases hp : sh_ir 0 9999 v
  · refine ⟨-1, none, fun _ q => (nomatch q), sh_QX_n ?_, fun h' hc _ _ => sh_QM_n (v := 0) ?_⟩
    · rw [eX6_just_r0_in]
      by_cases g1 : v < 0
      · rw [if_pos g1]
      · by_cases g2 : 9999 < v
        · rw [if_neg g1, if_neg (by rw [Int32.not_le]; exact g2)]
        · rw [sh_ir_in g1 g2] at hp; cases hp
    · rw [eX7_just_r44_in, c_inI _ v 0 9999 _ _ _ (by decide) (by decide), hp]
      rfl
  · obtain ⟨w, _, hw, rfl⟩ := sh_ir_nat (lo := 0) (hi := 9999) (by decide) (by decide) hp
    obtain ⟨b, hb, eb⟩ := sh_e_nI n a1
    have cut : sh_lp (sh_jF (sh_jQ n r (nI w))) 128 0 (none, 0) = sh_lp (sh_jF (sh_jQ n r (nI w))) (b + 1) 0 (none, 0) := by
      rw [show 128 = (b + 1) + (127 - b) by omega, sh_lp_split]
      refine sh_lp_id _ _ _ (fun j h1 h2 a => ?_)
      have hq : sh_jQ n r (nI w) j = false := by
        unfold sh_jQ
        cases hq : sh_wi (sh_e n) j
        · rfl
        · rw [eb] at hq
          have := sh_wi_le b hb j (by omega) hq
          omega
      unfold sh_jF
      rw [sh_fw_no hq, hq]
    obtain ⟨O, hO⟩ : ∃ O, O = sh_lp (sh_jF (sh_jQ n r (nI w))) 128 0 (none, 0) := ⟨_, rfl⟩
    have hI : sh_jI 0 (none, 0) := ⟨fun b q => (nomatch q), ⟨fun _ => rfl, fun _ => rfl⟩, Nat.le_refl _⟩
    refine ⟨sh_oA O.1, sh_jL O, sh_jL_le _, ?_, ?_⟩
    · have K := f_just_l (d + 79) n r (nI w) h a1 a2 a3 a4 128 0 (none, 0) (by omega) hI
      rw [← hO] at K
      obtain ⟨h2, e2, c2, o2⟩ := K
      refine ⟨h2, ?_, c2, o2⟩
      rw [eX6_just_r0_in, if_neg (sh_nneg (by omega)), if_pos (show nI w ≤ 9999 from nI_le (b := 9999) (by omega) (by decide))]
      exact e2
    · intro h' hc E' hF'
      obtain ⟨b1, b2, b3, b4, b5, b6, b7, b8⟩ := id E'.1.1
      have K := t_just_l (d + 79) n b r (nI w) (av_u h' 44 0 0) a1 b5 b6 hb eb (b + 1) 0 (none, 0) .null .null (by omega) (Or.inl ⟨rfl, rfl⟩) hI
      rw [← cut, ← hO] at K
      obtain ⟨h2, e2, c2, o2⟩ := K
      refine ⟨h2, ?_, sh_m_tr (sh_m_s (k := 0) (v := 0) (by decide) (sh_m_refl h')) c2, ?_⟩
      · rw [eX7_just_r44_in, c_inI _ _ 0 9999 _ _ _ (by decide) (by decide), hp]
        exact e2
      · revert o2
        cases sh_jL O with
        | none => exact fun o2 => ⟨o2.1, o2.2⟩
        | some l => exact fun o2 => o2
