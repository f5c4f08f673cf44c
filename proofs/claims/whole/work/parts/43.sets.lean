/-! PURE, 33: sets; halts -/
def sh_wi (W : Int32) (k : Nat) : Bool := decide (nI k &&& (W ^^^ (-1)) = 0)
theorem sh_wi_le : ∀ w, w < 128 → ∀ k, k < 128 → sh_wi (nI w) k = true → k ≤ w := by
  intro w hw k hk h
  unfold sh_wi at h
  have h := of_decide_eq_true h
  have e : nI k = nI (k &&& w) := by
    rw [← nx_and]
    apply b_ext
    intro i hi
    have hb : bt (nI k &&& (nI w ^^^ (-1))) i = bt 0 i := by rw [h]
    rw [b_and, b_xor, b_m1 i hi, b_0] at hb
    rw [b_and]
    cases h1 : bt (nI k) i <;> cases h2 : bt (nI w) i <;> rw [h1, h2] at hb <;> first | rfl | exact absurd hb (by decide)
  have e2 : k = k &&& w := (nI_eq (by omega) (Nat.lt_of_le_of_lt Nat.and_le_left (by omega))).mp e
  rw [e2]
  exact Nat.and_le_right
theorem sh_bc7 : ∀ k, k < 128 → ¬ 8 ≤ sh_bc (nI k) ∧ sh_bc (nI k) ≤ 7 ∧ 0 ≤ sh_bc (nI k) := by decide +kernel
theorem c_isWithin (d : Nat) (s W : Int32) (h : av_M) : av_x (d + 1) 109 [.int s, .int W] h = some (sh_i (decide (s &&& (W ^^^ (-1)) = 0)), 0, h) := by
  rw [eX6_isWithin_in]
  by_cases e : s &&& (W ^^^ (-1)) = 0
  · rw [if_pos e, decide_eq_true e]; rfl
  · rw [if_neg e, decide_eq_false e]; rfl
/-- the fewest of the sets that are good -/
def sh_fw (Q : Nat → Bool) (k : Nat) (o : Option Nat) : Option Nat := match Q k with
  | false => o
  | true => match o with
    | none => some k
    | some b => if sh_bc (nI b) ≤ sh_bc (nI k) then some b else some k
def sh_oN (o : Option Nat) : Int32 := match o with
  | none => 8
  | some b => sh_bc (nI b)
def sh_oS (o : Option Nat) : Int32 := match o with
  | none => 0
  | some b => nI b
def sh_oB (o : Option Nat) : Int32 := match o with
  | none => -1
  | some b => nI b
def sh_oA (o : Option Nat) : Int32 := match o with
  | none => -2
  | some b => sh_bc (nI b)
def sh_oL (o : Option Nat) : Option (List Int64) := match o with
  | none => none
  | some b => some [Int32.toInt64 (nI b)]
theorem sh_oL_le (o : Option Nat) : ∀ l, sh_oL o = some l → l.length ≤ 7 := by
  intro l q
  cases o with
  | none => cases q
  | some z =>
    injection q with q
    subst q
    simp
def sh_o7 (o : Option Nat) : Prop := ∀ b, o = some b → b < 128
theorem sh_fw_7 {Q : Nat → Bool} {k : Nat} {o : Option Nat} (hk : k < 128) (ho : sh_o7 o) : sh_o7 (sh_fw Q k o) := by
  intro b hb
  unfold sh_fw at hb
  cases hq : Q k
  · rw [hq] at hb
    exact ho b hb
  · rw [hq] at hb
    cases o with
    | none =>
      injection hb with hb
      omega
    | some c =>
      have := ho c rfl
      dsimp only at hb
      by_cases e : sh_bc (nI c) ≤ sh_bc (nI k)
      · rw [if_pos e] at hb
        injection hb with hb
        omega
      · rw [if_neg e] at hb
        injection hb with hb
        omega
theorem sh_fws_7 {Q : Nat → Bool} : ∀ t k o, k + t ≤ 128 → sh_o7 o → sh_o7 (sh_lp (sh_fw Q) t k o) := by
  intro t
  induction t with
  | zero => intro k o _ h; exact h
  | succ t ih => intro k o e h; exact ih (k + 1) _ (by omega) (sh_fw_7 (by omega) h)
/-- the class's test: fewer than what it has -/
theorem sh_fw_not {Q : Nat → Bool} {k : Nat} {o : Option Nat} (ho : sh_oN o ≤ sh_bc (nI k)) (hk : k < 128) : sh_fw Q k o = o := by
  unfold sh_fw
  cases Q k
  · rfl
  · cases o with
    | none => exact absurd ho (sh_bc7 k hk).1
    | some b => exact if_pos ho
theorem sh_fw_yes {Q : Nat → Bool} {k : Nat} {o : Option Nat} (ho : ¬ sh_oN o ≤ sh_bc (nI k)) (hq : Q k = true) : sh_fw Q k o = some k := by
  unfold sh_fw
  rw [hq]
  cases o with
  | none => rfl
  | some b => exact if_neg ho
theorem sh_fw_no {Q : Nat → Bool} {k : Nat} {o : Option Nat} (hq : Q k = false) : sh_fw Q k o = o := by
  unfold sh_fw
  rw [hq]
theorem c_isFewer (d k : Nat) (o : Option Nat) (h : av_M) (hk : k < 128) (ho : sh_o7 o) : av_x (d + 2) 229 [.int (nI k), .int (sh_oB o)] h = some (sh_i (!decide (sh_oN o ≤ sh_bc (nI k))), 0, h) := by
  rw [eX7_isFewer_in]
  cases o with
  | none =>
    rw [if_pos (show sh_oB none < 0 by decide), decide_eq_false (show ¬ sh_oN none ≤ sh_bc (nI k) from (sh_bc7 k hk).1)]
    rfl
  | some b =>
    have hb := ho b rfl
    rw [if_neg (show ¬ sh_oB (some b) < 0 from sh_nneg (by omega)), c_bc]
    simp only [Option.bind_some]
    rw [c_bc]
    simp only [Option.bind_some]
    by_cases e : sh_bc (nI b) ≤ sh_bc (nI k)
    · rw [if_pos (show sh_bc (sh_oB (some b)) ≤ sh_bc (nI k) from e), decide_eq_true (show sh_oN (some b) ≤ sh_bc (nI k) from e)]
      rfl
    · rw [if_neg (show ¬ sh_bc (sh_oB (some b)) ≤ sh_bc (nI k) from e), decide_eq_false (show ¬ sh_oN (some b) ≤ sh_bc (nI k) from e)]
      rfl
theorem c_tellSet (d : Nat) (o : Option Nat) (h : av_M) (ho : sh_o7 o) : ∃ h', av_x (d + 3) 113 [.ref 0, .int (sh_oN o), .int (sh_oS o)] h = some (sh_oA o, 0, h') ∧ sh_c h h' ∧ sh_o1 (sh_oL o) h h' := by
  rw [eX6_tellSet_r0_in]
  cases o with
  | none =>
    rw [if_neg (show ¬ sh_oN none ≤ 7 by decide)]
    exact ⟨h, rfl, sh_c_refl h, rfl, rfl⟩
  | some b =>
    have hb := ho b rfl
    rw [if_pos (show sh_oN (some b) ≤ 7 from (sh_bc7 b hb).2.1)]
    obtain ⟨h2, e2, f2, t2⟩ := c_tell d h (Int32.toInt64 (sh_oS (some b)))
    rw [e2]
    exact ⟨h2, rfl, sh_c_of f2 (by decide), t2⟩
theorem c_entersFewest (d : Nat) (o : Option Nat) (h : av_M) (ho : sh_o7 o) : ∃ h', av_x (d + 2) 230 [.ref 44, .int (sh_oB o)] h = some (sh_oA o, 0, h') ∧ sh_m h h' ∧ sh_o2 (sh_oL o) h h' := by
  rw [eX7_entersFewest_r44_in]
  cases o with
  | none =>
    rw [if_neg (show ¬ 0 ≤ sh_oB none by decide)]
    exact ⟨h, rfl, sh_m_refl h, rfl, rfl⟩
  | some b =>
    have hb := ho b rfl
    rw [if_pos (show 0 ≤ sh_oB (some b) from nI_pos' (by omega))]
    obtain ⟨h2, e2, m2, f2, t2⟩ := c_ent1 d (av_u h 44 1 0) (Int32.toInt64 (sh_oB (some b))) rfl
    rw [e2]
    simp only [Option.bind_some, c_bc]
    exact ⟨h2, rfl, sh_m_tr (sh_m_s (k := 1) (v := 0) (by decide) (sh_m_refl h)) m2, t2⟩
theorem sh_e_nI : ∀ n, n ≤ 7 → ∃ b, b < 128 ∧ sh_e n = nI b := by
  intro n hn
  exact sh_sm_nI (sh_sm_e hn)
/-- sets above the bound are none that are good -/
theorem sh_fw_cut {Q : Nat → Bool} {b : Nat} (hb : b < 128) (hQ : ∀ k, b < k → k < 128 → Q k = false) (o : Option Nat) : sh_lp (sh_fw Q) 128 0 o = sh_lp (sh_fw Q) (b + 1) 0 o := by
  rw [show 128 = (b + 1) + (127 - b) by omega, sh_lp_split]
  exact sh_lp_id _ _ _ (fun j h1 h2 a => sh_fw_no (hQ j (by omega) (by omega)))
/-! halts -/
def sh_hQ (n : Nat) (r : Nat → Int32) (str : Nat → Int32) (k : Nat) : Bool := sh_wi (sh_hd n r) k && !decide (sh_w n str (nI k) / 5 < r 31)
theorem f_halts_l (d n : Nat) (r : Nat → Int32) (h : av_M) (hn : n ≤ 7) (hm : h 5 6 = nI n) (hv : sh_SV 5 h r) : ∀ t k (o : Option Nat) (x : Value), k + t = 128 → sh_j1 x → sh_o7 o →
    ∃ h', av_xp (d + 20) 75 16 [.ref 0, .int (sh_hd n r), .int (sh_oN o), .int (sh_oS o), .int (nI k), x] [] h = some (sh_oA (sh_lp (sh_fw (sh_hQ n r (h 7))) t k o), 0, h') ∧ sh_c h h' ∧ sh_o1 (sh_oL (sh_lp (sh_fw (sh_hQ n r (h 7))) t k o)) h h' := by
  intro t
  induction t with
  | zero =>
    intro k o x e hx ho
    have ek : k = 128 := by omega
    subst ek
    rw [mX6_halts_r0_16 _ _ _ _ _ _ _ hx, if_pos (show (128 : Int32) ≤ nI 128 by decide)]
    obtain ⟨h2, e2, c2, o2⟩ := c_tellSet (d + 17) o h ho
    rw [e2]
    exact ⟨h2, rfl, c2, o2⟩
  | succ t ih =>
    intro k o x e hx ho
    rw [mX6_halts_r0_16 _ _ _ _ _ _ _ hx, if_neg (show ¬ (128 : Int32) ≤ nI k from sh_lt (n := 128) (by omega) (by decide)), c_isWithin]
    simp only [Option.bind_some, c_bc]
    have step : sh_lp (sh_fw (sh_hQ n r (h 7))) (t + 1) k o = sh_lp (sh_fw (sh_hQ n r (h 7))) t (k + 1) (sh_fw (sh_hQ n r (h 7)) k o) := rfl
    rw [step]
    cases hw : decide (nI k &&& (sh_hd n r ^^^ (-1)) = 0)
    · have hq : sh_hQ n r (h 7) k = false := by unfold sh_hQ sh_wi; rw [hw]; rfl
      rw [if_pos (show sh_i false = 0 from rfl), sh_fw_no hq, nI_1]
      exact ih (k + 1) o _ (by omega) (Or.inr ⟨_, rfl⟩) ho
    · rw [if_neg (show ¬ sh_i true = 0 by decide)]
      by_cases hb : sh_oN o ≤ sh_bc (nI k)
      · rw [if_pos hb, sh_fw_not hb (by omega), nI_1]
        exact ih (k + 1) o _ (by omega) (Or.inr ⟨_, rfl⟩) ho
      · rw [if_neg hb, c_weight5 _ n h _ hn hm]
        simp only [Option.bind_some]
        rw [hv.2.2.2.2.2.2.2.1]
        by_cases hs : sh_w n (h 7) (nI k) / 5 < r 31
        · have hq : sh_hQ n r (h 7) k = false := by unfold sh_hQ; rw [decide_eq_true hs, Bool.not_true, Bool.and_false]
          rw [if_pos hs, sh_fw_no hq, nI_1]
          exact ih (k + 1) o _ (by omega) (Or.inr ⟨_, rfl⟩) ho
        · have hq : sh_hQ n r (h 7) k = true := by unfold sh_hQ sh_wi; rw [hw, decide_eq_false hs]; rfl
          rw [if_neg hs, sh_fw_yes hb hq, nI_1]
          exact ih (k + 1) (some k) _ (by omega) (Or.inr ⟨_, rfl⟩) (fun b q => by injection q with q; omega)
theorem t_halts_l (d n b : Nat) (r : Nat → Int32) (h : av_M) (hn : n ≤ 7) (hm : h 44 3 = nI n) (hv : sh_MV 48 h r) (hb : b < 128) (he : sh_e n = nI b) : ∀ t k (o : Option Nat) (x : Value), k + t = b + 1 → sh_j1 x → sh_o7 o →
    ∃ h', av_xp (d + 20) 231 9 [.ref 44, .int (sh_oB o), .int (nI k), x] [] h = some (sh_oA (sh_lp (sh_fw (sh_hQ n r (h 47))) t k o), 0, h') ∧ sh_m h h' ∧ sh_o2 (sh_oL (sh_lp (sh_fw (sh_hQ n r (h 47))) t k o)) h h' := by
  intro t
  induction t with
  | zero =>
    intro k o x e hx ho
    rw [mX7_halts_r44_9 _ _ _ _ _ hx, c_all _ n h hm, he]
    simp only [Option.bind_some]
    rw [if_pos (show nI b < nI k from nI_lt (by omega) (by omega))]
    obtain ⟨h2, e2, c2, o2⟩ := c_entersFewest (d + 18) o h ho
    rw [e2]
    exact ⟨h2, rfl, c2, o2⟩
  | succ t ih =>
    intro k o x e hx ho
    rw [mX7_halts_r44_9 _ _ _ _ _ hx, c_all _ n h hm, he]
    simp only [Option.bind_some]
    rw [if_neg (show ¬ nI b < nI k from nI_nlt (by omega) (by omega)), c_holdingM48 _ n h r hm hv]
    simp only [Option.bind_some]
    have step : sh_lp (sh_fw (sh_hQ n r (h 47))) (t + 1) k o = sh_lp (sh_fw (sh_hQ n r (h 47))) t (k + 1) (sh_fw (sh_hQ n r (h 47)) k o) := rfl
    rw [step]
    by_cases hw : nI k &&& (sh_hd n r ^^^ (-1)) = 0
    · rw [if_pos hw, c_counts _ n h _ hn hm]
      simp only [Option.bind_some]
      rw [hv 31 (by decide), show sh_lp (sh_wF (h 47) (nI k)) n 0 0 = sh_w n (h 47) (nI k) from rfl]
      by_cases hs : sh_w n (h 47) (nI k) / 5 < r 31
      · have hq : sh_hQ n r (h 47) k = false := by unfold sh_hQ; rw [decide_eq_true hs, Bool.not_true, Bool.and_false]
        rw [if_pos hs, sh_fw_no hq, nI_1]
        exact ih (k + 1) o _ (by omega) (Or.inr ⟨_, rfl⟩) ho
      · have hq : sh_hQ n r (h 47) k = true := by unfold sh_hQ sh_wi; rw [decide_eq_true hw, decide_eq_false hs]; rfl
        rw [if_neg hs, c_isFewer _ k o h (by omega) ho]
        simp only [Option.bind_some]
        by_cases hf : sh_oN o ≤ sh_bc (nI k)
        · rw [decide_eq_true hf, if_pos (show sh_i (!true) = 0 from rfl), sh_fw_not hf (by omega), nI_1]
          exact ih (k + 1) o _ (by omega) (Or.inr ⟨_, rfl⟩) ho
        · rw [decide_eq_false hf, if_neg (show ¬ sh_i (!false) = 0 by decide), sh_fw_yes hf hq, nI_1]
          exact ih (k + 1) (some k) _ (by omega) (Or.inr ⟨_, rfl⟩) (fun b q => by injection q with q; omega)
    · have hq : sh_hQ n r (h 47) k = false := by unfold sh_hQ sh_wi; rw [decide_eq_false hw]; rfl
      rw [if_neg hw, sh_fw_no hq, nI_1]
      exact ih (k + 1) o _ (by omega) (Or.inr ⟨_, rfl⟩) ho
theorem sh_hd_le_e {n : Nat} (hn : n ≤ 7) (r : Nat → Int32) {b w : Nat} (hb : b < 128) (hw : w < 128) (eb : sh_e n = nI b) (ew : sh_hd n r = nI w) : w ≤ b := by
  apply sh_wi_le b hb w hw
  unfold sh_wi
  apply decide_eq_true
  rw [← eb, ← ew]
  unfold sh_hd
  apply b_ext
  intro i hi
  simp only [b_and, b_xor, b_m1 i hi, b_0]
  cases bt (sh_e n) i <;> cases bt (r 28) i <;> cases bt (r 29) i <;> rfl
theorem sh_hQ_cong {n : Nat} {r str str' : Nat → Int32} (hs : ∀ j, j < n → str j = str' j) : sh_hQ n r str = sh_hQ n r str' := by
  funext k
  unfold sh_hQ
  rw [sh_w_cong hs]
theorem sh_fwl_7 {Q : Nat → Bool} : sh_o7 (none : Option Nat) := fun b q => (nomatch q)
theorem c_halts : sh_P 75 231 [] := sh_qF fun d N n m L r h F E hF => by
  obtain ⟨a1, a2, a3, a4, a5, a6, a7, a8⟩ := id E.1.1
  obtain ⟨b, hb, eb⟩ := sh_e_nI n a1
  obtain ⟨w, hw, ew⟩ := sh_sm_nI (sh_sm_hd a1 r)
  have hwb := sh_hd_le_e a1 r hb hw eb ew
  have eQ : sh_hQ n r (h 7) = sh_hQ n r (h 47) := sh_hQ_cong (fun j hj => (a7 j hj).2.1)
  have cut : sh_lp (sh_fw (sh_hQ n r (h 47))) 128 0 none = sh_lp (sh_fw (sh_hQ n r (h 47))) (b + 1) 0 none := by
    apply sh_fw_cut hb
    intro k k1 k2
    unfold sh_hQ
    cases hq : sh_wi (sh_hd n r) k
    · rfl
    · rw [ew] at hq
      have := sh_wi_le w hw k k2 hq
      omega
  obtain ⟨O, hO⟩ : ∃ O, O = sh_lp (sh_fw (sh_hQ n r (h 47))) 128 0 none := ⟨_, rfl⟩
  refine ⟨sh_oA O, sh_oL O, sh_oL_le _, ?_, ?_⟩
  · have K := f_halts_l (d + 79) n r h a1 a2 a4 128 0 none .null (by omega) (Or.inl rfl) (sh_fwl_7 (Q := fun _ => true))
    rw [eQ, ← hO] at K
    obtain ⟨h2, e2, c2, o2⟩ := K
    refine ⟨h2, ?_, c2, o2⟩
    rw [eX6_halts_r0_in, c_holding5 _ n h r a3 a4]
    exact e2
  · intro h' hc E' hF'
    obtain ⟨b1, b2, b3, b4, b5, b6, b7, b8⟩ := id E'.1.1
    have K := t_halts_l (d + 79) n b r (av_u h' 44 0 0) a1 b5 b6 hb eb (b + 1) 0 none .null (by omega) (Or.inl rfl) (sh_fwl_7 (Q := fun _ => true))
    rw [show (av_u h' 44 0 0) 47 = h 47 from hc 47 (by decide), ← cut, ← hO] at K
    obtain ⟨h2, e2, c2, o2⟩ := K
    refine ⟨h2, ?_, sh_m_tr (sh_m_s (k := 0) (v := 0) (by decide) (sh_m_refl h')) c2, ?_⟩
    · rw [eX7_halts_r44_in]
      exact e2
    · revert o2
      cases sh_oL O with
      | none => exact fun o2 => ⟨o2.1, o2.2⟩
      | some l => exact fun o2 => o2
