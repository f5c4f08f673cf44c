/-! PURE, 39: calls: power, pivots -/
def sh_pq (k : Nat) : Nat := sh_cb (fun i => (nI k).toBitVec.getLsbD i) 7 0
theorem sh_bc_pc : ∀ k, k < 128 → sh_bc (nI k) = nI (sh_pq k) := by decide +kernel
theorem sh_pq_le (k : Nat) : sh_pq k ≤ 7 := sh_cb_le _ 7 0
theorem sh_cb_mono {P Q : Nat → Bool} : ∀ t k, (∀ j, k ≤ j → j < k + t → P j = true → Q j = true) → sh_cb P t k ≤ sh_cb Q t k := by
  intro t
  induction t with
  | zero => intro k _; exact Nat.le_refl _
  | succ t ih =>
    intro k h
    have i := ih (k + 1) (fun j h1 h2 => h j (by omega) (by omega))
    have hk := h k (Nat.le_refl _) (by omega)
    unfold sh_cb
    cases hP : P k
    · cases Q k <;> dsimp only <;> omega
    · rw [hk hP]
      dsimp only
      omega
theorem sh_wi_iff {W : Int32} {k : Nat} : sh_wi W k = true ↔ ∀ j, j < 32 → bt (nI k) j = true → bt W j = true := by
  constructor
  · intro h j hj hb
    cases hW : bt W j
    · rw [sh_wi_bt hj h hW] at hb
      cases hb
    · rfl
  · intro h
    unfold sh_wi
    apply decide_eq_true
    apply b_ext
    intro j hj
    rw [b_and, b_xor, b_m1 j hj, b_0]
    cases hb : bt (nI k) j
    · rfl
    · rw [h j hj hb]; rfl
theorem sh_pq_mono {w k : Nat} (h : sh_wi (nI w) k = true) : sh_pq k ≤ sh_pq w :=
  sh_cb_mono 7 0 (fun j _ hj hb => sh_wi_iff.mp h j (by omega) hb)
theorem sh_wi_others {W : Int32} {i k : Nat} (hi : i < 7) : sh_wi (W &&& (((1 : Int32) <<< (nI i &&& 31)) ^^^ (-1))) k = (sh_wi W k && !sh_b (nI k) i) := by
  rw [sh_b_bt _ (show i < 32 by omega)]
  have e : sh_wi (W &&& (((1 : Int32) <<< (nI i &&& 31)) ^^^ (-1))) k = true ↔ (sh_wi W k && !bt (nI k) i) = true := by
    rw [Bool.and_eq_true, sh_wi_iff, sh_wi_iff]
    constructor
    · intro h
      refine ⟨fun j hj hb => ?_, ?_⟩
      · have := h j hj hb
        rw [b_and, Bool.and_eq_true] at this
        exact this.1
      · cases hb : bt (nI k) i
        · rfl
        · have := h i (by omega) hb
          rw [b_and, b_xor, b_m1 i (by omega), sh_bit1 (by omega) (by omega), decide_eq_true rfl] at this
          simp at this
    · rintro ⟨h1, h2⟩ j hj hb
      rw [b_and, h1 j hj hb, b_xor, b_m1 j hj, sh_bit1 (by omega) hj]
      by_cases e : j = i
      · subst e
        rw [hb] at h2
        cases h2
      · rw [decide_eq_false e]; rfl
  cases h1 : sh_wi (W &&& (((1 : Int32) <<< (nI i &&& 31)) ^^^ (-1))) k <;> cases h2 : (sh_wi W k && !bt (nI k) i)
  · rfl
  · rw [h1, h2] at e; exact absurd (e.mpr rfl) (by decide)
  · rw [h1, h2] at e; exact absurd (e.mp rfl) (by decide)
  · rfl
def sh_dc (n : Nat) (str r : Nat → Int32) (s : Int32) : Bool := !decide (2 * sh_w n str s ≤ sh_w n str (sh_hd n r))
theorem c_decides5 (d n : Nat) (h : av_M) (r : Nat → Int32) (s : Int32) (hn : n ≤ 7) (hm : h 5 6 = nI n) (he : h 5 7 = sh_e n) (hv : sh_SV 5 h r) : av_x (d + 3) 134 [.ref 0, .int s] h = some (sh_i (sh_dc n (h 7) r s), 0, h) := by
  rw [eX6_decides_r0_in, c_weight5 _ n h _ hn hm]
  simp only [Option.bind_some]
  rw [c_holding5 _ n h r he hv]
  simp only [Option.bind_some]
  rw [c_weight5 _ n h _ hn hm]
  simp only [Option.bind_some]
  unfold sh_dc
  by_cases q : 2 * sh_w n (h 7) s ≤ sh_w n (h 7) (sh_hd n r)
  · rw [if_pos q, decide_eq_true q]; rfl
  · rw [if_neg q, decide_eq_false q]; rfl
theorem c_decidesM (d n : Nat) (h : av_M) (r : Nat → Int32) (s : Int32) (hn : n ≤ 7) (hm : h 44 3 = nI n) (hv : sh_MV 48 h r) : av_x (d + 3) 233 [.ref 44, .int s] h = some (sh_i (sh_dc n (h 47) r s), 0, h) := by
  rw [eX7_decides_r44_in, c_counts _ n h _ hn hm]
  simp only [Option.bind_some]
  rw [c_holdingM48 _ n h r hm hv]
  simp only [Option.bind_some]
  rw [c_counts _ n h _ hn hm]
  simp only [Option.bind_some]
  unfold sh_dc
  by_cases q : 2 * sh_w n (h 47) s ≤ sh_w n (h 47) (sh_hd n r)
  · rw [if_pos (show 2 * sh_lp (sh_wF (h 47) s) n 0 0 ≤ sh_lp (sh_wF (h 47) (sh_hd n r)) n 0 0 from q), decide_eq_true q]; rfl
  · rw [if_neg (show ¬ 2 * sh_lp (sh_wF (h 47) s) n 0 0 ≤ sh_lp (sh_wF (h 47) (sh_hd n r)) n 0 0 from q), decide_eq_false q]; rfl
def sh_tp (n : Nat) (str r : Nat → Int32) (i k : Nat) : Bool := !sh_dc n str r (nI k) && sh_dc n str r (nI k ||| ((1 : Int32) <<< (nI i &&& 31)))
theorem c_tips (d n i k : Nat) (h : av_M) (r : Nat → Int32) (hn : n ≤ 7) (hm : h 5 6 = nI n) (he : h 5 7 = sh_e n) (hv : sh_SV 5 h r) : av_x (d + 4) 133 [.ref 0, .int (nI k), .int (nI i)] h = some (sh_i (sh_tp n (h 7) r i k), 0, h) := by
  rw [eX6_tips_r0_in, c_decides5 _ n h r _ hn hm he hv]
  simp only [Option.bind_some]
  unfold sh_tp
  cases sh_dc n (h 7) r (nI k)
  · rw [if_pos (show sh_i false = 0 from rfl), c_decides5 _ n h r _ hn hm he hv]
    simp only [Option.bind_some]
    cases sh_dc n (h 7) r (nI k ||| ((1 : Int32) <<< (nI i &&& 31))) <;> rfl
  · rfl
def sh_vQ (n : Nat) (str r : Nat → Int32) (i k : Nat) : Bool := sh_wi (sh_hd n r &&& (((1 : Int32) <<< (nI i &&& 31)) ^^^ (-1))) k && sh_tp n str r i k
theorem c_turnsIt (d n i k : Nat) (h : av_M) (r : Nat → Int32) (hi : i < 7) (hn : n ≤ 7) (hm : h 44 3 = nI n) (hv : sh_MV 48 h r) : av_x (d + 4) 234 [.ref 44, .int (nI k), .int (nI i)] h = some (sh_i (sh_vQ n (h 47) r i k), 0, h) := by
  unfold sh_vQ
  rw [sh_wi_others hi, eX7_turnsIt_r44_in, c_holdingM48 _ n h r hm hv]
  simp only [Option.bind_some, c_has]
  unfold sh_wi
  by_cases q : nI k &&& (sh_hd n r ^^^ (-1)) = 0
  · rw [if_pos q, decide_eq_true q]
    cases sh_b (nI k) i
    · rw [if_pos (show sh_i false = 0 from rfl), c_decidesM _ n h r _ hn hm hv]
      simp only [Option.bind_some]
      unfold sh_tp
      cases sh_dc n (h 47) r (nI k)
      · rw [if_pos (show sh_i false = 0 from rfl), c_decidesM _ n h r _ hn hm hv]
        simp only [Option.bind_some]
        cases sh_dc n (h 47) r (nI k ||| ((1 : Int32) <<< (nI i &&& 31))) <;> rfl
      · rfl
    · rfl
  · rw [if_neg q, decide_eq_false q]
    rfl
theorem sh_vQ_cong {n i : Nat} {str str' r : Nat → Int32} (hs : ∀ j, j < n → str j = str' j) : sh_vQ n str r i = sh_vQ n str' r i := by
  funext k
  unfold sh_vQ sh_tp sh_dc
  rw [sh_w_cong hs, sh_w_cong hs, sh_w_cong hs]
def sh_vF (Q : Nat → Bool) (g : Nat → Nat) (k c : Nat) : Nat := match Q k with
  | true => c + g k
  | false => c
theorem sh_vF_le {Q : Nat → Bool} {g : Nat → Nat} {M : Nat} (hg : ∀ k, k < 128 → Q k = true → g k ≤ M) : ∀ t k c, k + t ≤ 128 → sh_lp (sh_vF Q g) t k c ≤ c + t * M := by
  intro t
  induction t with
  | zero => intro k c _; show c ≤ _; omega
  | succ t ih =>
    intro k c e
    have i := ih (k + 1) (sh_vF Q g k c) (by omega)
    have : sh_vF Q g k c ≤ c + M := by
      unfold sh_vF
      cases hq : Q k
      · dsimp only; omega
      · have := hg k (by omega) hq
        dsimp only; omega
    show sh_lp (sh_vF Q g) t (k + 1) (sh_vF Q g k c) ≤ _
    rw [Nat.succ_mul]
    omega
theorem sh_vF_cut {Q : Nat → Bool} {g : Nat → Nat} {B : Nat} (hB : B < 128) (hQ : ∀ k, B < k → k < 128 → Q k = false) (c : Nat) : sh_lp (sh_vF Q g) 128 0 c = sh_lp (sh_vF Q g) (B + 1) 0 c := by
  rw [show 128 = (B + 1) + (127 - B) by omega, sh_lp_split]
  refine sh_lp_id _ _ _ (fun j h1 h2 a => ?_)
  unfold sh_vF
  rw [hQ j (by omega) (by omega)]
theorem f_pow_l (d n i : Nat) (r : Nat → Int32) (h : av_M) (hn : n ≤ 7) (hm : h 5 6 = nI n) (he : h 5 7 = sh_e n) (hv : sh_SV 5 h r) : ∀ t k c, k + t = 128 → av_xp (d + 20) 77 46 [.ref 0, .int (nI i), .int (sh_hd n r &&& (((1 : Int32) <<< (nI i &&& 31)) ^^^ (-1))), .int (nI c), .int (nI k)] [] h = av_xp (d + 20) 77 46 [.ref 0, .int (nI i), .int (sh_hd n r &&& (((1 : Int32) <<< (nI i &&& 31)) ^^^ (-1))), .int (nI (sh_lp (sh_vF (sh_vQ n (h 7) r i) (fun _ => 1)) t k c)), .int (nI 128)] [] h := by
  intro t
  induction t with
  | zero =>
    intro k c e
    rw [show k = 128 by omega]
    rfl
  | succ t ih =>
    intro k c e
    rw [eX6_power_r0_46, if_neg (show ¬ (128 : Int32) ≤ nI k from sh_lt (n := 128) (by omega) (by decide)), c_isWithin]
    simp only [Option.bind_some]
    have step : sh_lp (sh_vF (sh_vQ n (h 7) r i) (fun _ => 1)) (t + 1) k c = sh_lp (sh_vF (sh_vQ n (h 7) r i) (fun _ => 1)) t (k + 1) (sh_vF (sh_vQ n (h 7) r i) (fun _ => 1) k c) := rfl
    rw [step]
    cases hw : decide (nI k &&& ((sh_hd n r &&& (((1 : Int32) <<< (nI i &&& 31)) ^^^ (-1))) ^^^ (-1)) = 0)
    · have hq : sh_vQ n (h 7) r i k = false := by unfold sh_vQ sh_wi; rw [hw]; rfl
      rw [if_pos (show sh_i false = 0 from rfl), nI_1, ih (k + 1) c (by omega), show sh_vF (sh_vQ n (h 7) r i) (fun _ => 1) k c = c by unfold sh_vF; rw [hq]]
    · rw [if_neg (show ¬ sh_i true = 0 by decide), c_tips _ n i k h r hn hm he hv]
      simp only [Option.bind_some]
      have hq : sh_vQ n (h 7) r i k = sh_tp n (h 7) r i k := by unfold sh_vQ sh_wi; rw [hw]; rfl
      cases ht : sh_tp n (h 7) r i k
      · rw [ht] at hq
        rw [if_pos (show sh_i false = 0 from rfl), nI_1, ih (k + 1) c (by omega), show sh_vF (sh_vQ n (h 7) r i) (fun _ => 1) k c = c by unfold sh_vF; rw [hq]]
      · rw [ht] at hq
        rw [if_neg (show ¬ sh_i true = 0 by decide), nI_1, nI_1, ih (k + 1) (c + 1) (by omega), show sh_vF (sh_vQ n (h 7) r i) (fun _ => 1) k c = c + 1 by unfold sh_vF; rw [hq]]
theorem t_pow_l (d n i B : Nat) (r : Nat → Int32) (h : av_M) (hi : i < 7) (hn : n ≤ 7) (hm : h 44 3 = nI n) (hv : sh_MV 48 h r) (hB : B < 128) (eB : sh_e n = nI B) : ∀ t k c, k + t = B + 1 → av_xp (d + 20) 236 37 [.ref 44, .int (nI i), .int (nI c), .int (nI k)] [] h = av_xp (d + 20) 236 37 [.ref 44, .int (nI i), .int (nI (sh_lp (sh_vF (sh_vQ n (h 47) r i) (fun _ => 1)) t k c)), .int (nI (B + 1))] [] h := by
  intro t
  induction t with
  | zero =>
    intro k c e
    rw [show k = B + 1 by omega]
    rfl
  | succ t ih =>
    intro k c e
    rw [eX7_power_r44_37, c_all _ n h hm, eB]
    simp only [Option.bind_some]
    rw [if_neg (show ¬ nI B < nI k from nI_nlt (by omega) (by omega)), c_turnsIt _ n i k h r hi hn hm hv]
    simp only [Option.bind_some, c_flag]
    have step : sh_lp (sh_vF (sh_vQ n (h 47) r i) (fun _ => 1)) (t + 1) k c = sh_lp (sh_vF (sh_vQ n (h 47) r i) (fun _ => 1)) t (k + 1) (sh_vF (sh_vQ n (h 47) r i) (fun _ => 1) k c) := rfl
    rw [step]
    cases hq : sh_vQ n (h 47) r i k
    · rw [show nI c + sh_i false = nI c from Int32.add_zero _, nI_1, ih (k + 1) c (by omega), show sh_vF (sh_vQ n (h 47) r i) (fun _ => 1) k c = c by unfold sh_vF; rw [hq]]
    · rw [show nI c + sh_i true = nI (c + 1) from nI_1 c, nI_1, ih (k + 1) (c + 1) (by omega), show sh_vF (sh_vQ n (h 47) r i) (fun _ => 1) k c = c + 1 by unfold sh_vF; rw [hq]]
theorem sh_bc_out : ∀ w, w < 128 → ∀ i, i < 7 → (nI w).toBitVec.getLsbD i = true → sh_bc (nI w) = sh_bc (nI w &&& (((1 : Int32) <<< (nI i &&& 31)) ^^^ (-1))) + 1 := by decide +kernel
theorem sh_shl64 : ∀ j, j < 8 → (1 : Int64) <<< (Int32.toInt64 (nI j) &&& 63) = lN (2 ^ j) := by decide +kernel
theorem sh_shl32 : ∀ j, j < 8 → Int32.toInt64 ((1 : Int32) <<< ((nI (j + 1) - 1) &&& 31)) = lN (2 ^ j) := by decide +kernel
theorem sh_votes {n i : Nat} {r : Nat → Int32} (hn : n ≤ 7) (hi : i < 7) (hb : sh_b (sh_hd n r) i = true) : ∃ w v B, w < 128 ∧ v < 128 ∧ B < 128 ∧ sh_hd n r = nI w ∧ sh_hd n r &&& (((1 : Int32) <<< (nI i &&& 31)) ^^^ (-1)) = nI v ∧ sh_e n = nI B ∧ v ≤ B ∧ sh_pq w = sh_pq v + 1 := by
  obtain ⟨w, hw, ew⟩ := sh_sm_nI (sh_sm_hd hn r)
  obtain ⟨v, hv, ev⟩ := sh_sm_nI (sh_sm_and (((1 : Int32) <<< (nI i &&& 31)) ^^^ (-1)) (sh_sm_hd hn r))
  obtain ⟨B, hB, eB⟩ := sh_e_nI n hn
  refine ⟨w, v, B, hw, hv, hB, ew, ev, eB, ?_, ?_⟩
  · apply sh_wi_le B hB v hv
    rw [sh_wi_iff, ← eB, ← ev]
    intro j hj q
    rw [b_and, Bool.and_eq_true] at q
    have q := q.1
    unfold sh_hd at q
    rw [b_and, b_and] at q
    cases hbe : bt (sh_e n) j
    · rw [hbe] at q
      simp at q
    · rfl
  · rw [sh_b_bt _ (show i < 32 by omega), ew] at hb
    have h1 := sh_bc_out w hw i hi hb
    rw [← ew, ev, ew, sh_bc_pc w hw, sh_bc_pc v hv, nI_1] at h1
    have := sh_pq_le w
    have := sh_pq_le v
    exact (nI_eq (by omega) (by omega)).mp h1
theorem c_power (p : Int32) : sh_P 77 236 [.int p] := sh_qF fun d N n m L r h F E hF => by
  obtain ⟨a1, a2, a3, a4, a5, a6, a7, a8⟩ := id E.1.1
  cases hk : sh_kn n p
  · refine ⟨-1, none, fun _ q => (nomatch q), sh_QX_n ?_, fun h' hc E' _ => sh_QM_n (v := 0) ?_⟩
    · rw [eX6_power_r0_in, c_knowsp _ n h p a2, hk]
      rfl
    · rw [eX7_power_r44_in, c_isOne _ n _ p a1 (show (av_u h' 44 0 0) 44 3 = nI n from E'.1.1.2.2.2.2.1), hk]
      rfl
  · obtain ⟨i, hi, rfl⟩ := sh_kn_of a1 hk
    cases hb : sh_b (sh_hd n r) i
    · refine ⟨-2, none, fun _ q => (nomatch q), sh_QX_n ?_, fun h' hc E' _ => sh_QM_n (v := 0) ?_⟩
      · rw [eX6_power_r0_in, c_knowsp _ n h _ a2, hk]
        simp only [Option.bind_some]
        rw [if_neg (by decide), c_holds5 _ n h r i a3 a4, hb]
        rfl
      · rw [eX7_power_r44_in, c_isOne _ n _ _ a1 (show (av_u h' 44 0 0) 44 3 = nI n from E'.1.1.2.2.2.2.1), hk]
        simp only [Option.bind_some]
        rw [if_neg (by decide), c_holdingM48 _ n _ r (show (av_u h' 44 0 0) 44 3 = nI n from E'.1.1.2.2.2.2.1) (show sh_MV 48 (av_u h' 44 0 0) r from E'.1.1.2.2.2.2.2.1)]
        simp only [Option.bind_some, c_has]
        rw [hb]
        rfl
    · obtain ⟨w, v, B, hw, hv, hB, ew, ev, eB, hvB, epc⟩ := sh_votes a1 (show i < 7 by omega) hb
      have hpw := sh_pq_le w
      have eQ : sh_vQ n (h 7) r i = sh_vQ n (h 47) r i := sh_vQ_cong (fun j hj => (a7 j hj).2.1)
      have cut : sh_lp (sh_vF (sh_vQ n (h 47) r i) (fun _ => 1)) 128 0 0 = sh_lp (sh_vF (sh_vQ n (h 47) r i) (fun _ => 1)) (B + 1) 0 0 := by
        apply sh_vF_cut hB
        intro k k1 k2
        unfold sh_vQ
        rw [ev]
        cases hq : sh_wi (nI v) k
        · rfl
        · have := sh_wi_le v hv k k2 hq
          omega
      obtain ⟨C, hC⟩ : ∃ C, C = sh_lp (sh_vF (sh_vQ n (h 47) r i) (fun _ => 1)) 128 0 0 := ⟨_, rfl⟩
      have hC2 : C ≤ 128 := by
        rw [hC]
        have := sh_vF_le (Q := sh_vQ n (h 47) r i) (g := fun _ => 1) (M := 1) (fun _ _ _ => Nat.le_refl _) 128 0 0 (by omega)
        omega
      have hpow : 2 ^ sh_pq v ≤ 2 ^ 6 := Nat.pow_le_pow_right (by decide) (by omega)
      have hpow0 : 0 < 2 ^ sh_pq v := Nat.pow_pos (by decide)
      refine ⟨0, some (sh_fl C (2 ^ sh_pq v)), fun l q => by injection q with q; subst q; simp [sh_fl], ?_, ?_⟩
      · have K := f_pow_l (d + 79) n i r h a1 a2 a3 a4 128 0 0 (by omega)
        rw [eQ, ← hC, ev] at K
        obtain ⟨h2, e2, c2, t2⟩ := c_tellFr (d + 78) C (2 ^ sh_pq v) h (by omega) (by omega) hpow0
        refine ⟨h2, ?_, c2, t2⟩
        rw [eX6_power_r0_in, c_knowsp _ n h _ a2, hk]
        simp only [Option.bind_some]
        rw [if_neg (by decide), c_holds5 _ n h r i a3 a4, hb]
        simp only [Option.bind_some]
        rw [if_neg (by decide), c_holding5 _ n h r a3 a4]
        simp only [Option.bind_some]
        rw [ev]
        refine K.trans ?_
        rw [eX6_power_r0_46, if_pos (show (128 : Int32) ≤ nI 128 by decide), c_bc, sh_bc_pc v hv]
        simp only [Option.bind_some]
        rw [nI_l (by omega), sh_shl64 _ (by omega), e2]
        rfl
      · intro h' hc E' hF'
        obtain ⟨b1, b2, b3, b4, b5, b6, b7, b8⟩ := id E'.1.1
        have q47 : (av_u h' 44 0 0) 47 = h 47 := hc 47 (by decide)
        have hm0 : (av_u h' 44 0 0) 44 3 = nI n := b5
        have hv0 : sh_MV 48 (av_u h' 44 0 0) r := b6
        have K := t_pow_l (d + 79) n i B r (av_u h' 44 0 0) (by omega) a1 hm0 hv0 hB eB (B + 1) 0 0 (by omega)
        rw [q47, ← cut, ← hC] at K
        obtain ⟨h2, e2, c2, t2⟩ := c_entersFr (d + 48) C (2 ^ sh_pq v) (av_u h' 44 0 0) (by omega) (by omega) hpow0
        refine ⟨h2, ?_, sh_m_tr (sh_m_s (k := 0) (v := 0) (by decide) (sh_m_refl h')) c2, t2⟩
        rw [eX7_power_r44_in, c_isOne _ n _ _ a1 hm0, hk]
        simp only [Option.bind_some]
        rw [if_neg (by decide), c_holdingM48 _ n _ r hm0 hv0]
        simp only [Option.bind_some, c_has]
        rw [hb, if_neg (by decide)]
        refine K.trans ?_
        rw [eX7_power_r44_37, c_all _ n _ hm0, eB]
        simp only [Option.bind_some]
        rw [if_pos (show nI B < nI (B + 1) from nI_lt (by omega) (by omega)), c_holdingM48 _ n _ r hm0 hv0, ew]
        simp only [Option.bind_some, c_bc]
        rw [sh_bc_pc w hw, epc, nI_l (by omega), sh_shl32 _ (by omega), e2]
        rfl
