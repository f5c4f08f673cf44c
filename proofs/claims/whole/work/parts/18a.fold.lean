/-! PURE, 7: sets as folds; the count of bits -/
theorem sh_lp_split {α : Type} (f : Nat → α → α) : ∀ (s t k : Nat) (a : α), sh_lp f (s + t) k a = sh_lp f t (k + s) (sh_lp f s k a) := by
  intro s t
  induction t with
  | zero => intro k a; rfl
  | succ t ih =>
    intro k a
    rw [show s + (t + 1) = (s + t) + 1 by omega, sh_lp_end, sh_lp_end, ih, show k + (s + t) = k + s + t by omega]
theorem sh_lp_id {α : Type} {f : Nat → α → α} : ∀ (t k : Nat) (a : α), (∀ j, k ≤ j → j < k + t → ∀ a, f j a = a) → sh_lp f t k a = a := by
  intro t
  induction t with
  | zero => intro k a _; rfl
  | succ t ih =>
    intro k a h
    rw [sh_lp_end, ih k a (fun j h1 h2 => h j h1 (by omega)), h (k + t) (by omega) (by omega)]
/-- the set of the k below n with P -/
def sh_sF (P : Nat → Bool) (k : Nat) (a : Int32) : Int32 := if P k = true then a ||| ((1 : Int32) <<< (nI k &&& 31)) else a
theorem sh_sF_bt (P : Nat → Bool) : ∀ (t : Nat) (i : Nat), t ≤ 32 → i < 32 → bt (sh_lp (sh_sF P) t 0 0) i = (decide (i < t) && P i) := by
  intro t
  induction t with
  | zero => intro i _ hi; show bt 0 i = _; rw [b_0]; simp
  | succ t ih =>
    intro i ht hi
    rw [sh_lp_end, Nat.zero_add]
    show bt (if P t = true then (sh_lp (sh_sF P) t 0 0) ||| ((1 : Int32) <<< (nI t &&& 31)) else sh_lp (sh_sF P) t 0 0) i = _
    by_cases hp : P t = true
    · rw [if_pos hp, b_or, ih i (by omega) hi, sh_bit1 (by omega) hi]
      by_cases e : i = t
      · subst e; simp [hp]
      · have : decide (i < t + 1) = decide (i < t) := decide_eq_decide.mpr (by omega)
        simp [e, this]
    · rw [if_neg hp, ih i (by omega) hi]
      by_cases e : i = t
      · subst e; simp [hp]
      · have : decide (i < t + 1) = decide (i < t) := decide_eq_decide.mpr (by omega)
        simp [this]
theorem sh_tF_s (n : Nat) (r : Nat → Int32) : sh_tF n r = sh_sF (fun k => sh_b (sh_hd n r) k && !decide (sh_lk r k < 0)) := by
  funext k a
  unfold sh_tF sh_sF
  simp
theorem sh_cF_s (col : Nat → Int32) (c : Int32) : sh_cF col c = sh_sF (fun k => decide (col k = c)) := by
  funext k a
  unfold sh_cF sh_sF
  simp
theorem sh_brF_s (H : Int32) (str pl : Nat → Int32) : sh_brF H str pl = sh_sF (fun k => sh_b H k && !decide (pl k ≤ str k)) := by
  funext k a
  unfold sh_brF sh_sF
  simp
theorem sh_e_bt : ∀ n, n ≤ 7 → ∀ i, i < 32 → bt (sh_e n) i = decide (i < n) := by decide +kernel
/-- no bit from the seventh on -/
def sh_sm (s : Int32) : Prop := ∀ i, 7 ≤ i → i < 32 → bt s i = false
theorem sh_sm_nI {s : Int32} (h : sh_sm s) : ∃ j, j < 128 ∧ s = nI j := by
  have h1 : s.toBitVec.toNat < 2 ^ 7 := by
    apply Nat.lt_pow_two_of_testBit
    intro i hi
    by_cases h2 : i < 32
    · exact h i hi h2
    · have := BitVec.getLsbD_of_ge s.toBitVec i (by omega)
      exact this
  refine ⟨s.toBitVec.toNat, h1, ?_⟩
  apply Int32.toBitVec_inj.mp
  unfold nI
  rw [Int32.toBitVec_ofNat']
  simp
theorem sh_sm_and {s : Int32} (t : Int32) (h : sh_sm s) : sh_sm (s &&& t) := fun i h1 h2 => by rw [b_and, h i h1 h2]; rfl
theorem sh_sm_or {s t : Int32} (h : sh_sm s) (g : sh_sm t) : sh_sm (s ||| t) := fun i h1 h2 => by rw [b_or, h i h1 h2, g i h1 h2]; rfl
theorem sh_sm_sF (P : Nat → Bool) {n : Nat} (hn : n ≤ 7) : sh_sm (sh_lp (sh_sF P) n 0 0) := fun i h1 h2 => by rw [sh_sF_bt P n i (by omega) h2]; simp; omega
theorem sh_sm_e {n : Nat} (hn : n ≤ 7) : sh_sm (sh_e n) := fun i h1 h2 => by rw [sh_e_bt n hn i h2]; simp; omega
theorem sh_sm_hd {n : Nat} (hn : n ≤ 7) (r : Nat → Int32) : sh_sm (sh_hd n r) := sh_sm_and _ (sh_sm_and _ (sh_sm_e hn))
theorem sh_hd_bt {n : Nat} (hn : n ≤ 7) (r : Nat → Int32) {i : Nat} (hi : i < 32) : bt (sh_hd n r) i = (decide (i < n) && !bt (r 28) i && !bt (r 29) i) := by
  unfold sh_hd
  rw [b_and, b_and, b_xor, b_xor, b_m1 i hi, sh_e_bt n hn i hi]
  simp
theorem sh_bc_lp {s : Int32} (h : sh_sm s) : sh_bc s = sh_lp (sh_ct s) 7 0 0 := by
  obtain ⟨j, hj, rfl⟩ := sh_sm_nI h
  exact sh_bc_small j hj
theorem sh_cp_bc {n : Nat} (hn : n ≤ 7) (col r : Nat → Int32) {i : Nat} (hi : i < n) : sh_bc ((sh_hd n r &&& sh_oc n col (col i)) &&& (((1 : Int32) <<< (nI i &&& 31)) ^^^ (-1))) = sh_cp n col r i := by
  have hX : ∀ j, j < 32 → bt ((sh_hd n r &&& sh_oc n col (col i)) &&& (((1 : Int32) <<< (nI i &&& 31)) ^^^ (-1))) j = ((decide (j < n) && !bt (r 28) j && !bt (r 29) j) && (decide (j < n) && decide (col j = col i)) && !decide (j = i)) := by
    intro j hj
    rw [b_and, b_and, b_xor, b_m1 j hj, sh_bit1 (by omega) hj, sh_hd_bt hn r hj]
    unfold sh_oc
    rw [sh_cF_s, sh_sF_bt _ n j (by omega) hj]
    simp
  rw [sh_bc_lp (sh_sm_and _ (sh_sm_and _ (sh_sm_hd hn r)))]
  generalize hS : ((sh_hd n r &&& sh_oc n col (col i)) &&& (((1 : Int32) <<< (nI i &&& 31)) ^^^ (-1))) = X at hX
  rw [show (7 : Nat) = n + (7 - n) by omega, sh_lp_split, sh_lp_id (7 - n)]
  · unfold sh_cp
    apply sh_lp_cong
    intro j h1 h2 a
    unfold sh_ct sh_cpF
    rw [sh_b_bt X (show j < 32 by omega), hX j (by omega), sh_b_bt _ (show j < 32 by omega), b_or]
    have hjn : j < n := by omega
    by_cases e : j = i
    · simp [e]
    · by_cases ec : col j = col i
      · cases h28 : bt (r 28) j <;> cases h29 : bt (r 29) j <;> simp [e, ec, hjn]
      · simp [e, ec]
  · intro j h1 h2 a
    unfold sh_ct
    rw [sh_b_bt X (show j < 32 by omega), hX j (by omega)]
    have : ¬ j < n := by omega
    simp [this]
