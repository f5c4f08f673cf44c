/-! PURE, 1: words for both sides -/
def sh_i (b : Bool) : Int32 := match b with
  | true => 1
  | false => 0
theorem sh_i0 (b : Bool) : (sh_i b = 0) ↔ b = false := by cases b <;> decide
theorem sh_i1 (b : Bool) : (sh_i b = 1) ↔ b = true := by cases b <;> decide
theorem sh_ia (b : Bool) : sh_i b &&& 1 = sh_i b := by cases b <;> decide
/-- bit k of a set -/
def sh_b (s : Int32) (k : Nat) : Bool := !(decide (((s >>> (nI k &&& 31)) &&& 1) = 0))
theorem sh_and1 (x : Int32) : x &&& 1 = 0 ∨ x &&& 1 = 1 := by
  have h : x.toBitVec &&& 1#32 = 0#32 ∨ x.toBitVec &&& 1#32 = 1#32 := by
    rcases hb : x.toBitVec.getLsbD 0 with _ | _
    · refine Or.inl (BitVec.eq_of_getLsbD_eq fun i hi => ?_)
      rw [BitVec.getLsbD_and, BitVec.getLsbD_zero, BitVec.getLsbD_one]
      by_cases e : i = 0
      · subst e; rw [hb]; rfl
      · simp [e]
    · refine Or.inr (BitVec.eq_of_getLsbD_eq fun i hi => ?_)
      rw [BitVec.getLsbD_and, BitVec.getLsbD_one]
      by_cases e : i = 0
      · subst e; rw [hb]; rfl
      · simp [e]
  rcases h with h | h
  · exact Or.inl (Int32.toBitVec_inj.mp h)
  · exact Or.inr (Int32.toBitVec_inj.mp h)
theorem sh_b0 (s : Int32) (k : Nat) : (((s >>> (nI k &&& 31)) &&& 1) = 0) ↔ sh_b s k = false := by unfold sh_b; simp
theorem sh_b1 (s : Int32) (k : Nat) : (((s >>> (nI k &&& 31)) &&& 1) = 1) ↔ sh_b s k = true := by
  unfold sh_b
  rcases sh_and1 (s >>> (nI k &&& 31)) with h | h <;> rw [h] <;> decide
theorem sh_inb {k n : Nat} (h : k < n) (hn : n < 2147483648) : av_inb (nI k) n = true := by
  unfold av_inb
  have := nI_in h hn
  simpa using this
/-- t rounds from k on -/
def sh_lp {α : Type} (f : Nat → α → α) : Nat → Nat → α → α
  | 0, _, a => a
  | t + 1, k, a => sh_lp f t (k + 1) (f k a)
theorem sh_lp_cong {α : Type} {f g : Nat → α → α} : ∀ (t k : Nat) (a : α), (∀ j, k ≤ j → j < k + t → ∀ a, f j a = g j a) → sh_lp f t k a = sh_lp g t k a := by
  intro t
  induction t with
  | zero => intro k a _; rfl
  | succ t ih =>
    intro k a h
    show sh_lp f t (k + 1) (f k a) = sh_lp g t (k + 1) (g k a)
    rw [h k (by omega) (by omega)]
    exact ih (k + 1) _ (fun j h1 h2 => h j (by omega) (by omega))
theorem sh_lp_end {α : Type} (f : Nat → α → α) : ∀ (t k : Nat) (a : α), sh_lp f (t + 1) k a = f (k + t) (sh_lp f t k a) := by
  intro t
  induction t with
  | zero => intro k a; rfl
  | succ t ih =>
    intro k a
    show sh_lp f (t + 1) (k + 1) (f k a) = f (k + (t + 1)) (sh_lp f t (k + 1) (f k a))
    rw [ih (k + 1), show k + 1 + t = k + (t + 1) by omega]
/-- the loops' tests -/
theorem sh_lt {k n : Nat} (h : k < n) (hn : n < 2147483648) : ¬ nI n ≤ nI k := nI_ge h hn
theorem sh_ge {k n : Nat} (h : n ≤ k) (hn : k < 2147483648) : nI n ≤ nI k := nI_le h hn
/-! a row of the memory replaced; memories that are alike but in some cells -/
def sh_r (h : av_M) (a : Nat) (g : Nat → Int32) : av_M := fun b => if b = a then g else h b
def sh_fr (S : List Nat) (h h' : av_M) : Prop := ∀ a, a ∉ S → h' a = h a
theorem sh_fr_refl (S : List Nat) (h : av_M) : sh_fr S h h := fun _ _ => rfl
theorem sh_fr_u {S : List Nat} {h h' : av_M} {a k : Nat} {v : Int32} (ha : a ∈ S) (hf : sh_fr S h h') : sh_fr S h (av_u h' a k v) := fun b hb => by
  rw [av_u_ne (fun e => hb (by rw [e]; exact ha))]
  exact hf b hb
theorem sh_fr_tr {S T : List Nat} {h h' h2 : av_M} (h1 : sh_fr S h h') (h3 : sh_fr T h' h2) (hs : ∀ a, a ∈ T → a ∈ S) : sh_fr S h h2 := fun b hb => by
  rw [h3 b (fun q => hb (hs b q)), h1 b hb]
theorem sh_fr_up {S T : List Nat} {h h' : av_M} (h1 : sh_fr S h h') (hs : ∀ a, a ∈ S → a ∈ T) : sh_fr T h h' := fun b hb => h1 b (fun q => hb (hs b q))
/-! leaves -/
theorem c_isIn (d : Nat) (s : Int32) (k : Nat) (h : av_M) : av_x (d + 1) 108 [.int s, .int (nI k)] h = some (sh_i (sh_b s k), 0, h) := by
  rw [eX6_isIn_in]
  cases hb : sh_b s k
  · rw [if_pos ((sh_b0 s k).mpr hb)]; rfl
  · rw [if_neg (fun q => by rw [(sh_b0 s k).mp q] at hb; cases hb)]; rfl
theorem c_has (d : Nat) (s : Int32) (k : Nat) (h : av_M) : av_x (d + 1) 159 [.int s, .int (nI k)] h = some (sh_i (sh_b s k), 0, h) := by
  rw [eX7_has_in]
  cases hb : sh_b s k
  · rw [if_neg (fun q => by rw [(sh_b1 s k).mp q] at hb; cases hb)]; rfl
  · rw [if_pos ((sh_b1 s k).mpr hb)]; rfl
def sh_wF (str : Nat → Int32) (s : Int32) (k : Nat) (a : Int32) : Int32 := match sh_b s k with
  | true => a + str k
  | false => a
theorem c_counts_l (d n : Nat) (h : av_M) (s : Int32) (hn : n ≤ 7) (hm : h 44 3 = nI n) : ∀ t k a, k + t = n → av_xp (d + 1) 169 4 [.ref 44, .int s, .int a, .int (nI k)] [] h = some (sh_lp (sh_wF (h 47) s) t k a, 0, h) := by
  intro t
  induction t with
  | zero =>
    intro k a e
    rw [eX7_counts_r44_4, hm, if_pos (sh_ge (by omega) (by omega))]
    rfl
  | succ t ih =>
    intro k a e
    rw [eX7_counts_r44_4, hm, if_neg (sh_lt (by omega) (by omega)), c_has]
    simp only [Option.bind_some, sh_i0, sh_inb (show k < 7 by omega) (by decide), cond_true, nI_1, nI_clamp (show k < 2 ^ 31 by omega)]
    cases hb : sh_b s k
    · rw [if_pos rfl, ih (k + 1) _ (by omega)]
      simp [sh_lp, sh_wF, hb]
    · rw [if_neg (by decide), ih (k + 1) _ (by omega)]
      simp [sh_lp, sh_wF, hb]
theorem c_counts (d n : Nat) (h : av_M) (s : Int32) (hn : n ≤ 7) (hm : h 44 3 = nI n) : av_x (d + 2) 169 [.ref 44, .int s] h = some (sh_lp (sh_wF (h 47) s) n 0 0, 0, h) := by
  rw [eX7_counts_r44_in]
  exact c_counts_l d n h s hn hm n 0 0 (by omega)
