/-! PURE, 43: the least of what is left; looks -/
def sh_am (m b : Nat) (o : Option (Nat × Nat)) : Option (Nat × Nat) := match o with
  | none => some (m, b)
  | some z => if z.1 ≤ m then some z else some (m, b)
def sh_af (c0 : Int32) (o : Option (Nat × Nat)) : Int32 := match o with
  | none => c0
  | some z => nI z.1
def sh_ab (c0 : Int32) (o : Option (Nat × Nat)) : Int32 := match o with
  | none => c0
  | some z => nI z.2
def sh_aI (M : Nat) (o : Option (Nat × Nat)) : Prop := ∀ z, o = some z → z.1 ≤ M
theorem sh_am_I {M m b : Nat} {o : Option (Nat × Nat)} (hm : m ≤ M) (h : sh_aI M o) : sh_aI M (sh_am m b o) := by
  intro z hz
  unfold sh_am at hz
  cases o with
  | none => injection hz with hz; subst hz; exact hm
  | some y =>
    dsimp only at hz
    by_cases e : y.1 ≤ m
    · rw [if_pos e] at hz; injection hz with hz; subst hz; exact h _ rfl
    · rw [if_neg e] at hz; injection hz with hz; subst hz; exact hm
theorem sh_am_some (m b : Nat) (o : Option (Nat × Nat)) : sh_am m b o ≠ none := by
  unfold sh_am
  cases o with
  | none => exact fun q => nomatch q
  | some y =>
    dsimp only
    by_cases e : y.1 ≤ m
    · rw [if_pos e]; exact fun q => nomatch q
    · rw [if_neg e]; exact fun q => nomatch q
/-- the test of both -/
theorem sh_am_t {M m : Nat} {c0 : Int32} {o : Option (Nat × Nat)} (b : Nat) (hm : m ≤ M) (hM : M < 1000000) (h0 : ¬ c0 ≤ nI m) (hI : sh_aI M o) : (sh_af c0 o ≤ nI m → sh_am m b o = o) ∧ (¬ sh_af c0 o ≤ nI m → sh_am m b o = some (m, b)) := by
  cases o with
  | none => exact ⟨fun q => absurd q h0, fun _ => rfl⟩
  | some z =>
    have hz := hI z rfl
    refine ⟨fun q => if_pos ((nI_leI (by omega) (by omega)).mp q), fun q => if_neg (fun e => q ((nI_leI (by omega) (by omega)).mpr e))⟩
theorem sh_am_min {M m : Nat} {c0 : Int32} {o : Option (Nat × Nat)} (b : Nat) (hm : m ≤ M) (hM : M < 1000000) (h0 : ¬ c0 ≤ nI m) (hI : sh_aI M o) : av_min (sh_af c0 o) (nI m) = sh_af c0 (sh_am m b o) := by
  obtain ⟨t1, t2⟩ := sh_am_t b hm hM h0 hI
  unfold av_min
  by_cases q : sh_af c0 o ≤ nI m
  · rw [t1 q, if_neg (by rw [Int32.not_lt]; exact q)]
  · rw [t2 q, if_pos (by rw [← Int32.not_le]; exact q)]
    rfl
theorem sh_cb_split (P : Nat → Bool) : ∀ s t k, sh_cb P (s + t) k = sh_cb P s k + sh_cb P t (k + s) := by
  intro s
  induction s with
  | zero => intro t k; rw [Nat.zero_add]; show _ = 0 + _; rw [Nat.zero_add]; rfl
  | succ s ih =>
    intro t k
    rw [show s + 1 + t = (s + t) + 1 by omega]
    show (match P k with
      | true => 1
      | false => 0) + sh_cb P (s + t) (k + 1) = ((match P k with
      | true => 1
      | false => 0) + sh_cb P s (k + 1)) + sh_cb P t (k + (s + 1))
    rw [ih t (k + 1), show k + 1 + s = k + (s + 1) by omega, Nat.add_assoc]
theorem sh_max_nI {a b : Nat} (ha : a < 2147483648) (hb : b < 2147483648) : av_max (nI a) (nI b) = nI (max a b) := by
  unfold av_max
  by_cases h : a < b
  · rw [if_pos (nI_lt h hb), show max a b = b by omega]
  · rw [if_neg (nI_nlt (by omega) ha), show max a b = a by omega]
/-- what is left at most, if so many of L are so -/
def sh_mo2 (L so : Nat) : Nat := max so (L - so)
theorem sh_most {L so : Nat} (hL : L < 1000000) (h : so ≤ L) : av_max (nI so) (nI L - nI so) = nI (sh_mo2 L so) := by
  rw [nI_sub h, sh_max_nI (by omega) (by omega)]
  rfl
/-! the class's counts of ways from one on -/
theorem f_ways_l (d n s : Nat) (r g0 g1 g2 : Nat → Int32) (fit : Nat → Bool) (hfit : fit = fun w => sh_ev (sh_so r g0 g1 g2 (nI w)) s 0) (hn : n ≤ 7) (hS : sh_SF n s g0 g1 g2) : ∀ t (h : av_M), t ≤ 60 → sh_SV 5 h r → h 30 4 = nI s → (∀ i, i < s → h 31 i = g0 i ∧ h 32 i = g1 i ∧ h 33 i = g2 i) → (∀ i, t ≤ i → i ≤ 60 → h 42 i = nI (sh_cb fit (60 - i) i)) →
    ∃ h', av_xp (d + 22) 140 11 [.ref 0, .int (nI t - 1)] [] h = some (nI (sh_cb fit 60 0), 0, h') ∧ sh_fr [42] h h' ∧ ∀ i, i ≤ 60 → h' 42 i = nI (sh_cb fit (60 - i) i) := by
  intro t
  induction t with
  | zero =>
    intro h _ _ _ _ hw
    rw [eX6_countWaysFrom_r0_11, if_pos (show nI 0 - 1 < 0 by decide)]
    refine ⟨h, ?_, sh_fr_refl _ _, fun i hi => hw i (by omega) hi⟩
    rw [hw 0 (by omega) (by omega)]
  | succ t ih =>
    intro h ht hv hs hg hw
    rw [nI_pred, eX6_countWaysFrom_r0_11, if_neg (sh_nneg (by omega)), nI_1, sh_inb (show t + 1 < 61 by omega) (by decide), c_fitsX _ n s r g0 g1 g2 _ h hn hv hs hS hg, nI_clamp (n := t + 1) (by omega), hw (t + 1) (by omega) (by omega)]
    simp only [cond_true, Option.bind_some]
    rw [sh_inb (show t < 61 by omega) (by decide), nI_clamp (n := t) (by omega), sh_pm]
    simp only [cond_true]
    have hcb : sh_cb fit (60 - t) t = (match fit t with
      | true => 1
      | false => 0) + sh_cb fit (60 - (t + 1)) (t + 1) := by
      rw [show 60 - t = (60 - (t + 1)) + 1 by omega]
      rfl
    have hft : fit t = sh_ev (sh_so r g0 g1 g2 (nI t)) s 0 := by rw [hfit]
    have next : ∀ v, v = nI (sh_cb fit (60 - t) t) → ∃ h', av_xp (d + 22) 140 11 [.ref 0, .int (nI t - 1)] [] (av_u h 42 t v) = some (nI (sh_cb fit 60 0), 0, h') ∧ sh_fr [42] h h' ∧ ∀ i, i ≤ 60 → h' 42 i = nI (sh_cb fit (60 - i) i) := by
      intro v ev
      obtain ⟨h2, e2, f2, w2⟩ := ih (av_u h 42 t v) (by omega) (sh_SV5 (S := [42]) (sh_fr_u (by decide) (sh_fr_refl _ _)) (by decide) hv) hs hg (fun i i1 i2 => by
        rw [av_u_eq]
        unfold upd
        by_cases e : i = t
        · rw [if_pos e, ev, e]
        · rw [if_neg e]; exact hw i (by omega) i2)
      exact ⟨h2, e2, sh_fr_tr (sh_fr_u (by decide) (sh_fr_refl _ _)) f2 (fun _ q => q), w2⟩
    cases hb : sh_ev (sh_so r g0 g1 g2 (nI t)) s 0
    · rw [if_pos (show sh_i false = 0 from rfl)]
      refine next _ ?_
      rw [hcb, hft, hb, Int32.add_zero]
      dsimp only
      rw [Nat.zero_add]
    · rw [if_neg (show ¬ sh_i true = 0 by decide)]
      refine next _ ?_
      rw [hcb, hft, hb, nI_1, Nat.add_comm]
/-! looks: numbers -/
theorem sh_v99 : ∀ j, j < 200 → ((99 < nI j - 99) ↔ 198 < j) := by decide +kernel
theorem sh_vS (j : Nat) : nI j - 99 + 1 = nI (j + 1) - 99 := by
  rw [← nI_1]
  apply Int32.toBitVec_inj.mp
  rw [Int32.toBitVec_add, Int32.toBitVec_sub, Int32.toBitVec_sub, Int32.toBitVec_add]
  bv_omega
theorem sh_vB (x y : Int32) : x + 99 + (y - 99) = x + y := by
  apply Int32.toBitVec_inj.mp
  rw [Int32.toBitVec_add, Int32.toBitVec_add, Int32.toBitVec_sub, Int32.toBitVec_add]
  bv_omega
theorem sh_vA (x y : Int32) : x - 99 + y = x + y - 99 := by
  apply Int32.toBitVec_inj.mp
  rw [Int32.toBitVec_add, Int32.toBitVec_sub, Int32.toBitVec_sub, Int32.toBitVec_add]
  bv_omega
theorem sh_99 : (99 : Int32).toInt = 99 := by decide
theorem sh_v_toInt {x : Nat} (hx : x < 20000) : (nI x - 99).toInt = (x : Int) - 99 := by
  have := sh_B_sub (x := nI x) (y := 99) (a := 0) (b := 20000) (c := 99) (e := 99) ⟨by rw [nI_toInt (by omega)]; omega, by rw [nI_toInt (by omega)]; omega⟩ ⟨by rw [sh_99]; omega, by rw [sh_99]; omega⟩ (by decide) (by decide)
  rw [this, nI_toInt (by omega), sh_99]
theorem sh_wn {x : Nat} (hx : x < 20000) : av_max 0 (av_min 60 (nI x - 99)) = nI (min 60 (x - 99)) := by
  apply Int32.toInt_inj.mp
  rw [sh_max_toInt, sh_min_toInt, sh_v_toInt hx, nI_toInt (by omega), show (0 : Int32).toInt = 0 by decide, show (60 : Int32).toInt = 60 by decide]
  omega
theorem sh_lk99 {w p l j : Nat} (hw : w < 60) (hp : p ≤ 9) (hl : l ≤ 9999) (hj : j < 199) : (!decide (nI w - nI p - nI l < nI j - 99)) = decide (min 60 (j + (p + l) - 99) ≤ w) := by
  have e1 : (nI w - nI p).toInt = (w : Int) - p := by
    rw [sh_B_sub (a := 0) (b := 60) (c := 0) (e := 9) (sh_B_nI (N := 60) (by omega) (by decide)) (sh_B_nI (N := 9) hp (by decide)) (by decide) (by decide), nI_toInt (by omega), nI_toInt (by omega)]
  have e2 : (nI w - nI p - nI l).toInt = (w : Int) - p - l := by
    rw [sh_B_sub (a := -9) (b := 60) (c := 0) (e := 9999) ⟨by omega, by omega⟩ (sh_B_nI (N := 9999) hl (by decide)) (by decide) (by decide), e1, nI_toInt (by omega)]
  by_cases c : nI w - nI p - nI l < nI j - 99
  · rw [decide_eq_true c, decide_eq_false]
    · rfl
    · rw [Int32.lt_iff_toInt_lt, e2, sh_v_toInt (by omega)] at c
      omega
  · rw [decide_eq_false c, decide_eq_true]
    · rfl
    · rw [Int32.lt_iff_toInt_lt, e2, sh_v_toInt (by omega)] at c
      omega
/-- so many ways from one on -/
def sh_lo2 (fit : Nat → Bool) (ρ j : Nat) : Nat := sh_cb fit (60 - min 60 (j + ρ - 99)) (min 60 (j + ρ - 99))
theorem sh_lo2_le (fit : Nat → Bool) (ρ j : Nat) : sh_lo2 fit ρ j ≤ sh_cb fit 60 0 := by
  unfold sh_lo2
  have := sh_cb_split fit (min 60 (j + ρ - 99)) (60 - min 60 (j + ρ - 99)) 0
  rw [show min 60 (j + ρ - 99) + (60 - min 60 (j + ρ - 99)) = 60 by omega, Nat.zero_add] at this
  omega
theorem sh_lo2_eq (fit : Nat → Bool) (a : Nat) (ha : a ≤ 60) : sh_cb (fun w => fit w && decide (a ≤ w)) 60 0 = sh_cb fit (60 - a) a := by
  have h1 := sh_cb_split (fun w => fit w && decide (a ≤ w)) a (60 - a) 0
  rw [show a + (60 - a) = 60 by omega, Nat.zero_add] at h1
  rw [h1]
  have z : sh_cb (fun w => fit w && decide (a ≤ w)) a 0 = 0 := by
    have := sh_cb_cut (P := fun w => fit w && decide (a ≤ w)) 0 a 0 (fun j _ hj => by
      rw [decide_eq_false (by omega)]
      exact Bool.and_false _)
    rw [Nat.zero_add] at this
    exact this
  rw [z, Nat.zero_add]
  have e := sh_cb_add (P := fun w => fit w && decide (a ≤ w)) (Q := fun _ => false) (R := fit) (60 - a) a (fun j h1 _ => by
    rw [decide_eq_true h1]
    cases fit j <;> exact ⟨rfl, rfl⟩)
  have z2 : ∀ t k, sh_cb (fun _ => false) t k = 0 := by
    intro t
    induction t with
    | zero => intro k; rfl
    | succ t ih =>
      intro k
      show 0 + sh_cb (fun _ => false) t (k + 1) = 0
      rw [ih]
  rw [z2, Nat.add_zero] at e
  exact e
def sh_lkI (fit : Nat → Bool) (L : Nat) (ρ : Nat → Nat) (i j : Nat) (o : Option (Nat × Nat)) : Option (Nat × Nat) := sh_am (sh_mo2 L (sh_lo2 fit (ρ i) j)) (200 * i + j) o
def sh_lkO (fit : Nat → Bool) (L : Nat) (ρ : Nat → Nat) (i : Nat) (o : Option (Nat × Nat)) : Option (Nat × Nat) := sh_lp (sh_lkI fit L ρ i) 199 0 o
theorem sh_mo2_le {L so : Nat} (h : so ≤ L) : sh_mo2 L so ≤ L := by
  unfold sh_mo2
  omega
theorem f_look_in (d n L : Nat) (r : Nat → Int32) (fit : Nat → Bool) (ρ : Nat → Nat) (i : Nat) (h : av_M) (hi : i < 7) (hv : sh_SV 5 h r) (hL : L = sh_cb fit 60 0) (hρ : r (14 + i) + r (21 + i) = nI (ρ i)) (hρ2 : ρ i < 10100) (hw : ∀ i, i ≤ 60 → h 42 i = nI (sh_cb fit (60 - i) i)) : ∀ t j (o : Option (Nat × Nat)) (x1 x2 : Value), j + t = 199 → ((x1 = .null ∧ x2 = .null) ∨ (∃ (y1 : Int32) (y2 : Int32), x1 = .int y1 ∧ x2 = .int y2)) → sh_aI L o →
    ∃ x1' x2', ((x1' = .null ∧ x2' = .null) ∨ (∃ (y1 : Int32) (y2 : Int32), x1' = .int y1 ∧ x2' = .int y2)) ∧ sh_aI L (sh_lp (sh_lkI fit L ρ i) t j o) ∧ av_xp (d + 22) 86 47 [.ref 0, .int (nI L), .int (sh_af (nI (L + 1)) o), .int (sh_ab 0 o), .int (nI i), .int (nI j - 99), x1, x2] [] h = av_xp (d + 22) 86 47 [.ref 0, .int (nI L), .int (sh_af (nI (L + 1)) (sh_lp (sh_lkI fit L ρ i) t j o)), .int (sh_ab 0 (sh_lp (sh_lkI fit L ρ i) t j o)), .int (nI i), .int (nI 199 - 99), x1', x2'] [] h := by
  have hL60 : L ≤ 60 := by rw [hL]; exact sh_cb_le _ _ _
  intro t
  induction t with
  | zero =>
    intro j o x1 x2 e hx hI
    rw [show j = 199 by omega]
    exact ⟨x1, x2, hx, hI, rfl⟩
  | succ t ih =>
    intro j o x1 x2 e hx hI
    have hle := sh_lo2_le fit (ρ i) j
    have hm := sh_mo2_le (L := L) (so := sh_lo2 fit (ρ i) j) (by omega)
    rw [mX6_looks_r0_47 _ _ _ _ _ _ _ _ _ hx, if_neg (fun q => by have := (sh_v99 j (by omega)).mp q; omega), c_reach5 _ h i hi, sh_SV_get hv (a := 10) (s := i) (i := 14 + i) (by omega), sh_SV_get hv (a := 11) (s := i) (i := 21 + i) (by omega), hρ]
    simp only [Option.bind_some]
    rw [eX6_within_in, sh_vA, nI_add, sh_wn (by omega)]
    simp only [Option.bind_some]
    rw [sh_inb (show min 60 (j + ρ i - 99) < 61 by omega) (by decide), nI_clamp (by omega), hw _ (by omega), show sh_cb fit (60 - min 60 (j + ρ i - 99)) (min 60 (j + ρ i - 99)) = sh_lo2 fit (ρ i) j from rfl, sh_most (by omega) (by omega), sh_vS]
    simp only [cond_true]
    have step : sh_lp (sh_lkI fit L ρ i) (t + 1) j o = sh_lp (sh_lkI fit L ρ i) t (j + 1) (sh_am (sh_mo2 L (sh_lo2 fit (ρ i) j)) (200 * i + j) o) := rfl
    rw [step]
    have hI2 := sh_am_I (b := 200 * i + j) hm hI
    obtain ⟨t1, t2⟩ := sh_am_t (200 * i + j) hm (by omega) (show ¬ nI (L + 1) ≤ nI (sh_mo2 L (sh_lo2 fit (ρ i) j)) from nI_ge (by omega) (by omega)) hI
    by_cases q : sh_af (nI (L + 1)) o ≤ nI (sh_mo2 L (sh_lo2 fit (ρ i) j))
    · rw [if_pos q, t1 q]
      exact ih (j + 1) o _ _ (by omega) (Or.inr ⟨_, _, rfl, rfl⟩) hI
    · rw [t2 q] at hI2 ⊢
      rw [if_neg q, sh_vB, show (200 : Int32) * nI i + nI j = nI (200 * i + j) by rw [show (200 : Int32) * nI i = nI (200 * i) from nI_mul 200 i, nI_add]]
      exact ih (j + 1) (some (sh_mo2 L (sh_lo2 fit (ρ i) j), 200 * i + j)) _ _ (by omega) (Or.inr ⟨_, _, rfl, rfl⟩) hI2
