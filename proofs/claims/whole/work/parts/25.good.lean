/-! PURE, 14: the bounds of a sail's numbers -/
def sh_B (lo hi : Int) (x : Int32) : Prop := lo ≤ x.toInt ∧ x.toInt ≤ hi
theorem sh_B_add {a b c e : Int} {x y : Int32} (hx : sh_B a b x) (hy : sh_B c e y) (h1 : -2147483648 ≤ a + c) (h2 : b + e < 2147483648) : (x + y).toInt = x.toInt + y.toInt := by
  obtain ⟨x1, x2⟩ := hx
  obtain ⟨y1, y2⟩ := hy
  rw [Int32.toInt_add]
  exact Int.bmod_eq_of_le (by omega) (by omega)
theorem sh_B_sub {a b c e : Int} {x y : Int32} (hx : sh_B a b x) (hy : sh_B c e y) (h1 : -2147483648 ≤ a - e) (h2 : b - c < 2147483648) : (x - y).toInt = x.toInt - y.toInt := by
  obtain ⟨x1, x2⟩ := hx
  obtain ⟨y1, y2⟩ := hy
  rw [Int32.toInt_sub]
  exact Int.bmod_eq_of_le (by omega) (by omega)
theorem sh_min_toInt (x y : Int32) : (av_min x y).toInt = min x.toInt y.toInt := by
  unfold av_min
  by_cases h : y < x
  · rw [if_pos h]; rw [Int32.lt_iff_toInt_lt] at h; omega
  · rw [if_neg h]; rw [Int32.lt_iff_toInt_lt] at h; omega
theorem sh_max_toInt (x y : Int32) : (av_max x y).toInt = max x.toInt y.toInt := by
  unfold av_max
  by_cases h : x < y
  · rw [if_pos h]; rw [Int32.lt_iff_toInt_lt] at h; omega
  · rw [if_neg h]; rw [Int32.lt_iff_toInt_lt] at h; omega
theorem sh_B_nI {k : Nat} {N : Nat} (h : k ≤ N) (hN : N < 2147483648) : sh_B 0 N (nI k) := by
  unfold sh_B
  rw [nI_toInt (by omega)]
  omega
/-- a sail's numbers within their bounds -/
def sh_G (n : Nat) (r : Nat → Int32) : Prop := (∀ k, k < 7 → sh_B 0 99 (r k) ∧ sh_B 0 9 (r (7 + k)) ∧ sh_B 0 9 (r (14 + k)) ∧ sh_B 0 9999 (r (21 + k))) ∧ sh_B 0 9999 (r 30) ∧ sh_B 0 9 (r 31) ∧ (∀ i, n ≤ i → i < 32 → bt (r 28) i = false) ∧ (∀ i, n ≤ i → i < 32 → bt (r 29) i = false)
theorem sh_9999 : (9999 : Int32).toInt = 9999 := by decide
theorem sh_G_L9 {n : Nat} {r : Nat → Int32} (h : sh_G n r) : sh_L9 r := by
  intro j hj
  rw [Int32.le_iff_toInt_le, sh_9999]
  exact (h.1 j hj).2.2.2.2
theorem sh_G_po {n : Nat} {r : Nat → Int32} {H : Int32} {k : Nat} (hk : k < 7) (h : sh_G n r) : sh_G n (sh_poF H k r) := by
  cases hb : sh_b H k
  · rw [sh_po_f hb]; exact h
  · rw [sh_po_t hb]
    obtain ⟨h1, h2, h3, h4, h5⟩ := h
    have hk1 := h1 k hk
    have um : sh_B 0 9 (av_min (r (7 + k)) (r k)) ∧ (av_min (r (7 + k)) (r k)).toInt ≤ (r k).toInt := by
      unfold sh_B
      rw [sh_min_toInt]
      have := hk1.1.1; have := hk1.2.1.1; have := hk1.2.1.2
      omega
    generalize hu : av_min (r (7 + k)) (r k) = u at um
    have e1 : (r k - u).toInt = (r k).toInt - u.toInt := sh_B_sub hk1.1 um.1 (by decide) (by decide)
    have e2 : (r (21 + k) + u).toInt = (r (21 + k)).toInt + u.toInt := sh_B_add hk1.2.2.2 um.1 (by decide) (by decide)
    refine ⟨?_, ?_, ?_, ?_, ?_⟩
    · intro j hj
      have hj1 := h1 j hj
      have n1 : ∀ v w, (upd (upd r k v) (21 + k) w) j = if j = k then v else r j := by
        intro v w
        unfold upd
        rw [if_neg (by omega)]
      have n2 : ∀ v w, (upd (upd r k v) (21 + k) w) (7 + j) = r (7 + j) := by
        intro v w
        unfold upd
        rw [if_neg (by omega), if_neg (by omega)]
      have n3 : ∀ v w, (upd (upd r k v) (21 + k) w) (14 + j) = r (14 + j) := by
        intro v w
        unfold upd
        rw [if_neg (by omega), if_neg (by omega)]
      have n4 : ∀ v w, (upd (upd r k v) (21 + k) w) (21 + j) = if j = k then w else r (21 + j) := by
        intro v w
        unfold upd
        by_cases e : j = k
        · rw [if_pos (by omega), if_pos e]
        · rw [if_neg (by omega), if_neg (by omega), if_neg e]
      rw [n1, n2, n3, n4]
      refine ⟨?_, hj1.2.1, hj1.2.2.1, ?_⟩
      · by_cases e : j = k
        · rw [if_pos e]
          unfold sh_B
          rw [e1]
          have := hk1.1.2; have := um.1.1; have := um.2
          omega
        · rw [if_neg e]; exact hj1.1
      · by_cases e : j = k
        · rw [if_pos e]
          unfold sh_B
          rw [sh_min_toInt, e2, sh_9999]
          have := hk1.2.2.2.1; have := um.1.1
          omega
        · rw [if_neg e]; exact hj1.2.2.2
    all_goals
      unfold upd
      rw [if_neg (by omega), if_neg (by omega)]
      assumption
