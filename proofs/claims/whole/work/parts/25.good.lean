/-! PURE, 14: the bounds of a sail's numbers -/
def sh_B (lo hi : Int) (x : Int32) : Prop := lo ≤ x.toInt ∧ x.toInt ≤ hi
theorem sh_B_add {a b c e : Int} {x y : Int32} (hx : sh_B a b x) (hy : sh_B c e y) (h1 : -2147483648 ≤ a + c) (h2 : b + e < 2147483648) : (x + y).toInt = x.toInt + y.toInt := by
  obtain ⟨x1, x2⟩ := hx
  obtain ⟨y1, y2⟩ := hy
  rw [Int32.toInt_add]
  exact Int.bmod_eq_of_le (by omega) (by omega)
theorem sh_B_sub {a b c e : Int} {x y : Int32} (hx : sh_B a b x) (hy : sh_B c e y) (h1 : -2147483648 ≤ a - e) (h2 : b - c < 2147483648) : (x - y).toInt = x.toInt - y.toInt := by
  obtain ⟨x1, x2⟩ := hx
  obtain ⟨y1, y2⟩ := hy
  rw [Int32.toInt_sub]
  exact Int.bmod_eq_of_le (by omega) (by omega)
theorem sh_min_toInt (x y : Int32) : (av_min x y).toInt = min x.toInt y.toInt := by
  unfold av_min
  by_cases h : y < x
  · rw [if_pos h]; rw [Int32.lt_iff_toInt_lt] at h; omega
  · rw [if_neg h]; rw [Int32.lt_iff_toInt_lt] at h; omega
theorem sh_max_toInt (x y : Int32) : (av_max x y).toInt = max x.toInt y.toInt := by
  unfold av_max
  by_cases h : x < y
  · rw [if_pos h]; rw [Int32.lt_iff_toInt_lt] at h; omega
  · rw [if_neg h]; rw [Int32.lt_iff_toInt_lt] at h; omega
theorem sh_B_nI {k : Nat} {N : Nat} (h : k ≤ N) (hN : N < 2147483648) : sh_B 0 N (nI k) := by
  unfold sh_B
  rw [nI_toInt (by omega)]
  omega
/-- a sail's numbers within their bounds -/
def sh_G (n : Nat) (r : Nat → Int32) : Prop := (∀ k, k < 7 → sh_B 0 99 (r k) ∧ sh_B 0 9 (r (7 + k)) ∧ sh_B 0 9 (r (14 + k)) ∧ sh_B 0 9999 (r (21 + k))) ∧ sh_B 0 9999 (r 30) ∧ sh_B 0 9 (r 31) ∧ (∀ i, n ≤ i → i < 32 → bt (r 28) i = false) ∧ (∀ i, n ≤ i → i < 32 → bt (r 29) i = false)
theorem sh_9999 : (9999 : Int32).toInt = 9999 := by decide
theorem sh_G_L9 {n : Nat} {r : Nat → Int32} (h : sh_G n r) : sh_L9 r := by
  intro j hj
  rw [Int32.le_iff_toInt_le, sh_9999]
  exact (h.1 j hj).2.2.2.2
theorem sh_G_po {n : Nat} {r : Nat → Int32} {H : Int32} {k : Nat} (hk : k < 7) (h : sh_G n r) : sh_G n (sh_poF H k r) := by
  cases hb : sh_b H k
  · rw [sh_po_f hb]; exact h
  · rw [sh_po_t hb]
    obtain ⟨h1, h2, h3, h4, h5⟩ := h
    have hk1 := h1 k hk
    have um : sh_B 0 9 (av_min (r (7 + k)) (r k)) ∧ (av_min (r (7 + k)) (r k)).toInt ≤ (r k).toInt := by
      unfold sh_B
      rw [sh_min_toInt]
      have := hk1.1.1; have := hk1.2.1.1; have := hk1.2.1.2
      omega
    generalize hu : av_min (r (7 + k)) (r k) = u at um
    have e1 : (r k - u).toInt = (r k).toInt - u.toInt := sh_B_sub hk1.1 um.1 (by decide) (by decide)
    have e2 : (r (21 + k) + u).toInt = (r (21 + k)).toInt + u.toInt := sh_B_add hk1.2.2.2 um.1 (by decide) (by decide)
    refine ⟨?_, ?_, ?_, ?_, ?_⟩
    · intro j hj
      have hj1 := h1 j hj
      have n1 : ∀ v w, (upd (upd r k v) (21 + k) w) j = if j = k then v else r j := by
        intro v w
        unfold upd
        rw [if_neg (by omega)]
      have n2 : ∀ v w, (upd (upd r k v) (21 + k) w) (7 + j) = r (7 + j) := by
        intro v w
        unfold upd
        rw [if_neg (by omega), if_neg (by omega)]
      have n3 : ∀ v w, (upd (upd r k v) (21 + k) w) (14 + j) = r (14 + j) := by
        intro v w
        unfold upd
        rw [if_neg (by omega), if_neg (by omega)]
      have n4 : ∀ v w, (upd (upd r k v) (21 + k) w) (21 + j) = if j = k then w else r (21 + j) := by
        intro v w
        unfold upd
        by_cases e : j = k
        · rw [if_pos (by omega), if_pos e]
        · rw [if_neg (by omega), if_neg (by omega), if_neg e]
      rw [n1, n2, n3, n4]
      refine ⟨?_, hj1.2.1, hj1.2.2.1, ?_⟩
      · by_cases e : j = k
        · rw [if_pos e]
          unfold sh_B
          rw [e1]
          have := hk1.1.2; have := um.1.1; have := um.2
          omega
        · rw [if_neg e]; exact hj1.1
      · by_cases e : j = k
        · rw [if_pos e]
          unfold sh_B
          rw [sh_min_toInt, e2, sh_9999]
          have := hk1.2.2.2.1; have := um.1.1
          omega
        · rw [if_neg e]; exact hj1.2.2.2
    all_goals
      unfold upd
      rw [if_neg (by omega), if_neg (by omega)]
      assumption
theorem sh_G_pos {n : Nat} {H : Int32} : ∀ (t k : Nat) (r : Nat → Int32), k + t ≤ 7 → sh_G n r → sh_G n (sh_lp (sh_poF H) t k r) := by
  intro t
  induction t with
  | zero => intro k r _ h; exact h
  | succ t ih => intro k r hk h; exact ih (k + 1) _ (by omega) (sh_G_po (by omega) h)
theorem sh_w_B (str : Nat → Int32) (s : Int32) : ∀ (t : Nat), t ≤ 7 → (∀ j, j < t → sh_B 0 99 (str j)) → sh_B 0 (99 * t) (sh_lp (sh_wF str s) t 0 0) := by
  intro t
  induction t with
  | zero => intro _ _; show sh_B 0 _ (0 : Int32); unfold sh_B; rw [show (0 : Int32).toInt = 0 by decide]; omega
  | succ t ih =>
    intro ht h
    rw [sh_lp_end, Nat.zero_add]
    have h1 := ih (by omega) (fun j hj => h j (by omega))
    have h2 := h t (by omega)
    generalize hx : sh_lp (sh_wF str s) t 0 0 = x at h1
    unfold sh_wF
    cases hb : sh_b s t
    · have := h1.1; have := h1.2
      show sh_B 0 _ x
      unfold sh_B
      omega
    · have e1 : (x + str t).toInt = x.toInt + (str t).toInt := sh_B_add h1 h2 (by omega) (by omega)
      have := h1.1; have := h1.2; have := h2.1; have := h2.2
      show sh_B 0 _ (x + str t)
      unfold sh_B
      rw [e1]
      omega
theorem sh_div5_B {x : Int32} {N : Nat} (h : sh_B 0 N x) (hN : N < 2147483648) : sh_B 0 N (x / 5) := by
  obtain ⟨h1, h2⟩ := h
  have e : (x / 5).toInt = x.toInt.tdiv 5 := by
    rw [Int32.toInt_div]
    rw [show (5 : Int32).toInt = 5 by decide]
    apply Int.bmod_eq_of_le
    · have : 0 ≤ x.toInt.tdiv 5 := Int.tdiv_nonneg h1 (by decide)
      omega
    · rw [Int.tdiv_eq_ediv_of_nonneg h1]
      omega
  unfold sh_B
  rw [e, Int.tdiv_eq_ediv_of_nonneg h1]
  omega
theorem sh_G_hr {n : Nat} (hn : n ≤ 7) {col str : Nat → Int32} {rl : (Nat → Int32) → Int32} {r : Nat → Int32} (hs : ∀ j, j < n → sh_B 0 99 (str j)) (h : sh_G n r) : sh_G n (sh_hr n col str rl r) := by
  have hpo := sh_G_pos (n := n) (H := sh_hd n r) n 0 r (by omega) h
  unfold sh_hr
  dsimp only
  generalize sh_lp (sh_poF (sh_hd n r)) n 0 r = r1 at hpo ⊢
  obtain ⟨g1, g2, g3, g4, g5⟩ := hpo
  have hw0 : sh_B 0 (693 : Nat) (sh_w n str (sh_tt n r1)) := by
    obtain ⟨b1, b2⟩ := sh_w_B str (sh_tt n r1) n hn hs
    exact ⟨b1, by unfold sh_w; omega⟩
  have hw := sh_div5_B hw0 (by decide)
  generalize sh_w n str (sh_tt n r1) / 5 = w at hw ⊢
  have e1 : (r1 31 - w).toInt = (r1 31).toInt - w.toInt := sh_B_sub g3 hw (by omega) (by decide)
  have m1 : sh_B 0 9 (av_max 0 (r1 31 - w)) := by
    unfold sh_B
    rw [sh_max_toInt, e1, show (0 : Int32).toInt = 0 by decide]
    have := g3.1; have := g3.2; have := hw.1
    omega
  have e2 : (r1 30 + av_max 0 (r1 31 - w)).toInt = (r1 30).toInt + (av_max 0 (r1 31 - w)).toInt := sh_B_add g2 m1 (by decide) (by decide)
  have m2 : sh_B 0 9999 (av_min 9999 (r1 30 + av_max 0 (r1 31 - w))) := by
    unfold sh_B
    rw [sh_min_toInt, e2, sh_9999]
    have := g2.1; have := g2.2; have := m1.1; have := m1.2
    omega
  generalize av_min 9999 (r1 30 + av_max 0 (r1 31 - w)) = v at m2 ⊢
  have hp : ∀ i, n ≤ i → i < 32 → bt (sh_lp (sh_brF (sh_hd n (upd r1 30 v)) str (fun i => rl (sh_q n col str (upd r1 30 v) i))) n 0 0) i = false := by
    intro i hi h2
    rw [sh_brF_s, sh_sF_bt _ n i (by omega) h2]
    have : ¬ i < n := by omega
    simp [this]
  generalize sh_lp (sh_brF (sh_hd n (upd r1 30 v)) str (fun i => rl (sh_q n col str (upd r1 30 v) i))) n 0 0 = p at hp ⊢
  have lo : ∀ j, j < 28 → (upd (upd (upd r1 30 v) 28 ((upd r1 30 v) 28 ||| p)) 32 ((upd r1 30 v) 32 + 1)) j = r1 j := by
    intro j hj
    unfold upd
    rw [if_neg (by omega), if_neg (by omega), if_neg (by omega)]
  refine ⟨?_, ?_, ?_, ?_, ?_⟩
  · intro k hk
    rw [lo k (by omega), lo (7 + k) (by omega), lo (14 + k) (by omega), lo (21 + k) (by omega)]
    exact g1 k hk
  · exact m2
  · exact g3
  · intro i hi h2
    show bt (r1 28 ||| p) i = false
    rw [b_or, g4 i hi h2, hp i hi h2]
    rfl
  · exact g5
