/-! PURE, 5: one rule, told in the class's steps and in the reference's -/
/-- a step of the class and a code of the reference that are alike: what it does to the height -/
def sh_psh (s c : Int32) : Prop := (s - 1000 < 0 ∧ c = s ∧ c < 1000) ∨ (s = 1107 ∧ c = 1000) ∨ (s = 1115 ∧ c = 1001) ∨ (s = 1114 ∧ c = 1002) ∨ (s = 1112 ∧ c = 1003) ∨ (s = 1118 ∧ c = 1004) ∨ (s = 1099 ∧ c = 1005) ∨ (s = 1110 ∧ c = 1006)
def sh_bin (s c : Int32) : Prop := (s = 1060 ∧ c = 2000) ∨ (s = 1062 ∧ c = 2001) ∨ (s = 1061 ∧ c = 2002) ∨ (s = 1043 ∧ c = 2003) ∨ (s = 1045 ∧ c = 2004) ∨ (s = 1042 ∧ c = 2005) ∨ (s = 1047 ∧ c = 2006)
def sh_al (s c : Int32) (x y : Nat) : Prop := (sh_psh s c ∧ x < 40 ∧ y = x + 1) ∨ (s = 1256 ∧ c = 3000 ∧ 1 ≤ x ∧ y = x) ∨ (sh_bin s c ∧ 2 ≤ x ∧ y + 1 = x)
/-- the class's rule (m steps st) and the reference's (L codes cd) are one -/
def sh_RR (m : Nat) (st : Nat → Int32) (L : Nat) (cd : Nat → Int32) : Prop := m ≤ 40 ∧ 1 ≤ m ∧ ∃ H : Nat → Nat, H 0 = 0 ∧ H m = 1 ∧ (∀ k, k ≤ m → H k ≤ 40) ∧ ((L = 0 ∧ m = 1 ∧ st 0 = 1107 ∧ sh_al 1107 1000 (H 0) (H 1)) ∨ (L = m ∧ ∀ k, k < m → sh_al (st k) (cd k) (H k) (H (k + 1))))
/-- what a push lays -/
def sh_pv (q : Nat → Int32) (s : Int32) : Int32 := if s - 1000 < 0 then s else sh_val q (s - 1000)
theorem sh_isN_of {s c : Int32} (h : sh_psh s c) : s - 1000 < 0 ∨ sh_isN (s - 1000) = true := by
  rcases h with h | ⟨rfl, -⟩ | ⟨rfl, -⟩ | ⟨rfl, -⟩ | ⟨rfl, -⟩ | ⟨rfl, -⟩ | ⟨rfl, -⟩ | ⟨rfl, -⟩
  · exact Or.inl h.1
  all_goals exact Or.inr (by decide)
theorem sh_not_push {s c : Int32} (h : (s = 1256 ∧ c = 3000) ∨ sh_bin s c) : ¬ (s - 1000 < 0 ∨ sh_isN (s - 1000) = true) := by
  rcases h with ⟨rfl, -⟩ | h
  · decide
  · rcases h with ⟨rfl, -⟩ | ⟨rfl, -⟩ | ⟨rfl, -⟩ | ⟨rfl, -⟩ | ⟨rfl, -⟩ | ⟨rfl, -⟩ | ⟨rfl, -⟩ <;> decide
theorem sh_bin_256 {s c : Int32} (h : sh_bin s c) : ¬ s - 1000 = 256 := by
  rcases h with ⟨rfl, -⟩ | ⟨rfl, -⟩ | ⟨rfl, -⟩ | ⟨rfl, -⟩ | ⟨rfl, -⟩ | ⟨rfl, -⟩ | ⟨rfl, -⟩ <;> decide
/-- one step of the class, by its kind -/
theorem sh_stp_al {st : Nat → Int32} {q : Nat → Int32} {k x y : Nat} {c : Int32} {g : Nat → Int32} (h : sh_al (st k) c x y) :
    sh_stp st q k (x, g) = (y, if sh_isN (st k - 1000) = true ∨ st k - 1000 < 0 then upd g x (sh_pv q (st k)) else if st k - 1000 = 256 then upd g (x - 1) (-(g (x - 1))) else upd g (x - 2) (sh_join (st k - 1000) (g (x - 2)) (g (x - 1)))) := by
  unfold sh_stp
  rcases h with ⟨h1, h2, rfl⟩ | ⟨h1, h2, h3, rfl⟩ | ⟨h1, h2, h3⟩
  · have hp := sh_isN_of h1
    rw [if_pos hp, if_pos h2, if_pos hp.symm]
    rfl
  · have hp := sh_not_push (Or.inl ⟨h1, h2⟩)
    have h4 : st k - 1000 = 256 := by rw [h1]; decide
    have hp' : ¬ (sh_isN (st k - 1000) = true ∨ st k - 1000 < 0) := fun z => hp z.symm
    rw [if_neg hp, if_pos h4, if_neg (show ¬ y = 0 by omega), if_neg hp', if_pos h4]
  · have hp := sh_not_push (Or.inr h1)
    have hp' : ¬ (sh_isN (st k - 1000) = true ∨ st k - 1000 < 0) := fun z => hp z.symm
    rw [if_neg hp, if_neg (sh_bin_256 h1), if_neg (show ¬ x ≤ 1 by omega), if_neg hp', if_neg (sh_bin_256 h1)]
    show (x - 1, _) = _
    rw [show x - 1 = y by omega]
theorem sh_upd_lt {g g' : Nat → Int32} {x k : Nat} {v v' : Int32} (h : ∀ j, j < x → j ≠ k → g j = g' j) (hv : k < x → v = v') : ∀ j, j < x → upd g k v j = upd g' k v' j := by
  intro j hj
  unfold upd
  by_cases e : j = k
  · subst e; rw [if_pos rfl, if_pos rfl]; exact hv hj
  · rw [if_neg e, if_neg e]; exact h j hj e
/-- what stands above the height doesn't matter -/
theorem sh_run_cong {st : Nat → Int32} {q : Nat → Int32} (cd : Nat → Int32) (H : Nat → Nat) : ∀ t k (g g' : Nat → Int32), (∀ j, k ≤ j → j < k + t → sh_al (st j) (cd j) (H j) (H (j + 1))) → (∀ j, j < H k → g j = g' j) →
    (sh_lp (sh_stp st q) t k (H k, g)).1 = H (k + t) ∧ ∀ j, j < H (k + t) → (sh_lp (sh_stp st q) t k (H k, g)).2 j = (sh_lp (sh_stp st q) t k (H k, g')).2 j := by
  intro t
  induction t with
  | zero => intro k g g' _ h; exact ⟨rfl, h⟩
  | succ t ih =>
    intro k g g' hal hg
    have ha := hal k (by omega) (by omega)
    show (sh_lp (sh_stp st q) t (k + 1) (sh_stp st q k (H k, g))).1 = _ ∧ ∀ j, _ → (sh_lp (sh_stp st q) t (k + 1) (sh_stp st q k (H k, g))).2 j = (sh_lp (sh_stp st q) t (k + 1) (sh_stp st q k (H k, g'))).2 j
    rw [sh_stp_al ha, sh_stp_al ha, show k + (t + 1) = k + 1 + t by omega]
    refine ih (k + 1) _ _ (fun j h1 h2 => hal j (by omega) (by omega)) ?_
    rcases ha with ⟨h1, h2, h3⟩ | ⟨h1, h2, h3, h4⟩ | ⟨h1, h2, h3⟩
    · rw [if_pos (sh_isN_of h1).symm, if_pos (sh_isN_of h1).symm]
      exact sh_upd_lt (fun j hj hne => hg j (by omega)) (fun _ => rfl)
    · have hp := sh_not_push (Or.inl ⟨h1, h2⟩)
      have h5 : st k - 1000 = 256 := by rw [h1]; decide
      have hp' : ¬ (sh_isN (st k - 1000) = true ∨ st k - 1000 < 0) := fun z => hp z.symm
      rw [if_neg hp', if_neg hp', if_pos h5, if_pos h5]
      exact sh_upd_lt (fun j hj hne => hg j (by omega)) (fun _ => by rw [hg (H k - 1) (by omega)])
    · have hp := sh_not_push (Or.inr h1)
      have hp' : ¬ (sh_isN (st k - 1000) = true ∨ st k - 1000 < 0) := fun z => hp z.symm
      rw [if_neg hp', if_neg hp', if_neg (sh_bin_256 h1), if_neg (sh_bin_256 h1)]
      exact sh_upd_lt (fun j hj hne => hg j (by omega)) (fun _ => by rw [hg (H k - 2) (by omega), hg (H k - 1) (by omega)])
def sh_rl (m : Nat) (st : Nat → Int32) (q : Nat → Int32) : Int32 := sh_pl m st (fun _ => 0) q
theorem sh_RR_al {m L : Nat} {st cd : Nat → Int32} (h : sh_RR m st L cd) : ∃ (H : Nat → Nat) (cd' : Nat → Int32), H 0 = 0 ∧ H m = 1 ∧ (∀ k, k ≤ m → H k ≤ 40) ∧ ∀ k, k < m → sh_al (st k) (cd' k) (H k) (H (k + 1)) := by
  obtain ⟨h1, h2, H, h3, h4, h5, h6⟩ := h
  rcases h6 with ⟨e1, e2, e3, e4⟩ | ⟨e1, e2⟩
  · subst e2
    refine ⟨H, fun _ => 1000, h3, h4, h5, fun k hk => ?_⟩
    have : k = 0 := by omega
    subst this
    rw [e3]
    exact e4
  · exact ⟨H, cd, h3, h4, h5, e2⟩
theorem sh_rl_pl {m L : Nat} {st cd : Nat → Int32} (h : sh_RR m st L cd) (g q : Nat → Int32) : sh_pl m st g q = sh_rl m st q := by
  obtain ⟨H, cd', h3, h4, h5, h6⟩ := sh_RR_al h
  have := (sh_run_cong (st := st) (q := q) cd' H m 0 g (fun _ => 0) (fun j _ h2 => h6 j (by omega)) (fun j hj => by rw [h3] at hj; omega)).2 0 (by rw [Nat.zero_add, h4]; decide)
  rw [h3] at this
  unfold sh_rl sh_pl sh_run
  rw [this]
