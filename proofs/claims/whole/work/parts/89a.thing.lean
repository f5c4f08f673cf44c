/-! PURE, 80: calls: rule, 6: a thing, read by the reference; the class reads the same signs -/
theorem sh_cc1256 : sh_cc 1256 = 3000 := by decide
/-- a list of steps (the last first) lays y things -/
def sh_wl : List Nat → Nat → Prop
  | [], y => y = 0
  | a :: l, y => ∃ x, sh_wl l x ∧ sh_al (nI a) (nI (sh_cc a)) x y
theorem sh_wl_le : ∀ (l : List Nat) (y : Nat), sh_wl l y → y ≤ l.length := by
  intro l
  induction l with
  | nil => intro y h; exact Nat.le_of_eq h
  | cons a l ih =>
    intro y h
    obtain ⟨x, h1, h2⟩ := h
    have := ih x h1
    show y ≤ l.length + 1
    rcases h2 with ⟨-, -, q⟩ | ⟨-, -, -, q⟩ | ⟨-, -, q⟩ <;> omega
def sh_ff : List Nat → List Nat → List Nat
  | [], o => o
  | a :: e, o => sh_ff e ((1000 + a) :: o)
theorem sh_ff_app : ∀ (e : List Nat) (c : Nat) (o : List Nat), sh_ff (e ++ [c]) o = (1000 + c) :: sh_ff e o := by
  intro e
  induction e with
  | nil => intro c o; rfl
  | cons a e ih => intro c o; exact ih c _
theorem sh_yr_app (b : Nat) : ∀ (e w o : List Nat), (∀ a ∈ e, b ≤ sh_yb a) → (∀ a, w.head? = some a → sh_yb a < b) → sh_yr b (e ++ w) o = (w, sh_ff e o) := by
  intro e
  induction e with
  | nil =>
    intro w o _ h
    cases w with
    | nil => rfl
    | cons a w =>
      show (if b ≤ sh_yb a then _ else _) = _
      have := h a rfl
      rw [if_neg (by omega)]
      rfl
  | cons a e ih =>
    intro w o h1 h2
    show (if b ≤ sh_yb a then sh_yr b (e ++ w) ((1000 + a) :: o) else _) = _
    rw [if_pos (h1 a List.mem_cons_self), ih w _ (fun c z => h1 c (List.mem_cons_of_mem _ z)) h2]
    rfl
/-- what waits binds less than what comes -/
def sh_tb (r : Nat) (w : List Nat) : Prop := r = 3 ∨ ∀ a, w.head? = some a → sh_yb a < r + 1
def sh_nx (G : Nat → Nat) (S r q n : Nat) (cm : Nat → Bool) (dg : Nat) : Prop := q < S → (48 ≤ G q ∧ G q ≤ 57 → ¬ (1 ≤ dg ∧ dg ≤ 2)) ∧ (r + 1 ≤ sh_yb (G q) → sh_yb (G q) = 1 ∧ cm n = true)
/-- the class's way from p to q, over what the reference tells as C -/
def sh_WAY (G : Nat → Nat) (S r p q nest : Nat) (C : List Nat) : Prop := ∀ (oy w : List Nat) (cm : Nat → Bool) (dg : Nat), sh_tb r w → (r = 0 → cm nest = false) →
  ∃ (o' e : List Nat) (cm' : Nat → Bool) (dg' : Nat), sh_yq G p q (oy, w, nest, cm, dg, true) (o', e ++ w, nest, cm', dg', false) ∧ (∀ a ∈ e, r + 1 ≤ sh_yb a) ∧ sh_ff e o' = C ++ oy ∧ (∀ i, i < nest → cm' i = cm i) ∧ (1 ≤ r → cm' nest = cm nest) ∧ sh_nx G S r q nest cm' dg'
def sh_stk (G : Nat → Nat) (S q : Nat) (s : sh_Y) : Prop := (q < S ∧ sh_yd (G q) s = none) ∨ (q = S ∧ (s.2.2.2.2.2 = true ∨ s.2.2.1 ≠ 0))
def sh_BAD (G : Nat → Nat) (S r p q nest : Nat) : Prop := ∀ (oy w : List Nat) (cm : Nat → Bool) (dg : Nat), sh_tb r w → (r = 0 → cm nest = false) → ∃ s, sh_yq G p q (oy, w, nest, cm, dg, true) s ∧ sh_stk G S q s
def sh_RS (x S p nest : Nat) (G : Nat → Nat) (o : List Nat) (h : av_M) : Prop := sh_TM x S p G h ∧ h 44 13 = nI nest ∧ h 44 19 = nI o.length ∧ sh_ls (h 53) sh_cc o ∧ o.length ≤ p
def sh_RF (h h' : av_M) : Prop := (∀ a, a ≠ 44 → a ≠ 53 → h' a = h a) ∧ ∀ j, j ≠ 11 → j ≠ 13 → j ≠ 19 → h' 44 j = h 44 j
theorem sh_RF_r (h : av_M) : sh_RF h h := ⟨fun _ _ _ => rfl, fun _ _ _ _ => rfl⟩
theorem sh_RF_t {h h1 h2 : av_M} (a : sh_RF h h1) (b : sh_RF h1 h2) : sh_RF h h2 := ⟨fun c p q => (b.1 c p q).trans (a.1 c p q), fun j p q r => (b.2 j p q r).trans (a.2 j p q r)⟩
theorem sh_RF_u {h h1 : av_M} {j : Nat} {v : Int32} (hj : j = 11 ∨ j = 13 ∨ j = 19) (a : sh_RF h h1) : sh_RF h (av_u h1 44 j v) := by
  refine ⟨fun c p q => by rw [av_u_ne p]; exact a.1 c p q, fun i p q r => ?_⟩
  rw [av_u_eq]
  unfold upd
  rw [if_neg (by omega)]
  exact a.2 i p q r
theorem sh_RF_v {h h1 : av_M} {j : Nat} {v : Int32} (a : sh_RF h h1) : sh_RF h (av_u h1 53 j v) :=
  ⟨fun c p q => by rw [av_u_ne q]; exact a.1 c p q, fun i p q r => by rw [av_u_ne (by decide)]; exact a.2 i p q r⟩
theorem sh_RF_q {q : Nat} {h h1 : av_M} (a : sh_RQ q h h1) : sh_RF h h1 := ⟨fun c p _ => a.1 c (by simpa using p), fun j p _ _ => a.2.1 j p⟩
/-- what came of reading from p on -/
def sh_OUT (x S r p nest : Nat) (G : Nat → Nat) (o : List Nat) (E : Option av_R) (h : av_M) : Prop := ∃ (b : Bool) (q : Nat) (C : List Nat) (h' : av_M), E = some (sh_i b, 0, h') ∧ sh_RF h h' ∧ p ≤ q ∧ q ≤ S ∧ h' 44 11 = nI q ∧ (∃ c, h' 44 19 = nI c ∧ c + p ≤ o.length + q) ∧ (b = true → sh_RS x S q nest G (C ++ o) h' ∧ (∀ y, sh_wl o y → sh_wl (C ++ o) (y + 1)) ∧ sh_WAY G S r p q nest C ∧ C.length + p ≤ q) ∧ (b = false → sh_BAD G S r p q nest)
theorem sh_stop {G : Nat → Nat} {S q n : Nat} {cm : Nat → Bool} {dg : Nat} (o w : List Nat) (h : sh_nx G S 0 q n cm dg) (hq : q < S) (hg : G q < 256) (h4 : G q ≠ 41 ∨ n = 0) : sh_yd (G q) (o, w, n, cm, dg, false) = none := by
  obtain ⟨h1, h2⟩ := h hq
  show (if 48 ≤ G q ∧ G q ≤ 57 then (if 1 ≤ dg ∧ dg ≤ 2 ∧ 1 ≤ o.length then _ else none) else if G q = 41 then (if n = 0 then none else _) else if sh_yb (G q) = 0 then none else if sh_yb (G q) = 1 ∧ cm n = true then none else _) = none
  by_cases g1 : 48 ≤ G q ∧ G q ≤ 57
  · rw [if_pos g1, if_neg (fun z => h1 g1 ⟨z.1, z.2.1⟩)]
  rw [if_neg g1]
  by_cases g2 : G q = 41
  · rw [if_pos g2, if_pos (h4.resolve_left (fun z => z g2))]
  rw [if_neg g2]
  by_cases g3 : sh_yb (G q) = 0
  · rw [if_pos g3]
  · rw [if_neg g3, if_pos (h2 (by omega))]
theorem sh_n1000 : ∀ v, v < 1000 → nI v - 1000 < 0 ∧ nI v < 1000 := by decide +kernel
theorem sh_nmal : ∀ c, c < 256 → sh_nm c = true → (c = 107 ∨ c = 115 ∨ c = 114 ∨ c = 112 ∨ c = 118 ∨ c = 99 ∨ c = 110) := by decide +kernel
theorem sh_al_nm {c y : Nat} (hc : c < 256) (h : sh_nm c = true) (hy : y < 40) : sh_al (nI (1000 + c)) (nI (sh_cc (1000 + c))) y (y + 1) := by
  refine Or.inl ⟨?_, hy, rfl⟩
  rcases sh_nmal c hc h with rfl | rfl | rfl | rfl | rfl | rfl | rfl
  · exact Or.inr (Or.inl (by decide))
  · exact Or.inr (Or.inr (Or.inl (by decide)))
  · exact Or.inr (Or.inr (Or.inr (Or.inl (by decide))))
  · exact Or.inr (Or.inr (Or.inr (Or.inr (Or.inl (by decide)))))
  · exact Or.inr (Or.inr (Or.inr (Or.inr (Or.inr (Or.inl (by decide))))))
  · exact Or.inr (Or.inr (Or.inr (Or.inr (Or.inr (Or.inr (Or.inl (by decide)))))))
  · exact Or.inr (Or.inr (Or.inr (Or.inr (Or.inr (Or.inr (Or.inr (by decide)))))))
theorem sh_ybal : ∀ c, c < 256 → 1 ≤ sh_yb c → (c = 60 ∨ c = 62 ∨ c = 61 ∨ c = 43 ∨ c = 45 ∨ c = 42 ∨ c = 47) := by decide +kernel
theorem sh_al_op {c y : Nat} (hc : c < 256) (h : 1 ≤ sh_yb c) (hy : 1 ≤ y) : sh_al (nI (1000 + c)) (nI (sh_cc (1000 + c))) (y + 1) y := by
  refine Or.inr (Or.inr ⟨?_, by omega, rfl⟩)
  rcases sh_ybal c hc h with rfl | rfl | rfl | rfl | rfl | rfl | rfl
  · exact Or.inl (by decide)
  · exact Or.inr (Or.inl (by decide))
  · exact Or.inr (Or.inr (Or.inl (by decide)))
  · exact Or.inr (Or.inr (Or.inr (Or.inl (by decide))))
  · exact Or.inr (Or.inr (Or.inr (Or.inr (Or.inl (by decide)))))
  · exact Or.inr (Or.inr (Or.inr (Or.inr (Or.inr (Or.inl (by decide))))))
  · exact Or.inr (Or.inr (Or.inr (Or.inr (Or.inr (Or.inr (by decide))))))
