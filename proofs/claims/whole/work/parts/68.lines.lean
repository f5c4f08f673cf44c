/-! PURE, 58: calls: streamers, 4: the lines of the reference -/
theorem sh_sc_u (ok : Nat → Bool) : ∀ T p q, p ≤ q → q ≤ p + T → (∀ j, p ≤ j → j < q → ok j = true) → (q = p + T ∨ ok q = false) → sh_sc ok T p = q := by
  intro T
  induction T with
  | zero => intro p q h1 h2 _ _; show p = q; omega
  | succ T ih =>
    intro p q h1 h2 h3 h4
    rw [sh_sc_s]
    by_cases e : p = q
    · subst e
      rcases h4 with h4 | h4
      · exact absurd h4 (by omega)
      · rw [h4, if_neg (by decide)]
    · rw [if_pos (h3 p (by omega) (by omega))]
      exact ih (p + 1) q (by omega) (by omega) (fun j g1 g2 => h3 j (by omega) g2) (by
        rcases h4 with h4 | h4
        · exact Or.inl (by omega)
        · exact Or.inr h4)
def sh_LE (n S : Nat) (G : Nat → Nat) (h h' : av_M) (good : Bool) (L q : Nat) : Prop := sh_fr [44, 51] h h' ∧ (∀ j, j ≠ 11 → j ≠ 15 → h' 44 j = h 44 j) ∧ h' 44 11 = nI q ∧ q ≤ S ∧ (∀ j, j < q → sh_fz n j (G j) = true) ∧ (q = S ∨ sh_fz n q (G q) = false) ∧ (good = true → h' 44 15 = nI L ∧ q + 1 = 7 * L ∧ n + L ≤ 7 ∧ ∀ l, l < L → ∀ k, k < 5 → h' 51 (5 * l + k) = sh_lv G l k) ∧ (good = false → q % 7 ≠ 6)
theorem sh_LE_tr {n S L q : Nat} {G : Nat → Nat} {h h1 h' : av_M} {good : Bool} (f : sh_fr [44, 51] h h1) (k : ∀ j, j ≠ 11 → j ≠ 15 → h1 44 j = h 44 j) (H : sh_LE n S G h1 h' good L q) : sh_LE n S G h h' good L q := by
  obtain ⟨a1, a2, a3⟩ := H
  exact ⟨sh_fr_tr f a1 (fun _ q => q), fun j g1 g2 => (a2 j g1 g2).trans (k j g1 g2), a3⟩
theorem t_lines (d n x S : Nat) (G : Nat → Nat) (A : Int32) : ∀ T i (g0 : Int32) (h : av_M), n + i + T = 7 → h 44 3 = nI n → sh_TM x S (7 * i) G h → h 44 15 = nI i → (∀ j, j < 7 * i → sh_fz n j (G j) = true) → (∀ l, l < i → ∀ k, k < 5 → h 51 (5 * l + k) = sh_lv G l k) →
    ∃ good L q h', av_xp (d + 6) 184 29 [.ref 44, .int A, .int g0, .int 1, .null, .null] [] h = av_xp (d + 6) 184 29 [.ref 44, .int A, .int (sh_i good), .int 0, .null, .null] [] h' ∧ sh_LE n S G h h' good L q := by
  intro T
  induction T with
  | zero =>
    intro i g0 h e hm hT h15 hf hv
    refine ⟨false, i, 7 * i, h, ?_, sh_fr_refl _ _, fun _ _ _ => rfl, hT.2.2.2.2.1, hT.2.2.1, hf, Or.inr ?_, fun g => (nomatch g), fun _ => by omega⟩
    · rw [eX7_streamers_r44_29, if_neg (by decide), eX7_readsOne_r44_in, hm, h15, nI_add, if_pos (by rw [show n + i = 7 by omega]; rfl)]
      simp only [Option.bind_some]
      rw [sh_001, if_pos rfl]
      rfl
    · unfold sh_fz
      rw [if_pos (by omega), show 7 * i / 7 = i by omega, decide_eq_false (by omega), Bool.false_and]
  | succ T ih =>
    intro i g0 h e hm hT h15 hf hv
    obtain ⟨b, q, h1, e1, l1, q1, q2, q3, q4, q5⟩ := t_readsOne (d + 1) n i x S G h (by omega) hm hT h15
    obtain ⟨f1, k1, p1, m1, c1⟩ := id l1
    have hf2 : ∀ j, j < q → sh_fz n j (G j) = true := fun j hj => by
      by_cases g : j < 7 * i
      · exact hf j g
      · exact q3 j (by omega) hj
    rw [eX7_streamers_r44_29, if_neg (by decide), e1]
    simp only [Option.bind_some]
    cases b
    · obtain ⟨q6, q7⟩ := q5 rfl
      rw [if_pos (show sh_i false = 0 from rfl)]
      exact ⟨false, i, q, h1, rfl, f1, k1, p1, q2, hf2, q7, fun g => (nomatch g), fun _ => by omega⟩
    · obtain ⟨q6, q7⟩ := q4 rfl
      have hT1 : sh_TM x S q G h1 := ⟨hT.1, hT.2.1, q2, by rw [k1 12 (by decide) (by decide)]; exact hT.2.2.2.1, p1, by rw [f1 50 (by decide)]; exact hT.2.2.2.2.2⟩
      have hfz : sh_fz n q (G q) = decide (G q = 59) := by
        unfold sh_fz
        rw [if_neg (by omega), if_neg (by omega), if_pos (by omega)]
      have hv1 : ∀ l, l < i + 1 → ∀ k, k < 5 → h1 51 (5 * l + k) = sh_lv G l k := by
        intro l hl k hk
        by_cases g : l = i
        · subst g; exact q7 k (by omega) hk
        · rw [c1 _ (by omega)]; exact hv l (by omega) k hk
      have tk : av_x (d + 6) 176 [.ref 44, .int 59] h1 = _ := t_takes (d + 4) x S q 59 G h1 (by decide) hT1
      rw [if_neg (show ¬ sh_i true = 0 by decide), tk]
      simp only [Option.bind_some]
      cases hd : (decide (q < S) && decide (G q = 59))
      · rw [if_pos (show sh_i false = 0 from rfl), if_neg (by decide)]
        refine ⟨true, i + 1, q, h1, rfl, f1, k1, p1, q2, hf2, ?_, fun _ => ⟨m1, by omega, by omega, hv1⟩, fun g => (nomatch g)⟩
        rw [hfz]
        exact sh_and_f q2 hd
      · simp only [Bool.and_eq_true, decide_eq_true_eq] at hd
        rw [if_neg (show ¬ sh_i true = 0 by decide), if_pos rfl]
        have hT2 := sh_TM_p hT1 hd.1
        have eq7 : q + 1 = 7 * (i + 1) := by omega
        rw [eq7] at hT2 ⊢
        obtain ⟨good, L, q', h', e', l'⟩ := ih (i + 1) (sh_i true) (av_u h1 44 11 (nI (7 * (i + 1)))) (by omega) (by show h1 44 3 = nI n; rw [k1 3 (by decide) (by decide)]; exact hm) hT2 m1 (fun j hj => by
          by_cases g : j < q
          · exact hf2 j g
          · rw [show j = q by omega, hfz, decide_eq_true hd.2]) hv1
        refine ⟨good, L, q', h', e', sh_LE_tr (sh_fr_u (by decide) f1) ?_ l'⟩
        intro j g1 g2
        show upd (h1 44) 11 _ j = _
        unfold upd
        rw [if_neg g1]
        exact k1 j g1 g2
/-- what is wrong with it, in the reference -/
theorem t_fault (d x S q : Nat) (good : Bool) (h : av_M) (hS : S = min x 48) (hx : x ≤ 80) (hq : q ≤ S) (h11 : h 44 11 = nI q) (h12 : h 44 12 = nI S) : av_x (d + 1) 182 [.ref 44, .int (nI x), .int 48, .int (sh_i good)] h = some (if good = true ∧ q = S ∧ x ≤ 48 then 0 else -1 - nI q, 0, h) := by
  have e48 : q < 48 ∨ ¬ nI q < 48 ∧ nI q = 48 := by
    by_cases g : q < 48
    · exact Or.inl g
    · exact Or.inr ⟨nI_nlt (b := 48) (by omega) (by omega), by rw [show q = 48 by omega]; rfl⟩
  rw [eX7_faultOf_r44_in, h11, h12]
  cases good
  · rw [if_pos (show sh_i false = 0 from rfl), if_neg (show ¬ (false = true ∧ q = S ∧ x ≤ 48) from fun g => (nomatch g.1))]
    by_cases g : nI x ≤ 48
    · rw [if_pos g]
    · rw [if_neg g]
      rcases e48 with e | e
      · rw [if_pos (show nI q < 48 from nI_lt (b := 48) e (by omega))]
      · rw [if_neg e.1, e.2]
  · rw [if_neg (show ¬ sh_i true = 0 by decide)]
    by_cases g : q = S
    · rw [if_pos (by rw [g])]
      by_cases g2 : x ≤ 48
      · rw [if_pos (show nI x ≤ 48 from sh_ge (k := 48) (n := x) (by omega) (by omega)), if_pos ⟨rfl, g, g2⟩]
      · rw [if_neg (show ¬ nI x ≤ 48 from sh_lt (k := 48) (n := x) (by omega) (by omega)), if_neg (show ¬ (true = true ∧ q = S ∧ x ≤ 48) from fun z => g2 z.2.2), show q = 48 by omega]
        rfl
    · rw [if_neg (show ¬ nI q = nI S from fun z => g ((nI_eq (by omega) (by omega)).mp z)), if_neg (show ¬ (true = true ∧ q = S ∧ x ≤ 48) from fun z => g z.2.1)]
      by_cases g2 : nI x ≤ 48
      · rw [if_pos g2]
      · rw [if_neg g2]
        rcases e48 with e | e
        · rw [if_pos (show nI q < 48 from nI_lt (b := 48) e (by omega))]
        · rw [if_neg e.1, e.2]
theorem sh_bd_eq {x S q : Nat} {good : Bool} (hS : S = min x 48) (hq : q ≤ S) (h1 : good = true → x ≠ 0 → q % 7 = 6) (h2 : good = false → q % 7 ≠ 6) (h3 : x = 0 → good = true) : sh_bd x S q = if good = true ∧ q = S ∧ x ≤ 48 then -1 else nI q := by
  unfold sh_bd
  by_cases g : q < S
  · rw [if_pos g, if_neg (fun z => by omega)]
  · have e : q = S := by omega
    rw [if_neg g]
    by_cases g2 : good = true ∧ q = S ∧ x ≤ 48
    · rw [if_pos g2, if_pos]
      refine ⟨?_, by omega⟩
      by_cases g3 : x = 0
      · exact Or.inl (by omega)
      · exact Or.inr (by rw [← e]; exact h1 g2.1 g3)
    · rw [if_neg g2, if_neg, e]
      intro z
      apply g2
      refine ⟨?_, e, by omega⟩
      cases good
      · rcases z.1 with z1 | z1
        · exact h3 (by omega)
        · exact absurd (by rw [e]; exact z1) (h2 rfl)
      · rfl
