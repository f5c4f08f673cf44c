/-! PURE, 65: calls: sailing, 4: all acts of the reference, read -/
def sh_ap (G : Nat → Nat) : Nat → Nat
  | 0 => 0
  | l + 1 => sh_ap G l + 1 + sh_wd (G (sh_ap G l))
theorem sh_AV_s {G : Nat → Nat} {p i l : Nat} {h h' : av_M} (e : h' 57 l = h 57 l ∧ h' 58 l = h 58 l ∧ h' 59 l = h 59 l) (H : sh_AV G p l h) : sh_AV G p l h' := by
  unfold sh_AV at H ⊢
  rw [e.1, e.2.1, e.2.2]
  exact H
def sh_AE (S : Nat) (G : Nat → Nat) (h h' : av_M) (good : Bool) (A q : Nat) : Prop := sh_fr [44, 57, 58, 59] h h' ∧ (∀ j, j ≠ 11 → j ≠ 27 → h' 44 j = h 44 j) ∧ h' 44 11 = nI q ∧ q ≤ S ∧ (sh_aw G S 0 0).1 = q ∧ (good = true → q = S ∧ (sh_aw G S 0 0).2 = 0 ∧ h' 44 27 = nI A ∧ 2 * A ≤ S ∧ sh_ap G A = S ∧ ∀ l, l < A → sh_AV G (sh_ap G l) l h') ∧ (good = false → q < S ∨ (sh_aw G S 0 0).2 ≠ 0)
theorem sh_AE_tr {S A q : Nat} {G : Nat → Nat} {h h1 h' : av_M} {good : Bool} (f : sh_fr [44, 57, 58, 59] h h1) (k : ∀ j, j ≠ 11 → j ≠ 27 → h1 44 j = h 44 j) (H : sh_AE S G h1 h' good A q) : sh_AE S G h h' good A q := by
  obtain ⟨a1, a2, a3⟩ := H
  exact ⟨sh_fr_tr f a1 (fun _ q => q), fun j g1 g2 => (a2 j g1 g2).trans (k j g1 g2), a3⟩
noncomputable def sh_AF (d : Nat) (X : Int32) (good : Bool) (h : av_M) : Option (Int32 × Int64 × av_M) := (av_x d 182 [.ref 44, .int X, .int 60, .int (sh_i good)] h).bind fun q1 => (if 0 ≤ q1.1 then ((av_x d 197 [.ref 44] q1.2.2).bind fun q2 => av_xp d 217 64 [.ref 44, .int X, .int (sh_i good), .int q1.1, .int 0] [] q2.2.2) else some ((q1.1 : Int32), (0 : Int64), q1.2.2))
theorem t_acts (d x S : Nat) (G : Nat → Nat) (X : Int32) (hS : S ≤ 60) : ∀ T i (h : av_M), S - sh_ap G i ≤ T → sh_TM x S (sh_ap G i) G h → h 44 27 = nI i → 2 * i ≤ sh_ap G i → sh_aw G S 0 0 = sh_aw G (S - sh_ap G i) (sh_ap G i) 0 → (∀ l, l < i → sh_AV G (sh_ap G l) l h) →
    ∃ good A q h', av_xp (d + 5) 217 19 [.ref 44, .int X, .int 1, .null, .null] [] h = sh_AF (d + 5) X good h' ∧ sh_AE S G h h' good A q := by
  intro T
  induction T with
  | zero =>
    intro i h e hT h27 h2 ha hv
    have hp := hT.2.2.1
    have e2 : sh_ap G i = S := by omega
    refine ⟨true, i, S, h, ?_, sh_fr_refl _ _, fun _ _ _ => rfl, by rw [← e2]; exact hT.2.2.2.2.1, Nat.le_refl _, ?_, fun _ => ⟨rfl, ?_, h27, by omega, e2, hv⟩, fun g => (nomatch g)⟩
    · rw [eX7_sailing_r44_19, if_neg (show ¬ (1 : Int32) = 0 by decide), if_pos (show h 44 12 ≤ h 44 11 by rw [hT.2.2.2.1, hT.2.2.2.2.1, e2]; exact sh_ge (by omega) (by omega))]
      rfl
    · rw [ha, e2, Nat.sub_self]; rfl
    · rw [ha, e2, Nat.sub_self]; rfl
  | succ T ih =>
    intro i h e hT h27 h2 ha hv
    have hp := hT.2.2.1
    by_cases e2 : sh_ap G i = S
    · exact ih i h (by omega) hT h27 h2 ha hv
    · have hlt : sh_ap G i < S := by omega
      obtain ⟨b, q, h1, e1, ⟨f1, k1, p1, c1⟩, m1, q2, q4, q5⟩ := t_readsAct d i x S (sh_ap G i) G h (by omega) hT hlt h27
      have hv1 : ∀ l, l < i → sh_AV G (sh_ap G l) l h1 := fun l hl => sh_AV_s (i := i) (c1 l hl) (hv l hl)
      rw [eX7_sailing_r44_19, if_neg (show ¬ (1 : Int32) = 0 by decide), if_neg (show ¬ h 44 12 ≤ h 44 11 by rw [hT.2.2.2.1, hT.2.2.2.2.1]; exact sh_lt hlt (by omega)), e1]
      simp only [Option.bind_some]
      cases b
      · obtain ⟨q6, q7⟩ := q5 rfl
        refine ⟨false, i, q, h1, ?_, f1, k1, p1, q2, by rw [ha]; exact q6, fun g => (nomatch g), fun _ => by rw [ha]; exact q7⟩
        rw [eX7_sailing_r44_19, if_pos (show sh_i false = 0 from rfl)]
        rfl
      · obtain ⟨q6, q7, q8⟩ := q4 rfl
        have hw := sh_wd3 (G (sh_ap G i))
        have hw1 : 1 ≤ sh_wd (G (sh_ap G i)) := by
          have hc : G (sh_ap G i) < 256 := (hT.2.2.2.2.2 _ (by have := hT.2.1; omega)).2
          obtain ⟨kw1, kw2, kw3, kw6⟩ := sh_kd_wd _ hc
          have hk := q8.1
          by_cases g : sh_kd (G (sh_ap G i)) < 3
          · rw [kw1 g]; decide
          · by_cases g5 : sh_kd (G (sh_ap G i)) = 5
            · rw [kw3 g5]; decide
            · rw [kw2 (by omega)]; decide
        have eq : sh_ap G (i + 1) = q := by rw [q6]; rfl
        have hT1 : sh_TM x S (sh_ap G (i + 1)) G h1 := ⟨hT.1, hT.2.1, by rw [eq]; exact q2, by rw [k1 12 (by decide) (by decide)]; exact hT.2.2.2.1, by rw [eq]; exact p1, by rw [f1 50 (by decide)]; exact hT.2.2.2.2.2⟩
        obtain ⟨good, A, q', h', e', l'⟩ := ih (i + 1) h1 (by omega) hT1 m1 (by omega) (by rw [ha, q7, eq]) (fun l hl => by
          by_cases g : l = i
          · subst g; exact q8
          · exact hv1 l (by omega))
        exact ⟨good, A, q', h', e', sh_AE_tr f1 k1 l'⟩
theorem t_fault60 (d x S q : Nat) (good : Bool) (h : av_M) (hS : S = min x 60) (hx : x ≤ 80) (hq : q ≤ S) (h11 : h 44 11 = nI q) (h12 : h 44 12 = nI S) : av_x (d + 1) 182 [.ref 44, .int (nI x), .int 60, .int (sh_i good)] h = some (if good = true ∧ q = S ∧ x ≤ 60 then 0 else -1 - nI q, 0, h) := by
  have e48 : q < 60 ∨ ¬ nI q < 60 ∧ nI q = 60 := by
    by_cases g : q < 60
    · exact Or.inl g
    · exact Or.inr ⟨nI_nlt (b := 60) (by omega) (by omega), by rw [show q = 60 by omega]; rfl⟩
  rw [eX7_faultOf_r44_in, h11, h12]
  cases good
  · rw [if_pos (show sh_i false = 0 from rfl), if_neg (show ¬ (false = true ∧ q = S ∧ x ≤ 60) from fun g => (nomatch g.1))]
    by_cases g : nI x ≤ 60
    · rw [if_pos g]
    · rw [if_neg g]
      rcases e48 with e | e
      · rw [if_pos (show nI q < 60 from nI_lt (b := 60) e (by omega))]
      · rw [if_neg e.1, e.2]
  · rw [if_neg (show ¬ sh_i true = 0 by decide)]
    by_cases g : q = S
    · rw [if_pos (by rw [g])]
      by_cases g2 : x ≤ 60
      · rw [if_pos (show nI x ≤ 60 from sh_ge (k := 60) (n := x) (by omega) (by omega)), if_pos ⟨rfl, g, g2⟩]
      · rw [if_neg (show ¬ nI x ≤ 60 from sh_lt (k := 60) (n := x) (by omega) (by omega)), if_neg (show ¬ (true = true ∧ q = S ∧ x ≤ 60) from fun z => g2 z.2.2), show q = 60 by omega]
        rfl
    · rw [if_neg (show ¬ nI q = nI S from fun z => g ((nI_eq (by omega) (by omega)).mp z)), if_neg (show ¬ (true = true ∧ q = S ∧ x ≤ 60) from fun z => g z.2.1)]
      by_cases g2 : nI x ≤ 60
      · rw [if_pos g2]
      · rw [if_neg g2]
        rcases e48 with e | e
        · rw [if_pos (show nI q < 60 from nI_lt (b := 60) e (by omega))]
        · rw [if_neg e.1, e.2]
/-- the whole text is good -/
def sh_ag (x : Nat) (z : Nat × Nat) : Prop := z.1 = min x 60 ∧ z.2 = 0 ∧ x ≤ 60
theorem sh_az_eq {x : Nat} {z : Nat × Nat} (h1 : z.1 ≤ min x 60) : (sh_ag x z → sh_az x (min x 60) z = -1) ∧ (¬ sh_ag x z → sh_az x (min x 60) z = nI z.1) := by
  unfold sh_az sh_ag
  constructor
  · intro g
    rw [if_neg (by omega), if_pos ⟨g.2.1, by omega⟩]
  · intro g
    by_cases q : z.1 < min x 60
    · rw [if_pos q]
    · rw [if_neg q, if_neg (fun y => g ⟨by omega, y.1, by omega⟩), show z.1 = min x 60 by omega]
