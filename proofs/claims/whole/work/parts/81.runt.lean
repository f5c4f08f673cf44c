/-! PURE, 71: calls: sailing, 10: the run of the reference -/
theorem t_runS (d x S : Nat) (G : Nat → Nat) (h : av_M) (hS : S = min x 60) (hx : x ≤ 80) (h10 : h 44 10 = nI x) (hG : ∀ j, j < x → h 50 j = nI (G j) ∧ G j < 256) : ∃ A h2, (sh_ag x (sh_aw G S 0 0) → av_x (d + 6) 217 [.ref 44] h = ((av_x (d + 5) 197 [.ref 44] h2).bind fun q2 => av_xp (d + 5) 217 64 [.ref 44, .int (nI x), .int (sh_i true), .int 0, .int 0] [] q2.2.2)) ∧ (¬ sh_ag x (sh_aw G S 0 0) → av_x (d + 6) 217 [.ref 44] h = some (-1 - nI (sh_aw G S 0 0).1, 0, h2)) ∧ sh_fr [44, 57, 58, 59] h h2 ∧ (∀ j, j ∉ [0, 10, 11, 12, 13, 27] → h2 44 j = h 44 j) ∧ h2 44 10 = 0 ∧ (sh_ag x (sh_aw G S 0 0) → h2 44 27 = nI A ∧ A ≤ 30 ∧ sh_ap G A = x ∧ ∀ l, l < A → sh_AV G (sh_ap G l) l h2) := by
  obtain ⟨H, e0, fH0, kH, t10, t11, t12, t27⟩ := t_runS1 d x S G h hS hx h10
  have fH : sh_fr [44, 57, 58, 59] h H := sh_fr_up fH0 (by decide)
  have hTM : sh_TM x S (sh_ap G 0) G H := ⟨by omega, by omega, Nat.zero_le _, t12, t11, by rw [fH 50 (by decide)]; exact hG⟩
  obtain ⟨good, A, q, h2, e2, l1, l2, l3, l4, l5, l6, l7⟩ := t_acts d x S G (nI x) (by omega) S 0 H (by rw [show sh_ap G 0 = 0 from rfl]; omega) hTM t27 (by rw [show sh_ap G 0 = 0 from rfl]; omega) (by rw [show sh_ap G 0 = 0 from rfl, Nat.sub_zero]) (fun l hl => absurd hl (by omega))
  have f := t_fault60 (d + 4) x S q good h2 hS hx l4 l3 (by rw [l2 12 (by decide) (by decide)]; exact t12)
  have hgood : sh_ag x (sh_aw G S 0 0) → good = true := by
    intro g
    cases good
    · rcases l7 rfl with z | z
      · exact absurd g.1 (by omega)
      · exact absurd g.2.1 z
    · rfl
  refine ⟨A, h2, ?_, ?_, sh_fr_tr fH l1 (fun _ q => q), ?_, ?_, ?_⟩
  · intro g
    have gg := hgood g
    subst gg
    rw [if_pos ⟨rfl, by have := g.1; omega, g.2.2⟩] at f
    rw [e0, e2]
    exact t_runS2 d x S q h2 f
  · intro g
    have gn : ¬ (good = true ∧ q = S ∧ x ≤ 60) := by
      intro z
      exact g ⟨by rw [l5, ← hS]; exact z.2.1, (l6 z.1).2.1, z.2.2⟩
    rw [if_neg gn] at f
    rw [e0, e2, l5]
    exact t_runS3 d x (-1 - nI q) good h2 (sh_neg80 q (by omega)) f
  · intro j hj
    rw [l2 j (fun e => hj (by rw [e]; decide)) (fun e => hj (by rw [e]; decide))]
    exact kH j hj
  · rw [l2 10 (by decide) (by decide)]; exact t10
  · intro g
    obtain ⟨m1, m2, m3, m4, m5, m6⟩ := l6 (hgood g)
    exact ⟨m3, by omega, by rw [m5]; have := g.2.2; omega, m6⟩
