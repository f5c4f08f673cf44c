/-! PURE, 87: calls: row -/
theorem sh_told_in {t : Nat} (ht : t ≤ 7) (p : Int32) : sh_ir 0 (nI t - 1) p = true ↔ ¬ p < 0 ∧ ¬ nI t ≤ p := by
  have key : ∀ n, n ≤ 7 → (nI n - 1).toInt = (n : Int) - 1 := by decide +kernel
  have k2 : (nI t).toInt = (t : Int) := nI_toInt (by omega)
  unfold sh_ir
  simp only [Bool.and_eq_true, decide_eq_true_eq]
  have e : p ≤ nI t - 1 ↔ p < nI t := by
    rw [Int32.le_iff_toInt_le, Int32.lt_iff_toInt_lt, key t ht, k2]
    omega
  rw [Int32.not_lt, Int32.not_le, e]
theorem c_row (d N : Nat) (p : Int32) (h : av_M) (hR : sh_Rel N h) :
    (∃ w, av_x (d + 100) 103 [.ref 0, .int p] h = some (0, w, h) ∧ ∀ hM : av_M, (∀ c, c ≠ 76 → hM c = h c) → ∃ h2, av_x (d + 100) 274 [.ref 44, .int p] hM = some (0, w, h2) ∧ h2 44 0 = 0 ∧ h2 76 = hM 76 ∧ sh_Rel (N + 1) h2) ∨
    ((p < 0 ∨ h 3 1 ≤ p) ∧ ∃ h2, av_x (d + 100) 274 [.ref 44, .int p] h = some (0, 0, h2) ∧ h2 44 0 = 1 ∧ sh_Rel (N + 1) h2) := by
  obtain ⟨⟨n, r, h0⟩, hT⟩ := hR
  obtain ⟨t, t7, x1, x2, x3⟩ := id hT
  by_cases g : p < 0 ∨ nI t ≤ p
  · refine Or.inr ⟨by rw [x1]; exact g, av_u (av_u h 44 0 0) 44 0 1, ?_, rfl, ⟨n, r, sh_R0_up (by omega) (sh_R0_k (sh_k_m (sh_m_s (by decide) (sh_m_s (by decide) (sh_m_refl _)))) h0)⟩, sh_PT_s rfl rfl rfl rfl hT⟩
    have hf : sh_ir 0 (nI t - 1) p = false := by
      cases e : sh_ir 0 (nI t - 1) p
      · rfl
      · have := (sh_told_in t7 p).mp e
        rcases g with g | g
        · exact absurd g this.1
        · exact absurd g this.2
    rw [eX7_row_r44_in, x2, c_inI (d + 98) p 0 (nI t - 1) _ _ _ (by decide) rfl, hf]
    simp only [Option.bind_some]
    rw [if_pos (show sh_i false = 0 from rfl)]
  · have g1 : ¬ p < 0 := fun z => g (Or.inl z)
    have g2 : ¬ nI t ≤ p := fun z => g (Or.inr z)
    obtain ⟨j, hj, rfl⟩ := nI_of g1
    have hjt : j < t := by
      rcases Nat.lt_or_ge j t with q | q
      · exact q
      · exact absurd (nI_le q hj) g2
    have e2 : Int32.toNatClampNeg (nI j) = j := nI_clamp hj
    refine Or.inl ⟨av_jn (h 4 (2 * j)) (h 4 (2 * j + 1)), ?_, fun hM qM => ?_⟩
    · rw [eX6_row_r0_in, if_neg g1, x1, if_neg g2, if_pos (show nI j < 7 from nI_lt (b := 7) (by omega) (by decide)), sh_inb (show j < 7 by omega) (by decide), cond_true, e2]
    · have hM0 : sh_R0 N n r hM := sh_R0_76 h0 (sh_c_refl h) qM
      have ht := (sh_told_in t7 (nI j)).mpr ⟨g1, g2⟩
      refine ⟨av_u hM 44 0 0, ?_, rfl, rfl, ⟨n, r, sh_R0_up (by omega) (sh_R0_k (sh_k_m (sh_m_s (by decide) (sh_m_refl _))) hM0)⟩, sh_PT_s (by show hM 3 1 = _; rw [qM 3 (by decide)]) (by show hM 4 = _; exact qM 4 (by decide)) (by show hM 44 1 = _; rw [qM 44 (by decide)]) (by show hM 45 = _; exact qM 45 (by decide)) hT⟩
      rw [eX7_row_r44_in, show hM 44 1 = nI t by rw [qM 44 (by decide)]; exact x2, c_inI (d + 98) (nI j) 0 (nI t - 1) _ _ _ (by decide) rfl, ht]
      simp only [Option.bind_some]
      rw [if_neg (show ¬ sh_i true = 0 by decide), sh_inb (show j < 24 by omega) (by decide), cond_true, e2]
      show some ((0 : Int32), av_jn (hM 45 (2 * j)) (hM 45 (2 * j + 1)), _) = _
      rw [qM 45 (by decide), x3 (2 * j) (by omega), x3 (2 * j + 1) (by omega)]
