/-! PURE, 25: calls: what is done -/
theorem sh_G_lp {n : Nat} (hn : n ≤ 7) {col str : Nat → Int32} {rl : (Nat → Int32) → Int32} (hs : ∀ j, j < n → sh_B 0 99 (str j)) : ∀ (t k : Nat) (r : Nat → Int32), sh_G n r → sh_G n (sh_lp (fun _ => sh_hr n col str rl) t k r) := by
  intro t
  induction t with
  | zero => intro k r h; exact h
  | succ t ih => intro k r h; exact ih (k + 1) _ (sh_G_hr hn hs h)
def sh_X1 : List Nat := [3, 4, 5, 8, 9, 10, 11, 22, 27, 28, 44, 45, 48, 54, 55, 56]
/-- the relation behind an act -/
theorem sh_R0_act {N n : Nat} {r r' : Nat → Int32} {h h' : av_M} (h0 : sh_R0 N n r h) (x : ∀ b, b ∉ sh_X1 → h' b = h b) (k : ∀ j, 2 ≤ j → j < 44 → j ≠ 22 → h' 44 j = h 44 j) (k27 : h' 27 4 = h 27 4) (e6 : h' 5 6 = nI n) (e7 : h' 5 7 = sh_e n) (sv : sh_SV 5 h' r') (mv : sh_MV 48 h' r') (hG : sh_G n r') (pU' : sh_PU n h') : sh_R0 (N + 1) n r' h' := by
  obtain ⟨pA, pB, pX, pU, pK, pF, pH, pS, pN⟩ := h0
  refine ⟨⟨pA.1, e6, e7, sv, by rw [k 3 (by decide) (by decide) (by decide)]; exact pA.2.2.2.2.1, mv, ?_, hG⟩, sh_PB_s (x _ (by decide)) (x _ (by decide)) (x _ (by decide)) (k _ (by decide) (by decide) (by decide)) pB, sh_PX_s (x _ (by decide)) (x _ (by decide)) (k _ (by decide) (by decide) (by decide)) (x _ (by decide)) pX, pU', sh_PK_up (by omega) (sh_PK_s k27 (x _ (by decide)) (k _ (by decide) (by decide) (by decide)) (x _ (by decide)) (x _ (by decide)) (x _ (by decide)) pK), sh_PF_s (x _ (by decide)) (x _ (by decide)) (x _ (by decide)) (x _ (by decide)) (k _ (by decide) (by decide) (by decide)) (x _ (by decide)) (x _ (by decide)) (x _ (by decide)) pF, sh_PH_s (x _ (by decide)) (x _ (by decide)) (x _ (by decide)) (k _ (by decide) (by decide) (by decide)) (x _ (by decide)) (x _ (by decide)) pH, sh_PS_s (x _ (by decide)) (x _ (by decide)) (x _ (by decide)) (x _ (by decide)) (k _ (by decide) (by decide) (by decide)) (x _ (by decide)) (x _ (by decide)) (x _ (by decide)) pS, sh_PN_s (by rw [x 0 (by decide)]) (x _ (by decide)) pN⟩
  rw [x 6 (by decide), x 7 (by decide), x 46 (by decide), x 47 (by decide)]
  exact pA.2.2.2.2.2.2.1
theorem sh_SV5 {h h' : av_M} {r : Nat → Int32} {S : List Nat} (hf : sh_fr S h h') (hS : 5 ∉ S ∧ 8 ∉ S ∧ 9 ∉ S ∧ 10 ∉ S ∧ 11 ∉ S) (hv : sh_SV 5 h r) : sh_SV 5 h' r :=
  sh_SV_fr hf (fun a ha q => by
    obtain ⟨s5, s8, s9, s10, s11⟩ := hS
    rcases q with rfl | rfl | rfl | rfl | rfl
    · exact s5 ha
    · exact s8 ha
    · exact s9 ha
    · exact s10 ha
    · exact s11 ha) hv
theorem sh_RW_fr {a b : Nat} {S : List Nat} {h h' : av_M} {r : Nat → Int32} (hf : sh_fr S h h') (hS : a ∉ S) (hv : sh_RW a b h r) : sh_RW a b h' r := fun o ho => by rw [hf a hS]; exact hv o ho
theorem sh_RM_fr {a b : Nat} {S : List Nat} {h h' : av_M} {r : Nat → Int32} (hf : sh_fr S h h') (hS : a ∉ S) (hv : sh_RM a b h r) : sh_RM a b h' r := fun o ho => by rw [hf a hS]; exact hv o ho
theorem sh_PU_of {n a u : Nat} {R : Nat → Nat → Int32} {r : Nat → Int32} {h : av_M} (v : Int32) (hG : sh_G n r) (hR : ∀ i, i < u → sh_G n (R i)) (m1 : v < 0 → sh_M1 a u R h) (m1' : ¬ v < 0 → sh_M1 ((a + 1) % 16) (min 15 (u + 1)) (sh_Rn u R r) h) (m2 : v < 0 → sh_M2 u R h) (m2' : ¬ v < 0 → sh_M2 (min 15 (u + 1)) (sh_Rn u R r) h) : sh_PU n h := by
  by_cases e : v < 0
  · exact ⟨a, u, R, m1 e, m2 e, hR⟩
  · refine ⟨_, _, _, m1' e, m2' e, ?_⟩
    intro i hi
    unfold sh_Rn
    by_cases eu : u < 15
    · rw [if_pos eu]
      by_cases ei : i = u
      · rw [if_pos ei]; exact hG
      · rw [if_neg ei]; exact hR i (by omega)
    · rw [if_neg eu]
      by_cases ei : i = 14
      · rw [if_pos ei]; exact hG
      · rw [if_neg ei]; exact hR (i + 1) (by omega)
theorem sh_marked {kx km kx' km' : Nat} {as : List Value} (hA : sh_Act kx' km' as)
    (eqX : ∀ (d : Nat) (h : av_M), av_x (d + 1) kx (.ref 0 :: as) h = ((av_x d 2 [.ref 27, .ref 5] h).bind fun q1 => ((av_x d kx' (.ref 0 :: as) q1.2.2).bind fun q2 => ((av_x d 122 [.ref 0, .int q2.1] q2.2.2).bind fun q3 => some ((q3.1 : Int32), (0 : Int64), q3.2.2)))))
    (eqM : ∀ (d : Nat) (h : av_M), av_x (d + 1) km (.ref 44 :: as) h = ((av_x d 197 [.ref 44] (av_u h 44 0 0)).bind fun q1 => ((av_x d km' (.ref 44 :: as) q1.2.2).bind fun q2 => ((av_x d 199 [.ref 44, .int q2.1] q2.2.2).bind fun q3 => some ((q3.1 : Int32), (0 : Int64), q3.2.2))))) : sh_P kx km as := sh_p fun d N n r h hN h0 => by
  obtain ⟨pA, pB, pX, pU, pK, pF, pH, pS, pN⟩ := id h0
  obtain ⟨a1, a2, a3, a4, a5, a6, a7, a8⟩ := id pA
  obtain ⟨b, u, R, m1, m2, m3⟩ := id pU
  obtain ⟨a, r', hG, cX, cM⟩ := hA n r a1 a8
  obtain ⟨h1, e1, f1, w1, z1⟩ := c_mark (d + 97) b u R h r m1 a4
  obtain ⟨h2, e2, f2, g6, g7, s2⟩ := cX (d + 79) h1 (by rw [f1 5 (by decide)]; exact a2) (by rw [f1 5 (by decide)]; exact a3) (sh_SV5 f1 (by decide) a4)
  obtain ⟨h3, e3, f3, y3, n3, p3⟩ := c_settled (d + 97) b u R h2 r a (sh_M1_fr f2 (by decide) (by decide) w1) (sh_RW_fr f2 (by decide) z1)
  have eX : av_x (d + 100) kx (.ref 0 :: as) h = some (a, 0, h3) := by
    rw [eqX, e1]
    simp only [Option.bind_some]
    rw [e2]
    simp only [Option.bind_some]
    rw [e3]
    rfl
  have c3 : ∀ c, c ∉ [5, 8, 9, 10, 11, 27, 28] → h3 c = h c := by
    intro c hc
    rw [f3 c (fun q => hc (by revert q; simp; intro q; simp [q])), f2 c (fun q => hc (by revert q; simp; intro q; omega)), f1 c (fun q => hc (by revert q; simp; intro q; simp [q]))]
  have q0 : sh_fr [44] h3 (av_u h3 44 0 0) := sh_fr_u (by decide) (sh_fr_refl _ _)
  have m20 : sh_M2 u R (av_u h3 44 0 0) := by
    obtain ⟨x1, x2, x3⟩ := m2
    refine ⟨x1, ?_, ?_⟩
    · show h3 44 22 = _
      rw [c3 44 (by decide)]
      exact x2
    · intro i hi o ho
      show h3 56 _ = _
      rw [c3 56 (by decide)]
      exact x3 i hi o ho
  have mv0 : sh_MV 48 (av_u h3 44 0 0) r := by
    intro i hi
    show h3 48 i = _
    rw [c3 48 (by decide)]
    exact a6 i hi
  obtain ⟨h4, e4, f4, w4, z4⟩ := c_puts (d + 98) u R (av_u h3 44 0 0) r m20 mv0
  obtain ⟨h5, e5, f5, v5⟩ := cM (d + 79) h4 (by rw [f4 44 (by decide)]; show h3 44 3 = _; rw [c3 44 (by decide)]; exact a5) (sh_MV_fr f4 (by decide) mv0)
  obtain ⟨h6, e6, f6, k6, n6, p6⟩ := c_counted (d + 97) u R h5 r a (sh_M2_fr f5 (by rw [f5 44 (by decide)]) (by decide) w4) (sh_RM_fr f5 (by decide) z4)
  have eM : av_x (d + 100) km (.ref 44 :: as) h3 = some (a, 0, h6) := by
    rw [eqM, e4]
    simp only [Option.bind_some]
    rw [e5]
    simp only [Option.bind_some]
    rw [e6]
    rfl
  have c6 : ∀ c, c ∉ [44, 48, 56] → h6 c = h3 c := by
    intro c hc
    rw [f6 c (fun q => hc (by revert q; simp; intro q; omega)), f5 c (fun q => hc (by revert q; simp; intro q; simp [q])), f4 c (fun q => hc (by revert q; simp; intro q; simp [q])), q0 c (fun q => hc (by revert q; simp; intro q; simp [q]))]
  have k : ∀ j, j ≠ 0 → j ≠ 22 → h6 44 j = h 44 j := by
    intro j j1 j2
    rw [k6 j j2, f5 44 (by decide), f4 44 (by decide), av_u_eq]
    unfold upd
    rw [if_neg j1, c3 44 (by decide)]
  refine ⟨a, h3, h6, eX, eM, ⟨n, r', sh_R0_act h0 ?_ (fun j j1 _ j2 => k j (by omega) j2) ?_ ?_ ?_ ?_ ?_ hG ?_⟩, ?_, ?_, ?_, ?_⟩
  · intro c hc
    rw [c6 c (fun q => hc (by unfold sh_X1; revert q; simp; intro q; omega)), c3 c (fun q => hc (by unfold sh_X1; revert q; simp; intro q; omega))]
  · rw [c6 27 (by decide), y3, f2 27 (by decide), f1 27 (by decide)]
  · rw [c6 5 (by decide), f3 5 (by decide)]; exact g6
  · rw [c6 5 (by decide), f3 5 (by decide)]; exact g7
  · have s3 := sh_SV5 f3 (by decide) s2
    unfold sh_SV at s3 ⊢
    rw [c6 5 (by decide), c6 (5 + 3) (by decide), c6 (5 + 4) (by decide), c6 (5 + 5) (by decide), c6 (5 + 6) (by decide)]
    exact s3
  · exact sh_MV_fr f6 (by decide) v5
  · have t1 : ∀ {a' u' : Nat} {R' : Nat → Nat → Int32}, sh_M1 a' u' R' h3 → sh_M1 a' u' R' h6 := by
      intro a' u' R' q
      unfold sh_M1 sh_RW at q ⊢
      rw [c6 27 (by decide), c6 28 (by decide)]
      exact q
    exact sh_PU_of a a8 m3 (fun q => t1 (n3 q)) (fun q => t1 (p3 q)) n6 p6
  · rw [c6 3 (by decide), c3 3 (by decide)]
  · rw [c6 4 (by decide), c3 4 (by decide)]
  · exact k 1 (by decide) (by decide)
  · rw [c6 45 (by decide), c3 45 (by decide)]
theorem c_runs (p v : Int32) : sh_P 59 210 [.int p, .int v] := sh_marked (a_runs p v) (fun d h => eX6_runs_r0_in d h p v) (fun d h => eX7_runs_r44_in d h p v)
theorem c_rates (p v : Int32) : sh_P 60 211 [.int p, .int v] := sh_marked (a_rates p v) (fun d h => eX6_rates_r0_in d h p v) (fun d h => eX7_rates_r44_in d h p v)
theorem c_reels (p v : Int32) : sh_P 61 212 [.int p, .int v] := sh_marked (a_reels p v) (fun d h => eX6_reels_r0_in d h p v) (fun d h => eX7_reels_r44_in d h p v)
theorem c_drops (p : Int32) : sh_P 62 213 [.int p] := sh_marked (a_drops p) (fun d h => eX6_drops_r0_in d h p) (fun d h => eX7_drops_r44_in d h p)
theorem c_speed (p : Int32) : sh_P 63 214 [.int p] := sh_marked (a_speed p) (fun d h => eX6_speed_r0_in d h p) (fun d h => eX7_speed_r44_in d h p)
