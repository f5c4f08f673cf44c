/-! PURE, 26: calls: hours -/
theorem sh_hrX {n : Nat} {h : av_M} (e : ∀ j, j < n → h 6 j = h 46 j ∧ h 7 j = h 47 j ∧ sh_B 0 99 (h 47 j)) (rl : (Nat → Int32) → Int32) : sh_hr n (h 6) (h 7) rl = sh_hr n (h 46) (h 47) rl :=
  funext fun r => sh_hr_cong (fun j hj => (e j hj).1) (fun j hj => (e j hj).2.1) rl r
theorem c_goH_l (d n m z : Nat) (col str : Nat → Int32) (rl : (Nat → Int32) → Int32) (b0 : Int32) (hn : n ≤ 7) (hmm : m ≤ 40) (hz : z < 1000) : ∀ t k (h : av_M) (r : Nat → Int32), k + t = z → h 6 = col → h 7 = str → h 5 6 = nI n → h 5 7 = sh_e n → sh_SV 5 h r → h 19 3 = nI m → (∀ g q, sh_pl m (h 20) g q = rl q) →
    ∃ h', av_xp (d + 5) 124 22 [.ref 0, .int (nI z), .int b0, .int (nI k)] [] h = av_xp (d + 5) 124 22 [.ref 0, .int (nI z), .int b0, .int (nI z)] [] h' ∧ sh_fr [5, 8, 11, 22] h h' ∧ sh_SV 5 h' (sh_lp (fun _ => sh_hr n col str rl) t k r) ∧ h' 5 6 = nI n ∧ h' 5 7 = sh_e n := by
  intro t
  induction t with
  | zero =>
    intro k h r e _ _ h6 h7 hv _ _
    have ek : k = z := by omega
    subst ek
    exact ⟨h, rfl, sh_fr_refl _ _, hv, h6, h7⟩
  | succ t ih =>
    intro k h r e hc hs h6 h7 hv hm hrl
    rw [eX6_goHours_r0_22, if_neg (sh_lt (by omega) (by omega))]
    obtain ⟨h1, e1, f1, v1, g6, g7⟩ := c_passHour195 d n m h r rl hn h6 h7 hv hmm hm hrl
    rw [e1]
    simp only [Option.bind_some, nI_1]
    rw [hc, hs] at v1
    obtain ⟨h2, e2, f2, v2, k6, k7⟩ := ih (k + 1) h1 _ (by omega) (by rw [f1 6 (by decide)]; exact hc) (by rw [f1 7 (by decide)]; exact hs) g6 g7 v1 (by rw [f1 19 (by decide)]; exact hm) (by rw [f1 20 (by decide)]; exact hrl)
    exact ⟨h2, e2, sh_fr_tr f1 f2 (fun _ z => z), v2, k6, k7⟩
theorem c_goHours (d n m z : Nat) (h : av_M) (r : Nat → Int32) (rl : (Nat → Int32) → Int32) (hn : n ≤ 7) (hmm : m ≤ 40) (hz : z ≤ 60) (h6 : h 5 6 = nI n) (h7 : h 5 7 = sh_e n) (hv : sh_SV 5 h r) (hm : h 19 3 = nI m) (hrl : ∀ g q, sh_pl m (h 20) g q = rl q) (ρ : Nat → Int32) (hρ : ρ = sh_lp (fun _ => sh_hr n (h 6) (h 7) rl) z 0 r) :
    ∃ h', av_x (d + 6) 124 [.ref 0, .int (nI z)] h = some (ρ 30, 0, h') ∧ sh_fr [3, 4, 5, 8, 11, 22] h h' ∧ sh_SV 5 h' ρ ∧ h' 5 6 = nI n ∧ h' 5 7 = sh_e n ∧ sh_t1 [Int32.toInt64 (ρ 28 &&& (r 28 ^^^ (-1))), Int32.toInt64 (sh_bc (sh_hd n ρ))] h' := by
  subst hρ
  rw [eX6_goHours_r0_in, if_neg (sh_nneg (by omega)), if_pos (show nI z ≤ 60 from nI_le (b := 60) (by omega) (by decide)), hv.2.2.2.2.1]
  obtain ⟨h1, e1, f1, v1, g6, g7⟩ := c_goH_l d n m z (h 6) (h 7) rl (r 28) hn hmm (by omega) z 0 h r (by omega) rfl rfl h6 h7 hv hm hrl
  rw [show (0 : Int32) = nI 0 from rfl, e1, eX6_goHours_r0_22, if_pos (sh_ge (Nat.le_refl _) (by omega)), c_holding5 _ n h1 _ g7 v1]
  simp only [Option.bind_some, c_bc]
  obtain ⟨h2, e2, f2, t2⟩ := c_tell2 (d + 3) h1 (Int32.toInt64 (h1 5 8 &&& (r 28 ^^^ (-1)))) (Int32.toInt64 (sh_bc (sh_hd n (sh_lp (fun _ => sh_hr n (h 6) (h 7) rl) z 0 r))))
  rw [e2]
  have q5 : h2 5 = h1 5 := f2 5 (by decide)
  refine ⟨h2, ?_, sh_fr_tr (sh_fr_up f1 (by decide)) f2 (by decide), sh_SV5 f2 (by decide) v1, by rw [q5]; exact g6, by rw [q5]; exact g7, ?_⟩
  · simp only [Option.bind_some]
    rw [q5, v1.2.2.2.2.2.2.1]
  · rw [v1.2.2.2.2.1] at t2
    exact t2
theorem c_hours (p : Int32) : sh_P 58 209 [.int p] := by
  intro d N h hN hR
  obtain ⟨⟨n, r, h0⟩, hT⟩ := hR
  obtain ⟨pA, pB, pX, pU, pK, pF, pH, pS, pN⟩ := id h0
  obtain ⟨a1, a2, a3, a4, a5, a6, a7, a8⟩ := id pA
  obtain ⟨b, u, R, m1, m2, m3⟩ := id pU
  obtain ⟨m, L, l1, l2, l3⟩ := id pB
  obtain ⟨h1, e1, f1, w1, z1⟩ := c_mark (d + 97) b u R h r m1 a4
  have eM0 : ∀ H : av_M, sh_ir 0 60 p = false → av_x (d + 100) 209 [.ref 44, .int p] H = some (-1, 0, av_u H 44 0 0) := by
    intro H q
    rw [eX7_hours_r44_in, c_inI _ p 0 60 _ _ _ (by decide) (by decide), q]
    rfl
  cases hp : sh_ir 0 60 p
  · -- refused: the class's mark is all that is otherwise
    have eX : av_x (d + 100) 58 [.ref 0, .int p] h = some (-1, 0, h1) := by
      rw [eX6_hours_r0_in, e1]
      simp only [Option.bind_some]
      have : av_x (d + 99) 124 [.ref 0, .int p] h1 = some (-1, 0, h1) := by
        rw [eX6_goHours_r0_in]
        by_cases g1 : p < 0
        · rw [if_pos g1]
        · by_cases g2 : 60 < p
          · rw [if_neg g1, if_neg (by rw [Int32.not_le]; exact g2)]
          · rw [sh_ir_in g1 g2] at hp; cases hp
      rw [this]
      simp only [Option.bind_some]
      rw [eX6_settled_r0_in, if_pos (by decide)]
      rfl
    have c : ∀ b, b ≠ 28 → b ≠ 44 → (av_u h1 44 0 0) b = h b := fun b q1 q2 => by rw [av_u_ne q2, f1 b (by simp [q1])]
    have k : ∀ j, j ≠ 0 → (av_u h1 44 0 0) 44 j = h 44 j := by
      intro j j1
      rw [av_u_eq]
      unfold upd
      rw [if_neg j1, f1 44 (by decide)]
    refine ⟨-1, h1, _, eX, eM0 h1 hp, ⟨n, r, sh_R0_act h0 (fun b hb => c b (fun q => hb (by rw [q]; decide)) (fun q => hb (by rw [q]; decide))) (fun j j1 _ j2 => k j (by omega)) (by rw [c 27 (by decide) (by decide)]) (by rw [c 5 (by decide) (by decide)]; exact a2) (by rw [c 5 (by decide) (by decide)]; exact a3) (sh_SV5 (S := [28, 44]) (fun b hb => c b (fun q => hb (by simp [q])) (fun q => hb (by simp [q]))) (by decide) a4) (fun i hi => by rw [c 48 (by decide) (by decide)]; exact a6 i hi) a8 ⟨b, u, R, sh_M1_fr (S := [44]) (sh_fr_u (by decide) (sh_fr_refl _ _)) (by decide) (by decide) w1, ⟨m2.1, by rw [k 22 (by decide)]; exact m2.2.1, fun i hi o ho => by rw [c 56 (by decide) (by decide)]; exact m2.2.2 i hi o ho⟩, m3⟩⟩, sh_PT_s (by rw [c 3 (by decide) (by decide)]) (c 4 (by decide) (by decide)) (k 1 (by decide)) (c 45 (by decide) (by decide)) hT⟩
  · obtain ⟨z, _, hz, rfl⟩ := sh_ir_nat (lo := 0) (hi := 60) (by decide) (by decide) hp
    have hm40 : m ≤ 40 := l3.1
    obtain ⟨ρ, hρ⟩ : ∃ ρ, ρ = sh_lp (fun _ => sh_hr n (h1 6) (h1 7) (sh_rl m (h 20))) z 0 r := ⟨_, rfl⟩
    have hρ2 : ρ = sh_lp (fun _ => sh_hr n (h 46) (h 47) (sh_rl m (h 20))) z 0 r := by
      rw [hρ, f1 6 (by decide), f1 7 (by decide), sh_hrX a7]
    have hG : sh_G n ρ := by
      rw [hρ2]
      exact sh_G_lp a1 (fun j hj => (a7 j hj).2.2) z 0 r a8
    obtain ⟨h2, e2, f2, s2, g6, g7, t2⟩ := c_goHours (d + 93) n m z h1 r (sh_rl m (h 20)) a1 hm40 hz (by rw [f1 5 (by decide)]; exact a2) (by rw [f1 5 (by decide)]; exact a3) (sh_SV5 f1 (by decide) a4) (by rw [f1 19 (by decide)]; exact l1) (fun g q => by rw [f1 20 (by decide)]; exact sh_rl_pl l3 g q) ρ hρ
    have hw : ¬ ρ 30 < 0 := by
      rw [Int32.lt_iff_toInt_lt, show (0 : Int32).toInt = 0 by decide]
      have := hG.2.1.1
      omega
    obtain ⟨h3, e3, f3, y3, n3, p3⟩ := c_settled (d + 97) b u R h2 r (ρ 30) (sh_M1_fr f2 (by decide) (by decide) w1) (sh_RW_fr f2 (by decide) z1)
    have eX : av_x (d + 100) 58 [.ref 0, .int (nI z)] h = some (ρ 30, 0, h3) := by
      rw [eX6_hours_r0_in, e1]
      simp only [Option.bind_some]
      rw [e2]
      simp only [Option.bind_some]
      rw [e3]
      rfl
    have c3 : ∀ c, c ∉ [3, 4, 5, 8, 11, 22, 27, 28] → h3 c = h c := by
      intro c hc
      rw [f3 c (fun q => hc (by revert q; simp; intro q; simp [q])), f2 c (fun q => hc (by revert q; simp; intro q; omega)), f1 c (fun q => hc (by revert q; simp; intro q; simp [q]))]
    have m20 : sh_M2 u R (av_u h3 44 0 0) := by
      obtain ⟨x1, x2, x3⟩ := m2
      refine ⟨x1, ?_, ?_⟩
      · show h3 44 22 = _
        rw [c3 44 (by decide)]
        exact x2
      · intro i hi o ho
        show h3 56 _ = _
        rw [c3 56 (by decide)]
        exact x3 i hi o ho
    have mv0 : sh_MV 48 (av_u h3 44 0 0) r := by
      intro i hi
      show h3 48 i = _
      rw [c3 48 (by decide)]
      exact a6 i hi
    obtain ⟨h4, e4, f4, w4, z4⟩ := c_puts (d + 98) u R (av_u h3 44 0 0) r m20 mv0
    have q0 : ∀ c, c ≠ 44 → c ≠ 56 → h4 c = h3 c := fun c x1 x2 => by rw [f4 c (by simp [x2]), av_u_ne x1]
    have k4 : ∀ j, j ≠ 0 → h4 44 j = h 44 j := by
      intro j j1
      rw [f4 44 (by decide), av_u_eq]
      unfold upd
      rw [if_neg j1, c3 44 (by decide)]
    have mv4 := sh_MV_fr f4 (by decide) mv0
    obtain ⟨h5, e5, f5, v5, l5⟩ := c_goesOn48 (d + 93) n m L z (h 20) h4 r a1 (by omega) (by rw [k4 3 (by decide)]; exact a5) mv4 (sh_G_L9 a8) (by rw [q0 52 (by decide) (by decide), c3 52 (by decide)]; exact l3) (by rw [k4 18 (by decide)]; exact l2)
    rw [q0 46 (by decide) (by decide), c3 46 (by decide), q0 47 (by decide) (by decide), c3 47 (by decide), ← hρ2] at v5
    obtain ⟨h6, e6, g62, f6, t6⟩ := c_ent1 (d + 98) (av_u h5 44 1 0) (Int32.toInt64 (ρ 28 &&& (r 28 ^^^ (-1)))) rfl
    have mv6 : sh_MV 48 h6 ρ := sh_MV_fr f6 (by decide) (sh_MV_fr (S := [44]) (sh_fr_u (by decide) (sh_fr_refl _ _)) (by decide) v5)
    have k6 : h6 44 3 = nI n := by
      rw [g62.2 3 (by decide) (by decide), av_u_eq]
      show h5 44 3 = _
      rw [f5 44 (by decide), k4 3 (by decide)]
      exact a5
    obtain ⟨h7, e7, g72, f7, t7⟩ := c_enters (d + 98) h6 _ (Int32.toInt64 (sh_bc (sh_hd n ρ))) (by simp) t6
    have mv7 := sh_MV_fr f7 (by decide) mv6
    have k7 : ∀ j, 2 ≤ j → j < 44 → h7 44 j = h 44 j := by
      intro j j1 j2
      rw [g72.2 j j1 j2, g62.2 j j1 j2, av_u_eq]
      unfold upd
      rw [if_neg (by omega), f5 44 (by decide), k4 j (by omega)]
    have m27 : sh_M2 u R h7 := by
      refine ⟨m2.1, by rw [k7 22 (by decide) (by decide)]; exact m2.2.1, ?_⟩
      intro i hi o ho
      rw [f7 56 (by decide), f6 56 (by decide), av_u_ne (by decide), f5 56 (by decide)]
      exact w4.2.2 i hi o ho
    have z7 : sh_RM 56 u h7 r := by
      intro o ho
      rw [f7 56 (by decide), f6 56 (by decide), av_u_ne (by decide), f5 56 (by decide)]
      exact z4 o ho
    obtain ⟨h8, e8, f8, k8, n8, p8⟩ := c_counted (d + 98) u R h7 r (ρ 30) m27 z7
    have e8' : ((av_x (d + 99) 198 [.ref 44, .int (ρ 30)] h7).bind fun q1 => some ((q1.1 : Int32), (0 : Int64), q1.2.2)) = some (ρ 30, 0, h8) := by
      rw [← e8, eX7_counted_r44_in, if_pos (by rw [← Int32.not_lt]; exact hw)]
    have eM : av_x (d + 100) 209 [.ref 44, .int (nI z)] h3 = some (ρ 30, 0, h8) := by
      rw [eX7_hours_r44_in, c_inI _ _ 0 60 _ _ _ (by decide) (by decide), hp]
      simp only [Option.bind_some]
      rw [if_neg (by decide), e4]
      simp only [Option.bind_some]
      rw [e5]
      simp only [Option.bind_some]
      rw [v5 28 (by decide), mv4 28 (by decide), e6]
      simp only [Option.bind_some]
      rw [c_holdingM48 _ n h6 ρ k6 mv6]
      simp only [Option.bind_some, c_bc]
      rw [e7]
      simp only [Option.bind_some]
      rw [mv7 30 (by decide)]
      exact e8'
    have c8 : ∀ c, c ∉ [44, 45, 48, 54, 55, 56] → h8 c = h3 c := by
      intro c hc
      rw [f8 c (fun q => hc (by revert q; simp; intro q; omega)), f7 c (fun q => hc (by revert q; simp; intro q; omega)), f6 c (fun q => hc (by revert q; simp; intro q; omega)), av_u_ne (fun q => hc (by simp [q])), f5 c (fun q => hc (by revert q; simp; intro q; omega)), q0 c (fun q => hc (by simp [q])) (fun q => hc (by simp [q]))]
    refine ⟨ρ 30, h3, h8, eX, eM, ⟨n, ρ, sh_R0_act h0 ?_ (fun j j1 j3 j2 => ?_) ?_ ?_ ?_ ?_ ?_ hG ?_⟩, ?_⟩
    · intro c hc
      rw [c8 c (fun q => hc (by unfold sh_X1; revert q; simp; intro q; omega)), c3 c (fun q => hc (by unfold sh_X1; revert q; simp; intro q; omega))]
    · rw [k8 j j2, k7 j j1 j3]
    · rw [c8 27 (by decide), y3, f2 27 (by decide), f1 27 (by decide)]
    · rw [c8 5 (by decide), f3 5 (by decide)]; exact g6
    · rw [c8 5 (by decide), f3 5 (by decide)]; exact g7
    · have s3 := sh_SV5 f3 (by decide) s2
      unfold sh_SV at s3 ⊢
      rw [c8 5 (by decide), c8 (5 + 3) (by decide), c8 (5 + 4) (by decide), c8 (5 + 5) (by decide), c8 (5 + 6) (by decide)]
      exact s3
    · exact sh_MV_fr f8 (by decide) mv7
    · have t1 : ∀ {a' u' : Nat} {R' : Nat → Nat → Int32}, sh_M1 a' u' R' h3 → sh_M1 a' u' R' h8 := by
        intro a' u' R' q
        unfold sh_M1 sh_RW at q ⊢
        rw [c8 27 (by decide), c8 28 (by decide)]
        exact q
      exact sh_PU_of (ρ 30) a8 m3 (fun q => t1 (n3 q)) (fun q => t1 (p3 q)) n8 p8
    · refine sh_PT_of (l := [Int32.toInt64 (ρ 28 &&& (r 28 ^^^ (-1))), Int32.toInt64 (sh_bc (sh_hd n ρ))]) (by simp) ?_ ?_
      · have t3 := sh_t1_fr f3 (by decide) (by decide) t2
        unfold sh_t1 at t3 ⊢
        rw [c8 3 (by decide), c8 4 (by decide)]
        exact t3
      · unfold sh_t2 at t7 ⊢
        rw [k8 1 (by decide), f8 45 (by decide)]
        exact t7
