/-! PURE, 20: calls: what is heard, counted; texts; undone, kept -/
theorem sh_i4 {p : Int32} (e0 : ¬ p = 0) (e1 : ¬ p = 1) (e2 : ¬ p = 2) (e3 : ¬ p = 3) (e4 : ¬ p = 4) : sh_ir 0 4 p = false := by
  by_cases g1 : p < 0
  · exact sh_ir_lt g1
  · by_cases g2 : 4 < p
    · exact sh_ir_gt g2
    · exfalso
      obtain ⟨j, hj, rfl⟩ := nI_of2 (M := 4) (n := 4) (by decide) g1 (by rw [← Int32.not_lt]; exact g2)
      have : j = 0 ∨ j = 1 ∨ j = 2 ∨ j = 3 ∨ j = 4 := by omega
      rcases this with rfl | rfl | rfl | rfl | rfl
      · exact e0 rfl
      · exact e1 rfl
      · exact e2 rfl
      · exact e3 rfl
      · exact e4 rfl
theorem sh_lt_le {a b v : Int32} (e : a.toInt + 1 = b.toInt) : a < v ↔ b ≤ v := by
  rw [Int32.lt_iff_toInt_lt, Int32.le_iff_toInt_le]
  omega
theorem c_mayBeHeard (d : Nat) (p v : Int32) (h : av_M) : av_x (d + 2) 141 [.int p, .int v] h = some (sh_i (sh_ir 0 4 p && sh_ir (sh_lo p) (sh_hi p) v), 0, h) := by
  rw [eX6_mayBeHeard_in]
  simp only [c_isBitX, c_isDigitX, Option.bind_some, sh_ia]
  by_cases e0 : p = 0
  · subst e0
    rw [if_pos rfl, show sh_lo 0 = 0 by decide, show sh_hi 0 = 3 by decide, show sh_ir 0 4 (0 : Int32) = true by decide]
    by_cases h1 : v < 0
    · rw [if_pos h1, sh_ir_lt h1]; rfl
    · rw [if_neg h1]
      by_cases h2 : 3 < v
      · rw [if_pos ((sh_lt_le (by decide)).mp h2), sh_ir_gt h2]; rfl
      · rw [if_neg (fun q => h2 ((sh_lt_le (by decide)).mpr q)), sh_ir_in h1 h2]; rfl
  · rw [if_neg e0]
    by_cases e1 : p = 1
    · subst e1
      rw [if_pos rfl, show sh_lo 1 = 1 by decide, show sh_hi 1 = 9 by decide, show sh_ir 0 4 (1 : Int32) = true by decide]
      by_cases h1 : v < 1
      · rw [if_pos h1, sh_ir_lt h1]; rfl
      · rw [if_neg h1]
        by_cases h2 : 9 < v
        · rw [if_pos h2, sh_ir_gt h2]; rfl
        · rw [if_neg h2, sh_ir_in h1 h2]; rfl
    · rw [if_neg e1]
      by_cases e2 : p = 2
      · subst e2
        rw [if_pos rfl, show sh_lo 2 = 0 by decide, show sh_hi 2 = 1 by decide, show sh_ir 0 4 (2 : Int32) = true by decide]
        rfl
      · rw [if_neg e2]
        by_cases e3 : p = 3
        · subst e3
          rw [if_pos rfl, show sh_lo 3 = 0 by decide, show sh_hi 3 = 9 by decide, show sh_ir 0 4 (3 : Int32) = true by decide]
          rfl
        · rw [if_neg e3]
          by_cases e4 : p = 4
          · subst e4
            rw [if_pos rfl, show sh_lo 4 = 0 by decide, show sh_hi 4 = 1 by decide, show sh_ir 0 4 (4 : Int32) = true by decide]
            rfl
          · rw [if_neg e4, sh_i4 e0 e1 e2 e3 e4]
            rfl
theorem c_lowest (d : Nat) (p : Int32) (h : av_M) : av_x (d + 2) 248 [.int p] h = some (sh_lo p, 0, h) := by
  rw [eX7_lowest_in, c_flag1, c_flag0]
  unfold sh_lo
  by_cases e : p = 1
  · rw [if_pos e, if_pos e]; rfl
  · rw [if_neg e, if_neg e]; rfl
theorem c_highest (d : Nat) (p : Int32) (h : av_M) : av_x (d + 1) 249 [.int p] h = some (sh_hi p, 0, h) := by
  rw [eX7_highest_in]
  unfold sh_hi
  by_cases e0 : p = 0
  · rw [if_pos e0, if_pos e0]
  · rw [if_neg e0, if_neg e0]
    by_cases e : p = 1
    · rw [if_pos e, if_pos e]
    · rw [if_neg e, if_neg e]
      by_cases e3 : p = 3
      · rw [if_pos e3, if_pos e3]
      · rw [if_neg e3, if_neg e3]
theorem c_heardM (d s : Nat) (h : av_M) (p v : Int32) (hs : h 44 33 = nI s) (hs2 : s ≤ 12) : av_x (d + 3) 250 [.ref 44, .int p, .int v] h = if (sh_ir 0 4 p && sh_ir (sh_lo p) (sh_hi p) v) = true ∧ s < 12 then some (nI (s + 1), 0, av_u (av_u (av_u (av_u h 44 0 0) 64 s p) 65 s v) 44 33 (nI (s + 1))) else some (-1, 0, av_u h 44 0 0) := by
  rw [eX7_heard_r44_in, c_inI _ p 0 4 _ _ _ (by decide) (by decide)]
  simp only [Option.bind_some]
  cases hk : sh_ir 0 4 p
  · rfl
  · rw [if_neg (by decide), c_lowest]
    simp only [Option.bind_some]
    rw [c_highest]
    simp only [Option.bind_some]
    rw [c_inI _ v (sh_lo p) (sh_hi p) _ _ _ rfl rfl]
    simp only [Option.bind_some]
    cases hv : sh_ir (sh_lo p) (sh_hi p) v
    · rw [if_pos (show sh_i false = 0 from rfl), if_neg (by simp)]
    · rw [if_neg (by decide), show (av_u h 44 0 0) 44 33 = nI s from hs]
      by_cases e : s < 12
      · rw [if_neg (show ¬ nI s = 12 from fun q => by have := (nI_eq (b := 12) (by omega) (by decide)).mp q; omega), if_pos ⟨rfl, e⟩, sh_inb e (by decide)]
        simp only [cond_true]
        rw [nI_clamp (by omega), nI_1]
      · rw [if_pos (show nI s = 12 by rw [show s = 12 by omega]; rfl), if_neg (fun q => e q.2)]
theorem c_heard (p v : Int32) : sh_P 87 250 [.int p, .int v] := sh_p fun d N n r h _ h0 => by
  obtain ⟨pA, pB, pX, pU, pK, pF, pH, pS, pN⟩ := id h0
  obtain ⟨s, p1, p2, p3, p4, p5⟩ := id pH
  have eX0 : av_x (d + 100) 87 [.ref 0, .int p, .int v] h = if (sh_ir 0 4 p && sh_ir (sh_lo p) (sh_hi p) v) = true then (av_x (d + 99) 0 [.ref 34, .int p, .int v, .int 1] h).bind (fun q => some (q.1, 0, q.2.2)) else some (-1, 0, h) := by
    rw [eX6_heard_r0_in, c_mayBeHeard]
    simp only [Option.bind_some]
    cases (sh_ir 0 4 p && sh_ir (sh_lo p) (sh_hi p) v) <;> rfl
  cases hT : (sh_ir 0 4 p && sh_ir (sh_lo p) (sh_hi p) v)
  · refine sh_ref (a := -1) h0 ?_ ?_
    · rw [eX0, hT, if_neg (by decide)]
    · rw [c_heardM _ s _ p v p4 p1, hT, if_neg (by simp)]
  · by_cases e : s < 12
    · have eM : av_x (d + 100) 250 [.ref 44, .int p, .int v] (av_u (av_u (av_u (av_u h 35 s p) 36 s v) 37 s 1) 34 4 (nI (s + 1))) = some (nI (s + 1), 0, av_u (av_u (av_u (av_u (av_u (av_u (av_u (av_u h 35 s p) 36 s v) 37 s 1) 34 4 (nI (s + 1))) 44 0 0) 64 s p) 65 s v) 44 33 (nI (s + 1))) := by
        rw [c_heardM _ s (av_u (av_u (av_u (av_u h 35 s p) 36 s v) 37 s 1) 34 4 (nI (s + 1))) p v p4 p1, hT, if_pos ⟨rfl, e⟩]
      have eX : av_x (d + 100) 87 [.ref 0, .int p, .int v] h = some (nI (s + 1), 0, av_u (av_u (av_u (av_u h 35 s p) 36 s v) 37 s 1) 34 4 (nI (s + 1))) := by
        rw [eX0, hT, if_pos rfl, eX0_add_r34_in, p2, p3, if_neg (show ¬ (12 : Int32) ≤ nI s from sh_lt (n := 12) e (by decide)), if_pos (show nI s < 12 from nI_lt (b := 12) (by omega) (by decide)), sh_inb (show s < 12 by omega) (by decide)]
        simp only [cond_true]
        rw [nI_clamp (by omega), nI_1]
        rfl
      refine ⟨nI (s + 1), _, _, eX, eM, ⟨n, r, ⟨sh_PA_s rfl rfl rfl rfl rfl rfl rfl rfl rfl rfl rfl pA, sh_PB_s rfl rfl rfl rfl pB, sh_PX_s rfl rfl rfl rfl pX, sh_PU_s rfl rfl rfl rfl rfl pU, sh_PK_up (by omega) (sh_PK_s rfl rfl rfl rfl rfl rfl pK), sh_PF_s rfl rfl rfl rfl rfl rfl rfl rfl pF, ?_, sh_PS_s rfl rfl rfl rfl rfl rfl rfl rfl pS, sh_PN_s rfl rfl pN⟩⟩, rfl, rfl, rfl, rfl⟩
      · refine ⟨s + 1, by omega, p2, rfl, rfl, ?_⟩
        intro i hi
        simp only [Bool.and_eq_true] at hT
        by_cases ei : i = s
        · subst ei
          have e1 : upd (h 64) i p i = p := upd_s
          have e2 : upd (h 65) i v i = v := upd_s
          show upd (h 35) i p i = upd (h 64) i p i ∧ upd (h 36) i v i = upd (h 65) i v i ∧ sh_ir 0 4 (upd (h 64) i p i) = true ∧ sh_ir (sh_lo (upd (h 64) i p i)) (sh_hi (upd (h 64) i p i)) (upd (h 65) i v i) = true
          rw [e1, e2]
          exact ⟨upd_s, upd_s, hT⟩
        · have q := p5 i (by omega)
          have u : ∀ (g : Nat → Int32) (x : Int32), upd g s x i = g i := fun g x => by unfold upd; rw [if_neg ei]
          show upd (h 35) s p i = upd (h 64) s p i ∧ upd (h 36) s v i = upd (h 65) s v i ∧ sh_ir 0 4 (upd (h 64) s p i) = true ∧ sh_ir (sh_lo (upd (h 64) s p i)) (sh_hi (upd (h 64) s p i)) (upd (h 65) s v i) = true
          simp only [u]
          exact q
    · refine sh_ref (a := -1) h0 ?_ ?_
      · rw [eX0, hT, if_pos rfl, eX0_add_r34_in, p2, p3, if_pos (show (12 : Int32) ≤ nI s from sh_ge (n := 12) (by omega) (by omega))]
        rfl
      · rw [c_heardM _ s _ p v p4 p1, hT, if_neg (fun q => e q.2)]
/-! counts -/
theorem c_reels5_l (d n : Nat) (h : av_M) (r : Nat → Int32) (hn : n ≤ 7) (hm : h 5 6 = nI n) (hv : sh_SV 5 h r) : ∀ t k a, k + t = n → av_xp d 40 4 [.ref 5, .int a, .int (nI k)] [] h = some (sh_lp (fun k a => a + r k) t k a, 0, h) := by
  intro t
  induction t with
  | zero =>
    intro k a e
    rw [eX4_reelsTogether_r5_4, hm, if_pos (sh_ge (by omega) (by omega))]
    rfl
  | succ t ih =>
    intro k a e
    rw [eX4_reelsTogether_r5_4, hm, if_neg (sh_lt (by omega) (by omega)), sh_inb (show k < 7 by omega) (by decide), cond_true, nI_1, nI_clamp (show k < 2 ^ 31 by omega), ih (k + 1) _ (by omega), hv.1 k (by omega)]
    rfl
theorem c_reels5 (d n : Nat) (h : av_M) (r : Nat → Int32) (hn : n ≤ 7) (hm : h 5 6 = nI n) (hv : sh_SV 5 h r) : av_x (d + 1) 40 [.ref 5] h = some (sh_lp (fun k a => a + r k) n 0 0, 0, h) := by
  rw [eX4_reelsTogether_r5_in]
  exact c_reels5_l d n h r hn hm hv n 0 0 (by omega)
theorem c_reels12_l (d n : Nat) (h : av_M) (r : Nat → Int32) (hn : n ≤ 7) (hm : h 12 6 = nI n) (hv : sh_SV 12 h r) : ∀ t k a, k + t = n → av_xp d 40 4 [.ref 12, .int a, .int (nI k)] [] h = some (sh_lp (fun k a => a + r k) t k a, 0, h) := by
  intro t
  induction t with
  | zero =>
    intro k a e
    rw [eX4_reelsTogether_r12_4, hm, if_pos (sh_ge (by omega) (by omega))]
    rfl
  | succ t ih =>
    intro k a e
    rw [eX4_reelsTogether_r12_4, hm, if_neg (sh_lt (by omega) (by omega)), sh_inb (show k < 7 by omega) (by decide), cond_true, nI_1, nI_clamp (show k < 2 ^ 31 by omega), ih (k + 1) _ (by omega), hv.1 k (by omega)]
    rfl
theorem c_reels12 (d n : Nat) (h : av_M) (r : Nat → Int32) (hn : n ≤ 7) (hm : h 12 6 = nI n) (hv : sh_SV 12 h r) : av_x (d + 1) 40 [.ref 12] h = some (sh_lp (fun k a => a + r k) n 0 0, 0, h) := by
  rw [eX4_reelsTogether_r12_in]
  exact c_reels12_l d n h r hn hm hv n 0 0 (by omega)
theorem sh_qn {N n kx km d : Nat} {r : Nat → Int32} {as : List Value} {h : av_M} {a : Int32} (eX : av_x (d + 100) kx (.ref 0 :: as) h = some (a, 0, h)) (eM : ∀ h', sh_c h h' → av_x (d + 100) km (.ref 44 :: as) h' = some (a, 0, av_u h' 44 0 0)) : ∃ a o, (∀ l, o = some l → l.length ≤ 7) ∧ sh_QX (d + 100) kx (.ref 0 :: as) h a o ∧ ∀ h', sh_c h h' → sh_R0 N n r h' → sh_QM (d + 100) km (.ref 44 :: as) h' a o :=
  ⟨a, none, (fun _ q => nomatch q), sh_QX_n eX, fun h' hc _ => sh_QM_n (eM h' hc)⟩
theorem sh_MV_c {h h' : av_M} {r : Nat → Int32} (hc : sh_c h h') (hv : sh_MV 48 h r) : sh_MV 48 h' r := fun i hi => by rw [hc 48 (by decide)]; exact hv i hi
theorem c_count (p : Int32) : sh_P 102 273 [.int p] := sh_qq fun d N n r h h0 hT => by
  obtain ⟨pA, pB, pX, pU, pK, pF, pH, pS, pN⟩ := id h0
  obtain ⟨a1, a2, a3, a4, a5, a6, a7, a8⟩ := pA
  obtain ⟨v1, v2, v3, v4, v5, v6, v7, v8, v9⟩ := id a4
  have c44 : ∀ h', sh_c h h' → h' 44 = h 44 := fun h' hc => hc 44 (by decide)
  have c48 : ∀ h', sh_c h h' → h' 48 = h 48 := fun h' hc => hc 48 (by decide)
  by_cases e0 : p = 0
  · exact sh_qn (a := nI n) (by rw [eX6_count_r0_in, if_pos e0, a2]) (fun h' hc => by rw [eX7_count_r44_in, if_pos e0, c44 h' hc, a5])
  by_cases e1 : p = 1
  · exact sh_qn (a := sh_hd n r) (by rw [eX6_count_r0_in, if_neg e0, if_pos e1, c_holding5 _ n h r a3 a4]; rfl) (fun h' hc => by rw [eX7_count_r44_in, if_neg e0, if_pos e1, c_holdingM48 _ n _ r (show (av_u h' 44 0 0) 44 3 = nI n by show h' 44 3 = nI n; rw [c44 h' hc, a5]) (sh_MV_fr (S := [44]) (sh_fr_u (by decide) (sh_fr_refl _ _)) (by decide) (sh_MV_c hc a6))]; rfl)
  by_cases e2 : p = 2
  · exact sh_qn (a := r 30) (by rw [eX6_count_r0_in, if_neg e0, if_neg e1, if_pos e2, v7]) (fun h' hc => by rw [eX7_count_r44_in, if_neg e0, if_neg e1, if_pos e2, c48 h' hc, a6 30 (by decide)])
  by_cases e3 : p = 3
  · exact sh_qn (a := r 31) (by rw [eX6_count_r0_in, if_neg e0, if_neg e1, if_neg e2, if_pos e3, v8]) (fun h' hc => by rw [eX7_count_r44_in, if_neg e0, if_neg e1, if_neg e2, if_pos e3, c48 h' hc, a6 31 (by decide)])
  by_cases e4 : p = 4
  · exact sh_qn (a := r 32) (by rw [eX6_count_r0_in, if_neg e0, if_neg e1, if_neg e2, if_neg e3, if_pos e4, v9]) (fun h' hc => by rw [eX7_count_r44_in, if_neg e0, if_neg e1, if_neg e2, if_neg e3, if_pos e4, c48 h' hc, a6 32 (by decide)])
  by_cases e5 : p = 5
  · exact sh_qn (a := r 28) (by rw [eX6_count_r0_in, if_neg e0, if_neg e1, if_neg e2, if_neg e3, if_neg e4, if_pos e5, v5]) (fun h' hc => by rw [eX7_count_r44_in, if_neg e0, if_neg e1, if_neg e2, if_neg e3, if_neg e4, if_pos e5, c48 h' hc, a6 28 (by decide)])
  by_cases e6 : p = 6
  · exact sh_qn (a := sh_lp (fun k a => a + r k) n 0 0) (by rw [eX6_count_r0_in, if_neg e0, if_neg e1, if_neg e2, if_neg e3, if_neg e4, if_neg e5, if_pos e6, c_reels5 _ n h r a1 a2 a4]; rfl) (fun h' hc => by rw [eX7_count_r44_in, if_neg e0, if_neg e1, if_neg e2, if_neg e3, if_neg e4, if_neg e5, if_pos e6, c_reelsOf48 _ n _ r a1 (show (av_u h' 44 0 0) 44 3 = nI n by show h' 44 3 = nI n; rw [c44 h' hc, a5]) (sh_MV_fr (S := [44]) (sh_fr_u (by decide) (sh_fr_refl _ _)) (by decide) (sh_MV_c hc a6))]; rfl)
  by_cases e7 : p = 7
  · obtain ⟨s, p1, p2, p3, p4, p5⟩ := pF
    exact sh_qn (a := nI s) (by rw [eX6_count_r0_in, if_neg e0, if_neg e1, if_neg e2, if_neg e3, if_neg e4, if_neg e5, if_neg e6, if_pos e7, p3]) (fun h' hc => by rw [eX7_count_r44_in, if_neg e0, if_neg e1, if_neg e2, if_neg e3, if_neg e4, if_neg e5, if_neg e6, if_pos e7, c44 h' hc, p4])
  by_cases e8 : p = 8
  · obtain ⟨s, p1, p2, p3, p4, p5⟩ := pS
    exact sh_qn (a := nI s) (by rw [eX6_count_r0_in, if_neg e0, if_neg e1, if_neg e2, if_neg e3, if_neg e4, if_neg e5, if_neg e6, if_neg e7, if_pos e8, p3]) (fun h' hc => by rw [eX7_count_r44_in, if_neg e0, if_neg e1, if_neg e2, if_neg e3, if_neg e4, if_neg e5, if_neg e6, if_neg e7, if_pos e8, c44 h' hc, p4])
  by_cases e9 : p = 9
  · obtain ⟨s, p1, p2, p3, p4, p5⟩ := pH
    exact sh_qn (a := nI s) (by rw [eX6_count_r0_in, if_neg e0, if_neg e1, if_neg e2, if_neg e3, if_neg e4, if_neg e5, if_neg e6, if_neg e7, if_neg e8, if_pos e9, p3]) (fun h' hc => by rw [eX7_count_r44_in, if_neg e0, if_neg e1, if_neg e2, if_neg e3, if_neg e4, if_neg e5, if_neg e6, if_neg e7, if_neg e8, if_pos e9, c44 h' hc, p4])
  by_cases e10 : p = 10
  · obtain ⟨a, u, R, m1, m2, m3⟩ := pU
    exact sh_qn (a := nI u) (by rw [eX6_count_r0_in, if_neg e0, if_neg e1, if_neg e2, if_neg e3, if_neg e4, if_neg e5, if_neg e6, if_neg e7, if_neg e8, if_neg e9, if_pos e10, m1.2.2.2.1]) (fun h' hc => by rw [eX7_count_r44_in, if_neg e0, if_neg e1, if_neg e2, if_neg e3, if_neg e4, if_neg e5, if_neg e6, if_neg e7, if_neg e8, if_neg e9, if_pos e10, c44 h' hc, m2.2.1])
  by_cases e11 : p = 11
  · obtain ⟨t, t1, t2, t3, t4⟩ := hT
    exact sh_qn (a := nI t) (by rw [eX6_count_r0_in, if_neg e0, if_neg e1, if_neg e2, if_neg e3, if_neg e4, if_neg e5, if_neg e6, if_neg e7, if_neg e8, if_neg e9, if_neg e10, if_pos e11, t2]) (fun h' hc => by rw [eX7_count_r44_in, if_neg e0, if_neg e1, if_neg e2, if_neg e3, if_neg e4, if_neg e5, if_neg e6, if_neg e7, if_neg e8, if_neg e9, if_neg e10, if_pos e11, c44 h' hc, t3])
  by_cases e12 : p = 12
  · obtain ⟨x, x1, x2, x3, x4⟩ := pX
    exact sh_qn (a := nI x) (by rw [eX6_count_r0_in, if_neg e0, if_neg e1, if_neg e2, if_neg e3, if_neg e4, if_neg e5, if_neg e6, if_neg e7, if_neg e8, if_neg e9, if_neg e10, if_neg e11, if_pos e12, x2]) (fun h' hc => by rw [eX7_count_r44_in, if_neg e0, if_neg e1, if_neg e2, if_neg e3, if_neg e4, if_neg e5, if_neg e6, if_neg e7, if_neg e8, if_neg e9, if_neg e10, if_neg e11, if_pos e12, c44 h' hc, x3])
  · exact sh_qn (a := -100) (by rw [eX6_count_r0_in, if_neg e0, if_neg e1, if_neg e2, if_neg e3, if_neg e4, if_neg e5, if_neg e6, if_neg e7, if_neg e8, if_neg e9, if_neg e10, if_neg e11, if_neg e12]) (fun h' hc => by rw [eX7_count_r44_in, if_neg e0, if_neg e1, if_neg e2, if_neg e3, if_neg e4, if_neg e5, if_neg e6, if_neg e7, if_neg e8, if_neg e9, if_neg e10, if_neg e11, if_neg e12])
