/-! PURE, 19: calls: facts told and forgotten -/
theorem upd_s {f : Nat → Int32} {k : Nat} {v : Int32} : upd f k v k = v := by unfold upd; rw [if_pos rfl]
theorem c_forget : sh_P 84 243 [] := sh_p fun d N n r h _ h0 => by
  obtain ⟨pA, pB, pX, pU, pK, pF, pH, pS, pN⟩ := id h0
  obtain ⟨s, p1, p2, p3, p4, p5⟩ := id pF
  refine ⟨nI s, av_u h 30 4 0, av_u (av_u (av_u h 30 4 0) 44 0 0) 44 28 0, ?_, ?_, ⟨n, r, ⟨sh_PA_s rfl rfl rfl rfl rfl rfl rfl rfl rfl rfl rfl pA, sh_PB_s rfl rfl rfl rfl pB, sh_PX_s rfl rfl rfl rfl pX, sh_PU_s rfl rfl rfl rfl rfl pU, sh_PK_up (by omega) (sh_PK_s rfl rfl rfl rfl rfl rfl pK), ?_, sh_PH_s rfl rfl rfl rfl rfl rfl pH, sh_PS_s rfl rfl rfl rfl rfl rfl rfl rfl pS, sh_PN_s rfl rfl pN⟩⟩, rfl, rfl, rfl, rfl⟩
  · rw [eX6_forget_r0_in, eX0_drop_r30_in, p3]
    rfl
  · rw [eX7_forget_r44_in, show (av_u h 30 4 0) 44 28 = nI s from p4]
  · exact ⟨0, by omega, p2, rfl, rfl, fun i hi => absurd hi (by omega)⟩
theorem c_denies : sh_P 88 251 [] := sh_p fun d N n r h _ h0 => by
  obtain ⟨pA, pB, pX, pU, pK, pF, pH, pS, pN⟩ := id h0
  obtain ⟨s, p1, p2, p3, p4, p5⟩ := id pH
  refine ⟨nI s, av_u h 34 4 0, av_u (av_u (av_u h 34 4 0) 44 0 0) 44 33 0, ?_, ?_, ⟨n, r, ⟨sh_PA_s rfl rfl rfl rfl rfl rfl rfl rfl rfl rfl rfl pA, sh_PB_s rfl rfl rfl rfl pB, sh_PX_s rfl rfl rfl rfl pX, sh_PU_s rfl rfl rfl rfl rfl pU, sh_PK_up (by omega) (sh_PK_s rfl rfl rfl rfl rfl rfl pK), sh_PF_s rfl rfl rfl rfl rfl rfl rfl rfl pF, ?_, sh_PS_s rfl rfl rfl rfl rfl rfl rfl rfl pS, sh_PN_s rfl rfl pN⟩⟩, rfl, rfl, rfl, rfl⟩
  · rw [eX6_denies_r0_in, eX0_drop_r34_in, p3]
    rfl
  · rw [eX7_denies_r44_in, show (av_u h 34 4 0) 44 33 = nI s from p4]
  · exact ⟨0, by omega, p2, rfl, rfl, fun i hi => absurd hi (by omega)⟩
theorem c_clears : sh_P 93 258 [] := sh_p fun d N n r h _ h0 => by
  obtain ⟨pA, pB, pX, pU, pK, pF, pH, pS, pN⟩ := id h0
  obtain ⟨s, p1, p2, p3, p4, p5⟩ := id pS
  refine ⟨nI s, av_u h 38 4 0, av_u (av_u (av_u h 38 4 0) 44 0 0) 44 36 0, ?_, ?_, ⟨n, r, ⟨sh_PA_s rfl rfl rfl rfl rfl rfl rfl rfl rfl rfl rfl pA, sh_PB_s rfl rfl rfl rfl pB, sh_PX_s rfl rfl rfl rfl pX, sh_PU_s rfl rfl rfl rfl rfl pU, sh_PK_up (by omega) (sh_PK_s rfl rfl rfl rfl rfl rfl pK), sh_PF_s rfl rfl rfl rfl rfl rfl rfl rfl pF, sh_PH_s rfl rfl rfl rfl rfl rfl pH, ?_, sh_PN_s rfl rfl pN⟩⟩, rfl, rfl, rfl, rfl⟩
  · rw [eX6_clears_r0_in, eX0_drop_r38_in, p3]
    rfl
  · rw [eX7_clears_r44_in, show (av_u h 38 4 0) 44 36 = nI s from p4]
  · exact ⟨0, by omega, p2, rfl, rfl, fun i hi => absurd hi (by omega)⟩
/-- seen: the class -/
theorem c_seenX (d n : Nat) (h : av_M) (p v w : Int32) (hm : h 5 6 = nI n) : av_x (d + 2) 83 [.ref 0, .int p, .int v, .int w] h = if (sh_kn n p && sh_ir 0 1 w && sh_ir (-99) 99 v) = true then (av_x (d + 1) 0 [.ref 30, .int p, .int v, .int w] h).bind (fun q => some (q.1, 0, q.2.2)) else some (-1, 0, h) := by
  rw [eX6_seen_r0_in, c_knowsp _ n h p hm]
  cases hk : sh_kn n p
  · rfl
  · simp only [Option.bind_some, c_isBitX]
    cases hw : sh_ir 0 1 w
    · rfl
    · by_cases h1 : v < -99
      · rw [sh_ir_lt h1, if_neg (by decide), if_neg (by decide), if_pos h1]; rfl
      · by_cases h2 : 99 < v
        · rw [sh_ir_gt h2, if_neg (by decide), if_neg (by decide), if_neg h1, if_neg (by rw [Int32.not_le]; exact h2)]; rfl
        · rw [sh_ir_in h1 h2, if_neg (by decide), if_neg (by decide), if_neg h1, if_pos (by rw [← Int32.not_lt]; exact h2)]; rfl
theorem c_seenM (d n s : Nat) (h : av_M) (p v w : Int32) (hn : n ≤ 7) (hm : h 44 3 = nI n) (hs : h 44 28 = nI s) (hs2 : s ≤ 10) : av_x (d + 3) 242 [.ref 44, .int p, .int v, .int w] h = if (sh_kn n p && sh_ir 0 1 w && sh_ir (-99) 99 v) = true ∧ s < 10 then some (nI (s + 1), 0, av_u (av_u (av_u (av_u (av_u h 44 0 0) 60 s p) 61 s v) 62 s w) 44 28 (nI (s + 1))) else some (-1, 0, av_u h 44 0 0) := by
  rw [eX7_seen_r44_in, c_isOne _ n (av_u h 44 0 0) p hn hm]
  cases hk : sh_kn n p
  · rfl
  · simp only [Option.bind_some]
    rw [c_inI _ v (-99) 99 _ _ _ (by decide) (by decide)]
    simp only [Option.bind_some]
    rw [if_neg (by decide)]
    cases hv : sh_ir (-99) 99 v
    · rw [if_pos (show sh_i false = 0 from rfl), if_neg (by simp)]
    · rw [if_neg (by decide), c_inI _ w 0 1 _ _ _ (by decide) (by decide)]
      simp only [Option.bind_some]
      cases hw : sh_ir 0 1 w
      · rw [if_pos (show sh_i false = 0 from rfl), if_neg (by simp)]
      · rw [if_neg (by decide), show (av_u h 44 0 0) 44 28 = nI s from hs]
        by_cases e : s < 10
        · rw [if_neg (show ¬ nI s = 10 from fun q => by have := (nI_eq (b := 10) (by omega) (by decide)).mp q; omega), if_pos ⟨rfl, e⟩, sh_inb e (by decide)]
          simp only [cond_true]
          rw [nI_clamp (by omega), nI_1]
        · rw [if_pos (show nI s = 10 by rw [show s = 10 by omega]; rfl), if_neg (fun q => e q.2)]
theorem c_seen (p v w : Int32) : sh_P 83 242 [.int p, .int v, .int w] := sh_p fun d N n r h _ h0 => by
  obtain ⟨pA, pB, pX, pU, pK, pF, pH, pS, pN⟩ := id h0
  obtain ⟨s, p1, p2, p3, p4, p5⟩ := id pF
  cases hT : (sh_kn n p && sh_ir 0 1 w && sh_ir (-99) 99 v)
  · refine sh_ref (a := -1) h0 ?_ ?_
    · rw [c_seenX _ n h p v w pA.2.1, hT, if_neg (by decide)]
    · rw [c_seenM _ n s _ p v w pA.1 pA.2.2.2.2.1 p4 p1, hT, if_neg (by simp)]
  · by_cases e : s < 10
    · have eM : av_x (d + 100) 242 [.ref 44, .int p, .int v, .int w] (av_u (av_u (av_u (av_u h 31 s p) 32 s v) 33 s w) 30 4 (nI (s + 1))) = some (nI (s + 1), 0, av_u (av_u (av_u (av_u (av_u (av_u (av_u (av_u (av_u h 31 s p) 32 s v) 33 s w) 30 4 (nI (s + 1))) 44 0 0) 60 s p) 61 s v) 62 s w) 44 28 (nI (s + 1))) := by
        rw [c_seenM _ n s (av_u (av_u (av_u (av_u h 31 s p) 32 s v) 33 s w) 30 4 (nI (s + 1))) p v w pA.1 pA.2.2.2.2.1 p4 p1, hT, if_pos ⟨rfl, e⟩]
      have eX : av_x (d + 100) 83 [.ref 0, .int p, .int v, .int w] h = some (nI (s + 1), 0, av_u (av_u (av_u (av_u h 31 s p) 32 s v) 33 s w) 30 4 (nI (s + 1))) := by
        rw [c_seenX _ n h p v w pA.2.1, hT, if_pos rfl, eX0_add_r30_in, p2, p3, if_neg (show ¬ (10 : Int32) ≤ nI s from sh_lt (n := 10) e (by decide)), if_pos (show nI s < 12 from nI_lt (b := 12) (by omega) (by decide)), sh_inb (show s < 12 by omega) (by decide)]
        simp only [cond_true]
        rw [nI_clamp (by omega), nI_1]
        rfl
      refine ⟨nI (s + 1), _, _, eX, eM, ⟨n, r, ⟨sh_PA_s rfl rfl rfl rfl rfl rfl rfl rfl rfl rfl rfl pA, sh_PB_s rfl rfl rfl rfl pB, sh_PX_s rfl rfl rfl rfl pX, sh_PU_s rfl rfl rfl rfl rfl pU, sh_PK_up (by omega) (sh_PK_s rfl rfl rfl rfl rfl rfl pK), ?_, sh_PH_s rfl rfl rfl rfl rfl rfl pH, sh_PS_s rfl rfl rfl rfl rfl rfl rfl rfl pS, sh_PN_s rfl rfl pN⟩⟩, rfl, rfl, rfl, rfl⟩
      · refine ⟨s + 1, by omega, p2, rfl, rfl, ?_⟩
        intro i hi
        by_cases ei : i = s
        · subst ei
          refine ⟨upd_s.trans upd_s.symm, upd_s.trans upd_s.symm, upd_s.trans upd_s.symm, ?_⟩
          have e1 : upd (h 60) i p i = p := upd_s
          have e2 : upd (h 61) i v i = v := upd_s
          have e3 : upd (h 62) i w i = w := upd_s
          simp only [Bool.and_eq_true] at hT
          refine ⟨?_, ?_, ?_⟩
          · exact (congrArg _ e1).trans hT.1.1
          · exact (congrArg _ e2).trans hT.2
          · exact (congrArg _ e3).trans hT.1.2
        · have q := p5 i (by omega)
          have u : ∀ (g : Nat → Int32) (x : Int32), upd g s x i = g i := fun g x => by unfold upd; rw [if_neg ei]
          show upd (h 31) s p i = upd (h 60) s p i ∧ upd (h 32) s v i = upd (h 61) s v i ∧ upd (h 33) s w i = upd (h 62) s w i ∧ sh_kn n (upd (h 60) s p i) = true ∧ sh_ir (-99) 99 (upd (h 61) s v i) = true ∧ sh_ir 0 1 (upd (h 62) s w i) = true
          simp only [u]
          exact q
    · refine sh_ref (a := -1) h0 ?_ ?_
      · rw [c_seenX _ n h p v w pA.2.1, hT, if_pos rfl, eX0_add_r30_in, p2, p3, if_pos (show (10 : Int32) ≤ nI s from sh_ge (n := 10) (by omega) (by omega))]
        rfl
      · rw [c_seenM _ n s _ p v w pA.1 pA.2.2.2.2.1 p4 p1, hT, if_neg (fun q => e q.2)]
/-- saw: the class -/
theorem c_sawX (d n : Nat) (h : av_M) (p v w : Int32) : av_x (d + 2) 92 [.ref 0, .int p, .int v, .int w] h = if (sh_ir 0 20 p && sh_ir 1 9 v && sh_ir 0 1 w) = true then (av_x (d + 1) 0 [.ref 38, .int p, .int v, .int w] h).bind (fun q => some (q.1, 0, q.2.2)) else some (-1, 0, h) := by
  rw [eX6_saw_r0_in]
  by_cases a1 : p < 0
  · rw [sh_ir_lt a1, if_pos a1]; rfl
  · by_cases a2 : 20 < p
    · rw [sh_ir_gt a2, if_neg a1, if_pos a2]; rfl
    · rw [sh_ir_in a1 a2, if_neg a1, if_neg a2]
      by_cases b1 : v < 1
      · rw [sh_ir_lt b1, if_pos b1]; rfl
      · by_cases b2 : 9 < v
        · rw [sh_ir_gt b2, if_neg b1, if_pos b2]; rfl
        · rw [sh_ir_in b1 b2, if_neg b1, if_neg b2]
          simp only [Option.bind_some, c_isBitX]
          cases hw : sh_ir 0 1 w <;> rfl
theorem c_sawM (d s : Nat) (h : av_M) (p v w : Int32) (hs : h 44 36 = nI s) (hs2 : s ≤ 10) : av_x (d + 3) 257 [.ref 44, .int p, .int v, .int w] h = if (sh_ir 0 20 p && sh_ir 1 9 v && sh_ir 0 1 w) = true ∧ s < 10 then some (nI (s + 1), 0, av_u (av_u (av_u (av_u (av_u h 44 0 0) 66 s p) 67 s v) 68 s w) 44 36 (nI (s + 1))) else some (-1, 0, av_u h 44 0 0) := by
  rw [eX7_saw_r44_in, c_inI _ p 0 20 _ _ _ (by decide) (by decide)]
  simp only [Option.bind_some]
  cases hk : sh_ir 0 20 p
  · rfl
  · rw [if_neg (by decide), c_inI _ v 1 9 _ _ _ (by decide) (by decide)]
    simp only [Option.bind_some]
    cases hv : sh_ir 1 9 v
    · rw [if_pos (show sh_i false = 0 from rfl), if_neg (by simp)]
    · rw [if_neg (by decide), c_inI _ w 0 1 _ _ _ (by decide) (by decide)]
      simp only [Option.bind_some]
      cases hw : sh_ir 0 1 w
      · rw [if_pos (show sh_i false = 0 from rfl), if_neg (by simp)]
      · rw [if_neg (by decide), show (av_u h 44 0 0) 44 36 = nI s from hs]
        by_cases e : s < 10
        · rw [if_neg (show ¬ nI s = 10 from fun q => by have := (nI_eq (b := 10) (by omega) (by decide)).mp q; omega), if_pos ⟨rfl, e⟩, sh_inb e (by decide)]
          simp only [cond_true]
          rw [nI_clamp (by omega), nI_1]
        · rw [if_pos (show nI s = 10 by rw [show s = 10 by omega]; rfl), if_neg (fun q => e q.2)]
theorem c_saw (p v w : Int32) : sh_P 92 257 [.int p, .int v, .int w] := sh_p fun d N n r h _ h0 => by
  obtain ⟨pA, pB, pX, pU, pK, pF, pH, pS, pN⟩ := id h0
  obtain ⟨s, p1, p2, p3, p4, p5⟩ := id pS
  cases hT : (sh_ir 0 20 p && sh_ir 1 9 v && sh_ir 0 1 w)
  · refine sh_ref (a := -1) h0 ?_ ?_
    · rw [c_sawX _ n h p v w, hT, if_neg (by decide)]
    · rw [c_sawM _ s _ p v w p4 p1, hT, if_neg (by simp)]
  · by_cases e : s < 10
    · have eM : av_x (d + 100) 257 [.ref 44, .int p, .int v, .int w] (av_u (av_u (av_u (av_u h 39 s p) 40 s v) 41 s w) 38 4 (nI (s + 1))) = some (nI (s + 1), 0, av_u (av_u (av_u (av_u (av_u (av_u (av_u (av_u (av_u h 39 s p) 40 s v) 41 s w) 38 4 (nI (s + 1))) 44 0 0) 66 s p) 67 s v) 68 s w) 44 36 (nI (s + 1))) := by
        rw [c_sawM _ s (av_u (av_u (av_u (av_u h 39 s p) 40 s v) 41 s w) 38 4 (nI (s + 1))) p v w p4 p1, hT, if_pos ⟨rfl, e⟩]
      have eX : av_x (d + 100) 92 [.ref 0, .int p, .int v, .int w] h = some (nI (s + 1), 0, av_u (av_u (av_u (av_u h 39 s p) 40 s v) 41 s w) 38 4 (nI (s + 1))) := by
        rw [c_sawX _ n h p v w, hT, if_pos rfl, eX0_add_r38_in, p2, p3, if_neg (show ¬ (10 : Int32) ≤ nI s from sh_lt (n := 10) e (by decide)), if_pos (show nI s < 12 from nI_lt (b := 12) (by omega) (by decide)), sh_inb (show s < 12 by omega) (by decide)]
        simp only [cond_true]
        rw [nI_clamp (by omega), nI_1]
        rfl
      refine ⟨nI (s + 1), _, _, eX, eM, ⟨n, r, ⟨sh_PA_s rfl rfl rfl rfl rfl rfl rfl rfl rfl rfl rfl pA, sh_PB_s rfl rfl rfl rfl pB, sh_PX_s rfl rfl rfl rfl pX, sh_PU_s rfl rfl rfl rfl rfl pU, sh_PK_up (by omega) (sh_PK_s rfl rfl rfl rfl rfl rfl pK), sh_PF_s rfl rfl rfl rfl rfl rfl rfl rfl pF, sh_PH_s rfl rfl rfl rfl rfl rfl pH, ?_, sh_PN_s rfl rfl pN⟩⟩, rfl, rfl, rfl, rfl⟩
      · refine ⟨s + 1, by omega, p2, rfl, rfl, ?_⟩
        intro i hi
        by_cases ei : i = s
        · subst ei
          refine ⟨upd_s.trans upd_s.symm, upd_s.trans upd_s.symm, upd_s.trans upd_s.symm, ?_⟩
          have e1 : upd (h 66) i p i = p := upd_s
          have e2 : upd (h 67) i v i = v := upd_s
          have e3 : upd (h 68) i w i = w := upd_s
          simp only [Bool.and_eq_true] at hT
          refine ⟨?_, ?_, ?_⟩
          · exact (congrArg _ e1).trans hT.1.1
          · exact (congrArg _ e2).trans hT.1.2
          · exact (congrArg _ e3).trans hT.2
        · have q := p5 i (by omega)
          have u : ∀ (g : Nat → Int32) (x : Int32), upd g s x i = g i := fun g x => by unfold upd; rw [if_neg ei]
          show upd (h 39) s p i = upd (h 66) s p i ∧ upd (h 40) s v i = upd (h 67) s v i ∧ upd (h 41) s w i = upd (h 68) s w i ∧ sh_ir 0 20 (upd (h 66) s p i) = true ∧ sh_ir 1 9 (upd (h 67) s v i) = true ∧ sh_ir 0 1 (upd (h 68) s w i) = true
          simp only [u]
          exact q
    · refine sh_ref (a := -1) h0 ?_ ?_
      · rw [c_sawX _ n h p v w, hT, if_pos rfl, eX0_add_r38_in, p2, p3, if_pos (show (10 : Int32) ≤ nI s from sh_ge (n := 10) (by omega) (by omega))]
        rfl
      · rw [c_sawM _ s _ p v w p4 p1, hT, if_neg (fun q => e q.2)]
