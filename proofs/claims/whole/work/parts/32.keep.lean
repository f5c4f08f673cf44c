/-! PURE, 22: calls: undo, keep, again -/
theorem c_undo : sh_P 65 200 [] := sh_p fun d N n r h _ h0 => by
  obtain ⟨pA, pB, pX, pU, pK, pF, pH, pS, pN⟩ := id h0
  obtain ⟨a, u, R, m1, m2, m3⟩ := id pU
  obtain ⟨a1, a2, a3, a4, a5, a6, a7, a8⟩ := id pA
  cases u with
  | zero =>
    refine sh_ref (a := -1) h0 ?_ ?_
    · rw [eX6_undo_r0_in, eX1_bringBack_r27_r5_in, m1.2.2.2.1, if_pos (show nI 0 = 0 from rfl)]
      rfl
    · rw [eX7_undo_r44_in, m2.2.1, if_pos (show nI 0 = 0 from rfl)]
  | succ u =>
    obtain ⟨h1, e1, f1, w1, s1, g1, g2, g3⟩ := c_bringBack (d + 97) a u R h m1
    have eX : av_x (d + 100) 65 [.ref 0] h = some (nI u, 0, h1) := by
      rw [eX6_undo_r0_in, e1]
      show (if (1 : Int32) = 0 then some ((-1 : Int32), (0 : Int64), h1) else some (h1 27 3, 0, h1)) = _
      rw [if_neg (by decide), w1.2.2.2.1]
    obtain ⟨hu, m22, hR⟩ := m2
    have q44 : h1 44 = h 44 := f1 44 (by decide)
    have q56 : h1 56 = h 56 := f1 56 (by decide)
    obtain ⟨h2, e2, f2, v2⟩ := c_undo_l (d + 99) u (R u) (by omega) 33 0 (av_u (av_u h1 44 0 0) 44 22 (nI u)) (by omega) rfl (fun o ho => by show h1 56 _ = _; rw [q56]; exact hR u (by omega) o ho) (fun o ho => absurd ho (by omega))
    have eM : av_x (d + 100) 200 [.ref 44] h1 = some (nI u, 0, h2) := by
      rw [eX7_undo_r44_in, q44, m22, if_neg (nI_ne0 (by omega) (by omega)), nI_pred]
      exact e2
    have c : ∀ b, b ∉ [5, 8, 9, 10, 11, 27, 44, 48] → h2 b = h b := by
      intro b hb
      rw [f2 b (fun q => hb (by revert q; simp; intro q; simp [q])), av_u_ne (fun q => hb (by simp [q])), av_u_ne (fun q => hb (by simp [q])), f1 b (fun q => hb (by revert q; simp; intro q; omega))]
    have k : ∀ j, j ≠ 0 → j ≠ 22 → h2 44 j = h 44 j := by
      intro j j1 j2
      rw [f2 44 (by decide), av_u_eq, av_u_eq]
      unfold upd
      rw [if_neg j2, if_neg j1, q44]
    have t : ∀ b, b ∉ [44, 48] → h2 b = h1 b := by
      intro b hb
      rw [f2 b (fun q => hb (by revert q; simp; intro q; simp [q])), av_u_ne (fun q => hb (by simp [q])), av_u_ne (fun q => hb (by simp [q]))]
    refine ⟨nI u, h1, h2, eX, eM, ⟨n, R u, ?_⟩, by rw [c 3 (by decide)], c 4 (by decide), k 1 (by decide) (by decide), c 45 (by decide)⟩
    refine ⟨?_, sh_PB_s (c _ (by decide)) (c _ (by decide)) (c _ (by decide)) (k _ (by decide) (by decide)) pB, sh_PX_s (c _ (by decide)) (c _ (by decide)) (k _ (by decide) (by decide)) (c _ (by decide)) pX, ?_, sh_PK_up (by omega) (sh_PK_s (by rw [t 27 (by decide), g3]) (c _ (by decide)) (k _ (by decide) (by decide)) (c _ (by decide)) (c _ (by decide)) (c _ (by decide)) pK), sh_PF_s (c _ (by decide)) (c _ (by decide)) (c _ (by decide)) (c _ (by decide)) (k _ (by decide) (by decide)) (c _ (by decide)) (c _ (by decide)) (c _ (by decide)) pF, sh_PH_s (c _ (by decide)) (c _ (by decide)) (c _ (by decide)) (k _ (by decide) (by decide)) (c _ (by decide)) (c _ (by decide)) pH, sh_PS_s (c _ (by decide)) (c _ (by decide)) (c _ (by decide)) (c _ (by decide)) (k _ (by decide) (by decide)) (c _ (by decide)) (c _ (by decide)) (c _ (by decide)) pS, sh_PN_s (by rw [c 0 (by decide)]) (c _ (by decide)) pN⟩
    · refine ⟨a1, by rw [t 5 (by decide), g1]; exact a2, by rw [t 5 (by decide), g2]; exact a3, ?_, by rw [k 3 (by decide) (by decide)]; exact a5, v2, ?_, m3 u (by omega)⟩
      · unfold sh_SV at s1 ⊢
        rw [t 5 (by decide), t (5 + 3) (by decide), t (5 + 4) (by decide), t (5 + 5) (by decide), t (5 + 6) (by decide)]
        exact s1
      · rw [c 6 (by decide), c 7 (by decide), c 46 (by decide), c 47 (by decide)]
        exact a7
    · refine ⟨(a + 15) % 16, u, R, ?_, ⟨by omega, by rw [f2 44 (by decide)]; rfl, ?_⟩, fun i hi => m3 i (by omega)⟩
      · unfold sh_M1 sh_RW at w1 ⊢
        rw [t 27 (by decide), t 28 (by decide)]
        exact w1
      · intro i hi o ho
        rw [c 56 (by decide)]
        exact hR i (by omega) o ho
theorem sh_up3 {f : Nat → Nat} {p c : Nat} (q : Nat) : (fun j => if j = p then c else f j) q = if q = p then c else f q := rfl
theorem c_keep (p : Int32) : sh_P 100 271 [.int p] := sh_p fun d N n r h hN h0 => by
  obtain ⟨pA, pB, pX, pU, pK, pF, pH, pS, pN⟩ := id h0
  obtain ⟨a1, a2, a3, a4, a5, a6, a7, a8⟩ := id pA
  have eM0 : ∀ H : av_M, sh_ir 0 2 p = false → av_x (d + 100) 271 [.ref 44, .int p] H = some (0, 0, av_u H 44 0 0) := by
    intro H q
    rw [eX7_keep_r44_in, c_inI _ p 0 2 _ _ _ (by decide) (by decide), q]
    rfl
  by_cases g1 : p < 0
  · refine sh_ref (a := 0) h0 ?_ (eM0 h (sh_ir_lt g1))
    rw [eX6_keep_r0_in, eX1_keepUnder_r27_r5_in, if_pos g1]; simp only [Option.bind_some, sh_001]
  · by_cases g2 : 2 < p
    · refine sh_ref (a := 0) h0 ?_ (eM0 h (sh_ir_gt g2))
      rw [eX6_keep_r0_in, eX1_keepUnder_r27_r5_in, if_neg g1, if_neg (by rw [Int32.not_lt]; exact (sh_lt_le (by decide)).mp g2)]; simp only [Option.bind_some, sh_001]
    · obtain ⟨j, hj, rfl⟩ := nI_of2 (M := 2) (n := 2) (by decide) g1 (by rw [← Int32.not_lt]; exact g2)
      obtain ⟨c, w, K, c1, c2, c3⟩ := id pK
      obtain ⟨h1, e1, f1, w1, o1⟩ := c_write29 (d + 97) (33 * j) h r (by omega) a4
      have eX : av_x (d + 100) 100 [.ref 0, .int (nI j)] h = some (1, 0, av_u h1 27 4 (h1 27 4 ||| ((1 : Int32) <<< (nI j &&& 31)))) := by
        rw [eX6_keep_r0_in, eX1_keepUnder_r27_r5_in, if_neg g1, if_pos (show nI j < 3 from nI_lt (b := 3) (by omega) (by decide)), show nI j * (33 : Int32) = nI (33 * j) by rw [show nI j * (33 : Int32) = nI (j * 33) from nI_mul j 33, Nat.mul_comm], e1]
        simp only [Option.bind_some, sh_111]
      have q44 : h1 44 = h 44 := f1 44 (by decide)
      have q48 : h1 48 = h 48 := f1 48 (by decide)
      obtain ⟨h2, e2, f2, v2, o2⟩ := c_keep_l (d + 99) j r (by omega) 33 0 (av_u (av_u (av_u (av_u h1 27 4 (h1 27 4 ||| ((1 : Int32) <<< (nI j &&& 31)))) 44 0 0) 73 j 1) 74 j (nI c)) (by omega) (fun o ho => by show h1 48 _ = _; rw [q48]; exact a6 o ho) (fun o ho => absurd ho (by omega))
      have eM : av_x (d + 100) 271 [.ref 44, .int (nI j)] (av_u h1 27 4 (h1 27 4 ||| ((1 : Int32) <<< (nI j &&& 31)))) = some (1, 0, h2) := by
        rw [eX7_keep_r44_in, c_inI _ _ 0 2 _ _ _ (by decide) (by decide), sh_ir_in g1 g2]
        simp only [Option.bind_some]
        rw [if_neg (by decide), sh_inb (show j < 3 by omega) (by decide)]
        simp only [cond_true]
        rw [nI_clamp (by omega), sh_111, show (av_u (av_u h1 27 4 (h1 27 4 ||| ((1 : Int32) <<< (nI j &&& 31)))) 44 0 0) 44 4 = nI c by show h1 44 4 = nI c; rw [q44]; exact c2]
        exact e2
      have x : ∀ b, b ∉ [27, 29, 44, 73, 74, 75] → h2 b = h b := by
        intro b hb
        rw [f2 b (fun q => hb (by revert q; simp; intro q; simp [q])), av_u_ne (fun q => hb (by simp [q])), av_u_ne (fun q => hb (by simp [q])), av_u_ne (fun q => hb (by simp [q])), av_u_ne (fun q => hb (by simp [q])), f1 b (fun q => hb (by revert q; simp; intro q; omega))]
      have k : ∀ i, i ≠ 0 → h2 44 i = h 44 i := by
        intro i j1
        rw [f2 44 (by decide)]
        show upd (h1 44) 0 0 i = _
        unfold upd
        rw [if_neg j1, q44]
      have k27 : h2 27 = upd (h 27) 4 (h 27 4 ||| ((1 : Int32) <<< (nI j &&& 31))) := by
        rw [f2 27 (by decide)]
        show upd (h1 27) 4 (h1 27 4 ||| _) = _
        rw [f1 27 (by decide)]
      have k73 : h2 73 = upd (h 73) j 1 := by
        rw [f2 73 (by decide)]
        show upd (h1 73) j 1 = _
        rw [f1 73 (by decide)]
      have k74 : h2 74 = upd (h 74) j (nI c) := by
        rw [f2 74 (by decide)]
        show upd (h1 74) j (nI c) = _
        rw [f1 74 (by decide)]
      have k29 : h2 29 = h1 29 := by
        rw [f2 29 (by decide)]
        rfl
      have b75 : ∀ i, (av_u (av_u (av_u (av_u h1 27 4 (h1 27 4 ||| ((1 : Int32) <<< (nI j &&& 31)))) 44 0 0) 73 j 1) 74 j (nI c)) 75 i = h 75 i := by
        intro i
        show h1 75 i = _
        rw [f1 75 (by decide)]
      refine ⟨1, _, h2, eX, eM, ⟨n, r, ?_⟩, by rw [x 3 (by decide)], x 4 (by decide), k 1 (by decide), x 45 (by decide)⟩
      refine ⟨sh_PA_s (x _ (by decide)) (x _ (by decide)) (x _ (by decide)) (x _ (by decide)) (x _ (by decide)) (x _ (by decide)) (x _ (by decide)) (x _ (by decide)) (x _ (by decide)) (x _ (by decide)) (k _ (by decide)) pA, sh_PB_s (x _ (by decide)) (x _ (by decide)) (x _ (by decide)) (k _ (by decide)) pB, sh_PX_s (x _ (by decide)) (x _ (by decide)) (k _ (by decide)) (x _ (by decide)) pX, sh_PU_s (by rw [k27]; rfl) (by rw [k27]; rfl) (x _ (by decide)) (k _ (by decide)) (x _ (by decide)) pU, ?_, sh_PF_s (x _ (by decide)) (x _ (by decide)) (x _ (by decide)) (x _ (by decide)) (k _ (by decide)) (x _ (by decide)) (x _ (by decide)) (x _ (by decide)) pF, sh_PH_s (x _ (by decide)) (x _ (by decide)) (x _ (by decide)) (k _ (by decide)) (x _ (by decide)) (x _ (by decide)) pH, sh_PS_s (x _ (by decide)) (x _ (by decide)) (x _ (by decide)) (x _ (by decide)) (k _ (by decide)) (x _ (by decide)) (x _ (by decide)) (x _ (by decide)) pS, sh_PN_s (by rw [x 0 (by decide)]) (x _ (by decide)) pN⟩
      refine ⟨c, fun i => if i = j then c else w i, fun i => if i = j then r else K i, by omega, by rw [k 4 (by decide)]; exact c2, ?_⟩
      intro i hi
      obtain ⟨d1, d2, d3, d4, d5⟩ := c3 i hi
      have hb : bt (h2 27 4) i = (bt (h 27 4) i || decide (i = j)) := by
        rw [k27, upd_s, b_or, sh_bit1 (by omega) (by omega)]
      by_cases ei : i = j
      · subst ei
        simp only [if_true]
        refine ⟨Nat.le_refl _, by rw [k74, upd_s], Or.inr (by rw [k73, upd_s]), ?_, ?_⟩
        · rw [hb, k73, upd_s]
          simp
        · intro _
          refine ⟨a8, ?_, v2⟩
          unfold sh_RW at w1 ⊢
          rw [k29]
          exact w1
      · simp only [if_neg ei]
        have u1 : ∀ (g : Nat → Int32) (v : Int32), upd g j v i = g i := fun g v => by unfold upd; rw [if_neg ei]
        have hb' : bt (h2 27 4) i = bt (h 27 4) i := by rw [hb, decide_eq_false ei, Bool.or_false]
        refine ⟨d1, by rw [k74, u1]; exact d2, by rw [k73, u1]; exact d3, by rw [hb', k73, u1]; exact d4, ?_⟩
        rw [hb']
        intro q
        obtain ⟨z1, z2, z3⟩ := d5 q
        refine ⟨z1, ?_, ?_⟩
        · intro o ho
          rw [k29, o1 _ (by omega)]
          exact z2 o ho
        · intro o ho
          rw [o2 _ (by omega), b75]
          exact z3 o ho
