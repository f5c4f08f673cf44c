/-! PURE, 21: calls: sign, end -/
theorem sh_B255 (y : Int32) : sh_B 0 255 (y &&& 255) := by
  have e : y &&& 255 = nI (y.toBitVec.toNat &&& 255) := by
    apply Int32.toBitVec_inj.mp
    rw [Int32.toBitVec_and]
    apply BitVec.eq_of_toNat_eq
    rw [BitVec.toNat_and]
    show y.toBitVec.toNat &&& 255 = (BitVec.ofNat 32 (y.toBitVec.toNat &&& 255)).toNat
    rw [BitVec.toNat_ofNat, Nat.mod_eq_of_lt]
    exact Nat.lt_of_le_of_lt Nat.and_le_right (by decide)
  rw [e]
  exact sh_B_nI (N := 255) Nat.and_le_right (by decide)
theorem sh_001 : (0 : Int32) &&& 1 = 0 := by decide
theorem sh_111 : (1 : Int32) &&& 1 = 1 := by decide
def sh_by (x : Int32) (s : Nat) : Int32 := (x >>> (nI s &&& 31)) &&& 255
theorem sh_byte (x : Int32) {s : Nat} (hs : s ≤ 24) : ((Int32.toUInt32 x >>> (Int32.toUInt32 (nI s) &&& Int32.toUInt32 31)).toInt32) &&& 255 = sh_by x s := by
  apply b_ext
  intro i hi
  unfold sh_by
  rw [b_and, b_and, b_255, b_ushr s (by omega), b_sshr s (by omega) x hi]
  by_cases h8 : i < 8
  · rw [if_pos (by omega)]
  · rw [decide_eq_false h8, Bool.and_false, Bool.and_false]
theorem c_app1 (d x s : Nat) (h : av_M) (v : Int32) (hx : h 1 1 = nI x) (hlt : x < 80) (hs : s ≤ 24) (w : Int32) (hw : nI s + (-8) = w) : av_xp d 48 14 [.ref 1, .int v, .int (nI s)] [] h = av_xp d 48 14 [.ref 1, .int v, .int w] [] (av_u (av_u h 2 x (sh_by v s)) 1 1 (nI (x + 1))) := by
  rw [eX5_append_r1_14, if_neg (sh_nneg (by omega)), hx, sh_inb hlt (by decide), cond_true, nI_clamp (by omega), nI_1, sh_byte v hs, hw]
theorem c_sign1 (d x k : Nat) (h : av_M) (v : Int32) (hx : h 44 10 = nI x) (hlt : x + k < 80) (hk : k < 4) (s : Nat) (hs : (24 : Int32) - 8 * nI k = nI s) : av_xp d 173 18 [.ref 44, .int v, .int (nI k)] [] h = av_xp d 173 18 [.ref 44, .int v, .int (nI (k + 1))] [] (av_u h 50 (x + k) (sh_by v s)) := by
  rw [eX7_sign_r44_18, if_neg (show ¬ (4 : Int32) ≤ nI k from sh_lt (n := 4) hk (by decide)), hx, nI_add, sh_inb hlt (by decide), cond_true, nI_clamp (by omega), nI_1, hs]
  rfl
theorem sh_w4 {g : Nat → Int32} {x : Nat} {a b c e : Int32} (j : Nat) : upd (upd (upd (upd g x a) (x + 1) b) (x + 2) c) (x + 3) e j = if j = x + 3 then e else if j = x + 2 then c else if j = x + 1 then b else if j = x then a else g j := rfl
theorem c_sign (v : Int32) : sh_P 52 173 [.int v] := sh_p fun d N n r h _ h0 => by
  obtain ⟨pA, pB, pX, pU, pK, pF, pH, pS, pN⟩ := id h0
  obtain ⟨x, x1, x2, x3, x4⟩ := id pX
  by_cases e : x ≤ 76
  · have eX : av_x (d + 100) 52 [.ref 0, .int v] h = some (nI (x + 4), 0, av_u (av_u (av_u (av_u (av_u (av_u (av_u (av_u h 2 x (sh_by v 24)) 1 1 (nI (x + 1))) 2 (x + 1) (sh_by v 16)) 1 1 (nI (x + 1 + 1))) 2 (x + 1 + 1) (sh_by v 8)) 1 1 (nI (x + 1 + 1 + 1))) 2 (x + 1 + 1 + 1) (sh_by v 0)) 1 1 (nI (x + 1 + 1 + 1 + 1))) := by
      rw [eX6_sign_r0_in, eX5_append_r1_in, x2, if_pos (show nI x ≤ 76 from nI_le (b := 76) e (by decide)), show (24 : Int32) = nI 24 from rfl, c_app1 _ x 24 h v x2 (by omega) (by omega) (nI 16) (by decide), c_app1 _ (x + 1) 16 _ v rfl (by omega) (by omega) (nI 8) (by decide), c_app1 _ (x + 1 + 1) 8 _ v rfl (by omega) (by omega) (nI 0) (by decide), c_app1 _ (x + 1 + 1 + 1) 0 _ v rfl (by omega) (by omega) (-8) (by decide), eX5_append_r1_14, if_pos (by decide)]
      rfl
    generalize hH : av_u (av_u (av_u (av_u (av_u (av_u (av_u (av_u h 2 x (sh_by v 24)) 1 1 (nI (x + 1))) 2 (x + 1) (sh_by v 16)) 1 1 (nI (x + 1 + 1))) 2 (x + 1 + 1) (sh_by v 8)) 1 1 (nI (x + 1 + 1 + 1))) 2 (x + 1 + 1 + 1) (sh_by v 0)) 1 1 (nI (x + 1 + 1 + 1 + 1)) = H at eX
    have k44 : H 44 = h 44 := by rw [← hH]; rfl
    have k50 : H 50 = h 50 := by rw [← hH]; rfl
    have eM : av_x (d + 100) 173 [.ref 44, .int v] H = some (nI (x + 4), 0, av_u (av_u (av_u (av_u (av_u (av_u H 44 0 0) 50 (x + 0) (sh_by v 24)) 50 (x + 1) (sh_by v 16)) 50 (x + 2) (sh_by v 8)) 50 (x + 3) (sh_by v 0)) 44 10 (nI (x + 4))) := by
      have q10 : H 44 10 = nI x := by rw [k44]; exact x3
      rw [eX7_sign_r44_in, q10, if_pos (show nI x ≤ 76 from nI_le (b := 76) e (by decide))]
      have s0 := c_sign1 (d + 99) x 0 (av_u H 44 0 0) v q10 (by omega) (by omega) 24 (by decide)
      have s1 := c_sign1 (d + 99) x 1 (av_u (av_u H 44 0 0) 50 (x + 0) (sh_by v 24)) v q10 (by omega) (by omega) 16 (by decide)
      have s2 := c_sign1 (d + 99) x 2 (av_u (av_u (av_u H 44 0 0) 50 (x + 0) (sh_by v 24)) 50 (x + 1) (sh_by v 16)) v q10 (by omega) (by omega) 8 (by decide)
      have s3 := c_sign1 (d + 99) x 3 (av_u (av_u (av_u (av_u H 44 0 0) 50 (x + 0) (sh_by v 24)) 50 (x + 1) (sh_by v 16)) 50 (x + 2) (sh_by v 8)) v q10 (by omega) (by omega) 0 (by decide)
      refine (s0.trans (s1.trans (s2.trans s3))).trans ?_
      rw [eX7_sign_r44_18, if_pos (show (4 : Int32) ≤ nI (3 + 1) by decide)]
      rw [show (av_u (av_u (av_u (av_u (av_u H 44 0 0) 50 (x + 0) (sh_by v 24)) 50 (x + 1) (sh_by v 16)) 50 (x + 2) (sh_by v 8)) 50 (x + 3) (sh_by v 0)) 44 10 + 4 = nI (x + 4) by show H 44 10 + 4 = _; rw [q10]; exact nI_add x 4]
    refine ⟨nI (x + 4), H, _, eX, eM, ⟨n, r, ?_⟩, ?_, ?_, ?_, ?_⟩
    · subst hH
      refine ⟨sh_PA_s rfl rfl rfl rfl rfl rfl rfl rfl rfl rfl rfl pA, sh_PB_s rfl rfl rfl rfl pB, ?_, sh_PU_s rfl rfl rfl rfl rfl pU, sh_PK_up (by omega) (sh_PK_s rfl rfl rfl rfl rfl rfl pK), sh_PF_s rfl rfl rfl rfl rfl rfl rfl rfl pF, sh_PH_s rfl rfl rfl rfl rfl rfl pH, sh_PS_s rfl rfl rfl rfl rfl rfl rfl rfl pS, sh_PN_s rfl rfl pN⟩
      refine ⟨x + 4, by omega, rfl, rfl, ?_⟩
      intro j hj
      show upd (upd (upd (upd (h 2) x (sh_by v 24)) (x + 1) (sh_by v 16)) (x + 2) (sh_by v 8)) (x + 3) (sh_by v 0) j = upd (upd (upd (upd (h 50) x (sh_by v 24)) (x + 1) (sh_by v 16)) (x + 2) (sh_by v 8)) (x + 3) (sh_by v 0) j ∧ sh_B 0 255 (upd (upd (upd (upd (h 50) x (sh_by v 24)) (x + 1) (sh_by v 16)) (x + 2) (sh_by v 8)) (x + 3) (sh_by v 0) j)
      rw [sh_w4, sh_w4]
      by_cases j3 : j = x + 3
      · rw [if_pos j3, if_pos j3]; exact ⟨rfl, sh_B255 _⟩
      · rw [if_neg j3, if_neg j3]
        by_cases j2 : j = x + 2
        · rw [if_pos j2, if_pos j2]; exact ⟨rfl, sh_B255 _⟩
        · rw [if_neg j2, if_neg j2]
          by_cases j1 : j = x + 1
          · rw [if_pos j1, if_pos j1]; exact ⟨rfl, sh_B255 _⟩
          · rw [if_neg j1, if_neg j1]
            by_cases j0 : j = x
            · rw [if_pos j0, if_pos j0]; exact ⟨rfl, sh_B255 _⟩
            · rw [if_neg j0, if_neg j0]; exact x4 j (by omega)
    all_goals (subst hH; rfl)
  · have e1 : ¬ nI x ≤ 76 := sh_lt (n := x) (k := 76) (by omega) (by omega)
    refine sh_ref (a := -1) h0 ?_ ?_
    · rw [eX6_sign_r0_in, eX5_append_r1_in, x2, if_neg e1]
      rfl
    · rw [eX7_sign_r44_in, x3, if_neg e1]
theorem c_end (p : Int32) : sh_P 53 174 [.int p] := sh_p fun d N n r h _ h0 => by
  obtain ⟨pA, pB, pX, pU, pK, pF, pH, pS, pN⟩ := id h0
  obtain ⟨x, x1, x2, x3, x4⟩ := id pX
  have eM0 : ∀ H : av_M, H 44 10 = nI x → av_x (d + 100) 174 [.ref 44, .int p] H = if sh_ir 0 (nI x) p = true then some (1, 0, av_u (av_u H 44 0 0) 44 10 p) else some (0, 0, av_u H 44 0 0) := by
    intro H q
    rw [eX7_end_r44_in, q, c_inI _ p 0 (nI x) _ _ _ (by decide) rfl]
    simp only [Option.bind_some]
    cases hk : sh_ir 0 (nI x) p <;> rfl
  by_cases g1 : p < 0
  · refine sh_ref (a := 0) h0 ?_ ?_
    · rw [eX6_end_r0_in, eX5_shorten_r1_in, if_pos g1]; simp only [Option.bind_some, sh_001]
    · rw [eM0 h x3, sh_ir_lt g1, if_neg (by decide)]
  · by_cases g2 : nI x < p
    · refine sh_ref (a := 0) h0 ?_ ?_
      · rw [eX6_end_r0_in, eX5_shorten_r1_in, if_neg g1, x2, if_neg (by rw [Int32.not_le]; exact g2)]; simp only [Option.bind_some, sh_001, sh_111]
      · rw [eM0 h x3, sh_ir_gt g2, if_neg (by decide)]
    · obtain ⟨j, hj, rfl⟩ := nI_of g1
      have hjx : j ≤ x := by
        rcases Nat.lt_or_ge x j with q | q
        · exact absurd (nI_lt q hj) g2
        · exact q
      have eX : av_x (d + 100) 53 [.ref 0, .int (nI j)] h = some (1, 0, av_u h 1 1 (nI j)) := by
        rw [eX6_end_r0_in, eX5_shorten_r1_in, if_neg g1, x2, if_pos (by rw [← Int32.not_lt]; exact g2)]; simp only [Option.bind_some, sh_001, sh_111]
      have eM : av_x (d + 100) 174 [.ref 44, .int (nI j)] (av_u h 1 1 (nI j)) = some (1, 0, av_u (av_u (av_u h 1 1 (nI j)) 44 0 0) 44 10 (nI j)) := by
        rw [eM0 (av_u h 1 1 (nI j)) x3, sh_ir_in g1 g2, if_pos rfl]
      refine ⟨1, _, _, eX, eM, ⟨n, r, ⟨sh_PA_s rfl rfl rfl rfl rfl rfl rfl rfl rfl rfl rfl pA, sh_PB_s rfl rfl rfl rfl pB, ?_, sh_PU_s rfl rfl rfl rfl rfl pU, sh_PK_up (by omega) (sh_PK_s rfl rfl rfl rfl rfl rfl pK), sh_PF_s rfl rfl rfl rfl rfl rfl rfl rfl pF, sh_PH_s rfl rfl rfl rfl rfl rfl pH, sh_PS_s rfl rfl rfl rfl rfl rfl rfl rfl pS, sh_PN_s rfl rfl pN⟩⟩, rfl, rfl, rfl, rfl⟩
      exact ⟨j, by omega, rfl, rfl, fun i hi => x4 i (by omega)⟩
