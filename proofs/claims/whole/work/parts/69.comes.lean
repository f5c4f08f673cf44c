/-! PURE, 59: calls: streamers, 5: they come -/
def sh_C1 (n : Nat) (G : Nat → Nat) (C : Nat → Int32) (k j : Nat) : Int32 := if j < n then C j else sh_lv G (j - n) k
def sh_r3 (r : Nat → Int32) (a : Nat) (v w z : Int32) : Nat → Int32 := upd (upd (upd r a v) (7 + a) w) (14 + a) z
def sh_rN (n : Nat) (G : Nat → Nat) (r : Nat → Int32) : Nat → Nat → Int32
  | 0 => r
  | l + 1 => sh_r3 (sh_rN n G r l) (n + l) (sh_lv G l 2) (sh_lv G l 3) (sh_lv G l 4)
theorem sh_r3_0 {r : Nat → Int32} {a k : Nat} {v w z : Int32} (hk : k < 7) (ha : a < 7) : sh_r3 r a v w z k = upd r a v k := by
  unfold sh_r3 upd
  rw [if_neg (by omega), if_neg (by omega)]
theorem sh_r3_7 {r : Nat → Int32} {a k : Nat} {v w z : Int32} (hk : k < 7) (ha : a < 7) : sh_r3 r a v w z (7 + k) = if k = a then w else r (7 + k) := by
  unfold sh_r3 upd
  rw [if_neg (by omega)]
  by_cases e : k = a
  · rw [if_pos (by omega), if_pos e]
  · rw [if_neg (by omega), if_neg e, if_neg (by omega)]
theorem sh_r3_14 {r : Nat → Int32} {a k : Nat} {v w z : Int32} (hk : k < 7) (ha : a < 7) : sh_r3 r a v w z (14 + k) = if k = a then z else r (14 + k) := by
  unfold sh_r3 upd
  by_cases e : k = a
  · rw [if_pos (by omega), if_pos e]
  · rw [if_neg (by omega), if_neg e, if_neg (by omega), if_neg (by omega)]
theorem sh_r3_b {r : Nat → Int32} {a k : Nat} {v w z : Int32} (hk : 21 ≤ k) (ha : a < 7) : sh_r3 r a v w z k = r k := by
  unfold sh_r3 upd
  rw [if_neg (by omega), if_neg (by omega), if_neg (by omega)]
theorem sh_SV_add {h h' : av_M} {r : Nat → Int32} {a : Nat} {v w z : Int32} (ha : a < 7) (h8 : h' 8 = upd (h 8) a v) (h9 : h' 9 = upd (h 9) a w) (h10 : h' 10 = upd (h 10) a z) (h11 : h' 11 = h 11) (h5 : ∀ j, 8 ≤ j → h' 5 j = h 5 j) (hv : sh_SV 5 h r) : sh_SV 5 h' (sh_r3 r a v w z) := by
  obtain ⟨s1, s2, s3, s4, s5, s6, s7, s8, s9⟩ := hv
  refine ⟨fun k hk => ?_, fun k hk => ?_, fun k hk => ?_, fun k hk => ?_, ?_, ?_, ?_, ?_, ?_⟩
  · rw [sh_r3_0 hk ha, show h' (5 + 3) k = h' 8 k from rfl, h8]
    unfold upd
    rw [← s1 k hk]
  · rw [sh_r3_7 hk ha, show h' (5 + 4) k = h' 9 k from rfl, h9]
    unfold upd
    rw [← s2 k hk]
  · rw [sh_r3_14 hk ha, show h' (5 + 5) k = h' 10 k from rfl, h10]
    unfold upd
    rw [← s3 k hk]
  · rw [sh_r3_b (by omega) ha, show h' (5 + 6) k = h' 11 k from rfl, h11]
    exact s4 k hk
  · rw [sh_r3_b (by omega) ha, h5 _ (by omega)]; exact s5
  · rw [sh_r3_b (by omega) ha, h5 _ (by omega)]; exact s6
  · rw [sh_r3_b (by omega) ha, h5 _ (by omega)]; exact s7
  · rw [sh_r3_b (by omega) ha, h5 _ (by omega)]; exact s8
  · rw [sh_r3_b (by omega) ha, h5 _ (by omega)]; exact s9
theorem sh_G_add {n m a : Nat} {r : Nat → Int32} {v w z : Int32} (ha : a < 7) (hm : n ≤ m) (h1 : sh_B 0 99 v) (h2 : sh_B 0 9 w) (h3 : sh_B 0 9 z) (hG : sh_G n r) : sh_G m (sh_r3 r a v w z) := by
  obtain ⟨g1, g2, g3, g4, g5⟩ := hG
  refine ⟨fun k hk => ?_, ?_, ?_, ?_, ?_⟩
  · obtain ⟨q1, q2, q3, q4⟩ := g1 k hk
    rw [sh_r3_0 hk ha, sh_r3_7 hk ha, sh_r3_14 hk ha, sh_r3_b (by omega) ha]
    unfold upd
    by_cases e : k = a
    · rw [if_pos e, if_pos e, if_pos e]; exact ⟨h1, h2, h3, q4⟩
    · rw [if_neg e, if_neg e, if_neg e]; exact ⟨q1, q2, q3, q4⟩
  · rw [sh_r3_b (by omega) ha]; exact g2
  · rw [sh_r3_b (by omega) ha]; exact g3
  · rw [sh_r3_b (by omega) ha]; exact fun i hi => g4 i (by omega)
  · rw [sh_r3_b (by omega) ha]; exact fun i hi => g5 i (by omega)
/-- the lines are good -/
def sh_LG (n L x : Nat) (G : Nat → Nat) : Prop := x + 1 = 7 * L ∧ n + L ≤ 7 ∧ ∀ j, j < x → sh_fz n j (G j) = true
theorem sh_LG_d {n L x l o : Nat} {G : Nat → Nat} (H : sh_LG n L x G) (hl : l < L) (h1 : 2 ≤ o) (h2 : o ≤ 5) : 48 ≤ G (7 * l + o) ∧ G (7 * l + o) ≤ 57 := by
  obtain ⟨a1, a2, a3⟩ := H
  have := a3 (7 * l + o) (by omega)
  rw [sh_fz_d h1 h2] at this
  unfold sh_dg at this
  simp only [Bool.and_eq_true, decide_eq_true_eq] at this
  omega
theorem sh_LG_1 {n L x l : Nat} {G : Nat → Nat} (H : sh_LG n L x G) (hl : l < L) : 49 ≤ G (7 * l + 1) ∧ G (7 * l + 1) ≤ 57 := by
  obtain ⟨a1, a2, a3⟩ := H
  have := a3 (7 * l + 1) (by omega)
  rw [sh_fz_1] at this
  unfold sh_dg at this
  simp only [Bool.and_eq_true, decide_eq_true_eq] at this
  omega
theorem sh_LG_0 {n L x l : Nat} {G : Nat → Nat} (H : sh_LG n L x G) (hl : l < L) : sh_cN (G (7 * l)) < 4 := by
  obtain ⟨a1, a2, a3⟩ := H
  have := a3 (7 * l) (by omega)
  rw [sh_fz_0 (by omega)] at this
  exact of_decide_eq_true this
theorem sh_G_N {n L x : Nat} {G : Nat → Nat} {r : Nat → Int32} (H : sh_LG n L x G) (hG : sh_G n r) : ∀ l, l ≤ L → sh_G (n + l) (sh_rN n G r l) := by
  intro l
  induction l with
  | zero => intro _; exact hG
  | succ l ih =>
    intro hl
    have d2 := sh_LG_d H (l := l) (o := 2) (by omega) (by omega) (by omega)
    have d3 := sh_LG_d H (l := l) (o := 3) (by omega) (by omega) (by omega)
    have d4 := sh_LG_d H (l := l) (o := 4) (by omega) (by omega) (by omega)
    have d5 := sh_LG_d H (l := l) (o := 5) (by omega) (by omega) (by omega)
    exact sh_G_add (by have := H.2.1; omega) (by omega) (sh_B_nI (N := 99) (by omega) (by omega)) (sh_B_nI (N := 9) (by omega) (by omega)) (sh_B_nI (N := 9) (by omega) (by omega)) (ih (by omega))
theorem sh_e_1 : ∀ n, n < 7 → sh_e n ||| ((1 : Int32) <<< (nI n &&& 31)) = sh_e (n + 1) := by decide +kernel
/-- the sail of the class with l lines of the text more -/
def sh_SL1 (n l : Nat) (G : Nat → Nat) (r C T : Nat → Int32) (h : av_M) : Prop := h 5 6 = nI (n + l) ∧ h 5 7 = sh_e (n + l) ∧ sh_SV 5 h (sh_rN n G r l) ∧ (∀ j, j < n + l → h 6 j = sh_C1 n G C 0 j) ∧ (∀ j, j < n + l → h 7 j = sh_C1 n G T 1 j)
theorem sh_C1_s {n l k : Nat} {G : Nat → Nat} {C g : Nat → Int32} (H : ∀ j, j < n + l → g j = sh_C1 n G C k j) : ∀ j, j < n + (l + 1) → upd g (n + l) (sh_lv G l k) j = sh_C1 n G C k j := by
  intro j hj
  unfold upd
  by_cases e : j = n + l
  · rw [if_pos e, e]
    unfold sh_C1
    rw [if_neg (by omega), show n + l - n = l by omega]
  · rw [if_neg e]; exact H j (by omega)
theorem f_come (d n l : Nat) (G : Nat → Nat) (r C T : Nat → Int32) (h : av_M) (hn : n + l < 7) (H : sh_SL1 n l G r C T h) : ∃ h', av_x (d + 1) 27 [.ref 5, .int (sh_lv G l 0), .int (sh_lv G l 1), .int (sh_lv G l 2), .int (sh_lv G l 3), .int (sh_lv G l 4)] h = some (0, 0, h') ∧ sh_fr [5, 6, 7, 8, 9, 10] h h' ∧ sh_SL1 n (l + 1) G r C T h' := by
  obtain ⟨s1, s2, s3, s4, s5⟩ := H
  rw [eX4_come_r5_in, s1, if_neg (show ¬ (7 : Int32) ≤ nI (n + l) from sh_lt (n := 7) hn (by decide)), sh_inb (show n + l < 7 by omega) (by decide), nI_clamp (by omega), s2, sh_e_1 _ hn, nI_1]
  simp only [cond_true]
  refine ⟨_, rfl, sh_fr_u (by decide) (sh_fr_u (by decide) (sh_fr_u (by decide) (sh_fr_u (by decide) (sh_fr_u (by decide) (sh_fr_u (by decide) (sh_fr_u (by decide) (sh_fr_refl _ _))))))), rfl, rfl, ?_, ?_, ?_⟩
  · exact sh_SV_add (h := h) (by omega) rfl rfl rfl rfl (fun j hj => by
      show upd (upd (h 5) 7 _) 6 _ j = h 5 j
      unfold upd
      rw [if_neg (by omega), if_neg (by omega)]) s3
  · exact sh_C1_s s4
  · exact sh_C1_s s5
theorem sh_dI_of {c : Nat} (h1 : 48 ≤ c) (h2 : c ≤ 57) : sh_dI 0 c = nI (c - 48) := by
  unfold sh_dI
  rw [if_pos (by omega)]
theorem f_adds_l (d n L x : Nat) (G : Nat → Nat) (r C T : Nat → Int32) (hL : sh_LG n L x G) : ∀ t l (h : av_M) (x1 x2 x3 x4 : Value), l + t = L → ((x1 = .null ∧ x2 = .null ∧ x3 = .null ∧ x4 = .null) ∨ (∃ (y1 : Int32) (y2 : Int32) (y3 : Int32) (y4 : Int32), x1 = .int y1 ∧ x2 = .int y2 ∧ x3 = .int y3 ∧ x4 = .int y4)) → sh_TX x G h → sh_SL1 n l G r C T h →
    ∃ h', av_xp (d + 3) 117 19 [.ref 0, .int (nI (7 * l)), x1, x2, x3, x4] [] h = some (0, 0, h') ∧ sh_fr [5, 6, 7, 8, 9, 10] h h' ∧ sh_SL1 n L G r C T h' := by
  obtain ⟨a1, a2, a3⟩ := id hL
  intro t
  induction t with
  | zero =>
    intro l h x1 x2 x3 x4 e hx hT hS
    rw [mX6_addLines_r0_19 _ _ _ _ _ _ _ hx, hT.2.1, if_pos (sh_ge (by omega) (by omega)), show L = l by omega]
    exact ⟨h, rfl, sh_fr_refl _ _, hS⟩
  | succ t ih =>
    intro l h x1 x2 x3 x4 e hx hT hS
    have d1 := sh_LG_1 hL (l := l) (by omega)
    have d2 := sh_LG_d hL (l := l) (o := 2) (by omega) (by omega) (by omega)
    have d3 := sh_LG_d hL (l := l) (o := 3) (by omega) (by omega) (by omega)
    have d4 := sh_LG_d hL (l := l) (o := 4) (by omega) (by omega) (by omega)
    have d5 := sh_LG_d hL (l := l) (o := 5) (by omega) (by omega) (by omega)
    have d0 := sh_LG_0 hL (l := l) (by omega)
    have hx80 := hT.1
    obtain ⟨h2, e2, f2, s2⟩ := f_come (d + 2) n l G r C T h (by omega) hS
    rw [mX6_addLines_r0_19 _ _ _ _ _ _ _ hx, hT.2.1, if_neg (sh_lt (by omega) (by omega)), show nI (7 * l) + 1 = nI (7 * l + 1) from nI_add _ 1, show nI (7 * l) + 2 = nI (7 * l + 2) from nI_add _ 2, show nI (7 * l) + 3 = nI (7 * l + 3) from nI_add _ 3, show nI (7 * l) + 4 = nI (7 * l + 4) from nI_add _ 4, show nI (7 * l) + 5 = nI (7 * l + 5) from nI_add _ 5, show nI (7 * l) + 7 = nI (7 * (l + 1)) from nI_add _ 7]
    rw [c_digX (d + 1) x _ G h hT (by omega)]
    simp only [Option.bind_some]
    rw [c_digX (d + 1) x _ G h hT (by omega)]
    simp only [Option.bind_some]
    rw [c_digX (d + 1) x _ G h hT (by omega)]
    simp only [Option.bind_some]
    rw [c_digX (d + 1) x _ G h hT (by omega)]
    simp only [Option.bind_some]
    rw [c_digX (d + 1) x _ G h hT (by omega)]
    simp only [Option.bind_some]
    rw [c_atX (d + 2) x _ G h hT (by omega)]
    simp only [Option.bind_some]
    rw [c_colX (d + 2) _ h (hT.2.2 (7 * l) (by omega)).2]
    simp only [Option.bind_some]
    rw [sh_dI_of (by omega) d1.2, sh_dI_of d2.1 d2.2, sh_dI_of d3.1 d3.2, sh_dI_of d4.1 d4.2, sh_dI_of d5.1 d5.2, show sh_cI (G (7 * l)) = sh_lv G l 0 by unfold sh_cI; rw [if_neg (by omega)]; rfl, show nI (G (7 * l + 1) - 48) = sh_lv G l 1 from rfl, show (10 : Int32) * nI (G (7 * l + 2) - 48) + nI (G (7 * l + 3) - 48) = sh_lv G l 2 by rw [show (10 : Int32) * nI (G (7 * l + 2) - 48) = nI (10 * (G (7 * l + 2) - 48)) from nI_mul 10 _, nI_add]; rfl, show nI (G (7 * l + 4) - 48) = sh_lv G l 3 from rfl, show nI (G (7 * l + 5) - 48) = sh_lv G l 4 from rfl, e2]
    simp only [Option.bind_some]
    obtain ⟨h3, e3, f3, s3⟩ := ih (l + 1) h2 _ _ _ _ (by omega) (Or.inr ⟨_, _, _, _, rfl, rfl, rfl, rfl⟩) ⟨hT.1, by rw [f2 1 (by decide)]; exact hT.2.1, by rw [f2 2 (by decide)]; exact hT.2.2⟩ s2
    exact ⟨h3, e3, sh_fr_tr f2 f3 (fun _ q => q), s3⟩
/-- the sail of the reference with l lines of the text more -/
def sh_SL2 (n l : Nat) (G : Nat → Nat) (r C T : Nat → Int32) (h : av_M) : Prop := h 44 3 = nI (n + l) ∧ sh_MV 48 h (sh_rN n G r l) ∧ (∀ j, j < n + l → h 46 j = sh_C1 n G C 0 j) ∧ (∀ j, j < n + l → h 47 j = sh_C1 n G T 1 j)
theorem t_adds_l (d n L : Nat) (G : Nat → Nat) (r C T : Nat → Int32) (A g m q : Int32) (hL : n + L ≤ 7) (hp : 0 < L) : ∀ t l (h : av_M), l + t = L → h 44 15 = nI L → (∀ l, l < L → ∀ k, k < 5 → h 51 (5 * l + k) = sh_lv G l k) → sh_SL2 n l G r C T h →
    ∃ h', av_xp (d + 1) 184 81 [.ref 44, .int A, .int g, .int m, .int q, .int (nI l)] [] h = some (nI L, 0, h') ∧ sh_fr [44, 46, 47, 48] h h' ∧ sh_SL2 n L G r C T h' ∧ h' 44 22 = 0 ∧ h' 44 4 = h 44 4 + 1 ∧ ∀ j, j ≠ 3 → j ≠ 4 → j ≠ 22 → h' 44 j = h 44 j := by
  intro t
  induction t with
  | zero =>
    intro l h e h15 hw hS
    rw [eX7_streamers_r44_81, h15, if_pos (sh_ge (by omega) (by omega)), if_neg (show ¬ nI L ≤ 0 from sh_lt (k := 0) hp (by omega)), if_neg (show ¬ nI L ≤ 0 from sh_lt (k := 0) hp (by omega)), c_flag1]
    simp only [Option.bind_some]
    rw [show (av_u h 44 22 0) 44 15 = nI L from h15, show L = l by omega]
    refine ⟨_, rfl, sh_fr_u (by decide) (sh_fr_u (by decide) (sh_fr_refl _ _)), hS, rfl, rfl, ?_⟩
    intro j g1 g2 g3
    show upd (upd (h 44) 22 0) 4 _ j = h 44 j
    unfold upd
    rw [if_neg g2, if_neg g3]
  | succ t ih =>
    intro l h e h15 hw hS
    obtain ⟨s1, s2, s3, s4⟩ := hS
    have w0 := hw l (by omega) 0 (by omega)
    have w1 := hw l (by omega) 1 (by omega)
    have w2 := hw l (by omega) 2 (by omega)
    have w3 := hw l (by omega) 3 (by omega)
    have w4 := hw l (by omega) 4 (by omega)
    rw [eX7_streamers_r44_81, h15, if_neg (sh_lt (by omega) (by omega)), s1, show (5 : Int32) * nI l = nI (5 * l) from nI_mul 5 l, show nI (5 * l) + 1 = nI (5 * l + 1) from nI_add _ 1, show nI (5 * l) + 2 = nI (5 * l + 2) from nI_add _ 2, show nI (5 * l) + 3 = nI (5 * l + 3) from nI_add _ 3, show nI (5 * l) + 4 = nI (5 * l + 4) from nI_add _ 4, show (7 : Int32) + nI (n + l) = nI (7 + (n + l)) from nI_add 7 _, show (14 : Int32) + nI (n + l) = nI (14 + (n + l)) from nI_add 14 _]
    rw [sh_inb (show 5 * l < 35 by omega) (by decide), sh_inb (show n + l < 7 by omega) (by decide), sh_inb (show 5 * l + 1 < 35 by omega) (by decide), sh_inb (show 5 * l + 2 < 35 by omega) (by decide), sh_inb (show 5 * l + 3 < 35 by omega) (by decide), sh_inb (show 5 * l + 4 < 35 by omega) (by decide), sh_inb (show n + l < 33 by omega) (by decide), sh_inb (show 7 + (n + l) < 33 by omega) (by decide), sh_inb (show 14 + (n + l) < 33 by omega) (by decide)]
    simp only [cond_true]
    rw [nI_clamp (n := n + l) (by omega), nI_clamp (n := 5 * l) (by omega), nI_clamp (n := 5 * l + 1) (by omega), nI_clamp (n := 5 * l + 2) (by omega), nI_clamp (n := 5 * l + 3) (by omega), nI_clamp (n := 5 * l + 4) (by omega), nI_clamp (n := 7 + (n + l)) (by omega), nI_clamp (n := 14 + (n + l)) (by omega), nI_1, nI_1]
    have hS2 : sh_SL2 n (l + 1) G r C T (av_u (av_u (av_u (av_u (av_u (av_u h 46 (n + l) (h 51 (5 * l))) 47 (n + l) (h 51 (5 * l + 1))) 48 (n + l) (h 51 (5 * l + 2))) 48 (7 + (n + l)) (h 51 (5 * l + 3))) 48 (14 + (n + l)) (h 51 (5 * l + 4))) 44 3 (nI (n + l + 1))) := by
      refine ⟨rfl, ?_, ?_, ?_⟩
      · intro i hi
        show upd (upd (upd (h 48) (n + l) (h 51 (5 * l + 2))) (7 + (n + l)) (h 51 (5 * l + 3))) (14 + (n + l)) (h 51 (5 * l + 4)) i = upd (upd (upd (sh_rN n G r l) (n + l) (sh_lv G l 2)) (7 + (n + l)) (sh_lv G l 3)) (14 + (n + l)) (sh_lv G l 4) i
        rw [w2, w3, w4]
        unfold upd
        rw [s2 i hi]
      · have := sh_C1_s s3
        rw [← w0] at this
        exact this
      · have := sh_C1_s s4
        rw [← w1] at this
        exact this
    obtain ⟨h2, e2, f2, q2, u2, v2, k2⟩ := ih (l + 1) (av_u (av_u (av_u (av_u (av_u (av_u h 46 (n + l) (h 51 (5 * l))) 47 (n + l) (h 51 (5 * l + 1))) 48 (n + l) (h 51 (5 * l + 2))) 48 (7 + (n + l)) (h 51 (5 * l + 3))) 48 (14 + (n + l)) (h 51 (5 * l + 4))) 44 3 (nI (n + l + 1))) (by omega) h15 hw hS2
    refine ⟨h2, e2, sh_fr_tr (sh_fr_u (by decide) (sh_fr_u (by decide) (sh_fr_u (by decide) (sh_fr_u (by decide) (sh_fr_u (by decide) (sh_fr_u (by decide) (sh_fr_refl _ _))))))) f2 (fun _ q => q), q2, u2, v2, ?_⟩
    intro j g1 g2 g3
    rw [k2 j g1 g2 g3]
    show upd (h 44) 3 _ j = h 44 j
    unfold upd
    rw [if_neg g1]
