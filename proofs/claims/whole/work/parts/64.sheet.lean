/-! PURE, 54: calls: sheet -/
def sh_kc (kind x : Int32) : Int32 := if kind = 0 then (Int32.toInt8 x).toInt32 else if kind = 1 then (Int32.toInt16 x).toInt32 else x
def sh_ks (kind nn f step : Int32) (k : Nat) : Int32 := if kind = 3 then 1 else if nI k < nn then av_max 1 (av_min 9 (sh_kc kind (f + nI k * step))) else 1
def sh_ka (M : Bool) (s : Int32) : Int32 := match M with
  | true => -3
  | false => s
def sh_k1 (S : Nat → Int32) (k : Nat) (a : Int32) : Int32 := a + S k
theorem sh_ks_B (kind nn f step : Int32) (k : Nat) : sh_B 0 99 (sh_ks kind nn f step k) := by
  unfold sh_ks
  have h1 : sh_B 0 99 1 := by constructor <;> decide
  split
  · exact h1
  · split
    · obtain ⟨x, hx⟩ : ∃ x, x = sh_kc kind (f + nI k * step) := ⟨_, rfl⟩
      rw [← hx]
      unfold av_max av_min
      have e1 : (1 : Int32).toInt = 1 := by decide
      have e9 : (9 : Int32).toInt = 9 := by decide
      by_cases g : x < 9
      · rw [if_pos g]
        by_cases g2 : 1 < x
        · rw [if_pos g2]
          rw [Int32.lt_iff_toInt_lt] at g g2
          exact ⟨by omega, by omega⟩
        · rw [if_neg g2]; exact h1
      · rw [if_neg g, if_pos (show (1 : Int32) < 9 by decide)]
        exact ⟨by rw [e9]; decide, by rw [e9]; decide⟩
    · exact h1
theorem f_sheet_l (d n : Nat) (kind nn f step : Int32) (M : Bool) (hM : M = decide (kind = 3)) (hn : n ≤ 7) : ∀ T k (s : Int32) (h : av_M) (x1 : Value), k + T = n → h 5 6 = nI n → ((x1 = .null) ∨ (∃ (y1 : Int32), x1 = .int y1)) → (∀ j, j < k → h 7 j = sh_ks kind nn f step j) →
    ∃ h', av_xp (d + 1) 57 47 [.ref 0, .int kind, .int nn, .int f, .int step, .int (sh_i M), .int s, .int (nI k), x1] [] h = some (sh_ka M (sh_lp (sh_k1 (sh_ks kind nn f step)) T k s), 0, h') ∧ sh_fr [7] h h' ∧ ∀ j, j < n → h' 7 j = sh_ks kind nn f step j := by
  intro T
  induction T with
  | zero =>
    intro k s h x1 e hm hx hw
    rw [mX6_sheet_r0_47 _ _ _ _ _ _ _ _ _ _ hx, hm, if_pos (sh_ge (by omega) (by omega))]
    refine ⟨h, ?_, sh_fr_refl _ _, fun j hj => hw j (by omega)⟩
    cases M
    · rw [if_pos (show sh_i false = 0 from rfl)]; rfl
    · rw [if_neg (show ¬ sh_i true = 0 by decide)]; rfl
  | succ T ih =>
    intro k s h x1 e hm hx hw
    have fin : ∀ (y : Int32), sh_ks kind nn f step k = y → ∀ z : Int32, ∃ h', av_xp (d + 1) 57 47 [.ref 0, .int kind, .int nn, .int f, .int step, .int (sh_i M), .int (s + (av_u h 7 k y) 7 k), .int (nI (k + 1)), .int z] [] (av_u h 7 k y) = some (sh_ka M (sh_lp (sh_k1 (sh_ks kind nn f step)) (T + 1) k s), 0, h') ∧ sh_fr [7] h h' ∧ ∀ j, j < n → h' 7 j = sh_ks kind nn f step j := by
      intro y hy z
      obtain ⟨h2, e2, f2, w2⟩ := ih (k + 1) (s + y) (av_u h 7 k y) (.int z) (by omega) hm (Or.inr ⟨z, rfl⟩) (fun j hj => by
        show upd (h 7) k y j = _
        unfold upd
        by_cases ej : j = k
        · rw [if_pos ej, ej, hy]
        · rw [if_neg ej]; exact hw j (by omega))
      refine ⟨h2, ?_, sh_fr_tr (sh_fr_u (by decide) (sh_fr_refl _ _)) f2 (fun _ q => q), w2⟩
      rw [sh_lp_s, show sh_k1 (sh_ks kind nn f step) k s = s + y by unfold sh_k1; rw [hy], show (av_u h 7 k y) 7 k = y from upd_s]
      exact e2
    rw [mX6_sheet_r0_47 _ _ _ _ _ _ _ _ _ _ hx, hm, if_neg (sh_lt (by omega) (by omega)), sh_inb (show k < 7 by omega) (by decide), nI_clamp (by omega), nI_1]
    simp only [cond_true]
    by_cases q : kind = 3
    · have eM : M = true := by rw [hM, decide_eq_true q]
      rw [if_neg (show ¬ sh_i M = 0 by rw [eM]; decide)]
      exact fin 1 (by unfold sh_ks; rw [if_pos q]) 0
    · have eM : M = false := by rw [hM, decide_eq_false q]
      rw [if_pos (show sh_i M = 0 by rw [eM]; rfl)]
      by_cases q2 : nn ≤ nI k
      · rw [if_pos q2]
        exact fin 1 (by unfold sh_ks; rw [if_neg q, if_neg (by rw [Int32.not_lt]; exact q2)]) 0
      · rw [if_neg q2]
        have ek : ∀ x, av_x (d + 1) 119 [.int kind, .int x] h = some (sh_kc kind x, 0, h) := by
          intro x
          rw [eX6_asKind_in]
          unfold sh_kc
          split
          · rfl
          · split <;> rfl
        rw [ek]
        simp only [Option.bind_some]
        rw [eX6_within_in]
        simp only [Option.bind_some]
        exact fin _ (by unfold sh_ks; rw [if_neg q, if_pos (by rw [← Int32.not_le]; exact q2)]) 1
theorem t_sheet_s (d n : Nat) (kind nn f step a5 : Int32) (k : Nat) (h : av_M) (x1 : Value) (hn : n ≤ 7) (hk : k < n) (hm : h 44 3 = nI n) (hx : (x1 = .null) ∨ (∃ (y1 : Int32), x1 = .int y1)) (e5 : a5 = f + nI k * step) : ∃ y, av_xp (d + 2) 196 43 [.ref 44, .int kind, .int nn, .int f, .int step, .int a5, .int (nI k), x1] [] h = av_xp (d + 2) 196 43 [.ref 44, .int kind, .int nn, .int f, .int step, .int (a5 + step), .int (nI (k + 1)), .int y] [] (av_u h 47 k (sh_ks kind nn f step k)) := by
  rw [mX7_sheet_r44_43 _ _ _ _ _ _ _ _ _ hx, hm, if_neg (sh_lt (by omega) (by omega)), sh_inb (show k < 7 by omega) (by decide), nI_clamp (by omega), nI_1]
  simp only [cond_true]
  unfold sh_ks sh_kc
  rw [← e5]
  by_cases k0 : kind = 0
  · subst k0
    rw [if_pos rfl, if_neg (show ¬ (0 : Int32) = 3 by decide), if_neg (show ¬ (0 : Int32) = 3 by decide), if_pos rfl]
    by_cases q : nI k < nn
    · rw [if_pos q, if_pos q]; exact ⟨_, rfl⟩
    · rw [if_neg q, if_neg q]; exact ⟨_, rfl⟩
  · rw [if_neg k0, if_neg k0]
    by_cases k1 : kind = 1
    · subst k1
      rw [if_pos rfl, if_neg (show ¬ (1 : Int32) = 3 by decide), if_neg (show ¬ (1 : Int32) = 3 by decide), if_pos rfl]
      by_cases q : nI k < nn
      · rw [if_pos q, if_pos q]; exact ⟨_, rfl⟩
      · rw [if_neg q, if_neg q]; exact ⟨_, rfl⟩
    · rw [if_neg k1, if_neg k1]
      by_cases k3 : kind = 3
      · rw [if_pos k3, if_pos k3]; exact ⟨_, rfl⟩
      · rw [if_neg k3, if_neg k3]
        by_cases q : nI k < nn
        · rw [if_pos q, if_pos q]; exact ⟨_, rfl⟩
        · rw [if_neg q, if_neg q]; exact ⟨_, rfl⟩
theorem t_sheet_l (d n : Nat) (kind nn f step : Int32) (hn : n ≤ 7) : ∀ T k (h : av_M) (x1 : Value), k + T = n → h 44 3 = nI n → ((x1 = .null) ∨ (∃ (y1 : Int32), x1 = .int y1)) → (∀ j, j < k → h 47 j = sh_ks kind nn f step j) →
    ∃ h', av_xp (d + 2) 196 43 [.ref 44, .int kind, .int nn, .int f, .int step, .int (f + nI k * step), .int (nI k), x1] [] h = some (sh_ka (decide (kind = 3)) (sh_lp (sh_k1 (sh_ks kind nn f step)) n 0 0), 0, h') ∧ sh_fr [47] h h' ∧ ∀ j, j < n → h' 47 j = sh_ks kind nn f step j := by
  intro T
  induction T with
  | zero =>
    intro k h x1 e hm hx hw
    rw [mX7_sheet_r44_43 _ _ _ _ _ _ _ _ _ hx, hm, if_pos (sh_ge (by omega) (by omega))]
    refine ⟨h, ?_, sh_fr_refl _ _, fun j hj => hw j (by omega)⟩
    by_cases q : kind = 3
    · rw [if_pos q, decide_eq_true q]; rfl
    · rw [if_neg q, decide_eq_false q, c_all _ n h hm]
      simp only [Option.bind_some]
      rw [c_counts d n h _ hn hm]
      simp only [Option.bind_some]
      rw [sh_lp_cong (g := sh_k1 (sh_ks kind nn f step)) n 0 0 (fun j _ hj a => by
        unfold sh_wF sh_k1
        rw [sh_b_bt _ (by omega), sh_e_bt n hn j (by omega), decide_eq_true (by omega), hw j (by omega)])]
      rfl
  | succ T ih =>
    intro k h x1 e hm hx hw
    obtain ⟨y, e1⟩ := t_sheet_s d n kind nn f step _ k h x1 hn (by omega) hm hx rfl
    obtain ⟨h2, e2, f2, w2⟩ := ih (k + 1) (av_u h 47 k (sh_ks kind nn f step k)) (.int y) (by omega) hm (Or.inr ⟨y, rfl⟩) (fun j hj => by
      show upd (h 47) k (sh_ks kind nn f step k) j = _
      unfold upd
      by_cases ej : j = k
      · rw [if_pos ej, ej]
      · rw [if_neg ej]; exact hw j (by omega))
    refine ⟨h2, ?_, sh_fr_tr (sh_fr_u (by decide) (sh_fr_refl _ _)) f2 (fun _ q => q), w2⟩
    rw [e1, show f + nI k * step + step = f + nI (k + 1) * step by rw [← nI_1, Int32.add_mul, Int32.one_mul, Int32.add_assoc]]
    exact e2
theorem sh_R0_sheet {N n : Nat} {r S : Nat → Int32} {h h' : av_M} (hf : sh_fr [7, 44, 47] h h') (h4 : ∀ j, j ≠ 0 → h' 44 j = h 44 j) (s7 : ∀ j, j < n → h' 7 j = S j) (s47 : ∀ j, j < n → h' 47 j = S j) (hB : ∀ j, sh_B 0 99 (S j)) (H : sh_R0 N n r h) : sh_R0 N n r h' := by
  obtain ⟨pA, pB, pX, pU, pK, pF, pH, pS, pN⟩ := H
  refine ⟨?_, ?_, ?_, ?_, ?_, ?_, ?_, ?_, ?_⟩
  · obtain ⟨p1, p2, p3, p4, p5, p6, p7, p8⟩ := pA
    refine ⟨p1, by rw [hf 5 (by decide)]; exact p2, by rw [hf 5 (by decide)]; exact p3, sh_SV5 hf (by decide) p4, by rw [h4 3 (by decide)]; exact p5, sh_MV_fr hf (by decide) p6, ?_, p8⟩
    intro j hj
    rw [s7 j hj, s47 j hj, hf 6 (by decide), hf 46 (by decide)]
    exact ⟨(p7 j hj).1, rfl, hB j⟩
  · exact sh_PB_s (hf _ (by decide)) (hf _ (by decide)) (hf _ (by decide)) (h4 _ (by decide)) pB
  · exact sh_PX_s (hf _ (by decide)) (hf _ (by decide)) (h4 _ (by decide)) (hf _ (by decide)) pX
  · exact sh_PU_s (by rw [hf 27 (by decide)]) (by rw [hf 27 (by decide)]) (hf _ (by decide)) (h4 _ (by decide)) (hf _ (by decide)) pU
  · exact sh_PK_s (by rw [hf 27 (by decide)]) (hf _ (by decide)) (h4 _ (by decide)) (hf _ (by decide)) (hf _ (by decide)) (hf _ (by decide)) pK
  · exact sh_PF_s (hf _ (by decide)) (hf _ (by decide)) (hf _ (by decide)) (hf _ (by decide)) (h4 _ (by decide)) (hf _ (by decide)) (hf _ (by decide)) (hf _ (by decide)) pF
  · exact sh_PH_s (hf _ (by decide)) (hf _ (by decide)) (hf _ (by decide)) (h4 _ (by decide)) (hf _ (by decide)) (hf _ (by decide)) pH
  · exact sh_PS_s (hf _ (by decide)) (hf _ (by decide)) (hf _ (by decide)) (hf _ (by decide)) (h4 _ (by decide)) (hf _ (by decide)) (hf _ (by decide)) (hf _ (by decide)) pS
  · exact sh_PN_s (by rw [hf 0 (by decide)]) (hf _ (by decide)) pN
theorem c_sheet (kind nn f step : Int32) : sh_P 57 196 [.int kind, .int nn, .int f, .int step] := sh_p fun d N n r h _ h0 => by
  have hn : n ≤ 7 := h0.1.1
  have m5 : h 5 6 = nI n := h0.1.2.1
  have m44 : h 44 3 = nI n := h0.1.2.2.2.2.1
  have eX0 : av_x (d + 100) 57 [.ref 0, .int kind, .int nn, .int f, .int step] h = if sh_ir 0 3 kind = true then (if nn ≤ 7 then (if kind = 3 ∨ 0 ≤ nn then av_xp (d + 99) 57 47 [.ref 0, .int kind, .int nn, .int f, .int step, .int (sh_i (decide (kind = 3))), .int 0, .int 0, .null] [] h else some (-2, 0, h)) else some (-1, 0, h)) else some (-1, 0, h) := by
    rw [eX6_sheet_r0_in]
    by_cases g1 : kind < 0
    · rw [if_pos g1, sh_ir_lt g1]; rfl
    · by_cases g2 : 3 < kind
      · rw [if_neg g1, if_pos g2, sh_ir_gt g2]; rfl
      · rw [if_neg g1, if_neg g2, sh_ir_in g1 g2, if_pos rfl]
        by_cases g7 : nn ≤ 7
        · rw [if_pos g7, if_pos g7]
          by_cases g3 : kind = 3
          · rw [if_pos g3, if_pos (Or.inl g3), decide_eq_true g3]; rfl
          · rw [if_neg g3, decide_eq_false g3]
            by_cases g4 : 0 ≤ nn
            · rw [if_pos g4, if_pos (Or.inr g4)]; rfl
            · rw [if_neg g4, if_neg (fun q => Or.elim q g3 g4)]
        · rw [if_neg g7, if_neg g7]
  have eM0 : ∀ h' : av_M, av_x (d + 100) 196 [.ref 44, .int kind, .int nn, .int f, .int step] h' = if sh_ir 0 3 kind = true then (if nn ≤ 7 then (if kind = 3 ∨ 0 ≤ nn then av_xp (d + 99) 196 43 [.ref 44, .int kind, .int nn, .int f, .int step, .int f, .int 0, .null] [] (av_u h' 44 0 0) else some (-2, 0, av_u h' 44 0 0)) else some (-1, 0, av_u h' 44 0 0)) else some (-1, 0, av_u h' 44 0 0) := by
    intro h'
    rw [eX7_sheet_r44_in, show (0 : Int64) = (0 : Int32).toInt64 by decide, c_inI _ kind 0 3 _ _ _ rfl (by decide)]
    simp only [Option.bind_some]
    cases sh_ir 0 3 kind
    · rfl
    · rw [if_neg (by decide), if_pos rfl]
      by_cases g7 : nn ≤ 7
      · rw [if_pos g7, if_pos g7]
        by_cases g3 : kind = 3
        · rw [if_pos g3, if_pos (Or.inl g3)]
        · rw [if_neg g3]
          by_cases g4 : 0 ≤ nn
          · rw [if_pos g4, if_pos (Or.inr g4)]
          · rw [if_neg g4, if_neg (fun q => Or.elim q g3 g4)]
      · rw [if_neg g7, if_neg g7]
  by_cases q1 : sh_ir 0 3 kind = true
  · by_cases q2 : nn ≤ 7
    · by_cases q3 : kind = 3 ∨ 0 ≤ nn
      · obtain ⟨h1, e1, f1, w1⟩ := f_sheet_l (d + 98) n kind nn f step _ rfl hn n 0 0 h .null (by omega) m5 (Or.inl rfl) (fun j hj => absurd hj (by omega))
        obtain ⟨h2, e2, f2, w2⟩ := t_sheet_l (d + 97) n kind nn f step hn n 0 (av_u h1 44 0 0) .null (by omega) (by show h1 44 3 = nI n; rw [f1 44 (by decide)]; exact m44) (Or.inl rfl) (fun j hj => absurd hj (by omega))
        have f12 : sh_fr [7, 44, 47] h h2 := sh_fr_tr (sh_fr_u (a := 44) (k := 0) (v := 0) (by decide) (sh_fr_up f1 (by decide))) (sh_fr_up f2 (by decide)) (fun _ q => q)
        have f44 : ∀ j, j ≠ 0 → h2 44 j = h 44 j := by
          intro j hj
          rw [f2 44 (by decide)]
          show upd (h1 44) 0 0 j = _
          unfold upd
          rw [if_neg hj, f1 44 (by decide)]
        refine ⟨sh_ka (decide (kind = 3)) (sh_lp (sh_k1 (sh_ks kind nn f step)) n 0 0), h1, h2, ?_, ?_, ⟨n, r, sh_R0_up (by omega) (sh_R0_sheet (S := sh_ks kind nn f step) f12 f44 (fun j hj => by rw [f2 7 (by decide)]; exact w1 j hj) w2 (sh_ks_B kind nn f step) h0)⟩, by rw [f12 3 (by decide)], f12 4 (by decide), f44 1 (by decide), f12 45 (by decide)⟩
        · rw [eX0, if_pos q1, if_pos q2, if_pos q3]
          exact e1
        · rw [eM0, if_pos q1, if_pos q2, if_pos q3]
          rw [show f + nI 0 * step = f by rw [show nI 0 = (0 : Int32) from rfl, Int32.zero_mul, Int32.add_zero]] at e2
          exact e2
      · exact sh_ref (a := -2) h0 (by rw [eX0, if_pos q1, if_pos q2, if_neg q3]) (by rw [eM0, if_pos q1, if_pos q2, if_neg q3])
    · exact sh_ref (a := -1) h0 (by rw [eX0, if_pos q1, if_neg q2]) (by rw [eM0, if_pos q1, if_neg q2])
  · exact sh_ref (a := -1) h0 (by rw [eX0, if_neg q1]) (by rw [eM0, if_neg q1])
