/-! PURE, 77: calls: rule, 3: the class reads a rule -/
theorem sh_yb3 : ∀ c, c < 256 → sh_yb c ≤ 3 := by decide +kernel
theorem c_relholdY (d b c : Nat) (hb : b ≤ 4) (hc : c < 257) {o w : List Nat} {n : Nat} {cm : Nat → Bool} {dg : Nat} {wt : Bool} {h : av_M} (H : sh_YX o w n cm dg wt h) (hl : o.length + w.length < 40) :
    ∃ h', ((av_x (d + 2) 18 [.ref 23, .int (nI b)] h).bind fun q => (av_x (d + 2) 19 [.ref 23, .int (nI c)] q.2.2).bind fun q2 => some (((1 &&& 1) : Int32), (0 : Int64), av_u q2.2.2 23 8 1)) = some (1, 0, h') ∧ sh_fr [23, 24, 25] h h' ∧ sh_YX (sh_yr b w o).2 (c :: (sh_yr b w o).1) n cm dg true h' := by
  obtain ⟨e3, eo, e4, ew, e5, n4, ecm, e7, e8, hw⟩ := id H
  obtain ⟨h1, r1, r2, r3, r4, r5, r6, r7⟩ := c_relY d b hb w o h (by omega) e3 eo e4 ew hw
  have hm := sh_yr_mem b w o
  have hlen := sh_yr_len b w o
  have R : av_x (d + 2) 18 [.ref 23, .int (nI b)] h = some (0, 0, h1) := by rw [eX3_release_r23_in]; exact r1
  generalize sh_yr b w o = P at r2 r3 r4 r5 hm hlen ⊢
  obtain ⟨w1, o1⟩ := P
  have hl1 : w1.length + o1.length = w.length + o.length := hlen
  rw [R]
  simp only [Option.bind_some]
  rw [c_holdY (d + 1) w1.length (nI c) h1 (by omega) r4]
  simp only [Option.bind_some]
  rw [sh_111]
  refine ⟨_, rfl, sh_fr_tr (sh_fr_up r6 (by decide)) (sh_fr_u (by decide) (sh_fr_u (by decide) (sh_fr_u (by decide) (sh_fr_refl _ _)))) (fun _ q => q), ?_⟩
  exact ⟨r2, r3, rfl, sh_ls_u (g := id) r5, by show h1 23 5 = nI n; rw [r7 5 (by decide) (by decide)]; exact e5, n4, fun i hi => by show bt (h1 23 6) i = cm i; rw [r7 6 (by decide) (by decide)]; exact ecm i hi, fun z => (nomatch z), rfl, List.forall_mem_cons.mpr ⟨hc, fun a z => hw a (hm a z)⟩⟩
theorem c_betwY (d c : Nat) (hc : c < 256) {o w : List Nat} {n : Nat} {cm : Nat → Bool} {dg : Nat} {h : av_M} (H : sh_YX o w n cm dg false h) (hl : o.length + w.length < 40) : sh_TK (d + 3) 15 (.int (nI c)) o w (if sh_yb c = 0 then none else if sh_yb c = 1 ∧ cm n = true then none else some ((sh_yr (sh_yb c) w o).2, c :: (sh_yr (sh_yb c) w o).1, n, if sh_yb c = 1 then sh_ub cm n true else cm, dg, true)) h := by
  obtain ⟨e3, eo, e4, ew, e5, n4, ecm, e7, e8, hw⟩ := id H
  have b3 := sh_yb3 c hc
  have hlen := sh_yr_len (sh_yb c) w o
  by_cases g0 : sh_yb c = 0
  · rw [if_pos g0]
    refine sh_TK_n ?_
    rw [eX3_takeBetween_r23_in, c_binding (d + 1) c (by omega), g0]
    rfl
  rw [if_neg g0]
  have nb : ¬ nI (sh_yb c) < 1 := nI_nlt (b := 1) (by omega) (by omega)
  have nb3 : nI (sh_yb c) ≤ 3 := nI_le (b := 3) b3 (by decide)
  by_cases g1 : sh_yb c = 1
  · have is : av_x (d + 2) 108 [.int (h 23 6), .int (h 23 5)] h = some (sh_i (cm n), 0, h) := by
      rw [e5, c_isIn (d + 1) (h 23 6) n h, sh_b_bt _ (by omega), ecm n n4]
    by_cases g2 : cm n = true
    · rw [if_pos ⟨g1, g2⟩]
      refine sh_TK_n ?_
      rw [eX3_takeBetween_r23_in, c_binding (d + 1) c (by omega)]
      simp only [Option.bind_some]
      rw [if_neg nb, if_pos nb3, if_pos (show nI (sh_yb c) = 1 by rw [g1]; rfl), is, g2]
      rfl
    · rw [if_neg (fun z => g2 z.2), if_pos g1]
      have H1 : sh_YX o w n (sh_ub cm n true) dg false (av_u h 23 6 ((h 23 6) ||| ((1 : Int32) <<< ((h 23 5) &&& 31)))) := by
        refine ⟨e3, eo, e4, ew, e5, n4, ?_, e7, e8, hw⟩
        intro i hi
        show bt ((h 23 6) ||| ((1 : Int32) <<< ((h 23 5) &&& 31))) i = sh_ub cm n true i
        rw [e5, b_or, sh_bit1 (by omega) (by omega), ecm i hi]
        unfold sh_ub
        by_cases e : i = n
        · rw [if_pos e, decide_eq_true e]; simp
        · rw [if_neg e, decide_eq_false e]; simp
      obtain ⟨h', k1, k2, k3⟩ := c_relholdY d (sh_yb c) c (by omega) (by omega) H1 hl
      have K : av_x (d + 3) 15 [.ref 23, .int (nI c)] h = some (1, 0, h') := by
        rw [eX3_takeBetween_r23_in, c_binding (d + 1) c (by omega)]
        simp only [Option.bind_some]
        rw [if_neg nb, if_pos nb3, if_pos (show nI (sh_yb c) = 1 by rw [g1]; rfl), is, show cm n = false by simpa using g2]
        simp only [Option.bind_some]
        rw [if_pos (show sh_i false = 0 from rfl)]
        exact k1
      refine sh_TK_s K (sh_fr_tr (sh_fr_u (by decide) (sh_fr_refl _ _)) k2 (fun _ q => q)) k3 ?_
      show (sh_yr (sh_yb c) w o).2.length + ((sh_yr (sh_yb c) w o).1.length + 1) ≤ _
      omega
  · rw [if_neg (fun z => g1 z.1), if_neg g1]
    obtain ⟨h', k1, k2, k3⟩ := c_relholdY d (sh_yb c) c (by omega) (by omega) H hl
    have K : av_x (d + 3) 15 [.ref 23, .int (nI c)] h = some (1, 0, h') := by
      rw [eX3_takeBetween_r23_in, c_binding (d + 1) c (by omega)]
      simp only [Option.bind_some]
      rw [if_neg nb, if_pos nb3, if_neg (show ¬ nI (sh_yb c) = 1 from fun z => g1 ((sh_cE (k := 1) (by omega) (by decide)).mp z))]
      exact k1
    refine sh_TK_s K k2 k3 ?_
    show (sh_yr (sh_yb c) w o).2.length + ((sh_yr (sh_yb c) w o).1.length + 1) ≤ _
    omega
theorem c_takeY (d c : Nat) (hc : c < 256) (s : sh_Y) {h : av_M} (H : sh_YS s h) (hl : s.1.length + s.2.1.length < 40) : sh_TK (d + 5) 12 (.int (nI c)) s.1 s.2.1 (sh_yd c s) h := by
  obtain ⟨o, w, n, cm, dg, wt⟩ := s
  have H : sh_YX o w n cm dg wt h := H
  have e8 := H.2.2.2.2.2.2.2.2.1
  have pass : ∀ (j : Nat) (q : Value) (r : Option sh_Y), sh_TK (d + 4) j q o w r h → (∀ z : Option av_R, z = av_x (d + 4) j [.ref 23, q] h → av_x (d + 5) 12 [.ref 23, .int (nI c)] h = z.bind fun q6 => some (((q6.1 &&& 1) : Int32), (0 : Int64), q6.2.2)) → sh_TK (d + 5) 12 (.int (nI c)) o w r h := by
    intro j q r T E
    have E := E _ rfl
    refine ⟨fun z => ?_, fun t z => ?_⟩
    · rw [E, T.1 z]; simp only [Option.bind_some, sh_001]
    · obtain ⟨h', t1, t2⟩ := T.2 t z
      exact ⟨h', by rw [E, t1]; simp only [Option.bind_some, sh_111], t2⟩
  cases wt with
  | true =>
    refine pass 13 _ _ (c_takeT d c hc H hl) fun z hz => ?_
    rw [eX3_take_r23_in, e8, if_neg (show ¬ sh_i true = 0 by decide), hz]
  | false =>
    have yd : sh_yd c (o, w, n, cm, dg, false) = if 48 ≤ c ∧ c ≤ 57 then (if 1 ≤ dg ∧ dg ≤ 2 ∧ 1 ≤ o.length then some (sh_y10 c o, w, n, cm, dg + 1, false) else none) else if c = 41 then (if n = 0 then none else some ((sh_yr 1 w o).2, (sh_yr 1 w o).1.tail, n - 1, cm, 0, false)) else if sh_yb c = 0 then none else if sh_yb c = 1 ∧ cm n = true then none else some ((sh_yr (sh_yb c) w o).2, c :: (sh_yr (sh_yb c) w o).1, n, if sh_yb c = 1 then sh_ub cm n true else cm, dg, true) := rfl
    show sh_TK (d + 5) 12 (.int (nI c)) o w (sh_yd c (o, w, n, cm, dg, false)) h
    rw [yd]
    by_cases g3 : 48 ≤ c ∧ c ≤ 57
    · rw [if_pos g3]
      refine pass 14 _ _ (c_digY (d + 3) c g3 H hl) fun z hz => ?_
      rw [eX3_take_r23_in, e8, if_pos (show sh_i false = 0 from rfl), if_neg (show ¬ nI c < 48 from nI_nlt (b := 48) g3.1 (by omega)), if_neg (show ¬ (57 : Int32) < nI c from nI_nlt (a := 57) g3.2 (by decide)), show nI c - 48 = nI (c - 48) from nI_sub (b := 48) g3.1, hz]
    rw [if_neg g3]
    by_cases g4 : c = 41
    · rw [if_pos g4]
      have K : av_x (d + 5) 12 [.ref 23, .int (nI c)] h = (av_x (d + 4) 17 [.ref 23] h).bind fun q2 => some (((q2.1 &&& 1) : Int32), (0 : Int64), q2.2.2) := by
        rw [eX3_take_r23_in, e8, if_pos (show sh_i false = 0 from rfl), if_pos (show nI c < 48 from nI_lt (b := 48) (by omega) (by decide)), if_pos (show nI c = 41 by rw [g4]; rfl)]
      obtain ⟨C0, C1⟩ := c_closeY (d + 1) H hl
      have hlen := sh_yr_len 1 w o
      by_cases g5 : n = 0
      · rw [if_pos g5]
        refine sh_TK_n ?_
        rw [K, C0 g5]
        simp only [Option.bind_some, sh_001]
      · rw [if_neg g5]
        obtain ⟨h', c1, c2, c3⟩ := C1 g5
        refine sh_TK_s (h' := h') (by rw [K, c1]; simp only [Option.bind_some, sh_111]) c2 c3 ?_
        show (sh_yr 1 w o).2.length + (sh_yr 1 w o).1.tail.length ≤ _
        rw [List.length_tail]
        omega
    · rw [if_neg g4]
      refine pass 15 _ _ (c_betwY (d + 1) c hc H hl) fun z hz => ?_
      have q4 : ¬ nI c = 41 := fun z => g4 ((sh_cE (k := 41) (by omega) (by decide)).mp z)
      rw [eX3_take_r23_in, e8, if_pos (show sh_i false = 0 from rfl), hz]
      by_cases g6 : c < 48
      · rw [if_pos (show nI c < 48 from nI_lt (b := 48) g6 (by decide)), if_neg q4]
      · rw [if_neg (show ¬ nI c < 48 from nI_nlt (b := 48) (by omega) (by omega)), if_pos (show (57 : Int32) < nI c from nI_lt (a := 57) (by omega) (by omega)), if_neg q4]
/-- t signs from p on -/
def sh_yg (G : Nat → Nat) : Nat → Nat → sh_Y → Option sh_Y
  | 0, _, s => some s
  | t + 1, p, s => (sh_yd (G p) s).bind fun s' => sh_yg G t (p + 1) s'
theorem sh_yg_add (G : Nat → Nat) : ∀ t u p s s', sh_yg G t p s = some s' → sh_yg G (t + u) p s = sh_yg G u (p + t) s' := by
  intro t
  induction t with
  | zero => intro u p s s' h; cases h; rw [Nat.zero_add, Nat.add_zero]
  | succ t ih =>
    intro u p s s' h
    rw [show t + 1 + u = (t + u) + 1 by omega]
    show (sh_yd (G p) s).bind _ = _
    have h : (sh_yd (G p) s).bind (fun s' => sh_yg G t (p + 1) s') = some s' := h
    cases e : sh_yd (G p) s with
    | none => rw [e] at h; cases h
    | some s1 =>
      rw [e] at h
      show sh_yg G (t + u) (p + 1) s1 = _
      rw [ih u (p + 1) s1 s' h, show p + 1 + t = p + (t + 1) by omega]
/-- it reads up to q, and is s then -/
def sh_yq (G : Nat → Nat) (p q : Nat) (s s' : sh_Y) : Prop := p ≤ q ∧ sh_yg G (q - p) p s = some s'
theorem sh_yq_0 (G : Nat → Nat) (p : Nat) (s : sh_Y) : sh_yq G p p s s := ⟨Nat.le_refl _, by rw [Nat.sub_self]; rfl⟩
theorem sh_yq_t {G : Nat → Nat} {p q r : Nat} {s s1 s2 : sh_Y} (h1 : sh_yq G p q s s1) (h2 : sh_yq G q r s1 s2) : sh_yq G p r s s2 := by
  refine ⟨Nat.le_trans h1.1 h2.1, ?_⟩
  have := sh_yg_add G (q - p) (r - q) p s s1 h1.2
  rw [show q - p + (r - q) = r - p by have := h1.1; have := h2.1; omega] at this
  rw [this, show p + (q - p) = q by have := h1.1; omega]
  exact h2.2
theorem sh_yq_1 {G : Nat → Nat} {p : Nat} {s s1 : sh_Y} (h : sh_yd (G p) s = some s1) : sh_yq G p (p + 1) s s1 := by
  refine ⟨by omega, ?_⟩
  rw [show p + 1 - p = 1 by omega]
  show (sh_yd (G p) s).bind _ = _
  rw [h]
  rfl
