/-! PURE, 30: calls: order -/
def sh_cb (P : Nat → Bool) : Nat → Nat → Nat
  | 0, _ => 0
  | t + 1, k => (match P k with
    | true => 1
    | false => 0) + sh_cb P t (k + 1)
theorem sh_cb_le (P : Nat → Bool) : ∀ t k, sh_cb P t k ≤ t := by
  intro t
  induction t with
  | zero => intro k; exact Nat.le_refl _
  | succ t ih =>
    intro k
    have := ih (k + 1)
    unfold sh_cb
    cases P k <;> dsimp only <;> omega
theorem sh_cb_add {P Q R : Nat → Bool} : ∀ t k, (∀ j, k ≤ j → j < k + t → (R j = (P j || Q j) ∧ (P j && Q j) = false)) → sh_cb P t k + sh_cb Q t k = sh_cb R t k := by
  intro t
  induction t with
  | zero => intro k _; rfl
  | succ t ih =>
    intro k h
    have i := ih (k + 1) (fun j h1 h2 => h j (by omega) (by omega))
    obtain ⟨a, b⟩ := h k (Nat.le_refl _) (by omega)
    unfold sh_cb
    rw [a]
    cases hP : P k <;> cases hQ : Q k <;> rw [hP, hQ] at b <;> first | (exfalso; exact absurd b (by decide)) | (dsimp only; simp only [Bool.or_true, Bool.true_or, Bool.or_false]; omega)
def sh_oa (now : Int32) (k : Nat) (l : List Int64) : List Int64 := match sh_b now k with
  | true => l ++ [Int32.toInt64 (nI k)]
  | false => l
def sh_od (n : Nat) (F : (Nat → Int32) → (Nat → Int32)) (_ : Nat) (z : (Nat → Int32) × List Int64) : (Nat → Int32) × List Int64 := (F z.1, sh_lp (sh_oa (F z.1 28 &&& (z.1 28 ^^^ (-1)))) n 0 z.2)
theorem sh_oa_len (now : Int32) : ∀ t k l, (sh_lp (sh_oa now) t k l).length = l.length + sh_cb (sh_b now) t k := by
  intro t
  induction t with
  | zero => intro k l; rfl
  | succ t ih =>
    intro k l
    show (sh_lp (sh_oa now) t (k + 1) (sh_oa now k l)).length = _
    rw [ih (k + 1), show sh_cb (sh_b now) (t + 1) k = (match sh_b now k with
      | true => 1
      | false => 0) + sh_cb (sh_b now) t (k + 1) from rfl]
    unfold sh_oa
    cases sh_b now k <;> dsimp only
    · omega
    · rw [List.length_append]
      show l.length + 1 + _ = _
      omega
theorem sh_od_cb {n : Nat} (hn : n ≤ 7) {N m L : Nat} {r : Nat → Int32} {h : av_M} {F : (Nat → Int32) → (Nat → Int32)} (hF : F = sh_F n m h) (ρ : Nat → Int32) : sh_cb (sh_b (F ρ 28 &&& (ρ 28 ^^^ (-1)))) n 0 + sh_cb (fun j => !sh_b (F ρ 28) j) n 0 = sh_cb (fun j => !sh_b (ρ 28) j) n 0 := by
  apply sh_cb_add
  intro j _ hj
  obtain ⟨p, _, hp⟩ := sh_hr_28 hn (h 46) (h 47) (sh_rl m (h 20)) ρ
  have hp : F ρ 28 = ρ 28 ||| p := by rw [hF]; exact hp
  rw [hp]
  simp only [sh_b_bt _ (show j < 32 by omega), b_and, b_or, b_xor, b_m1 j (by omega)]
  cases bt (ρ 28) j <;> cases bt p j <;> exact ⟨rfl, rfl⟩
theorem f_ordi (d : Nat) {N n m L : Nat} {r ρ : Nat → Int32} {h : av_M} (E : sh_En N n m L r h) (b bf now : Int32) : ∀ t k (h1 : av_M) (l : List Int64), k + t = n → sh_fut n h ρ h1 → sh_t1 l h1 → l.length + sh_cb (sh_b now) t k ≤ 7 →
    ∃ h', av_xp (d + 20) 68 63 [.ref 0, .int (nI l.length), .int b, .int bf, .int now, .int (nI k)] [] h1 = av_xp (d + 20) 68 22 [.ref 0, .int (nI (sh_lp (sh_oa now) t k l).length), .int (b + 1), .int bf, .int now, .int (nI n)] [] h' ∧ sh_fut n h ρ h' ∧ sh_t1 (sh_lp (sh_oa now) t k l) h' := by
  have hn := E.1.1.1
  intro t
  induction t with
  | zero =>
    intro k h1 l e hf ht _
    rw [eX6_order_r0_63, hf.2.1, if_pos (sh_ge (by omega) (by omega)), show k = n by omega]
    exact ⟨h1, rfl, hf, ht⟩
  | succ t ih =>
    intro k h1 l e hf ht hl
    rw [eX6_order_r0_63, hf.2.1, if_neg (sh_lt (by omega) (by omega)), c_isIn]
    simp only [Option.bind_some]
    have step : sh_lp (sh_oa now) (t + 1) k l = sh_lp (sh_oa now) t (k + 1) (sh_oa now k l) := rfl
    rw [step]
    unfold sh_cb at hl
    cases hb : sh_b now k
    · rw [hb] at hl
      have es : sh_oa now k l = l := by unfold sh_oa; rw [hb]
      rw [if_pos (show sh_i false = 0 from rfl), nI_1, es]
      exact ih (k + 1) h1 l (by omega) hf ht (by omega)
    · rw [hb] at hl
      dsimp only at hl
      have es : sh_oa now k l = l ++ [Int32.toInt64 (nI k)] := by unfold sh_oa; rw [hb]
      rw [if_neg (by decide)]
      obtain ⟨h2, e2, f2, t2⟩ := c_add (d + 19) h1 l (Int32.toInt64 (nI k)) (by omega) ht
      rw [e2]
      simp only [Option.bind_some, nI_1]
      have := ih (k + 1) h2 (l ++ [Int32.toInt64 (nI k)]) (by omega) (f_t1 f2 rfl hf) t2 (by rw [List.length_append]; show l.length + 1 + _ ≤ 7; omega)
      rw [es]
      rw [List.length_append] at this
      exact this
theorem f_ordo (d : Nat) {N n m L : Nat} {r : Nat → Int32} {h : av_M} {F : (Nat → Int32) → (Nat → Int32)} (E : sh_En N n m L r h) (hF : F = sh_F n m h) : ∀ t k (h1 : av_M) (ρ : Nat → Int32) (l : List Int64) (x y z : Value), k + t = 100 → (x = .null ∧ y = .null ∧ z = .null ∨ ∃ a b c, x = .int a ∧ y = .int b ∧ z = .int c) → sh_fut n h ρ h1 → sh_t1 l h1 → l.length + sh_cb (fun j => !sh_b (ρ 28) j) n 0 ≤ 7 →
    ∃ h', av_xp (d + 20) 68 22 [.ref 0, .int (nI l.length), .int (nI k), x, y, z] [] h1 = some (nI (sh_lp (sh_od n F) t k (ρ, l)).2.length, 0, h') ∧ sh_c h h' ∧ sh_t1 (sh_lp (sh_od n F) t k (ρ, l)).2 h' ∧ (sh_lp (sh_od n F) t k (ρ, l)).2.length ≤ 7 := by
  have hn := E.1.1.1
  intro t
  induction t with
  | zero =>
    intro k h1 ρ l x y z e hx hf ht hl
    have eq : av_xp (d + 20) 68 22 [.ref 0, .int (nI l.length), .int (nI k), x, y, z] [] h1 = some (nI l.length, 0, h1) := by
      rcases hx with ⟨rfl, rfl, rfl⟩ | ⟨a, b, c, rfl, rfl, rfl⟩
      · rw [eX6_order_r0_22, if_pos (show (99 : Int32) < nI k from nI_lt (a := 99) (by omega) (by omega))]
      · rw [eX6_order_r0_22_2, if_pos (show (99 : Int32) < nI k from nI_lt (a := 99) (by omega) (by omega))]
    exact ⟨h1, eq, hf.1, ht, by show l.length ≤ 7; omega⟩
  | succ t ih =>
    intro k h1 ρ l x y z e hx hf ht hl
    obtain ⟨h2, e2, f2, q3, q4⟩ := f_hour (d + 15) E hF hf
    have w1 : h1 12 8 = ρ 28 := hf.2.2.2.1.2.2.2.2.1
    have w2 : h2 12 8 = F ρ 28 := f2.2.2.2.1.2.2.2.2.1
    have eq : av_xp (d + 20) 68 22 [.ref 0, .int (nI l.length), .int (nI k), x, y, z] [] h1 = av_xp (d + 20) 68 63 [.ref 0, .int (nI l.length), .int (nI k), .int (ρ 28), .int (F ρ 28 &&& (ρ 28 ^^^ (-1))), .int (nI 0)] [] h2 := by
      rcases hx with ⟨rfl, rfl, rfl⟩ | ⟨a, b, c, rfl, rfl, rfl⟩
      · rw [eX6_order_r0_22, if_neg (show ¬ (99 : Int32) < nI k from nI_nlt (b := k) (a := 99) (by omega) (by omega)), e2]
        simp only [Option.bind_some]
        rw [w1, w2]
        rfl
      · rw [eX6_order_r0_22_2, if_neg (show ¬ (99 : Int32) < nI k from nI_nlt (b := k) (a := 99) (by omega) (by omega)), e2]
        simp only [Option.bind_some]
        rw [w1, w2]
        rfl
    have hcb := sh_od_cb (N := N) (L := L) (r := r) hn hF ρ
    have t2 : sh_t1 l h2 := by
      unfold sh_t1 at ht ⊢
      rw [q3, q4]
      exact ht
    obtain ⟨h3, e3, f3, t3⟩ := f_ordi d E (nI k) (ρ 28) (F ρ 28 &&& (ρ 28 ^^^ (-1))) n 0 h2 l (by omega) f2 t2 (by omega)
    rw [eq, e3, nI_1]
    have hlen := sh_oa_len (F ρ 28 &&& (ρ 28 ^^^ (-1))) n 0 l
    exact ih (k + 1) h3 (F ρ) (sh_lp (sh_oa (F ρ 28 &&& (ρ 28 ^^^ (-1)))) n 0 l) _ _ _ (by omega) (Or.inr ⟨_, _, _, rfl, rfl, rfl⟩) f3 t3 (by omega)
theorem t_ordi (d : Nat) {N n m L : Nat} {r ρ : Nat → Int32} {h : av_M} (E : sh_En N n m L r h) (b bf : Int32) : ∀ t k (h1 : av_M) (l : List Int64), k + t = n → sh_th n h ρ h1 → sh_t2 l h1 → l.length + sh_cb (sh_b (ρ 28 &&& (bf ^^^ (-1)))) t k ≤ 7 →
    ∃ h', av_xp (d + 20) 220 47 [.ref 44, .int b, .int bf, .int (nI k)] [] h1 = av_xp (d + 20) 220 23 [.ref 44, .int (b + 1), .int bf, .int (nI n)] [] h' ∧ sh_th n h ρ h' ∧ sh_t2 (sh_lp (sh_oa (ρ 28 &&& (bf ^^^ (-1)))) t k l) h' := by
  have hn := E.1.1.1
  intro t
  induction t with
  | zero =>
    intro k h1 l e hf ht _
    rw [eX7_order_r44_47, (t_env E hf.1).2.1, if_pos (sh_ge (by omega) (by omega)), show k = n by omega]
    exact ⟨h1, rfl, hf, ht⟩
  | succ t ih =>
    intro k h1 l e hf ht hl
    rw [eX7_order_r44_47, (t_env E hf.1).2.1, if_neg (sh_lt (by omega) (by omega)), hf.2.1 28 (by decide), c_has]
    simp only [Option.bind_some]
    have step : sh_lp (sh_oa (ρ 28 &&& (bf ^^^ (-1)))) (t + 1) k l = sh_lp (sh_oa (ρ 28 &&& (bf ^^^ (-1)))) t (k + 1) (sh_oa (ρ 28 &&& (bf ^^^ (-1))) k l) := rfl
    rw [step]
    unfold sh_cb at hl
    cases hb : sh_b (ρ 28 &&& (bf ^^^ (-1))) k
    · rw [hb] at hl
      have es : sh_oa (ρ 28 &&& (bf ^^^ (-1))) k l = l := by unfold sh_oa; rw [hb]
      rw [if_pos (show sh_i false = 0 from rfl), nI_1, es]
      exact ih (k + 1) h1 l (by omega) hf ht (by omega)
    · rw [hb] at hl
      dsimp only at hl
      have es : sh_oa (ρ 28 &&& (bf ^^^ (-1))) k l = l ++ [Int32.toInt64 (nI k)] := by unfold sh_oa; rw [hb]
      rw [if_neg (by decide)]
      obtain ⟨h2, e2, m2, f2, t2⟩ := c_enters (d + 19) h1 l (Int32.toInt64 (nI k)) (by omega) ht
      rw [e2]
      simp only [Option.bind_some, nI_1]
      have := ih (k + 1) h2 (l ++ [Int32.toInt64 (nI k)]) (by omega) (t_m m2 f2 hf) t2 (by rw [List.length_append]; show l.length + 1 + _ ≤ 7; omega)
      rw [es]
      exact this
theorem t_ordo (d : Nat) {N n m L : Nat} {r : Nat → Int32} {h : av_M} {F : (Nat → Int32) → (Nat → Int32)} (E : sh_En N n m L r h) (hF : F = sh_F n m h) : ∀ t k q (h1 : av_M) (ρ : Nat → Int32) (l : List Int64) (x y : Value), k + t = 99 → (x = .null ∧ y = .null ∨ ∃ a b, x = .int a ∧ y = .int b) → sh_th n h ρ h1 → sh_t2 l h1 → l.length + sh_cb (fun j => !sh_b (ρ 28) j) n 0 ≤ 7 →
    ∃ h', av_xp (d + 20) 220 23 [.ref 44, .int (nI k), x, y] [] h1 = some (nI (sh_lp (sh_od n F) t q (ρ, l)).2.length, 0, h') ∧ sh_m h h' ∧ sh_t2 (sh_lp (sh_od n F) t q (ρ, l)).2 h' := by
  have hn := E.1.1.1
  intro t
  induction t with
  | zero =>
    intro k q h1 ρ l x y e hx hf ht hl
    have eq : av_xp (d + 20) 220 23 [.ref 44, .int (nI k), x, y] [] h1 = some (nI l.length, 0, h1) := by
      rcases hx with ⟨rfl, rfl⟩ | ⟨a, b, rfl, rfl⟩
      · rw [eX7_order_r44_23, if_pos (show (99 : Int32) ≤ nI k from nI_le (a := 99) (by omega) (by omega)), ht.1]
      · rw [eX7_order_r44_23_2, if_pos (show (99 : Int32) ≤ nI k from nI_le (a := 99) (by omega) (by omega)), ht.1]
    exact ⟨h1, eq, hf.1, ht⟩
  | succ t ih =>
    intro k q h1 ρ l x y e hx hf ht hl
    obtain ⟨h2, e2, f2, q3, q4⟩ := t_hour (d + 15) E hF hf
    have w1 : h1 49 28 = ρ 28 := hf.2.1 28 (by decide)
    have eq : av_xp (d + 20) 220 23 [.ref 44, .int (nI k), x, y] [] h1 = av_xp (d + 20) 220 47 [.ref 44, .int (nI k), .int (ρ 28), .int (nI 0)] [] h2 := by
      rcases hx with ⟨rfl, rfl⟩ | ⟨a, b, rfl, rfl⟩
      · rw [eX7_order_r44_23, if_neg (show ¬ (99 : Int32) ≤ nI k from sh_lt (n := 99) (by omega) (by omega)), e2]
        simp only [Option.bind_some]
        rw [w1]
        rfl
      · rw [eX7_order_r44_23_2, if_neg (show ¬ (99 : Int32) ≤ nI k from sh_lt (n := 99) (by omega) (by omega)), e2]
        simp only [Option.bind_some]
        rw [w1]
        rfl
    have hcb := sh_od_cb (N := N) (L := L) (r := r) hn hF ρ
    have t2 : sh_t2 l h2 := by
      unfold sh_t2 at ht ⊢
      rw [q3, q4]
      exact ht
    obtain ⟨h3, e3, f3, t3⟩ := t_ordi d E (nI k) (ρ 28) n 0 h2 l (by omega) f2 t2 (by omega)
    rw [eq, e3, nI_1]
    have hlen := sh_oa_len (F ρ 28 &&& (ρ 28 ^^^ (-1))) n 0 l
    exact ih (k + 1) (q + 1) h3 (F ρ) (sh_lp (sh_oa (F ρ 28 &&& (ρ 28 ^^^ (-1)))) n 0 l) _ _ (by omega) (Or.inr ⟨_, _, rfl, rfl⟩) f3 t3 (by omega)
theorem c_order : sh_P 68 220 [] := sh_qF fun d N n m L r h F E hF => by
  have hn := E.1.1.1
  have hcb := sh_cb_le (fun j => !sh_b (r 28) j) n 0
  obtain ⟨h1, e1, f1, q3, q4⟩ := f_copy (d + 98) E (sh_c_refl h)
  obtain ⟨h2, e2, f2, o2, l2⟩ := f_ordo (d + 79) E hF 99 1 (av_u h1 3 1 0) r [] .null .null .null (by omega) (Or.inl ⟨rfl, rfl, rfl⟩) (f_t1 (S := [3, 4]) (sh_fr_u (by decide) (sh_fr_refl _ _)) rfl f1) (sh_t1_nil rfl) (by show 0 + _ ≤ 7; omega)
  refine ⟨nI (sh_lp (sh_od n F) 99 1 (r, [])).2.length, some (sh_lp (sh_od n F) 99 1 (r, [])).2, fun l q => by injection q with q; subst q; exact l2, ⟨h2, ?_, f2, o2⟩, ?_⟩
  · rw [eX6_order_r0_in, e1]
    simp only [Option.bind_some]
    rw [c_clear]
    exact e2
  · intro h' hc E' hF'
    obtain ⟨h1, e1, f1, q3, q4⟩ := t_copy (d + 98) E' (sh_m_s (k := 0) (v := 0) (by decide) (sh_m_refl h'))
    obtain ⟨h2, e2, f2, o2⟩ := t_ordo (d + 79) E' hF' 99 0 1 (av_u h1 44 1 0) r [] .null .null (by omega) (Or.inl ⟨rfl, rfl⟩) (t_s (k := 1) (v := 0) (by decide) f1) (sh_t2_nil rfl) (by show 0 + _ ≤ 7; omega)
    refine ⟨h2, ?_, f2, o2⟩
    rw [eX7_order_r44_in, e1]
    exact e2
