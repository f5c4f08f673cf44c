/-! PURE, 46: calls: asks -/
def sh_gd (q : Nat) : Bool := sh_ir 0 4 (nI (q / 10)) && sh_ir (sh_lo (nI (q / 10))) (sh_hi (nI (q / 10))) (nI (q % 10))
theorem sh_q10 : ∀ q, q < 50 → nI q / 10 = nI (q / 10) ∧ nI q - nI q / 10 * 10 = nI (q % 10) := by decide +kernel
def sh_ay (n : Nat) (col str r : Nat → Int32) (w : Nat) (q : Nat) : Nat := sh_cb (fun k => bt (nI w) k && sh_is n col str r (nI (q / 10)) (nI (q % 10)) k) n 0
def sh_aS (L : Nat) (y : Nat → Nat) (q : Nat) (o : Option (Nat × Nat)) : Option (Nat × Nat) := match sh_gd q with
  | true => sh_am (sh_mo2 L (y q)) q o
  | false => o
def sh_x4 (x1 x2 x3 x4 : Value) : Prop := (x1 = .null ∧ x2 = .null ∧ x3 = .null ∧ x4 = .null) ∨ (∃ (y1 : Int32) (y2 : Int32), x1 = .int y1 ∧ x2 = .int y2 ∧ x3 = .null ∧ x4 = .null) ∨ (∃ (y1 : Int32) (y2 : Int32) (y3 : Int32) (y4 : Int32), x1 = .int y1 ∧ x2 = .int y2 ∧ x3 = .int y3 ∧ x4 = .int y4)
theorem sh_x4i {x1 x2 x3 x4 : Value} (a b : Int32) (h : sh_x4 x1 x2 x3 x4) : sh_x4 (.int a) (.int b) x3 x4 := by
  rcases h with ⟨_, _, h3, h4⟩ | ⟨_, _, _, _, h3, h4⟩ | ⟨_, _, y3, y4, _, _, h3, h4⟩
  · exact Or.inr (Or.inl ⟨_, _, rfl, rfl, h3, h4⟩)
  · exact Or.inr (Or.inl ⟨_, _, rfl, rfl, h3, h4⟩)
  · exact Or.inr (Or.inr ⟨_, _, _, _, rfl, rfl, h3, h4⟩)
theorem sh_pq_n {n u : Nat} (hn : n ≤ 7) {P : Nat → Bool} (h : ∀ j, j < 32 → bt (nI u) j = (decide (j < n) && P j)) : sh_pq u = sh_cb P n 0 := by
  have e1 : sh_pq u = sh_cb (fun j => bt (nI u) j) 7 0 := rfl
  rw [e1, show 7 = n + (7 - n) by omega, sh_cb_cut n (7 - n) 0 (fun j h1 h2 => by rw [h j (by omega), decide_eq_false (by omega)]; rfl)]
  have := sh_cb_add (P := fun j => bt (nI u) j) (Q := fun _ => false) (R := P) n 0 (fun j _ hj => by
    rw [h j (by omega), decide_eq_true (show j < n by omega)]
    cases P j <;> exact ⟨rfl, rfl⟩)
  have z : ∀ t k, sh_cb (fun _ => false) t k = 0 := by
    intro t
    induction t with
    | zero => intro k; rfl
    | succ t ih =>
      intro k
      show 0 + sh_cb (fun _ => false) t (k + 1) = 0
      rw [ih]
  rw [z, Nat.add_zero] at this
  exact this
theorem sh_cb_sub {P Q : Nat → Bool} (t k : Nat) : sh_cb (fun j => P j && Q j) t k ≤ sh_cb P t k := sh_cb_mono t k (fun j _ _ h => by rw [Bool.and_eq_true] at h; exact h.1)
theorem sh_sm_lt {n : Nat} (hn : n ≤ 7) {s : Int32} (h : ∀ j, n ≤ j → j < 32 → bt s j = false) : ∃ w, w < 128 ∧ s = nI w := sh_sm_nI (fun i h1 h2 => h i (by omega) h2)
/-- how many of w are so: the class's count -/
theorem f_ask_y {n w : Nat} (hn : n ≤ 7) (col str r : Nat → Int32) (hw : w < 128) (hwb : ∀ j, n ≤ j → j < 32 → bt (nI w) j = false) {q : Nat} (hg : sh_gd q = true) : sh_bc (nI w &&& sh_ow n col str r (nI (q / 10)) (nI (q % 10))) = nI (sh_ay n col str r w q) := by
  have hv : sh_ir (sh_lo (nI (q / 10))) (sh_hi (nI (q / 10))) (nI (q % 10)) = true := by
    unfold sh_gd at hg
    rw [Bool.and_eq_true] at hg
    exact hg.2
  have hb : ∀ j, j < 32 → bt (nI w &&& sh_ow n col str r (nI (q / 10)) (nI (q % 10))) j = (decide (j < n) && (bt (nI w) j && sh_is n col str r (nI (q / 10)) (nI (q % 10)) j)) := by
    intro j hj
    rw [b_and, sh_ow_bt hn col str r hv hj]
    cases decide (j < n) <;> cases bt (nI w) j <;> rfl
  obtain ⟨u, hu, eu⟩ := sh_sm_lt hn (s := nI w &&& sh_ow n col str r (nI (q / 10)) (nI (q % 10))) (fun j h1 h2 => by rw [hb j h2, decide_eq_false (by omega)]; rfl)
  rw [eu] at hb ⊢
  rw [sh_bc_pc u hu, sh_pq_n hn hb]
  rfl
theorem f_ask_l (d n w : Nat) (h : av_M) (r : Nat → Int32) (y : Nat → Nat) (hn : n ≤ 7) (hm : h 5 6 = nI n) (he : h 5 7 = sh_e n) (hv : sh_SV 5 h r) (hw : w < 128) (hwb : ∀ j, n ≤ j → j < 32 → bt (nI w) j = false) (hy : ∀ q, q < 50 → sh_gd q = true → sh_ay n (h 6) (h 7) r w q = y q) (hyL : ∀ q, y q ≤ sh_pq w) : ∀ t q (o : Option (Nat × Nat)) (x1 x2 x3 x4 : Value), q + t = 50 → sh_x4 x1 x2 x3 x4 → sh_aI (sh_pq w) o → sh_lp (sh_aS (sh_pq w) y) t q o ≠ none →
    ∃ h', av_xp (d + 20) 90 27 [.ref 0, .int (nI w), .int (nI (sh_pq w)), .int (sh_af (nI (sh_pq w + 1)) o), .int (sh_ab 0 o), .int (nI q), x1, x2, x3, x4] [] h = some (nI (sh_oz (sh_lp (sh_aS (sh_pq w) y) t q o)).2, 0, h') ∧ sh_c h h' ∧ sh_t1 [Int32.toInt64 (nI (sh_oz (sh_lp (sh_aS (sh_pq w) y) t q o)).1)] h' := by
  have hp7 := sh_pq_le w
  intro t
  induction t with
  | zero =>
    intro q o x1 x2 x3 x4 e hx hI hne
    have eq : q = 50 := by omega
    subst eq
    rw [mX6_asks_r0_27 _ _ _ _ _ _ _ _ _ _ _ hx, if_pos (show (50 : Int32) ≤ nI 50 by decide)]
    cases o with
    | none => exact absurd rfl hne
    | some z =>
      obtain ⟨h2, e2, f2, t2⟩ := c_tell (d + 18) h (Int32.toInt64 (nI z.1))
      rw [show sh_af (nI (sh_pq w + 1)) (some z) = nI z.1 from rfl, e2]
      exact ⟨h2, rfl, sh_c_of f2 (by decide), t2⟩
  | succ t ih =>
    intro q o x1 x2 x3 x4 e hx hI hne
    obtain ⟨d1, d2⟩ := sh_q10 q (by omega)
    rw [mX6_asks_r0_27 _ _ _ _ _ _ _ _ _ _ _ hx, if_neg (show ¬ (50 : Int32) ≤ nI q from sh_lt (n := 50) (by omega) (by decide)), d2, d1, c_mayBeHeard]
    simp only [Option.bind_some]
    rw [show (sh_ir 0 4 (nI (q / 10)) && sh_ir (sh_lo (nI (q / 10))) (sh_hi (nI (q / 10))) (nI (q % 10))) = sh_gd q from rfl]
    have step : sh_lp (sh_aS (sh_pq w) y) (t + 1) q o = sh_lp (sh_aS (sh_pq w) y) t (q + 1) (sh_aS (sh_pq w) y q o) := rfl
    rw [step] at hne ⊢
    cases hg : sh_gd q
    · have es : sh_aS (sh_pq w) y q o = o := by unfold sh_aS; rw [hg]
      rw [es] at hne ⊢
      rw [if_pos (show sh_i false = 0 from rfl), nI_1]
      exact ih (q + 1) o _ _ _ _ (by omega) (sh_x4i _ _ hx) hI hne
    · have es : sh_aS (sh_pq w) y q o = sh_am (sh_mo2 (sh_pq w) (y q)) q o := by unfold sh_aS; rw [hg]
      have hm2 := sh_mo2_le (hyL q)
      have hI2 := sh_am_I (b := q) hm2 hI
      rw [es] at hne ⊢
      rw [if_neg (show ¬ sh_i true = 0 by decide), c_ofWhom _ n h r _ _ hn hm he hv]
      simp only [Option.bind_some, c_bc]
      have hyq := hyL q
      rw [f_ask_y hn (h 6) (h 7) r hw hwb hg, hy q (by omega) hg, sh_most (by omega) hyq, nI_1]
      obtain ⟨t1, t2⟩ := sh_am_t q hm2 (by omega) (show ¬ nI (sh_pq w + 1) ≤ nI (sh_mo2 (sh_pq w) (y q)) from nI_ge (by omega) (by omega)) hI
      by_cases c : sh_af (nI (sh_pq w + 1)) o ≤ nI (sh_mo2 (sh_pq w) (y q))
      · rw [t1 c] at hne ⊢
        rw [if_pos c]
        exact ih (q + 1) o _ _ _ _ (by omega) (Or.inr (Or.inr ⟨_, _, _, _, rfl, rfl, rfl, rfl⟩)) hI hne
      · rw [t2 c] at hI2 hne ⊢
        rw [if_neg c]
        exact ih (q + 1) (some (sh_mo2 (sh_pq w) (y q), q)) _ _ _ _ (by omega) (Or.inr (Or.inr ⟨_, _, _, _, rfl, rfl, rfl, rfl⟩)) hI2 hne
/-! the reference -/
theorem t_ask_y (d n w p v : Nat) (A B : Int32) (h : av_M) (r : Nat → Int32) (hn : n ≤ 7) (hm : h 44 3 = nI n) (hv : sh_MV 48 h r) : ∀ t k, k + t = n → av_xp (d + 20) 255 55 [.ref 44, .int (nI w), .int A, .int B, .int (nI p), .int (nI v), .int (nI (sh_cb (fun k => bt (nI w) k && sh_is n (h 46) (h 47) r (nI p) (nI v) k) k 0)), .int (nI k)] [] h = av_xp (d + 20) 255 55 [.ref 44, .int (nI w), .int A, .int B, .int (nI p), .int (nI v), .int (nI (sh_cb (fun k => bt (nI w) k && sh_is n (h 46) (h 47) r (nI p) (nI v) k) n 0)), .int (nI n)] [] h := by
  intro t
  induction t with
  | zero => intro k e; rw [show k = n by omega]
  | succ t ih =>
    intro k e
    have hcb : nI (sh_cb (fun k => bt (nI w) k && sh_is n (h 46) (h 47) r (nI p) (nI v) k) k 0) + sh_i (bt (nI w) k && sh_is n (h 46) (h 47) r (nI p) (nI v) k) = nI (sh_cb (fun k => bt (nI w) k && sh_is n (h 46) (h 47) r (nI p) (nI v) k) (k + 1) 0) := by
      have := sh_cb_split (fun k => bt (nI w) k && sh_is n (h 46) (h 47) r (nI p) (nI v) k) k 1 0
      rw [this, Nat.zero_add]
      show _ = nI (_ + ((match (bt (nI w) k && sh_is n (h 46) (h 47) r (nI p) (nI v) k) with
        | true => 1
        | false => 0) + 0))
      cases (bt (nI w) k && sh_is n (h 46) (h 47) r (nI p) (nI v) k)
      · exact Int32.add_zero _
      · exact nI_1 _
    have R := ih (k + 1) (by omega)
    rw [← hcb] at R
    rw [eX7_asks_r44_55, hm, if_neg (sh_lt (by omega) (by omega)), c_has, sh_b_bt _ (show k < 32 by omega)]
    simp only [Option.bind_some, c_flag0, c_flag1, nI_1]
    cases hb : bt (nI w) k
    · rw [hb] at R
      rw [if_pos (show sh_i false = 0 from rfl)]
      exact R
    · rw [hb, Bool.true_and] at R
      rw [if_neg (show ¬ sh_i true = 0 by decide), c_isSo _ n k h r _ _ (by omega) hn hm hv]
      simp only [Option.bind_some, nI_1]
      cases hd : sh_is n (h 46) (h 47) r (nI p) (nI v) k
      · rw [hd] at R
        rw [if_pos (show sh_i false = 0 from rfl)]
        exact R
      · rw [hd, show sh_i true = 1 from rfl, nI_1] at R
        rw [if_neg (show ¬ sh_i true = 0 by decide)]
        exact R
theorem t_ask_in (d n w p hi : Nat) (h : av_M) (r : Nat → Int32) (y : Nat → Nat) (hn : n ≤ 7) (hm : h 44 3 = nI n) (hv : sh_MV 48 h r) (hw : w < 128) (hp : p < 5) (hhi : hi < 10) (ehi : sh_hi (nI p) = nI hi) (hg : ∀ v, v ≤ hi → sh_lo (nI p) ≤ nI v → sh_gd (10 * p + v) = true) (hy : ∀ q, q < 50 → sh_ay n (h 46) (h 47) r w q = y q) (hyL : ∀ q, y q ≤ sh_pq w) : ∀ t v (o : Option (Nat × Nat)) (x1 x2 : Value), v + t = hi + 1 → sh_lo (nI p) ≤ nI v → ((x1 = .null ∧ x2 = .null) ∨ (∃ (y1 : Int32) (y2 : Int32), x1 = .int y1 ∧ x2 = .int y2)) → sh_aI (sh_pq w) o →
    ∃ x1' x2', ((x1' = .null ∧ x2' = .null) ∨ (∃ (y1 : Int32) (y2 : Int32), x1' = .int y1 ∧ x2' = .int y2)) ∧ sh_aI (sh_pq w) (sh_lp (sh_aS (sh_pq w) y) t (10 * p + v) o) ∧ av_xp (d + 20) 255 39 [.ref 44, .int (nI w), .int (sh_ab (-1) o), .int (sh_af 1000000 o), .int (nI p), .int (nI v), x1, x2] [] h = av_xp (d + 20) 255 39 [.ref 44, .int (nI w), .int (sh_ab (-1) (sh_lp (sh_aS (sh_pq w) y) t (10 * p + v) o)), .int (sh_af 1000000 (sh_lp (sh_aS (sh_pq w) y) t (10 * p + v) o)), .int (nI p), .int (nI (hi + 1)), x1', x2'] [] h := by
  have hp7 := sh_pq_le w
  intro t
  induction t with
  | zero =>
    intro v o x1 x2 e _ hx hI
    rw [show v = hi + 1 by omega]
    exact ⟨x1, x2, hx, hI, rfl⟩
  | succ t ih =>
    intro v o x1 x2 e hlo hx hI
    have hlo2 : sh_lo (nI p) ≤ nI (v + 1) := by
      rw [Int32.le_iff_toInt_le, nI_toInt (by omega)] at hlo ⊢
      omega
    have hyq := hyL (10 * p + v)
    have hm2 := sh_mo2_le hyq
    have Y := t_ask_y d n w p v (sh_ab (-1) o) (sh_af 1000000 o) h r hn hm hv n 0 (by omega)
    have hyy := hy (10 * p + v) (by omega)
    unfold sh_ay at hyy
    rw [show (10 * p + v) / 10 = p by omega, show (10 * p + v) % 10 = v by omega] at hyy
    rw [hyy] at Y
    have Y2 : av_xp (d + 20) 255 55 [.ref 44, .int (nI w), .int (sh_ab (-1) o), .int (sh_af 1000000 o), .int (nI p), .int (nI v), .int 0, .int 0] [] h = av_xp (d + 20) 255 55 [.ref 44, .int (nI w), .int (sh_ab (-1) o), .int (sh_af 1000000 o), .int (nI p), .int (nI v), .int (nI (y (10 * p + v))), .int (nI n)] [] h := Y
    rw [mX7_asks_r44_39 _ _ _ _ _ _ _ _ _ hx, c_highest, ehi]
    simp only [Option.bind_some]
    rw [if_neg (show ¬ nI hi < nI v from nI_nlt (by omega) (by omega)), Y2, eX7_asks_r44_55, hm, if_pos (sh_ge (Nat.le_refl _) (by omega)), c_bc, sh_bc_pc w hw]
    simp only [Option.bind_some]
    rw [sh_most (by omega) hyq, nI_1]
    have step : sh_lp (sh_aS (sh_pq w) y) (t + 1) (10 * p + v) o = sh_lp (sh_aS (sh_pq w) y) t (10 * p + (v + 1)) (sh_am (sh_mo2 (sh_pq w) (y (10 * p + v))) (10 * p + v) o) := by
      show sh_lp (sh_aS (sh_pq w) y) t (10 * p + v + 1) (sh_aS (sh_pq w) y (10 * p + v) o) = _
      rw [show sh_aS (sh_pq w) y (10 * p + v) o = sh_am (sh_mo2 (sh_pq w) (y (10 * p + v))) (10 * p + v) o by unfold sh_aS; rw [hg v (by omega) hlo], Nat.add_assoc]
    rw [step]
    have h0 : ¬ (1000000 : Int32) ≤ nI (sh_mo2 (sh_pq w) (y (10 * p + v))) := sh_lt (n := 1000000) (by omega) (by decide)
    have hI2 := sh_am_I (b := 10 * p + v) hm2 hI
    obtain ⟨t1, t2⟩ := sh_am_t (10 * p + v) hm2 (by omega) h0 hI
    rw [sh_am_min (10 * p + v) hm2 (by omega) h0 hI]
    by_cases c : sh_af 1000000 o ≤ nI (sh_mo2 (sh_pq w) (y (10 * p + v)))
    · rw [if_pos c, t1 c]
      exact ih (v + 1) o _ _ (by omega) hlo2 (Or.inr ⟨_, _, rfl, rfl⟩) hI
    · rw [t2 c] at hI2 ⊢
      rw [if_neg c, show (10 : Int32) * nI p + nI v = nI (10 * p + v) by rw [show (10 : Int32) * nI p = nI (10 * p) from nI_mul 10 p, nI_add]]
      exact ih (v + 1) (some (sh_mo2 (sh_pq w) (y (10 * p + v)), 10 * p + v)) _ _ (by omega) hlo2 (Or.inr ⟨_, _, rfl, rfl⟩) hI2
/-- the questions of one kind -/
def sh_lN (p : Nat) : Nat := if p = 1 then 1 else 0
def sh_hN (p : Nat) : Nat := if p = 0 then 3 else if p = 1 then 9 else if p = 3 then 9 else 1
theorem sh_lhN : ∀ p, p < 5 → sh_lo (nI p) = nI (sh_lN p) ∧ sh_hi (nI p) = nI (sh_hN p) ∧ sh_lN p ≤ sh_hN p ∧ sh_hN p < 10 := by decide +kernel
theorem sh_gdN : ∀ p, p < 5 → ∀ v, v < 10 → sh_gd (10 * p + v) = (decide (sh_lN p ≤ v) && decide (v ≤ sh_hN p)) := by decide +kernel
theorem sh_aS_no {L : Nat} {y : Nat → Nat} {p : Nat} (hp : p < 5) : ∀ t v (o : Option (Nat × Nat)), v + t ≤ 10 → (∀ u, v ≤ u → u < v + t → ¬ (sh_lN p ≤ u ∧ u ≤ sh_hN p)) → sh_lp (sh_aS L y) t (10 * p + v) o = o := by
  intro t v o e h
  refine sh_lp_id _ _ _ (fun j h1 h2 a => ?_)
  have := sh_gdN p hp (j - 10 * p) (by omega)
  rw [show 10 * p + (j - 10 * p) = j by omega] at this
  have hn := h (j - 10 * p) (by omega) (by omega)
  have hf : sh_gd j = false := by
    rw [this]
    cases h3 : decide (sh_lN p ≤ j - 10 * p) <;> cases h4 : decide (j - 10 * p ≤ sh_hN p) <;> first | rfl | (exfalso; exact hn ⟨of_decide_eq_true h3, of_decide_eq_true h4⟩)
  unfold sh_aS
  rw [hf]
theorem sh_aS_ten {L : Nat} {y : Nat → Nat} {p : Nat} (hp : p < 5) (o : Option (Nat × Nat)) : sh_lp (sh_aS L y) 10 (10 * p) o = sh_lp (sh_aS L y) (sh_hN p + 1 - sh_lN p) (10 * p + sh_lN p) o := by
  obtain ⟨_, _, h1, h2⟩ := sh_lhN p hp
  have e1 := sh_aS_no (L := L) (y := y) hp (sh_lN p) 0 o (by omega) (fun u _ h4 => by omega)
  have e2 := sh_aS_no (L := L) (y := y) hp (9 - sh_hN p) (sh_hN p + 1) (sh_lp (sh_aS L y) (sh_hN p + 1 - sh_lN p) (10 * p + sh_lN p) o) (by omega) (fun u h3 _ => by omega)
  rw [show (10 : Nat) = sh_lN p + ((sh_hN p + 1 - sh_lN p) + (9 - sh_hN p)) by omega, sh_lp_split, sh_lp_split]
  rw [show sh_lN p + (sh_hN p + 1 - sh_lN p + (9 - sh_hN p)) = 10 by omega]
  have e1' : sh_lp (sh_aS L y) (sh_lN p) (10 * p) o = o := e1
  rw [e1', show 10 * p + sh_lN p + (sh_hN p + 1 - sh_lN p) = 10 * p + (sh_hN p + 1) by omega]
  exact e2
theorem t_ask_l (d n w : Nat) (h : av_M) (r : Nat → Int32) (y : Nat → Nat) (hn : n ≤ 7) (hm : h 44 3 = nI n) (hv : sh_MV 48 h r) (hw : w < 128) (hy : ∀ q, q < 50 → sh_ay n (h 46) (h 47) r w q = y q) (hyL : ∀ q, y q ≤ sh_pq w) : ∀ t p (o : Option (Nat × Nat)) (x1 x2 x3 : Value), p + t = 5 → sh_x3 x1 x2 x3 → sh_aI (sh_pq w) o → sh_lp (sh_aS (sh_pq w) y) (10 * t) (10 * p) o ≠ none →
    ∃ h', av_xp (d + 20) 255 26 [.ref 44, .int (nI w), .int (sh_ab (-1) o), .int (sh_af 1000000 o), .int (nI p), x1, x2, x3] [] h = some (nI (sh_oz (sh_lp (sh_aS (sh_pq w) y) (10 * t) (10 * p) o)).2, 0, h') ∧ sh_m h h' ∧ sh_t2 [Int32.toInt64 (nI (sh_oz (sh_lp (sh_aS (sh_pq w) y) (10 * t) (10 * p) o)).1)] h' := by
  intro t
  induction t with
  | zero =>
    intro p o x1 x2 x3 e hx hI hne
    have ep : p = 5 := by omega
    subst ep
    rw [mX7_asks_r44_26 _ _ _ _ _ _ _ _ _ hx, if_pos (show (5 : Int32) ≤ nI 5 by decide)]
    cases o with
    | none => exact absurd rfl hne
    | some z =>
      obtain ⟨h2, e2, m2, f2, t2⟩ := c_ent1 (d + 19) (av_u h 44 1 0) (Int32.toInt64 (nI z.1)) rfl
      rw [show sh_af 1000000 (some z) = nI z.1 from rfl, e2]
      exact ⟨h2, rfl, sh_m_tr (sh_m_s (k := 1) (v := 0) (by decide) (sh_m_refl h)) m2, t2⟩
  | succ t ih =>
    intro p o x1 x2 x3 e hx hI hne
    obtain ⟨el, eh, h1, h2⟩ := sh_lhN p (by omega)
    have sp : sh_lp (sh_aS (sh_pq w) y) (10 * (t + 1)) (10 * p) o = sh_lp (sh_aS (sh_pq w) y) (10 * t) (10 * (p + 1)) (sh_lp (sh_aS (sh_pq w) y) (sh_hN p + 1 - sh_lN p) (10 * p + sh_lN p) o) := by
      rw [show 10 * (t + 1) = 10 + 10 * t by omega, sh_lp_split, sh_aS_ten (by omega), show 10 * (p + 1) = 10 * p + 10 by omega]
    rw [sp] at hne ⊢
    obtain ⟨y1, y2, hy2, hI2, e1⟩ := t_ask_in d n w p (sh_hN p) h r y hn hm hv hw (by omega) h2 eh (fun v v1 v2 => by
      rw [sh_gdN p (by omega) v (by omega), decide_eq_true v1]
      rw [el, nI_leI (by omega) (by omega)] at v2
      rw [decide_eq_true v2]
      rfl) hy hyL (sh_hN p + 1 - sh_lN p) (sh_lN p) o x2 x3 (by omega) (by rw [el]; exact nI_le (Nat.le_refl _) (by omega)) (sh_x32 hx) hI
    rw [mX7_asks_r44_26 _ _ _ _ _ _ _ _ _ hx, if_neg (show ¬ (5 : Int32) ≤ nI p from sh_lt (n := 5) (by omega) (by decide)), c_lowest, el]
    simp only [Option.bind_some]
    rw [e1, mX7_asks_r44_39 _ _ _ _ _ _ _ _ _ hy2, c_highest, eh]
    simp only [Option.bind_some]
    rw [if_pos (show nI (sh_hN p) < nI (sh_hN p + 1) from nI_lt (by omega) (by omega)), nI_1]
    exact ih (p + 1) _ _ _ _ (by omega) (sh_x23 hy2) hI2 hne
theorem sh_aS_ne {L : Nat} {y : Nat → Nat} : ∀ t q (o : Option (Nat × Nat)), o ≠ none → sh_lp (sh_aS L y) t q o ≠ none := by
  intro t
  induction t with
  | zero => intro q o h; exact h
  | succ t ih =>
    intro q o h
    refine ih (q + 1) _ ?_
    unfold sh_aS
    cases sh_gd q
    · exact h
    · exact sh_am_some _ _ _
theorem sh_lp_s {α : Type} (f : Nat → α → α) (t k : Nat) (a : α) : sh_lp f (t + 1) k a = sh_lp f t (k + 1) (f k a) := rfl
theorem sh_gd_0 : sh_gd 0 = true := by decide
theorem sh_aS_1 {L : Nat} {y : Nat → Nat} : sh_aS L y 0 none ≠ none := by
  unfold sh_aS
  rw [sh_gd_0]
  exact sh_am_some _ _ _
theorem sh_aS_T {L : Nat} {y : Nat → Nat} (T z : Nat) (eT : T = 49 + 1) (ez : z = 0) : sh_lp (sh_aS L y) T z none ≠ none := by
  rw [eT, ez, sh_lp_s]
  exact sh_aS_ne 49 (0 + 1) _ sh_aS_1
theorem sh_cb_cong {P Q : Nat → Bool} : ∀ t k, (∀ j, k ≤ j → j < k + t → P j = Q j) → sh_cb P t k = sh_cb Q t k := by
  intro t
  induction t with
  | zero => intro k _; rfl
  | succ t ih =>
    intro k h
    have e1 := ih (k + 1) (fun j h1 h2 => h j (by omega) (by omega))
    have e2 := h k (Nat.le_refl _) (by omega)
    show (match P k with
      | true => 1
      | false => 0) + sh_cb P t (k + 1) = (match Q k with
      | true => 1
      | false => 0) + sh_cb Q t (k + 1)
    rw [e1, e2]
theorem sh_ay_cong {n : Nat} {col col' str str' : Nat → Int32} (hc : ∀ j, j < n → col j = col' j) (hs : ∀ j, j < n → str j = str' j) (r : Nat → Int32) (w q : Nat) : sh_ay n col str r w q = sh_ay n col' str' r w q := by
  unfold sh_ay
  refine sh_cb_cong n 0 (fun j _ hj => ?_)
  have := sh_is_cong hc hs r (nI (q / 10)) (nI (q % 10)) (show j < n by omega)
  simp only [this]
theorem sh_pq_z : ∀ w, w < 128 → (sh_pq w = 0 ↔ w = 0) := by decide +kernel
theorem c_asks : sh_P 90 255 [] := sh_qF fun d N n m L0 r h F E hF => by
  obtain ⟨a1, a2, a3, a4, a5, a6, a7, a8⟩ := id E.1.1
  obtain ⟨s, s1, s2, s3, s4, s5⟩ := id E.1.2.2.2.2.2.2.1
  have hS : sh_SH s (h 64) (h 65) := ⟨s1, fun i hi => (s5 i hi).2.2⟩
  have eF : sh_fi n (h 6) (h 7) r s (h 64) (h 65) = sh_fi n (h 46) (h 47) r s (h 64) (h 65) := sh_fi_cong (fun j hj => (a7 j hj).1) (fun j hj => (a7 j hj).2.1) r s _ _
  have fb : ∀ j, n ≤ j → j < 32 → bt (sh_fi n (h 46) (h 47) r s (h 64) (h 65)) j = false := by
    intro j h1 h2
    unfold sh_fi
    rw [sh_sF_bt _ n j (by omega) h2, decide_eq_false (by omega)]
    rfl
  obtain ⟨w, hw, ew⟩ := sh_sm_lt a1 fb
  rw [ew] at fb eF
  have hp7 := sh_pq_le w
  have eM0 : ∀ h' : av_M, sh_c h h' → sh_R0 N n r h' → av_x (d + 100) 255 [.ref 44] h' = if nI w = 0 then some (-2, 0, av_u h' 44 0 0) else av_xp (d + 99) 255 26 [.ref 44, .int (nI w), .int (-1), .int 1000000, .int (nI 0), .null, .null, .null] [] (av_u h' 44 0 0) := by
    intro h' hc h0'
    obtain ⟨b1, b2, b3, b4, b5, b6, b7, b8⟩ := id h0'.1
    rw [eX7_asks_r44_in, c_fitting _ n s (av_u h' 44 0 0) r a1 b5 b6 (by show h' 44 33 = _; rw [hc 44 (by decide)]; exact s4) s1, show (av_u h' 44 0 0) 46 = h 46 from hc 46 (by decide), show (av_u h' 44 0 0) 47 = h 47 from hc 47 (by decide), show (av_u h' 44 0 0) 64 = h 64 from hc 64 (by decide), show (av_u h' 44 0 0) 65 = h 65 from hc 65 (by decide), ew]
    rfl
  have eX0 : av_x (d + 100) 90 [.ref 0] h = if nI (sh_pq w) = 0 then some (-2, 0, h) else av_xp (d + 99) 90 27 [.ref 0, .int (nI w), .int (nI (sh_pq w)), .int (nI (sh_pq w + 1)), .int 0, .int (nI 0), .null, .null, .null, .null] [] h := by
    rw [eX6_asks_r0_in, c_fitR _ n s h r (h 64) (h 65) a1 a2 a3 a4 s3 hS (fun i hi => ⟨(s5 i hi).1, (s5 i hi).2.1⟩), eF]
    simp only [Option.bind_some, c_bc]
    rw [sh_bc_pc w hw, nI_1]
    rfl
  have hz : sh_pq w = 0 ↔ w = 0 := sh_pq_z w hw
  by_cases e0 : w = 0
  · refine ⟨-2, none, fun _ q => (nomatch q), sh_QX_n ?_, fun h' hc E' _ => sh_QM_n (v := 0) ?_⟩
    · rw [eX0, if_pos (by rw [hz.mpr e0]; rfl)]
    · rw [eM0 h' hc E'.1, if_pos (by rw [e0]; rfl)]
  · have hp0 : 0 < sh_pq w := by
      rcases Nat.eq_zero_or_pos (sh_pq w) with q | q
      · exact absurd (hz.mp q) e0
      · exact q
    obtain ⟨y, hy⟩ : ∃ y, y = sh_ay n (h 46) (h 47) r w := ⟨_, rfl⟩
    have hyL : ∀ q, y q ≤ sh_pq w := by
      intro q
      rw [hy]
      have h1 : sh_ay n (h 46) (h 47) r w q ≤ sh_cb (fun k => bt (nI w) k) n 0 := sh_cb_sub n 0
      have h2 : sh_cb (fun k => bt (nI w) k) n 0 ≤ sh_pq w := by
        have := sh_cb_split (fun k => bt (nI w) k) n (7 - n) 0
        rw [show n + (7 - n) = 7 by omega] at this
        have e : sh_pq w = sh_cb (fun k => bt (nI w) k) 7 0 := rfl
        omega
      omega
    obtain ⟨O, hO⟩ : ∃ O, O = sh_lp (sh_aS (sh_pq w) y) 50 0 none := ⟨_, rfl⟩
    refine ⟨nI (sh_oz O).2, some [Int32.toInt64 (nI (sh_oz O).1)], fun l q => by injection q with q; subst q; simp, ?_, ?_⟩
    · have K := f_ask_l (d + 79) n w h r y a1 a2 a3 a4 hw fb (fun q q1 _ => by
        rw [hy]
        exact sh_ay_cong (fun j hj => (a7 j hj).1) (fun j hj => (a7 j hj).2.1) r w q) hyL 50 0 none .null .null .null .null (by omega) (Or.inl ⟨rfl, rfl, rfl, rfl⟩) (fun z q => (nomatch q)) (sh_aS_T 50 0 (by decide) rfl)
      rw [← hO] at K
      obtain ⟨h2, e2, c2, t2⟩ := K
      refine ⟨h2, ?_, c2, t2⟩
      rw [eX0, if_neg (nI_ne0 hp0 (by omega))]
      exact e2
    · intro h' hc E' hF'
      obtain ⟨b1, b2, b3, b4, b5, b6, b7, b8⟩ := id E'.1.1
      have K := t_ask_l (d + 79) n w (av_u h' 44 0 0) r y a1 b5 b6 hw (fun q _ => by rw [hy, show (av_u h' 44 0 0) 46 = h 46 from hc 46 (by decide), show (av_u h' 44 0 0) 47 = h 47 from hc 47 (by decide)]) hyL 5 0 none .null .null .null (by omega) (Or.inl ⟨rfl, rfl, rfl⟩) (fun z q => (nomatch q)) (sh_aS_T (10 * 5) (10 * 0) (by decide) (by decide))
      rw [show 10 * 5 = 50 from rfl, show 10 * 0 = 0 from rfl, ← hO] at K
      obtain ⟨h2, e2, c2, t2⟩ := K
      refine ⟨h2, ?_, sh_m_tr (sh_m_s (k := 0) (v := 0) (by decide) (sh_m_refl h')) c2, t2⟩
      rw [eM0 h' hc E'.1, if_neg (nI_ne0 (by omega) (by omega))]
      exact e2
