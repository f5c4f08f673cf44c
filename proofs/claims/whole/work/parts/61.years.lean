/-! PURE, 51: calls: years -/
theorem nI_div (a : Nat) {b : Nat} (ha : a < 2147483648) (hb : b < 2147483648) (h0 : 0 < b) : nI a / nI b = nI (a / b) := by
  have hd : a / b ≤ a := Nat.div_le_self a b
  apply Int32.toInt_inj.mp
  rw [Int32.toInt_div, nI_toInt (by omega), nI_toInt (by omega), nI_toInt (by omega)]
  have e : (a : Int).tdiv (b : Int) = ((a / b : Nat) : Int) := by
    rw [Int.tdiv_eq_ediv_of_nonneg (by omega)]
    rfl
  rw [e]
  clear e
  generalize a / b = q at hd ⊢
  apply Int.bmod_eq_of_le <;> omega
theorem nI_rem (a : Nat) {b : Nat} (ha : a < 2147483648) (hb : b < 2147483648) (h0 : 0 < b) : nI a - nI a / nI b * nI b = nI (a % b) := by
  rw [nI_div a ha hb h0, nI_mul, nI_sub (Nat.div_mul_le_self a b)]
  refine congrArg nI ?_
  have := Nat.div_add_mod a b
  rw [Nat.mul_comm] at this
  omega
theorem sh_us16 (x : Int32) : ∃ U, U < 65536 ∧ sh_us x 16 = nI U := by
  refine ⟨(Int32.toUInt32 x >>> (Int32.toUInt32 16 &&& Int32.toUInt32 31)).toNat, ?_, ?_⟩
  · rw [UInt32.toNat_shiftRight, show (Int32.toUInt32 16 &&& Int32.toUInt32 31).toNat % 32 = 16 by decide, Nat.shiftRight_eq_div_pow]
    have : (Int32.toUInt32 x).toNat < 2 ^ 32 := UInt32.toNat_lt _
    omega
  · apply Int32.toBitVec_inj.mp
    show (Int32.toUInt32 x >>> (Int32.toUInt32 16 &&& Int32.toUInt32 31)).toBitVec = BitVec.ofNat 32 (Int32.toUInt32 x >>> (Int32.toUInt32 16 &&& Int32.toUInt32 31)).toBitVec.toNat
    rw [BitVec.ofNat_toNat, BitVec.setWidth_eq]
def sh_lc (s : Int32) : Int32 := s * 1103515245 + 12345
def sh_dv (s p : Int32) : Int32 := sh_us (sh_lc s) 16 - sh_us (sh_lc s) 16 / p * p
theorem sh_dv_n (s : Int32) {q : Nat} (h0 : 0 < q) (hq : q < 1000) : ∃ c, c < q ∧ sh_dv s (nI q) = nI c := by
  obtain ⟨U, hU, e⟩ := sh_us16 (sh_lc s)
  unfold sh_dv
  rw [e, nI_rem U (by omega) (by omega) h0]
  exact ⟨U % q, Nat.mod_lt U h0, rfl⟩
theorem c_draw (d q : Nat) (s : Int32) (g : av_M) (hs : g 0 13 = s) (h0 : 0 < q) (hq : q < 1000) : av_x (d + 1) 154 [.ref 0, .int (nI q)] g = some (sh_dv s (nI q), 0, av_u g 0 13 (sh_lc s)) := by
  rw [eX6_draw_r0_in, if_pos (show (1 : Int32) ≤ nI q from nI_le (a := 1) h0 (by omega)), show av_nz (nI q) = true by unfold av_nz; rw [decide_eq_false (nI_ne0 h0 (by omega))]; rfl, hs]
  rfl
theorem c_draws (d q : Nat) (s : Int32) (g : av_M) (hs : g 44 44 = s) (h0 : 0 < q) (hq : q < 1000) : av_x (d + 1) 269 [.ref 44, .int (nI q)] g = some (sh_dv s (nI q), 0, av_u g 44 44 (sh_lc s)) := by
  rw [eX7_draws_r44_in, show av_nz (nI q) = true by unfold av_nz; rw [decide_eq_false (nI_ne0 h0 (by omega))]; rfl, hs]
  rfl
def sh_yS (lc : Int32 → Int32) (dv : Int32 → Int32 → Int32) (n : Nat) (F : (Nat → Int32) → (Nat → Int32)) (_ : Nat) (z : (Nat → Int32) × Int32) : (Nat → Int32) × Int32 :=
  if 2 ≤ dv z.2 4 then (if n = 0 then (z.1, lc z.2) else (upd z.1 ((if dv z.2 4 = 2 then 7 else 14) + (dv (lc z.2) (nI n)).toNatClampNeg) (dv (lc (lc z.2)) 10), lc (lc (lc z.2)))) else (F z.1, lc z.2)
theorem av_uu {h : av_M} {a k : Nat} {v w : Int32} : av_u (av_u h a k v) a k w = av_u h a k w := by
  funext b
  unfold av_u
  by_cases e : b = a
  · rw [if_pos e, if_pos e, if_pos rfl]
    funext j
    unfold upd
    by_cases ej : j = k
    · rw [if_pos ej, if_pos ej]
    · rw [if_neg ej, if_neg ej, if_neg ej]
  · rw [if_neg e, if_neg e, if_neg e]
theorem f_seed {n : Nat} {ρ : Nat → Int32} {h h1 : av_M} {s : Int32} (hf : sh_fut n h ρ h1) : sh_fut n (av_u h 0 13 s) ρ (av_u h1 0 13 s) := by
  obtain ⟨c1, c2, c3, c4, c5, c6⟩ := hf
  refine ⟨fun a ha => ?_, c2, c3, ?_, c5, c6⟩
  · unfold av_u
    by_cases e : a = 0
    · rw [if_pos e, if_pos e, c1 0 (by decide)]
    · rw [if_neg e, if_neg e]
      exact c1 a ha
  · exact sh_SV_fr (S := [0]) (sh_fr_u (by decide) (sh_fr_refl _ _)) (by decide) c4
theorem sh_En_s {N n m L : Nat} {r : Nat → Int32} {h : av_M} {s : Int32} (E : sh_En N n m L r h) : sh_En N n m L r (av_u h 0 13 s) := by
  obtain ⟨e0, e1, e2, e3⟩ := E
  refine ⟨sh_R0_k ⟨fun a ha => av_u_ne ((by decide : ∀ a, a ∈ sh_W → a ≠ 0) a ha), fun j _ => rfl, rfl⟩ e0, e1, e2, e3⟩
theorem f_yr1 (d : Nat) {lc : Int32 → Int32} {dv : Int32 → Int32 → Int32} (hdv : ∀ (s : Int32) (q : Nat), 0 < q → q < 1000 → ∃ c, c < q ∧ dv s (nI q) = nI c) (hdX : ∀ (d q : Nat) (s : Int32) (g : av_M), g 0 13 = s → 0 < q → q < 1000 → av_x (d + 1) 154 [.ref 0, .int (nI q)] g = some (dv s (nI q), 0, av_u g 0 13 (lc s))) {N n m L : Nat} {r ρ : Nat → Int32} {h g : av_M} {s : Int32} {F : (Nat → Int32) → (Nat → Int32)} (E : sh_En N n m L r h) (hF : F = sh_F n m h) (hf : sh_fut n (av_u h 0 13 s) ρ g) : ∃ g', av_x (d + 10) 155 [.ref 0] g = some (0, 0, g') ∧ sh_fut n (av_u h 0 13 (sh_yS lc dv n F 0 (ρ, s)).2) (sh_yS lc dv n F 0 (ρ, s)).1 g' := by
  have hn := E.1.1.1
  have gs : g 0 13 = s := by
    rw [hf.1 0 (by decide), av_u_eq, upd_s]
  have f1 : sh_fut n (av_u h 0 13 (lc s)) ρ (av_u g 0 13 (lc s)) := by
    have := f_seed (s := lc s) hf
    rw [av_uu] at this
    exact this
  rw [eX6_drawOne_r0_in, show (4 : Int32) = nI 4 from rfl, hdX _ 4 s g gs (by decide) (by decide)]
  simp only [Option.bind_some]
  unfold sh_yS
  dsimp only
  rw [show (4 : Int32) = nI 4 from rfl]
  by_cases k2 : 2 ≤ dv s (nI 4)
  · rw [if_pos k2, if_pos k2, f1.2.1]
    by_cases n0 : n = 0
    · rw [if_pos n0, if_pos (show nI n ≤ 0 by rw [n0]; decide)]
      exact ⟨_, rfl, f1⟩
    · obtain ⟨w, hw, ew⟩ := hdv (lc s) n (by omega) (by omega)
      rw [if_neg n0, if_neg (nI_nle (by omega) (by omega)), hdX _ n (lc s) _ (by rw [av_u_eq, upd_s]) (by omega) (by omega)]
      simp only [Option.bind_some]
      rw [av_uu, show (10 : Int32) = nI 10 from rfl, hdX _ 10 (lc (lc s)) _ (by rw [av_u_eq, upd_s]) (by decide) (by decide)]
      simp only [Option.bind_some]
      rw [av_uu, ew, sh_inb (show w < 7 by omega) (by decide), nI_clamp (by omega)]
      simp only [cond_true]
      have f3 : sh_fut n (av_u h 0 13 (lc (lc (lc s)))) ρ (av_u g 0 13 (lc (lc (lc s)))) := by
        have := f_seed (s := lc (lc (lc s))) hf
        rw [av_uu] at this
        exact this
      by_cases e2 : dv s (nI 4) = 2
      · rw [if_pos e2, if_pos e2]
        exact ⟨_, rfl, f_set (a := 16) (s := w) (i := 7 + w) (by omega) f3⟩
      · rw [if_neg e2, if_neg e2]
        exact ⟨_, rfl, f_set (a := 17) (s := w) (i := 14 + w) (by omega) f3⟩
  · rw [if_neg k2, if_neg k2]
    obtain ⟨h2, e2, f2, _, _⟩ := f_hour (d + 4) (sh_En_s (s := lc s) E) (show F = sh_F n m (av_u h 0 13 (lc s)) from hF) f1
    rw [e2]
    exact ⟨h2, rfl, f2⟩
def sh_yL (n : Nat) (ρ : Nat → Int32) : List Int64 := [Int32.toInt64 (sh_hd n ρ), Int32.toInt64 (sh_lp (fun k a => a + ρ k) n 0 0)]
theorem sh_yS_k {lc : Int32 → Int32} {dv : Int32 → Int32 → Int32} {n : Nat} {F : (Nat → Int32) → (Nat → Int32)} {k : Nat} {z : (Nat → Int32) × Int32} : sh_yS lc dv n F k z = sh_yS lc dv n F 0 z := rfl
theorem f_yr_l (d z : Nat) (p1 : Int32) {lc : Int32 → Int32} {dv : Int32 → Int32 → Int32} (hdv : ∀ (s : Int32) (q : Nat), 0 < q → q < 1000 → ∃ c, c < q ∧ dv s (nI q) = nI c) (hdX : ∀ (d q : Nat) (s : Int32) (g : av_M), g 0 13 = s → 0 < q → q < 1000 → av_x (d + 1) 154 [.ref 0, .int (nI q)] g = some (dv s (nI q), 0, av_u g 0 13 (lc s))) {N n m L : Nat} {r : Nat → Int32} {h : av_M} {F : (Nat → Int32) → (Nat → Int32)} (E : sh_En N n m L r h) (hF : F = sh_F n m h) (hz : z < 1000) : ∀ t k (g : av_M) (y : (Nat → Int32) × Int32), k + t = z → sh_fut n (av_u h 0 13 y.2) y.1 g →
    ∃ g', av_xp (d + 20) 99 27 [.ref 0, .int p1, .int (nI z), .int (nI k)] [] g = some ((sh_lp (sh_yS lc dv n F) t k y).1 30, 0, g') ∧ sh_c (av_u h 0 13 (sh_lp (sh_yS lc dv n F) t k y).2) g' ∧ sh_t1 (sh_yL n (sh_lp (sh_yS lc dv n F) t k y).1) g' := by
  have hn := E.1.1.1
  intro t
  induction t with
  | zero =>
    intro k g y e hf
    rw [eX6_years_r0_27, if_pos (sh_ge (by omega) (by omega)), c_holding12 _ n g y.1 hf.2.2.1 hf.2.2.2.1]
    simp only [Option.bind_some]
    rw [c_reels12 _ n g y.1 hn hf.2.1 hf.2.2.2.1]
    simp only [Option.bind_some]
    obtain ⟨h2, e2, f2, t2⟩ := c_tell2 (d + 18) g (Int32.toInt64 (sh_hd n y.1)) (Int32.toInt64 (sh_lp (fun k a => a + y.1 k) n 0 0))
    rw [e2]
    simp only [Option.bind_some]
    have f4 := f_t1 f2 rfl hf
    rw [f4.2.2.2.1.2.2.2.2.2.2.1]
    exact ⟨h2, rfl, f4.1, t2⟩
  | succ t ih =>
    intro k g y e hf
    obtain ⟨g1, e1, f1⟩ := f_yr1 (d + 10) hdv hdX E hF hf
    rw [eX6_years_r0_27, if_neg (sh_lt (by omega) (by omega)), e1]
    simp only [Option.bind_some, nI_1]
    rw [sh_lp_s, sh_yS_k]
    exact ih (k + 1) g1 _ (by omega) f1
theorem t_yr_l (d z : Nat) (p1 : Int32) {lc : Int32 → Int32} {dv : Int32 → Int32 → Int32} (hdv : ∀ (s : Int32) (q : Nat), 0 < q → q < 1000 → ∃ c, c < q ∧ dv s (nI q) = nI c) (hdM : ∀ (d q : Nat) (s : Int32) (g : av_M), g 44 44 = s → 0 < q → q < 1000 → av_x (d + 1) 269 [.ref 44, .int (nI q)] g = some (dv s (nI q), 0, av_u g 44 44 (lc s))) {N n m L : Nat} {r : Nat → Int32} {h : av_M} {F : (Nat → Int32) → (Nat → Int32)} (E : sh_En N n m L r h) (hF : F = sh_F n m h) (hz : z < 1000) : ∀ t k (g : av_M) (y : (Nat → Int32) × Int32) (x1 x2 : Value), k + t = z → ((x1 = .null ∧ x2 = .null) ∨ (∃ (y1 : Int32), x1 = .int y1 ∧ x2 = .null) ∨ (∃ (y1 : Int32) (y2 : Int32), x1 = .int y1 ∧ x2 = .int y2)) → g 44 44 = y.2 → sh_th n h y.1 g →
    ∃ g', av_xp (d + 20) 270 37 [.ref 44, .int p1, .int (nI z), .int (nI k), x1, x2] [] g = some ((sh_lp (sh_yS lc dv n F) t k y).1 30, 0, g') ∧ sh_m h g' ∧ sh_t2 (sh_yL n (sh_lp (sh_yS lc dv n F) t k y).1) g' := by
  have hn := E.1.1.1
  intro t
  induction t with
  | zero =>
    intro k g y x1 x2 e hx hs hf
    have f0 := t_s (k := 1) (v := 0) (by decide) hf
    rw [mX7_years_r44_37 _ _ _ _ _ _ _ hx, if_pos (sh_ge (by omega) (by omega)), c_holdingM49 _ n _ y.1 (t_env E f0.1).2.1 f0.2.1]
    simp only [Option.bind_some]
    obtain ⟨h2, e2, m2, f2, t2⟩ := c_ent1 (d + 19) (av_u g 44 1 0) (Int32.toInt64 (sh_hd n y.1)) rfl
    have q2 := t_m m2 f2 f0
    rw [e2]
    simp only [Option.bind_some]
    rw [c_reelsOf49 _ n h2 y.1 hn (t_env E q2.1).2.1 q2.2.1]
    simp only [Option.bind_some]
    obtain ⟨h3, e3, m3, f3, t3⟩ := c_enters (d + 19) h2 _ (Int32.toInt64 (sh_lp (fun k a => a + y.1 k) n 0 0)) (by simp) t2
    have q3 := t_m m3 f3 q2
    rw [e3]
    simp only [Option.bind_some]
    rw [q3.2.1 30 (by decide)]
    exact ⟨h3, rfl, q3.1, t3⟩
  | succ t ih =>
    intro k g y x1 x2 e hx hs hf
    have f1 := t_s (k := 44) (v := lc y.2) (by decide) hf
    rw [mX7_years_r44_37 _ _ _ _ _ _ _ hx, if_neg (sh_lt (by omega) (by omega)), show (4 : Int32) = nI 4 from rfl, hdM _ 4 y.2 g hs (by decide) (by decide)]
    simp only [Option.bind_some, nI_1]
    rw [sh_lp_s]
    have es : sh_yS lc dv n F k y = (if 2 ≤ dv y.2 (nI 4) then (if n = 0 then (y.1, lc y.2) else (upd y.1 ((if dv y.2 (nI 4) = 2 then 7 else 14) + (dv (lc y.2) (nI n)).toNatClampNeg) (dv (lc (lc y.2)) 10), lc (lc (lc y.2)))) else (F y.1, lc y.2)) := rfl
    rw [es]
    by_cases k2 : 2 ≤ dv y.2 (nI 4)
    · rw [if_pos k2, if_pos k2, (t_env E f1.1).2.1]
      by_cases n0 : n = 0
      · rw [if_pos n0, if_pos (show nI n ≤ 0 by rw [n0]; decide)]
        refine ih (k + 1) _ (y.1, lc y.2) _ _ (by omega) ?_ (by rw [av_u_eq, upd_s]) f1
        rcases hx with ⟨_, h2⟩ | ⟨_, _, h2⟩ | ⟨_, y2, _, h2⟩
        · exact Or.inr (Or.inl ⟨_, rfl, h2⟩)
        · exact Or.inr (Or.inl ⟨_, rfl, h2⟩)
        · exact Or.inr (Or.inr ⟨_, y2, rfl, h2⟩)
      · obtain ⟨w, hw, ew⟩ := hdv (lc y.2) n (by omega) (by omega)
        obtain ⟨c, hc, ec⟩ := hdv (lc (lc y.2)) 10 (by omega) (by omega)
        have f3 := t_s (k := 44) (v := lc (lc (lc y.2))) (by decide) hf
        rw [if_neg n0, if_neg (nI_nle (by omega) (by omega)), hdM _ n (lc y.2) _ (by rw [av_u_eq, upd_s]) (by omega) (by omega)]
        simp only [Option.bind_some]
        rw [av_uu, show (10 : Int32) = nI 10 from rfl, hdM _ 10 (lc (lc y.2)) _ (by rw [av_u_eq, upd_s]) (by decide) (by decide)]
        simp only [Option.bind_some]
        rw [av_uu, ew, show (7 : Int32) + nI w = nI (7 + w) from nI_add 7 w, show (14 : Int32) + nI w = nI (14 + w) from nI_add 14 w, sh_inb (show 7 + w < 33 by omega) (by decide), sh_inb (show 14 + w < 33 by omega) (by decide), nI_clamp (n := 7 + w) (by omega), nI_clamp (n := 14 + w) (by omega), nI_clamp (n := w) (by omega)]
        simp only [cond_true]
        have hG : ∀ i, 7 ≤ i → i < 21 → sh_G n (upd y.1 i (dv (lc (lc y.2)) (nI 10))) := fun i i1 i2 => sh_G_u hf.2.2 (by omega) (fun _ _ => by rw [show dv (lc (lc y.2)) (nI 10) = nI c from ec]; exact sh_B_nI (N := 9) (by omega) (by decide)) (by omega) (by omega) (by omega) (by omega)
        by_cases e2 : dv y.2 (nI 4) = 2
        · rw [if_pos e2, if_pos e2]
          exact ih (k + 1) _ (_, lc (lc (lc y.2))) _ _ (by omega) (Or.inr (Or.inr ⟨_, _, rfl, rfl⟩)) (by rw [av_u_ne (by decide), av_u_eq, upd_s]) (th_set (i := 7 + w) f3 (hG (7 + w) (by omega) (by omega)))
        · rw [if_neg e2, if_neg e2]
          exact ih (k + 1) _ (_, lc (lc (lc y.2))) _ _ (by omega) (Or.inr (Or.inr ⟨_, _, rfl, rfl⟩)) (by rw [av_u_ne (by decide), av_u_eq, upd_s]) (th_set (i := 14 + w) f3 (hG (14 + w) (by omega) (by omega)))
    · rw [if_neg k2, if_neg k2]
      obtain ⟨h2, e2, f2, q3, q4⟩ := t_hour (d + 15) E hF f1
      rw [e2]
      simp only [Option.bind_some]
      refine ih (k + 1) h2 (F y.1, lc y.2) _ _ (by omega) ?_ (by rw [q3, av_u_eq, upd_s]) f2
      rcases hx with ⟨_, h2⟩ | ⟨_, _, h2⟩ | ⟨_, y2, _, h2⟩
      · exact Or.inr (Or.inl ⟨_, rfl, h2⟩)
      · exact Or.inr (Or.inl ⟨_, rfl, h2⟩)
      · exact Or.inr (Or.inr ⟨_, y2, rfl, h2⟩)
theorem c_years (p v : Int32) : sh_P 99 270 [.int p, .int v] := by
  intro d N h hN hR
  obtain ⟨⟨n, r, h0⟩, hT⟩ := id hR
  obtain ⟨lc, dv, hdv, hdX, hdM⟩ : ∃ (lc : Int32 → Int32) (dv : Int32 → Int32 → Int32), (∀ (s : Int32) (q : Nat), 0 < q → q < 1000 → ∃ c, c < q ∧ dv s (nI q) = nI c) ∧ (∀ (d q : Nat) (s : Int32) (g : av_M), g 0 13 = s → 0 < q → q < 1000 → av_x (d + 1) 154 [.ref 0, .int (nI q)] g = some (dv s (nI q), 0, av_u g 0 13 (lc s))) ∧ (∀ (d q : Nat) (s : Int32) (g : av_M), g 44 44 = s → 0 < q → q < 1000 → av_x (d + 1) 269 [.ref 44, .int (nI q)] g = some (dv s (nI q), 0, av_u g 44 44 (lc s))) :=
    ⟨sh_lc, sh_dv, fun s q h0 hq => sh_dv_n s h0 hq, fun d q s g hs h0 hq => c_draw d q s g hs h0 hq, fun d q s g hs h0 hq => c_draws d q s g hs h0 hq⟩
  obtain ⟨a1, a2, a3, a4, a5, a6, a7, a8⟩ := id h0.1
  obtain ⟨m, L, l1, l2, l3⟩ := id h0.2.1
  have E : sh_En N n m L r h := ⟨h0, l1, l2, l3⟩
  have eM0 : ∀ h' : av_M, av_x (d + 100) 270 [.ref 44, .int p, .int v] h' = if sh_ir 1 60 v = true then (av_x (d + 99) 172 [.ref 49, .ref 48] (av_u (av_u h' 44 0 0) 44 44 p)).bind (fun q2 => av_xp (d + 99) 270 37 [.ref 44, .int p, .int v, .int 0, .null, .null] [] q2.2.2) else some (-1, 0, av_u h' 44 0 0) := by
    intro h'
    rw [eX7_years_r44_in, c_inI _ v 1 60 _ _ _ (by decide) (by decide)]
    simp only [Option.bind_some]
    cases sh_ir 1 60 v <;> rfl
  have eX0 : av_x (d + 100) 99 [.ref 0, .int p, .int v] h = if sh_ir 1 60 v = true then (av_x (d + 99) 45 [.ref 12, .ref 5] h).bind (fun q2 => av_xp (d + 99) 99 27 [.ref 0, .int p, .int v, .int 0] [] (av_u q2.2.2 0 13 p)) else some (-1, 0, h) := by
    rw [eX6_years_r0_in, c_isSpanX]
    simp only [Option.bind_some]
    cases sh_ir 1 60 v <;> rfl
  cases hv : sh_ir 1 60 v
  · exact ⟨-1, h, av_u h 44 0 0, by rw [eX0, hv, if_neg (by decide)], by rw [eM0, hv, if_neg (by decide)], ⟨n, r, sh_R0_up (by omega) (sh_R0_k (sh_k_m (sh_m_s (by decide) (sh_m_refl _))) h0)⟩, sh_PT_s rfl rfl rfl rfl hT⟩
  · obtain ⟨z, z1, z2, rfl⟩ := sh_ir_nat (lo := 1) (hi := 60) (by decide) (by decide) hv
    obtain ⟨O, hO⟩ : ∃ O, O = sh_lp (sh_yS lc dv n (sh_F n m h)) z 0 (r, p) := ⟨_, rfl⟩
    obtain ⟨h1, e1, f1, _, _⟩ := f_copy (d + 98) E (sh_c_refl h)
    have K := f_yr_l (d + 79) z p hdv hdX E rfl (by omega) z 0 (av_u h1 0 13 p) (r, p) (by omega) (f_seed f1)
    rw [← hO] at K
    obtain ⟨h2, e2, c2, t2⟩ := K
    have eX : av_x (d + 100) 99 [.ref 0, .int p, .int (nI z)] h = some (O.1 30, 0, h2) := by
      rw [eX0, hv, if_pos rfl, e1]
      exact e2
    have E2 : sh_En N n m L r h2 := sh_En_c c2 (sh_En_s E)
    have hF2 : sh_F n m h = sh_F n m h2 := (sh_F_c c2).symm
    obtain ⟨g1, x1, y1, _, _⟩ := t_copy (d + 98) E2 (sh_m_s (k := 44) (v := p) (by decide) (sh_m_s (k := 0) (v := 0) (by decide) (sh_m_refl h2)))
    have K2 := t_yr_l (d + 79) z p hdv hdM E2 hF2 (by omega) z 0 g1 (r, p) .null .null (by omega) (Or.inl ⟨rfl, rfl⟩) (by
      obtain ⟨g2, x2, x3, _⟩ := c_copies (d + 98) (av_u (av_u h2 44 0 0) 44 44 p) r E2.1.1.2.2.2.2.2.1
      rw [x1] at x2
      injection x2 with x2
      injection x2 with _ x2
      injection x2 with _ x2
      rw [x2, x3 44 (by decide), av_u_eq, upd_s]) y1
    rw [← hO] at K2
    obtain ⟨g2, x2, m2, u2⟩ := K2
    have eM : av_x (d + 100) 270 [.ref 44, .int p, .int (nI z)] h2 = some (O.1 30, 0, g2) := by
      rw [eM0, hv, if_pos rfl, x1]
      exact x2
    refine ⟨O.1 30, h2, g2, eX, eM, ⟨n, r, sh_R0_up (by omega) (sh_R0_k (sh_k_m m2) E2.1)⟩, sh_PT_of (l := sh_yL n O.1) (by simp [sh_yL]) ?_ u2⟩
    unfold sh_t1 at t2 ⊢
    rw [m2.1 3 (by decide) (by decide), m2.1 4 (by decide) (by decide)]
    exact t2
