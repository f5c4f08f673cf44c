/-! PURE, 27: what is thought of: the class's future, the reference's then -/
def sh_En (N n m L : Nat) (r : Nat → Int32) (h : av_M) : Prop := sh_R0 N n r h ∧ h 19 3 = nI m ∧ h 44 18 = nI L ∧ sh_RR m (h 20) L (h 52)
def sh_F (n m : Nat) (h : av_M) : (Nat → Int32) → (Nat → Int32) := sh_hr n (h 46) (h 47) (sh_rl m (h 20))
def sh_fut (n : Nat) (h0 : av_M) (ρ : Nat → Int32) (h : av_M) : Prop := sh_c h0 h ∧ h 12 6 = nI n ∧ h 12 7 = sh_e n ∧ sh_SV 12 h ρ ∧ (∀ j, j < 7 → h 13 j = h0 6 j) ∧ (∀ j, j < 7 → h 14 j = h0 7 j)
def sh_th (n : Nat) (h0 : av_M) (ρ : Nat → Int32) (h : av_M) : Prop := sh_m h0 h ∧ sh_MV 49 h ρ ∧ sh_G n ρ
theorem sh_En_c {N n m L : Nat} {r : Nat → Int32} {h h' : av_M} (hc : sh_c h h') (E : sh_En N n m L r h) : sh_En N n m L r h' := by
  obtain ⟨e0, e1, e2, e3⟩ := E
  exact ⟨sh_R0_k (sh_k_c hc) e0, by rw [hc 19 (by decide)]; exact e1, by rw [hc 44 (by decide)]; exact e2, by rw [hc 20 (by decide), hc 52 (by decide)]; exact e3⟩
theorem sh_F_c {n m : Nat} {h h' : av_M} (hc : sh_c h h') : sh_F n m h' = sh_F n m h := by
  unfold sh_F
  rw [hc 46 (by decide), hc 47 (by decide), hc 20 (by decide)]
theorem sh_qF {kx km : Nat} {as : List Value} (H : ∀ (d N n m L : Nat) (r : Nat → Int32) (h : av_M) (F : (Nat → Int32) → (Nat → Int32)), sh_En N n m L r h → F = sh_F n m h → ∃ a o, (∀ l, o = some l → l.length ≤ 7) ∧ sh_QX (d + 100) kx (.ref 0 :: as) h a o ∧ ∀ h', sh_c h h' → sh_En N n m L r h' → F = sh_F n m h' → sh_QM (d + 100) km (.ref 44 :: as) h' a o) : sh_P kx km as := sh_qq fun d N n r h h0 _ => by
  obtain ⟨m, L, l1, l2, l3⟩ := id h0.2.1
  have E : sh_En N n m L r h := ⟨h0, l1, l2, l3⟩
  obtain ⟨a, o, hl, hX, hM⟩ := H d N n m L r h _ E rfl
  exact ⟨a, o, hl, hX, fun h' hc _ => hM h' hc (sh_En_c hc E) (sh_F_c hc).symm⟩
theorem f_copy (d : Nat) {N n m L : Nat} {r : Nat → Int32} {h h1 : av_M} (E : sh_En N n m L r h) (hc : sh_c h h1) : ∃ h', av_x (d + 1) 45 [.ref 12, .ref 5] h1 = some (0, 0, h') ∧ sh_fut n h r h' ∧ h' 3 = h1 3 ∧ h' 4 = h1 4 := by
  obtain ⟨a1, a2, a3, a4, a5, a6, a7, a8⟩ := E.1.1
  have q5 : h1 5 = h 5 := hc 5 (by decide)
  have q6 : h1 6 = h 6 := hc 6 (by decide)
  have q7 : h1 7 = h 7 := hc 7 (by decide)
  have sv : sh_SV 5 h1 r := sh_SV5 hc (by decide) a4
  obtain ⟨h2, e2, f2, s2, g6, g7, g13, g14⟩ := c_copy d h1 r sv
  refine ⟨h2, e2, ⟨sh_c_tr hc (sh_c_of f2 (by decide)), by rw [g6, q5]; exact a2, by rw [g7, q5]; exact a3, s2, ?_, ?_⟩, f2 3 (by decide), f2 4 (by decide)⟩
  · intro j hj; rw [g13 j hj, q6]
  · intro j hj; rw [g14 j hj, q7]
theorem f_F {N n m L : Nat} {r : Nat → Int32} {h h1 : av_M} (E : sh_En N n m L r h) (q : ∀ j, j < 7 → h1 13 j = h 6 j) (q' : ∀ j, j < 7 → h1 14 j = h 7 j) : sh_hr n (h1 13) (h1 14) (sh_rl m (h 20)) = sh_F n m h := by
  obtain ⟨a1, a2, a3, a4, a5, a6, a7, a8⟩ := E.1.1
  funext ρ
  exact sh_hr_cong (fun j hj => (q j (by omega)).trans (a7 j hj).1) (fun j hj => (q' j (by omega)).trans (a7 j hj).2.1) _ ρ
theorem f_hour (d : Nat) {N n m L : Nat} {r ρ : Nat → Int32} {h h1 : av_M} {F : (Nat → Int32) → (Nat → Int32)} (E : sh_En N n m L r h) (hF : F = sh_F n m h) (hf : sh_fut n h ρ h1) : ∃ h', av_x (d + 5) 43 [.ref 12, .ref 19] h1 = some (0, 0, h') ∧ sh_fut n h (F ρ) h' ∧ h' 3 = h1 3 ∧ h' 4 = h1 4 := by
  obtain ⟨c1, c2, c3, c4, c5, c6⟩ := hf
  obtain ⟨E0, E1, E2, E3⟩ := id E
  obtain ⟨h2, e2, f2, v2, g6, g7⟩ := c_passHour1912 d n m h1 ρ (sh_rl m (h 20)) E0.1.1 c2 c3 c4 E3.1 (by rw [c1 19 (by decide)]; exact E1) (fun g q => by rw [c1 20 (by decide)]; exact sh_rl_pl E3 g q)
  rw [f_F E c5 c6, ← hF] at v2
  exact ⟨h2, e2, ⟨sh_c_tr c1 (sh_c_of f2 (by decide)), g6, g7, v2, fun j hj => by rw [f2 13 (by decide)]; exact c5 j hj, fun j hj => by rw [f2 14 (by decide)]; exact c6 j hj⟩, f2 3 (by decide), f2 4 (by decide)⟩
theorem f_hours (d z : Nat) {N n m L : Nat} {r ρ : Nat → Int32} {h h1 : av_M} {F : (Nat → Int32) → (Nat → Int32)} (E : sh_En N n m L r h) (hF : F = sh_F n m h) (hz : z < 1000) (hf : sh_fut n h ρ h1) : ∃ h', av_x (d + 6) 42 [.ref 12, .ref 19, .int (nI z)] h1 = some (0, 0, h') ∧ sh_fut n h (sh_lp (fun _ => F) z 0 ρ) h' ∧ h' 3 = h1 3 ∧ h' 4 = h1 4 := by
  obtain ⟨c1, c2, c3, c4, c5, c6⟩ := hf
  obtain ⟨E0, E1, E2, E3⟩ := id E
  obtain ⟨h2, e2, f2, v2, g6, g7⟩ := c_passHours1912_l d n m z (h1 13) (h1 14) (sh_rl m (h 20)) E0.1.1 E3.1 hz z 0 h1 ρ (by omega) rfl rfl c2 c3 c4 (by rw [c1 19 (by decide)]; exact E1) (fun g q => by rw [c1 20 (by decide)]; exact sh_rl_pl E3 g q)
  rw [f_F E c5 c6, ← hF] at v2
  refine ⟨h2, ?_, ⟨sh_c_tr c1 (sh_c_of f2 (by decide)), g6, g7, v2, fun j hj => by rw [f2 13 (by decide)]; exact c5 j hj, fun j hj => by rw [f2 14 (by decide)]; exact c6 j hj⟩, f2 3 (by decide), f2 4 (by decide)⟩
  rw [eX4_passHours_r12_r19_in]
  exact e2
theorem f_set {n a s i : Nat} {ρ : Nat → Int32} {h h1 : av_M} {v : Int32} (hi : (i < 28 ∧ a = 12 + 3 + i / 7 ∧ s = i % 7) ∨ (28 ≤ i ∧ i < 33 ∧ a = 12 ∧ s = i - 20)) (hf : sh_fut n h ρ h1) : sh_fut n h (upd ρ i v) (av_u h1 a s v) := by
  obtain ⟨c1, c2, c3, c4, c5, c6⟩ := hf
  have ha : a = 12 ∨ a = 15 ∨ a = 16 ∨ a = 17 ∨ a = 18 := by omega
  have hx : a = 12 → s ≠ 6 ∧ s ≠ 7 := by omega
  refine ⟨sh_c_u (by rcases ha with rfl | rfl | rfl | rfl | rfl <;> decide) c1, ?_, ?_, sh_SV_u c4 hi, fun j hj => by rw [av_u_ne (by omega)]; exact c5 j hj, fun j hj => by rw [av_u_ne (by omega)]; exact c6 j hj⟩
  · unfold av_u upd
    by_cases e : 12 = a
    · rw [if_pos e, if_neg (fun q => (hx e.symm).1 q.symm), ← e]; exact c2
    · rw [if_neg e]; exact c2
  · unfold av_u upd
    by_cases e : 12 = a
    · rw [if_pos e, if_neg (fun q => (hx e.symm).2 q.symm), ← e]; exact c3
    · rw [if_neg e]; exact c3
theorem f_t1 {n : Nat} {ρ : Nat → Int32} {S : List Nat} {h h1 h2 : av_M} (f : sh_fr S h1 h2) (hS : S = [3, 4]) (hf : sh_fut n h ρ h1) : sh_fut n h ρ h2 := by
  subst hS
  obtain ⟨c1, c2, c3, c4, c5, c6⟩ := hf
  exact ⟨sh_c_tr c1 (sh_c_of f (by decide)), by rw [f 12 (by decide)]; exact c2, by rw [f 12 (by decide)]; exact c3, sh_SV_fr f (by decide) c4, fun j hj => by rw [f 13 (by decide)]; exact c5 j hj, fun j hj => by rw [f 14 (by decide)]; exact c6 j hj⟩
theorem t_copy (d : Nat) {N n m L : Nat} {r : Nat → Int32} {h h1 : av_M} (E : sh_En N n m L r h) (hc : sh_m h h1) : ∃ h', av_x (d + 1) 172 [.ref 49, .ref 48] h1 = some (0, 0, h') ∧ sh_th n h r h' ∧ h' 44 = h1 44 ∧ h' 45 = h1 45 := by
  obtain ⟨a1, a2, a3, a4, a5, a6, a7, a8⟩ := E.1.1
  obtain ⟨h2, e2, f2, v2⟩ := c_copies d h1 r (fun i hi => by rw [hc.1 48 (by decide) (by decide)]; exact a6 i hi)
  exact ⟨h2, e2, ⟨sh_m_tr hc (sh_m_of f2 (by decide)), v2, a8⟩, f2 44 (by decide), f2 45 (by decide)⟩
theorem t_env {N n m L : Nat} {r : Nat → Int32} {h h1 : av_M} (E : sh_En N n m L r h) (hc : sh_m h h1) : n ≤ 7 ∧ h1 44 3 = nI n ∧ sh_MV 48 h1 r ∧ sh_RR m (h 20) L (h1 52) ∧ h1 44 18 = nI L ∧ h1 46 = h 46 ∧ h1 47 = h 47 := by
  obtain ⟨a1, a2, a3, a4, a5, a6, a7, a8⟩ := E.1.1
  refine ⟨a1, by rw [hc.2 3 (by decide) (by decide)]; exact a5, fun i hi => by rw [hc.1 48 (by decide) (by decide)]; exact a6 i hi, by rw [hc.1 52 (by decide) (by decide)]; exact E.2.2.2, by rw [hc.2 18 (by decide) (by decide)]; exact E.2.2.1, hc.1 46 (by decide) (by decide), hc.1 47 (by decide) (by decide)⟩
theorem t_G {N n m L : Nat} {r ρ : Nat → Int32} {h : av_M} {F : (Nat → Int32) → (Nat → Int32)} (E : sh_En N n m L r h) (hF : F = sh_F n m h) (hG : sh_G n ρ) : sh_G n (F ρ) := by
  subst hF
  exact sh_G_hr E.1.1.1 (fun j hj => (E.1.1.2.2.2.2.2.2.1 j hj).2.2) hG
theorem t_Gs {N n m L : Nat} {r : Nat → Int32} {h : av_M} {F : (Nat → Int32) → (Nat → Int32)} (E : sh_En N n m L r h) (hF : F = sh_F n m h) : ∀ (t k : Nat) (ρ : Nat → Int32), sh_G n ρ → sh_G n (sh_lp (fun _ => F) t k ρ) := by
  intro t
  induction t with
  | zero => intro k ρ hG; exact hG
  | succ t ih => intro k ρ hG; exact ih (k + 1) _ (t_G E hF hG)
theorem t_hour (d : Nat) {N n m L : Nat} {r ρ : Nat → Int32} {h h1 : av_M} {F : (Nat → Int32) → (Nat → Int32)} (E : sh_En N n m L r h) (hF : F = sh_F n m h) (hf : sh_th n h ρ h1) : ∃ h', av_x (d + 5) 201 [.ref 44, .ref 49] h1 = some (0, 0, h') ∧ sh_th n h (F ρ) h' ∧ h' 44 = h1 44 ∧ h' 45 = h1 45 := by
  obtain ⟨c1, c2, c3⟩ := hf
  obtain ⟨x1, x2, x3, x4, x5, x6, x7⟩ := t_env E c1
  obtain ⟨h2, e2, f2, v2, _⟩ := c_hourM49 d n m L (h 20) h1 ρ x1 x2 c2 (sh_G_L9 c3) x4 x5
  rw [x6, x7] at v2
  refine ⟨h2, e2, ⟨sh_m_tr c1 (sh_m_of f2 (by decide)), ?_, t_G E hF c3⟩, f2 44 (by decide), f2 45 (by decide)⟩
  rw [hF]
  exact v2
theorem t_goes (d z : Nat) {N n m L : Nat} {r ρ : Nat → Int32} {h h1 : av_M} {F : (Nat → Int32) → (Nat → Int32)} (E : sh_En N n m L r h) (hF : F = sh_F n m h) (hz : z < 1000) (hf : sh_th n h ρ h1) : ∃ h', av_x (d + 6) 202 [.ref 44, .ref 49, .int (nI z)] h1 = some (0, 0, h') ∧ sh_th n h (sh_lp (fun _ => F) z 0 ρ) h' ∧ h' 44 = h1 44 ∧ h' 45 = h1 45 := by
  obtain ⟨c1, c2, c3⟩ := hf
  obtain ⟨x1, x2, x3, x4, x5, x6, x7⟩ := t_env E c1
  obtain ⟨h2, e2, f2, v2, _⟩ := c_goesOn49 d n m L z (h 20) h1 ρ x1 hz x2 c2 (sh_G_L9 c3) x4 x5
  rw [x6, x7] at v2
  refine ⟨h2, e2, ⟨sh_m_tr c1 (sh_m_of f2 (by decide)), ?_, t_Gs E hF z 0 ρ c3⟩, f2 44 (by decide), f2 45 (by decide)⟩
  rw [hF]
  exact v2
theorem th_set {n i : Nat} {ρ : Nat → Int32} {h h1 : av_M} {v : Int32} (hf : sh_th n h ρ h1) (hG : sh_G n (upd ρ i v)) : sh_th n h (upd ρ i v) (av_u h1 49 i v) :=
  ⟨sh_m_u (by decide) hf.1, sh_MV_u v hf.2.1, hG⟩
theorem t_s {n k : Nat} {ρ : Nat → Int32} {h h1 : av_M} {v : Int32} (hk : k < 2 ∨ 44 ≤ k) (hf : sh_th n h ρ h1) : sh_th n h ρ (av_u h1 44 k v) :=
  ⟨sh_m_s hk hf.1, sh_MV_fr (S := [44]) (sh_fr_u (by decide) (sh_fr_refl _ _)) (by decide) hf.2.1, hf.2.2⟩
theorem t_m {n : Nat} {ρ : Nat → Int32} {h h1 h2 : av_M} (hm : sh_m h1 h2) (f : sh_fr [44, 45] h1 h2) (hf : sh_th n h ρ h1) : sh_th n h ρ h2 :=
  ⟨sh_m_tr hf.1 hm, sh_MV_fr f (by decide) hf.2.1, hf.2.2⟩
/-! later -/
theorem c_later (p : Int32) : sh_P 66 218 [.int p] := sh_qF fun d N n m L r h F E hF => by
  obtain ⟨a1, a2, a3, a4, a5, a6, a7, a8⟩ := id E.1.1
  have eM0 : ∀ h' : av_M, sh_ir 0 99 p = false → av_x (d + 100) 218 [.ref 44, .int p] h' = some (-1, 0, av_u h' 44 0 0) := by
    intro h' q
    rw [eX7_later_r44_in, c_inI _ p 0 99 _ _ _ (by decide) (by decide), q]
    rfl
  cases hp : sh_ir 0 99 p
  · refine ⟨-1, none, fun _ q => (nomatch q), sh_QX_n ?_, fun h' hc _ _ => sh_QM_n (eM0 h' hp)⟩
    rw [eX6_later_r0_in]
    by_cases g1 : p < 0
    · rw [if_pos g1]
    · by_cases g2 : 99 < p
      · rw [if_neg g1, if_neg (by rw [Int32.not_le]; exact g2)]
      · rw [sh_ir_in g1 g2] at hp; cases hp
  · obtain ⟨z, _, hz, rfl⟩ := sh_ir_nat (lo := 0) (hi := 99) (by decide) (by decide) hp
    obtain ⟨ρ, hρ⟩ : ∃ ρ, ρ = sh_lp (fun _ => F) z 0 r := ⟨_, rfl⟩
    refine ⟨ρ 30, some [Int32.toInt64 (sh_hd n ρ), Int32.toInt64 (sh_tt n ρ)], fun l q => by injection q with q; subst q; simp, ?_, ?_⟩
    · obtain ⟨h1, e1, f1, _, _⟩ := f_copy (d + 97) E (sh_c_refl h)
      obtain ⟨h2, e2, f2, _, _⟩ := f_hours (d + 92) z E hF (by omega) f1
      rw [← hρ] at f2
      obtain ⟨h3, e3, f3, t3⟩ := c_tell2 (d + 97) h2 (Int32.toInt64 (sh_hd n ρ)) (Int32.toInt64 (sh_tt n ρ))
      have f4 := f_t1 f3 rfl f2
      refine ⟨h3, ?_, f4.1, t3⟩
      rw [eX6_later_r0_in, if_neg (sh_nneg (by omega)), if_pos (show nI z ≤ 99 from nI_le (b := 99) (by omega) (by decide)), eX6_foresee_r0_in, e1]
      simp only [Option.bind_some]
      rw [e2]
      simp only [Option.bind_some]
      rw [c_holding12 _ n h2 ρ f2.2.2.1 f2.2.2.2.1]
      simp only [Option.bind_some]
      rw [c_taut12 _ n h2 ρ a1 f2.2.1 f2.2.2.1 f2.2.2.2.1]
      simp only [Option.bind_some]
      rw [e3]
      simp only [Option.bind_some]
      rw [f4.2.2.2.1.2.2.2.2.2.2.1]
    · intro h' hc E' hF'
      obtain ⟨h1, e1, f1, _, _⟩ := t_copy (d + 98) E' (sh_m_s (k := 0) (v := 0) (by decide) (sh_m_refl h'))
      obtain ⟨h2, e2, f2, _, _⟩ := t_goes (d + 93) z E' hF' (by omega) f1
      rw [← hρ] at f2
      have f3 := t_s (k := 1) (v := 0) (by decide) f2
      obtain ⟨h4, e4, m4, g4, t4⟩ := c_ent1 (d + 98) (av_u h2 44 1 0) (Int32.toInt64 (sh_hd n ρ)) rfl
      have f4 := t_m m4 g4 f3
      obtain ⟨h5, e5, m5, g5, t5⟩ := c_enters (d + 98) h4 _ (Int32.toInt64 (sh_tt n ρ)) (by simp) t4
      have f5 := t_m m5 g5 f4
      refine ⟨h5, ?_, f5.1, t5⟩
      rw [eX7_later_r44_in, c_inI _ _ 0 99 _ _ _ (by decide) (by decide), hp]
      simp only [Option.bind_some]
      rw [if_neg (by decide), e1]
      simp only [Option.bind_some]
      rw [e2]
      simp only [Option.bind_some]
      rw [c_holdingM49 _ n _ ρ (t_env E' f3.1).2.1 f3.2.1]
      simp only [Option.bind_some]
      rw [e4]
      simp only [Option.bind_some]
      rw [c_tautM49 _ n _ ρ a1 (t_env E' f4.1).2.1 f4.2.1]
      simp only [Option.bind_some]
      rw [e5]
      simp only [Option.bind_some]
      rw [f5.2.1 30 (by decide)]
