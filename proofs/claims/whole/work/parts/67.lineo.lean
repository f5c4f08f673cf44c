/-! PURE, 57: calls: streamers, 3: a line of the reference -/
def sh_LQ (c i q : Nat) (h h' : av_M) : Prop := sh_fr [44, 51] h h' ∧ (∀ j, j ≠ 11 → j ≠ 15 → h' 44 j = h 44 j) ∧ h' 44 11 = nI q ∧ h' 44 15 = nI (i + 1) ∧ ∀ j, j < c → h' 51 j = h 51 j
theorem sh_LQ_w {c c' i q k : Nat} {v : Int32} {h h' : av_M} (h1 : c ≤ c') (h2 : c ≤ k) (H : sh_LQ c' i q (av_u h 51 k v) h') : sh_LQ c i q h h' := by
  obtain ⟨a1, a2, a3, a4, a5⟩ := H
  refine ⟨sh_fr_tr (sh_fr_u (by decide) (sh_fr_refl _ _)) a1 (fun _ q => q), a2, a3, a4, ?_⟩
  intro j hj
  rw [a5 j (by omega)]
  show upd (h 51) k v j = h 51 j
  unfold upd
  rw [if_neg (by omega)]
theorem sh_LQ_p {c i q : Nat} {w : Int32} {h h' : av_M} (H : sh_LQ c i q (av_u h 44 11 w) h') : sh_LQ c i q h h' := by
  obtain ⟨a1, a2, a3, a4, a5⟩ := H
  refine ⟨sh_fr_tr (sh_fr_u (by decide) (sh_fr_refl _ _)) a1 (fun _ q => q), ?_, a3, a4, a5⟩
  intro j h1 h2
  rw [a2 j h1 h2]
  show upd (h 44) 11 w j = h 44 j
  unfold upd
  rw [if_neg h1]
theorem t_dead4 (d i p : Nat) (h : av_M) (hi : i < 7) (h4 : h 51 (5 * i + 4) = -1) (hp : h 44 11 = nI p) (h15 : h 44 15 = nI i) : ∃ h', av_xp d 183 146 [.ref 44, .int (nI (5 * i))] [] h = some (0, 0, h') ∧ sh_LQ (5 * i + 5) i p h h' := by
  rw [eX7_readsOne_r44_146, show nI (5 * i) + 4 = nI (5 * i + 4) from nI_add _ 4, sh_inb (show 5 * i + 4 < 35 by omega) (by decide), nI_clamp (by omega), h4, if_pos (by decide), h15, nI_1, sh_001]
  exact ⟨_, rfl, sh_fr_u (by decide) (sh_fr_refl _ _), fun j _ hj => by
    show upd (h 44) 15 (nI (i + 1)) j = h 44 j
    unfold upd
    rw [if_neg hj], hp, rfl, fun _ _ => rfl⟩
theorem t_dead3 (d i p : Nat) (h : av_M) (hi : i < 7) (h4 : h 51 (5 * i + 3) = -1) (hp : h 44 11 = nI p) (h15 : h 44 15 = nI i) : ∃ h', av_xp d 183 118 [.ref 44, .int (nI (5 * i))] [] h = some (0, 0, h') ∧ sh_LQ (5 * i + 4) i p h h' := by
  rw [eX7_readsOne_r44_118, show nI (5 * i) + 3 = nI (5 * i + 3) from nI_add _ 3, show nI (5 * i) + 4 = nI (5 * i + 4) from nI_add _ 4, sh_inb (show 5 * i + 3 < 35 by omega) (by decide), sh_inb (show 5 * i + 4 < 35 by omega) (by decide), nI_clamp (by omega), nI_clamp (by omega), h4, if_neg (by decide)]
  obtain ⟨h', e, q⟩ := t_dead4 d i p (av_u h 51 (5 * i + 4) (-1)) hi upd_s hp h15
  exact ⟨h', e, sh_LQ_w (by omega) (by omega) q⟩
theorem t_dead2 (d i p : Nat) (h : av_M) (hi : i < 7) (h4 : h 51 (5 * i + 2) = -1) (hp : h 44 11 = nI p) (h15 : h 44 15 = nI i) : ∃ h', av_xp d 183 90 [.ref 44, .int (nI (5 * i))] [] h = some (0, 0, h') ∧ sh_LQ (5 * i + 3) i p h h' := by
  rw [eX7_readsOne_r44_90, show nI (5 * i) + 2 = nI (5 * i + 2) from nI_add _ 2, show nI (5 * i) + 3 = nI (5 * i + 3) from nI_add _ 3, sh_inb (show 5 * i + 2 < 35 by omega) (by decide), sh_inb (show 5 * i + 3 < 35 by omega) (by decide), nI_clamp (by omega), nI_clamp (by omega), h4, if_neg (by decide)]
  obtain ⟨h', e, q⟩ := t_dead3 d i p (av_u h 51 (5 * i + 3) (-1)) hi upd_s hp h15
  exact ⟨h', e, sh_LQ_w (by omega) (by omega) q⟩
theorem t_dead1 (d i p : Nat) (h : av_M) (hi : i < 7) (h4 : h 51 (5 * i + 1) = -1) (hp : h 44 11 = nI p) (h15 : h 44 15 = nI i) : ∃ h', av_xp d 183 63 [.ref 44, .int (nI (5 * i))] [] h = some (0, 0, h') ∧ sh_LQ (5 * i + 2) i p h h' := by
  rw [eX7_readsOne_r44_63, show nI (5 * i) + 1 = nI (5 * i + 1) from nI_add _ 1, show nI (5 * i) + 2 = nI (5 * i + 2) from nI_add _ 2, sh_inb (show 5 * i + 1 < 35 by omega) (by decide), sh_inb (show 5 * i + 2 < 35 by omega) (by decide), nI_clamp (by omega), nI_clamp (by omega), h4, if_neg (by decide)]
  obtain ⟨h', e, q⟩ := t_dead2 d i p (av_u h 51 (5 * i + 2) (-1)) hi upd_s hp h15
  exact ⟨h', e, sh_LQ_w (by omega) (by omega) q⟩
theorem t_dead0 (d i p : Nat) (h : av_M) (hi : i < 7) (h4 : h 51 (5 * i) = -1) (hp : h 44 11 = nI p) (h15 : h 44 15 = nI i) : ∃ h', av_xp d 183 35 [.ref 44, .int (nI (5 * i))] [] h = some (0, 0, h') ∧ sh_LQ (5 * i + 1) i p h h' := by
  rw [eX7_readsOne_r44_35, show nI (5 * i) + 1 = nI (5 * i + 1) from nI_add _ 1, sh_inb (show 5 * i < 35 by omega) (by decide), sh_inb (show 5 * i + 1 < 35 by omega) (by decide), nI_clamp (by omega), nI_clamp (by omega), h4, if_neg (by decide)]
  obtain ⟨h', e, q⟩ := t_dead1 d i p (av_u h 51 (5 * i + 1) (-1)) hi upd_s hp h15
  exact ⟨h', e, sh_LQ_w (by omega) (by omega) q⟩
def sh_lv (G : Nat → Nat) (i k : Nat) : Int32 := if k = 0 then nI (sh_cN (G (7 * i))) else if k = 1 then nI (G (7 * i + 1) - 48) else if k = 2 then nI (10 * (G (7 * i + 2) - 48) + (G (7 * i + 3) - 48)) else if k = 3 then nI (G (7 * i + 4) - 48) else nI (G (7 * i + 5) - 48)
def sh_RL (n i S p : Nat) (G : Nat → Nat) (c : Nat) (h : av_M) (o : Option (Int32 × Int64 × av_M)) : Prop := ∃ b q h', o = some (sh_i b, 0, h') ∧ sh_LQ c i q h h' ∧ p ≤ q ∧ q ≤ S ∧ (∀ j, p ≤ j → j < q → sh_fz n j (G j) = true) ∧ (b = true → q = 7 * i + 6 ∧ ∀ k, c ≤ 5 * i + k → k < 5 → h' 51 (5 * i + k) = sh_lv G i k) ∧ (b = false → q < 7 * i + 6 ∧ (q = S ∨ sh_fz n q (G q) = false))
theorem sh_RL_w {n i S p k : Nat} {G : Nat → Nat} {h : av_M} {v : Int32} {o : Option (Int32 × Int64 × av_M)} (hk : k < 5) (hv : v = sh_lv G i k) (H : sh_RL n i S p G (5 * i + k + 1) (av_u h 51 (5 * i + k) v) o) : sh_RL n i S p G (5 * i + k) h o := by
  obtain ⟨b, q, h', e, l, q1, q2, q3, q4, q5⟩ := H
  refine ⟨b, q, h', e, sh_LQ_w (by omega) (by omega) l, q1, q2, q3, fun g => ⟨(q4 g).1, fun j h1 h2 => ?_⟩, q5⟩
  by_cases ej : j = k
  · subst ej
    rw [l.2.2.2.2 (5 * i + j) (by omega), ← hv]
    exact upd_s
  · exact (q4 g).2 j (by omega) h2
theorem sh_RL_p {n i S p c : Nat} {G : Nat → Nat} {h : av_M} {w : Int32} {o : Option (Int32 × Int64 × av_M)} (hp : p < S) (hf : sh_fz n p (G p) = true) (H : sh_RL n i S (p + 1) G c (av_u h 44 11 w) o) : sh_RL n i S p G c h o := by
  obtain ⟨b, q, h', e, l, q1, q2, q3, q4, q5⟩ := H
  refine ⟨b, q, h', e, sh_LQ_p l, by omega, q2, fun j h1 h2 => ?_, q4, q5⟩
  by_cases ej : j = p
  · rw [ej]; exact hf
  · exact q3 j (by omega) h2
theorem sh_RL_f {n i S p c : Nat} {G : Nat → Nat} {h h' : av_M} {o : Option (Int32 × Int64 × av_M)} (e : o = some (0, 0, h')) (l : sh_LQ c i p h h') (hp : p ≤ S) (h6 : p < 7 * i + 6) (hf : p = S ∨ sh_fz n p (G p) = false) : sh_RL n i S p G c h o :=
  ⟨false, p, h', e, l, Nat.le_refl _, hp, fun j h1 h2 => absurd h2 (by omega), fun g => (nomatch g), fun _ => ⟨h6, hf⟩⟩
theorem sh_TM_p {x S p : Nat} {G : Nat → Nat} {h : av_M} (hT : sh_TM x S p G h) (hp : p < S) : sh_TM x S (p + 1) G (av_u h 44 11 (nI (p + 1))) := by
  obtain ⟨t1, t2, t3, t4, t5, t6⟩ := hT
  exact ⟨t1, t2, hp, t4, rfl, t6⟩
theorem sh_TM_w {x S p k : Nat} {G : Nat → Nat} {h : av_M} {v : Int32} (hT : sh_TM x S p G h) : sh_TM x S p G (av_u h 51 k v) := hT
theorem sh_and_f {p S : Nat} {a : Bool} (hp : p ≤ S) (h : (decide (p < S) && a) = false) : p = S ∨ a = false := by
  by_cases q : p < S
  · rw [decide_eq_true q, Bool.true_and] at h; exact Or.inr h
  · exact Or.inl (by omega)
theorem sh_fz_d {n i o c : Nat} (h1 : 2 ≤ o) (h2 : o ≤ 5) : sh_fz n (7 * i + o) c = sh_dg 0 c := by
  unfold sh_fz
  rw [if_neg (by omega), if_neg (by omega), if_neg (by omega)]
  rfl
theorem sh_fz_1 {n i c : Nat} : sh_fz n (7 * i + 1) c = sh_dg 1 c := by
  unfold sh_fz
  rw [if_neg (by omega), if_pos (by omega)]
  rfl
theorem sh_fz_0 {n i c : Nat} (hn : n + i < 7) : sh_fz n (7 * i) c = decide (sh_cN c < 4) := by
  unfold sh_fz
  rw [if_pos (by omega), show 7 * i / 7 = i by omega, decide_eq_true hn, Bool.true_and]
theorem t_al4 (d n i S : Nat) (G : Nat → Nat) (h : av_M) (v : Nat) (hi : i < 7) (hv : v < 1000) (h4 : h 51 (5 * i + 4) = nI v) (hp : h 44 11 = nI (7 * i + 6)) (hS : 7 * i + 6 ≤ S) (h15 : h 44 15 = nI i) : sh_RL n i S (7 * i + 6) G (5 * i + 5) h (av_xp d 183 146 [.ref 44, .int (nI (5 * i))] [] h) := by
  rw [eX7_readsOne_r44_146, show nI (5 * i) + 4 = nI (5 * i + 4) from nI_add _ 4, sh_inb (show 5 * i + 4 < 35 by omega) (by decide), nI_clamp (by omega), h4, if_neg (show ¬ nI v < 0 from nI_nlt (b := 0) (by omega) (by omega)), h15, nI_1, sh_111]
  exact ⟨true, 7 * i + 6, _, rfl, ⟨sh_fr_u (by decide) (sh_fr_refl _ _), fun j _ hj => by
    show upd (h 44) 15 (nI (i + 1)) j = h 44 j
    unfold upd
    rw [if_neg hj], hp, rfl, fun _ _ => rfl⟩, Nat.le_refl _, hS, fun j h1 h2 => absurd h2 (by omega), fun _ => ⟨rfl, fun k h1 h2 => absurd h1 (by omega)⟩, fun g => (nomatch g)⟩
theorem t_al3 (d n i x S : Nat) (G : Nat → Nat) (h : av_M) (v : Nat) (hi : i < 7) (hv : v < 1000) (h4 : h 51 (5 * i + 3) = nI v) (hT : sh_TM x S (7 * i + 5) G h) (h15 : h 44 15 = nI i) : sh_RL n i S (7 * i + 5) G (5 * i + 4) h (av_xp (d + 3) 183 118 [.ref 44, .int (nI (5 * i))] [] h) := by
  rw [eX7_readsOne_r44_118, show nI (5 * i) + 3 = nI (5 * i + 3) from nI_add _ 3, show nI (5 * i) + 4 = nI (5 * i + 4) from nI_add _ 4, sh_inb (show 5 * i + 3 < 35 by omega) (by decide), sh_inb (show 5 * i + 4 < 35 by omega) (by decide), nI_clamp (by omega), nI_clamp (by omega), h4, if_pos (show (0 : Int32) ≤ nI v from sh_ge (n := 0) (by omega) (by omega)), t_number1 d x S _ G h hT]
  have hp := hT.2.2.1
  have hc : 7 * i + 5 < S → G (7 * i + 5) < 256 := fun q => (hT.2.2.2.2.2 _ (by have := hT.2.1; omega)).2
  have hfz : sh_fz n (7 * i + 5) (G (7 * i + 5)) = sh_dg 0 (G (7 * i + 5)) := sh_fz_d (by omega) (by omega)
  cases hd : (decide (7 * i + 5 < S) && sh_dg 0 (G (7 * i + 5)))
  · obtain ⟨h', e, q⟩ := t_dead4 (d + 3) i (7 * i + 5) (av_u h 51 (5 * i + 4) (-1)) hi upd_s hT.2.2.2.2.1 h15
    exact sh_RL_f e (sh_LQ_w (by omega) (by omega) q) hp (by omega) (by rw [hfz]; exact sh_and_f hp hd)
  · simp only [Bool.and_eq_true, decide_eq_true_eq] at hd
    refine sh_RL_p hd.1 (by rw [hfz]; exact hd.2) (w := nI (7 * i + 5 + 1)) (sh_RL_w (k := 4) (by omega) (v := nI (G (7 * i + 5) - 48)) rfl ?_)
    exact t_al4 (d + 3) n i S G (av_u (av_u h 44 11 (nI (7 * i + 5 + 1))) 51 (5 * i + 4) (nI (G (7 * i + 5) - 48))) _ hi (by have := hc hd.1; omega) upd_s rfl (by omega) h15
theorem t_al2 (d n i x S : Nat) (G : Nat → Nat) (h : av_M) (v : Nat) (hi : i < 7) (hv : v < 1000) (h4 : h 51 (5 * i + 2) = nI v) (hT : sh_TM x S (7 * i + 4) G h) (h15 : h 44 15 = nI i) : sh_RL n i S (7 * i + 4) G (5 * i + 3) h (av_xp (d + 3) 183 90 [.ref 44, .int (nI (5 * i))] [] h) := by
  rw [eX7_readsOne_r44_90, show nI (5 * i) + 2 = nI (5 * i + 2) from nI_add _ 2, show nI (5 * i) + 3 = nI (5 * i + 3) from nI_add _ 3, sh_inb (show 5 * i + 2 < 35 by omega) (by decide), sh_inb (show 5 * i + 3 < 35 by omega) (by decide), nI_clamp (by omega), nI_clamp (by omega), h4, if_pos (show (0 : Int32) ≤ nI v from sh_ge (n := 0) (by omega) (by omega)), t_number1 d x S _ G h hT]
  have hp := hT.2.2.1
  have hc : 7 * i + 4 < S → G (7 * i + 4) < 256 := fun q => (hT.2.2.2.2.2 _ (by have := hT.2.1; omega)).2
  have hfz : sh_fz n (7 * i + 4) (G (7 * i + 4)) = sh_dg 0 (G (7 * i + 4)) := sh_fz_d (by omega) (by omega)
  cases hd : (decide (7 * i + 4 < S) && sh_dg 0 (G (7 * i + 4)))
  · obtain ⟨h', e, q⟩ := t_dead3 (d + 3) i (7 * i + 4) (av_u h 51 (5 * i + 3) (-1)) hi upd_s hT.2.2.2.2.1 h15
    exact sh_RL_f e (sh_LQ_w (by omega) (by omega) q) hp (by omega) (by rw [hfz]; exact sh_and_f hp hd)
  · simp only [Bool.and_eq_true, decide_eq_true_eq] at hd
    refine sh_RL_p hd.1 (by rw [hfz]; exact hd.2) (w := nI (7 * i + 4 + 1)) (sh_RL_w (k := 3) (by omega) (v := nI (G (7 * i + 4) - 48)) rfl ?_)
    exact t_al3 d n i x S G (av_u (av_u h 44 11 (nI (7 * i + 4 + 1))) 51 (5 * i + 3) (nI (G (7 * i + 4) - 48))) _ hi (by have := hc hd.1; omega) upd_s (sh_TM_w (sh_TM_p hT hd.1)) h15
theorem t_two (d x S p : Nat) (G : Nat → Nat) (h : av_M) (hT : sh_TM x S p G h) : av_x (d + 4) 181 [.ref 44] h = if (decide (p < S) && sh_dg 0 (G p)) = true then (if (decide (p + 1 < S) && sh_dg 0 (G (p + 1))) = true then some (nI (10 * (G p - 48) + (G (p + 1) - 48)), 0, av_u (av_u h 44 11 (nI (p + 1))) 44 11 (nI (p + 1 + 1))) else some (-1, 0, av_u h 44 11 (nI (p + 1)))) else some (-1, 0, h) := by
  rw [eX7_twoDigits_r44_in, t_number1 d x S p G h hT]
  have hc : p < S → G p < 256 := fun q => (hT.2.2.2.2.2 _ (by have := hT.2.1; omega)).2
  have hc2 : p + 1 < S → G (p + 1) < 256 := fun q => (hT.2.2.2.2.2 _ (by have := hT.2.1; omega)).2
  cases hd : (decide (p < S) && sh_dg 0 (G p))
  · rfl
  · simp only [Bool.and_eq_true, decide_eq_true_eq] at hd
    have g1 := hc hd.1
    unfold sh_rd
    simp only [Option.bind_some]
    rw [if_pos (show (0 : Int32) ≤ nI (G p - 48) from sh_ge (n := 0) (by omega) (by omega)), t_number1 d x S (p + 1) G _ (sh_TM_p hT hd.1), if_pos trivial]
    cases hd2 : (decide (p + 1 < S) && sh_dg 0 (G (p + 1)))
    · rfl
    · simp only [Bool.and_eq_true, decide_eq_true_eq] at hd2
      have g2 := hc2 hd2.1
      unfold sh_rd
      simp only [Option.bind_some]
      rw [if_pos (show (0 : Int32) ≤ nI (G (p + 1) - 48) from sh_ge (n := 0) (by omega) (by omega)), if_pos trivial, show (10 : Int32) * nI (G p - 48) = nI (10 * (G p - 48)) from nI_mul 10 _, nI_add]
theorem t_al1 (d n i x S : Nat) (G : Nat → Nat) (h : av_M) (v : Nat) (hi : i < 7) (hv : v < 1000) (h4 : h 51 (5 * i + 1) = nI v) (hT : sh_TM x S (7 * i + 2) G h) (h15 : h 44 15 = nI i) : sh_RL n i S (7 * i + 2) G (5 * i + 2) h (av_xp (d + 4) 183 63 [.ref 44, .int (nI (5 * i))] [] h) := by
  rw [eX7_readsOne_r44_63, show nI (5 * i) + 1 = nI (5 * i + 1) from nI_add _ 1, show nI (5 * i) + 2 = nI (5 * i + 2) from nI_add _ 2, sh_inb (show 5 * i + 1 < 35 by omega) (by decide), sh_inb (show 5 * i + 2 < 35 by omega) (by decide), nI_clamp (by omega), nI_clamp (by omega), h4, if_pos (show (0 : Int32) ≤ nI v from sh_ge (n := 0) (by omega) (by omega)), t_two d x S _ G h hT]
  have hp := hT.2.2.1
  have hc : 7 * i + 2 < S → G (7 * i + 2) < 256 := fun q => (hT.2.2.2.2.2 _ (by have := hT.2.1; omega)).2
  have hc2 : 7 * i + 2 + 1 < S → G (7 * i + 2 + 1) < 256 := fun q => (hT.2.2.2.2.2 _ (by have := hT.2.1; omega)).2
  have hfz : sh_fz n (7 * i + 2) (G (7 * i + 2)) = sh_dg 0 (G (7 * i + 2)) := sh_fz_d (by omega) (by omega)
  have hfz2 : sh_fz n (7 * i + 2 + 1) (G (7 * i + 2 + 1)) = sh_dg 0 (G (7 * i + 2 + 1)) := sh_fz_d (o := 3) (by omega) (by omega)
  cases hd : (decide (7 * i + 2 < S) && sh_dg 0 (G (7 * i + 2)))
  · obtain ⟨h', e, q⟩ := t_dead2 (d + 4) i (7 * i + 2) (av_u h 51 (5 * i + 2) (-1)) hi upd_s hT.2.2.2.2.1 h15
    exact sh_RL_f e (sh_LQ_w (by omega) (by omega) q) hp (by omega) (by rw [hfz]; exact sh_and_f hp hd)
  · simp only [Bool.and_eq_true, decide_eq_true_eq] at hd
    have g1 := hc hd.1
    rw [if_pos rfl]
    refine sh_RL_p hd.1 (by rw [hfz]; exact hd.2) (w := nI (7 * i + 2 + 1)) ?_
    cases hd2 : (decide (7 * i + 2 + 1 < S) && sh_dg 0 (G (7 * i + 2 + 1)))
    · obtain ⟨h', e, q⟩ := t_dead2 (d + 4) i (7 * i + 2 + 1) (av_u (av_u h 44 11 (nI (7 * i + 2 + 1))) 51 (5 * i + 2) (-1)) hi upd_s rfl h15
      exact sh_RL_f e (sh_LQ_w (by omega) (by omega) q) hd.1 (by omega) (by rw [hfz2]; exact sh_and_f hd.1 hd2)
    · simp only [Bool.and_eq_true, decide_eq_true_eq] at hd2
      have g2 := hc2 hd2.1
      rw [if_pos rfl]
      refine sh_RL_p hd2.1 (by rw [hfz2]; exact hd2.2) (w := nI (7 * i + 2 + 1 + 1)) (sh_RL_w (k := 2) (by omega) (v := nI (10 * (G (7 * i + 2) - 48) + (G (7 * i + 2 + 1) - 48))) rfl ?_)
      exact t_al2 (d + 1) n i x S G (av_u (av_u (av_u h 44 11 (nI (7 * i + 2 + 1))) 44 11 (nI (7 * i + 2 + 1 + 1))) 51 (5 * i + 2) (nI (10 * (G (7 * i + 2) - 48) + (G (7 * i + 2 + 1) - 48)))) _ hi (by
        unfold sh_dg at hd hd2
        simp only [Bool.and_eq_true, decide_eq_true_eq] at hd hd2
        omega) upd_s (sh_TM_w (sh_TM_p (sh_TM_p hT hd.1) hd2.1)) h15
theorem t_al0 (d n i x S : Nat) (G : Nat → Nat) (h : av_M) (v : Nat) (hi : i < 7) (hv : v < 1000) (h4 : h 51 (5 * i) = nI v) (hT : sh_TM x S (7 * i + 1) G h) (h15 : h 44 15 = nI i) : sh_RL n i S (7 * i + 1) G (5 * i + 1) h (av_xp (d + 4) 183 35 [.ref 44, .int (nI (5 * i))] [] h) := by
  rw [eX7_readsOne_r44_35, show nI (5 * i) + 1 = nI (5 * i + 1) from nI_add _ 1, sh_inb (show 5 * i < 35 by omega) (by decide), sh_inb (show 5 * i + 1 < 35 by omega) (by decide), nI_clamp (by omega), nI_clamp (by omega), h4, if_pos (show (0 : Int32) ≤ nI v from sh_ge (n := 0) (by omega) (by omega)), t_digitIn (d + 2) x S _ G h hT]
  have hp := hT.2.2.1
  have hc : 7 * i + 1 < S → G (7 * i + 1) < 256 := fun q => (hT.2.2.2.2.2 _ (by have := hT.2.1; omega)).2
  have hfz : sh_fz n (7 * i + 1) (G (7 * i + 1)) = sh_dg 1 (G (7 * i + 1)) := sh_fz_1
  cases hd : (decide (7 * i + 1 < S) && sh_dg 1 (G (7 * i + 1)))
  · obtain ⟨h', e, q⟩ := t_dead1 (d + 4) i (7 * i + 1) (av_u h 51 (5 * i + 1) (-1)) hi upd_s hT.2.2.2.2.1 h15
    exact sh_RL_f e (sh_LQ_w (by omega) (by omega) q) hp (by omega) (by rw [hfz]; exact sh_and_f hp hd)
  · simp only [Bool.and_eq_true, decide_eq_true_eq] at hd
    refine sh_RL_p hd.1 (by rw [hfz]; exact hd.2) (w := nI (7 * i + 1 + 1)) (sh_RL_w (k := 1) (by omega) (v := nI (G (7 * i + 1) - 48)) rfl ?_)
    exact t_al1 d n i x S G (av_u (av_u h 44 11 (nI (7 * i + 1 + 1))) 51 (5 * i + 1) (nI (G (7 * i + 1) - 48))) _ hi (by have := hc hd.1; omega) upd_s (sh_TM_w (sh_TM_p hT hd.1)) h15
theorem t_readsOne (d n i x S : Nat) (G : Nat → Nat) (h : av_M) (hn : n + i < 7) (hm : h 44 3 = nI n) (hT : sh_TM x S (7 * i) G h) (h15 : h 44 15 = nI i) : sh_RL n i S (7 * i) G (5 * i) h (av_x (d + 5) 183 [.ref 44] h) := by
  rw [eX7_readsOne_r44_in, hm, h15, nI_add, if_neg (show ¬ nI (n + i) = 7 from fun q => by have := (nI_eq (b := 7) (by omega) (by omega)).mp q; omega), eX7_readsOne_r44_16, t_takesCo (d + 3) x S _ G h hT, h15, show (5 : Int32) * nI i = nI (5 * i) from nI_mul 5 i, sh_inb (show 5 * i < 35 by omega) (by decide), nI_clamp (by omega)]
  have hp := hT.2.2.1
  have hfz : sh_fz n (7 * i) (G (7 * i)) = decide (sh_cN (G (7 * i)) < 4) := sh_fz_0 hn
  cases hd : (decide (7 * i < S) && decide (sh_cN (G (7 * i)) < 4))
  · obtain ⟨h', e, q⟩ := t_dead0 (d + 4) i (7 * i) (av_u h 51 (5 * i) (-1)) (by omega) upd_s hT.2.2.2.2.1 h15
    exact sh_RL_f e (sh_LQ_w (by omega) (by omega) q) hp (by omega) (by rw [hfz]; exact sh_and_f hp hd)
  · simp only [Bool.and_eq_true, decide_eq_true_eq] at hd
    refine sh_RL_p hd.1 (by rw [hfz, decide_eq_true hd.2]) (w := nI (7 * i + 1)) (sh_RL_w (k := 0) (by omega) (v := nI (sh_cN (G (7 * i)))) rfl ?_)
    exact t_al0 d n i x S G (av_u (av_u h 44 11 (nI (7 * i + 1))) 51 (5 * i) (nI (sh_cN (G (7 * i))))) _ (by omega) (by omega) upd_s (sh_TM_w (sh_TM_p hT hd.1)) h15
