/-! PURE, 78: calls: rule, 4: the class reads a rule to its end -/
theorem c_rdL (d x S : Nat) (G : Nat → Nat) (hS : S ≤ 40) (hSx : S ≤ x) : ∀ t p (s s' : sh_Y) (h : av_M), p + t ≤ S → sh_TX x G h → sh_yg G t p s = some s' → sh_YS s h → s.1.length + s.2.1.length ≤ p →
    ∃ h', av_xp (d + 5) 11 53 [.ref 23, .ref 1, .int (nI S), .int (nI p)] [] h = av_xp (d + 5) 11 53 [.ref 23, .ref 1, .int (nI S), .int (nI (p + t))] [] h' ∧ sh_fr [23, 24, 25] h h' ∧ sh_YS s' h' ∧ s'.1.length + s'.2.1.length ≤ p + t := by
  intro t
  induction t with
  | zero =>
    intro p s s' h _ _ hg hY hl
    cases hg
    exact ⟨h, rfl, sh_fr_refl _ _, hY, hl⟩
  | succ t ih =>
    intro p s s' h hp hT hg hY hl
    have hg : (sh_yd (G p) s).bind (fun s' => sh_yg G t (p + 1) s') = some s' := hg
    have hc := (hT.2.2 p (by omega)).2
    obtain ⟨T0, T1⟩ := c_takeY d (G p) hc s hY (by omega)
    cases e : sh_yd (G p) s with
    | none => rw [e] at hg; cases hg
    | some s1 =>
      rw [e] at hg
      obtain ⟨h1, t1, t2, t3, t4⟩ := T1 s1 e
      have hT1 : sh_TX x G h1 := ⟨hT.1, by rw [t2 1 (by decide)]; exact hT.2.1, by rw [t2 2 (by decide)]; exact hT.2.2⟩
      obtain ⟨h', u1, u2, u3, u4⟩ := ih (p + 1) s1 s' h1 (by omega) hT1 hg t3 (by omega)
      refine ⟨h', ?_, sh_fr_tr t2 u2 (fun _ q => q), u3, by omega⟩
      rw [eX3_read_r23_r1_53, if_neg (sh_lt (show p < S by omega) (by omega)), c_atX (d + 4) x p G h hT (by omega)]
      simp only [Option.bind_some]
      rw [t1]
      simp only [Option.bind_some]
      rw [if_neg (show ¬ (1 : Int32) = 0 by decide), nI_1, u1, show p + 1 + t = p + (t + 1) by omega]
theorem c_rdN (d x S q : Nat) (G : Nat → Nat) (hS : S ≤ 40) (hSx : S ≤ x) (hq : q < S) (s : sh_Y) (h : av_M) (hT : sh_TX x G h) (hY : sh_YS s h) (hl : s.1.length + s.2.1.length ≤ q) (hn : sh_yd (G q) s = none) : av_xp (d + 5) 11 53 [.ref 23, .ref 1, .int (nI S), .int (nI q)] [] h = some (nI q, 0, h) := by
  have hc := (hT.2.2 q (by omega)).2
  obtain ⟨T0, T1⟩ := c_takeY d (G q) hc s hY (by omega)
  rw [eX3_read_r23_r1_53, if_neg (sh_lt hq (by omega)), c_atX (d + 4) x q G h hT (by omega)]
  simp only [Option.bind_some]
  rw [T0 hn]
  rfl
theorem c_rdE (d x S : Nat) (G : Nat → Nat) (hS : S = min x 40) (s : sh_Y) (h : av_M) (hT : sh_TX x G h) (hY : sh_YS s h) (hl : s.1.length + s.2.1.length ≤ S) :
    (x ≤ 40 ∧ s.2.2.2.2.2 = false ∧ s.2.2.1 = 0 → ∃ h', av_xp (d + 5) 11 53 [.ref 23, .ref 1, .int (nI S), .int (nI S)] [] h = some (-1, 0, h') ∧ sh_fr [23, 24, 25] h h' ∧ h' 23 3 = nI (sh_yr 1 s.2.1 s.1).2.length ∧ sh_ls (h' 24) id (sh_yr 1 s.2.1 s.1).2) ∧ (¬ (x ≤ 40 ∧ s.2.2.2.2.2 = false ∧ s.2.2.1 = 0) → av_xp (d + 5) 11 53 [.ref 23, .ref 1, .int (nI S), .int (nI S)] [] h = some (nI S, 0, h)) := by
  obtain ⟨o, w, n, cm, dg, wt⟩ := s
  have hY : sh_YX o w n cm dg wt h := hY
  have hl : o.length + w.length ≤ S := hl
  obtain ⟨e3, eo, e4, ew, e5, n4, ecm, e7, e8, hw⟩ := id hY
  obtain ⟨hx, h11, hg⟩ := id hT
  rw [eX3_read_r23_r1_53, if_pos (Int32.le_refl _), h11, e8, e5]
  show (x ≤ 40 ∧ wt = false ∧ n = 0 → _) ∧ (¬ (x ≤ 40 ∧ wt = false ∧ n = 0) → _)
  refine ⟨fun g => ?_, fun g => ?_⟩
  · obtain ⟨g1, g2, g3⟩ := g
    obtain ⟨h1, r1, r2, r3, r4, r5, r6, r7⟩ := c_relY (d + 3) 1 (by decide) w o h (by omega) e3 eo e4 ew hw
    have R : av_x (d + 5) 18 [.ref 23, .int 1] h = some (0, 0, h1) := by rw [eX3_release_r23_in]; exact r1
    rw [if_neg (nI_nlt (by omega) (by omega)), g2, if_pos (show sh_i false = 0 from rfl), g3, if_pos (show nI 0 ≤ (0 : Int32) by decide), R]
    exact ⟨h1, rfl, sh_fr_up r6 (by decide), r2, r3⟩
  · by_cases g1 : x ≤ 40
    · rw [if_neg (nI_nlt (by omega) (by omega))]
      cases wt with
      | true => rw [if_neg (show ¬ sh_i true = 0 by decide)]
      | false =>
        have g3 : n ≠ 0 := fun z => g ⟨g1, rfl, z⟩
        rw [if_pos (show sh_i false = 0 from rfl), if_neg (nI_nle (by omega) (by omega))]
    · rw [if_pos (nI_lt (by omega) (by omega))]
def sh_y0 : sh_Y := ([], [], 0, fun _ => false, 0, true)
def sh_yI (h : av_M) : av_M := av_u (av_u (av_u (av_u (av_u h 23 3 0) 23 4 0) 23 5 0) 23 6 0) 23 8 1
theorem sh_yI_fr (h : av_M) : sh_fr [23, 24, 25] h (sh_yI h) := sh_fr_u (by decide) (sh_fr_u (by decide) (sh_fr_u (by decide) (sh_fr_u (by decide) (sh_fr_u (by decide) (sh_fr_refl _ _)))))
theorem sh_yI_Y (h : av_M) : sh_YX [] [] 0 (fun _ => false) 0 true (sh_yI h) := ⟨rfl, trivial, rfl, trivial, rfl, by decide, fun i hi => by show bt 0 i = false; exact b_0 i, fun z => (nomatch z), rfl, fun a z => absurd z List.not_mem_nil⟩
theorem c_readX (d x q : Nat) (G : Nat → Nat) (h : av_M) (hT : sh_TX x G h) (hx : x ≠ 0) (s : sh_Y) (hq : q ≤ min x 40) (hr : sh_yq G 0 q sh_y0 s) :
    (q < min x 40 → sh_yd (G q) s = none → ∃ h', av_x (d + 6) 11 [.ref 23, .ref 1] h = some (nI q, 0, h') ∧ sh_fr [23, 24, 25] h h') ∧
    (q = min x 40 → x ≤ 40 ∧ s.2.2.2.2.2 = false ∧ s.2.2.1 = 0 → ∃ h', av_x (d + 6) 11 [.ref 23, .ref 1] h = some (-1, 0, h') ∧ sh_fr [23, 24, 25] h h' ∧ h' 23 3 = nI (sh_yr 1 s.2.1 s.1).2.length ∧ sh_ls (h' 24) id (sh_yr 1 s.2.1 s.1).2) ∧
    (q = min x 40 → ¬ (x ≤ 40 ∧ s.2.2.2.2.2 = false ∧ s.2.2.1 = 0) → ∃ h', av_x (d + 6) 11 [.ref 23, .ref 1] h = some (nI q, 0, h') ∧ sh_fr [23, 24, 25] h h') := by
  obtain ⟨S, hS⟩ : ∃ S, S = min x 40 := ⟨_, rfl⟩
  rw [← hS] at hq ⊢
  have f0 := sh_yI_fr h
  have hT0 : sh_TX x G (sh_yI h) := ⟨hT.1, by rw [f0 1 (by decide)]; exact hT.2.1, by rw [f0 2 (by decide)]; exact hT.2.2⟩
  have hgo : sh_yg G q 0 sh_y0 = some s := by have := hr.2; rwa [Nat.sub_zero] at this
  obtain ⟨h1, u1, u2, u3, u4⟩ := c_rdL d x S G (by omega) (by omega) q 0 sh_y0 s (sh_yI h) (by omega) hT0 hgo (sh_yI_Y h) (by decide)
  rw [Nat.zero_add] at u1 u4
  have hT1 : sh_TX x G h1 := ⟨hT.1, by rw [u2 1 (by decide)]; exact hT0.2.1, by rw [u2 2 (by decide)]; exact hT0.2.2⟩
  have f1 : sh_fr [23, 24, 25] h h1 := sh_fr_tr f0 u2 (fun _ z => z)
  have K : av_x (d + 6) 11 [.ref 23, .ref 1] h = av_xp (d + 5) 11 53 [.ref 23, .ref 1, .int (nI S), .int (nI q)] [] h1 := by
    rw [eX3_read_r23_r1_in, hT.2.1, if_neg (nI_ne0 (by omega) (by have := hT.1; omega))]
    have em : av_min (nI x) 40 = nI S := by
      unfold av_min
      by_cases g : x ≤ 40
      · rw [if_neg (show ¬ (40 : Int32) < nI x from nI_nlt (a := 40) g (by decide)), show S = x by omega]
      · rw [if_pos (show (40 : Int32) < nI x from nI_lt (a := 40) (by omega) (by have := hT.1; omega)), show S = 40 by omega]
        rfl
    rw [em]
    exact u1
  rw [K]
  refine ⟨fun g1 g2 => ⟨h1, c_rdN d x S q G (by omega) (by omega) g1 s h1 hT1 u3 u4 g2, f1⟩, fun g1 g2 => ?_, fun g1 g2 => ?_⟩
  · rw [g1] at u4 ⊢
    obtain ⟨h', v1, v2, v3, v4⟩ := (c_rdE d x S G hS s h1 hT1 u3 u4).1 g2
    exact ⟨h', v1, sh_fr_tr f1 v2 (fun _ z => z), v3, v4⟩
  · rw [g1] at u4 ⊢
    exact ⟨h1, (c_rdE d x S G hS s h1 hT1 u3 u4).2 g2, f1⟩
theorem c_readX0 (d : Nat) (h : av_M) (h0 : h 1 1 = nI 0) : ∃ h', av_x (d + 6) 11 [.ref 23, .ref 1] h = some (-1, 0, h') ∧ sh_fr [23, 24, 25] h h' ∧ h' 23 3 = nI 1 ∧ h' 24 0 = 1107 := by
  have yd : sh_yd 107 sh_y0 = some ([1107], [], 0, fun _ => false, 0, false) := rfl
  obtain ⟨-, T1⟩ := c_takeT (d + 1) 107 (by decide) (sh_yI_Y h) (by decide)
  obtain ⟨h', t1, t2, t3, -⟩ := T1 _ yd
  refine ⟨h', ?_, sh_fr_tr (sh_yI_fr h) t2 (fun _ z => z), t3.1, t3.2.1.1⟩
  rw [eX3_read_r23_r1_in, h0, if_pos (show nI 0 = (0 : Int32) by decide)]
  have t1 : av_x (d + 5) 13 [.ref 23, .int 107] (sh_yI h) = some (1, 0, h') := t1
  show (av_x (d + 5) 13 [.ref 23, .int 107] (sh_yI h)).bind _ = _
  rw [t1]
  rfl
