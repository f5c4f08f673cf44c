/-! PURE, 60: calls: streamers, the call -/
theorem sh_sc_le (ok : Nat → Bool) : ∀ T p, p ≤ sh_sc ok T p ∧ sh_sc ok T p ≤ p + T := by
  intro T
  induction T with
  | zero => intro p; exact ⟨Nat.le_refl _, Nat.le_refl _⟩
  | succ T ih =>
    intro p
    rw [sh_sc_s]
    by_cases e : ok p = true
    · rw [if_pos e]
      have := ih (p + 1)
      omega
    · rw [if_neg e]; omega
theorem sh_sc_ok (ok : Nat → Bool) : ∀ T p j, p ≤ j → j < sh_sc ok T p → ok j = true := by
  intro T
  induction T with
  | zero => intro p j h1 h2; exact absurd (show j < p from h2) (by omega)
  | succ T ih =>
    intro p j h1 h2
    rw [sh_sc_s] at h2
    by_cases e : ok p = true
    · rw [if_pos e] at h2
      by_cases g : j = p
      · rw [g]; exact e
      · exact ih (p + 1) j (by omega) h2
    · rw [if_neg e] at h2; omega
theorem sh_min48 {x : Nat} (hx : x ≤ 80) : av_min (nI x) 48 = nI (min x 48) := by
  unfold av_min
  by_cases q : 48 < x
  · rw [if_pos (show (48 : Int32) < nI x from nI_lt (a := 48) q (by omega)), show min x 48 = 48 by omega]; rfl
  · rw [if_neg (show ¬ (48 : Int32) < nI x from nI_nlt (a := 48) (by omega) (by omega)), show min x 48 = x by omega]
theorem sh_neg80 : ∀ q, q < 81 → ¬ (0 : Int32) ≤ -1 - nI q := by decide +kernel
def sh_gq (x q : Nat) : Bool := decide (x = 0 ∨ q % 7 = 6)
theorem t_run (d n x q : Nat) (G : Nat → Nat) (h : av_M) (hq : q = sh_sc (fun p => sh_fz n p (G p)) (min x 48) 0) (hx : x ≤ 80) (h0 : 0 < x) (hn : n ≤ 7) (hm : h 44 3 = nI n) (h10 : h 44 10 = nI x) (hG : ∀ j, j < x → h 50 j = nI (G j) ∧ G j < 256) :
    ∃ h2, av_x (d + 7) 184 [.ref 44] h = (if sh_gq x q = true ∧ q = min x 48 ∧ x ≤ 48 then av_xp (d + 6) 184 81 [.ref 44, .int (nI x), .int (sh_i (sh_gq x q)), .int 0, .int 0, .int 0] [] h2 else some (-1 - nI q, 0, h2)) ∧ sh_fr [44, 51] h h2 ∧ (∀ j, j ∉ [0, 10, 11, 12, 13, 15] → h2 44 j = h 44 j) ∧ h2 44 10 = 0 ∧ (sh_gq x q = true → h2 44 15 = nI ((q + 1) / 7) ∧ ∀ l, l < (q + 1) / 7 → ∀ k, k < 5 → h2 51 (5 * l + k) = sh_lv G l k) := by
  obtain ⟨H, hH⟩ : ∃ H : av_M, H = av_u (av_u (av_u (av_u (av_u (av_u h 44 0 0) 44 10 0) 44 11 0) 44 13 0) 44 12 (nI (min x 48))) 44 15 0 := ⟨_, rfl⟩
  have fH : sh_fr [44, 51] h H := by
    rw [hH]
    exact sh_fr_u (by decide) (sh_fr_u (by decide) (sh_fr_u (by decide) (sh_fr_u (by decide) (sh_fr_u (by decide) (sh_fr_u (by decide) (sh_fr_refl _ _))))))
  have kH : ∀ j, j ∉ [0, 10, 11, 12, 13, 15] → H 44 j = h 44 j := by
    intro j hj
    simp only [List.mem_cons, List.not_mem_nil, or_false, not_or] at hj
    obtain ⟨j0, j10, j11, j12, j13, j15⟩ := hj
    rw [hH]
    show upd (upd (upd (upd (upd (upd (h 44) 0 0) 10 0) 11 0) 13 0) 12 _) 15 0 j = h 44 j
    unfold upd
    rw [if_neg j15, if_neg j12, if_neg j13, if_neg j11, if_neg j10, if_neg j0]
  have t10 : H 44 10 = 0 := by rw [hH]; rfl
  have t11 : H 44 11 = nI 0 := by rw [hH]; rfl
  have t12 : H 44 12 = nI (min x 48) := by rw [hH]; rfl
  have t15 : H 44 15 = nI 0 := by rw [hH]; rfl
  have hTM : sh_TM x (min x 48) (7 * 0) G H := ⟨by omega, by omega, by omega, t12, t11, by rw [fH 50 (by decide)]; exact hG⟩
  obtain ⟨good, L, q', h2, e2, l1, l2, l3, l4, l5, l6, l7, l8⟩ := t_lines d n x (min x 48) G (nI x) (7 - n) 0 1 H (by omega) (by rw [kH 3 (by decide)]; exact hm) hTM t15 (fun j hj => absurd hj (by omega)) (fun l hl => absurd hl (by omega))
  have eq : q' = q := by
    rw [hq]
    exact (sh_sc_u _ _ 0 q' (by omega) (by omega) (fun j _ hj => l5 j hj) (by
      rcases l6 with l6 | l6
      · exact Or.inl (by omega)
      · exact Or.inr l6)).symm
  subst eq
  have eg : good = sh_gq x q' := by
    unfold sh_gq
    cases good
    · exact (decide_eq_false (fun z => by
        rcases z with z | z
        · omega
        · exact l8 rfl z)).symm
    · exact (decide_eq_true (Or.inr (by have := (l7 rfl).2.1; omega))).symm
  rw [← eg]
  refine ⟨h2, ?_, sh_fr_tr fH l1 (fun _ q => q), ?_, ?_, ?_⟩
  · have f := t_fault (d + 5) x (min x 48) q' good h2 rfl hx l4 l3 (by rw [l2 12 (by decide) (by decide)]; exact t12)
    rw [eX7_streamers_r44_in, eX7_begins_r44_in]
    simp only [Option.bind_some]
    rw [show (av_u h 44 0 0) 44 10 = nI x from h10, if_neg (show ¬ nI x ≤ 0 from sh_lt (k := 0) h0 (by omega)), sh_min48 hx, ← hH, e2, eX7_streamers_r44_29, if_pos rfl, f]
    simp only [Option.bind_some]
    by_cases g : good = true ∧ q' = min x 48 ∧ x ≤ 48
    · rw [if_pos g, if_pos g, if_pos (by decide)]
    · rw [if_neg g, if_neg g, if_neg (sh_neg80 q' (by omega))]
  · intro j hj
    rw [l2 j (fun e => hj (by rw [e]; decide)) (fun e => hj (by rw [e]; decide))]
    exact kH j hj
  · rw [l2 10 (by decide) (by decide)]; exact t10
  · intro g
    obtain ⟨m1, m2, m3, m4⟩ := l7 g
    rw [show (q' + 1) / 7 = L by omega]
    exact ⟨m1, m4⟩
theorem t_run0 (d : Nat) (h : av_M) (h10 : h 44 10 = nI 0) : ∃ h2, av_x (d + 7) 184 [.ref 44] h = some (0, 0, h2) ∧ sh_fr [44] h h2 ∧ (∀ j, j ∉ [0, 10, 11, 12, 13, 15] → h2 44 j = h 44 j) ∧ h2 44 10 = 0 := by
  obtain ⟨H, hH⟩ : ∃ H : av_M, H = av_u (av_u (av_u (av_u (av_u (av_u h 44 0 0) 44 10 0) 44 11 0) 44 13 0) 44 12 (nI (min 0 48))) 44 15 0 := ⟨_, rfl⟩
  have fH : sh_fr [44] h H := by
    rw [hH]
    exact sh_fr_u (by decide) (sh_fr_u (by decide) (sh_fr_u (by decide) (sh_fr_u (by decide) (sh_fr_u (by decide) (sh_fr_u (by decide) (sh_fr_refl _ _))))))
  have kH : ∀ j, j ∉ [0, 10, 11, 12, 13, 15] → H 44 j = h 44 j := by
    intro j hj
    simp only [List.mem_cons, List.not_mem_nil, or_false, not_or] at hj
    obtain ⟨j0, j10, j11, j12, j13, j15⟩ := hj
    rw [hH]
    show upd (upd (upd (upd (upd (upd (h 44) 0 0) 10 0) 11 0) 13 0) 12 _) 15 0 j = h 44 j
    unfold upd
    rw [if_neg j15, if_neg j12, if_neg j13, if_neg j11, if_neg j10, if_neg j0]
  have t10 : H 44 10 = 0 := by rw [hH]; rfl
  have t11 : H 44 11 = nI 0 := by rw [hH]; rfl
  have t12 : H 44 12 = nI (min 0 48) := by rw [hH]; rfl
  have t15 : H 44 15 = 0 := by rw [hH]; rfl
  have f := t_fault (d + 5) 0 (min 0 48) 0 true H rfl (by omega) (by omega) t11 t12
  rw [if_pos ⟨rfl, by omega, by omega⟩] at f
  have f' : av_x (d + 6) 182 [.ref 44, .int (nI 0), .int 48, .int 1] H = _ := f
  refine ⟨H, ?_, fH, kH, t10⟩
  rw [eX7_streamers_r44_in, eX7_begins_r44_in]
  simp only [Option.bind_some]
  rw [show (av_u h 44 0 0) 44 10 = nI 0 from h10, if_pos (show nI 0 ≤ 0 by decide), sh_min48 (by omega), ← hH, eX7_streamers_r44_29, if_pos rfl, f']
  simp only [Option.bind_some]
  rw [if_pos (show (0 : Int32) ≤ 0 by decide), eX7_streamers_r44_81, t15, if_pos (by decide), if_pos (by decide), if_pos (by decide), c_flag0]
  simp only [Option.bind_some]
  rw [av_self (h := H) (a := 44) (k := 22) rfl, Int32.add_zero, av_self (h := H) (a := 44) (k := 4) rfl, t15]
