/-! PURE, 67: calls: sailing, 6: the six acts on both sides -/
theorem c_actJ1 {n m L A x p l : Nat} {G : Nat → Nat} {st c6 c7 cd col str r : Nat → Int32} (hn : n ≤ 7) (hG : sh_G n r) (hA : sh_AG G p) (hp : p = sh_ap G l) (hl : l < A) (hA6 : A ≤ 30) (hx : p + 1 < x) (hx2 : x ≤ 80) (hc : G p = 100) (hk : sh_kd (G p) = 1) : sh_AJ n m L A x p l G st c6 c7 cd col str r := by
  refine c_actF (kx := 128) (km := 207) (as := [.int (nI (G (p + 1) - 48))]) hn hG (a_drops _) ?_ ?_
  · intro d h H
    obtain ⟨v, hv, K⟩ := c_act0 (d + 22) x p G h H.1 hA (by omega)
    refine K _ ?_
    rw [hc, if_pos (show nI 100 = 100 from rfl)]
  · intro d h H
    obtain ⟨v1, v2, v3, v4, v5, v6⟩ := H.2.2.2.2.2.2.2 l hl
    rw [← hp] at v1 v2 v3 v4 v5 v6
    rw [eX7_does_r44_in, sh_inb (show l < 60 by omega) (by decide), nI_clamp (by omega), v2, v3, hk]
    simp only [cond_true]
    rw [if_neg (show ¬ nI 1 = 0 by decide), if_pos (show nI 1 = 1 from rfl)]
theorem c_actJ2 {n m L A x p l : Nat} {G : Nat → Nat} {st c6 c7 cd col str r : Nat → Int32} (hn : n ≤ 7) (hG : sh_G n r) (hA : sh_AG G p) (hp : p = sh_ap G l) (hl : l < A) (hA6 : A ≤ 30) (hx : p + 1 < x) (hx2 : x ≤ 80) (hc : G p = 115) (hk : sh_kd (G p) = 2) : sh_AJ n m L A x p l G st c6 c7 cd col str r := by
  refine c_actF (kx := 129) (km := 208) (as := [.int (nI (G (p + 1) - 48))]) hn hG (a_speed _) ?_ ?_
  · intro d h H
    obtain ⟨v, hv, K⟩ := c_act0 (d + 22) x p G h H.1 hA (by omega)
    refine K _ ?_
    rw [hc, if_neg (show ¬ nI 115 = 100 by decide), if_neg (show ¬ nI 115 = 101 by decide), if_neg (show ¬ nI 115 = 102 by decide), if_neg (show ¬ nI 115 = 103 by decide), if_neg (show ¬ nI 115 = 104 by decide), if_neg (show ¬ nI 115 = 105 by decide), if_neg (show ¬ nI 115 = 106 by decide), if_neg (show ¬ nI 115 = 107 by decide), if_neg (show ¬ nI 115 = 108 by decide), if_neg (show ¬ nI 115 = 109 by decide), if_neg (show ¬ nI 115 = 110 by decide), if_neg (show ¬ nI 115 = 111 by decide), if_neg (show ¬ nI 115 = 112 by decide), if_neg (show ¬ nI 115 = 113 by decide), if_neg (show ¬ nI 115 = 114 by decide), if_pos (show nI 115 = 115 from rfl)]
  · intro d h H
    obtain ⟨v1, v2, v3, v4, v5, v6⟩ := H.2.2.2.2.2.2.2 l hl
    rw [← hp] at v1 v2 v3 v4 v5 v6
    rw [eX7_does_r44_in, sh_inb (show l < 60 by omega) (by decide), nI_clamp (by omega), v2, v3, hk]
    simp only [cond_true]
    rw [if_neg (show ¬ nI 2 = 0 by decide), if_neg (show ¬ nI 2 = 1 by decide), if_pos (show nI 2 = 2 from rfl)]
theorem c_actJ3 {n m L A x p l : Nat} {G : Nat → Nat} {st c6 c7 cd col str r : Nat → Int32} (hn : n ≤ 7) (hG : sh_G n r) (hA : sh_AG G p) (hp : p = sh_ap G l) (hl : l < A) (hA6 : A ≤ 30) (hx : p + 2 < x) (hx2 : x ≤ 80) (hc : G p = 112) (hk : sh_kd (G p) = 3) : sh_AJ n m L A x p l G st c6 c7 cd col str r := by
  refine c_actF (kx := 125) (km := 204) (as := [.int (nI (G (p + 1) - 48)), .int (nI (G (p + 2) - 48))]) hn hG (a_runs _ _) ?_ ?_
  · intro d h H
    obtain ⟨v, hv, K⟩ := c_act0 (d + 22) x p G h H.1 hA (by omega)
    have hv := hv (by omega)
    rw [sh_dI_d (hA.2.2.1 (by omega))] at hv
    subst hv
    refine K _ ?_
    rw [hc, if_neg (show ¬ nI 112 = 100 by decide), if_neg (show ¬ nI 112 = 101 by decide), if_neg (show ¬ nI 112 = 102 by decide), if_neg (show ¬ nI 112 = 103 by decide), if_neg (show ¬ nI 112 = 104 by decide), if_neg (show ¬ nI 112 = 105 by decide), if_neg (show ¬ nI 112 = 106 by decide), if_neg (show ¬ nI 112 = 107 by decide), if_neg (show ¬ nI 112 = 108 by decide), if_neg (show ¬ nI 112 = 109 by decide), if_neg (show ¬ nI 112 = 110 by decide), if_neg (show ¬ nI 112 = 111 by decide), if_pos (show nI 112 = 112 from rfl)]
  · intro d h H
    obtain ⟨v1, v2, v3, v4, v5, v6⟩ := H.2.2.2.2.2.2.2 l hl
    rw [← hp] at v1 v2 v3 v4 v5 v6
    rw [eX7_does_r44_in, sh_inb (show l < 60 by omega) (by decide), nI_clamp (by omega), v2, v3, hk]
    simp only [cond_true]
    rw [if_neg (show ¬ nI 3 = 0 by decide), if_neg (show ¬ nI 3 = 1 by decide), if_neg (show ¬ nI 3 = 2 by decide), if_pos (show nI 3 = 3 from rfl), (v5 (by omega)).2]
theorem c_actJ4 {n m L A x p l : Nat} {G : Nat → Nat} {st c6 c7 cd col str r : Nat → Int32} (hn : n ≤ 7) (hG : sh_G n r) (hA : sh_AG G p) (hp : p = sh_ap G l) (hl : l < A) (hA6 : A ≤ 30) (hx : p + 2 < x) (hx2 : x ≤ 80) (hc : G p = 114) (hk : sh_kd (G p) = 4) : sh_AJ n m L A x p l G st c6 c7 cd col str r := by
  refine c_actF (kx := 126) (km := 205) (as := [.int (nI (G (p + 1) - 48)), .int (nI (G (p + 2) - 48))]) hn hG (a_rates _ _) ?_ ?_
  · intro d h H
    obtain ⟨v, hv, K⟩ := c_act0 (d + 22) x p G h H.1 hA (by omega)
    have hv := hv (by omega)
    rw [sh_dI_d (hA.2.2.1 (by omega))] at hv
    subst hv
    refine K _ ?_
    rw [hc, if_neg (show ¬ nI 114 = 100 by decide), if_neg (show ¬ nI 114 = 101 by decide), if_neg (show ¬ nI 114 = 102 by decide), if_neg (show ¬ nI 114 = 103 by decide), if_neg (show ¬ nI 114 = 104 by decide), if_neg (show ¬ nI 114 = 105 by decide), if_neg (show ¬ nI 114 = 106 by decide), if_neg (show ¬ nI 114 = 107 by decide), if_neg (show ¬ nI 114 = 108 by decide), if_neg (show ¬ nI 114 = 109 by decide), if_neg (show ¬ nI 114 = 110 by decide), if_neg (show ¬ nI 114 = 111 by decide), if_neg (show ¬ nI 114 = 112 by decide), if_neg (show ¬ nI 114 = 113 by decide), if_pos (show nI 114 = 114 from rfl)]
  · intro d h H
    obtain ⟨v1, v2, v3, v4, v5, v6⟩ := H.2.2.2.2.2.2.2 l hl
    rw [← hp] at v1 v2 v3 v4 v5 v6
    rw [eX7_does_r44_in, sh_inb (show l < 60 by omega) (by decide), nI_clamp (by omega), v2, v3, hk]
    simp only [cond_true]
    rw [if_neg (show ¬ nI 4 = 0 by decide), if_neg (show ¬ nI 4 = 1 by decide), if_neg (show ¬ nI 4 = 2 by decide), if_neg (show ¬ nI 4 = 3 by decide), if_pos (show nI 4 = 4 from rfl), (v5 (by omega)).2]
theorem c_actJ5 {n m L A x p l : Nat} {G : Nat → Nat} {st c6 c7 cd col str r : Nat → Int32} (hn : n ≤ 7) (hG : sh_G n r) (hA : sh_AG G p) (hp : p = sh_ap G l) (hl : l < A) (hA6 : A ≤ 30) (hx : p + 3 < x) (hx2 : x ≤ 80) (hc : G p = 109) (hk : sh_kd (G p) = 5) : sh_AJ n m L A x p l G st c6 c7 cd col str r := by
  refine c_actF (kx := 127) (km := 206) (as := [.int (nI (G (p + 1) - 48)), .int (nI (10 * (G (p + 2) - 48) + (G (p + 3) - 48)))]) hn hG (a_reels _ _) ?_ ?_
  · intro d h H
    obtain ⟨v, hv, K⟩ := c_act0 (d + 22) x p G h H.1 hA (by omega)
    have hv := hv (by omega)
    rw [sh_dI_d ((hA.2.2.2 hk).1)] at hv
    subst hv
    refine K _ ?_
    rw [hc, if_neg (show ¬ nI 109 = 100 by decide), if_neg (show ¬ nI 109 = 101 by decide), if_neg (show ¬ nI 109 = 102 by decide), if_neg (show ¬ nI 109 = 103 by decide), if_neg (show ¬ nI 109 = 104 by decide), if_neg (show ¬ nI 109 = 105 by decide), if_neg (show ¬ nI 109 = 106 by decide), if_neg (show ¬ nI 109 = 107 by decide), if_neg (show ¬ nI 109 = 108 by decide), if_pos (show nI 109 = 109 from rfl)]
    rw [c_digX (d + 22) x (p + 3) G h H.1 (by omega)]
    simp only [Option.bind_some]
    rw [sh_dI_d (hA.2.2.2 hk).2, show (10 : Int32) * nI (G (p + 2) - 48) = nI (10 * (G (p + 2) - 48)) from nI_mul 10 _, nI_add]
  · intro d h H
    obtain ⟨v1, v2, v3, v4, v5, v6⟩ := H.2.2.2.2.2.2.2 l hl
    rw [← hp] at v1 v2 v3 v4 v5 v6
    rw [eX7_does_r44_in, sh_inb (show l < 60 by omega) (by decide), nI_clamp (by omega), v2, v3, hk]
    simp only [cond_true]
    rw [if_neg (show ¬ nI 5 = 0 by decide), if_neg (show ¬ nI 5 = 1 by decide), if_neg (show ¬ nI 5 = 2 by decide), if_neg (show ¬ nI 5 = 3 by decide), if_neg (show ¬ nI 5 = 4 by decide), (v6 hk).2.2]
theorem c_actJ0 {n m L A x p l : Nat} {G : Nat → Nat} {st c6 c7 cd col str r : Nat → Int32} (hn : n ≤ 7) (hG : sh_G n r) (hm : m ≤ 40) (hR : sh_RR m st L cd) (hCC : ∀ rl, sh_hr n c6 c7 rl = sh_hr n col str rl) (hst : ∀ j, j < n → sh_B 0 99 (str j)) (hA : sh_AG G p) (hp : p = sh_ap G l) (hl : l < A) (hA6 : A ≤ 30) (hx : p + 1 < x) (hx2 : x ≤ 80) (hc : G p = 110) (hk : sh_kd (G p) = 0) : sh_AJ n m L A x p l G st c6 c7 cd col str r := by
  have hz : G (p + 1) - 48 ≤ 9 := by
    have := hA.2.1
    unfold sh_dg at this
    simp only [Bool.and_eq_true, decide_eq_true_eq] at this
    omega
  obtain ⟨ρ, hρ⟩ : ∃ ρ, ρ = sh_lp (fun _ => sh_hr n col str (sh_rl m st)) (G (p + 1) - 48) 0 r := ⟨_, rfl⟩
  have hGr : sh_G n ρ := by rw [hρ]; exact sh_G_lp hn hst _ 0 r hG
  have hw : 0 ≤ ρ 30 := by
    rw [Int32.le_iff_toInt_le, show (0 : Int32).toInt = 0 by decide]
    exact hGr.2.1.1
  refine ⟨true, ρ, hGr, ?_, ?_⟩
  · intro d h H
    obtain ⟨v, hv, K⟩ := c_act0 (d + 22) x p G h H.1 hA (by omega)
    obtain ⟨t1, t2, t3, t4, t5, t6, t7, t8⟩ := id H
    obtain ⟨h2, e2, f2, s2, g6, g7, _⟩ := c_goHours (d + 18) n m (G (p + 1) - 48) h r (sh_rl m st) hn hm (by omega) t2 t3 t4 t5 (fun g q => by rw [t6]; exact sh_rl_pl hR g q) ρ (by rw [hρ, t7, t8, hCC])
    refine ⟨ρ 30, h2, ?_, ⟨fun _ => rfl, fun _ => hw⟩, sh_fr_up f2 (by decide), sh_KX_fr (sh_fr_up f2 (by decide)) g6 g7 s2 H⟩
    refine K _ ?_
    rw [hc, if_neg (show ¬ nI 110 = 100 by decide), if_neg (show ¬ nI 110 = 101 by decide), if_neg (show ¬ nI 110 = 102 by decide), if_neg (show ¬ nI 110 = 103 by decide), if_neg (show ¬ nI 110 = 104 by decide), if_neg (show ¬ nI 110 = 105 by decide), if_neg (show ¬ nI 110 = 106 by decide), if_neg (show ¬ nI 110 = 107 by decide), if_neg (show ¬ nI 110 = 108 by decide), if_neg (show ¬ nI 110 = 109 by decide), if_pos (show nI 110 = 110 from rfl), show d + 22 + 2 = d + 18 + 6 from rfl, e2]
    rfl
  · intro d h H
    obtain ⟨t1, t2, t3, t4, t5, t6, t7, t8⟩ := id H
    obtain ⟨v1, v2, v3, v4, v5, v6⟩ := t8 l hl
    rw [← hp] at v1 v2 v3 v4 v5 v6
    obtain ⟨h5, e5, f5, w5, l5⟩ := c_goesOn48 (d + 18) n m L (G (p + 1) - 48) st h r hn (by omega) t1 t2 (sh_G_L9 hG) (by rw [t4]; exact hR) t3
    rw [t5, t6, ← hρ] at w5
    refine ⟨h5, ?_, f5, sh_KM_fr f5 w5 H⟩
    rw [eX7_does_r44_in, sh_inb (show l < 60 by omega) (by decide), nI_clamp (by omega), v2, v3, hk]
    simp only [cond_true]
    rw [if_pos (show nI 0 = 0 from rfl), show d + 24 = d + 18 + 6 from rfl, e5]
    simp only [Option.bind_some]
    rw [sh_111]
    rfl
theorem c_actJ {n m L A x p l : Nat} {G : Nat → Nat} {st c6 c7 cd col str r : Nat → Int32} (hn : n ≤ 7) (hG : sh_G n r) (hm : m ≤ 40) (hR : sh_RR m st L cd) (hCC : ∀ rl, sh_hr n c6 c7 rl = sh_hr n col str rl) (hst : ∀ j, j < n → sh_B 0 99 (str j)) (hA : sh_AG G p) (hp : p = sh_ap G l) (hl : l < A) (hA6 : A ≤ 30) (hx : p + sh_wd (G p) < x) (hx2 : x ≤ 80) (h256 : G p < 256) : sh_AJ n m L A x p l G st c6 c7 cd col str r := by
  obtain ⟨k0, k1, k2, k3, k4, k5⟩ := sh_kd_c (G p) h256
  obtain ⟨w1, w2, w3, _⟩ := sh_kd_wd (G p) h256
  have hk := hA.1
  by_cases g0 : sh_kd (G p) = 0
  · exact c_actJ0 hn hG hm hR hCC hst hA hp hl hA6 (by have := w1 (by omega); omega) hx2 (k0 g0) g0
  by_cases g1 : sh_kd (G p) = 1
  · exact c_actJ1 hn hG hA hp hl hA6 (by have := w1 (by omega); omega) hx2 (k1 g1) g1
  by_cases g2 : sh_kd (G p) = 2
  · exact c_actJ2 hn hG hA hp hl hA6 (by have := w1 (by omega); omega) hx2 (k2 g2) g2
  by_cases g3 : sh_kd (G p) = 3
  · exact c_actJ3 hn hG hA hp hl hA6 (by have := w2 (by omega); omega) hx2 (k3 g3) g3
  by_cases g4 : sh_kd (G p) = 4
  · exact c_actJ4 hn hG hA hp hl hA6 (by have := w2 (by omega); omega) hx2 (k4 g4) g4
  exact c_actJ5 hn hG hA hp hl hA6 (by have := w3 (by omega); omega) hx2 (k5 (by omega)) (by omega)
