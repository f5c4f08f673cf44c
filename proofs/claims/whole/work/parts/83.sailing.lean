/-! PURE, 73: calls: sailing, the call -/
theorem sh_N_m1 (b : Nat) : (if b = 0 then (-1 : Int32) else 1) < 0 ↔ b = 0 := by
  by_cases g : b = 0
  · rw [if_pos g]; exact ⟨fun _ => g, fun _ => by decide⟩
  · rw [if_neg g]; exact ⟨fun z => absurd z (by decide), fun z => absurd z g⟩
theorem c_sail_yes {d N n x S : Nat} {r : Nat → Int32} {G : Nat → Nat} {h : av_M} (h0 : sh_R0 N n r h) (hT : sh_PT h) (hx : x ≤ 80) (hS : S = min x 60) (x2 : h 44 10 = nI x) (hTX : sh_TX x G h) (g50 : ∀ j, j < x → h 50 j = nI (G j) ∧ G j < 256) (hyes : sh_ag x (sh_aw G S 0 0)) : ∃ a h1 h2, av_x (d + 100) 64 [.ref 0] h = some (a, 0, h1) ∧ av_x (d + 100) 217 [.ref 44] h1 = some (a, 0, h2) ∧ sh_Rel (N + 1) h2 := by
  obtain ⟨pA, pB, pX, pU, pK, pF, pH, pS, pN⟩ := id h0
  obtain ⟨a1, a2, a3, a4, a5, a6, a7, a8⟩ := id pA
  obtain ⟨b, u, R, m1, m2, m3⟩ := id pU
  obtain ⟨m, L, l1, l2, l3⟩ := id pB
  have hb := c_badAct (d + 96) x G h hTX
  have hz : (sh_aw G S 0 0).1 ≤ S := by have := (sh_aw_ge G S 0 0).2; omega
  have hq := (sh_az_eq (x := x) (z := sh_aw G S 0 0) (by rw [← hS]; exact hz)).1 hyes
  rw [← hS] at hb hq
  rw [hq] at hb
  obtain ⟨A, h9, _, _, _, _, _, w9⟩ := t_runS (d + 94) x S G h hS hx x2 g50
  obtain ⟨_, hA30, hAx, hAV⟩ := w9 hyes
  obtain ⟨h1, e1, f1, n1, z1⟩ := c_mark (d + 97) b u R h r m1 a4
  obtain ⟨D, bad, ρ, hG, hD, cX, cM⟩ := c_exec (L := L) (A := A) (x := x) (G := G) (st := h 20) (c6 := h 6) (c7 := h 7) (cd := h 52) (col := h 46) (str := h 47) (-1) (nI x) (sh_i true) 0 a1 l3.1 l3 (fun rl => sh_hrX a7 rl) (fun j hj => (a7 j hj).2.2) (fun l hl => sh_AV_G (hAV l hl)) hA30 hAx hx (fun j hj => (g50 j hj).2) A 0 r (by omega) a8
  have k1 : sh_KX n m x G (h 20) (h 6) (h 7) r h1 := ⟨⟨hx, by rw [f1 1 (by decide)]; exact hTX.2.1, by rw [f1 2 (by decide)]; exact hTX.2.2⟩, by rw [f1 5 (by decide)]; exact a2, by rw [f1 5 (by decide)]; exact a3, sh_SV5 f1 (by decide) a4, by rw [f1 19 (by decide)]; exact l1, f1 20 (by decide), f1 6 (by decide), f1 7 (by decide)⟩
  obtain ⟨h2, e2, f2, q2⟩ := cX (d + 74) h1 k1
  obtain ⟨h3, e3, f3, x3, y3, t3, n3, p3⟩ := c_sX (d + 74) b u D R r bad h2 (by omega) (sh_M1_fr f2 (by decide) (by decide) n1) (sh_RW_fr f2 (by decide) z1)
  have eX : av_x (d + 100) 64 [.ref 0] h = some (nI D, 0, h3) := by
    rw [eX6_sailing_r0_in, hb]
    simp only [Option.bind_some]
    rw [if_pos (show (-1 : Int32) < 0 by decide), e1]
    simp only [Option.bind_some]
    exact e2.trans e3
  have c3 : sh_fr [1, 3, 4, 5, 8, 9, 10, 11, 22, 27, 28] h h3 := sh_fr_tr (sh_fr_tr (sh_fr_up f1 (by decide)) (sh_fr_up f2 (by decide)) (fun _ q => q)) (sh_fr_up f3 (by decide)) (fun _ q => q)
  obtain ⟨A2, h4, e4, _, f4, k4, t4, w4⟩ := t_runS (d + 94) x S G h3 hS hx (by rw [c3 44 (by decide)]; exact x2) (by rw [c3 50 (by decide)]; exact g50)
  have e4 := e4 hyes
  obtain ⟨v27, _, vAx, vAV⟩ := w4 hyes
  have eA : A2 = A := sh_ap_inj (by rw [vAx, hAx])
  rw [eA] at v27 vAV
  have c34 : sh_fr [1, 3, 4, 5, 8, 9, 10, 11, 22, 27, 28, 44, 57, 58, 59] h h4 := sh_fr_tr (sh_fr_up c3 (by decide)) (sh_fr_up f4 (by decide)) (fun _ q => q)
  have k34 : ∀ j, j ∉ [0, 10, 11, 12, 13, 27] → h4 44 j = h 44 j := fun j hj => by rw [k4 j hj, c3 44 (by decide)]
  have m24 : sh_M2 u R h4 := ⟨m2.1, by rw [k34 22 (by decide)]; exact m2.2.1, fun i hi o ho => by rw [c34 56 (by decide)]; exact m2.2.2 i hi o ho⟩
  have mv4 : sh_MV 48 h4 r := sh_MV_fr c34 (by decide) a6
  obtain ⟨h5, e5, f5, w5, z5⟩ := c_puts (d + 98) u R h4 r m24 mv4
  have km5 : sh_KM n L A G (h 52) (h 46) (h 47) r h5 := ⟨by rw [f5 44 (by decide), k34 3 (by decide)]; exact a5, sh_MV_fr f5 (by decide) mv4, by rw [f5 44 (by decide), k34 18 (by decide)]; exact l2, by rw [f5 52 (by decide)]; exact c34 52 (by decide), by rw [f5 46 (by decide)]; exact c34 46 (by decide), by rw [f5 47 (by decide)]; exact c34 47 (by decide), by rw [f5 44 (by decide)]; exact v27, fun l hl => sh_AV_s (i := 0) ⟨by rw [f5 57 (by decide)], by rw [f5 58 (by decide)], by rw [f5 59 (by decide)]⟩ (vAV l hl)⟩
  obtain ⟨h6, e6, f6, q6⟩ := cM (d + 74) h5 km5
  have w6 : sh_M2 u R h6 := ⟨w5.1, by rw [f6 44 (by decide)]; exact w5.2.1, fun i hi o ho => by rw [f6 56 (by decide)]; exact w5.2.2 i hi o ho⟩
  obtain ⟨h7, e7, f7, k7, t7, n7, p7⟩ := c_sM (d + 74) u D R r bad h6 (by omega) w6 (sh_RM_fr f6 (by decide) z5)
  have eM : av_x (d + 100) 217 [.ref 44] h3 = some (nI D, 0, h7) := by
    rw [e4, e5]
    simp only [Option.bind_some]
    exact e6.trans e7
  have f37 : sh_fr [44, 45, 48, 54, 55, 56, 57, 58, 59] h3 h7 := sh_fr_tr (sh_fr_tr (sh_fr_tr (sh_fr_up f4 (by decide)) (sh_fr_up f5 (by decide)) (fun _ q => q)) (sh_fr_up f6 (by decide)) (fun _ q => q)) (sh_fr_up f7 (by decide)) (fun _ q => q)
  have fA : sh_fr [1, 3, 4, 5, 8, 9, 10, 11, 22, 27, 28, 44, 45, 48, 54, 55, 56, 57, 58, 59] h h7 := sh_fr_tr (sh_fr_up c3 (by decide)) (sh_fr_up f37 (by decide)) (fun _ q => q)
  have k27 : ∀ j, 2 ≤ j → j < 44 → j ≠ 22 → h7 44 j = h4 44 j := fun j j1 j2 j3 => by rw [k7 j j1 j2 j3, f6 44 (by decide), f5 44 (by decide)]
  refine ⟨nI D, h3, h7, eX, eM, ⟨n, ρ, sh_R0_sail h0 (fun c b1 b2 => fA c (fun e => ?_)) (fun j hj => ?_) ?_ (by rw [f37 5 (by decide), f3 5 (by decide)]; exact q2.2.1) (by rw [f37 5 (by decide), f3 5 (by decide)]; exact q2.2.2.1) (sh_SV5 f37 (by decide) (sh_SV5 f3 (by decide) q2.2.2.2.1)) (sh_MV_fr f7 (by decide) q6.2.1) hG ?_ (by rw [f37 1 (by decide)]; exact x3) (by rw [k27 10 (by decide) (by decide) (by decide)]; exact t4)⟩, sh_PT_of (l := [sh_bJ bad, Int32.toInt64 (ρ 30)]) (by simp) (sh_t1_fr f37 (by decide) (by decide) (by rw [← show h2 5 10 = ρ 30 from q2.2.2.2.1.2.2.2.2.2.2.1]; exact t3)) (by rw [← show h6 48 30 = ρ 30 from q6.2.1 30 (by decide)]; exact t7)⟩
  · exact (by decide : ∀ c, c ∈ [1, 3, 4, 5, 8, 9, 10, 11, 22, 27, 28, 44, 45, 48, 54, 55, 56, 57, 58, 59] → c ∉ sh_X1 → c ∉ [1, 57, 58, 59] → False) c e b1 b2
  · have hj2 := (by decide : ∀ j, j ∈ [3, 4, 18, 28, 33, 36] → 2 ≤ j ∧ j < 44 ∧ j ≠ 22 ∧ j ∉ [0, 10, 11, 12, 13, 27]) j hj
    rw [k27 j hj2.1 hj2.2.1 hj2.2.2.1, k34 j hj2.2.2.2]
  · rw [f37 27 (by decide), y3, f2 27 (by decide), f1 27 (by decide)]
  · have s1 : ∀ {a' u' : Nat} {R' : Nat → Nat → Int32}, sh_M1 a' u' R' h3 → sh_M1 a' u' R' h7 := fun q => sh_M1_fr f37 (by decide) (by decide) q
    exact sh_PU_of (if D = 0 then (-1 : Int32) else 1) a8 m3 (fun g => s1 (n3 ((sh_N_m1 D).mp g))) (fun g => s1 (p3 (fun e => g ((sh_N_m1 D).mpr e)))) (fun g => n7 ((sh_N_m1 D).mp g)) (fun g => p7 (fun e => g ((sh_N_m1 D).mpr e)))
