/-! THE LAW, 2: each call -/
section LZC
variable {p : Program} {l : Launch} {e : Env} {s : State} {m : MethodId} {below : List Frame} {meth : Method} {c : Code} {b : Nat}
variable {ad : Nat → Nat} {D : va_G} {cI cJ cZ : ClassId} {scr : Nat → Int32} {L : Nat}
set_option maxRecDepth 40000 in
theorem lz_260 (C : lz_C p s m c b ad D cI cJ cZ scr L) {cells slots : Nat} (hc : cells ≤ 601024) (hs : slots ≤ 7293034) {N : Nat} (hk : 5 * N + 4 < L) {x5 x6 x7 : Value} {h : av_M} (hN : N < 1000000) (hRel : sh_Rel N h) (hI : ∀ k : av_M, sh_Rel (N + 1) k → lz_W p l e s m below meth c b ad D cI cJ cZ scr L cells slots 1621 [.ref 90, .ref 0, .ref 44, .ref 76, .int (nI (5 * N)), x5, x6, x7] [] k) :
    lz_W p l e s m below meth c b ad D cI cJ cZ scr L cells slots 260 [.ref 90, .ref 0, .ref 44, .ref 76, .int (nI (5 * N)), x5, x6, x7] [] h := by
  have hL : L ≤ 2560 := C.2.2.2.2.2.2.2.2
  have J1 := fun (h : av_M) (e : h 91 0 = nI L) => lz_J (N := N) (k := 1) (c := 1) (L := L) rfl (by omega) hL h e
  have V1 : Int32.toNatClampNeg (nI (5 * N) + 1) = 5 * N + 1 := lz_V (k := 1) rfl (by omega)
  exact lz_two C hc hs (kx := 52) (km := 173) (pc0 := 260) (pcA := 270) (n1 := 8) (n2 := 11) (S1 := [270]) (S2 := [1621]) (as := [.int (scr (5 * N + 1))]) (c_sign _) rfl rfl (fun h a2 a1 => by rw [eL_260a]; simp only [cond_true, a1, J1 h a2, V1]) (fun h s0 a2 a1 => by rw [eL_260b]; simp only [cond_true, a1, J1 h a2, V1]) hN hRel hI
set_option maxRecDepth 40000 in
theorem lz_285 (C : lz_C p s m c b ad D cI cJ cZ scr L) {cells slots : Nat} (hc : cells ≤ 601024) (hs : slots ≤ 7293034) {N : Nat} (hk : 5 * N + 4 < L) {x5 x6 x7 : Value} {h : av_M} (hN : N < 1000000) (hRel : sh_Rel N h) (hI : ∀ k : av_M, sh_Rel (N + 1) k → lz_W p l e s m below meth c b ad D cI cJ cZ scr L cells slots 1621 [.ref 90, .ref 0, .ref 44, .ref 76, .int (nI (5 * N)), x5, x6, x7] [] k) :
    lz_W p l e s m below meth c b ad D cI cJ cZ scr L cells slots 285 [.ref 90, .ref 0, .ref 44, .ref 76, .int (nI (5 * N)), x5, x6, x7] [] h := by
  have hL : L ≤ 2560 := C.2.2.2.2.2.2.2.2
  have J1 := fun (h : av_M) (e : h 91 0 = nI L) => lz_J (N := N) (k := 1) (c := 1) (L := L) rfl (by omega) hL h e
  have V1 : Int32.toNatClampNeg (nI (5 * N) + 1) = 5 * N + 1 := lz_V (k := 1) rfl (by omega)
  exact lz_two C hc hs (kx := 53) (km := 174) (pc0 := 285) (pcA := 295) (n1 := 8) (n2 := 11) (S1 := [295]) (S2 := [1621]) (as := [.int (scr (5 * N + 1))]) (c_end _) rfl rfl (fun h a2 a1 => by rw [eL_285a]; simp only [cond_true, a1, J1 h a2, V1]) (fun h s0 a2 a1 => by rw [eL_285b]; simp only [cond_true, a1, J1 h a2, V1]) hN hRel hI
set_option maxRecDepth 40000 in
theorem lz_310 (C : lz_C p s m c b ad D cI cJ cZ scr L) {cells slots : Nat} (hc : cells ≤ 601024) (hs : slots ≤ 7293034) {N : Nat} (hk : 5 * N + 4 < L) {x5 x6 x7 : Value} {h : av_M} (hN : N < 1000000) (hRel : sh_Rel N h) (hI : ∀ k : av_M, sh_Rel (N + 1) k → lz_W p l e s m below meth c b ad D cI cJ cZ scr L cells slots 1621 [.ref 90, .ref 0, .ref 44, .ref 76, .int (nI (5 * N)), x5, x6, x7] [] k) :
    lz_W p l e s m below meth c b ad D cI cJ cZ scr L cells slots 310 [.ref 90, .ref 0, .ref 44, .ref 76, .int (nI (5 * N)), x5, x6, x7] [] h := by
  have hL : L ≤ 2560 := C.2.2.2.2.2.2.2.2
  exact lz_two C hc hs (kx := 54) (km := 184) (pc0 := 310) (pcA := 314) (n1 := 3) (n2 := 6) (S1 := [314]) (S2 := [1621]) (as := []) c_streamers rfl rfl (fun h a2 a1 => by exact eL_310a _ _ _ _ _ _ _ _) (fun h s0 a2 a1 => by exact eL_310b _ _ _ _ _ _ _ _ _) hN hRel hI
set_option maxRecDepth 40000 in
theorem lz_323 (C : lz_C p s m c b ad D cI cJ cZ scr L) {cells slots : Nat} (hc : cells ≤ 601024) (hs : slots ≤ 7293034) {N : Nat} (hk : 5 * N + 4 < L) {x5 x6 x7 : Value} {h : av_M} (hN : N < 1000000) (hRel : sh_Rel N h) (hI : ∀ k : av_M, sh_Rel (N + 1) k → lz_W p l e s m below meth c b ad D cI cJ cZ scr L cells slots 1621 [.ref 90, .ref 0, .ref 44, .ref 76, .int (nI (5 * N)), x5, x6, x7] [] k) :
    lz_W p l e s m below meth c b ad D cI cJ cZ scr L cells slots 323 [.ref 90, .ref 0, .ref 44, .ref 76, .int (nI (5 * N)), x5, x6, x7] [] h := by
  have hL : L ≤ 2560 := C.2.2.2.2.2.2.2.2
  exact lz_two C hc hs (kx := 55) (km := 190) (pc0 := 323) (pcA := 327) (n1 := 3) (n2 := 6) (S1 := [327]) (S2 := [1621]) (as := []) c_rule rfl rfl (fun h a2 a1 => by exact eL_323a _ _ _ _ _ _ _ _) (fun h s0 a2 a1 => by exact eL_323b _ _ _ _ _ _ _ _ _) hN hRel hI
set_option maxRecDepth 40000 in
theorem lz_404 (C : lz_C p s m c b ad D cI cJ cZ scr L) {cells slots : Nat} (hc : cells ≤ 601024) (hs : slots ≤ 7293034) {N : Nat} (hk : 5 * N + 4 < L) {x5 x6 x7 : Value} {h : av_M} (hN : N < 1000000) (hRel : sh_Rel N h) (hI : ∀ k : av_M, sh_Rel (N + 1) k → lz_W p l e s m below meth c b ad D cI cJ cZ scr L cells slots 1621 [.ref 90, .ref 0, .ref 44, .ref 76, .int (nI (5 * N)), x5, x6, x7] [] k) :
    lz_W p l e s m below meth c b ad D cI cJ cZ scr L cells slots 404 [.ref 90, .ref 0, .ref 44, .ref 76, .int (nI (5 * N)), x5, x6, x7] [] h := by
  have hL : L ≤ 2560 := C.2.2.2.2.2.2.2.2
  have J1 := fun (h : av_M) (e : h 91 0 = nI L) => lz_J (N := N) (k := 1) (c := 1) (L := L) rfl (by omega) hL h e
  have V1 : Int32.toNatClampNeg (nI (5 * N) + 1) = 5 * N + 1 := lz_V (k := 1) rfl (by omega)
  have J2 := fun (h : av_M) (e : h 91 0 = nI L) => lz_J (N := N) (k := 2) (c := 2) (L := L) rfl (by omega) hL h e
  have V2 : Int32.toNatClampNeg (nI (5 * N) + 2) = 5 * N + 2 := lz_V (k := 2) rfl (by omega)
  have J3 := fun (h : av_M) (e : h 91 0 = nI L) => lz_J (N := N) (k := 3) (c := 3) (L := L) rfl (by omega) hL h e
  have V3 : Int32.toNatClampNeg (nI (5 * N) + 3) = 5 * N + 3 := lz_V (k := 3) rfl (by omega)
  have J4 := fun (h : av_M) (e : h 91 0 = nI L) => lz_J (N := N) (k := 4) (c := 4) (L := L) rfl (by omega) hL h e
  have V4 : Int32.toNatClampNeg (nI (5 * N) + 4) = 5 * N + 4 := lz_V (k := 4) rfl (by omega)
  exact lz_two C hc hs (kx := 57) (km := 196) (pc0 := 404) (pcA := 432) (n1 := 23) (n2 := 26) (S1 := [432]) (S2 := [1621]) (as := [.int (scr (5 * N + 1)), .int (scr (5 * N + 2)), .int (scr (5 * N + 3)), .int (scr (5 * N + 4))]) (c_sheet _ _ _ _) rfl rfl (fun h a2 a1 => by rw [eL_404a]; simp only [cond_true, a1, J1 h a2, V1, J2 h a2, V2, J3 h a2, V3, J4 h a2, V4]) (fun h s0 a2 a1 => by rw [eL_404b]; simp only [cond_true, a1, J1 h a2, V1, J2 h a2, V2, J3 h a2, V3, J4 h a2, V4]) hN hRel hI
set_option maxRecDepth 40000 in
theorem lz_465 (C : lz_C p s m c b ad D cI cJ cZ scr L) {cells slots : Nat} (hc : cells ≤ 601024) (hs : slots ≤ 7293034) {N : Nat} (hk : 5 * N + 4 < L) {x5 x6 x7 : Value} {h : av_M} (hN : N < 1000000) (hRel : sh_Rel N h) (hI : ∀ k : av_M, sh_Rel (N + 1) k → lz_W p l e s m below meth c b ad D cI cJ cZ scr L cells slots 1621 [.ref 90, .ref 0, .ref 44, .ref 76, .int (nI (5 * N)), x5, x6, x7] [] k) :
    lz_W p l e s m below meth c b ad D cI cJ cZ scr L cells slots 465 [.ref 90, .ref 0, .ref 44, .ref 76, .int (nI (5 * N)), x5, x6, x7] [] h := by
  have hL : L ≤ 2560 := C.2.2.2.2.2.2.2.2
  have J1 := fun (h : av_M) (e : h 91 0 = nI L) => lz_J (N := N) (k := 1) (c := 1) (L := L) rfl (by omega) hL h e
  have V1 : Int32.toNatClampNeg (nI (5 * N) + 1) = 5 * N + 1 := lz_V (k := 1) rfl (by omega)
  exact lz_two C hc hs (kx := 58) (km := 209) (pc0 := 465) (pcA := 475) (n1 := 8) (n2 := 11) (S1 := [475]) (S2 := [1621]) (as := [.int (scr (5 * N + 1))]) (c_hours _) rfl rfl (fun h a2 a1 => by rw [eL_465a]; simp only [cond_true, a1, J1 h a2, V1]) (fun h s0 a2 a1 => by rw [eL_465b]; simp only [cond_true, a1, J1 h a2, V1]) hN hRel hI
set_option maxRecDepth 40000 in
theorem lz_490 (C : lz_C p s m c b ad D cI cJ cZ scr L) {cells slots : Nat} (hc : cells ≤ 601024) (hs : slots ≤ 7293034) {N : Nat} (hk : 5 * N + 4 < L) {x5 x6 x7 : Value} {h : av_M} (hN : N < 1000000) (hRel : sh_Rel N h) (hI : ∀ k : av_M, sh_Rel (N + 1) k → lz_W p l e s m below meth c b ad D cI cJ cZ scr L cells slots 1621 [.ref 90, .ref 0, .ref 44, .ref 76, .int (nI (5 * N)), x5, x6, x7] [] k) :
    lz_W p l e s m below meth c b ad D cI cJ cZ scr L cells slots 490 [.ref 90, .ref 0, .ref 44, .ref 76, .int (nI (5 * N)), x5, x6, x7] [] h := by
  have hL : L ≤ 2560 := C.2.2.2.2.2.2.2.2
  have J1 := fun (h : av_M) (e : h 91 0 = nI L) => lz_J (N := N) (k := 1) (c := 1) (L := L) rfl (by omega) hL h e
  have V1 : Int32.toNatClampNeg (nI (5 * N) + 1) = 5 * N + 1 := lz_V (k := 1) rfl (by omega)
  have J2 := fun (h : av_M) (e : h 91 0 = nI L) => lz_J (N := N) (k := 2) (c := 2) (L := L) rfl (by omega) hL h e
  have V2 : Int32.toNatClampNeg (nI (5 * N) + 2) = 5 * N + 2 := lz_V (k := 2) rfl (by omega)
  exact lz_two C hc hs (kx := 59) (km := 210) (pc0 := 490) (pcA := 506) (n1 := 13) (n2 := 16) (S1 := [506]) (S2 := [1621]) (as := [.int (scr (5 * N + 1)), .int (scr (5 * N + 2))]) (c_runs _ _) rfl rfl (fun h a2 a1 => by rw [eL_490a]; simp only [cond_true, a1, J1 h a2, V1, J2 h a2, V2]) (fun h s0 a2 a1 => by rw [eL_490b]; simp only [cond_true, a1, J1 h a2, V1, J2 h a2, V2]) hN hRel hI
set_option maxRecDepth 40000 in
theorem lz_527 (C : lz_C p s m c b ad D cI cJ cZ scr L) {cells slots : Nat} (hc : cells ≤ 601024) (hs : slots ≤ 7293034) {N : Nat} (hk : 5 * N + 4 < L) {x5 x6 x7 : Value} {h : av_M} (hN : N < 1000000) (hRel : sh_Rel N h) (hI : ∀ k : av_M, sh_Rel (N + 1) k → lz_W p l e s m below meth c b ad D cI cJ cZ scr L cells slots 1621 [.ref 90, .ref 0, .ref 44, .ref 76, .int (nI (5 * N)), x5, x6, x7] [] k) :
    lz_W p l e s m below meth c b ad D cI cJ cZ scr L cells slots 527 [.ref 90, .ref 0, .ref 44, .ref 76, .int (nI (5 * N)), x5, x6, x7] [] h := by
  have hL : L ≤ 2560 := C.2.2.2.2.2.2.2.2
  have J1 := fun (h : av_M) (e : h 91 0 = nI L) => lz_J (N := N) (k := 1) (c := 1) (L := L) rfl (by omega) hL h e
  have V1 : Int32.toNatClampNeg (nI (5 * N) + 1) = 5 * N + 1 := lz_V (k := 1) rfl (by omega)
  have J2 := fun (h : av_M) (e : h 91 0 = nI L) => lz_J (N := N) (k := 2) (c := 2) (L := L) rfl (by omega) hL h e
  have V2 : Int32.toNatClampNeg (nI (5 * N) + 2) = 5 * N + 2 := lz_V (k := 2) rfl (by omega)
  exact lz_two C hc hs (kx := 60) (km := 211) (pc0 := 527) (pcA := 543) (n1 := 13) (n2 := 16) (S1 := [543]) (S2 := [1621]) (as := [.int (scr (5 * N + 1)), .int (scr (5 * N + 2))]) (c_rates _ _) rfl rfl (fun h a2 a1 => by rw [eL_527a]; simp only [cond_true, a1, J1 h a2, V1, J2 h a2, V2]) (fun h s0 a2 a1 => by rw [eL_527b]; simp only [cond_true, a1, J1 h a2, V1, J2 h a2, V2]) hN hRel hI
set_option maxRecDepth 40000 in
theorem lz_564 (C : lz_C p s m c b ad D cI cJ cZ scr L) {cells slots : Nat} (hc : cells ≤ 601024) (hs : slots ≤ 7293034) {N : Nat} (hk : 5 * N + 4 < L) {x5 x6 x7 : Value} {h : av_M} (hN : N < 1000000) (hRel : sh_Rel N h) (hI : ∀ k : av_M, sh_Rel (N + 1) k → lz_W p l e s m below meth c b ad D cI cJ cZ scr L cells slots 1621 [.ref 90, .ref 0, .ref 44, .ref 76, .int (nI (5 * N)), x5, x6, x7] [] k) :
    lz_W p l e s m below meth c b ad D cI cJ cZ scr L cells slots 564 [.ref 90, .ref 0, .ref 44, .ref 76, .int (nI (5 * N)), x5, x6, x7] [] h := by
  have hL : L ≤ 2560 := C.2.2.2.2.2.2.2.2
  have J1 := fun (h : av_M) (e : h 91 0 = nI L) => lz_J (N := N) (k := 1) (c := 1) (L := L) rfl (by omega) hL h e
  have V1 : Int32.toNatClampNeg (nI (5 * N) + 1) = 5 * N + 1 := lz_V (k := 1) rfl (by omega)
  have J2 := fun (h : av_M) (e : h 91 0 = nI L) => lz_J (N := N) (k := 2) (c := 2) (L := L) rfl (by omega) hL h e
  have V2 : Int32.toNatClampNeg (nI (5 * N) + 2) = 5 * N + 2 := lz_V (k := 2) rfl (by omega)
  exact lz_two C hc hs (kx := 61) (km := 212) (pc0 := 564) (pcA := 580) (n1 := 13) (n2 := 16) (S1 := [580]) (S2 := [1621]) (as := [.int (scr (5 * N + 1)), .int (scr (5 * N + 2))]) (c_reels _ _) rfl rfl (fun h a2 a1 => by rw [eL_564a]; simp only [cond_true, a1, J1 h a2, V1, J2 h a2, V2]) (fun h s0 a2 a1 => by rw [eL_564b]; simp only [cond_true, a1, J1 h a2, V1, J2 h a2, V2]) hN hRel hI
set_option maxRecDepth 40000 in
theorem lz_601 (C : lz_C p s m c b ad D cI cJ cZ scr L) {cells slots : Nat} (hc : cells ≤ 601024) (hs : slots ≤ 7293034) {N : Nat} (hk : 5 * N + 4 < L) {x5 x6 x7 : Value} {h : av_M} (hN : N < 1000000) (hRel : sh_Rel N h) (hI : ∀ k : av_M, sh_Rel (N + 1) k → lz_W p l e s m below meth c b ad D cI cJ cZ scr L cells slots 1621 [.ref 90, .ref 0, .ref 44, .ref 76, .int (nI (5 * N)), x5, x6, x7] [] k) :
    lz_W p l e s m below meth c b ad D cI cJ cZ scr L cells slots 601 [.ref 90, .ref 0, .ref 44, .ref 76, .int (nI (5 * N)), x5, x6, x7] [] h := by
  have hL : L ≤ 2560 := C.2.2.2.2.2.2.2.2
  have J1 := fun (h : av_M) (e : h 91 0 = nI L) => lz_J (N := N) (k := 1) (c := 1) (L := L) rfl (by omega) hL h e
  have V1 : Int32.toNatClampNeg (nI (5 * N) + 1) = 5 * N + 1 := lz_V (k := 1) rfl (by omega)
  exact lz_two C hc hs (kx := 62) (km := 213) (pc0 := 601) (pcA := 611) (n1 := 8) (n2 := 11) (S1 := [611]) (S2 := [1621]) (as := [.int (scr (5 * N + 1))]) (c_drops _) rfl rfl (fun h a2 a1 => by rw [eL_601a]; simp only [cond_true, a1, J1 h a2, V1]) (fun h s0 a2 a1 => by rw [eL_601b]; simp only [cond_true, a1, J1 h a2, V1]) hN hRel hI
set_option maxRecDepth 40000 in
theorem lz_626 (C : lz_C p s m c b ad D cI cJ cZ scr L) {cells slots : Nat} (hc : cells ≤ 601024) (hs : slots ≤ 7293034) {N : Nat} (hk : 5 * N + 4 < L) {x5 x6 x7 : Value} {h : av_M} (hN : N < 1000000) (hRel : sh_Rel N h) (hI : ∀ k : av_M, sh_Rel (N + 1) k → lz_W p l e s m below meth c b ad D cI cJ cZ scr L cells slots 1621 [.ref 90, .ref 0, .ref 44, .ref 76, .int (nI (5 * N)), x5, x6, x7] [] k) :
    lz_W p l e s m below meth c b ad D cI cJ cZ scr L cells slots 626 [.ref 90, .ref 0, .ref 44, .ref 76, .int (nI (5 * N)), x5, x6, x7] [] h := by
  have hL : L ≤ 2560 := C.2.2.2.2.2.2.2.2
  have J1 := fun (h : av_M) (e : h 91 0 = nI L) => lz_J (N := N) (k := 1) (c := 1) (L := L) rfl (by omega) hL h e
  have V1 : Int32.toNatClampNeg (nI (5 * N) + 1) = 5 * N + 1 := lz_V (k := 1) rfl (by omega)
  exact lz_two C hc hs (kx := 63) (km := 214) (pc0 := 626) (pcA := 636) (n1 := 8) (n2 := 11) (S1 := [636]) (S2 := [1621]) (as := [.int (scr (5 * N + 1))]) (c_speed _) rfl rfl (fun h a2 a1 => by rw [eL_626a]; simp only [cond_true, a1, J1 h a2, V1]) (fun h s0 a2 a1 => by rw [eL_626b]; simp only [cond_true, a1, J1 h a2, V1]) hN hRel hI
set_option maxRecDepth 40000 in
theorem lz_651 (C : lz_C p s m c b ad D cI cJ cZ scr L) {cells slots : Nat} (hc : cells ≤ 601024) (hs : slots ≤ 7293034) {N : Nat} (hk : 5 * N + 4 < L) {x5 x6 x7 : Value} {h : av_M} (hN : N < 1000000) (hRel : sh_Rel N h) (hI : ∀ k : av_M, sh_Rel (N + 1) k → lz_W p l e s m below meth c b ad D cI cJ cZ scr L cells slots 1621 [.ref 90, .ref 0, .ref 44, .ref 76, .int (nI (5 * N)), x5, x6, x7] [] k) :
    lz_W p l e s m below meth c b ad D cI cJ cZ scr L cells slots 651 [.ref 90, .ref 0, .ref 44, .ref 76, .int (nI (5 * N)), x5, x6, x7] [] h := by
  have hL : L ≤ 2560 := C.2.2.2.2.2.2.2.2
  exact lz_two C hc hs (kx := 64) (km := 217) (pc0 := 651) (pcA := 655) (n1 := 3) (n2 := 6) (S1 := [655]) (S2 := [1621]) (as := []) c_sailing rfl rfl (fun h a2 a1 => by exact eL_651a _ _ _ _ _ _ _ _) (fun h s0 a2 a1 => by exact eL_651b _ _ _ _ _ _ _ _ _) hN hRel hI
set_option maxRecDepth 40000 in
theorem lz_664 (C : lz_C p s m c b ad D cI cJ cZ scr L) {cells slots : Nat} (hc : cells ≤ 601024) (hs : slots ≤ 7293034) {N : Nat} (hk : 5 * N + 4 < L) {x5 x6 x7 : Value} {h : av_M} (hN : N < 1000000) (hRel : sh_Rel N h) (hI : ∀ k : av_M, sh_Rel (N + 1) k → lz_W p l e s m below meth c b ad D cI cJ cZ scr L cells slots 1621 [.ref 90, .ref 0, .ref 44, .ref 76, .int (nI (5 * N)), x5, x6, x7] [] k) :
    lz_W p l e s m below meth c b ad D cI cJ cZ scr L cells slots 664 [.ref 90, .ref 0, .ref 44, .ref 76, .int (nI (5 * N)), x5, x6, x7] [] h := by
  have hL : L ≤ 2560 := C.2.2.2.2.2.2.2.2
  exact lz_two C hc hs (kx := 65) (km := 200) (pc0 := 664) (pcA := 668) (n1 := 3) (n2 := 6) (S1 := [668]) (S2 := [1621]) (as := []) c_undo rfl rfl (fun h a2 a1 => by exact eL_664a _ _ _ _ _ _ _ _) (fun h s0 a2 a1 => by exact eL_664b _ _ _ _ _ _ _ _ _) hN hRel hI
set_option maxRecDepth 40000 in
theorem lz_677 (C : lz_C p s m c b ad D cI cJ cZ scr L) {cells slots : Nat} (hc : cells ≤ 601024) (hs : slots ≤ 7293034) {N : Nat} (hk : 5 * N + 4 < L) {x5 x6 x7 : Value} {h : av_M} (hN : N < 1000000) (hRel : sh_Rel N h) (hI : ∀ k : av_M, sh_Rel (N + 1) k → lz_W p l e s m below meth c b ad D cI cJ cZ scr L cells slots 1621 [.ref 90, .ref 0, .ref 44, .ref 76, .int (nI (5 * N)), x5, x6, x7] [] k) :
    lz_W p l e s m below meth c b ad D cI cJ cZ scr L cells slots 677 [.ref 90, .ref 0, .ref 44, .ref 76, .int (nI (5 * N)), x5, x6, x7] [] h := by
  have hL : L ≤ 2560 := C.2.2.2.2.2.2.2.2
  have J1 := fun (h : av_M) (e : h 91 0 = nI L) => lz_J (N := N) (k := 1) (c := 1) (L := L) rfl (by omega) hL h e
  have V1 : Int32.toNatClampNeg (nI (5 * N) + 1) = 5 * N + 1 := lz_V (k := 1) rfl (by omega)
  exact lz_two C hc hs (kx := 66) (km := 218) (pc0 := 677) (pcA := 687) (n1 := 8) (n2 := 11) (S1 := [687]) (S2 := [1621]) (as := [.int (scr (5 * N + 1))]) (c_later _) rfl rfl (fun h a2 a1 => by rw [eL_677a]; simp only [cond_true, a1, J1 h a2, V1]) (fun h s0 a2 a1 => by rw [eL_677b]; simp only [cond_true, a1, J1 h a2, V1]) hN hRel hI
set_option maxRecDepth 40000 in
theorem lz_702 (C : lz_C p s m c b ad D cI cJ cZ scr L) {cells slots : Nat} (hc : cells ≤ 601024) (hs : slots ≤ 7293034) {N : Nat} (hk : 5 * N + 4 < L) {x5 x6 x7 : Value} {h : av_M} (hN : N < 1000000) (hRel : sh_Rel N h) (hI : ∀ k : av_M, sh_Rel (N + 1) k → lz_W p l e s m below meth c b ad D cI cJ cZ scr L cells slots 1621 [.ref 90, .ref 0, .ref 44, .ref 76, .int (nI (5 * N)), x5, x6, x7] [] k) :
    lz_W p l e s m below meth c b ad D cI cJ cZ scr L cells slots 702 [.ref 90, .ref 0, .ref 44, .ref 76, .int (nI (5 * N)), x5, x6, x7] [] h := by
  have hL : L ≤ 2560 := C.2.2.2.2.2.2.2.2
  have J1 := fun (h : av_M) (e : h 91 0 = nI L) => lz_J (N := N) (k := 1) (c := 1) (L := L) rfl (by omega) hL h e
  have V1 : Int32.toNatClampNeg (nI (5 * N) + 1) = 5 * N + 1 := lz_V (k := 1) rfl (by omega)
  exact lz_two C hc hs (kx := 67) (km := 219) (pc0 := 702) (pcA := 712) (n1 := 8) (n2 := 11) (S1 := [712]) (S2 := [1621]) (as := [.int (scr (5 * N + 1))]) (c_when _) rfl rfl (fun h a2 a1 => by rw [eL_702a]; simp only [cond_true, a1, J1 h a2, V1]) (fun h s0 a2 a1 => by rw [eL_702b]; simp only [cond_true, a1, J1 h a2, V1]) hN hRel hI
set_option maxRecDepth 40000 in
theorem lz_727 (C : lz_C p s m c b ad D cI cJ cZ scr L) {cells slots : Nat} (hc : cells ≤ 601024) (hs : slots ≤ 7293034) {N : Nat} (hk : 5 * N + 4 < L) {x5 x6 x7 : Value} {h : av_M} (hN : N < 1000000) (hRel : sh_Rel N h) (hI : ∀ k : av_M, sh_Rel (N + 1) k → lz_W p l e s m below meth c b ad D cI cJ cZ scr L cells slots 1621 [.ref 90, .ref 0, .ref 44, .ref 76, .int (nI (5 * N)), x5, x6, x7] [] k) :
    lz_W p l e s m below meth c b ad D cI cJ cZ scr L cells slots 727 [.ref 90, .ref 0, .ref 44, .ref 76, .int (nI (5 * N)), x5, x6, x7] [] h := by
  have hL : L ≤ 2560 := C.2.2.2.2.2.2.2.2
  exact lz_two C hc hs (kx := 68) (km := 220) (pc0 := 727) (pcA := 731) (n1 := 3) (n2 := 6) (S1 := [731]) (S2 := [1621]) (as := []) c_order rfl rfl (fun h a2 a1 => by exact eL_727a _ _ _ _ _ _ _ _) (fun h s0 a2 a1 => by exact eL_727b _ _ _ _ _ _ _ _ _) hN hRel hI
set_option maxRecDepth 40000 in
theorem lz_740 (C : lz_C p s m c b ad D cI cJ cZ scr L) {cells slots : Nat} (hc : cells ≤ 601024) (hs : slots ≤ 7293034) {N : Nat} (hk : 5 * N + 4 < L) {x5 x6 x7 : Value} {h : av_M} (hN : N < 1000000) (hRel : sh_Rel N h) (hI : ∀ k : av_M, sh_Rel (N + 1) k → lz_W p l e s m below meth c b ad D cI cJ cZ scr L cells slots 1621 [.ref 90, .ref 0, .ref 44, .ref 76, .int (nI (5 * N)), x5, x6, x7] [] k) :
    lz_W p l e s m below meth c b ad D cI cJ cZ scr L cells slots 740 [.ref 90, .ref 0, .ref 44, .ref 76, .int (nI (5 * N)), x5, x6, x7] [] h := by
  have hL : L ≤ 2560 := C.2.2.2.2.2.2.2.2
  exact lz_two C hc hs (kx := 69) (km := 221) (pc0 := 740) (pcA := 744) (n1 := 3) (n2 := 6) (S1 := [744]) (S2 := [1621]) (as := []) c_gone rfl rfl (fun h a2 a1 => by exact eL_740a _ _ _ _ _ _ _ _) (fun h s0 a2 a1 => by exact eL_740b _ _ _ _ _ _ _ _ _) hN hRel hI
set_option maxRecDepth 40000 in
theorem lz_753 (C : lz_C p s m c b ad D cI cJ cZ scr L) {cells slots : Nat} (hc : cells ≤ 601024) (hs : slots ≤ 7293034) {N : Nat} (hk : 5 * N + 4 < L) {x5 x6 x7 : Value} {h : av_M} (hN : N < 1000000) (hRel : sh_Rel N h) (hI : ∀ k : av_M, sh_Rel (N + 1) k → lz_W p l e s m below meth c b ad D cI cJ cZ scr L cells slots 1621 [.ref 90, .ref 0, .ref 44, .ref 76, .int (nI (5 * N)), x5, x6, x7] [] k) :
    lz_W p l e s m below meth c b ad D cI cJ cZ scr L cells slots 753 [.ref 90, .ref 0, .ref 44, .ref 76, .int (nI (5 * N)), x5, x6, x7] [] h := by
  have hL : L ≤ 2560 := C.2.2.2.2.2.2.2.2
  exact lz_two C hc hs (kx := 70) (km := 222) (pc0 := 753) (pcA := 757) (n1 := 3) (n2 := 6) (S1 := [757]) (S2 := [1621]) (as := []) c_stopped rfl rfl (fun h a2 a1 => by exact eL_753a _ _ _ _ _ _ _ _) (fun h s0 a2 a1 => by exact eL_753b _ _ _ _ _ _ _ _ _) hN hRel hI
set_option maxRecDepth 40000 in
theorem lz_766 (C : lz_C p s m c b ad D cI cJ cZ scr L) {cells slots : Nat} (hc : cells ≤ 601024) (hs : slots ≤ 7293034) {N : Nat} (hk : 5 * N + 4 < L) {x5 x6 x7 : Value} {h : av_M} (hN : N < 1000000) (hRel : sh_Rel N h) (hI : ∀ k : av_M, sh_Rel (N + 1) k → lz_W p l e s m below meth c b ad D cI cJ cZ scr L cells slots 1621 [.ref 90, .ref 0, .ref 44, .ref 76, .int (nI (5 * N)), x5, x6, x7] [] k) :
    lz_W p l e s m below meth c b ad D cI cJ cZ scr L cells slots 766 [.ref 90, .ref 0, .ref 44, .ref 76, .int (nI (5 * N)), x5, x6, x7] [] h := by
  have hL : L ≤ 2560 := C.2.2.2.2.2.2.2.2
  exact lz_two C hc hs (kx := 71) (km := 223) (pc0 := 766) (pcA := 770) (n1 := 3) (n2 := 6) (S1 := [770]) (S2 := [1621]) (as := []) c_drag rfl rfl (fun h a2 a1 => by exact eL_766a _ _ _ _ _ _ _ _) (fun h s0 a2 a1 => by exact eL_766b _ _ _ _ _ _ _ _ _) hN hRel hI
set_option maxRecDepth 40000 in
theorem lz_779 (C : lz_C p s m c b ad D cI cJ cZ scr L) {cells slots : Nat} (hc : cells ≤ 601024) (hs : slots ≤ 7293034) {N : Nat} (hk : 5 * N + 4 < L) {x5 x6 x7 : Value} {h : av_M} (hN : N < 1000000) (hRel : sh_Rel N h) (hI : ∀ k : av_M, sh_Rel (N + 1) k → lz_W p l e s m below meth c b ad D cI cJ cZ scr L cells slots 1621 [.ref 90, .ref 0, .ref 44, .ref 76, .int (nI (5 * N)), x5, x6, x7] [] k) :
    lz_W p l e s m below meth c b ad D cI cJ cZ scr L cells slots 779 [.ref 90, .ref 0, .ref 44, .ref 76, .int (nI (5 * N)), x5, x6, x7] [] h := by
  have hL : L ≤ 2560 := C.2.2.2.2.2.2.2.2
  have J1 := fun (h : av_M) (e : h 91 0 = nI L) => lz_J (N := N) (k := 1) (c := 1) (L := L) rfl (by omega) hL h e
  have V1 : Int32.toNatClampNeg (nI (5 * N) + 1) = 5 * N + 1 := lz_V (k := 1) rfl (by omega)
  have J2 := fun (h : av_M) (e : h 91 0 = nI L) => lz_J (N := N) (k := 2) (c := 2) (L := L) rfl (by omega) hL h e
  have V2 : Int32.toNatClampNeg (nI (5 * N) + 2) = 5 * N + 2 := lz_V (k := 2) rfl (by omega)
  exact lz_two C hc hs (kx := 72) (km := 224) (pc0 := 779) (pcA := 795) (n1 := 13) (n2 := 16) (S1 := [795]) (S2 := [1621]) (as := [.int (scr (5 * N + 1)), .int (scr (5 * N + 2))]) (c_thrift _ _) rfl rfl (fun h a2 a1 => by rw [eL_779a]; simp only [cond_true, a1, J1 h a2, V1, J2 h a2, V2]) (fun h s0 a2 a1 => by rw [eL_779b]; simp only [cond_true, a1, J1 h a2, V1, J2 h a2, V2]) hN hRel hI
set_option maxRecDepth 40000 in
theorem lz_816 (C : lz_C p s m c b ad D cI cJ cZ scr L) {cells slots : Nat} (hc : cells ≤ 601024) (hs : slots ≤ 7293034) {N : Nat} (hk : 5 * N + 4 < L) {x5 x6 x7 : Value} {h : av_M} (hN : N < 1000000) (hRel : sh_Rel N h) (hI : ∀ k : av_M, sh_Rel (N + 1) k → lz_W p l e s m below meth c b ad D cI cJ cZ scr L cells slots 1621 [.ref 90, .ref 0, .ref 44, .ref 76, .int (nI (5 * N)), x5, x6, x7] [] k) :
    lz_W p l e s m below meth c b ad D cI cJ cZ scr L cells slots 816 [.ref 90, .ref 0, .ref 44, .ref 76, .int (nI (5 * N)), x5, x6, x7] [] h := by
  have hL : L ≤ 2560 := C.2.2.2.2.2.2.2.2
  have J1 := fun (h : av_M) (e : h 91 0 = nI L) => lz_J (N := N) (k := 1) (c := 1) (L := L) rfl (by omega) hL h e
  have V1 : Int32.toNatClampNeg (nI (5 * N) + 1) = 5 * N + 1 := lz_V (k := 1) rfl (by omega)
  have J2 := fun (h : av_M) (e : h 91 0 = nI L) => lz_J (N := N) (k := 2) (c := 2) (L := L) rfl (by omega) hL h e
  have V2 : Int32.toNatClampNeg (nI (5 * N) + 2) = 5 * N + 2 := lz_V (k := 2) rfl (by omega)
  exact lz_two C hc hs (kx := 73) (km := 226) (pc0 := 816) (pcA := 832) (n1 := 13) (n2 := 16) (S1 := [832]) (S2 := [1621]) (as := [.int (scr (5 * N + 1)), .int (scr (5 * N + 2))]) (c_mole _ _) rfl rfl (fun h a2 a1 => by rw [eL_816a]; simp only [cond_true, a1, J1 h a2, V1, J2 h a2, V2]) (fun h s0 a2 a1 => by rw [eL_816b]; simp only [cond_true, a1, J1 h a2, V1, J2 h a2, V2]) hN hRel hI
set_option maxRecDepth 40000 in
theorem lz_853 (C : lz_C p s m c b ad D cI cJ cZ scr L) {cells slots : Nat} (hc : cells ≤ 601024) (hs : slots ≤ 7293034) {N : Nat} (hk : 5 * N + 4 < L) {x5 x6 x7 : Value} {h : av_M} (hN : N < 1000000) (hRel : sh_Rel N h) (hI : ∀ k : av_M, sh_Rel (N + 1) k → lz_W p l e s m below meth c b ad D cI cJ cZ scr L cells slots 1621 [.ref 90, .ref 0, .ref 44, .ref 76, .int (nI (5 * N)), x5, x6, x7] [] k) :
    lz_W p l e s m below meth c b ad D cI cJ cZ scr L cells slots 853 [.ref 90, .ref 0, .ref 44, .ref 76, .int (nI (5 * N)), x5, x6, x7] [] h := by
  have hL : L ≤ 2560 := C.2.2.2.2.2.2.2.2
  have J1 := fun (h : av_M) (e : h 91 0 = nI L) => lz_J (N := N) (k := 1) (c := 1) (L := L) rfl (by omega) hL h e
  have V1 : Int32.toNatClampNeg (nI (5 * N) + 1) = 5 * N + 1 := lz_V (k := 1) rfl (by omega)
  have J2 := fun (h : av_M) (e : h 91 0 = nI L) => lz_J (N := N) (k := 2) (c := 2) (L := L) rfl (by omega) hL h e
  have V2 : Int32.toNatClampNeg (nI (5 * N) + 2) = 5 * N + 2 := lz_V (k := 2) rfl (by omega)
  exact lz_two C hc hs (kx := 74) (km := 228) (pc0 := 853) (pcA := 869) (n1 := 13) (n2 := 16) (S1 := [869]) (S2 := [1621]) (as := [.int (scr (5 * N + 1)), .int (scr (5 * N + 2))]) (c_slows _ _) rfl rfl (fun h a2 a1 => by rw [eL_853a]; simp only [cond_true, a1, J1 h a2, V1, J2 h a2, V2]) (fun h s0 a2 a1 => by rw [eL_853b]; simp only [cond_true, a1, J1 h a2, V1, J2 h a2, V2]) hN hRel hI
set_option maxRecDepth 40000 in
theorem lz_890 (C : lz_C p s m c b ad D cI cJ cZ scr L) {cells slots : Nat} (hc : cells ≤ 601024) (hs : slots ≤ 7293034) {N : Nat} (hk : 5 * N + 4 < L) {x5 x6 x7 : Value} {h : av_M} (hN : N < 1000000) (hRel : sh_Rel N h) (hI : ∀ k : av_M, sh_Rel (N + 1) k → lz_W p l e s m below meth c b ad D cI cJ cZ scr L cells slots 1621 [.ref 90, .ref 0, .ref 44, .ref 76, .int (nI (5 * N)), x5, x6, x7] [] k) :
    lz_W p l e s m below meth c b ad D cI cJ cZ scr L cells slots 890 [.ref 90, .ref 0, .ref 44, .ref 76, .int (nI (5 * N)), x5, x6, x7] [] h := by
  have hL : L ≤ 2560 := C.2.2.2.2.2.2.2.2
  exact lz_two C hc hs (kx := 75) (km := 231) (pc0 := 890) (pcA := 894) (n1 := 3) (n2 := 6) (S1 := [894]) (S2 := [1621]) (as := []) c_halts rfl rfl (fun h a2 a1 => by exact eL_890a _ _ _ _ _ _ _ _) (fun h s0 a2 a1 => by exact eL_890b _ _ _ _ _ _ _ _ _) hN hRel hI
set_option maxRecDepth 40000 in
theorem lz_903 (C : lz_C p s m c b ad D cI cJ cZ scr L) {cells slots : Nat} (hc : cells ≤ 601024) (hs : slots ≤ 7293034) {N : Nat} (hk : 5 * N + 4 < L) {x5 x6 x7 : Value} {h : av_M} (hN : N < 1000000) (hRel : sh_Rel N h) (hI : ∀ k : av_M, sh_Rel (N + 1) k → lz_W p l e s m below meth c b ad D cI cJ cZ scr L cells slots 1621 [.ref 90, .ref 0, .ref 44, .ref 76, .int (nI (5 * N)), x5, x6, x7] [] k) :
    lz_W p l e s m below meth c b ad D cI cJ cZ scr L cells slots 903 [.ref 90, .ref 0, .ref 44, .ref 76, .int (nI (5 * N)), x5, x6, x7] [] h := by
  have hL : L ≤ 2560 := C.2.2.2.2.2.2.2.2
  have J1 := fun (h : av_M) (e : h 91 0 = nI L) => lz_J (N := N) (k := 1) (c := 1) (L := L) rfl (by omega) hL h e
  have V1 : Int32.toNatClampNeg (nI (5 * N) + 1) = 5 * N + 1 := lz_V (k := 1) rfl (by omega)
  have J2 := fun (h : av_M) (e : h 91 0 = nI L) => lz_J (N := N) (k := 2) (c := 2) (L := L) rfl (by omega) hL h e
  have V2 : Int32.toNatClampNeg (nI (5 * N) + 2) = 5 * N + 2 := lz_V (k := 2) rfl (by omega)
  exact lz_two C hc hs (kx := 76) (km := 232) (pc0 := 903) (pcA := 919) (n1 := 13) (n2 := 16) (S1 := [919]) (S2 := [1621]) (as := [.int (scr (5 * N + 1)), .int (scr (5 * N + 2))]) (c_frees _ _) rfl rfl (fun h a2 a1 => by rw [eL_903a]; simp only [cond_true, a1, J1 h a2, V1, J2 h a2, V2]) (fun h s0 a2 a1 => by rw [eL_903b]; simp only [cond_true, a1, J1 h a2, V1, J2 h a2, V2]) hN hRel hI
set_option maxRecDepth 40000 in
theorem lz_940 (C : lz_C p s m c b ad D cI cJ cZ scr L) {cells slots : Nat} (hc : cells ≤ 601024) (hs : slots ≤ 7293034) {N : Nat} (hk : 5 * N + 4 < L) {x5 x6 x7 : Value} {h : av_M} (hN : N < 1000000) (hRel : sh_Rel N h) (hI : ∀ k : av_M, sh_Rel (N + 1) k → lz_W p l e s m below meth c b ad D cI cJ cZ scr L cells slots 1621 [.ref 90, .ref 0, .ref 44, .ref 76, .int (nI (5 * N)), x5, x6, x7] [] k) :
    lz_W p l e s m below meth c b ad D cI cJ cZ scr L cells slots 940 [.ref 90, .ref 0, .ref 44, .ref 76, .int (nI (5 * N)), x5, x6, x7] [] h := by
  have hL : L ≤ 2560 := C.2.2.2.2.2.2.2.2
  have J1 := fun (h : av_M) (e : h 91 0 = nI L) => lz_J (N := N) (k := 1) (c := 1) (L := L) rfl (by omega) hL h e
  have V1 : Int32.toNatClampNeg (nI (5 * N) + 1) = 5 * N + 1 := lz_V (k := 1) rfl (by omega)
  exact lz_two C hc hs (kx := 77) (km := 236) (pc0 := 940) (pcA := 950) (n1 := 8) (n2 := 11) (S1 := [950]) (S2 := [1621]) (as := [.int (scr (5 * N + 1))]) (c_power _) rfl rfl (fun h a2 a1 => by rw [eL_940a]; simp only [cond_true, a1, J1 h a2, V1]) (fun h s0 a2 a1 => by rw [eL_940b]; simp only [cond_true, a1, J1 h a2, V1]) hN hRel hI
set_option maxRecDepth 40000 in
theorem lz_965 (C : lz_C p s m c b ad D cI cJ cZ scr L) {cells slots : Nat} (hc : cells ≤ 601024) (hs : slots ≤ 7293034) {N : Nat} (hk : 5 * N + 4 < L) {x5 x6 x7 : Value} {h : av_M} (hN : N < 1000000) (hRel : sh_Rel N h) (hI : ∀ k : av_M, sh_Rel (N + 1) k → lz_W p l e s m below meth c b ad D cI cJ cZ scr L cells slots 1621 [.ref 90, .ref 0, .ref 44, .ref 76, .int (nI (5 * N)), x5, x6, x7] [] k) :
    lz_W p l e s m below meth c b ad D cI cJ cZ scr L cells slots 965 [.ref 90, .ref 0, .ref 44, .ref 76, .int (nI (5 * N)), x5, x6, x7] [] h := by
  have hL : L ≤ 2560 := C.2.2.2.2.2.2.2.2
  have J1 := fun (h : av_M) (e : h 91 0 = nI L) => lz_J (N := N) (k := 1) (c := 1) (L := L) rfl (by omega) hL h e
  have V1 : Int32.toNatClampNeg (nI (5 * N) + 1) = 5 * N + 1 := lz_V (k := 1) rfl (by omega)
  exact lz_two C hc hs (kx := 78) (km := 237) (pc0 := 965) (pcA := 975) (n1 := 8) (n2 := 11) (S1 := [975]) (S2 := [1621]) (as := [.int (scr (5 * N + 1))]) (c_pivots _) rfl rfl (fun h a2 a1 => by rw [eL_965a]; simp only [cond_true, a1, J1 h a2, V1]) (fun h s0 a2 a1 => by rw [eL_965b]; simp only [cond_true, a1, J1 h a2, V1]) hN hRel hI
set_option maxRecDepth 40000 in
theorem lz_990 (C : lz_C p s m c b ad D cI cJ cZ scr L) {cells slots : Nat} (hc : cells ≤ 601024) (hs : slots ≤ 7293034) {N : Nat} (hk : 5 * N + 4 < L) {x5 x6 x7 : Value} {h : av_M} (hN : N < 1000000) (hRel : sh_Rel N h) (hI : ∀ k : av_M, sh_Rel (N + 1) k → lz_W p l e s m below meth c b ad D cI cJ cZ scr L cells slots 1621 [.ref 90, .ref 0, .ref 44, .ref 76, .int (nI (5 * N)), x5, x6, x7] [] k) :
    lz_W p l e s m below meth c b ad D cI cJ cZ scr L cells slots 990 [.ref 90, .ref 0, .ref 44, .ref 76, .int (nI (5 * N)), x5, x6, x7] [] h := by
  have hL : L ≤ 2560 := C.2.2.2.2.2.2.2.2
  exact lz_two C hc hs (kx := 79) (km := 238) (pc0 := 990) (pcA := 994) (n1 := 3) (n2 := 6) (S1 := [994]) (S2 := [1621]) (as := []) c_colours rfl rfl (fun h a2 a1 => by exact eL_990a _ _ _ _ _ _ _ _) (fun h s0 a2 a1 => by exact eL_990b _ _ _ _ _ _ _ _ _) hN hRel hI
set_option maxRecDepth 40000 in
theorem lz_1003 (C : lz_C p s m c b ad D cI cJ cZ scr L) {cells slots : Nat} (hc : cells ≤ 601024) (hs : slots ≤ 7293034) {N : Nat} (hk : 5 * N + 4 < L) {x5 x6 x7 : Value} {h : av_M} (hN : N < 1000000) (hRel : sh_Rel N h) (hI : ∀ k : av_M, sh_Rel (N + 1) k → lz_W p l e s m below meth c b ad D cI cJ cZ scr L cells slots 1621 [.ref 90, .ref 0, .ref 44, .ref 76, .int (nI (5 * N)), x5, x6, x7] [] k) :
    lz_W p l e s m below meth c b ad D cI cJ cZ scr L cells slots 1003 [.ref 90, .ref 0, .ref 44, .ref 76, .int (nI (5 * N)), x5, x6, x7] [] h := by
  have hL : L ≤ 2560 := C.2.2.2.2.2.2.2.2
  exact lz_two C hc hs (kx := 80) (km := 239) (pc0 := 1003) (pcA := 1007) (n1 := 3) (n2 := 6) (S1 := [1007]) (S2 := [1621]) (as := []) c_parties rfl rfl (fun h a2 a1 => by exact eL_1003a _ _ _ _ _ _ _ _) (fun h s0 a2 a1 => by exact eL_1003b _ _ _ _ _ _ _ _ _) hN hRel hI
set_option maxRecDepth 40000 in
theorem lz_1016 (C : lz_C p s m c b ad D cI cJ cZ scr L) {cells slots : Nat} (hc : cells ≤ 601024) (hs : slots ≤ 7293034) {N : Nat} (hk : 5 * N + 4 < L) {x5 x6 x7 : Value} {h : av_M} (hN : N < 1000000) (hRel : sh_Rel N h) (hI : ∀ k : av_M, sh_Rel (N + 1) k → lz_W p l e s m below meth c b ad D cI cJ cZ scr L cells slots 1621 [.ref 90, .ref 0, .ref 44, .ref 76, .int (nI (5 * N)), x5, x6, x7] [] k) :
    lz_W p l e s m below meth c b ad D cI cJ cZ scr L cells slots 1016 [.ref 90, .ref 0, .ref 44, .ref 76, .int (nI (5 * N)), x5, x6, x7] [] h := by
  have hL : L ≤ 2560 := C.2.2.2.2.2.2.2.2
  have J1 := fun (h : av_M) (e : h 91 0 = nI L) => lz_J (N := N) (k := 1) (c := 1) (L := L) rfl (by omega) hL h e
  have V1 : Int32.toNatClampNeg (nI (5 * N) + 1) = 5 * N + 1 := lz_V (k := 1) rfl (by omega)
  have J2 := fun (h : av_M) (e : h 91 0 = nI L) => lz_J (N := N) (k := 2) (c := 2) (L := L) rfl (by omega) hL h e
  have V2 : Int32.toNatClampNeg (nI (5 * N) + 2) = 5 * N + 2 := lz_V (k := 2) rfl (by omega)
  have J3 := fun (h : av_M) (e : h 91 0 = nI L) => lz_J (N := N) (k := 3) (c := 3) (L := L) rfl (by omega) hL h e
  have V3 : Int32.toNatClampNeg (nI (5 * N) + 3) = 5 * N + 3 := lz_V (k := 3) rfl (by omega)
  have J4 := fun (h : av_M) (e : h 91 0 = nI L) => lz_J (N := N) (k := 4) (c := 4) (L := L) rfl (by omega) hL h e
  have V4 : Int32.toNatClampNeg (nI (5 * N) + 4) = 5 * N + 4 := lz_V (k := 4) rfl (by omega)
  exact lz_two C hc hs (kx := 81) (km := 240) (pc0 := 1016) (pcA := 1044) (n1 := 23) (n2 := 26) (S1 := [1044]) (S2 := [1621]) (as := [.int (scr (5 * N + 1)), .int (scr (5 * N + 2)), .int (scr (5 * N + 3)), .int (scr (5 * N + 4))]) (c_ends _ _ _ _) rfl rfl (fun h a2 a1 => by rw [eL_1016a]; simp only [cond_true, a1, J1 h a2, V1, J2 h a2, V2, J3 h a2, V3, J4 h a2, V4]) (fun h s0 a2 a1 => by rw [eL_1016b]; simp only [cond_true, a1, J1 h a2, V1, J2 h a2, V2, J3 h a2, V3, J4 h a2, V4]) hN hRel hI
set_option maxRecDepth 40000 in
theorem lz_1077 (C : lz_C p s m c b ad D cI cJ cZ scr L) {cells slots : Nat} (hc : cells ≤ 601024) (hs : slots ≤ 7293034) {N : Nat} (hk : 5 * N + 4 < L) {x5 x6 x7 : Value} {h : av_M} (hN : N < 1000000) (hRel : sh_Rel N h) (hI : ∀ k : av_M, sh_Rel (N + 1) k → lz_W p l e s m below meth c b ad D cI cJ cZ scr L cells slots 1621 [.ref 90, .ref 0, .ref 44, .ref 76, .int (nI (5 * N)), x5, x6, x7] [] k) :
    lz_W p l e s m below meth c b ad D cI cJ cZ scr L cells slots 1077 [.ref 90, .ref 0, .ref 44, .ref 76, .int (nI (5 * N)), x5, x6, x7] [] h := by
  have hL : L ≤ 2560 := C.2.2.2.2.2.2.2.2
  have J1 := fun (h : av_M) (e : h 91 0 = nI L) => lz_J (N := N) (k := 1) (c := 1) (L := L) rfl (by omega) hL h e
  have V1 : Int32.toNatClampNeg (nI (5 * N) + 1) = 5 * N + 1 := lz_V (k := 1) rfl (by omega)
  exact lz_two C hc hs (kx := 82) (km := 241) (pc0 := 1077) (pcA := 1087) (n1 := 8) (n2 := 11) (S1 := [1087]) (S2 := [1621]) (as := [.int (scr (5 * N + 1))]) (c_just _) rfl rfl (fun h a2 a1 => by rw [eL_1077a]; simp only [cond_true, a1, J1 h a2, V1]) (fun h s0 a2 a1 => by rw [eL_1077b]; simp only [cond_true, a1, J1 h a2, V1]) hN hRel hI
set_option maxRecDepth 40000 in
theorem lz_1102 (C : lz_C p s m c b ad D cI cJ cZ scr L) {cells slots : Nat} (hc : cells ≤ 601024) (hs : slots ≤ 7293034) {N : Nat} (hk : 5 * N + 4 < L) {x5 x6 x7 : Value} {h : av_M} (hN : N < 1000000) (hRel : sh_Rel N h) (hI : ∀ k : av_M, sh_Rel (N + 1) k → lz_W p l e s m below meth c b ad D cI cJ cZ scr L cells slots 1621 [.ref 90, .ref 0, .ref 44, .ref 76, .int (nI (5 * N)), x5, x6, x7] [] k) :
    lz_W p l e s m below meth c b ad D cI cJ cZ scr L cells slots 1102 [.ref 90, .ref 0, .ref 44, .ref 76, .int (nI (5 * N)), x5, x6, x7] [] h := by
  have hL : L ≤ 2560 := C.2.2.2.2.2.2.2.2
  have J1 := fun (h : av_M) (e : h 91 0 = nI L) => lz_J (N := N) (k := 1) (c := 1) (L := L) rfl (by omega) hL h e
  have V1 : Int32.toNatClampNeg (nI (5 * N) + 1) = 5 * N + 1 := lz_V (k := 1) rfl (by omega)
  have J2 := fun (h : av_M) (e : h 91 0 = nI L) => lz_J (N := N) (k := 2) (c := 2) (L := L) rfl (by omega) hL h e
  have V2 : Int32.toNatClampNeg (nI (5 * N) + 2) = 5 * N + 2 := lz_V (k := 2) rfl (by omega)
  have J3 := fun (h : av_M) (e : h 91 0 = nI L) => lz_J (N := N) (k := 3) (c := 3) (L := L) rfl (by omega) hL h e
  have V3 : Int32.toNatClampNeg (nI (5 * N) + 3) = 5 * N + 3 := lz_V (k := 3) rfl (by omega)
  exact lz_two C hc hs (kx := 83) (km := 242) (pc0 := 1102) (pcA := 1124) (n1 := 18) (n2 := 21) (S1 := [1124]) (S2 := [1621]) (as := [.int (scr (5 * N + 1)), .int (scr (5 * N + 2)), .int (scr (5 * N + 3))]) (c_seen _ _ _) rfl rfl (fun h a2 a1 => by rw [eL_1102a]; simp only [cond_true, a1, J1 h a2, V1, J2 h a2, V2, J3 h a2, V3]) (fun h s0 a2 a1 => by rw [eL_1102b]; simp only [cond_true, a1, J1 h a2, V1, J2 h a2, V2, J3 h a2, V3]) hN hRel hI
set_option maxRecDepth 40000 in
theorem lz_1151 (C : lz_C p s m c b ad D cI cJ cZ scr L) {cells slots : Nat} (hc : cells ≤ 601024) (hs : slots ≤ 7293034) {N : Nat} (hk : 5 * N + 4 < L) {x5 x6 x7 : Value} {h : av_M} (hN : N < 1000000) (hRel : sh_Rel N h) (hI : ∀ k : av_M, sh_Rel (N + 1) k → lz_W p l e s m below meth c b ad D cI cJ cZ scr L cells slots 1621 [.ref 90, .ref 0, .ref 44, .ref 76, .int (nI (5 * N)), x5, x6, x7] [] k) :
    lz_W p l e s m below meth c b ad D cI cJ cZ scr L cells slots 1151 [.ref 90, .ref 0, .ref 44, .ref 76, .int (nI (5 * N)), x5, x6, x7] [] h := by
  have hL : L ≤ 2560 := C.2.2.2.2.2.2.2.2
  exact lz_two C hc hs (kx := 84) (km := 243) (pc0 := 1151) (pcA := 1155) (n1 := 3) (n2 := 6) (S1 := [1155]) (S2 := [1621]) (as := []) c_forget rfl rfl (fun h a2 a1 => by exact eL_1151a _ _ _ _ _ _ _ _) (fun h s0 a2 a1 => by exact eL_1151b _ _ _ _ _ _ _ _ _) hN hRel hI
set_option maxRecDepth 40000 in
theorem lz_1164 (C : lz_C p s m c b ad D cI cJ cZ scr L) {cells slots : Nat} (hc : cells ≤ 601024) (hs : slots ≤ 7293034) {N : Nat} (hk : 5 * N + 4 < L) {x5 x6 x7 : Value} {h : av_M} (hN : N < 1000000) (hRel : sh_Rel N h) (hI : ∀ k : av_M, sh_Rel (N + 1) k → lz_W p l e s m below meth c b ad D cI cJ cZ scr L cells slots 1621 [.ref 90, .ref 0, .ref 44, .ref 76, .int (nI (5 * N)), x5, x6, x7] [] k) :
    lz_W p l e s m below meth c b ad D cI cJ cZ scr L cells slots 1164 [.ref 90, .ref 0, .ref 44, .ref 76, .int (nI (5 * N)), x5, x6, x7] [] h := by
  have hL : L ≤ 2560 := C.2.2.2.2.2.2.2.2
  exact lz_two C hc hs (kx := 85) (km := 246) (pc0 := 1164) (pcA := 1168) (n1 := 3) (n2 := 6) (S1 := [1168]) (S2 := [1621]) (as := []) c_guess rfl rfl (fun h a2 a1 => by exact eL_1164a _ _ _ _ _ _ _ _) (fun h s0 a2 a1 => by exact eL_1164b _ _ _ _ _ _ _ _ _) hN hRel hI
set_option maxRecDepth 40000 in
theorem lz_1177 (C : lz_C p s m c b ad D cI cJ cZ scr L) {cells slots : Nat} (hc : cells ≤ 601024) (hs : slots ≤ 7293034) {N : Nat} (hk : 5 * N + 4 < L) {x5 x6 x7 : Value} {h : av_M} (hN : N < 1000000) (hRel : sh_Rel N h) (hI : ∀ k : av_M, sh_Rel (N + 1) k → lz_W p l e s m below meth c b ad D cI cJ cZ scr L cells slots 1621 [.ref 90, .ref 0, .ref 44, .ref 76, .int (nI (5 * N)), x5, x6, x7] [] k) :
    lz_W p l e s m below meth c b ad D cI cJ cZ scr L cells slots 1177 [.ref 90, .ref 0, .ref 44, .ref 76, .int (nI (5 * N)), x5, x6, x7] [] h := by
  have hL : L ≤ 2560 := C.2.2.2.2.2.2.2.2
  exact lz_two C hc hs (kx := 86) (km := 247) (pc0 := 1177) (pcA := 1181) (n1 := 3) (n2 := 6) (S1 := [1181]) (S2 := [1621]) (as := []) c_looks rfl rfl (fun h a2 a1 => by exact eL_1177a _ _ _ _ _ _ _ _) (fun h s0 a2 a1 => by exact eL_1177b _ _ _ _ _ _ _ _ _) hN hRel hI
set_option maxRecDepth 40000 in
theorem lz_1190 (C : lz_C p s m c b ad D cI cJ cZ scr L) {cells slots : Nat} (hc : cells ≤ 601024) (hs : slots ≤ 7293034) {N : Nat} (hk : 5 * N + 4 < L) {x5 x6 x7 : Value} {h : av_M} (hN : N < 1000000) (hRel : sh_Rel N h) (hI : ∀ k : av_M, sh_Rel (N + 1) k → lz_W p l e s m below meth c b ad D cI cJ cZ scr L cells slots 1621 [.ref 90, .ref 0, .ref 44, .ref 76, .int (nI (5 * N)), x5, x6, x7] [] k) :
    lz_W p l e s m below meth c b ad D cI cJ cZ scr L cells slots 1190 [.ref 90, .ref 0, .ref 44, .ref 76, .int (nI (5 * N)), x5, x6, x7] [] h := by
  have hL : L ≤ 2560 := C.2.2.2.2.2.2.2.2
  have J1 := fun (h : av_M) (e : h 91 0 = nI L) => lz_J (N := N) (k := 1) (c := 1) (L := L) rfl (by omega) hL h e
  have V1 : Int32.toNatClampNeg (nI (5 * N) + 1) = 5 * N + 1 := lz_V (k := 1) rfl (by omega)
  have J2 := fun (h : av_M) (e : h 91 0 = nI L) => lz_J (N := N) (k := 2) (c := 2) (L := L) rfl (by omega) hL h e
  have V2 : Int32.toNatClampNeg (nI (5 * N) + 2) = 5 * N + 2 := lz_V (k := 2) rfl (by omega)
  exact lz_two C hc hs (kx := 87) (km := 250) (pc0 := 1190) (pcA := 1206) (n1 := 13) (n2 := 16) (S1 := [1206]) (S2 := [1621]) (as := [.int (scr (5 * N + 1)), .int (scr (5 * N + 2))]) (c_heard _ _) rfl rfl (fun h a2 a1 => by rw [eL_1190a]; simp only [cond_true, a1, J1 h a2, V1, J2 h a2, V2]) (fun h s0 a2 a1 => by rw [eL_1190b]; simp only [cond_true, a1, J1 h a2, V1, J2 h a2, V2]) hN hRel hI
set_option maxRecDepth 40000 in
theorem lz_1227 (C : lz_C p s m c b ad D cI cJ cZ scr L) {cells slots : Nat} (hc : cells ≤ 601024) (hs : slots ≤ 7293034) {N : Nat} (hk : 5 * N + 4 < L) {x5 x6 x7 : Value} {h : av_M} (hN : N < 1000000) (hRel : sh_Rel N h) (hI : ∀ k : av_M, sh_Rel (N + 1) k → lz_W p l e s m below meth c b ad D cI cJ cZ scr L cells slots 1621 [.ref 90, .ref 0, .ref 44, .ref 76, .int (nI (5 * N)), x5, x6, x7] [] k) :
    lz_W p l e s m below meth c b ad D cI cJ cZ scr L cells slots 1227 [.ref 90, .ref 0, .ref 44, .ref 76, .int (nI (5 * N)), x5, x6, x7] [] h := by
  have hL : L ≤ 2560 := C.2.2.2.2.2.2.2.2
  exact lz_two C hc hs (kx := 88) (km := 251) (pc0 := 1227) (pcA := 1231) (n1 := 3) (n2 := 6) (S1 := [1231]) (S2 := [1621]) (as := []) c_denies rfl rfl (fun h a2 a1 => by exact eL_1227a _ _ _ _ _ _ _ _) (fun h s0 a2 a1 => by exact eL_1227b _ _ _ _ _ _ _ _ _) hN hRel hI
set_option maxRecDepth 40000 in
theorem lz_1240 (C : lz_C p s m c b ad D cI cJ cZ scr L) {cells slots : Nat} (hc : cells ≤ 601024) (hs : slots ≤ 7293034) {N : Nat} (hk : 5 * N + 4 < L) {x5 x6 x7 : Value} {h : av_M} (hN : N < 1000000) (hRel : sh_Rel N h) (hI : ∀ k : av_M, sh_Rel (N + 1) k → lz_W p l e s m below meth c b ad D cI cJ cZ scr L cells slots 1621 [.ref 90, .ref 0, .ref 44, .ref 76, .int (nI (5 * N)), x5, x6, x7] [] k) :
    lz_W p l e s m below meth c b ad D cI cJ cZ scr L cells slots 1240 [.ref 90, .ref 0, .ref 44, .ref 76, .int (nI (5 * N)), x5, x6, x7] [] h := by
  have hL : L ≤ 2560 := C.2.2.2.2.2.2.2.2
  exact lz_two C hc hs (kx := 89) (km := 254) (pc0 := 1240) (pcA := 1244) (n1 := 3) (n2 := 6) (S1 := [1244]) (S2 := [1621]) (as := []) c_fits rfl rfl (fun h a2 a1 => by exact eL_1240a _ _ _ _ _ _ _ _) (fun h s0 a2 a1 => by exact eL_1240b _ _ _ _ _ _ _ _ _) hN hRel hI
set_option maxRecDepth 40000 in
theorem lz_1253 (C : lz_C p s m c b ad D cI cJ cZ scr L) {cells slots : Nat} (hc : cells ≤ 601024) (hs : slots ≤ 7293034) {N : Nat} (hk : 5 * N + 4 < L) {x5 x6 x7 : Value} {h : av_M} (hN : N < 1000000) (hRel : sh_Rel N h) (hI : ∀ k : av_M, sh_Rel (N + 1) k → lz_W p l e s m below meth c b ad D cI cJ cZ scr L cells slots 1621 [.ref 90, .ref 0, .ref 44, .ref 76, .int (nI (5 * N)), x5, x6, x7] [] k) :
    lz_W p l e s m below meth c b ad D cI cJ cZ scr L cells slots 1253 [.ref 90, .ref 0, .ref 44, .ref 76, .int (nI (5 * N)), x5, x6, x7] [] h := by
  have hL : L ≤ 2560 := C.2.2.2.2.2.2.2.2
  exact lz_two C hc hs (kx := 90) (km := 255) (pc0 := 1253) (pcA := 1257) (n1 := 3) (n2 := 6) (S1 := [1257]) (S2 := [1621]) (as := []) c_asks rfl rfl (fun h a2 a1 => by exact eL_1253a _ _ _ _ _ _ _ _) (fun h s0 a2 a1 => by exact eL_1253b _ _ _ _ _ _ _ _ _) hN hRel hI
set_option maxRecDepth 40000 in
theorem lz_1266 (C : lz_C p s m c b ad D cI cJ cZ scr L) {cells slots : Nat} (hc : cells ≤ 601024) (hs : slots ≤ 7293034) {N : Nat} (hk : 5 * N + 4 < L) {x5 x6 x7 : Value} {h : av_M} (hN : N < 1000000) (hRel : sh_Rel N h) (hI : ∀ k : av_M, sh_Rel (N + 1) k → lz_W p l e s m below meth c b ad D cI cJ cZ scr L cells slots 1621 [.ref 90, .ref 0, .ref 44, .ref 76, .int (nI (5 * N)), x5, x6, x7] [] k) :
    lz_W p l e s m below meth c b ad D cI cJ cZ scr L cells slots 1266 [.ref 90, .ref 0, .ref 44, .ref 76, .int (nI (5 * N)), x5, x6, x7] [] h := by
  have hL : L ≤ 2560 := C.2.2.2.2.2.2.2.2
  have J1 := fun (h : av_M) (e : h 91 0 = nI L) => lz_J (N := N) (k := 1) (c := 1) (L := L) rfl (by omega) hL h e
  have V1 : Int32.toNatClampNeg (nI (5 * N) + 1) = 5 * N + 1 := lz_V (k := 1) rfl (by omega)
  have J2 := fun (h : av_M) (e : h 91 0 = nI L) => lz_J (N := N) (k := 2) (c := 2) (L := L) rfl (by omega) hL h e
  have V2 : Int32.toNatClampNeg (nI (5 * N) + 2) = 5 * N + 2 := lz_V (k := 2) rfl (by omega)
  exact lz_two C hc hs (kx := 91) (km := 256) (pc0 := 1266) (pcA := 1282) (n1 := 13) (n2 := 16) (S1 := [1282]) (S2 := [1621]) (as := [.int (scr (5 * N + 1)), .int (scr (5 * N + 2))]) (c_odds _ _) rfl rfl (fun h a2 a1 => by rw [eL_1266a]; simp only [cond_true, a1, J1 h a2, V1, J2 h a2, V2]) (fun h s0 a2 a1 => by rw [eL_1266b]; simp only [cond_true, a1, J1 h a2, V1, J2 h a2, V2]) hN hRel hI
set_option maxRecDepth 40000 in
theorem lz_1303 (C : lz_C p s m c b ad D cI cJ cZ scr L) {cells slots : Nat} (hc : cells ≤ 601024) (hs : slots ≤ 7293034) {N : Nat} (hk : 5 * N + 4 < L) {x5 x6 x7 : Value} {h : av_M} (hN : N < 1000000) (hRel : sh_Rel N h) (hI : ∀ k : av_M, sh_Rel (N + 1) k → lz_W p l e s m below meth c b ad D cI cJ cZ scr L cells slots 1621 [.ref 90, .ref 0, .ref 44, .ref 76, .int (nI (5 * N)), x5, x6, x7] [] k) :
    lz_W p l e s m below meth c b ad D cI cJ cZ scr L cells slots 1303 [.ref 90, .ref 0, .ref 44, .ref 76, .int (nI (5 * N)), x5, x6, x7] [] h := by
  have hL : L ≤ 2560 := C.2.2.2.2.2.2.2.2
  have J1 := fun (h : av_M) (e : h 91 0 = nI L) => lz_J (N := N) (k := 1) (c := 1) (L := L) rfl (by omega) hL h e
  have V1 : Int32.toNatClampNeg (nI (5 * N) + 1) = 5 * N + 1 := lz_V (k := 1) rfl (by omega)
  have J2 := fun (h : av_M) (e : h 91 0 = nI L) => lz_J (N := N) (k := 2) (c := 2) (L := L) rfl (by omega) hL h e
  have V2 : Int32.toNatClampNeg (nI (5 * N) + 2) = 5 * N + 2 := lz_V (k := 2) rfl (by omega)
  have J3 := fun (h : av_M) (e : h 91 0 = nI L) => lz_J (N := N) (k := 3) (c := 3) (L := L) rfl (by omega) hL h e
  have V3 : Int32.toNatClampNeg (nI (5 * N) + 3) = 5 * N + 3 := lz_V (k := 3) rfl (by omega)
  exact lz_two C hc hs (kx := 92) (km := 257) (pc0 := 1303) (pcA := 1325) (n1 := 18) (n2 := 21) (S1 := [1325]) (S2 := [1621]) (as := [.int (scr (5 * N + 1)), .int (scr (5 * N + 2)), .int (scr (5 * N + 3))]) (c_saw _ _ _) rfl rfl (fun h a2 a1 => by rw [eL_1303a]; simp only [cond_true, a1, J1 h a2, V1, J2 h a2, V2, J3 h a2, V3]) (fun h s0 a2 a1 => by rw [eL_1303b]; simp only [cond_true, a1, J1 h a2, V1, J2 h a2, V2, J3 h a2, V3]) hN hRel hI
set_option maxRecDepth 40000 in
theorem lz_1352 (C : lz_C p s m c b ad D cI cJ cZ scr L) {cells slots : Nat} (hc : cells ≤ 601024) (hs : slots ≤ 7293034) {N : Nat} (hk : 5 * N + 4 < L) {x5 x6 x7 : Value} {h : av_M} (hN : N < 1000000) (hRel : sh_Rel N h) (hI : ∀ k : av_M, sh_Rel (N + 1) k → lz_W p l e s m below meth c b ad D cI cJ cZ scr L cells slots 1621 [.ref 90, .ref 0, .ref 44, .ref 76, .int (nI (5 * N)), x5, x6, x7] [] k) :
    lz_W p l e s m below meth c b ad D cI cJ cZ scr L cells slots 1352 [.ref 90, .ref 0, .ref 44, .ref 76, .int (nI (5 * N)), x5, x6, x7] [] h := by
  have hL : L ≤ 2560 := C.2.2.2.2.2.2.2.2
  exact lz_two C hc hs (kx := 93) (km := 258) (pc0 := 1352) (pcA := 1356) (n1 := 3) (n2 := 6) (S1 := [1356]) (S2 := [1621]) (as := []) c_clears rfl rfl (fun h a2 a1 => by exact eL_1352a _ _ _ _ _ _ _ _) (fun h s0 a2 a1 => by exact eL_1352b _ _ _ _ _ _ _ _ _) hN hRel hI
set_option maxRecDepth 40000 in
theorem lz_1365 (C : lz_C p s m c b ad D cI cJ cZ scr L) {cells slots : Nat} (hc : cells ≤ 601024) (hs : slots ≤ 7293034) {N : Nat} (hk : 5 * N + 4 < L) {x5 x6 x7 : Value} {h : av_M} (hN : N < 1000000) (hRel : sh_Rel N h) (hI : ∀ k : av_M, sh_Rel (N + 1) k → lz_W p l e s m below meth c b ad D cI cJ cZ scr L cells slots 1621 [.ref 90, .ref 0, .ref 44, .ref 76, .int (nI (5 * N)), x5, x6, x7] [] k) :
    lz_W p l e s m below meth c b ad D cI cJ cZ scr L cells slots 1365 [.ref 90, .ref 0, .ref 44, .ref 76, .int (nI (5 * N)), x5, x6, x7] [] h := by
  have hL : L ≤ 2560 := C.2.2.2.2.2.2.2.2
  exact lz_two C hc hs (kx := 94) (km := 261) (pc0 := 1365) (pcA := 1369) (n1 := 3) (n2 := 6) (S1 := [1369]) (S2 := [1621]) (as := []) c_laws rfl rfl (fun h a2 a1 => by exact eL_1365a _ _ _ _ _ _ _ _) (fun h s0 a2 a1 => by exact eL_1365b _ _ _ _ _ _ _ _ _) hN hRel hI
set_option maxRecDepth 40000 in
theorem lz_1378 (C : lz_C p s m c b ad D cI cJ cZ scr L) {cells slots : Nat} (hc : cells ≤ 601024) (hs : slots ≤ 7293034) {N : Nat} (hk : 5 * N + 4 < L) {x5 x6 x7 : Value} {h : av_M} (hN : N < 1000000) (hRel : sh_Rel N h) (hI : ∀ k : av_M, sh_Rel (N + 1) k → lz_W p l e s m below meth c b ad D cI cJ cZ scr L cells slots 1621 [.ref 90, .ref 0, .ref 44, .ref 76, .int (nI (5 * N)), x5, x6, x7] [] k) :
    lz_W p l e s m below meth c b ad D cI cJ cZ scr L cells slots 1378 [.ref 90, .ref 0, .ref 44, .ref 76, .int (nI (5 * N)), x5, x6, x7] [] h := by
  have hL : L ≤ 2560 := C.2.2.2.2.2.2.2.2
  exact lz_two C hc hs (kx := 95) (km := 262) (pc0 := 1378) (pcA := 1382) (n1 := 3) (n2 := 6) (S1 := [1382]) (S2 := [1621]) (as := []) c_tries rfl rfl (fun h a2 a1 => by exact eL_1378a _ _ _ _ _ _ _ _) (fun h s0 a2 a1 => by exact eL_1378b _ _ _ _ _ _ _ _ _) hN hRel hI
set_option maxRecDepth 40000 in
theorem lz_1391 (C : lz_C p s m c b ad D cI cJ cZ scr L) {cells slots : Nat} (hc : cells ≤ 601024) (hs : slots ≤ 7293034) {N : Nat} (hk : 5 * N + 4 < L) {x5 x6 x7 : Value} {h : av_M} (hN : N < 1000000) (hRel : sh_Rel N h) (hI : ∀ k : av_M, sh_Rel (N + 1) k → lz_W p l e s m below meth c b ad D cI cJ cZ scr L cells slots 1621 [.ref 90, .ref 0, .ref 44, .ref 76, .int (nI (5 * N)), x5, x6, x7] [] k) :
    lz_W p l e s m below meth c b ad D cI cJ cZ scr L cells slots 1391 [.ref 90, .ref 0, .ref 44, .ref 76, .int (nI (5 * N)), x5, x6, x7] [] h := by
  have hL : L ≤ 2560 := C.2.2.2.2.2.2.2.2
  have J1 := fun (h : av_M) (e : h 91 0 = nI L) => lz_J (N := N) (k := 1) (c := 1) (L := L) rfl (by omega) hL h e
  have V1 : Int32.toNatClampNeg (nI (5 * N) + 1) = 5 * N + 1 := lz_V (k := 1) rfl (by omega)
  exact lz_two C hc hs (kx := 96) (km := 264) (pc0 := 1391) (pcA := 1401) (n1 := 8) (n2 := 11) (S1 := [1401]) (S2 := [1621]) (as := [.int (scr (5 * N + 1))]) (c_letting _) rfl rfl (fun h a2 a1 => by rw [eL_1391a]; simp only [cond_true, a1, J1 h a2, V1]) (fun h s0 a2 a1 => by rw [eL_1391b]; simp only [cond_true, a1, J1 h a2, V1]) hN hRel hI
set_option maxRecDepth 40000 in
theorem lz_1416 (C : lz_C p s m c b ad D cI cJ cZ scr L) {cells slots : Nat} (hc : cells ≤ 601024) (hs : slots ≤ 7293034) {N : Nat} (hk : 5 * N + 4 < L) {x5 x6 x7 : Value} {h : av_M} (hN : N < 1000000) (hRel : sh_Rel N h) (hI : ∀ k : av_M, sh_Rel (N + 1) k → lz_W p l e s m below meth c b ad D cI cJ cZ scr L cells slots 1621 [.ref 90, .ref 0, .ref 44, .ref 76, .int (nI (5 * N)), x5, x6, x7] [] k) :
    lz_W p l e s m below meth c b ad D cI cJ cZ scr L cells slots 1416 [.ref 90, .ref 0, .ref 44, .ref 76, .int (nI (5 * N)), x5, x6, x7] [] h := by
  have hL : L ≤ 2560 := C.2.2.2.2.2.2.2.2
  exact lz_two C hc hs (kx := 97) (km := 265) (pc0 := 1416) (pcA := 1420) (n1 := 3) (n2 := 6) (S1 := [1420]) (S2 := [1621]) (as := []) c_law rfl rfl (fun h a2 a1 => by exact eL_1416a _ _ _ _ _ _ _ _) (fun h s0 a2 a1 => by exact eL_1416b _ _ _ _ _ _ _ _ _) hN hRel hI
set_option maxRecDepth 40000 in
theorem lz_1429 (C : lz_C p s m c b ad D cI cJ cZ scr L) {cells slots : Nat} (hc : cells ≤ 601024) (hs : slots ≤ 7293034) {N : Nat} (hk : 5 * N + 4 < L) {x5 x6 x7 : Value} {h : av_M} (hN : N < 1000000) (hRel : sh_Rel N h) (hI : ∀ k : av_M, sh_Rel (N + 1) k → lz_W p l e s m below meth c b ad D cI cJ cZ scr L cells slots 1621 [.ref 90, .ref 0, .ref 44, .ref 76, .int (nI (5 * N)), x5, x6, x7] [] k) :
    lz_W p l e s m below meth c b ad D cI cJ cZ scr L cells slots 1429 [.ref 90, .ref 0, .ref 44, .ref 76, .int (nI (5 * N)), x5, x6, x7] [] h := by
  have hL : L ≤ 2560 := C.2.2.2.2.2.2.2.2
  have J1 := fun (h : av_M) (e : h 91 0 = nI L) => lz_J (N := N) (k := 1) (c := 1) (L := L) rfl (by omega) hL h e
  have V1 : Int32.toNatClampNeg (nI (5 * N) + 1) = 5 * N + 1 := lz_V (k := 1) rfl (by omega)
  exact lz_two C hc hs (kx := 98) (km := 268) (pc0 := 1429) (pcA := 1439) (n1 := 8) (n2 := 11) (S1 := [1439]) (S2 := [1621]) (as := [.int (scr (5 * N + 1))]) (c_wars _) rfl rfl (fun h a2 a1 => by rw [eL_1429a]; simp only [cond_true, a1, J1 h a2, V1]) (fun h s0 a2 a1 => by rw [eL_1429b]; simp only [cond_true, a1, J1 h a2, V1]) hN hRel hI
set_option maxRecDepth 40000 in
theorem lz_1454 (C : lz_C p s m c b ad D cI cJ cZ scr L) {cells slots : Nat} (hc : cells ≤ 601024) (hs : slots ≤ 7293034) {N : Nat} (hk : 5 * N + 4 < L) {x5 x6 x7 : Value} {h : av_M} (hN : N < 1000000) (hRel : sh_Rel N h) (hI : ∀ k : av_M, sh_Rel (N + 1) k → lz_W p l e s m below meth c b ad D cI cJ cZ scr L cells slots 1621 [.ref 90, .ref 0, .ref 44, .ref 76, .int (nI (5 * N)), x5, x6, x7] [] k) :
    lz_W p l e s m below meth c b ad D cI cJ cZ scr L cells slots 1454 [.ref 90, .ref 0, .ref 44, .ref 76, .int (nI (5 * N)), x5, x6, x7] [] h := by
  have hL : L ≤ 2560 := C.2.2.2.2.2.2.2.2
  have J1 := fun (h : av_M) (e : h 91 0 = nI L) => lz_J (N := N) (k := 1) (c := 1) (L := L) rfl (by omega) hL h e
  have V1 : Int32.toNatClampNeg (nI (5 * N) + 1) = 5 * N + 1 := lz_V (k := 1) rfl (by omega)
  have J2 := fun (h : av_M) (e : h 91 0 = nI L) => lz_J (N := N) (k := 2) (c := 2) (L := L) rfl (by omega) hL h e
  have V2 : Int32.toNatClampNeg (nI (5 * N) + 2) = 5 * N + 2 := lz_V (k := 2) rfl (by omega)
  exact lz_two C hc hs (kx := 99) (km := 270) (pc0 := 1454) (pcA := 1470) (n1 := 13) (n2 := 16) (S1 := [1470]) (S2 := [1621]) (as := [.int (scr (5 * N + 1)), .int (scr (5 * N + 2))]) (c_years _ _) rfl rfl (fun h a2 a1 => by rw [eL_1454a]; simp only [cond_true, a1, J1 h a2, V1, J2 h a2, V2]) (fun h s0 a2 a1 => by rw [eL_1454b]; simp only [cond_true, a1, J1 h a2, V1, J2 h a2, V2]) hN hRel hI
set_option maxRecDepth 40000 in
theorem lz_1491 (C : lz_C p s m c b ad D cI cJ cZ scr L) {cells slots : Nat} (hc : cells ≤ 601024) (hs : slots ≤ 7293034) {N : Nat} (hk : 5 * N + 4 < L) {x5 x6 x7 : Value} {h : av_M} (hN : N < 1000000) (hRel : sh_Rel N h) (hI : ∀ k : av_M, sh_Rel (N + 1) k → lz_W p l e s m below meth c b ad D cI cJ cZ scr L cells slots 1621 [.ref 90, .ref 0, .ref 44, .ref 76, .int (nI (5 * N)), x5, x6, x7] [] k) :
    lz_W p l e s m below meth c b ad D cI cJ cZ scr L cells slots 1491 [.ref 90, .ref 0, .ref 44, .ref 76, .int (nI (5 * N)), x5, x6, x7] [] h := by
  have hL : L ≤ 2560 := C.2.2.2.2.2.2.2.2
  have J1 := fun (h : av_M) (e : h 91 0 = nI L) => lz_J (N := N) (k := 1) (c := 1) (L := L) rfl (by omega) hL h e
  have V1 : Int32.toNatClampNeg (nI (5 * N) + 1) = 5 * N + 1 := lz_V (k := 1) rfl (by omega)
  exact lz_two C hc hs (kx := 100) (km := 271) (pc0 := 1491) (pcA := 1501) (n1 := 8) (n2 := 11) (S1 := [1501]) (S2 := [1621]) (as := [.int (scr (5 * N + 1))]) (c_keep _) rfl rfl (fun h a2 a1 => by rw [eL_1491a]; simp only [cond_true, a1, J1 h a2, V1]) (fun h s0 a2 a1 => by rw [eL_1491b]; simp only [cond_true, a1, J1 h a2, V1]) hN hRel hI
set_option maxRecDepth 40000 in
theorem lz_1516 (C : lz_C p s m c b ad D cI cJ cZ scr L) {cells slots : Nat} (hc : cells ≤ 601024) (hs : slots ≤ 7293034) {N : Nat} (hk : 5 * N + 4 < L) {x5 x6 x7 : Value} {h : av_M} (hN : N < 1000000) (hRel : sh_Rel N h) (hI : ∀ k : av_M, sh_Rel (N + 1) k → lz_W p l e s m below meth c b ad D cI cJ cZ scr L cells slots 1621 [.ref 90, .ref 0, .ref 44, .ref 76, .int (nI (5 * N)), x5, x6, x7] [] k) :
    lz_W p l e s m below meth c b ad D cI cJ cZ scr L cells slots 1516 [.ref 90, .ref 0, .ref 44, .ref 76, .int (nI (5 * N)), x5, x6, x7] [] h := by
  have hL : L ≤ 2560 := C.2.2.2.2.2.2.2.2
  have J1 := fun (h : av_M) (e : h 91 0 = nI L) => lz_J (N := N) (k := 1) (c := 1) (L := L) rfl (by omega) hL h e
  have V1 : Int32.toNatClampNeg (nI (5 * N) + 1) = 5 * N + 1 := lz_V (k := 1) rfl (by omega)
  exact lz_two C hc hs (kx := 101) (km := 272) (pc0 := 1516) (pcA := 1526) (n1 := 8) (n2 := 11) (S1 := [1526]) (S2 := [1621]) (as := [.int (scr (5 * N + 1))]) (c_again _) rfl rfl (fun h a2 a1 => by rw [eL_1516a]; simp only [cond_true, a1, J1 h a2, V1]) (fun h s0 a2 a1 => by rw [eL_1516b]; simp only [cond_true, a1, J1 h a2, V1]) hN hRel hI
set_option maxRecDepth 40000 in
theorem lz_1541 (C : lz_C p s m c b ad D cI cJ cZ scr L) {cells slots : Nat} (hc : cells ≤ 601024) (hs : slots ≤ 7293034) {N : Nat} (hk : 5 * N + 4 < L) {x5 x6 x7 : Value} {h : av_M} (hN : N < 1000000) (hRel : sh_Rel N h) (hI : ∀ k : av_M, sh_Rel (N + 1) k → lz_W p l e s m below meth c b ad D cI cJ cZ scr L cells slots 1621 [.ref 90, .ref 0, .ref 44, .ref 76, .int (nI (5 * N)), x5, x6, x7] [] k) :
    lz_W p l e s m below meth c b ad D cI cJ cZ scr L cells slots 1541 [.ref 90, .ref 0, .ref 44, .ref 76, .int (nI (5 * N)), x5, x6, x7] [] h := by
  have hL : L ≤ 2560 := C.2.2.2.2.2.2.2.2
  have J1 := fun (h : av_M) (e : h 91 0 = nI L) => lz_J (N := N) (k := 1) (c := 1) (L := L) rfl (by omega) hL h e
  have V1 : Int32.toNatClampNeg (nI (5 * N) + 1) = 5 * N + 1 := lz_V (k := 1) rfl (by omega)
  exact lz_two C hc hs (kx := 102) (km := 273) (pc0 := 1541) (pcA := 1551) (n1 := 8) (n2 := 11) (S1 := [1551]) (S2 := [1621]) (as := [.int (scr (5 * N + 1))]) (c_count _) rfl rfl (fun h a2 a1 => by rw [eL_1541a]; simp only [cond_true, a1, J1 h a2, V1]) (fun h s0 a2 a1 => by rw [eL_1541b]; simp only [cond_true, a1, J1 h a2, V1]) hN hRel hI
end LZC
