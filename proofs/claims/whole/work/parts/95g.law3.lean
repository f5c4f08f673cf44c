/-! THE LAW, 4: streamer and row, the cases -/
section LZG
variable {p : Program} {l : Launch} {e : Env} {s : State} {m : MethodId} {below : List Frame} {meth : Method} {c : Code} {b : Nat}
variable {ad : Nat → Nat} {D : va_G} {cI cJ cZ : ClassId} {scr : Nat → Int32} {L : Nat}
theorem lg_cmp_self (v : Int64) : lg_cmp v v = 0 := by unfold lg_cmp; simp
set_option maxRecDepth 40000 in
theorem lz_336 (C : lz_C p s m c b ad D cI cJ cZ scr L) (Z : vz_Z (lz_A s) s s.heap) (hl : l.stackTraces = false) {cells slots : Nat} (hc : cells + 1 ≤ 601024) (hs : slots + 6 ≤ 7293034) {N : Nat} (hk : 5 * N + 4 < L) {x5 x6 x7 : Value} {h : av_M} (hN : N < 1000000) (hRel : sh_Rel N h) (hI : ∀ (x5 x6 x7 : Value) (k : av_M), sh_Rel (N + 1) k → lz_W p l e s m below meth c b ad D cI cJ cZ scr L (cells + 1) (slots + 6) 1621 [.ref 90, .ref 0, .ref 44, .ref 76, .int (nI (5 * N)), x5, x6, x7] [] k) :
    lz_W p l e s m below meth c b ad D cI cJ cZ scr L cells slots 336 [.ref 90, .ref 0, .ref 44, .ref 76, .int (nI (5 * N)), x5, x6, x7] [] h := by
  have hL : L ≤ 2560 := C.2.2.2.2.2.2.2.2
  have hM := C.1
  have hD := C.2.2.2.2.2.2.2.1
  have J1 := fun (h : av_M) (e : h 91 0 = nI L) => lz_J (N := N) (k := 1) (c := 1) (L := L) rfl (by omega) hL h e
  have J2 := fun (h : av_M) (e : h 91 0 = nI L) => lz_J (N := N) (k := 2) (c := 2) (L := L) rfl (by omega) hL h e
  have V1 : Int32.toNatClampNeg (nI (5 * N) + 1) = 5 * N + 1 := lz_V (k := 1) rfl (by omega)
  have V2 : Int32.toNatClampNeg (nI (5 * N) + 2) = 5 * N + 2 := lz_V (k := 2) rfl (by omega)
  have hc0 : cells ≤ 601024 := by omega
  have hs0 : slots ≤ 7293034 := by omega
  refine lz_step C hc0 hs0 [350] 13 rfl (fun a1 a2 => ?_)
  rw [eL_336a, J1 h a2, J2 h a2, V1, V2, a1]
  simp only [cond_true]
  refine av_K_of ?_
  rcases c_streamer 30 N (scr (5 * N + 1)) (scr (5 * N + 2)) h hRel with ⟨a, h1, e1, g⟩ | ⟨⟨bb, e1, hbq⟩, h2, e2, f1, f2⟩
  · obtain ⟨h2, e2, f1, f2, f3⟩ := g (vz_put h1 a.toInt64) (vz_put_ne h1 _)
    have e2 : lz_E 195 [.ref 44, .int (scr (5 * N + 1)), .int (scr (5 * N + 2))] (vz_put h1 a.toInt64) = some (a, 0, h2) := e2
    have e3 : lz_E 156 [.ref 44] h2 = some (h2 44 0, 0, h2) := eX7_thrown_r44_in (30 + 99) h2
    have e4 : av_jn (h2 76 (2 * Int32.toNatClampNeg 0)) (h2 76 (2 * Int32.toNatClampNeg 0 + 1)) = a.toInt64 := by rw [f2]; exact vz_put_76 h1 _
    refine lz_call4 C Z hc hs (vz_streamer_ok l hM hD e1) ?_
    generalize vz_put h1 a.toInt64 = hm at e2
    refine lz_step C hc hs [355] 2 rfl (fun _ _ => ?_)
    rw [eL_336b]
    refine av_K_of (lz_step C hc hs [371] 13 rfl (fun a1 a2 => ?_))
    rw [eL_336c, J1 hm a2, J2 hm a2, V1, V2, a1, e2]
    simp only [cond_true, Option.bind_some]
    refine av_K_of (lz_step C hc hs [373] 2 rfl (fun _ _ => ?_))
    rw [eL_336d]
    refine av_K_of (lz_step C hc hs [377] 3 rfl (fun _ _ => ?_))
    rw [eL_336e, e3]
    simp only [Option.bind_some]
    refine av_K_of (lz_step C hc hs [384] 5 rfl (fun _ _ => ?_))
    rw [eL_336f, f1, if_pos rfl]
    refine av_K_of (lz_step C hc hs [389, 401] 3 rfl (fun _ _ => ?_))
    rw [eL_336g, if_pos rfl]
    refine av_K_of (lz_step C hc hs [392] 4 rfl (fun _ _ => ?_))
    rw [eL_336h, e4]
    refine av_K_of (lz_step C hc hs [401] 7 rfl (fun _ _ => ?_))
    rw [eL_336j, lg_cmp_self, if_pos rfl]
    refine av_K_of (lz_step C hc hs [1621] 2 rfl (fun _ _ => ?_))
    rw [eL_336i]
    exact av_K_of (hI _ _ _ h2 f3)
  · have e2 : lz_E 195 [.ref 44, .int (scr (5 * N + 1)), .int (scr (5 * N + 2))] h = some (0, 0, h2) := e2
    have e3 : lz_E 156 [.ref 44] h2 = some (h2 44 0, 0, h2) := eX7_thrown_r44_in (30 + 99) h2
    refine lz_call4 C Z hc hs (vz_streamer_no l hl hM hD e1 hbq) ?_
    refine lz_step C hc hs [355] 2 rfl (fun _ _ => ?_)
    rw [eL_336b]
    refine av_K_of (lz_step C hc hs [371] 13 rfl (fun a1 a2 => ?_))
    rw [eL_336c, J1 h a2, J2 h a2, V1, V2, a1, e2]
    simp only [cond_true, Option.bind_some]
    refine av_K_of (lz_step C hc hs [373] 2 rfl (fun _ _ => ?_))
    rw [eL_336d]
    refine av_K_of (lz_step C hc hs [377] 3 rfl (fun _ _ => ?_))
    rw [eL_336e, e3]
    simp only [Option.bind_some]
    refine av_K_of (lz_step C hc hs [384] 5 rfl (fun _ _ => ?_))
    rw [eL_336f, f1, if_pos rfl]
    refine av_K_of (lz_step C hc hs [389, 401] 3 rfl (fun _ _ => ?_))
    rw [eL_336g, if_neg (by decide)]
    refine av_K_of (lz_step C hc hs [1621] 2 rfl (fun _ _ => ?_))
    rw [eL_336i]
    exact av_K_of (hI _ _ _ h2 f2)
set_option maxRecDepth 40000 in
theorem lz_1566 (C : lz_C p s m c b ad D cI cJ cZ scr L) (Z : vz_Z (lz_A s) s s.heap) (hl : l.stackTraces = false) {cells slots : Nat} (hc : cells + 1 ≤ 601024) (hs : slots + 6 ≤ 7293034) {N : Nat} (hk : 5 * N + 4 < L) {x5 x6 x7 : Value} {h : av_M} (hN : N < 1000000) (hRel : sh_Rel N h) (hI : ∀ (x5 x6 x7 : Value) (k : av_M), sh_Rel (N + 1) k → lz_W p l e s m below meth c b ad D cI cJ cZ scr L (cells + 1) (slots + 6) 1621 [.ref 90, .ref 0, .ref 44, .ref 76, .int (nI (5 * N)), x5, x6, x7] [] k) :
    lz_W p l e s m below meth c b ad D cI cJ cZ scr L cells slots 1566 [.ref 90, .ref 0, .ref 44, .ref 76, .int (nI (5 * N)), x5, x6, x7] [] h := by
  have hL : L ≤ 2560 := C.2.2.2.2.2.2.2.2
  have hM := C.1
  have hD := C.2.2.2.2.2.2.2.1
  have J1 := fun (h : av_M) (e : h 91 0 = nI L) => lz_J (N := N) (k := 1) (c := 1) (L := L) rfl (by omega) hL h e
  have V1 : Int32.toNatClampNeg (nI (5 * N) + 1) = 5 * N + 1 := lz_V (k := 1) rfl (by omega)
  have hc0 : cells ≤ 601024 := by omega
  have hs0 : slots ≤ 7293034 := by omega
  refine lz_step C hc0 hs0 [1574] 8 rfl (fun a1 a2 => ?_)
  rw [eL_1566a, J1 h a2, V1, a1]
  simp only [cond_true]
  refine av_K_of ?_
  rcases c_row 30 N (scr (5 * N + 1)) h hRel with ⟨w, e1, g⟩ | ⟨hbq, h2, e2, f1, f2⟩
  · obtain ⟨h2, e2, f1, f2, f3⟩ := g (vz_put h w) (vz_put_ne h _)
    have e2 : lz_E 274 [.ref 44, .int (scr (5 * N + 1))] (vz_put h w) = some (0, w, h2) := e2
    have e3 : lz_E 156 [.ref 44] h2 = some (h2 44 0, 0, h2) := eX7_thrown_r44_in (30 + 99) h2
    have e4 : av_jn (h2 76 (2 * Int32.toNatClampNeg 0)) (h2 76 (2 * Int32.toNatClampNeg 0 + 1)) = w := by rw [f2]; exact vz_put_76 h _
    refine lz_call51 C Z hc hs (vz_row_ok l hM hD e1) ?_
    generalize vz_put h w = hm at e2
    refine lz_step C hc hs [1579] 2 rfl (fun _ _ => ?_)
    rw [eL_1566b]
    refine av_K_of (lz_step C hc hs [1589] 8 rfl (fun a1 a2 => ?_))
    rw [eL_1566c, J1 hm a2, V1, a1, e2]
    simp only [cond_true, Option.bind_some]
    refine av_K_of (lz_step C hc hs [1591] 2 rfl (fun _ _ => ?_))
    rw [eL_1566d]
    refine av_K_of (lz_step C hc hs [1595] 3 rfl (fun _ _ => ?_))
    rw [eL_1566e, e3]
    simp only [Option.bind_some]
    refine av_K_of (lz_step C hc hs [1602] 5 rfl (fun _ _ => ?_))
    rw [eL_1566f, f1, if_pos rfl]
    refine av_K_of (lz_step C hc hs [1607, 1618] 3 rfl (fun _ _ => ?_))
    rw [eL_1566g, if_pos rfl]
    refine av_K_of (lz_step C hc hs [1610] 4 rfl (fun _ _ => ?_))
    rw [eL_1566h, e4]
    refine av_K_of (lz_step C hc hs [1618] 6 rfl (fun _ _ => ?_))
    rw [eL_1566j, lg_cmp_self, if_pos rfl]
    refine av_K_of (lz_step C hc hs [1621] 2 rfl (fun _ _ => ?_))
    rw [eL_1566i]
    exact av_K_of (hI _ _ _ h2 f3)
  · have e2 : lz_E 274 [.ref 44, .int (scr (5 * N + 1))] h = some (0, 0, h2) := e2
    have e3 : lz_E 156 [.ref 44] h2 = some (h2 44 0, 0, h2) := eX7_thrown_r44_in (30 + 99) h2
    refine lz_call51 C Z hc hs (vz_row_no l hl hM hD hbq) ?_
    refine lz_step C hc hs [1579] 2 rfl (fun _ _ => ?_)
    rw [eL_1566b]
    refine av_K_of (lz_step C hc hs [1589] 8 rfl (fun a1 a2 => ?_))
    rw [eL_1566c, J1 h a2, V1, a1, e2]
    simp only [cond_true, Option.bind_some]
    refine av_K_of (lz_step C hc hs [1591] 2 rfl (fun _ _ => ?_))
    rw [eL_1566d]
    refine av_K_of (lz_step C hc hs [1595] 3 rfl (fun _ _ => ?_))
    rw [eL_1566e, e3]
    simp only [Option.bind_some]
    refine av_K_of (lz_step C hc hs [1602] 5 rfl (fun _ _ => ?_))
    rw [eL_1566f, f1, if_pos rfl]
    refine av_K_of (lz_step C hc hs [1607, 1618] 3 rfl (fun _ _ => ?_))
    rw [eL_1566g, if_neg (by decide)]
    refine av_K_of (lz_step C hc hs [1621] 2 rfl (fun _ _ => ?_))
    rw [eL_1566i]
    exact av_K_of (hI _ _ _ h2 f2)
end LZG
