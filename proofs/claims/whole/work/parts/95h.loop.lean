/-! THE LAW, 5: its loop -/
theorem lz_ite {c : Prop} [Decidable c] {a b : Option Unit} (ha : a = some ()) (hb : b = some ()) : (if c then a else b) = some () := by
  split <;> assumption
theorem sh_Rel_up {N : Nat} {h : av_M} (H : sh_Rel N h) : sh_Rel (N + 1) h := by
  obtain ⟨⟨n, r, h0⟩, hT⟩ := H
  exact ⟨⟨n, r, sh_R0_up (by omega) h0⟩, hT⟩
theorem lz_m5 {L : Nat} (hL : L ≤ 2560) : (nI L - 5).toInt = (L : Int) - 5 := by
  rw [Int32.toInt_sub, nI_toInt (by omega), show (5 : Int32).toInt = 5 from rfl]
  unfold Int.bmod
  dsimp only
  split <;> omega
theorem lz_in {L N : Nat} (hL : L ≤ 2560) (h : 5 * N + 5 ≤ L) : ¬ nI L - 5 < nI (5 * N) := by
  rw [Int32.not_lt, Int32.le_iff_toInt_le, lz_m5 hL, nI_toInt (by omega)]
  omega
theorem lz_out {L N : Nat} (hL : L ≤ 2560) (hN : N ≤ 600) (h : ¬ 5 * N + 5 ≤ L) : nI L - 5 < nI (5 * N) := by
  rw [Int32.lt_iff_toInt_lt, lz_m5 hL, nI_toInt (by omega)]
  omega
section LZH
variable {p : Program} {l : Launch} {e : Env} {s : State} {m : MethodId} {below : List Frame} {meth : Method} {c : Code} {b : Nat}
variable {ad : Nat → Nat} {D : va_G} {cI cJ cZ : ClassId} {scr : Nat → Int32} {L : Nat}
theorem lz_widen {cells slots k n pc : Nat} {ls st : List Value} {h : av_M} (hc : cells ≤ k) (hs : slots ≤ n) (kk : lz_W p l e s m below meth c b ad D cI cJ cZ scr L k n pc ls st h) : lz_W p l e s m below meth c b ad D cI cJ cZ scr L cells slots pc ls st h :=
  fun H locs lv hP hS hl h1 h2 => W.widen hc hs (kk H locs lv hP hS hl h1 h2)
theorem lz_end (C : lz_C p s m c b ad D cI cJ cZ scr L) (hr : meth.sig.returnType = ret) (hlk : meth.locks = false) {cells slots : Nat} (hc : cells ≤ 601024) (hs : slots ≤ 7293034) {ls : List Value} {h : av_M} : lz_W p l e s m below meth c b ad D cI cJ cZ scr L cells slots 1627 ls [] h := by
  obtain ⟨hM, hx, hb, hml, hown, hts, hCx, hD, hL⟩ := C
  intro H locs lv hP hS hlv h1 h2
  refine lv_iconst (v := 1) hx hb (show decode code 1627 = .ok (.iconst 1, 1) by decide +kernel) rfl ?_
  exact va_forget (fun q hq => hS.2.2 q hq) (W.widen hc hs (lw_ret hx hb hr hlk (show decode code 1628 = .ok (.ireturn, 1) by decide +kernel)))
set_option maxRecDepth 40000 in
theorem lz_turn (C : lz_C p s m c b ad D cI cJ cZ scr L) (Z : vz_Z (lz_A s) s s.heap) (hl : l.stackTraces = false) {cells slots : Nat} (hc : cells + 1 ≤ 601024) (hs : slots + 6 ≤ 7293034) {N : Nat} (h5 : 5 * N + 5 ≤ L) {x5 x6 x7 : Value} {h : av_M} (hRel : sh_Rel N h) (hI : ∀ (x5 x6 x7 : Value) (k : av_M), sh_Rel (N + 1) k → lz_W p l e s m below meth c b ad D cI cJ cZ scr L (cells + 1) (slots + 6) 1621 [.ref 90, .ref 0, .ref 44, .ref 76, .int (nI (5 * N)), x5, x6, x7] [] k) :
    lz_W p l e s m below meth c b ad D cI cJ cZ scr L cells slots 23 [.ref 90, .ref 0, .ref 44, .ref 76, .int (nI (5 * N)), x5, x6, x7] [] h := by
  have hL : L ≤ 2560 := C.2.2.2.2.2.2.2.2
  have hk : 5 * N + 4 < L := by omega
  have hN : N < 1000000 := by omega
  have hc0 : cells ≤ 601024 := by omega
  have hs0 : slots ≤ 7293034 := by omega
  have hJ : ∀ (x5 x6 x7 : Value) (k : av_M), sh_Rel (N + 1) k → lz_W p l e s m below meth c b ad D cI cJ cZ scr L cells slots 1621 [.ref 90, .ref 0, .ref 44, .ref 76, .int (nI (5 * N)), x5, x6, x7] [] k := fun x5 x6 x7 k hR => lz_widen (Nat.le_succ _) (Nat.le_add_right _ 6) (hI x5 x6 x7 k hR)
  have J0 : av_ins (nI (5 * N)) (nI L) = true := by
    have := lz_J (N := N) (k := 0) (c := 0) (L := L) rfl (by omega) hL (fun _ _ => nI L) rfl
    rw [Int32.add_zero] at this
    exact this
  refine lz_step C hc0 hs0 [260, 285, 310, 323, 336, 404, 465, 490, 527, 564, 601, 626, 651, 664, 677, 702, 727, 740, 753, 766, 779, 816, 853, 890, 903, 940, 965, 990, 1003, 1016, 1077, 1102, 1151, 1164, 1177, 1190, 1227, 1240, 1253, 1266, 1303, 1352, 1365, 1378, 1391, 1416, 1429, 1454, 1491, 1516, 1541, 1566, 1621, 1627] 13 rfl (fun a1 a2 => ?_)
  rw [eL_23, a2, if_neg (lz_in hL h5), J0, cond_true]
  exact lz_ite (av_K_of (lz_260 C hc0 hs0 hk hN hRel (hJ x5 x6 x7))) (lz_ite (av_K_of (lz_285 C hc0 hs0 hk hN hRel (hJ x5 x6 x7))) (lz_ite (av_K_of (lz_310 C hc0 hs0 hk hN hRel (hJ x5 x6 x7))) (lz_ite (av_K_of (lz_323 C hc0 hs0 hk hN hRel (hJ x5 x6 x7))) (lz_ite (av_K_of (lz_336 C Z hl hc hs hk hN hRel hI)) (lz_ite (av_K_of (lz_404 C hc0 hs0 hk hN hRel (hJ x5 x6 x7))) (lz_ite (av_K_of (lz_465 C hc0 hs0 hk hN hRel (hJ x5 x6 x7))) (lz_ite (av_K_of (lz_490 C hc0 hs0 hk hN hRel (hJ x5 x6 x7))) (lz_ite (av_K_of (lz_527 C hc0 hs0 hk hN hRel (hJ x5 x6 x7))) (lz_ite (av_K_of (lz_564 C hc0 hs0 hk hN hRel (hJ x5 x6 x7))) (lz_ite (av_K_of (lz_601 C hc0 hs0 hk hN hRel (hJ x5 x6 x7))) (lz_ite (av_K_of (lz_626 C hc0 hs0 hk hN hRel (hJ x5 x6 x7))) (lz_ite (av_K_of (lz_651 C hc0 hs0 hk hN hRel (hJ x5 x6 x7))) (lz_ite (av_K_of (lz_664 C hc0 hs0 hk hN hRel (hJ x5 x6 x7))) (lz_ite (av_K_of (lz_677 C hc0 hs0 hk hN hRel (hJ x5 x6 x7))) (lz_ite (av_K_of (lz_702 C hc0 hs0 hk hN hRel (hJ x5 x6 x7))) (lz_ite (av_K_of (lz_727 C hc0 hs0 hk hN hRel (hJ x5 x6 x7))) (lz_ite (av_K_of (lz_740 C hc0 hs0 hk hN hRel (hJ x5 x6 x7))) (lz_ite (av_K_of (lz_753 C hc0 hs0 hk hN hRel (hJ x5 x6 x7))) (lz_ite (av_K_of (lz_766 C hc0 hs0 hk hN hRel (hJ x5 x6 x7))) (lz_ite (av_K_of (lz_779 C hc0 hs0 hk hN hRel (hJ x5 x6 x7))) (lz_ite (av_K_of (lz_816 C hc0 hs0 hk hN hRel (hJ x5 x6 x7))) (lz_ite (av_K_of (lz_853 C hc0 hs0 hk hN hRel (hJ x5 x6 x7))) (lz_ite (av_K_of (lz_890 C hc0 hs0 hk hN hRel (hJ x5 x6 x7))) (lz_ite (av_K_of (lz_903 C hc0 hs0 hk hN hRel (hJ x5 x6 x7))) (lz_ite (av_K_of (lz_940 C hc0 hs0 hk hN hRel (hJ x5 x6 x7))) (lz_ite (av_K_of (lz_965 C hc0 hs0 hk hN hRel (hJ x5 x6 x7))) (lz_ite (av_K_of (lz_990 C hc0 hs0 hk hN hRel (hJ x5 x6 x7))) (lz_ite (av_K_of (lz_1003 C hc0 hs0 hk hN hRel (hJ x5 x6 x7))) (lz_ite (av_K_of (lz_1016 C hc0 hs0 hk hN hRel (hJ x5 x6 x7))) (lz_ite (av_K_of (lz_1077 C hc0 hs0 hk hN hRel (hJ x5 x6 x7))) (lz_ite (av_K_of (lz_1102 C hc0 hs0 hk hN hRel (hJ x5 x6 x7))) (lz_ite (av_K_of (lz_1151 C hc0 hs0 hk hN hRel (hJ x5 x6 x7))) (lz_ite (av_K_of (lz_1164 C hc0 hs0 hk hN hRel (hJ x5 x6 x7))) (lz_ite (av_K_of (lz_1177 C hc0 hs0 hk hN hRel (hJ x5 x6 x7))) (lz_ite (av_K_of (lz_1190 C hc0 hs0 hk hN hRel (hJ x5 x6 x7))) (lz_ite (av_K_of (lz_1227 C hc0 hs0 hk hN hRel (hJ x5 x6 x7))) (lz_ite (av_K_of (lz_1240 C hc0 hs0 hk hN hRel (hJ x5 x6 x7))) (lz_ite (av_K_of (lz_1253 C hc0 hs0 hk hN hRel (hJ x5 x6 x7))) (lz_ite (av_K_of (lz_1266 C hc0 hs0 hk hN hRel (hJ x5 x6 x7))) (lz_ite (av_K_of (lz_1303 C hc0 hs0 hk hN hRel (hJ x5 x6 x7))) (lz_ite (av_K_of (lz_1352 C hc0 hs0 hk hN hRel (hJ x5 x6 x7))) (lz_ite (av_K_of (lz_1365 C hc0 hs0 hk hN hRel (hJ x5 x6 x7))) (lz_ite (av_K_of (lz_1378 C hc0 hs0 hk hN hRel (hJ x5 x6 x7))) (lz_ite (av_K_of (lz_1391 C hc0 hs0 hk hN hRel (hJ x5 x6 x7))) (lz_ite (av_K_of (lz_1416 C hc0 hs0 hk hN hRel (hJ x5 x6 x7))) (lz_ite (av_K_of (lz_1429 C hc0 hs0 hk hN hRel (hJ x5 x6 x7))) (lz_ite (av_K_of (lz_1454 C hc0 hs0 hk hN hRel (hJ x5 x6 x7))) (lz_ite (av_K_of (lz_1491 C hc0 hs0 hk hN hRel (hJ x5 x6 x7))) (lz_ite (av_K_of (lz_1516 C hc0 hs0 hk hN hRel (hJ x5 x6 x7))) (lz_ite (av_K_of (lz_1541 C hc0 hs0 hk hN hRel (hJ x5 x6 x7))) (lz_ite (av_K_of (lz_1566 C Z hl hc hs hk hN hRel hI)) (av_K_of (hJ x5 x6 x7 h (sh_Rel_up hRel))))))))))))))))))))))))))))))))))))))))))))))))))))))
set_option maxRecDepth 40000 in
theorem lz_loop (C : lz_C p s m c b ad D cI cJ cZ scr L) (Z : vz_Z (lz_A s) s s.heap) (hl : l.stackTraces = false) (hr : meth.sig.returnType = ret) (hlk : meth.locks = false) {c0 s0 : Nat} (hc0 : c0 ≤ 600000) (hs0 : s0 ≤ 7280000) : ∀ (K N : Nat), N + K = 520 → ∀ (x5 x6 x7 : Value) (h : av_M), sh_Rel N h → lz_W p l e s m below meth c b ad D cI cJ cZ scr L (c0 + N) (s0 + 6 * N) 23 [.ref 90, .ref 0, .ref 44, .ref 76, .int (nI (5 * N)), x5, x6, x7] [] h := by
  have hL : L ≤ 2560 := C.2.2.2.2.2.2.2.2
  have ex : ∀ (N : Nat), N ≤ 520 → ¬ 5 * N + 5 ≤ L → ∀ (x5 x6 x7 : Value) (h : av_M), lz_W p l e s m below meth c b ad D cI cJ cZ scr L (c0 + N) (s0 + 6 * N) 23 [.ref 90, .ref 0, .ref 44, .ref 76, .int (nI (5 * N)), x5, x6, x7] [] h := by
    intro N hN h5 x5 x6 x7 h
    have g1 : c0 + N ≤ 601024 := by omega
    have g2 : s0 + 6 * N ≤ 7293034 := by omega
    refine lz_step C g1 g2 [260, 285, 310, 323, 336, 404, 465, 490, 527, 564, 601, 626, 651, 664, 677, 702, 727, 740, 753, 766, 779, 816, 853, 890, 903, 940, 965, 990, 1003, 1016, 1077, 1102, 1151, 1164, 1177, 1190, 1227, 1240, 1253, 1266, 1303, 1352, 1365, 1378, 1391, 1416, 1429, 1454, 1491, 1516, 1541, 1566, 1621, 1627] 13 rfl (fun a1 a2 => ?_)
    rw [eL_23, a2, if_pos (lz_out hL (by omega) h5)]
    exact av_K_of (lz_end C hr hlk g1 g2)
  intro K
  induction K with
  | zero => intro N hNK x5 x6 x7 h _; exact ex N (by omega) (by omega) x5 x6 x7 h
  | succ K ih =>
    intro N hNK x5 x6 x7 h hRel
    by_cases h5 : 5 * N + 5 ≤ L
    · refine lz_turn C Z hl (by omega) (by omega) h5 hRel (fun y5 y6 y7 k hR => ?_)
      have g1 : c0 + N + 1 ≤ 601024 := by omega
      have g2 : s0 + 6 * N + 6 ≤ 7293034 := by omega
      refine lz_step C g1 g2 [23] 3 rfl (fun _ _ => ?_)
      rw [eL_1621, show nI (5 * N) + 5 = nI (5 * (N + 1)) from nI_add (5 * N) 5]
      exact av_K_of (ih (N + 1) (by omega) y5 y6 y7 k hR)
    · exact ex N (by omega) h5 x5 x6 x7 h
end LZH
