/-! THE LAW, 3: streamer and row -/
section LZD
variable {p : Program} {l : Launch} {e : Env} {R : Room} {s : State} {m : MethodId} {args : Array Value} {below : List Frame} {meth : Method} {c : Code} {H : Heap} {locs : List Loc} {cells slots mc ms : Nat} {Q : State → Prop} {b : Nat}
variable {ad : Nat → Nat} {D : va_G} {cI cJ cZ : ClassId} {A : Nat → Prop} {scr : Nat → Int32} {L : Nat}
theorem vz_call {pc : Nat} {lv : Array Slot} {st0 rest : List Value} {ret : Option FieldType} {r : av_R} {a : Array Value} (hr : vx_Run p l e R s m args below meth c H locs cells slots mc ms (F0 m pc lv st0) rest (av_Qc ad D cI cJ cZ A scr L ret r a) (fun _ _ _ => False) A) (hS : va_S A s.heap H locs)
    (kk : ∀ (H1 : Heap) (locs1 : List Loc), va_P D vwCl (av_ws ad cI cJ cZ r.2.2) H1 → va_S A s.heap H1 locs1 → r.2.2 90 = scr → r.2.2 91 0 = nI L → W p l e R s m args below meth c H1 locs1 (cells + mc) (slots + ms) Q (F0 m (pc + 3) lv ((av_rv ret r).toList ++ rest))) : W p l e R s m args below meth c H locs cells slots Q (F0 m pc lv st0) := by
  intro T hT X
  rcases hr T hT X with ⟨v, st₀, t, T', Ls, h0, X', hL, e1, e2, ⟨hv, hp, ⟨hz, hk⟩, hs1, hs2⟩, st⟩ | ⟨q, st₀, t, T', L, E, ce, h0, X', hL, e1, e2, hf, -⟩
  · cases hv
    rw [h0] at hz hk
    obtain ⟨t2, a1, b1⟩ := kk T'.heap (locs ++ Ls) (by rw [e1]; exact hp)
      ⟨Nat.le_trans hS.1 (by rw [e1]; exact hz), fun q h1 h2 => by rw [e1, hk q (Nat.lt_of_lt_of_le h1 hS.1) h2]; exact hS.2.1 q h1 h2, fun q hq => by
        rcases List.mem_append.mp hq with h | h
        · exact hS.2.2 q h
        · exact hL q h⟩ hs1 hs2 T' rfl X'
    exact ⟨t2, st t2 a1, b1⟩
  · exact hf.elim
theorem lz_step (C : lz_C p s m c b ad D cI cJ cZ scr L) (hc : cells ≤ 601024) (hs : slots ≤ 7293034) (S : List Nat) (n : Nat) {pc : Nat} (hhd : av_hd tL_law pc = true) {ls st : List Value} {h : av_M}
    (hz : h 90 = scr → h 91 0 = nI L → av_seg lz_E lz_r (av_K (lz_W p l e s m below meth c b ad D cI cJ cZ scr L cells slots)) tL_law S n (av_at tL_law pc) ls st h = some ()) : lz_W p l e s m below meth c b ad D cI cJ cZ scr L cells slots pc ls st h :=
  fun H locs lv hP hS hl h1 h2 => lz_seg C hc hs (n := n) (S := S) hhd (hz h1 h2) H locs lv hP hS hl h1 h2
theorem lz_d350 : decode code 350 = .ok (.invokestatic 42, 3) := by decide +kernel
theorem lz_d1574 : decode code 1574 = .ok (.invokestatic 237, 3) := by decide +kernel
theorem lz_call4 (C : lz_C p s m c b ad D cI cJ cZ scr L) (Z : vz_Z (lz_A s) s s.heap) (hc : cells + 1 ≤ 601024) (hs : slots + 6 ≤ 7293034) {ls : List Value} {x y k : Int32} {h h' : av_M}
    (hmet : vx_Met l yL_streamer vz_hs vz_hr (vz_P ad D cI cJ cZ (lz_A s) scr L [.ref 0, .int x, .int y, .ref 76] h) (av_Qc ad D cI cJ cZ (lz_A s) scr L (some .int) (k, 0, h')) (fun _ _ _ => False) 1 6 (lz_A s))
    (kk : lz_W p l e s m below meth c b ad D cI cJ cZ scr L (cells + 1) (slots + 6) 353 ls [.int k] h') : lz_W p l e s m below meth c b ad D cI cJ cZ scr L cells slots 350 ls [.ref 76, .int y, .int x, .ref 0] h := by
  obtain ⟨hM, hx, hb, hml, hown, hts, hCx, hD, hL⟩ := C
  intro H locs lv hP hS hlv h1 h2
  have hpre : PreS s H (vz_P ad D cI cJ cZ (lz_A s) scr L [.ref 0, .int x, .int y, .ref 76] h) [.ref (ad 0), .int x, .int y, .ref (ad 76)] := ⟨vz_blind _ h, fun U hU hW => ⟨⟨rfl, by rw [hU]; exact hP, av_Cx_at hCx hS hW hU, h1, h2⟩, vz_Z_at Z hS hW hU⟩⟩
  refine vz_call (rest := []) (vx_runSX (As := [.ref (ad 0), .int x, .int y, .ref (ad 76)]) ⟨hx, hb, hml, hown, hts⟩ hmet (vz_csw (rm := vz_hr) (n := 4) hts vz_w1.2.2.2.2.2.2 vz_w3.1 ⟨by decide, by decide⟩ (by decide) vz_w1.2.2.2.2.1 vz_w1.2.2.2.2.2.1 (by decide) (by decide)) hpre rfl rfl (av_lv_size hlv) rfl (lv_room (Nat.le_of_ble_eq_true rfl)) lz_d350 ⟨hc, hs⟩) hS (fun H1 locs1 hP1 hS1 x1 x2 => ?_)
  exact kk H1 locs1 lv hP1 hS1 hlv x1 x2
theorem lz_call51 (C : lz_C p s m c b ad D cI cJ cZ scr L) (Z : vz_Z (lz_A s) s s.heap) (hc : cells + 1 ≤ 601024) (hs : slots + 6 ≤ 7293034) {ls : List Value} {x k : Int32} {h h' : av_M}
    (hmet : vx_Met l yL_row vz_hw vz_hr (vz_P ad D cI cJ cZ (lz_A s) scr L [.ref 0, .int x, .ref 76] h) (av_Qc ad D cI cJ cZ (lz_A s) scr L (some .int) (k, 0, h')) (fun _ _ _ => False) 1 6 (lz_A s))
    (kk : lz_W p l e s m below meth c b ad D cI cJ cZ scr L (cells + 1) (slots + 6) 1577 ls [.int k] h') : lz_W p l e s m below meth c b ad D cI cJ cZ scr L cells slots 1574 ls [.ref 76, .int x, .ref 0] h := by
  obtain ⟨hM, hx, hb, hml, hown, hts, hCx, hD, hL⟩ := C
  intro H locs lv hP hS hlv h1 h2
  have hpre : PreS s H (vz_P ad D cI cJ cZ (lz_A s) scr L [.ref 0, .int x, .ref 76] h) [.ref (ad 0), .int x, .ref (ad 76)] := ⟨vz_blind _ h, fun U hU hW => ⟨⟨rfl, by rw [hU]; exact hP, av_Cx_at hCx hS hW hU, h1, h2⟩, vz_Z_at Z hS hW hU⟩⟩
  refine vz_call (rest := []) (vx_runSX (As := [.ref (ad 0), .int x, .ref (ad 76)]) ⟨hx, hb, hml, hown, hts⟩ hmet (vz_csw (rm := vz_hr) (n := 3) hts vz_w2.2.2.2.2.2.2 vz_w3.1 ⟨by decide, by decide⟩ (by decide) vz_w2.2.2.2.2.1 vz_w2.2.2.2.2.2.1 (by decide) (by decide)) hpre rfl rfl (av_lv_size hlv) rfl (lv_room (Nat.le_of_ble_eq_true rfl)) lz_d1574 ⟨hc, hs⟩) hS (fun H1 locs1 hP1 hS1 x1 x2 => ?_)
  exact kk H1 locs1 lv hP1 hS1 hlv x1 x2
end LZD
theorem vz_put_76 (h : av_M) (w : Int64) : av_jn (vz_put h w 76 (2 * Int32.toNatClampNeg 0)) (vz_put h w 76 (2 * Int32.toNatClampNeg 0 + 1)) = w := by
  have key : ∀ k, av_jn (av_u (av_u h 76 (2 * k) (av_hi w)) 76 (2 * k + 1) (av_lo w) 76 (2 * k)) (av_u (av_u h 76 (2 * k) (av_hi w)) 76 (2 * k + 1) (av_lo w) 76 (2 * k + 1)) = w := by
    intro k
    rw [av_u_eq, av_u_eq]
    unfold upd
    rw [if_pos rfl, if_neg (by omega), if_pos rfl]
    exact av_jn_split w
  exact key _
theorem vz_put_ne (h : av_M) (w : Int64) : ∀ c, c ≠ 76 → vz_put h w c = h c := by
  intro c hc
  unfold vz_put
  rw [av_u_ne hc, av_u_ne hc]
