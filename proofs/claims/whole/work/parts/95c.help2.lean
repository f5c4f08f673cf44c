/-! the law's own streamer and row, 2 -/
theorem dL_streamer_0 : decode cL_streamer 0 = .ok (.aload_n 3, 1) := by decide +kernel
theorem dL_streamer_1 : decode cL_streamer 1 = .ok (.iconst 0, 1) := by decide +kernel
theorem dL_streamer_2 : decode cL_streamer 2 = .ok (.aload_n 0, 1) := by decide +kernel
theorem dL_streamer_3 : decode cL_streamer 3 = .ok (.iload_n 1, 1) := by decide +kernel
theorem dL_streamer_4 : decode cL_streamer 4 = .ok (.iload_n 2, 1) := by decide +kernel
theorem dL_streamer_5 : decode cL_streamer 5 = .ok (.invokevirtual 7, 3) := by decide +kernel
theorem dL_streamer_8 : decode cL_streamer 8 = .ok (.i2l, 1) := by decide +kernel
theorem dL_streamer_9 : decode cL_streamer 9 = .ok (.lastore, 1) := by decide +kernel
theorem dL_streamer_10 : decode cL_streamer 10 = .ok (.goto 7, 3) := by decide +kernel
theorem dL_streamer_13 : decode cL_streamer 13 = .ok (.astore 4, 2) := by decide +kernel
theorem dL_streamer_15 : decode cL_streamer 15 = .ok (.iconst 1, 1) := by decide +kernel
theorem dL_streamer_16 : decode cL_streamer 16 = .ok (.ireturn, 1) := by decide +kernel
theorem dL_streamer_17 : decode cL_streamer 17 = .ok (.iconst 0, 1) := by decide +kernel
theorem dL_streamer_18 : decode cL_streamer 18 = .ok (.ireturn, 1) := by decide +kernel
theorem dL_row_0 : decode cL_row 0 = .ok (.aload_n 2, 1) := by decide +kernel
theorem dL_row_1 : decode cL_row 1 = .ok (.iconst 0, 1) := by decide +kernel
theorem dL_row_2 : decode cL_row 2 = .ok (.aload_n 0, 1) := by decide +kernel
theorem dL_row_3 : decode cL_row 3 = .ok (.iload_n 1, 1) := by decide +kernel
theorem dL_row_4 : decode cL_row 4 = .ok (.invokevirtual 15, 3) := by decide +kernel
theorem dL_row_7 : decode cL_row 7 = .ok (.lastore, 1) := by decide +kernel
theorem dL_row_8 : decode cL_row 8 = .ok (.goto 6, 3) := by decide +kernel
theorem dL_row_11 : decode cL_row 11 = .ok (.astore_n 3, 1) := by decide +kernel
theorem dL_row_12 : decode cL_row 12 = .ok (.iconst 1, 1) := by decide +kernel
theorem dL_row_13 : decode cL_row 13 = .ok (.ireturn, 1) := by decide +kernel
theorem dL_row_14 : decode cL_row 14 = .ok (.iconst 0, 1) := by decide +kernel
theorem dL_row_15 : decode cL_row 15 = .ok (.ireturn, 1) := by decide +kernel
def vz_hr : Room := { frames := 300, cells := 1, slots := 6, locals := 9000 }
def vz_put (h : av_M) (w : Int64) : av_M := av_u (av_u h 76 (2 * Int32.toNatClampNeg 0) (av_hi w)) 76 (2 * Int32.toNatClampNeg 0 + 1) (av_lo w)
def tHs1 : List av_I := [av_a 0 1 (.aload_n 3), av_k 1 1 (.iconst 0) 0, av_a 2 1 (.aload_n 0), av_a 3 1 (.iload_n 1), av_a 4 1 (.iload_n 2)]
def tHs2 : List av_I := [av_a 8 1 .i2l, av_a 9 1 .lastore, av_b 10 (.goto 7) 17]
def tHr1 : List av_I := [av_a 0 1 (.aload_n 2), av_k 1 1 (.iconst 0) 0, av_a 2 1 (.aload_n 0), av_a 3 1 (.iload_n 1)]
def tHr2 : List av_I := [av_a 7 1 .lastore, av_b 8 (.goto 6) 14]
def vz_hs : List Cond := Cond.codeWith yL_streamer cL_streamer 5 (some .int) [(0, 10, 13, 13)] :: av_tbl
def vz_hw : List Cond := Cond.codeWith yL_row cL_row 4 (some .int) [(0, 8, 11, 13)] :: av_tbl
theorem tHs_ok : av_wf tHs1 = true ∧ tHs1.all (av_chk 10 cL_streamer (some .int)) = true ∧ av_wf tHs2 = true ∧ tHs2.all (av_chk 10 cL_streamer (some .int)) = true := by decide +kernel
theorem tHr_ok : av_wf tHr1 = true ∧ tHr1.all (av_chk 10 cL_row (some .int)) = true ∧ av_wf tHr2 = true ∧ tHr2.all (av_chk 10 cL_row (some .int)) = true := by decide +kernel
theorem eHs1 {β : Type} (E : Nat → List Value → av_M → Option av_R) (rt : av_R → Option β) (K : Nat → List Value → List Value → av_M → Option β) (p1 p2 : Int32) (x4 : Value) (h : av_M) : av_seg E rt K tHs1 [4] 9 (av_at tHs1 0) [.ref 0, .int p1, .int p2, .ref 76, x4] [] h = K 4 [.ref 0, .int p1, .int p2, .ref 76, x4] [.int p1, .ref 0, .int 0, .ref 76] h := rfl
theorem eHs2 {β : Type} (E : Nat → List Value → av_M → Option av_R) (rt : av_R → Option β) (K : Nat → List Value → List Value → av_M → Option β) (p1 p2 v : Int32) (x4 : Value) (h : av_M) : av_seg E rt K tHs2 [17] 9 (av_at tHs2 8) [.ref 0, .int p1, .int p2, .ref 76, x4] [.int v, .int 0, .ref 76] h = K 17 [.ref 0, .int p1, .int p2, .ref 76, x4] [] (vz_put h v.toInt64) := rfl
theorem eHr1 {β : Type} (E : Nat → List Value → av_M → Option av_R) (rt : av_R → Option β) (K : Nat → List Value → List Value → av_M → Option β) (p1 : Int32) (x4 : Value) (h : av_M) : av_seg E rt K tHr1 [3] 9 (av_at tHr1 0) [.ref 0, .int p1, .ref 76, x4] [] h = K 3 [.ref 0, .int p1, .ref 76, x4] [.ref 0, .int 0, .ref 76] h := rfl
theorem eHr2 {β : Type} (E : Nat → List Value → av_M → Option av_R) (rt : av_R → Option β) (K : Nat → List Value → List Value → av_M → Option β) (p1 : Int32) (w : Int64) (x4 : Value) (h : av_M) : av_seg E rt K tHr2 [14] 9 (av_at tHr2 7) [.ref 0, .int p1, .ref 76, x4] [.long w, .int 0, .ref 76] h = K 14 [.ref 0, .int p1, .ref 76, x4] [] (vz_put h w) := rfl
section VZN
variable {ad : Nat → Nat} {D : va_G} {cI cJ cZ : ClassId} {A : Nat → Prop} {scr : Nat → Int32} {L : Nat}
theorem vz_hent {h : av_M} : (av_ws ad cI cJ cZ h)[0]? = some (ad 0, .inr (6, av_fv ad (h 0) (av_nth av_shp 0).2.2 0)) := by
  rw [av_ws_get (a := 0) (by decide), av_en_obj (by decide)]
  rfl
theorem vz_streamer_ok (l : Launch) (hM : ∀ e ∈ av_mt, av_gd e) (hD : ∀ h : av_M, va_D A (av_ws ad cI cJ cZ h)) {a q v : Int32} {h h1' : av_M} (e1 : av_x (30 + 100) 56 [.ref 0, .int a, .int q] h = some (v, 0, h1')) :
    vx_Met l yL_streamer vz_hs vz_hr (vz_P ad D cI cJ cZ A scr L [.ref 0, .int a, .int q, .ref 76] h) (av_Qc ad D cI cJ cZ A scr L (some .int) (0, 0, vz_put h1' v.toInt64)) (fun _ _ _ => False) 1 6 A := by
  refine vx_ofWH (cc := cL_streamer) (maxL := 5) (ret := some .int) (by decide) rfl ?_
  intro p e s m args below meth c s₁ B hml hv
  obtain ⟨⟨rfl, hP, hCx, h1, h2⟩, hZ⟩ := hv
  have hts0 := atoms_spec (ws := vz_hs) B.pre
  have hts : ∀ w ∈ av_tbl, w.before _ s = true := fun w hw => hts0 w (List.mem_cons_of_mem _ hw)
  have hown : s.vm.findClass (av_cn 10) = some m.cls := findClass_of_methodNamed B.named
  have hl0 := lv_entry (([.ref 0, .int a, .int q, .ref 76] : List Value).map (av_c ad)) (n := 5) (Nat.le_of_ble_eq_true rfl)
  have hx := B.exec
  have hb := B.bytes
  refine vx_ret (W.widen (cells := 0) (slots := 0) (k := 1) (n := 6) (Nat.zero_le _) (Nat.zero_le _) ?_)
  rw [lg_entry_eq]
  obtain ⟨t1, t2, t3, t4⟩ := tHs_ok
  have hE := fun (k : Nat) (as : List Value) (h : av_M) (r : av_R) (hk : k < 277) (he : av_x (30 + 100) k as h = some r) => av_all l hM ad D cI cJ cZ A scr L hD (30 + 100) k as h r hk he
  refine av_segP (own := 10) (nL := 5) (d := 30 + 100) (cc := cL_streamer) (ret := some .int) (T := tHs1) (S := [4]) (n := 9) (pc := 0) (ls := [.ref 0, .int a, .int q, .ref 76, .null]) (st := []) (h := h) (E := fun k as h => av_x (30 + 100) k as h) (P := fun pc ls st h' => pc = 4 ∧ ls = [.ref 0, .int a, .int q, .ref 76, .null] ∧ st = [.int a, .ref 0, .int 0, .ref 76] ∧ h' = h) hM hx hb hml hown hts hCx hD (Nat.le_of_ble_eq_true rfl) (Nat.le_of_ble_eq_true rfl) (Nat.le_refl _) (Nat.le_refl _) hE t1 t2 rfl ?_ ?_ s.heap [] _ hP va_S.rf ⟨rfl, _, hl0, fun i v hg hv => ?_⟩ h1 h2
  · rw [eHs1]; exact av_K_of ⟨rfl, rfl, rfl, rfl⟩
  · rintro pc ls st h' ⟨rfl, rfl, rfl, rfl⟩
    intro H locs lv hP hS hlv h1 h2
    refine lv_iload_n (x := q) hx hb dL_streamer_4 rfl (av_lv_get hlv (n := 2) (v := .int q) rfl (fun z => by cases z)) ?_
    have hmet := hE 56 _ _ _ (by decide) e1
    have hpre : PreV s H RX6 (ad 0) (av_Pc ad D cI cJ cZ A scr L [.ref 0, .int a, .int q] h') [.int a, .int q] := ⟨av_Pc_blind _ h', va_recv hCx.1 hP (av_cls 6 (by decide)) vz_hent, fun U hU hW => ⟨rfl, by rw [hU]; exact hP, av_Cx_at hCx hS hW hU, h1, h2⟩⟩
    refine av_call (rest := [.int 0, .ref (ad 76)]) (va_runV (C := RX6) (As := [.int a, .int q]) ⟨hx, hb, hml, hown, hts⟩ hmet ⟨vz_cb (rm := av_rm (30 + 100)) (n := 2) hts vz_w1.2.2.2.1 vz_w3.2.1 ⟨by decide, by decide⟩ (by decide) vz_w1.1 (by decide) (by decide), hts _ vz_w1.2.1, hts _ vz_w1.2.2.1⟩ hpre rfl rfl (av_lv_size hlv) rfl (lv_room (Nat.le_of_ble_eq_true rfl)) dL_streamer_5 ⟨Nat.le_of_ble_eq_true rfl, Nat.le_of_ble_eq_true rfl⟩) hS (fun H1 locs1 hP1 hS1 x1 x2 => ?_)
    refine av_segP (own := 10) (nL := 5) (d := 30 + 100) (cc := cL_streamer) (ret := some .int) (T := tHs2) (S := [17]) (n := 9) (pc := 8) (ls := [.ref 0, .int a, .int q, .ref 76, .null]) (st := [.int v, .int 0, .ref 76]) (h := h1') (E := fun k as h => av_x (30 + 100) k as h) (P := fun pc ls st h' => pc = 17 ∧ ls = [.ref 0, .int a, .int q, .ref 76, .null] ∧ st = [] ∧ h' = vz_put h1' v.toInt64) hM hx hb hml hown hts hCx hD (Nat.le_of_ble_eq_true rfl) (Nat.le_of_ble_eq_true rfl) (Nat.le_of_ble_eq_true rfl) (Nat.le_of_ble_eq_true rfl) hE t3 t4 rfl ?_ ?_ H1 locs1 lv hP1 hS1 hlv x1 x2
    · rw [eHs2]; exact av_K_of ⟨rfl, rfl, rfl, rfl⟩
    · rintro pc ls st h9 ⟨rfl, rfl, rfl, rfl⟩
      intro H2 locs2 lv2 hP2 hS2 hl2 y1 y2
      refine lv_iconst hx hb dL_streamer_17 rfl ?_
      exact av_ret hx hb B.returns rfl B.notSynchronized hS2.2.2 dL_streamer_18 (fun t ht _ => ⟨rfl, by rw [ht]; exact hP2, hS2.F ht, y1, y2⟩)
  · have := av_lv_in (ad := ad) [.ref 0, .int a, .int q, .ref 76] 0 i v (av_pad_gl 5 [.ref 0, .int a, .int q, .ref 76] i v hg hv) hv
    rw [Nat.zero_add] at this
    exact this
end VZN
