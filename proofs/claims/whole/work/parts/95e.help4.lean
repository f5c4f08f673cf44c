/-! the law's own streamer and row, 4 -/
section VZP
variable {ad : Nat → Nat} {D : va_G} {cI cJ cZ : ClassId} {A : Nat → Prop} {scr : Nat → Int32} {L : Nat}
theorem vz_row_ok (l : Launch) (hM : ∀ e ∈ av_mt, av_gd e) (hD : ∀ h : av_M, va_D A (av_ws ad cI cJ cZ h)) {a : Int32} {v : Int64} {h h1' : av_M} (e1 : av_x (30 + 100) 103 [.ref 0, .int a] h = some (0, v, h1')) :
    vx_Met l yL_row vz_hw vz_hr (vz_P ad D cI cJ cZ A scr L [.ref 0, .int a, .ref 76] h) (av_Qc ad D cI cJ cZ A scr L (some .int) (0, 0, vz_put h1' v)) (fun _ _ _ => False) 1 6 A := by
  refine vx_ofWH (cc := cL_row) (maxL := 4) (ret := some .int) (by decide) rfl ?_
  intro p e s m args below meth c s₁ B hml hv
  obtain ⟨⟨rfl, hP, hCx, h1, h2⟩, hZ⟩ := hv
  have hts0 := atoms_spec (ws := vz_hw) B.pre
  have hts : ∀ w ∈ av_tbl, w.before _ s = true := fun w hw => hts0 w (List.mem_cons_of_mem _ hw)
  have hown : s.vm.findClass (av_cn 10) = some m.cls := findClass_of_methodNamed B.named
  have hl0 := lv_entry (([.ref 0, .int a, .ref 76] : List Value).map (av_c ad)) (n := 4) (Nat.le_of_ble_eq_true rfl)
  have hx := B.exec
  have hb := B.bytes
  refine vx_ret (W.widen (cells := 0) (slots := 0) (k := 1) (n := 6) (Nat.zero_le _) (Nat.zero_le _) ?_)
  rw [lg_entry_eq]
  obtain ⟨t1, t2, t3, t4⟩ := tHr_ok
  have hE := fun (k : Nat) (as : List Value) (h : av_M) (r : av_R) (hk : k < 277) (he : av_x (30 + 100) k as h = some r) => av_all l hM ad D cI cJ cZ A scr L hD (30 + 100) k as h r hk he
  refine av_segP (own := 10) (nL := 4) (d := 30 + 100) (cc := cL_row) (ret := some .int) (T := tHr1) (S := [3]) (n := 9) (pc := 0) (ls := [.ref 0, .int a, .ref 76, .null]) (st := []) (h := h) (E := fun k as h => av_x (30 + 100) k as h) (P := fun pc ls st h' => pc = 3 ∧ ls = [.ref 0, .int a, .ref 76, .null] ∧ st = [.ref 0, .int 0, .ref 76] ∧ h' = h) hM hx hb hml hown hts hCx hD (Nat.le_of_ble_eq_true rfl) (Nat.le_of_ble_eq_true rfl) (Nat.le_refl _) (Nat.le_refl _) hE t1 t2 rfl ?_ ?_ s.heap [] _ hP va_S.rf ⟨rfl, _, hl0, fun i v hg hv => ?_⟩ h1 h2
  · rw [eHr1]; exact av_K_of ⟨rfl, rfl, rfl, rfl⟩
  · rintro pc ls st h' ⟨rfl, rfl, rfl, rfl⟩
    intro H locs lv hP hS hlv h1 h2
    refine lv_iload_n (x := a) hx hb dL_row_3 rfl (av_lv_get hlv (n := 1) (v := .int a) rfl (fun z => by cases z)) ?_
    have hmet := hE 103 _ _ _ (by decide) e1
    have hpre : PreV s H RX6 (ad 0) (av_Pc ad D cI cJ cZ A scr L [.ref 0, .int a] h') [.int a] := ⟨av_Pc_blind _ h', va_recv hCx.1 hP (av_cls 6 (by decide)) vz_hent, fun U hU hW => ⟨rfl, by rw [hU]; exact hP, av_Cx_at hCx hS hW hU, h1, h2⟩⟩
    refine av_call (rest := [.int 0, .ref (ad 76)]) (va_runV (C := RX6) (As := [.int a]) ⟨hx, hb, hml, hown, hts⟩ hmet ⟨vz_cb (rm := av_rm (30 + 100)) (n := 1) hts vz_w2.2.2.2.1 vz_w3.2.1 ⟨by decide, by decide⟩ (by decide) vz_w2.1 (by decide) (by decide), hts _ vz_w2.2.1, hts _ vz_w2.2.2.1⟩ hpre rfl rfl (av_lv_size hlv) rfl (lv_room (Nat.le_of_ble_eq_true rfl)) dL_row_4 ⟨Nat.le_of_ble_eq_true rfl, Nat.le_of_ble_eq_true rfl⟩) hS (fun H1 locs1 hP1 hS1 x1 x2 => ?_)
    refine av_segP (own := 10) (nL := 4) (d := 30 + 100) (cc := cL_row) (ret := some .int) (T := tHr2) (S := [14]) (n := 9) (pc := 7) (ls := [.ref 0, .int a, .ref 76, .null]) (st := [.long v, .int 0, .ref 76]) (h := h1') (E := fun k as h => av_x (30 + 100) k as h) (P := fun pc ls st h' => pc = 14 ∧ ls = [.ref 0, .int a, .ref 76, .null] ∧ st = [] ∧ h' = vz_put h1' v) hM hx hb hml hown hts hCx hD (Nat.le_of_ble_eq_true rfl) (Nat.le_of_ble_eq_true rfl) (Nat.le_of_ble_eq_true rfl) (Nat.le_of_ble_eq_true rfl) hE t3 t4 rfl ?_ ?_ H1 locs1 lv hP1 hS1 hlv x1 x2
    · rw [eHr2]; exact av_K_of ⟨rfl, rfl, rfl, rfl⟩
    · rintro pc ls st h9 ⟨rfl, rfl, rfl, rfl⟩
      intro H2 locs2 lv2 hP2 hS2 hl2 y1 y2
      refine lv_iconst hx hb dL_row_14 rfl ?_
      exact av_ret hx hb B.returns rfl B.notSynchronized hS2.2.2 dL_row_15 (fun t ht _ => ⟨rfl, by rw [ht]; exact hP2, hS2.F ht, y1, y2⟩)
  · have := av_lv_in (ad := ad) [.ref 0, .int a, .ref 76] 0 i v (av_pad_gl 4 [.ref 0, .int a, .ref 76] i v hg hv) hv
    rw [Nat.zero_add] at this
    exact this
theorem vz_row_no (l : Launch) (hl : l.stackTraces = false) (hM : ∀ e ∈ av_mt, av_gd e) (hD : ∀ h : av_M, va_D A (av_ws ad cI cJ cZ h)) {a : Int32} {h : av_M} (hbq : a < 0 ∨ h 3 1 ≤ a) :
    vx_Met l yL_row vz_hw vz_hr (vz_P ad D cI cJ cZ A scr L [.ref 0, .int a, .ref 76] h) (av_Qc ad D cI cJ cZ A scr L (some .int) (1, 0, h)) (fun _ _ _ => False) 1 6 A := by
  refine vx_ofWH (cc := cL_row) (maxL := 4) (ret := some .int) (by decide) rfl ?_
  intro p e s m args below meth c s₁ B hml hv
  obtain ⟨⟨rfl, hP, hCx, h1, h2⟩, hZ⟩ := hv
  have hts0 := atoms_spec (ws := vz_hw) B.pre
  have hts : ∀ w ∈ av_tbl, w.before _ s = true := fun w hw => hts0 w (List.mem_cons_of_mem _ hw)
  have htab := vx_table (x := yL_row) B (hts0 _ (List.mem_cons_self (a := Cond.codeWith yL_row cL_row 4 (some .int) [(0, 8, 11, 13)])))
  have hown : s.vm.findClass (av_cn 10) = some m.cls := findClass_of_methodNamed B.named
  have hl0 := lv_entry (([.ref 0, .int a, .ref 76] : List Value).map (av_c ad)) (n := 4) (Nat.le_of_ble_eq_true rfl)
  have hx := B.exec
  have hb := B.bytes
  refine vx_ret ?_
  rw [lg_entry_eq]
  obtain ⟨t1, t2, t3, t4⟩ := tHr_ok
  have hE := fun (k : Nat) (as : List Value) (h : av_M) (r : av_R) (hk : k < 277) (he : av_x (30 + 100) k as h = some r) => av_all l hM ad D cI cJ cZ A scr L hD (30 + 100) k as h r hk he
  refine av_segP (own := 10) (nL := 4) (d := 30 + 100) (cc := cL_row) (ret := some .int) (T := tHr1) (S := [3]) (n := 9) (pc := 0) (ls := [.ref 0, .int a, .ref 76, .null]) (st := []) (h := h) (E := fun k as h => av_x (30 + 100) k as h) (P := fun pc ls st h' => pc = 3 ∧ ls = [.ref 0, .int a, .ref 76, .null] ∧ st = [.ref 0, .int 0, .ref 76] ∧ h' = h) hM hx hb hml hown hts hCx hD (Nat.le_of_ble_eq_true rfl) (Nat.le_of_ble_eq_true rfl) (Nat.zero_le _) (Nat.zero_le _) hE t1 t2 rfl ?_ ?_ s.heap [] _ hP va_S.rf ⟨rfl, _, hl0, fun i v hg hv => ?_⟩ h1 h2
  · rw [eHr1]; exact av_K_of ⟨rfl, rfl, rfl, rfl⟩
  · rintro pc ls st h' ⟨rfl, rfl, rfl, rfl⟩
    intro H locs lv hP hS hlv h1 h2
    refine lv_iload_n (x := a) hx hb dL_row_3 rfl (av_lv_get hlv (n := 1) (v := .int a) rfl (fun z => by cases z)) ?_
    have hpre : PreV s H RX6 (ad 0) (vz_P ad D cI cJ cZ A scr L [.ref 0, .int a] h') [.int a] := ⟨vz_blind _ h', va_recv hCx.1 hP (av_cls 6 (by decide)) vz_hent, fun U hU hW => ⟨⟨rfl, by rw [hU]; exact hP, av_Cx_at hCx hS hW hU, h1, h2⟩, vz_Z_at hZ hS hW hU⟩⟩
    have hmet := vz_row (ad := ad) (D := D) (cI := cI) (cJ := cJ) (cZ := cZ) (A := A) (scr := scr) (L := L) l hl hM hD hbq (va_Ql (fun (_ : Int64) (_ : Unit) => False) (fun _ _ => True) (fun _ => False))
    refine vx_calll (A0 := A) (rest := [.int 0, .ref (ad 76)]) (vx_runV (C := RX6) (As := [.int a]) ⟨hx, hb, hml, hown, hts⟩ hmet ⟨vz_cb (rm := vz_rm) (n := 1) hts vz_w2.2.2.2.1 vz_w3.2.1 ⟨by decide, by decide⟩ (by decide) vz_w2.1 (by decide) (by decide), hts _ vz_w2.2.1, hts _ vz_w2.2.2.1⟩ hpre rfl rfl (av_lv_size hlv) rfl (lv_room (Nat.le_of_ble_eq_true rfl)) dL_row_4 ⟨Nat.le_of_ble_eq_true rfl, Nat.le_of_ble_eq_true rfl⟩) hS (fun q _ h => h.elim) (fun q h => h) (fun q _ h => h) ?_ (fun r u t H1 locs1 ht hvm hw => hw.elim)
    intro E ce q9 u t H1 locs1 ht hvm hu hB hz hk hS1 hce hcv hcl
    obtain ⟨rfl, hP1⟩ := hB
    rw [ht] at hP1
    refine vx_catch (own := RL) (name := vz_X) hown [] ⟨0, 8, 11, 13⟩ [] (by rw [htab]; rfl) (fun z hz => by cases hz) (by decide) (by decide) (hts _ vz_w3.2.2.1) (vz_cast hCx) hce hcv hcl ?_
    obtain ⟨-, l9, hl9, -⟩ := hlv
    refine lv_astore_n hx hb dL_row_11 rfl hl9 (by decide) rfl (fun lv' _ => ?_)
    refine lv_iconst hx hb dL_row_12 rfl ?_
    exact av_ret hx hb B.returns rfl B.notSynchronized hS1.2.2 dL_row_13 (fun t ht _ => ⟨rfl, by rw [ht]; exact hP1, hS1.F ht, h1, h2⟩)
  · have := av_lv_in (ad := ad) [.ref 0, .int a, .ref 76] 0 i v (av_pad_gl 4 [.ref 0, .int a, .ref 76] i v hg hv) hv
    rw [Nat.zero_add] at this
    exact this
end VZP
