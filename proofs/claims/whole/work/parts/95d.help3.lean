/-! the law's own streamer and row, 3 -/
section VZO
variable {ad : Nat → Nat} {D : va_G} {cI cJ cZ : ClassId} {A : Nat → Prop} {scr : Nat → Int32} {L : Nat}
theorem vz_cast {s : State} {a : Array Value} {A' : Nat → Prop} (hCx : av_Cx ad D cI cJ cZ A' scr L s s.heap) : (Cond.castable vz_X vz_X).before a s = true := av_nst_use vz_w3.2.2.2 (hCx.2.1 _ vz_w3.2.2.2)
theorem vz_streamer_no (l : Launch) (hl : l.stackTraces = false) (hM : ∀ e ∈ av_mt, av_gd e) (hD : ∀ h : av_M, va_D A (av_ws ad cI cJ cZ h)) {a q : Int32} {h : av_M} {b : Bool} (e1 : av_x (30 + 99) 26 [.ref 5, .int a] h = some (sh_i b, 0, h)) (hbq : b = false ∨ sh_ir 0 8 q = false) :
    vx_Met l yL_streamer vz_hs vz_hr (vz_P ad D cI cJ cZ A scr L [.ref 0, .int a, .int q, .ref 76] h) (av_Qc ad D cI cJ cZ A scr L (some .int) (1, 0, h)) (fun _ _ _ => False) 1 6 A := by
  refine vx_ofWH (cc := cL_streamer) (maxL := 5) (ret := some .int) (by decide) rfl ?_
  intro p e s m args below meth c s₁ B hml hv
  obtain ⟨⟨rfl, hP, hCx, h1, h2⟩, hZ⟩ := hv
  have hts0 := atoms_spec (ws := vz_hs) B.pre
  have hts : ∀ w ∈ av_tbl, w.before _ s = true := fun w hw => hts0 w (List.mem_cons_of_mem _ hw)
  have htab := vx_table (x := yL_streamer) B (hts0 _ (List.mem_cons_self (a := Cond.codeWith yL_streamer cL_streamer 5 (some .int) [(0, 10, 13, 13)])))
  have hown : s.vm.findClass (av_cn 10) = some m.cls := findClass_of_methodNamed B.named
  have hl0 := lv_entry (([.ref 0, .int a, .int q, .ref 76] : List Value).map (av_c ad)) (n := 5) (Nat.le_of_ble_eq_true rfl)
  have hx := B.exec
  have hb := B.bytes
  refine vx_ret ?_
  rw [lg_entry_eq]
  obtain ⟨t1, t2, t3, t4⟩ := tHs_ok
  have hE := fun (k : Nat) (as : List Value) (h : av_M) (r : av_R) (hk : k < 277) (he : av_x (30 + 100) k as h = some r) => av_all l hM ad D cI cJ cZ A scr L hD (30 + 100) k as h r hk he
  refine av_segP (own := 10) (nL := 5) (d := 30 + 100) (cc := cL_streamer) (ret := some .int) (T := tHs1) (S := [4]) (n := 9) (pc := 0) (ls := [.ref 0, .int a, .int q, .ref 76, .null]) (st := []) (h := h) (E := fun k as h => av_x (30 + 100) k as h) (P := fun pc ls st h' => pc = 4 ∧ ls = [.ref 0, .int a, .int q, .ref 76, .null] ∧ st = [.int a, .ref 0, .int 0, .ref 76] ∧ h' = h) hM hx hb hml hown hts hCx hD (Nat.le_of_ble_eq_true rfl) (Nat.le_of_ble_eq_true rfl) (Nat.zero_le _) (Nat.zero_le _) hE t1 t2 rfl ?_ ?_ s.heap [] _ hP va_S.rf ⟨rfl, _, hl0, fun i v hg hv => ?_⟩ h1 h2
  · rw [eHs1]; exact av_K_of ⟨rfl, rfl, rfl, rfl⟩
  · rintro pc ls st h' ⟨rfl, rfl, rfl, rfl⟩
    intro H locs lv hP hS hlv h1 h2
    refine lv_iload_n (x := q) hx hb dL_streamer_4 rfl (av_lv_get hlv (n := 2) (v := .int q) rfl (fun z => by cases z)) ?_
    have hpre : PreV s H RX6 (ad 0) (vz_P ad D cI cJ cZ A scr L [.ref 0, .int a, .int q] h') [.int a, .int q] := ⟨vz_blind _ h', va_recv hCx.1 hP (av_cls 6 (by decide)) vz_hent, fun U hU hW => ⟨⟨rfl, by rw [hU]; exact hP, av_Cx_at hCx hS hW hU, h1, h2⟩, vz_Z_at hZ hS hW hU⟩⟩
    have hmet := vz_streamer (ad := ad) (D := D) (cI := cI) (cJ := cJ) (cZ := cZ) (A := A) (scr := scr) (L := L) l hl hM hD e1 hbq (va_Qi (fun (_ : Int32) (_ : Unit) => False) (fun _ _ => True) (fun _ => False))
    refine vx_calli (A0 := A) (rest := [.int 0, .ref (ad 76)]) (vx_runV (C := RX6) (As := [.int a, .int q]) ⟨hx, hb, hml, hown, hts⟩ hmet ⟨vz_cb (rm := vz_rm) (n := 2) hts vz_w1.2.2.2.1 vz_w3.2.1 ⟨by decide, by decide⟩ (by decide) vz_w1.1 (by decide) (by decide), hts _ vz_w1.2.1, hts _ vz_w1.2.2.1⟩ hpre rfl rfl (av_lv_size hlv) rfl (lv_room (Nat.le_of_ble_eq_true rfl)) dL_streamer_5 ⟨Nat.le_of_ble_eq_true rfl, Nat.le_of_ble_eq_true rfl⟩) hS (fun q _ h => h.elim) (fun q h => h) (fun q _ h => h) ?_ (fun r u t H1 locs1 ht hvm hw => hw.elim)
    intro E ce q9 u t H1 locs1 ht hvm hu hB hz hk hS1 hce hcv hcl
    obtain ⟨rfl, hP1⟩ := hB
    rw [ht] at hP1
    refine vx_catch (own := RL) (name := vz_X) hown [] ⟨0, 10, 13, 13⟩ [] (by rw [htab]; rfl) (fun z hz => by cases hz) (by decide) (by decide) (hts _ vz_w3.2.2.1) (vz_cast hCx) hce hcv hcl ?_
    obtain ⟨-, l9, hl9, -⟩ := hlv
    refine lv_astore hx hb dL_streamer_13 hl9 (by decide) rfl (fun lv' _ => ?_)
    refine lv_iconst hx hb dL_streamer_15 rfl ?_
    exact av_ret hx hb B.returns rfl B.notSynchronized hS1.2.2 dL_streamer_16 (fun t ht _ => ⟨rfl, by rw [ht]; exact hP1, hS1.F ht, h1, h2⟩)
  · have := av_lv_in (ad := ad) [.ref 0, .int a, .int q, .ref 76] 0 i v (av_pad_gl 5 [.ref 0, .int a, .int q, .ref 76] i v hg hv) hv
    rw [Nat.zero_add] at this
    exact this
end VZO
