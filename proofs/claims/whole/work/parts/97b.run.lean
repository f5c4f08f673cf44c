/-! THE START, 6: the law's walk -/
theorem lz_e0 : decode code 0 = .ok (.new 8, 3) := by decide +kernel
theorem lz_e3 : decode code 3 = .ok (.dup, 1) := by decide +kernel
theorem lz_e4 : decode code 4 = .ok (.invokespecial 19, 3) := by decide +kernel
theorem lz_e7 : decode code 7 = .ok (.astore_n 1, 1) := by decide +kernel
theorem lz_e8 : decode code 8 = .ok (.new 20, 3) := by decide +kernel
theorem lz_e11 : decode code 11 = .ok (.dup, 1) := by decide +kernel
theorem lz_e12 : decode code 12 = .ok (.invokespecial 22, 3) := by decide +kernel
theorem lz_e15 : decode code 15 = .ok (.astore_n 2, 1) := by decide +kernel
theorem lz_e16 : decode code 16 = .ok (.iconst 1, 1) := by decide +kernel
theorem lz_e17 : decode code 17 = .ok (.newarray .long, 2) := by decide +kernel
theorem lz_e19 : decode code 19 = .ok (.astore_n 3, 1) := by decide +kernel
theorem lz_e20 : decode code 20 = .ok (.iconst 0, 1) := by decide +kernel
theorem lz_e21 : decode code 21 = .ok (.istore 4, 2) := by decide +kernel
theorem lz_flags (l : Launch) (h : l.flags = flags0) : l.stackTraces = false := by
  unfold Launch.stackTraces
  rw [h]
  decide +kernel
set_option maxRecDepth 40000 in
theorem lz_run {p : Program} {e : Env} {s : State} {m : MethodId} {below : List Frame} {meth : Method} {c : Code} (l : Launch) (hflags : l.flags = flags0) (hM : ∀ e ∈ av_mt, av_gd e) {b L : Nat} {xs : Nat → Int32} (hL : L ≤ 2560) (C0 : lw_At p s m meth c b L xs) : W p l e room_1 s m #[Value.ref b] below meth c s.heap [] 0 0 (lw_Z below #[Value.ref b] s) (entryFrame m ([Value.ref b] : List Value).toArray 8) := by
  obtain ⟨st, D, cI, cJ, cZ, C, Z⟩ := lz_start hL hM C0
  obtain ⟨hx, hb, hr, hml, hown, hts0, hX, hbl, hlocks, hgv⟩ := id C0
  obtain ⟨-, -, -, -, hown', hts, hCx, -, -⟩ := id C
  obtain ⟨z, hzz⟩ : ∃ z, z = s.heap.size := ⟨_, rfl⟩
  have K : vj_K D cI cJ cZ s := ⟨hCx.1, hCx.2.1⟩
  have C' : vj_C p c code s m #[Value.ref b] 10 D cI cJ cZ := ⟨hx, hb, hown', hts, K⟩
  have hz : z ≤ s.heap.size := Nat.le_of_eq hzz
  obtain ⟨H, hH⟩ : ∃ H, H = s.heap := ⟨_, rfl⟩
  have hP : vj_S D z [] H := ⟨fun k q h => (by cases h), by rw [hH, hzz]; rfl⟩
  have hS : va_S (vj_A z) s.heap H [] := by rw [hH]; exact va_S.rf
  have hl := lv_entry ([.ref b]) (n := 8) (Nat.le_of_ble_eq_true rfl)
  rw [lg_entry_eq, ← hH]
  generalize (lg_sl ([.ref b]) ++ List.replicate (8 - (lg_sl ([.ref b])).length) Slot.unset).toArray = ls at hl ⊢
  have hl : lv_has ls 8 [(0, .ref b)] := hl
  refine vj_new C' hz hP hS (ci := 6) (by decide) (av_tbl_t (p := 20) (by decide +kernel) (by decide +kernel)) (av_tbl_t (p := 21) (by decide +kernel) (by decide +kernel)) (av_tbl_t (p := 1) (by decide +kernel) (by decide +kernel)) (fs := [.null, .null, .null, .null, .null, .null, .null, .null, .null, .null, .null, .null, .int 0, .int 0]) vj_df6 (n := 14) rfl (Nat.le_of_ble_eq_true rfl) (Nat.le_of_ble_eq_true rfl) lz_e0 (len := 0) rfl (fun H hP hS => ?_)
  refine lv_dup hx hb lz_e3 rfl ?_
  refine vj_call (E1 := []) (z1 := z) (F := vjF6 cI cJ cZ z) (rest := [.ref z]) rfl (va_runI (As := []) (rest := [.ref z]) ⟨hx, hb, hml, hown', hts⟩ (vj_ctor6 l D cI cJ cZ z) ⟨vz_cb (rm := vj_rm6) (n := 0) hts (av_tbl_t (p := 24) (by decide +kernel) (by decide +kernel)) (av_tbl_t (p := 1) (by decide +kernel) (by decide +kernel)) ⟨by decide, by decide⟩ (by decide) (av_tbl_t (p := 22) (by decide +kernel) (by decide +kernel)) (by decide) (by decide), rfl, hts _ (av_tbl_t (p := 23) (by decide +kernel) (by decide +kernel))⟩ (vj_pre C' (E1 := []) (z1 := z) rfl hP []) rfl rfl hl.1 rfl (lv_room (Nat.le_of_ble_eq_true rfl)) lz_e4 ⟨Nat.le_of_ble_eq_true rfl, Nat.le_of_ble_eq_true rfl⟩) hP hS (fun H locs hP hS => ?_)
  have hP : vj_S D z (vjF6 cI cJ cZ z) H := hP
  refine lv_astore_n (lv' := [(1, .ref z), (0, .ref b)]) hx hb lz_e7 rfl hl (by decide) rfl (fun ls hl => ?_)
  refine vj_new C' hz hP hS (ci := 7) (by decide) (av_tbl_t (p := 964) (by decide +kernel) (by decide +kernel)) (av_tbl_t (p := 965) (by decide +kernel) (by decide +kernel)) (av_tbl_t (p := 8) (by decide +kernel) (by decide +kernel)) (fs := [.int 0, .int 0, .null, .int 0, .int 0, .null, .null, .null, .null, .null, .int 0, .int 0, .int 0, .int 0, .null, .int 0, .null, .null, .int 0, .int 0, .null, .null, .int 0, .null, .null, .null, .null, .int 0, .int 0, .null, .null, .null, .null, .int 0, .null, .null, .int 0, .null, .null, .null, .null, .null, .null, .null, .int 0, .null, .null, .null]) vj_df7 (n := 48) rfl (Nat.le_of_ble_eq_true rfl) (Nat.le_of_ble_eq_true rfl) lz_e8 (len := 44) rfl (fun H hP hS => ?_)
  refine lv_dup hx hb lz_e11 rfl ?_
  refine vj_call (E1 := vjF6 cI cJ cZ z) (z1 := z + 44) (F := vjF7 cI cJ cZ (z + 44)) (rest := [.ref (z + 44)]) rfl (va_runI (As := []) (rest := [.ref (z + 44)]) ⟨hx, hb, hml, hown', hts⟩ (vj_ctor7 l D cI cJ cZ (z + 44)) ⟨vz_cb (rm := vj_rm7) (n := 0) hts (av_tbl_t (p := 968) (by decide +kernel) (by decide +kernel)) (av_tbl_t (p := 8) (by decide +kernel) (by decide +kernel)) ⟨by decide, by decide⟩ (by decide) (av_tbl_t (p := 966) (by decide +kernel) (by decide +kernel)) (by decide) (by decide), rfl, hts _ (av_tbl_t (p := 967) (by decide +kernel) (by decide +kernel))⟩ (vj_pre C' (E1 := vjF6 cI cJ cZ z) (z1 := z + 44) rfl hP []) rfl rfl hl.1 rfl (lv_room (Nat.le_of_ble_eq_true rfl)) lz_e12 ⟨Nat.le_of_ble_eq_true rfl, Nat.le_of_ble_eq_true rfl⟩) hP hS (fun H locs hP hS => ?_)
  refine lv_astore_n (lv' := [(2, .ref (z + 44)), (1, .ref z), (0, .ref b)]) hx hb lz_e15 rfl hl (by decide) rfl (fun ls hl => ?_)
  refine lv_iconst (v := 1) hx hb lz_e16 rfl ?_
  refine vj_newa C' hz hP hS (atype := .long) rfl 1 rfl rfl vj_aw.2.1 (n := 1) (N := 1) (1, .inr (.inl (fun _ => 0))) (fun _ => rfl) (by decide) rfl (by decide) (Nat.le_of_ble_eq_true rfl) (Nat.le_of_ble_eq_true rfl) lz_e17 (len := 76) rfl (fun H hP hS => ?_)
  refine lv_astore_n (lv' := [(3, .ref (z + 76)), (2, .ref (z + 44)), (1, .ref z), (0, .ref b)]) hx hb lz_e19 rfl hl (by decide) rfl (fun ls hl => ?_)
  refine lv_iconst (v := 0) hx hb lz_e20 rfl ?_
  refine lv_istore (lv' := [(4, .int 0), (3, .ref (z + 76)), (2, .ref (z + 44)), (1, .ref z), (0, .ref b)]) hx hb lz_e21 hl (by decide) rfl (fun ls hl => ?_)
  have hloop := lz_loop (e := e) (below := below) (meth := meth) C Z (lz_flags l hflags) hr hlocks (c0 := 77) (s0 := 3131) (by decide) (by decide) 520 0 rfl .null .null .null (vj_h xs L) (vj_Rel xs L)
  refine hloop H locs ls ?_ ?_ ⟨rfl, _, hl, fun i v hg hv => ?_⟩ rfl rfl
  · rw [vj_world, ← hzz]; exact hP.1
  · subst hzz; exact hS
  · have hz0 : vj_ad s.heap.size b st 0 = z := by rw [hzz]; rfl
    have hz44 : vj_ad s.heap.size b st 44 = z + 44 := by rw [hzz]; rfl
    have hz76 : vj_ad s.heap.size b st 76 = z + 76 := by rw [hzz]; rfl
    match i, hg with
    | 0, hg =>
      have hg : (Value.ref 90 : Value) = v := hg
      subst hg
      show (0, Value.ref b) ∈ _
      simp
    | 1, hg =>
      have hg : (Value.ref 0 : Value) = v := hg
      subst hg
      show (1, Value.ref (vj_ad s.heap.size b st 0)) ∈ _
      rw [hz0]
      simp
    | 2, hg =>
      have hg : (Value.ref 44 : Value) = v := hg
      subst hg
      show (2, Value.ref (vj_ad s.heap.size b st 44)) ∈ _
      rw [hz44]
      simp
    | 3, hg =>
      have hg : (Value.ref 76 : Value) = v := hg
      subst hg
      show (3, Value.ref (vj_ad s.heap.size b st 76)) ∈ _
      rw [hz76]
      simp
    | 4, hg =>
      have hg : (Value.int (nI 0) : Value) = v := hg
      subst hg
      show (4, Value.int 0) ∈ _
      simp
    | 5, hg => exact absurd hg.symm hv
    | 6, hg => exact absurd hg.symm hv
    | 7, hg => exact absurd hg.symm hv
    | i + 8, hg => exact absurd hg.symm hv
