/-! SOUNDNESS, 3: an instruction -/
theorem av_w_max : Cond.static Lib.Math.max.name ∈ av_tbl ∧ Cond.code Lib.Math.max.name Lib.Math.max.code 2 (some .int) ∈ av_tbl ∧ Cond.initialized "java/lang/Math" ∈ av_tbl := ⟨av_tbl_t (p := 375) (by decide +kernel) (by decide +kernel), av_tbl_t (p := 376) (by decide +kernel) (by decide +kernel), av_tbl_t (p := 9) (by decide +kernel) (by decide +kernel)⟩
theorem av_w_min : Cond.static Lib.Math.min.name ∈ av_tbl ∧ Cond.code Lib.Math.min.name Lib.Math.min.code 2 (some .int) ∈ av_tbl ∧ Cond.initialized "java/lang/Math" ∈ av_tbl := ⟨av_tbl_t (p := 275) (by decide +kernel) (by decide +kernel), av_tbl_t (p := 276) (by decide +kernel) (by decide +kernel), av_tbl_t (p := 9) (by decide +kernel) (by decide +kernel)⟩
theorem av_w_abs : Cond.static Lib.Math.abs.name ∈ av_tbl ∧ Cond.code Lib.Math.abs.name Lib.Math.abs.code 1 (some .int) ∈ av_tbl ∧ Cond.initialized "java/lang/Math" ∈ av_tbl := ⟨av_tbl_t (p := 484) (by decide +kernel) (by decide +kernel), av_tbl_t (p := 485) (by decide +kernel) (by decide +kernel), av_tbl_t (p := 9) (by decide +kernel) (by decide +kernel)⟩
theorem av_lays : ∀ c, c < 8 → ∀ w ∈ u_ws (av_cn c) (av_Tt c) (av_nf c), w ∈ av_tbl := by
  have key : ∀ {ws : List Cond} {ps : List Nat}, (ws = ps.filterMap (fun i => lw_tbl[i]?) ∧ ws.all goodWord = true) → ∀ w ∈ ws, w ∈ av_tbl := by
    intro ws ps h w hw
    have g := List.all_eq_true.mp h.2 w hw
    rw [h.1] at hw
    obtain ⟨i, -, hi⟩ := List.mem_filterMap.mp hw
    exact av_tbl_of hi g
  intro c hc
  match c, hc with
  | 0, _ => exact key av_lays0
  | 1, _ => exact key av_lays1
  | 2, _ => exact key av_lays2
  | 3, _ => exact key av_lays3
  | 4, _ => exact key av_lays4
  | 5, _ => exact key av_lays5
  | 6, _ => exact key av_lays6
  | 7, _ => exact key av_lays7
theorem av_nms : ∀ c, c < 8 → ∀ a, a < av_nf c → ∀ b, b < av_nf c → a ≠ b → (av_Tt c a).2.1 ≠ (av_Tt c b).2.1 := by
  intro c hc
  match c, hc with
  | 0, _ => exact nmX0
  | 1, _ => exact nmX1
  | 2, _ => exact nmX2
  | 3, _ => exact nmX3
  | 4, _ => exact nmX4
  | 5, _ => exact nmX5
  | 6, _ => exact nmX6
  | 7, _ => exact nmX7
theorem av_tys : ∀ c, c < 8 → ∀ k, k < av_nf c → parseFieldDescriptor (av_Tt c k).2.2.1 = some (av_ty c k) := by
  intro c hc
  match c, hc with
  | 0, _ => exact tyX0_ok
  | 1, _ => exact tyX1_ok
  | 2, _ => exact tyX2_ok
  | 3, _ => exact tyX3_ok
  | 4, _ => exact tyX4_ok
  | 5, _ => exact tyX5_ok
  | 6, _ => exact tyX6_ok
  | 7, _ => exact tyX7_ok
theorem av_cls : ∀ c, c < 8 → vwCl[c]? = some (av_cn c, av_Tt c, av_nf c) := by
  intro c hc
  match c, hc with
  | 0, _ => rfl
  | 1, _ => rfl
  | 2, _ => rfl
  | 3, _ => rfl
  | 4, _ => rfl
  | 5, _ => rfl
  | 6, _ => rfl
  | 7, _ => rfl
theorem av_so_id : ∀ w, w < 6 → av_so w = w := by decide
theorem av_cat_map (ad : Nat → Nat) : ∀ (r : List Value), ((r.map (av_c ad)).map fun v => v.category).sum = av_cat r := by
  intro r
  induction r with
  | nil => rfl
  | cons v r ih =>
    simp only [List.map_cons, List.sum_cons, av_c_cat, ih, av_cat]
theorem av_lv_size {ad : Nat → Nat} {nL : Nat} {lv : Array Slot} {ls : List Value} (h : av_lv ad nL lv ls) : lv.size = nL := by
  obtain ⟨-, l, hl, -⟩ := h
  exact hl.1
theorem av_sw_spec {β : Type} {J : Nat → Option β} {b : β} (x : Int32) (d : Nat) : ∀ (sw : List (Int32 × Nat)), av_sw J x d sw = some b → ∃ t, J t = some b ∧ ((∃ k : Nat, sw[k]? = some (x, t)) ∨ ((∀ (k : Nat) (c : Int32) (t : Nat), sw[k]? = some (c, t) → c ≠ x) ∧ t = d)) := by
  intro sw
  induction sw with
  | nil => intro h; exact ⟨d, h, Or.inr ⟨fun k c t z => by simp at z, rfl⟩⟩
  | cons q r ih =>
    intro h
    obtain ⟨c, t⟩ := q
    unfold av_sw at h
    by_cases hc : x = c
    · rw [if_pos hc] at h
      exact ⟨t, h, Or.inl ⟨0, by rw [hc]; rfl⟩⟩
    · rw [if_neg hc] at h
      obtain ⟨t1, h1, h2⟩ := ih h
      refine ⟨t1, h1, ?_⟩
      rcases h2 with ⟨k, hk⟩ | ⟨hn, ht⟩
      · exact Or.inl ⟨k + 1, hk⟩
      · refine Or.inr ⟨fun k c1 t1 z => ?_, ht⟩
        cases k with
        | zero =>
          have : (c, t) = (c1, t1) := Option.some.inj z
          cases this
          exact fun e => hc e.symm
        | succ k => exact hn k c1 t1 z
theorem av_tsw {pc : Nat} {lo hi : Int} {offs : Array Int} {sw : List (Int32 × Nat)} {a : Int32} {t k : Nat} (g2 : hi = lo + (offs.toList.length : Int) - 1) (g3 : sw.map (fun s => s.1.toInt) = (List.range offs.toList.length).map (fun (k : Nat) => lo + (k : Int)))
    (g4 : sw.map (fun s => (s.2 : Int)) = offs.toList.map (fun f => (pc : Int) + f)) (hk : sw[k]? = some (a, t)) : ∃ off : Int, True ∧ True ∧ ¬ a.toInt < lo ∧ ¬ hi < a.toInt ∧ offs[(a.toInt - lo).toNat]? = some off ∧ (pc : Int) + off = (t : Int) := by
  have e1 : (sw.map (fun s => s.1.toInt))[k]? = some a.toInt := by rw [List.getElem?_map, hk]; rfl
  have e2 : (sw.map (fun s => (s.2 : Int)))[k]? = some (t : Int) := by rw [List.getElem?_map, hk]; rfl
  rw [g3, List.getElem?_map] at e1
  rw [g4, List.getElem?_map] at e2
  cases hr : (List.range offs.toList.length)[k]? with
  | none => rw [hr] at e1; cases e1
  | some j =>
    rw [hr] at e1
    have e3 : lo + (j : Int) = a.toInt := Option.some.inj e1
    obtain ⟨h5, h6⟩ := List.getElem?_eq_some_iff.mp hr
    rw [List.length_range] at h5
    rw [List.getElem_range] at h6
    subst h6
    cases ho : offs.toList[k]? with
    | none => rw [ho] at e2; cases e2
    | some off =>
      rw [ho] at e2
      refine ⟨off, trivial, trivial, by omega, by omega, ?_, Option.some.inj e2⟩
      rw [show (a.toInt - lo).toNat = k by omega, ← Array.getElem?_toList]
      exact ho
theorem av_tsw_out {lo hi : Int} {offs : Array Int} {sw : List (Int32 × Nat)} {a : Int32} (g2 : hi = lo + (offs.toList.length : Int) - 1) (g3 : sw.map (fun s => s.1.toInt) = (List.range offs.toList.length).map (fun (k : Nat) => lo + (k : Int)))
    (hn : ∀ (k : Nat) (c : Int32) (t : Nat), sw[k]? = some (c, t) → c ≠ a) : a.toInt < lo ∨ hi < a.toInt := by
  by_cases h : a.toInt < lo ∨ hi < a.toInt
  · exact h
  · exfalso
    have hlen : sw.length = offs.toList.length := by
      have := congrArg List.length g3
      rw [List.length_map, List.length_map, List.length_range] at this
      exact this
    have hk : (a.toInt - lo).toNat < sw.length := by omega
    have e0 := List.getElem?_eq_getElem hk
    have e1 : (sw.map (fun s => s.1.toInt))[(a.toInt - lo).toNat]? = some (sw[(a.toInt - lo).toNat].1.toInt) := by rw [List.getElem?_map, e0]; rfl
    rw [g3, List.getElem?_map, List.getElem?_range (by omega)] at e1
    have e2 : lo + ((a.toInt - lo).toNat : Int) = sw[(a.toInt - lo).toNat].1.toInt := Option.some.inj e1
    refine hn _ sw[(a.toInt - lo).toNat].1 sw[(a.toInt - lo).toNat].2 e0 (Int32.toInt_inj.mp ?_)
    omega
theorem av_lsw {β : Type} {J : Nat → Option β} {b : β} : ∀ (ps : List (Int × Int)) (sw : List (Int32 × Nat)) (a : Int32) (x : Nat) (dd : Int) (pc : Nat), (pc : Int) + dd = (x : Int) → sw.map (fun s => (s.1.toInt, (s.2 : Int))) = ps.map (fun f => (f.1, (pc : Int) + f.2)) → av_sw J a x sw = some b → ∃ t, J t = some b ∧ (pc : Int) + Op.lookupswitch.offset ps dd a.toInt = (t : Int) := by
  intro ps
  induction ps with
  | nil =>
    intro sw a x dd pc hd hm h
    cases sw with
    | nil => exact ⟨x, h, hd⟩
    | cons q r => simp at hm
  | cons q ps ih =>
    intro sw a x dd pc hd hm h
    cases sw with
    | nil => simp at hm
    | cons q1 r =>
      obtain ⟨k1, o1⟩ := q
      obtain ⟨c1, t1⟩ := q1
      rw [List.map_cons, List.map_cons] at hm
      injection hm with e1 e2
      injection e1 with e3 e4
      unfold av_sw at h
      rw [Op.lookupswitch.offset_cons]
      by_cases hc : a = c1
      · rw [if_pos hc] at h
        rw [if_pos (by rw [hc]; exact e3.symm)]
        exact ⟨t1, h, e4.symm⟩
      · rw [if_neg hc] at h
        rw [if_neg (fun z => hc (Int32.toInt_inj.mp (by rw [← z]; exact e3.symm)))]
        exact ih r a x dd pc hd e2 h
theorem av_en_i {ad : Nat → Nat} {cI cJ cZ : ClassId} {f : Nat → Int32} {a : Nat} (h : av_kd a = 8) : av_en ad cI cJ cZ f (av_nth av_shp a) = .inl (cI, av_sz a, .inl f) := by
  unfold av_en
  rw [show (av_nth av_shp a).1 = 8 from h]
  rfl
theorem av_en_l {ad : Nat → Nat} {cI cJ cZ : ClassId} {f : Nat → Int32} {a : Nat} (h : av_kd a = 9) : av_en ad cI cJ cZ f (av_nth av_shp a) = .inl (cJ, av_sz a, .inr (.inl (fun i => av_jn (f (2 * i)) (f (2 * i + 1))))) := by
  unfold av_en
  rw [show (av_nth av_shp a).1 = 9 from h]
  rfl
theorem av_en_z {ad : Nat → Nat} {cI cJ cZ : ClassId} {f : Nat → Int32} {a : Nat} (h : av_kd a = 10) : av_en ad cI cJ cZ f (av_nth av_shp a) = .inl (cZ, av_sz a, .inl f) := by
  unfold av_en
  rw [show (av_nth av_shp a).1 = 10 from h]
  rfl
theorem av_jn_split (v : Int64) : av_jn (av_hi v) (av_lo v) = v := by
  unfold av_jn av_hi av_lo
  have h : v.toUInt64.toNat < 18446744073709551616 := v.toUInt64.toNat_lt
  have e : ∀ n, (Int32.ofNat n).toUInt32.toNat = n % 4294967296 := fun n => UInt32.toNat_ofNat
  rw [e, e, show v.toUInt64.toNat / 4294967296 % 4294967296 * 4294967296 + v.toUInt64.toNat % 4294967296 % 4294967296 = v.toUInt64.toNat by omega]
  show (⟨UInt64.ofNat v.toUInt64.toNat⟩ : Int64) = v
  rw [UInt64.ofNat_toNat]
theorem av_jn_upd (f : Nat → Int32) (k : Nat) (v : Int64) : (fun i => av_jn (upd (upd f (2 * k) (av_hi v)) (2 * k + 1) (av_lo v) (2 * i)) (upd (upd f (2 * k) (av_hi v)) (2 * k + 1) (av_lo v) (2 * i + 1))) = vp_updL (fun i => av_jn (f (2 * i)) (f (2 * i + 1))) k v := by
  funext i
  unfold upd vp_updL
  by_cases e : i = k
  · subst e
    rw [if_neg (by omega), if_pos rfl, if_pos rfl, if_pos rfl]
    exact av_jn_split v
  · rw [if_neg (by omega), if_neg (by omega), if_neg (by omega), if_neg (by omega), if_neg e]
theorem av_ft_lt {w own idx c k pl : Nat} {nest : Bool} (h : av_ft[w]? = some (own, idx, nest, c, k, pl)) : c < 8 ∧ k < av_nf c ∧ (av_Tt c k).1 = av_cn c := by
  have h1 := av_mem_of av_ft_ok h
  unfold av_fchk at h1
  simp only [Bool.and_eq_true, decide_eq_true_eq] at h1
  obtain ⟨⟨⟨-, g2⟩, g3⟩, g4⟩ := h1
  exact ⟨Nat.blt_eq.mp g3, Nat.blt_eq.mp g2, g4⟩
theorem av_pop_spec : ∀ (n : Nat) (acc st as r : List Value), av_pop n acc st = (as, r) → acc.reverse ++ st = as.reverse ++ r := by
  intro n
  induction n with
  | zero => intro acc st as r h; cases h; rfl
  | succ n ih =>
    intro acc st as r h
    cases st with
    | nil => cases h; rfl
    | cons v st =>
      have := ih (v :: acc) st as r h
      rw [← this]
      simp
theorem av_push_map {ad : Nat → Nat} {ret : Option FieldType} {z : Nat} (h : av_rk ret z = true) (r1 : av_R) (r : List Value) : (av_push z r1 r).map (av_c ad) = (av_rv ret r1).toList ++ r.map (av_c ad) := by
  unfold av_rk at h
  split at h
  · rw [of_decide_eq_true h]; rfl
  · rw [Bool.or_eq_true] at h
    rcases h with h | h <;> rw [of_decide_eq_true h] <;> rfl
  · rw [of_decide_eq_true h]; rfl
  · cases h
theorem av_ct_lt {w own idx k n z o pl : Nat} {nest st : Bool} (h : av_ct[w]? = some (own, idx, nest, k, pl, st, n, z, o)) : k < 277 := by
  have h1 := av_mem_of av_ct_ok h
  unfold av_cchk at h1
  dsimp only at h1
  simp only [Bool.and_eq_true] at h1
  exact Nat.blt_eq.mp h1.1.1.1.1.2
theorem av_inb_of {j : Int32} {n : Nat} (h : av_inb j n = true) : ¬ (j < 0 ∨ n ≤ j.toNatClampNeg) := by
  unfold av_inb at h
  simpa using h
theorem av_ins_of {j n : Int32} (h : av_ins j n = true) : ¬ (j < 0 ∨ n ≤ j) := by
  unfold av_ins at h
  simpa using h
theorem av_nz_of {j : Int32} (h : av_nz j = true) : ¬ j = 0 := by
  unfold av_nz at h
  simpa using h
theorem av_nzl_of {j : Int64} (h : av_nzl j = true) : ¬ j = 0 := by
  unfold av_nzl at h
  simpa using h
section AVT
variable {p : Program} {l : Launch} {e : Env} {R : Room} {s : State} {m : MethodId} {args : Array Value} {below : List Frame} {meth : Method} {c : Code} {H : Heap} {locs : List Loc} {cells slots : Nat} {Q : State → Prop}
variable {cc : ByteArray} {pc : Nat} {lv : Array Slot} {rest : List Value}
variable {ad : Nat → Nat} {D : va_G} {cI cJ cZ : ClassId} {A : Nat → Prop} {scr : Nat → Int32} {L : Nat}
theorem av_ldcSW (hexec : p.tables.exec = Jvm.exec) (hb : c.code = cc) {own tx : String} {index q : Nat} (hown : s.vm.findClass own = some m.cls) (hZ : vk_R own index tx q s) (hdg : decode cc pc = .ok (.ldc_w index, 3))
    (k : W p l e R s m args below meth c H locs cells slots Q (F0 m (pc + 3) lv (.ref q :: rest))) : W p l e R s m args below meth c H locs cells slots Q (F0 m pc lv rest) := by
  intro T hT X
  obtain ⟨t, a1, b1⟩ := k T hT X
  exact ⟨t, X.ldcStringW hexec hown (text := tx) (a := q) hZ.1 hZ.2 (g := F0 m pc lv rest) rfl (by rw [hb]; exact hdg) t a1, b1⟩
theorem av_getf (hx : p.tables.exec = Jvm.exec) (hb : c.code = cc) {own idx ci k pl w a : Nat} {nest : Bool} (hown : s.vm.findClass (av_cn own) = some m.cls) (hts : ∀ w ∈ av_tbl, w.before args s = true) (hCx : av_Cx ad D cI cJ cZ A scr L s s.heap) {h : av_M} (hP : va_P D vwCl (av_ws ad cI cJ cZ h) H)
    (hw : av_ft[w]? = some (own, idx, nest, ci, k, pl)) (hk : av_kd a = ci) (hdg : decode cc pc = .ok (.getfield idx, 3))
    (kk : W p l e R s m args below meth c H locs cells slots Q (F0 m (pc + 3) lv (av_fe ad (h a k) (av_rf a k) :: rest))) : W p l e R s m args below meth c H locs cells slots Q (F0 m pc lv (.ref (ad a) :: rest)) := by
  obtain ⟨f1, f2, f3⟩ := av_ft_lt hw
  have hkN := av_kd_lt (a := a) (by omega)
  have hent : (av_ws ad cI cJ cZ h)[a]? = some (ad a, .inr (ci, av_fv ad (h a) (av_nth av_shp a).2.2 0)) := by
    rw [av_ws_get hkN, av_en_obj (by show av_kd a < 8; omega)]
    show some (ad a, Sum.inr (av_kd a, _)) = _
    rw [hk]
  have hlen := av_shp_len a hkN (by omega)
  have hget : (av_fv ad (h a) (av_nth av_shp a).2.2 0)[k]? = some (av_fe ad (h a k) (av_rf a k)) := by
    rw [av_fv_get ad (h a) _ 0 k (by rw [hlen, hk]; exact f2), Nat.zero_add]
    rfl
  have h1 := av_mem_of av_ft_ok hw
  unfold av_fchk at h1
  simp only [Bool.and_eq_true] at h1
  have hwd := h1.1.1.1
  cases nest with
  | false => exact va_get hx hb hts (av_lays ci f1) hown hCx.1 hP a hent (av_cls ci f1) k f2 (hts _ (av_word_of hwd)) (fun x hxx => by rw [f3] at hxx; exact hxx) hget hdg kk
  | true => exact va_getN hx hb hts (av_lays ci f1) hown hCx.1 hP a hent (av_cls ci f1) k f2 (va_Nw.use rfl (hCx.2.1 _ (av_wordN_of hwd))) (fun x hxx => by rw [f3] at hxx; exact hxx) hget hdg kk
theorem av_putf (hx : p.tables.exec = Jvm.exec) (hb : c.code = cc) {own idx ci k pl w a : Nat} {nest : Bool} (hown : s.vm.findClass (av_cn own) = some m.cls) (hts : ∀ w ∈ av_tbl, w.before args s = true) (hCx : av_Cx ad D cI cJ cZ A scr L s s.heap) {h : av_M} (hP : va_P D vwCl (av_ws ad cI cJ cZ h) H) (hD : va_D A (av_ws ad cI cJ cZ h)) (hS : va_S A s.heap H locs)
    (hw : av_ft[w]? = some (own, idx, nest, ci, k, pl)) (hk : av_kd a = ci) (hfin : (av_Tt ci k).2.2.2 = false) (hrf : av_rf a k = 0) (hdg : decode cc pc = .ok (.putfield idx, 3)) {ty : FieldType} {v : Int32} (hty : av_ty ci k = ty) (hn : narrow ty (.int v) = .int v) (hfit : fits ty (.int v) = true)
    (kk : ∀ (H1 : Heap) (locs1 : List Loc), va_P D vwCl (av_ws ad cI cJ cZ (av_u h a k v)) H1 → va_S A s.heap H1 locs1 → W p l e R s m args below meth c H1 locs1 cells slots Q (F0 m (pc + 3) lv rest)) : W p l e R s m args below meth c H locs cells slots Q (F0 m pc lv (.int v :: .ref (ad a) :: rest)) := by
  obtain ⟨f1, f2, f3⟩ := av_ft_lt hw
  have hkN := av_kd_lt (a := a) (by omega)
  have hent : ∀ h : av_M, (av_ws ad cI cJ cZ h)[a]? = some (ad a, .inr (ci, av_fv ad (h a) (av_nth av_shp a).2.2 0)) := by
    intro h
    rw [av_ws_get hkN, av_en_obj (by show av_kd a < 8; omega)]
    show some (ad a, Sum.inr (av_kd a, _)) = _
    rw [hk]
  have hlen := av_shp_len a hkN (by omega)
  have hset : (av_ws ad cI cJ cZ h).set a (ad a, .inr (ci, (av_fv ad (h a) (av_nth av_shp a).2.2 0).set k (.int v))) = av_ws ad cI cJ cZ (av_u h a k v) := by
    rw [av_fv_set ad (h a) v _ 0 k hrf (by rw [hlen, hk]; exact f2), Nat.zero_add, ← av_ws_set (h := h) (h' := av_u h a k v) hkN (fun b hb => av_u_ne hb), av_u_eq, av_en_obj (by show av_kd a < 8; omega)]
    show _ = (av_ws ad cI cJ cZ h).set a (ad a, Sum.inr (av_kd a, _))
    rw [hk]
  have h1 := av_mem_of av_ft_ok hw
  unfold av_fchk at h1
  simp only [Bool.and_eq_true] at h1
  have hwd := h1.1.1.1
  have hd : parseFieldDescriptor (av_Tt ci k).2.2.1 = some ty := by rw [av_tys ci f1 k f2, hty]
  have hl9 : k < (av_fv ad (h a) (av_nth av_shp a).2.2 0).length := by rw [av_fv_len, hlen, hk]; exact f2
  cases nest with
  | false => exact va_put hx hb hts (av_lays ci f1) (av_ty ci) (av_tys ci f1) (av_nms ci f1) hown hCx.1 hP hD hS a (hent h) (av_cls ci f1) k f2 (hts _ (av_word_of hwd)) (fun x hxx => by rw [f3] at hxx; exact hxx) hfin hd hn hfit hl9 hdg (fun H1 locs1 hP1 hD1 hS1 => kk H1 locs1 (by rw [← hset]; exact hP1) hS1)
  | true => exact va_putN hx hb hts (av_lays ci f1) (av_ty ci) (av_tys ci f1) (av_nms ci f1) hown hCx.1 hP hD hS a (hent h) (av_cls ci f1) k f2 (va_Nw.use rfl (hCx.2.1 _ (av_wordN_of hwd))) (fun x hxx => by rw [f3] at hxx; exact hxx) hfin hd hn hfit hl9 hdg (fun H1 locs1 hP1 hD1 hS1 => kk H1 locs1 (by rw [← hset]; exact hP1) hS1)
theorem av_scr (hx : p.tables.exec = Jvm.exec) (hb : c.code = cc) (hCx : av_Cx ad D cI cJ cZ A scr L s s.heap) {h : av_M} (hS : va_S A s.heap H locs) (h1 : h 90 = scr) (h2 : h 91 0 = nI L) {j : Int32} (hin : ¬ (j < 0 ∨ h (90 + 1) 0 ≤ j)) (hdg : decode cc pc = .ok (.iaload, 1))
    (kk : W p l e R s m args below meth c H locs cells slots Q (F0 m (pc + 1) lv (.int (h 90 j.toNatClampNeg) :: rest))) : W p l e R s m args below meth c H locs cells slots Q (F0 m pc lv (.int j :: .ref (ad 90) :: rest)) := by
  obtain ⟨-, -, ⟨x1, x2, x3, x4⟩, -⟩ := hCx
  rw [h1] at kk
  refine va_sld hx hb x1 x2 x3 hS ?_ hdg kk
  rw [show h (90 + 1) 0 = nI L from h2] at hin
  obtain ⟨n, hn, rfl⟩ := nI_of (fun q => hin (Or.inl q))
  refine vp_in_nI ?_ x4
  have h5 : ¬ nI L ≤ nI n := fun q => hin (Or.inr q)
  rw [nI_leI x4 hn] at h5
  omega
theorem av_E_at {s U : State} {H : Heap} {locs : List Loc} {adV : Nat → Nat} (e1 : vk_S 6 [4, 7, 3, 2, 2, 6] av_txt (fun i => ad (92 + i)) adV A s s.heap) (e3 : va_Z "java/lang/String" "COMPACT_STRINGS" "Z" (.int 1) A s s.heap) (e4 : va_Zq "jdk/internal/util/Preconditions" "SIOOBE_FORMATTER" "Ljava/util/function/BiFunction;" A s s.heap) (hS : va_S A s.heap H locs) (hW : s.WarmedH U.vm) (hU : U.heap = H) : sc_E ad adV U U.heap := by
  subst hU
  exact ⟨(vk_S.moved hW.alike (e1.kept hS.2.1)).narrow (fun q h => h.elim), va_Z.narrow (va_Z.moved hW.alike (va_Z.kept e3 hS.2.1)) (fun q h => h.elim), va_Zq.narrow (va_Zq.moved hW.alike (va_Zq.kept e4 hS.2.1)) (fun q h => h.elim)⟩
theorem av_strlen (hx : p.tables.exec = Jvm.exec) (hb : c.code = cc) {nL : Nat} (hml : c.maxLocals = nL) {own idx d : Nat} (hown : s.vm.findClass (av_cn own) = some m.cls) (hts : ∀ w ∈ av_tbl, w.before args s = true) (hCx : av_Cx ad D cI cJ cZ A scr L s s.heap) {h : av_M} (hP : va_P D vwCl (av_ws ad cI cJ cZ h) H) (hS : va_S A s.heap H locs)
    (hRf : d + 5 ≤ R.frames) (hRl0 : 40 * (d + 5) ≤ R.locals) (hc : cells ≤ R.cells) (hs : slots ≤ R.slots) (hsz : lv.size = nL) {a : Nat} (hk : av_kd a = 12) {r : List Value} (hcat : av_cat r ≤ 8) (hlink : (Cond.methodLink (av_cn own) idx (av_py 13)).before args s = true) (hdg : decode cc pc = .ok (.invokevirtual idx, 3))
    (kk : ∀ (H1 : Heap) (locs1 : List Loc), va_P D vwCl (av_ws ad cI cJ cZ h) H1 → va_S A s.heap H1 locs1 → W p l e R s m args below meth c H1 locs1 cells slots Q (F0 m (pc + 3) lv (.int (nI (av_txl a)) :: r.map (av_c ad)))) : W p l e R s m args below meth c H locs cells slots Q (F0 m pc lv (.ref (ad a) :: r.map (av_c ad))) := by
  obtain ⟨-, -, -, adV, e1, -, e3, e4⟩ := hCx
  obtain ⟨i, hi, rfl⟩ := av_kd_12 hk
  refine va_calli (A0 := A) (va_runV (C := RJ0) (As := []) (rest := r.map (av_c ad)) ⟨hx, hb, hml, hown, hts⟩ (sc_length l 0 ad adV i hi) ⟨sc_cb hts sw_len.1 sw_ini.1 ⟨by decide, by decide⟩ (by decide) hlink (by decide) (by omega) (by omega), hts _ sw_len.2.1, hts _ sw_len.2.2⟩ ⟨sc_blind ad adV _, vk_recv e1 hi hS, fun U hU hW => ⟨rfl, av_E_at e1 e3 e4 hS hW hU⟩⟩ rfl rfl hsz rfl (lv_room (by rw [av_cat_map]; exact hcat)) hdg ⟨hc, hs⟩) hS (fun q _ h => h.elim) (fun q h => h.elim) (fun r u t H1 locs1 ht hvm hw hB hz1 hk1 hS1 => ?_)
  subst hw
  exact kk H1 locs1 (fun k q hq => (hP k q hq).kept (hk1 q.1 (hP k q hq).lt (fun z => z))) hS1
theorem av_strchr (hx : p.tables.exec = Jvm.exec) (hb : c.code = cc) {nL : Nat} (hml : c.maxLocals = nL) {own idx d : Nat} (hown : s.vm.findClass (av_cn own) = some m.cls) (hts : ∀ w ∈ av_tbl, w.before args s = true) (hCx : av_Cx ad D cI cJ cZ A scr L s s.heap) {h : av_M} (hP : va_P D vwCl (av_ws ad cI cJ cZ h) H) (hS : va_S A s.heap H locs)
    (hRf : d + 5 ≤ R.frames) (hRl0 : 40 * (d + 5) ≤ R.locals) (hc : cells ≤ R.cells) (hs : slots ≤ R.slots) (hsz : lv.size = nL) {a : Nat} (hk : av_kd a = 12) {j : Int32} (hin : ¬ (j < 0 ∨ av_txl a ≤ j.toNatClampNeg)) {r : List Value} (hcat : av_cat r ≤ 8) (hlink : (Cond.methodLink (av_cn own) idx (av_py 14)).before args s = true) (hdg : decode cc pc = .ok (.invokevirtual idx, 3))
    (kk : ∀ (H1 : Heap) (locs1 : List Loc), va_P D vwCl (av_ws ad cI cJ cZ h) H1 → va_S A s.heap H1 locs1 → W p l e R s m args below meth c H1 locs1 cells slots Q (F0 m (pc + 3) lv (.int (av_txc a j.toNatClampNeg) :: r.map (av_c ad)))) : W p l e R s m args below meth c H locs cells slots Q (F0 m pc lv (.int j :: .ref (ad a) :: r.map (av_c ad))) := by
  obtain ⟨-, -, -, adV, e1, -, e3, e4⟩ := hCx
  obtain ⟨i, hi, rfl⟩ := av_kd_12 hk
  obtain ⟨k, hk2, rfl⟩ := nI_of (fun q => hin (Or.inl q))
  have ek : (nI k).toNatClampNeg = k := nI_clamp hk2
  rw [ek] at kk
  have hki : k < sc_len i := by
    rw [(sc_lenT i hi).1]
    rcases Nat.lt_or_ge k (av_txl (92 + i)) with q | q
    · exact q
    · exact absurd (Or.inr (by rw [ek]; exact q)) hin
  refine va_calli (A0 := A) (va_runV (C := RJ0) (As := [.int (nI k)]) (rest := r.map (av_c ad)) ⟨hx, hb, hml, hown, hts⟩ (sc_charAt l 0 ad adV i k hi hki) ⟨sc_cb (n := 1) hts sw_cha.1 sw_ini.1 ⟨by decide, by decide⟩ (by decide) hlink (by decide) (by omega) (by omega), hts _ sw_cha.2.1, hts _ sw_cha.2.2⟩ ⟨sc_blind ad adV _, vk_recv e1 hi hS, fun U hU hW => ⟨rfl, av_E_at e1 e3 e4 hS hW hU⟩⟩ rfl rfl hsz rfl (lv_room (by rw [av_cat_map]; exact hcat)) hdg ⟨hc, hs⟩) hS (fun q _ h => h.elim) (fun q h => h.elim) (fun r u t H1 locs1 ht hvm hw hB hz1 hk1 hS1 => ?_)
  subst hw
  exact kk H1 locs1 (fun k q hq => (hP k q hq).kept (hk1 q.1 (hP k q hq).lt (fun z => z))) hS1
def av_WA (p : Program) (l : Launch) (e : Env) (R : Room) (s : State) (m : MethodId) (args : Array Value) (below : List Frame) (meth : Method) (c : Code) (cells slots : Nat) (Q : State → Prop) (ad : Nat → Nat) (D : va_G) (cI cJ cZ : ClassId) (A : Nat → Prop) (scr : Nat → Int32) (L nL : Nat) (pc : Nat) (ls st : List Value) (h : av_M) : Prop :=
  ∀ (H : Heap) (locs : List Loc) (lv : Array Slot), va_P D vwCl (av_ws ad cI cJ cZ h) H → va_S A s.heap H locs → av_lv ad nL lv ls → h 90 = scr → h 91 0 = nI L → W p l e R s m args below meth c H locs cells slots Q (F0 m pc lv (st.map (av_c ad)))
set_option maxHeartbeats 40000000 in
set_option maxRecDepth 4000 in
theorem av_sound {β : Type} {E : Nat → List Value → av_M → Option av_R} {rt : av_R → Option β} {N : List Value → List Value → av_M → Option β} {J : Nat → List Value → List Value → av_M → Option β} {q : av_I} {ls st : List Value} {h : av_M} {b : β} {own nL d : Nat} {ret : Option FieldType}
    (hM : ∀ e ∈ av_mt, av_gd e) (hx : p.tables.exec = Jvm.exec) (hb : c.code = cc) (hml : c.maxLocals = nL) (hown : s.vm.findClass (av_cn own) = some m.cls) (hts : ∀ w ∈ av_tbl, w.before args s = true) (hCx : av_Cx ad D cI cJ cZ A scr L s s.heap) (hD : ∀ h : av_M, va_D A (av_ws ad cI cJ cZ h))
    (hRf : d + 5 ≤ R.frames) (hRl0 : 40 * (d + 5) ≤ R.locals) (hc : cells ≤ R.cells) (hs : slots ≤ R.slots)
    (hE : ∀ (k : Nat) (as : List Value) (h : av_M) (r : av_R), k < 277 → E k as h = some r → av_Me ad D cI cJ cZ A scr L l d k as h r)
    (hq : av_chk own cc ret q = true) (h0 : av_stp E rt N J q ls st h = some b)
    (hN : ∀ ls st h, N ls st h = some b → av_WA p l e R s m args below meth c cells slots Q ad D cI cJ cZ A scr L nL (q.1 + q.2.1) ls st h)
    (hJ : ∀ pc ls st h, J pc ls st h = some b → av_WA p l e R s m args below meth c cells slots Q ad D cI cJ cZ A scr L nL pc ls st h)
    (hRi : ∀ (a v : Int32) (h : av_M) (pc : Nat) (lv : Array Slot) (H : Heap) (locs : List Loc) (ty : FieldType), rt (a, 0, h) = some b → decode cc pc = .ok (.ireturn, 1) → ret = some ty → ty ≠ .long → narrow ty (.int v) = .int a → va_P D vwCl (av_ws ad cI cJ cZ h) H → va_S A s.heap H locs → h 90 = scr → h 91 0 = nI L → W p l e R s m args below meth c H locs cells slots Q (F0 m pc lv [.int v]))
    (hRl : ∀ (v : Int64) (h : av_M) (pc : Nat) (lv : Array Slot) (H : Heap) (locs : List Loc), rt (0, v, h) = some b → decode cc pc = .ok (.lreturn, 1) → ret = some .long → va_P D vwCl (av_ws ad cI cJ cZ h) H → va_S A s.heap H locs → h 90 = scr → h 91 0 = nI L → W p l e R s m args below meth c H locs cells slots Q (F0 m pc lv [.long v]))
    (hRv : ∀ (h : av_M) (pc : Nat) (lv : Array Slot) (H : Heap) (locs : List Loc), rt (0, 0, h) = some b → decode cc pc = .ok (.return_, 1) → ret = none → va_P D vwCl (av_ws ad cI cJ cZ h) H → va_S A s.heap H locs → h 90 = scr → h 91 0 = nI L → W p l e R s m args below meth c H locs cells slots Q (F0 m pc lv [])) :
    av_WA p l e R s m args below meth c cells slots Q ad D cI cJ cZ A scr L nL q.1 ls st h := by
  intro H locs lv hP hS hl h1 h2
  obtain ⟨pc, len, i, x, y, z, w, o, v, u, sw⟩ := q
  dsimp only at hN ⊢
  cases i

  case iload n =>
    simp only [av_chk, Bool.and_eq_true, decide_eq_true_eq] at hq
    obtain ⟨hdec, hi⟩ := hq
    dsimp only [av_stp] at h0
    have hlen : len = 2 := Nat.eq_of_beq_eq_true hi
    subst hlen
    split at h0
    · rename_i a hg
      exact lv_iload hx hb hdec (av_lv_get hl hg (fun z => by cases z)) (hN _ _ _ h0 H locs lv hP hS hl h1 h2)
    · cases h0
  case iload_n n =>
    simp only [av_chk, Bool.and_eq_true, decide_eq_true_eq] at hq
    obtain ⟨hdec, hi⟩ := hq
    dsimp only [av_stp] at h0
    have hlen : len = 1 := Nat.eq_of_beq_eq_true hi
    subst hlen
    split at h0
    · rename_i a hg
      exact lv_iload_n hx hb hdec rfl (av_lv_get hl hg (fun z => by cases z)) (hN _ _ _ h0 H locs lv hP hS hl h1 h2)
    · cases h0
  case lload n =>
    simp only [av_chk, Bool.and_eq_true, decide_eq_true_eq] at hq
    obtain ⟨hdec, hi⟩ := hq
    dsimp only [av_stp] at h0
    have hlen : len = 2 := Nat.eq_of_beq_eq_true hi
    subst hlen
    split at h0
    · rename_i a hg
      exact lv_lload hx hb hdec (av_lv_get hl hg (fun z => by cases z)) (hN _ _ _ h0 H locs lv hP hS hl h1 h2)
    · cases h0
  case lload_n n =>
    simp only [av_chk, Bool.and_eq_true, decide_eq_true_eq] at hq
    obtain ⟨hdec, hi⟩ := hq
    dsimp only [av_stp] at h0
    have hlen : len = 1 := Nat.eq_of_beq_eq_true hi
    subst hlen
    split at h0
    · rename_i a hg
      exact lv_lload_n hx hb hdec rfl (av_lv_get hl hg (fun z => by cases z)) (hN _ _ _ h0 H locs lv hP hS hl h1 h2)
    · cases h0
  case aload n =>
    simp only [av_chk, Bool.and_eq_true, decide_eq_true_eq] at hq
    obtain ⟨hdec, hi⟩ := hq
    dsimp only [av_stp] at h0
    have hlen : len = 2 := Nat.eq_of_beq_eq_true hi
    subst hlen
    split at h0
    · rename_i a hg
      exact lv_aload hx hb hdec (av_lv_get hl hg (fun z => by cases z)) (hN _ _ _ h0 H locs lv hP hS hl h1 h2)
    · cases h0
  case aload_n n =>
    simp only [av_chk, Bool.and_eq_true, decide_eq_true_eq] at hq
    obtain ⟨hdec, hi⟩ := hq
    dsimp only [av_stp] at h0
    have hlen : len = 1 := Nat.eq_of_beq_eq_true hi
    subst hlen
    split at h0
    · rename_i a hg
      exact lv_aload_n hx hb hdec rfl (av_lv_get hl hg (fun z => by cases z)) (hN _ _ _ h0 H locs lv hP hS hl h1 h2)
    · cases h0
  case istore n =>
    simp only [av_chk, Bool.and_eq_true, decide_eq_true_eq] at hq
    obtain ⟨hdec, hi⟩ := hq
    dsimp only [av_stp] at h0
    have hlen : len = 2 := Nat.eq_of_beq_eq_true hi
    subst hlen
    split at h0
    · split at h0
      · rename_i hlt
        obtain ⟨hle, lst, hl1, hl2⟩ := hl
        have hlt := Nat.blt_eq.mp hlt
        rw [av_fo_eq] at h0
        refine lv_istore hx hb hdec hl1 (by omega) rfl (fun lv1 hv1 => hN _ _ _ h0 H locs lv1 hP hS ⟨by rw [av_s1_len]; exact hle, _, hv1, av_lv_s1 hl2 hlt⟩ h1 h2)
      · cases h0
    · cases h0
  case istore_n n =>
    simp only [av_chk, Bool.and_eq_true, decide_eq_true_eq] at hq
    obtain ⟨hdec, hi⟩ := hq
    dsimp only [av_stp] at h0
    have hlen : len = 1 := Nat.eq_of_beq_eq_true hi
    subst hlen
    split at h0
    · split at h0
      · rename_i hlt
        obtain ⟨hle, lst, hl1, hl2⟩ := hl
        have hlt := Nat.blt_eq.mp hlt
        rw [av_fo_eq] at h0
        refine lv_istore_n hx hb hdec rfl hl1 (by omega) rfl (fun lv1 hv1 => hN _ _ _ h0 H locs lv1 hP hS ⟨by rw [av_s1_len]; exact hle, _, hv1, av_lv_s1 hl2 hlt⟩ h1 h2)
      · cases h0
    · cases h0
  case lstore n =>
    simp only [av_chk, Bool.and_eq_true, decide_eq_true_eq] at hq
    obtain ⟨hdec, hi⟩ := hq
    dsimp only [av_stp] at h0
    have hlen : len = 2 := Nat.eq_of_beq_eq_true hi
    subst hlen
    split at h0
    · split at h0
      · rename_i hlt
        obtain ⟨hle, lst, hl1, hl2⟩ := hl
        have hlt := Nat.blt_eq.mp hlt
        rw [av_fo_eq] at h0
        refine lv_lstore hx hb hdec hl1 (by omega) rfl (fun lv1 hv1 => hN _ _ _ h0 H locs lv1 hP hS ⟨by rw [av_s2_len]; exact hle, _, hv1, av_lv_s2 hl2 hlt⟩ h1 h2)
      · cases h0
    · cases h0
  case lstore_n n =>
    simp only [av_chk, Bool.and_eq_true, decide_eq_true_eq] at hq
    obtain ⟨hdec, hi⟩ := hq
    dsimp only [av_stp] at h0
    have hlen : len = 1 := Nat.eq_of_beq_eq_true hi
    subst hlen
    split at h0
    · split at h0
      · rename_i hlt
        obtain ⟨hle, lst, hl1, hl2⟩ := hl
        have hlt := Nat.blt_eq.mp hlt
        rw [av_fo_eq] at h0
        refine lv_lstore_n hx hb hdec rfl hl1 (by omega) rfl (fun lv1 hv1 => hN _ _ _ h0 H locs lv1 hP hS ⟨by rw [av_s2_len]; exact hle, _, hv1, av_lv_s2 hl2 hlt⟩ h1 h2)
      · cases h0
    · cases h0
  case iinc n cst =>
    simp only [av_chk, Bool.and_eq_true, decide_eq_true_eq] at hq
    obtain ⟨hdec, hi⟩ := hq
    dsimp only [av_stp] at h0
    obtain ⟨hi, hv⟩ := hi
    have hlen : len = 3 := Nat.eq_of_beq_eq_true hi
    subst hlen
    split at h0
    · rename_i a hg
      split at h0
      · rename_i hlt
        obtain ⟨hle, lst, hl1, hl2⟩ := hl
        have hlt := Nat.blt_eq.mp hlt
        rw [av_fo_eq] at h0
        obtain ⟨k, hk⟩ := List.getElem?_of_mem (hl2 n _ hg (fun z => by cases z))
        refine lv_iinc hx hb hdec hl1 hk (by rw [hv]) (by omega) rfl (fun lv1 hv1 => hN _ _ _ h0 H locs lv1 hP hS ⟨by rw [av_s1_len]; exact hle, _, hv1, av_lv_s1 hl2 hlt⟩ h1 h2)
      · cases h0
    · cases h0
  case iconst k =>
    simp only [av_chk, Bool.and_eq_true, decide_eq_true_eq] at hq
    obtain ⟨hdec, hi⟩ := hq
    dsimp only [av_stp] at h0
    obtain ⟨hi, hv⟩ := hi
    have hlen : len = 1 := Nat.eq_of_beq_eq_true hi
    subst hlen
    exact lv_iconst hx hb hdec hv (hN _ _ _ h0 H locs lv hP hS hl h1 h2)
  case bipush k =>
    simp only [av_chk, Bool.and_eq_true, decide_eq_true_eq] at hq
    obtain ⟨hdec, hi⟩ := hq
    dsimp only [av_stp] at h0
    obtain ⟨hi, hv⟩ := hi
    have hlen : len = 2 := Nat.eq_of_beq_eq_true hi
    subst hlen
    exact lv_bipush hx hb hdec hv (hN _ _ _ h0 H locs lv hP hS hl h1 h2)
  case sipush k =>
    simp only [av_chk, Bool.and_eq_true, decide_eq_true_eq] at hq
    obtain ⟨hdec, hi⟩ := hq
    dsimp only [av_stp] at h0
    obtain ⟨hi, hv⟩ := hi
    have hlen : len = 3 := Nat.eq_of_beq_eq_true hi
    subst hlen
    exact lv_sipush hx hb hdec hv (hN _ _ _ h0 H locs lv hP hS hl h1 h2)
  case lconst k =>
    simp only [av_chk, Bool.and_eq_true, decide_eq_true_eq] at hq
    obtain ⟨hdec, hi⟩ := hq
    dsimp only [av_stp] at h0
    obtain ⟨hi, hv⟩ := hi
    have hlen : len = 1 := Nat.eq_of_beq_eq_true hi
    subst hlen
    exact lv_lconst hx hb hdec hv (hN _ _ _ h0 H locs lv hP hS hl h1 h2)
  case ldc idx =>
    simp only [av_chk, Bool.and_eq_true, decide_eq_true_eq] at hq
    obtain ⟨hdec, hi⟩ := hq
    dsimp only [av_stp] at h0
    obtain ⟨hi, hv⟩ := hi
    have hlen : len = 2 := Nat.eq_of_beq_eq_true hi
    subst hlen
    split at h0
    · split at hv
      · split at hv
        · rename_i hw
          simp only [Bool.and_eq_true, decide_eq_true_eq] at hv
          obtain ⟨⟨g1, g2⟩, rfl⟩ := hv
          have g1 := Nat.eq_of_beq_eq_true g1
          have g2 := Nat.eq_of_beq_eq_true g2
          subst g1 g2
          exact lv_ldc hx hb hown (hts _ (av_word_of (av_mem_of av_kt_ok hw))) hdec (hN _ _ _ h0 H locs lv hP hS hl h1 h2)
        · cases hv
      · rename_i hz; exact absurd rfl hz
    · rename_i hz
      split at hv
      · exact absurd rfl hz
      · simp only [Bool.and_eq_true, decide_eq_true_eq] at hv
        obtain ⟨⟨⟨g1, g2⟩, g3⟩, g4⟩ := hv
        have g1 := Nat.eq_of_beq_eq_true g1
        have g4 := Nat.eq_of_beq_eq_true g4
        have g2 := Nat.blt_eq.mp g2
        subst g1
        have hS2 := hCx.2.2.2
        obtain ⟨adV, -, hR, -⟩ := hS2
        have hR := hR w g2
        rw [show av_sx.getD w 0 = idx by rw [List.getD_eq_getElem?_getD, g3]; rfl] at hR
        rw [show 92 + w = x by rw [g4]; congr 1; exact (av_so_id w g2).symm] at hR
        exact va_ldcS hx hb hown hR hdec (hN _ _ _ h0 H locs lv hP hS hl h1 h2)
  case ldc_w idx =>
    simp only [av_chk, Bool.and_eq_true, decide_eq_true_eq] at hq
    obtain ⟨hdec, hi⟩ := hq
    dsimp only [av_stp] at h0
    obtain ⟨hi, hv⟩ := hi
    have hlen : len = 3 := Nat.eq_of_beq_eq_true hi
    subst hlen
    split at h0
    · split at hv
      · split at hv
        · rename_i hw
          simp only [Bool.and_eq_true, decide_eq_true_eq] at hv
          obtain ⟨⟨g1, g2⟩, rfl⟩ := hv
          have g1 := Nat.eq_of_beq_eq_true g1
          have g2 := Nat.eq_of_beq_eq_true g2
          subst g1 g2
          exact lv_ldcw hx hb hown (hts _ (av_word_of (av_mem_of av_kt_ok hw))) hdec (hN _ _ _ h0 H locs lv hP hS hl h1 h2)
        · cases hv
      · rename_i hz; exact absurd rfl hz
    · rename_i hz
      split at hv
      · exact absurd rfl hz
      · simp only [Bool.and_eq_true, decide_eq_true_eq] at hv
        obtain ⟨⟨⟨g1, g2⟩, g3⟩, g4⟩ := hv
        have g1 := Nat.eq_of_beq_eq_true g1
        have g4 := Nat.eq_of_beq_eq_true g4
        have g2 := Nat.blt_eq.mp g2
        subst g1
        have hS2 := hCx.2.2.2
        obtain ⟨adV, -, hR, -⟩ := hS2
        have hR := hR w g2
        rw [show av_sx.getD w 0 = idx by rw [List.getD_eq_getElem?_getD, g3]; rfl] at hR
        rw [show 92 + w = x by rw [g4]; congr 1; exact (av_so_id w g2).symm] at hR
        exact av_ldcSW hx hb hown hR hdec (hN _ _ _ h0 H locs lv hP hS hl h1 h2)
  case ldc2_w idx =>
    simp only [av_chk, Bool.and_eq_true, decide_eq_true_eq] at hq
    obtain ⟨hdec, hi⟩ := hq
    dsimp only [av_stp] at h0
    obtain ⟨hi, hv⟩ := hi
    have hlen : len = 3 := Nat.eq_of_beq_eq_true hi
    subst hlen
    split at hv
    · rename_i hw
      simp only [Bool.and_eq_true, decide_eq_true_eq] at hv
      obtain ⟨⟨g1, g2⟩, rfl⟩ := hv
      have g1 := Nat.eq_of_beq_eq_true g1
      have g2 := Nat.eq_of_beq_eq_true g2
      subst g1 g2
      exact lv_ldc2 hx hb hown (hts _ (av_word_of (av_mem_of av_lt_ok hw))) hdec (hN _ _ _ h0 H locs lv hP hS hl h1 h2)
    · cases hv
  case iadd =>
    simp only [av_chk, Bool.and_eq_true, decide_eq_true_eq] at hq
    obtain ⟨hdec, hi⟩ := hq
    dsimp only [av_stp] at h0
    have hlen : len = 1 := Nat.eq_of_beq_eq_true hi
    subst hlen
    split at h0
    · exact lv_iadd hx hb hdec (hN _ _ _ h0 H locs lv hP hS hl h1 h2)
    · cases h0
  case isub =>
    simp only [av_chk, Bool.and_eq_true, decide_eq_true_eq] at hq
    obtain ⟨hdec, hi⟩ := hq
    dsimp only [av_stp] at h0
    have hlen : len = 1 := Nat.eq_of_beq_eq_true hi
    subst hlen
    split at h0
    · exact lv_isub hx hb hdec (hN _ _ _ h0 H locs lv hP hS hl h1 h2)
    · cases h0
  case imul =>
    simp only [av_chk, Bool.and_eq_true, decide_eq_true_eq] at hq
    obtain ⟨hdec, hi⟩ := hq
    dsimp only [av_stp] at h0
    have hlen : len = 1 := Nat.eq_of_beq_eq_true hi
    subst hlen
    split at h0
    · exact lv_imul hx hb hdec (hN _ _ _ h0 H locs lv hP hS hl h1 h2)
    · cases h0
  case iand =>
    simp only [av_chk, Bool.and_eq_true, decide_eq_true_eq] at hq
    obtain ⟨hdec, hi⟩ := hq
    dsimp only [av_stp] at h0
    have hlen : len = 1 := Nat.eq_of_beq_eq_true hi
    subst hlen
    split at h0
    · exact lv_iand hx hb hdec (hN _ _ _ h0 H locs lv hP hS hl h1 h2)
    · cases h0
  case ior =>
    simp only [av_chk, Bool.and_eq_true, decide_eq_true_eq] at hq
    obtain ⟨hdec, hi⟩ := hq
    dsimp only [av_stp] at h0
    have hlen : len = 1 := Nat.eq_of_beq_eq_true hi
    subst hlen
    split at h0
    · exact lv_ior hx hb hdec (hN _ _ _ h0 H locs lv hP hS hl h1 h2)
    · cases h0
  case ixor =>
    simp only [av_chk, Bool.and_eq_true, decide_eq_true_eq] at hq
    obtain ⟨hdec, hi⟩ := hq
    dsimp only [av_stp] at h0
    have hlen : len = 1 := Nat.eq_of_beq_eq_true hi
    subst hlen
    split at h0
    · exact lv_ixor hx hb hdec (hN _ _ _ h0 H locs lv hP hS hl h1 h2)
    · cases h0
  case ishl =>
    simp only [av_chk, Bool.and_eq_true, decide_eq_true_eq] at hq
    obtain ⟨hdec, hi⟩ := hq
    dsimp only [av_stp] at h0
    have hlen : len = 1 := Nat.eq_of_beq_eq_true hi
    subst hlen
    split at h0
    · exact lv_ishl hx hb hdec (hN _ _ _ h0 H locs lv hP hS hl h1 h2)
    · cases h0
  case ishr =>
    simp only [av_chk, Bool.and_eq_true, decide_eq_true_eq] at hq
    obtain ⟨hdec, hi⟩ := hq
    dsimp only [av_stp] at h0
    have hlen : len = 1 := Nat.eq_of_beq_eq_true hi
    subst hlen
    split at h0
    · exact lv_ishr hx hb hdec (hN _ _ _ h0 H locs lv hP hS hl h1 h2)
    · cases h0
  case ladd =>
    simp only [av_chk, Bool.and_eq_true, decide_eq_true_eq] at hq
    obtain ⟨hdec, hi⟩ := hq
    dsimp only [av_stp] at h0
    have hlen : len = 1 := Nat.eq_of_beq_eq_true hi
    subst hlen
    split at h0
    · exact lv_ladd hx hb hdec (hN _ _ _ h0 H locs lv hP hS hl h1 h2)
    · cases h0
  case lsub =>
    simp only [av_chk, Bool.and_eq_true, decide_eq_true_eq] at hq
    obtain ⟨hdec, hi⟩ := hq
    dsimp only [av_stp] at h0
    have hlen : len = 1 := Nat.eq_of_beq_eq_true hi
    subst hlen
    split at h0
    · exact lv_lsub hx hb hdec (hN _ _ _ h0 H locs lv hP hS hl h1 h2)
    · cases h0
  case lmul =>
    simp only [av_chk, Bool.and_eq_true, decide_eq_true_eq] at hq
    obtain ⟨hdec, hi⟩ := hq
    dsimp only [av_stp] at h0
    have hlen : len = 1 := Nat.eq_of_beq_eq_true hi
    subst hlen
    split at h0
    · exact lv_lmul hx hb hdec (hN _ _ _ h0 H locs lv hP hS hl h1 h2)
    · cases h0
  case land =>
    simp only [av_chk, Bool.and_eq_true, decide_eq_true_eq] at hq
    obtain ⟨hdec, hi⟩ := hq
    dsimp only [av_stp] at h0
    have hlen : len = 1 := Nat.eq_of_beq_eq_true hi
    subst hlen
    split at h0
    · exact lv_land hx hb hdec (hN _ _ _ h0 H locs lv hP hS hl h1 h2)
    · cases h0
  case lor =>
    simp only [av_chk, Bool.and_eq_true, decide_eq_true_eq] at hq
    obtain ⟨hdec, hi⟩ := hq
    dsimp only [av_stp] at h0
    have hlen : len = 1 := Nat.eq_of_beq_eq_true hi
    subst hlen
    split at h0
    · exact lv_lor hx hb hdec (hN _ _ _ h0 H locs lv hP hS hl h1 h2)
    · cases h0
  case iushr =>
    simp only [av_chk, Bool.and_eq_true, decide_eq_true_eq] at hq
    obtain ⟨hdec, hi⟩ := hq
    dsimp only [av_stp] at h0
    have hlen : len = 1 := Nat.eq_of_beq_eq_true hi
    subst hlen
    split at h0
    · exact lv_iushr hx hb hdec rfl (hN _ _ _ h0 H locs lv hP hS hl h1 h2)
    · cases h0
  case lshl =>
    simp only [av_chk, Bool.and_eq_true, decide_eq_true_eq] at hq
    obtain ⟨hdec, hi⟩ := hq
    dsimp only [av_stp] at h0
    have hlen : len = 1 := Nat.eq_of_beq_eq_true hi
    subst hlen
    split at h0
    · exact lv_lshl hx hb hdec rfl (hN _ _ _ h0 H locs lv hP hS hl h1 h2)
    · cases h0
  case lushr =>
    simp only [av_chk, Bool.and_eq_true, decide_eq_true_eq] at hq
    obtain ⟨hdec, hi⟩ := hq
    dsimp only [av_stp] at h0
    have hlen : len = 1 := Nat.eq_of_beq_eq_true hi
    subst hlen
    split at h0
    · exact lv_lushr hx hb hdec rfl (hN _ _ _ h0 H locs lv hP hS hl h1 h2)
    · cases h0
  case i2l =>
    simp only [av_chk, Bool.and_eq_true, decide_eq_true_eq] at hq
    obtain ⟨hdec, hi⟩ := hq
    dsimp only [av_stp] at h0
    have hlen : len = 1 := Nat.eq_of_beq_eq_true hi
    subst hlen
    split at h0
    · exact lv_i2l hx hb hdec rfl (hN _ _ _ h0 H locs lv hP hS hl h1 h2)
    · cases h0
  case l2i =>
    simp only [av_chk, Bool.and_eq_true, decide_eq_true_eq] at hq
    obtain ⟨hdec, hi⟩ := hq
    dsimp only [av_stp] at h0
    have hlen : len = 1 := Nat.eq_of_beq_eq_true hi
    subst hlen
    split at h0
    · exact lv_l2i hx hb hdec rfl (hN _ _ _ h0 H locs lv hP hS hl h1 h2)
    · cases h0
  case i2b =>
    simp only [av_chk, Bool.and_eq_true, decide_eq_true_eq] at hq
    obtain ⟨hdec, hi⟩ := hq
    dsimp only [av_stp] at h0
    have hlen : len = 1 := Nat.eq_of_beq_eq_true hi
    subst hlen
    split at h0
    · exact lv_i2b hx hb hdec rfl (hN _ _ _ h0 H locs lv hP hS hl h1 h2)
    · cases h0
  case i2s =>
    simp only [av_chk, Bool.and_eq_true, decide_eq_true_eq] at hq
    obtain ⟨hdec, hi⟩ := hq
    dsimp only [av_stp] at h0
    have hlen : len = 1 := Nat.eq_of_beq_eq_true hi
    subst hlen
    split at h0
    · exact lv_i2s hx hb hdec rfl (hN _ _ _ h0 H locs lv hP hS hl h1 h2)
    · cases h0
  case ineg =>
    simp only [av_chk, Bool.and_eq_true, decide_eq_true_eq] at hq
    obtain ⟨hdec, hi⟩ := hq
    dsimp only [av_stp] at h0
    have hlen : len = 1 := Nat.eq_of_beq_eq_true hi
    subst hlen
    split at h0
    · exact lv_ineg hx hb hdec (hN _ _ _ h0 H locs lv hP hS hl h1 h2)
    · cases h0
  case lcmp =>
    simp only [av_chk, Bool.and_eq_true, decide_eq_true_eq] at hq
    obtain ⟨hdec, hi⟩ := hq
    dsimp only [av_stp] at h0
    have hlen : len = 1 := Nat.eq_of_beq_eq_true hi
    subst hlen
    split at h0
    · exact W.lcmp hx hb hdec (hN _ _ _ h0 H locs lv hP hS hl h1 h2)
    · cases h0
  case idiv =>
    simp only [av_chk, Bool.and_eq_true, decide_eq_true_eq] at hq
    obtain ⟨hdec, hi⟩ := hq
    dsimp only [av_stp] at h0
    have hlen : len = 1 := Nat.eq_of_beq_eq_true hi
    subst hlen
    split at h0
    · rename_i bb aa r
      cases hz : av_nz bb with
      | false => rw [hz] at h0; cases h0
      | true =>
        rw [hz] at h0
        exact lv_idiv hx hb hdec (av_nz_of hz) (hN _ _ _ h0 H locs lv hP hS hl h1 h2)
    · cases h0
  case irem =>
    simp only [av_chk, Bool.and_eq_true, decide_eq_true_eq] at hq
    obtain ⟨hdec, hi⟩ := hq
    dsimp only [av_stp] at h0
    have hlen : len = 1 := Nat.eq_of_beq_eq_true hi
    subst hlen
    split at h0
    · rename_i bb aa r
      cases hz : av_nz bb with
      | false => rw [hz] at h0; cases h0
      | true =>
        rw [hz] at h0
        exact lv_irem hx hb hdec (av_nz_of hz) (hN _ _ _ h0 H locs lv hP hS hl h1 h2)
    · cases h0
  case ldiv =>
    simp only [av_chk, Bool.and_eq_true, decide_eq_true_eq] at hq
    obtain ⟨hdec, hi⟩ := hq
    dsimp only [av_stp] at h0
    have hlen : len = 1 := Nat.eq_of_beq_eq_true hi
    subst hlen
    split at h0
    · rename_i bb aa r
      cases hz : av_nzl bb with
      | false => rw [hz] at h0; cases h0
      | true =>
        rw [hz] at h0
        exact lv_ldiv hx hb hdec (av_nzl_of hz) (hN _ _ _ h0 H locs lv hP hS hl h1 h2)
    · cases h0
  case lrem =>
    simp only [av_chk, Bool.and_eq_true, decide_eq_true_eq] at hq
    obtain ⟨hdec, hi⟩ := hq
    dsimp only [av_stp] at h0
    have hlen : len = 1 := Nat.eq_of_beq_eq_true hi
    subst hlen
    split at h0
    · rename_i bb aa r
      cases hz : av_nzl bb with
      | false => rw [hz] at h0; cases h0
      | true =>
        rw [hz] at h0
        exact lv_lrem hx hb hdec (av_nzl_of hz) (hN _ _ _ h0 H locs lv hP hS hl h1 h2)
    · cases h0
  case dup =>
    simp only [av_chk, Bool.and_eq_true, decide_eq_true_eq] at hq
    obtain ⟨hdec, hi⟩ := hq
    dsimp only [av_stp] at h0
    have hlen : len = 1 := Nat.eq_of_beq_eq_true hi
    subst hlen
    split at h0
    · split at h0
      · rename_i hc
        exact lv_dup hx hb hdec (by rw [av_c_cat]; exact Nat.eq_of_beq_eq_true hc) (hN _ _ _ h0 H locs lv hP hS hl h1 h2)
      · cases h0
    · cases h0
  case pop =>
    simp only [av_chk, Bool.and_eq_true, decide_eq_true_eq] at hq
    obtain ⟨hdec, hi⟩ := hq
    dsimp only [av_stp] at h0
    have hlen : len = 1 := Nat.eq_of_beq_eq_true hi
    subst hlen
    split at h0
    · split at h0
      · rename_i hc
        exact lv_pop hx hb hdec (by rw [av_c_cat]; exact Nat.eq_of_beq_eq_true hc) (hN _ _ _ h0 H locs lv hP hS hl h1 h2)
      · cases h0
    · cases h0
  case dup2 =>
    simp only [av_chk, Bool.and_eq_true, decide_eq_true_eq] at hq
    obtain ⟨hdec, hi⟩ := hq
    dsimp only [av_stp] at h0
    have hlen : len = 1 := Nat.eq_of_beq_eq_true hi
    subst hlen
    split at h0
    · rename_i va vb r
      split at h0
      · rename_i hc
        have hc := Nat.eq_of_beq_eq_true hc
        have c1 := lv_cat va
        have c2 := lv_cat vb
        exact lv_dup2_11 hx hb hdec (by rw [av_c_cat]; omega) (by rw [av_c_cat]; omega) (hN _ _ _ h0 H locs lv hP hS hl h1 h2)
      · cases h0
    · cases h0
  case ifCond cond off =>
    cases cond
    case eq =>
      simp only [av_chk, Bool.and_eq_true, decide_eq_true_eq] at hq
      obtain ⟨hdec, hi, hv⟩ := hq
      dsimp only [av_stp] at h0
      have hlen : len = 3 := Nat.eq_of_beq_eq_true hi
      subst hlen
      split at h0
      · exact lv_if_eq hx hb hdec hv (fun hc => (hJ _ _ _ _ (by first | (rw [if_pos hc] at h0; exact h0) | (rw [if_neg hc] at h0; exact h0)) H locs lv hP hS hl h1 h2)) (fun hc => (hN _ _ _ (by first | (rw [if_pos hc] at h0; exact h0) | (rw [if_neg hc] at h0; exact h0)) H locs lv hP hS hl h1 h2))
      · cases h0
    case ne =>
      simp only [av_chk, Bool.and_eq_true, decide_eq_true_eq] at hq
      obtain ⟨hdec, hi, hv⟩ := hq
      dsimp only [av_stp] at h0
      have hlen : len = 3 := Nat.eq_of_beq_eq_true hi
      subst hlen
      split at h0
      · exact lv_if_ne hx hb hdec hv (fun hc => (hJ _ _ _ _ (by first | (rw [if_pos hc] at h0; exact h0) | (rw [if_neg hc] at h0; exact h0)) H locs lv hP hS hl h1 h2)) (fun hc => (hN _ _ _ (by first | (rw [if_pos hc] at h0; exact h0) | (rw [if_neg hc] at h0; exact h0)) H locs lv hP hS hl h1 h2))
      · cases h0
    case lt =>
      simp only [av_chk, Bool.and_eq_true, decide_eq_true_eq] at hq
      obtain ⟨hdec, hi, hv⟩ := hq
      dsimp only [av_stp] at h0
      have hlen : len = 3 := Nat.eq_of_beq_eq_true hi
      subst hlen
      split at h0
      · exact lv_if_lt hx hb hdec hv (fun hc => (hJ _ _ _ _ (by first | (rw [if_pos hc] at h0; exact h0) | (rw [if_neg hc] at h0; exact h0)) H locs lv hP hS hl h1 h2)) (fun hc => (hN _ _ _ (by first | (rw [if_pos hc] at h0; exact h0) | (rw [if_neg hc] at h0; exact h0)) H locs lv hP hS hl h1 h2))
      · cases h0
    case ge =>
      simp only [av_chk, Bool.and_eq_true, decide_eq_true_eq] at hq
      obtain ⟨hdec, hi, hv⟩ := hq
      dsimp only [av_stp] at h0
      have hlen : len = 3 := Nat.eq_of_beq_eq_true hi
      subst hlen
      split at h0
      · exact lv_if_ge hx hb hdec hv (fun hc => (hJ _ _ _ _ (by first | (rw [if_pos hc] at h0; exact h0) | (rw [if_neg hc] at h0; exact h0)) H locs lv hP hS hl h1 h2)) (fun hc => (hN _ _ _ (by first | (rw [if_pos hc] at h0; exact h0) | (rw [if_neg hc] at h0; exact h0)) H locs lv hP hS hl h1 h2))
      · cases h0
    case gt =>
      simp only [av_chk, Bool.and_eq_true, decide_eq_true_eq] at hq
      obtain ⟨hdec, hi, hv⟩ := hq
      dsimp only [av_stp] at h0
      have hlen : len = 3 := Nat.eq_of_beq_eq_true hi
      subst hlen
      split at h0
      · exact lv_if_gt hx hb hdec hv (fun hc => (hJ _ _ _ _ (by first | (rw [if_pos hc] at h0; exact h0) | (rw [if_neg hc] at h0; exact h0)) H locs lv hP hS hl h1 h2)) (fun hc => (hN _ _ _ (by first | (rw [if_pos hc] at h0; exact h0) | (rw [if_neg hc] at h0; exact h0)) H locs lv hP hS hl h1 h2))
      · cases h0
    case le =>
      simp only [av_chk, Bool.and_eq_true, decide_eq_true_eq] at hq
      obtain ⟨hdec, hi, hv⟩ := hq
      dsimp only [av_stp] at h0
      have hlen : len = 3 := Nat.eq_of_beq_eq_true hi
      subst hlen
      split at h0
      · exact lv_if_le hx hb hdec hv (fun hc => (hJ _ _ _ _ (by first | (rw [if_pos hc] at h0; exact h0) | (rw [if_neg hc] at h0; exact h0)) H locs lv hP hS hl h1 h2)) (fun hc => (hN _ _ _ (by first | (rw [if_pos hc] at h0; exact h0) | (rw [if_neg hc] at h0; exact h0)) H locs lv hP hS hl h1 h2))
      · cases h0
  case if_icmp cond off =>
    cases cond
    case eq =>
      simp only [av_chk, Bool.and_eq_true, decide_eq_true_eq] at hq
      obtain ⟨hdec, hi, hv⟩ := hq
      dsimp only [av_stp] at h0
      have hlen : len = 3 := Nat.eq_of_beq_eq_true hi
      subst hlen
      split at h0
      · exact lv_icmp_eq hx hb hdec hv (fun hc => (hJ _ _ _ _ (by first | (rw [if_pos hc] at h0; exact h0) | (rw [if_neg hc] at h0; exact h0)) H locs lv hP hS hl h1 h2)) (fun hc => (hN _ _ _ (by first | (rw [if_pos hc] at h0; exact h0) | (rw [if_neg hc] at h0; exact h0)) H locs lv hP hS hl h1 h2))
      · cases h0
    case ne =>
      simp only [av_chk, Bool.and_eq_true, decide_eq_true_eq] at hq
      obtain ⟨hdec, hi, hv⟩ := hq
      dsimp only [av_stp] at h0
      have hlen : len = 3 := Nat.eq_of_beq_eq_true hi
      subst hlen
      split at h0
      · exact lv_icmp_ne hx hb hdec hv (fun hc => (hJ _ _ _ _ (by first | (rw [if_pos hc] at h0; exact h0) | (rw [if_neg hc] at h0; exact h0)) H locs lv hP hS hl h1 h2)) (fun hc => (hN _ _ _ (by first | (rw [if_pos hc] at h0; exact h0) | (rw [if_neg hc] at h0; exact h0)) H locs lv hP hS hl h1 h2))
      · cases h0
    case lt =>
      simp only [av_chk, Bool.and_eq_true, decide_eq_true_eq] at hq
      obtain ⟨hdec, hi, hv⟩ := hq
      dsimp only [av_stp] at h0
      have hlen : len = 3 := Nat.eq_of_beq_eq_true hi
      subst hlen
      split at h0
      · exact lv_icmp_lt hx hb hdec hv (fun hc => (hJ _ _ _ _ (by first | (rw [if_pos hc] at h0; exact h0) | (rw [if_neg hc] at h0; exact h0)) H locs lv hP hS hl h1 h2)) (fun hc => (hN _ _ _ (by first | (rw [if_pos hc] at h0; exact h0) | (rw [if_neg hc] at h0; exact h0)) H locs lv hP hS hl h1 h2))
      · cases h0
    case ge =>
      simp only [av_chk, Bool.and_eq_true, decide_eq_true_eq] at hq
      obtain ⟨hdec, hi, hv⟩ := hq
      dsimp only [av_stp] at h0
      have hlen : len = 3 := Nat.eq_of_beq_eq_true hi
      subst hlen
      split at h0
      · exact lv_icmp_ge hx hb hdec hv (fun hc => (hJ _ _ _ _ (by first | (rw [if_pos hc] at h0; exact h0) | (rw [if_neg hc] at h0; exact h0)) H locs lv hP hS hl h1 h2)) (fun hc => (hN _ _ _ (by first | (rw [if_pos hc] at h0; exact h0) | (rw [if_neg hc] at h0; exact h0)) H locs lv hP hS hl h1 h2))
      · cases h0
    case gt =>
      simp only [av_chk, Bool.and_eq_true, decide_eq_true_eq] at hq
      obtain ⟨hdec, hi, hv⟩ := hq
      dsimp only [av_stp] at h0
      have hlen : len = 3 := Nat.eq_of_beq_eq_true hi
      subst hlen
      split at h0
      · exact lv_icmp_gt hx hb hdec hv (fun hc => (hJ _ _ _ _ (by first | (rw [if_pos hc] at h0; exact h0) | (rw [if_neg hc] at h0; exact h0)) H locs lv hP hS hl h1 h2)) (fun hc => (hN _ _ _ (by first | (rw [if_pos hc] at h0; exact h0) | (rw [if_neg hc] at h0; exact h0)) H locs lv hP hS hl h1 h2))
      · cases h0
    case le =>
      simp only [av_chk, Bool.and_eq_true, decide_eq_true_eq] at hq
      obtain ⟨hdec, hi, hv⟩ := hq
      dsimp only [av_stp] at h0
      have hlen : len = 3 := Nat.eq_of_beq_eq_true hi
      subst hlen
      split at h0
      · exact lv_icmp_le hx hb hdec hv (fun hc => (hJ _ _ _ _ (by first | (rw [if_pos hc] at h0; exact h0) | (rw [if_neg hc] at h0; exact h0)) H locs lv hP hS hl h1 h2)) (fun hc => (hN _ _ _ (by first | (rw [if_pos hc] at h0; exact h0) | (rw [if_neg hc] at h0; exact h0)) H locs lv hP hS hl h1 h2))
      · cases h0
  case goto off =>
    simp only [av_chk, Bool.and_eq_true, decide_eq_true_eq] at hq
    obtain ⟨hdec, hi⟩ := hq
    dsimp only [av_stp] at h0
    obtain ⟨hi, hv⟩ := hi
    have hlen : len = 3 := Nat.eq_of_beq_eq_true hi
    subst hlen
    exact lv_goto hx hb hdec hv (hJ _ _ _ _ h0 H locs lv hP hS hl h1 h2)
  case tableswitch dd lo hi1 offs =>
    simp only [av_chk, Bool.and_eq_true, decide_eq_true_eq] at hq
    obtain ⟨hdec, hi⟩ := hq
    dsimp only [av_stp] at h0
    obtain ⟨⟨⟨g1, g2⟩, g3⟩, g4⟩ := hi
    split at h0
    · rename_i a r
      obtain ⟨t, ht, hsw⟩ := av_sw_spec _ _ _ h0
      rcases hsw with ⟨k, hk⟩ | ⟨hn, rfl⟩
      · obtain ⟨off, -, -, o1, o2, o4, o5⟩ := av_tsw g2 g3 g4 hk
        exact lv_tableIn hx hb hdec o1 o2 o4 o5 (hJ _ _ _ _ ht H locs lv hP hS hl h1 h2)
      · exact lv_tableOut hx hb hdec (av_tsw_out g2 g3 hn) g1 (hJ _ _ _ _ ht H locs lv hP hS hl h1 h2)
    · cases h0
  case lookupswitch dd ps =>
    simp only [av_chk, Bool.and_eq_true, decide_eq_true_eq] at hq
    obtain ⟨hdec, hi⟩ := hq
    dsimp only [av_stp] at h0
    obtain ⟨⟨g1, g2⟩, g3⟩ := hi
    split at h0
    · rename_i a r
      obtain ⟨t, ht, hsw⟩ := av_lsw (ps.toList) sw a x dd pc g1 g3 h0
      exact lv_lookup hx hb hdec g2 rfl hsw (hJ _ _ _ _ ht H locs lv hP hS hl h1 h2)
    · cases h0
  case getfield idx =>
    simp only [av_chk, Bool.and_eq_true, decide_eq_true_eq] at hq
    obtain ⟨hdec, hi⟩ := hq
    dsimp only [av_stp] at h0
    obtain ⟨hi, hv⟩ := hi
    have hlen : len = 3 := Nat.eq_of_beq_eq_true hi
    subst hlen
    split at hv
    · rename_i own1 idx1 nest cc1 k1 pl1 hw
      simp only [Bool.and_eq_true] at hv
      obtain ⟨⟨⟨g1, g2⟩, g3⟩, g4⟩ := hv
      have g1 := Nat.eq_of_beq_eq_true g1
      have g2 := Nat.eq_of_beq_eq_true g2
      have g3 := Nat.eq_of_beq_eq_true g3
      have g4 := Nat.eq_of_beq_eq_true g4
      subst g1 g2 g3 g4
      split at h0
      · rename_i a r
        split at h0
        · rename_i hk
          have hk := Nat.eq_of_beq_eq_true hk
          refine av_getf hx hb hown hts hCx hP hw hk hdec ?_
          split at h0
          · rename_i h9; rw [h9]; exact hN _ _ _ h0 H locs lv hP hS hl h1 h2
          · rename_i h9; rw [h9]; exact hN _ _ _ h0 H locs lv hP hS hl h1 h2
        · cases h0
      · cases h0
    · cases hv
  case putfield idx =>
    simp only [av_chk, Bool.and_eq_true, decide_eq_true_eq] at hq
    obtain ⟨hdec, hi⟩ := hq
    dsimp only [av_stp] at h0
    obtain ⟨hi, hv⟩ := hi
    have hlen : len = 3 := Nat.eq_of_beq_eq_true hi
    subst hlen
    split at hv
    · rename_i own1 idx1 nest cc1 k1 pl1 hw
      simp only [Bool.and_eq_true, Bool.not_eq_true'] at hv
      obtain ⟨⟨⟨⟨⟨g1, g2⟩, g3⟩, g4⟩, g5⟩, g6⟩ := hv
      have g1 := Nat.eq_of_beq_eq_true g1
      have g2 := Nat.eq_of_beq_eq_true g2
      have g3 := Nat.eq_of_beq_eq_true g3
      have g4 := Nat.eq_of_beq_eq_true g4
      subst g1 g2 g3 g4
      split at h0
      · rename_i bb a r
        split at h0
        · rename_i hk
          have hk := Nat.eq_of_beq_eq_true hk
          split at h0
          · rename_i hrf
            have hkN := av_kd_lt (a := a) (by have := (av_ft_lt hw).1; omega)
            have h3 : ∀ (v : Int32), av_u h a k1 v 90 = scr := fun v => by rw [av_u_ne (by unfold av_N at hkN; omega)]; exact h1
            have h4 : ∀ (v : Int32), av_u h a k1 v 91 0 = nI L := fun v => by rw [av_u_ne (by unfold av_N at hkN; omega)]; exact h2
            split at h0
            · split at g6
              · refine av_putf hx hb hown hts hCx hP (hD h) hS hw hk g5 hrf hdec (ty := .int) (of_decide_eq_true g6) rfl rfl (fun H1 locs1 hP1 hS1 => hN _ _ _ h0 H1 locs1 lv hP1 hS1 hl (h3 _) (h4 _))
              · rename_i hz; exact absurd rfl hz
            · rename_i hz
              split at g6
              · exact absurd rfl hz
              · cases hb0 : av_01 bb with
                | true =>
                  rw [hb0] at h0
                  have hb01 : bb = 0 ∨ bb = 1 := of_decide_eq_true hb0
                  refine av_putf hx hb hown hts hCx hP (hD h) hS hw hk g5 hrf hdec (ty := .boolean) (of_decide_eq_true g6) (by rcases hb01 with rfl | rfl <;> rfl) (by rcases hb01 with rfl | rfl <;> rfl) (fun H1 locs1 hP1 hS1 => hN _ _ _ h0 H1 locs1 lv hP1 hS1 hl (h3 _) (h4 _))
                | false => rw [hb0] at h0; cases h0
          · cases h0
        · cases h0
      · cases h0
    · cases hv
  case iaload =>
    simp only [av_chk, Bool.and_eq_true, decide_eq_true_eq] at hq
    obtain ⟨hdec, hi⟩ := hq
    dsimp only [av_stp] at h0
    have hlen : len = 1 := Nat.eq_of_beq_eq_true hi
    subst hlen
    split at h0
    · rename_i j a r
      split at h0
      · rename_i hk
        cases hin0 : av_inb j (av_sz a) with
        | false => rw [hin0] at h0; cases h0
        | true =>
          rw [hin0] at h0
          have hin := av_inb_of hin0
          have hkN := av_kd_lt (a := a) (by omega)
          exact va_iald hx hb hCx.1 hP a 0 (by rw [av_ws_get hkN, av_en_i hk]) rfl hin hdec (hN _ _ _ h0 H locs lv hP hS hl h1 h2)
      · rename_i hk
        cases hin0 : av_ins j (h (a + 1) 0) with
        | false => rw [hin0] at h0; cases h0
        | true =>
          rw [hin0] at h0
          have hin := av_ins_of hin0
          have e9 := av_kd_11 hk
          subst e9
          exact av_scr hx hb hCx hS h1 h2 hin hdec (hN _ _ _ h0 H locs lv hP hS hl h1 h2)
      · cases h0
    · cases h0
  case laload =>
    simp only [av_chk, Bool.and_eq_true, decide_eq_true_eq] at hq
    obtain ⟨hdec, hi⟩ := hq
    dsimp only [av_stp] at h0
    have hlen : len = 1 := Nat.eq_of_beq_eq_true hi
    subst hlen
    split at h0
    · rename_i j a r
      split at h0
      · rename_i hk
        cases hin0 : av_inb j (av_sz a) with
        | false => rw [hin0] at h0; cases h0
        | true =>
          rw [hin0] at h0
          have hin := av_inb_of hin0
          have hkN := av_kd_lt (a := a) (by omega)
          exact va_lald (f := fun i => av_jn (h a (2 * i)) (h a (2 * i + 1))) hx hb hCx.1 hP a 1 (by rw [av_ws_get hkN, av_en_l hk]) rfl hin hdec (hN _ _ _ h0 H locs lv hP hS hl h1 h2)
      · cases h0
    · cases h0
  case baload =>
    simp only [av_chk, Bool.and_eq_true, decide_eq_true_eq] at hq
    obtain ⟨hdec, hi⟩ := hq
    dsimp only [av_stp] at h0
    have hlen : len = 1 := Nat.eq_of_beq_eq_true hi
    subst hlen
    split at h0
    · rename_i j a r
      split at h0
      · rename_i hk
        cases hin0 : av_inb j (av_sz a) with
        | false => rw [hin0] at h0; cases h0
        | true =>
          rw [hin0] at h0
          have hin := av_inb_of hin0
          have hkN := av_kd_lt (a := a) (by omega)
          exact va_zald hx hb hCx.1 hP a 2 (by rw [av_ws_get hkN, av_en_z hk]) rfl hin hdec (hN _ _ _ h0 H locs lv hP hS hl h1 h2)
      · cases h0
    · cases h0
  case iastore =>
    simp only [av_chk, Bool.and_eq_true, decide_eq_true_eq] at hq
    obtain ⟨hdec, hi⟩ := hq
    dsimp only [av_stp] at h0
    have hlen : len = 1 := Nat.eq_of_beq_eq_true hi
    subst hlen
    split at h0
    · rename_i bb j a r
      split at h0
      · rename_i hk
        cases hin0 : av_inb j (av_sz a) with
        | false => rw [hin0] at h0; cases h0
        | true =>
          rw [hin0] at h0
          have hin := av_inb_of hin0
          have hkN := av_kd_lt (a := a) (by omega)
          refine va_iast hx hb hCx.1 hP (hD h) hS a 0 (by rw [av_ws_get hkN, av_en_i hk]) rfl hin hdec (fun H1 locs1 hP1 hD1 hS1 => hN _ _ _ h0 H1 locs1 lv ?_ hS1 hl ?_ ?_)
          · rw [← av_ws_set (h := h) hkN (fun b hb => av_u_ne hb), av_en_i hk, av_u_eq]; exact hP1
          · rw [av_u_ne (by unfold av_N at hkN; omega)]; exact h1
          · rw [av_u_ne (by unfold av_N at hkN; omega)]; exact h2
      · cases h0
    · cases h0
  case bastore =>
    simp only [av_chk, Bool.and_eq_true, decide_eq_true_eq] at hq
    obtain ⟨hdec, hi⟩ := hq
    dsimp only [av_stp] at h0
    have hlen : len = 1 := Nat.eq_of_beq_eq_true hi
    subst hlen
    split at h0
    · rename_i bb j a r
      split at h0
      · rename_i hk
        cases hin0 : av_inb j (av_sz a) with
        | false => rw [hin0] at h0; cases h0
        | true =>
          rw [hin0] at h0
          have hin := av_inb_of hin0
          have hkN := av_kd_lt (a := a) (by omega)
          refine va_zast hx hb hCx.1 hP (hD h) hS a 2 (by rw [av_ws_get hkN, av_en_z hk]) rfl hin hdec (fun H1 locs1 hP1 hD1 hS1 => hN _ _ _ h0 H1 locs1 lv ?_ hS1 hl ?_ ?_)
          · rw [← av_ws_set (h := h) hkN (fun b hb => av_u_ne hb), av_en_z hk, av_u_eq]; exact hP1
          · rw [av_u_ne (by unfold av_N at hkN; omega)]; exact h1
          · rw [av_u_ne (by unfold av_N at hkN; omega)]; exact h2
      · cases h0
    · cases h0
  case lastore =>
    simp only [av_chk, Bool.and_eq_true, decide_eq_true_eq] at hq
    obtain ⟨hdec, hi⟩ := hq
    dsimp only [av_stp] at h0
    have hlen : len = 1 := Nat.eq_of_beq_eq_true hi
    subst hlen
    split at h0
    · rename_i bb j a r
      split at h0
      · rename_i hk
        cases hin0 : av_inb j (av_sz a) with
        | false => rw [hin0] at h0; cases h0
        | true =>
          rw [hin0] at h0
          have hin := av_inb_of hin0
          have hkN := av_kd_lt (a := a) (by omega)
          refine va_last hx hb hCx.1 hP (hD h) hS a 1 (by rw [av_ws_get hkN, av_en_l hk]) rfl hin hdec (fun H1 locs1 hP1 hD1 hS1 => hN _ _ _ h0 H1 locs1 lv ?_ hS1 hl ?_ ?_)
          · rw [← av_ws_set (h := h) hkN (fun b hb => by rw [av_u_ne hb, av_u_ne hb]), av_en_l hk, av_u_eq, av_u_eq, av_jn_upd]; exact hP1
          · rw [av_u_ne (by unfold av_N at hkN; omega), av_u_ne (by unfold av_N at hkN; omega)]; exact h1
          · rw [av_u_ne (by unfold av_N at hkN; omega), av_u_ne (by unfold av_N at hkN; omega)]; exact h2
      · cases h0
    · cases h0
  case arraylength =>
    simp only [av_chk, Bool.and_eq_true, decide_eq_true_eq] at hq
    obtain ⟨hdec, hi⟩ := hq
    dsimp only [av_stp] at h0
    have hlen : len = 1 := Nat.eq_of_beq_eq_true hi
    subst hlen
    split at h0
    · rename_i a r
      split at h0
      · rename_i hk
        have hkN := av_kd_lt (a := a) (by omega)
        exact va_alen (x := (av_sz a, .inl (h a))) hx hb hCx.1 hP a 0 (by rw [av_ws_get hkN, av_en_i hk]) rfl rfl hdec (hN _ _ _ h0 H locs lv hP hS hl h1 h2)
      · rename_i hk
        have hkN := av_kd_lt (a := a) (by omega)
        exact va_alen (x := (av_sz a, .inr (.inl (fun i => av_jn (h a (2 * i)) (h a (2 * i + 1)))))) hx hb hCx.1 hP a 1 (by rw [av_ws_get hkN, av_en_l hk]) rfl rfl hdec (hN _ _ _ h0 H locs lv hP hS hl h1 h2)
      · rename_i hk
        have hkN := av_kd_lt (a := a) (by omega)
        exact va_alen (x := (av_sz a, .inl (h a))) hx hb hCx.1 hP a 2 (by rw [av_ws_get hkN, av_en_z hk]) rfl rfl hdec (hN _ _ _ h0 H locs lv hP hS hl h1 h2)
      · rename_i hk
        have e9 := av_kd_11 hk
        subst e9
        obtain ⟨-, -, ⟨x1, x2, x3, x4⟩, -⟩ := hCx
        have hN1 := hN _ _ _ h0 H locs lv hP hS hl h1 h2
        rw [show h (90 + 1) 0 = nI L from h2] at hN1
        exact va_slen hx hb x1 x2 x3 hS hdec hN1
      · cases h0
    · cases h0
  case ireturn =>
    simp only [av_chk, Bool.and_eq_true, decide_eq_true_eq] at hq
    obtain ⟨hdec, hi⟩ := hq
    dsimp only [av_stp] at h0
    obtain ⟨hi, hv⟩ := hi
    have hlen : len = 1 := Nat.eq_of_beq_eq_true hi
    subst hlen
    split at h0
    · split at h0
      · split at hv
        · exact hRi _ _ _ _ _ _ _ .int h0 hdec (of_decide_eq_true hv) (fun z => by cases z) rfl hP hS h1 h2
        · rename_i hz; exact absurd rfl hz
      · rename_i hz
        split at hv
        · exact absurd rfl hz
        · exact hRi _ _ _ _ _ _ _ .boolean h0 hdec (of_decide_eq_true hv) (fun z => by cases z) rfl hP hS h1 h2
    · cases h0
  case lreturn =>
    simp only [av_chk, Bool.and_eq_true, decide_eq_true_eq] at hq
    obtain ⟨hdec, hi⟩ := hq
    dsimp only [av_stp] at h0
    obtain ⟨hi, hv⟩ := hi
    have hlen : len = 1 := Nat.eq_of_beq_eq_true hi
    subst hlen
    split at h0
    · exact hRl _ _ _ _ _ _ h0 hdec hv hP hS h1 h2
    · cases h0
  case return_ =>
    simp only [av_chk, Bool.and_eq_true, decide_eq_true_eq] at hq
    obtain ⟨hdec, hi⟩ := hq
    dsimp only [av_stp] at h0
    obtain ⟨hi, hv⟩ := hi
    have hlen : len = 1 := Nat.eq_of_beq_eq_true hi
    subst hlen
    split at h0
    · exact hRv _ _ _ _ _ h0 hdec hv hP hS h1 h2
    · cases h0
  case invokestatic idx =>
    simp only [av_chk, Bool.and_eq_true, decide_eq_true_eq] at hq
    obtain ⟨hdec, hi, hv⟩ := hq
    dsimp only [av_stp] at h0
    have hlen : len = 3 := Nat.eq_of_beq_eq_true hi
    subst hlen
    split at h0
    · split at h0
      · split at h0
        · rename_i hcat
          change (match av_pt[w]? with
            | some (a, b, c, _) => Nat.beq a own && Nat.beq b idx && Nat.beq c 10
            | none => false) = true at hv
          split at hv
          · rename_i own1 idx1 z1 pl1 hw
            simp only [Bool.and_eq_true] at hv
            obtain ⟨⟨g1, g2⟩, g3⟩ := hv
            have g1 := Nat.eq_of_beq_eq_true g1
            have g2 := Nat.eq_of_beq_eq_true g2
            have g3 := Nat.eq_of_beq_eq_true g3
            subst g1 g2 g3
            have hcat := Nat.ble_eq.mp hcat
            exact va_mmax hx hb (by rw [hml]; exact (av_lv_size hl).symm) hown (hts _ (av_word_of (av_mem_of av_pt_ok hw))) (hts _ av_w_max.1) (hts _ av_w_max.2.2) (hts _ av_w_max.2.1) (by omega) (by rw [av_cat_map]; omega) hc hs hdec (hN _ _ _ h0 H locs lv hP hS hl h1 h2)
          · cases hv
        · cases h0
      · cases h0
    · split at h0
      · split at h0
        · rename_i hcat
          change (match av_pt[w]? with
            | some (a, b, c, _) => Nat.beq a own && Nat.beq b idx && Nat.beq c 11
            | none => false) = true at hv
          split at hv
          · rename_i own1 idx1 z1 pl1 hw
            simp only [Bool.and_eq_true] at hv
            obtain ⟨⟨g1, g2⟩, g3⟩ := hv
            have g1 := Nat.eq_of_beq_eq_true g1
            have g2 := Nat.eq_of_beq_eq_true g2
            have g3 := Nat.eq_of_beq_eq_true g3
            subst g1 g2 g3
            have hcat := Nat.ble_eq.mp hcat
            exact va_mmin hx hb (by rw [hml]; exact (av_lv_size hl).symm) hown (hts _ (av_word_of (av_mem_of av_pt_ok hw))) (hts _ av_w_min.1) (hts _ av_w_min.2.2) (hts _ av_w_min.2.1) (by omega) (by rw [av_cat_map]; omega) hc hs hdec (hN _ _ _ h0 H locs lv hP hS hl h1 h2)
          · cases hv
        · cases h0
      · cases h0
    · split at h0
      · split at h0
        · rename_i hcat
          change (match av_pt[w]? with
            | some (a, b, c, _) => Nat.beq a own && Nat.beq b idx && Nat.beq c 12
            | none => false) = true at hv
          split at hv
          · rename_i own1 idx1 z1 pl1 hw
            simp only [Bool.and_eq_true] at hv
            obtain ⟨⟨g1, g2⟩, g3⟩ := hv
            have g1 := Nat.eq_of_beq_eq_true g1
            have g2 := Nat.eq_of_beq_eq_true g2
            have g3 := Nat.eq_of_beq_eq_true g3
            subst g1 g2 g3
            have hcat := Nat.ble_eq.mp hcat
            exact va_mabs hx hb (by rw [hml]; exact (av_lv_size hl).symm) hown (hts _ (av_word_of (av_mem_of av_pt_ok hw))) (hts _ av_w_abs.1) (hts _ av_w_abs.2.2) (hts _ av_w_abs.2.1) (by omega) (by rw [av_cat_map]; omega) hc hs hdec (hN _ _ _ h0 H locs lv hP hS hl h1 h2)
          · cases hv
        · cases h0
      · cases h0
    · cases h0
    · rename_i z z10 z11 z12 z20
      split at hv
      · exact absurd rfl z20
      · exact absurd rfl z10
      · exact absurd rfl z11
      · exact absurd rfl z12
      · split at hv
        · rename_i own1 idx1 nest k1 pl1 st1 n1 z1 o1 hw
          simp only [Bool.and_eq_true] at hv
          obtain ⟨⟨⟨⟨⟨g1, g2⟩, g3⟩, g4⟩, g5⟩, g6⟩ := hv
          have g1 := Nat.eq_of_beq_eq_true g1
          have g2 := Nat.eq_of_beq_eq_true g2
          have g3 := Nat.eq_of_beq_eq_true g3
          have g5 := Nat.eq_of_beq_eq_true g5
          have g6 := Nat.eq_of_beq_eq_true g6
          subst g1 g2 g3 g4 g5 g6
          obtain ⟨s1, s2, s3⟩ := av_ct_spec hM hw hts hCx.2.1 hRf hRl0
          generalize hpop : av_pop n1 [] st = P at h0
          obtain ⟨as, r⟩ := P
          dsimp only at h0
          split at h0
          · rename_i hcat
            simp only [Bool.and_eq_true] at hcat
            have hcat1 := Nat.ble_eq.mp hcat.1
            have hcat2 := Nat.eq_of_beq_eq_true hcat.2
            cases hEx : E k1 as h with
            | none => rw [hEx] at h0; cases h0
            | some r1 =>
              rw [hEx] at h0
              have h0 : N ls (av_push z1 r1 r) r1.2.2 = some b := h0
              have hst : st.map (av_c ad) = (as.map (av_c ad)).reverse ++ r.map (av_c ad) := by
                have := av_pop_spec _ _ _ _ _ hpop
                rw [show st = as.reverse ++ r from this, List.map_append, List.map_reverse]
              have hmet := hE k1 as h r1 (av_ct_lt hw) hEx
              have hpre : PreS s H (av_Pc ad D cI cJ cZ A scr L as h) (as.map (av_c ad)) := ⟨av_Pc_blind as h, fun U hU hW => ⟨rfl, by rw [hU]; exact hP, av_Cx_at hCx hS hW hU, h1, h2⟩⟩
              cases nest with
              | false => exact av_call (rest := r.map (av_c ad)) (va_runS (As := as.map (av_c ad)) ⟨hx, hb, hml, hown, hts⟩ hmet ⟨s1, s2⟩ hpre rfl (by rw [List.length_map]; exact hcat2) (av_lv_size hl) hst (lv_room (by rw [av_cat_map]; exact hcat1)) hdec ⟨hc, hs⟩) hS (fun H1 locs1 hP1 hS1 e1 e2 => by rw [← av_push_map s3]; exact hN _ _ _ h0 H1 locs1 lv hP1 hS1 hl e1 e2)
              | true => exact av_call (rest := r.map (av_c ad)) (va_runSN (As := as.map (av_c ad)) ⟨hx, hb, hml, hown, hts⟩ hmet ⟨s1, s2, trivial⟩ hpre rfl (by rw [List.length_map]; exact hcat2) (av_lv_size hl) hst (lv_room (by rw [av_cat_map]; exact hcat1)) hdec ⟨hc, hs⟩) hS (fun H1 locs1 hP1 hS1 e1 e2 => by rw [← av_push_map s3]; exact hN _ _ _ h0 H1 locs1 lv hP1 hS1 hl e1 e2)
          · cases h0
        · cases hv
  case invokevirtual idx =>
    simp only [av_chk, Bool.and_eq_true, decide_eq_true_eq] at hq
    obtain ⟨hdec, hi, hv⟩ := hq
    dsimp only [av_stp] at h0
    have hlen : len = 3 := Nat.eq_of_beq_eq_true hi
    subst hlen
    split at h0
    · split at h0
      · rename_i a r
        split at h0
        · rename_i hcat
          simp only [Bool.and_eq_true] at hcat
          have hcat1 := Nat.ble_eq.mp hcat.1
          have hk := Nat.eq_of_beq_eq_true hcat.2
          change (match av_pt[w]? with
            | some (a, b, c, _) => Nat.beq a own && Nat.beq b idx && Nat.beq c 13
            | none => false) = true at hv
          split at hv
          · rename_i own1 idx1 z1 pl1 hw
            simp only [Bool.and_eq_true] at hv
            obtain ⟨⟨g1, g2⟩, g3⟩ := hv
            have g1 := Nat.eq_of_beq_eq_true g1
            have g2 := Nat.eq_of_beq_eq_true g2
            have g3 := Nat.eq_of_beq_eq_true g3
            subst g1 g2 g3
            exact av_strlen hx hb hml hown hts hCx hP hS hRf hRl0 hc hs (av_lv_size hl) hk hcat1 (hts _ (av_word_of (av_mem_of av_pt_ok hw))) hdec (fun H1 locs1 hP1 hS1 => hN _ _ _ h0 H1 locs1 lv hP1 hS1 hl h1 h2)
          · cases hv
        · cases h0
      · cases h0
    · split at h0
      · rename_i j a r
        split at h0
        · rename_i hcat
          simp only [Bool.and_eq_true] at hcat
          have hcat1 := Nat.ble_eq.mp hcat.1
          have hk := Nat.eq_of_beq_eq_true hcat.2
          cases hin0 : av_inb j (av_txl a) with
          | false => rw [hin0] at h0; cases h0
          | true =>
            rw [hin0] at h0
            have hin := av_inb_of hin0
            change (match av_pt[w]? with
              | some (a, b, c, _) => Nat.beq a own && Nat.beq b idx && Nat.beq c 14
              | none => false) = true at hv
            split at hv
            · rename_i own1 idx1 z1 pl1 hw
              simp only [Bool.and_eq_true] at hv
              obtain ⟨⟨g1, g2⟩, g3⟩ := hv
              have g1 := Nat.eq_of_beq_eq_true g1
              have g2 := Nat.eq_of_beq_eq_true g2
              have g3 := Nat.eq_of_beq_eq_true g3
              subst g1 g2 g3
              exact av_strchr hx hb hml hown hts hCx hP hS hRf hRl0 hc hs (av_lv_size hl) hk hin hcat1 (hts _ (av_word_of (av_mem_of av_pt_ok hw))) hdec (fun H1 locs1 hP1 hS1 => hN _ _ _ h0 H1 locs1 lv hP1 hS1 hl h1 h2)
            · cases hv
        · cases h0
      · cases h0
    · rename_i z z13 z14
      split at hv
      · exact absurd rfl z13
      · exact absurd rfl z14
      · split at hv
        · rename_i own1 idx1 nest k1 pl1 st1 n1 z1 o1 hw
          simp only [Bool.and_eq_true, Bool.not_eq_true'] at hv
          obtain ⟨⟨⟨⟨⟨⟨⟨g1, g2⟩, g3⟩, g4⟩, g5⟩, g6⟩, g7⟩, g8⟩ := hv
          have g1 := Nat.eq_of_beq_eq_true g1
          have g2 := Nat.eq_of_beq_eq_true g2
          have g3 := Nat.eq_of_beq_eq_true g3
          have g5 := Nat.eq_of_beq_eq_true g5
          have g6 := Nat.eq_of_beq_eq_true g6
          have g7 := Nat.eq_of_beq_eq_true g7
          have g8 := Nat.blt_eq.mp g8
          subst g1 g2 g3 g4 g5 g6 g7
          obtain ⟨s1, s2, s3⟩ := av_ct_spec hM hw hts hCx.2.1 hRf hRl0
          generalize hpop : av_pop n1 [] st = P at h0
          obtain ⟨as, r0⟩ := P
          split at h0
          · rename_i as a r heq
            cases heq
            split at h0
            · rename_i hcat
              simp only [Bool.and_eq_true] at hcat
              have hcat1 := Nat.ble_eq.mp hcat.1.1
              have hcat2 := Nat.eq_of_beq_eq_true hcat.1.2
              have hk := Nat.eq_of_beq_eq_true hcat.2
              cases hEx : E k1 (.ref a :: as) h with
              | none => rw [hEx] at h0; cases h0
              | some r1 =>
                rw [hEx] at h0
                have h0 : N ls (av_push z1 r1 r) r1.2.2 = some b := h0
                have hst : st.map (av_c ad) = (as.map (av_c ad)).reverse ++ Value.ref (ad a) :: r.map (av_c ad) := by
                  have := av_pop_spec _ _ _ _ _ hpop
                  rw [show st = as.reverse ++ Value.ref a :: r from this, List.map_append, List.map_reverse]
                  rfl
                have hmet := hE k1 (.ref a :: as) h r1 (av_ct_lt hw) hEx
                have hkN := av_kd_lt (a := a) (by omega)
                have hent : (av_ws ad cI cJ cZ h)[a]? = some (ad a, .inr (o1, av_fv ad (h a) (av_nth av_shp a).2.2 0)) := by
                  rw [av_ws_get hkN, av_en_obj (by show av_kd a < 8; omega)]
                  show some (ad a, Sum.inr (av_kd a, _)) = _
                  rw [hk]
                have hpre : PreV s H (av_cn o1) (ad a) (av_Pc ad D cI cJ cZ A scr L (.ref a :: as) h) (as.map (av_c ad)) := ⟨av_Pc_blind _ h, va_recv hCx.1 hP (av_cls o1 g8) hent, fun U hU hW => ⟨rfl, by rw [hU]; exact hP, av_Cx_at hCx hS hW hU, h1, h2⟩⟩
                cases nest with
                | false => exact av_call (rest := r.map (av_c ad)) (va_runV (As := as.map (av_c ad)) ⟨hx, hb, hml, hown, hts⟩ hmet ⟨s1, s2⟩ hpre rfl (by rw [List.length_map]; exact hcat2) (av_lv_size hl) hst (lv_room (by rw [av_cat_map]; exact hcat1)) hdec ⟨hc, hs⟩) hS (fun H1 locs1 hP1 hS1 e1 e2 => by rw [← av_push_map s3]; exact hN _ _ _ h0 H1 locs1 lv hP1 hS1 hl e1 e2)
                | true => exact av_call (rest := r.map (av_c ad)) (va_runVN (As := as.map (av_c ad)) ⟨hx, hb, hml, hown, hts⟩ hmet ⟨s1, s2⟩ hpre rfl (by rw [List.length_map]; exact hcat2) (av_lv_size hl) hst (lv_room (by rw [av_cat_map]; exact hcat1)) hdec ⟨hc, hs⟩) hS (fun H1 locs1 hP1 hS1 e1 e2 => by rw [← av_push_map s3]; exact hN _ _ _ h0 H1 locs1 lv hP1 hS1 hl e1 e2)
            · cases h0
          · cases h0
        · cases hv
  all_goals exact absurd (show (none : Option β) = some b from h0) (fun z => by cases z)
end AVT
