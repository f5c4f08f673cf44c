/-! THE START, 2: constructors -/
theorem vj_aw : Cond.arrayClass .int ∈ av_tbl ∧ Cond.arrayClass .long ∈ av_tbl ∧ Cond.arrayClass .boolean ∈ av_tbl := ⟨av_tbl_t (p := 43) (by decide +kernel) (by decide +kernel), av_tbl_t (p := 59) (by decide +kernel) (by decide +kernel), av_tbl_t (p := 1115) (by decide +kernel) (by decide +kernel)⟩
theorem vj_ob : Cond.instanceMethod Lib.objectInit ∈ av_tbl ∧ Cond.code Lib.objectInit ⟨#[0xb1]⟩ 1 none ∈ av_tbl := ⟨av_tbl_t (p := 26) (by decide +kernel) (by decide +kernel), av_tbl_t (p := 27) (by decide +kernel) (by decide +kernel)⟩
def vj_P (D : va_G) (cI cJ cZ : ClassId) (as : List Value) (z o : Nat) (fs : List Value) : Array Value → State → Prop := fun v U => v = as.toArray ∧ vj_S D z [.inr (o, fs)] U.heap ∧ vj_K D cI cJ cZ U
def vj_Q (D : va_G) (z : Nat) (E : List va_E) : Array Value → State → Outcome → State → Prop := fun _ st oc t => oc = .returned none ∧ vj_S D z E t.heap ∧ va_F (vj_A z) st t
theorem vj_blind (D : va_G) (cI cJ cZ : ClassId) (as : List Value) (z o : Nat) (fs : List Value) : FrameBlind (vj_P D cI cJ cZ as z o fs) := fun a U g mk q => ⟨q.1, q.2.1, va_K.moved (u := U) (U := U.calling g mk a) (Vm.Alike.refl U.vm) q.2.2.1, fun w hw => av_nst_same (u := U) (U := U.calling g mk a) hw rfl (q.2.2.2 w hw)⟩
section VJC
variable {p : Program} {l : Launch} {e : Env} {R : Room} {s : State} {m : MethodId} {args : Array Value} {below : List Frame} {meth : Method} {c : Code} {H : Heap} {locs : List Loc} {cells slots mc ms : Nat} {Q : State → Prop}
variable {cc : ByteArray} {o : Nat} {D : va_G} {cI cJ cZ : ClassId} {z z1 pc : Nat} {lv : Array Slot} {rest st0 : List Value} {E1 F : List va_E} {x : va_E} {a : Array Value}
theorem vj_cn {own host : String} {idx n nL : Nat} {y : MethodName} {ret : Option FieldType} {rm : Room} (hts : ∀ w ∈ av_tbl, w.before args s = true) (hcode : Cond.code y cc nL ret ∈ av_tbl) (hini : Cond.initialized y.cls ∈ av_tbl) (hc : y.cls ≠ "java/lang/invoke/MethodHandle" ∧ y.cls ≠ "java/lang/invoke/VarHandle") (hpar : (parseMethodDescriptor y.desc).map (fun d => d.parameters.length) = some n) (hlink : va_Nw (.methodLinkNest own idx y host) s) (hRf : rm.frames + 1 ≤ R.frames) (hRl : 8 + (nL + 11) + rm.locals ≤ R.locals) : va_CN R s args own idx y host cc nL ret (Cond.code y cc nL ret :: av_tbl) rm rm.cells rm.slots n := by
  have hpay : ∀ w ∈ Cond.code y cc nL ret :: av_tbl, ∀ (a' : Array Value) (U : State), s.WarmedH U.vm → w.before a' U = true := by
    intro w hw a' U hW
    rcases List.mem_cons.mp hw with rfl | hw
    · exact word_at hW (good_of_word (List.mem_filter.mp hcode).2) (hts _ hcode)
    · exact word_at hW (good_of_word (List.mem_filter.mp hw).2) (hts w hw)
  have hp : ∀ sig, parseMethodDescriptor y.desc = some sig → n = sig.parameters.length := by
    intro sig hs
    rw [hs] at hpar
    exact (Option.some.inj hpar).symm
  exact ⟨⟨rfl, rfl, hRf, hRl, hpay, List.mem_cons_self⟩, hts _ hcode, hts _ hini, hc, hp, va_Nw.use rfl hlink⟩
theorem vj_left (hP : vj_S D z (E1 ++ F) H) : va_P D vwCl (vj_ws z E1) H := fun k q hq => hP.1 k q (by
  rw [vj_app]
  rw [List.getElem?_append_left (List.getElem?_eq_some_iff.mp hq).1]
  exact hq)
theorem vj_len (z : Nat) (E : List va_E) : (vj_ws z E).length = E.length := by
  induction E generalizing z with
  | nil => rfl
  | cons e E ih => show (vj_ws (z + 1) E).length + 1 = E.length + 1; rw [ih]
theorem vj_right (hP : vj_S D z (E1 ++ F) H) : va_P D vwCl (vj_ws (z + E1.length) F) H := fun k q hq => hP.1 (E1.length + k) q (by
  rw [vj_app, List.getElem?_append_right (by rw [vj_len]; omega), vj_len, Nat.add_sub_cancel_left]
  exact hq)
theorem vj_pre (C : vj_C p c cc s m args o D cI cJ cZ) {ci : Nat} {fs : List Value} (hz1 : z + E1.length = z1) (hP : vj_S D z (E1 ++ [.inr (ci, fs)]) H) (As : List Value) : PreS s H (vj_P D cI cJ cZ (.ref z1 :: As) z1 ci fs) (.ref z1 :: As) := by
  subst hz1
  obtain ⟨hx, hb, hown, hts, hK, hns⟩ := C
  refine ⟨vj_blind D cI cJ cZ _ _ ci fs, fun U hU hW => ⟨rfl, ⟨?_, ?_⟩, va_K.moved hW.alike hK, fun w hw => av_nst_warm hw hW (hns w hw)⟩⟩
  · rw [hU]; exact vj_right hP
  · rw [hU, hP.2, List.length_append]; show z + (E1.length + 1) = z + E1.length + 1; omega
theorem vj_call (hz1 : z + E1.length = z1) (hr : va_Run p l e R s m args below meth c H locs cells slots mc ms (F0 m pc lv st0) rest (vj_Q D z1 F a) (vj_A z1)) (hP : vj_S D z (E1 ++ [x]) H) (hS : va_S (vj_A z) s.heap H locs)
    (kk : ∀ (H1 : Heap) (locs1 : List Loc), vj_S D z (E1 ++ F) H1 → va_S (vj_A z) s.heap H1 locs1 → W p l e R s m args below meth c H1 locs1 (cells + mc) (slots + ms) Q (F0 m (pc + 3) lv rest)) : W p l e R s m args below meth c H locs cells slots Q (F0 m pc lv st0) := by
  subst hz1
  intro T hT X
  obtain ⟨v, st₀, t, T', Ls, h0, X', hL, e1, e2, ⟨hv, hp, ⟨hz, hk⟩⟩, st⟩ := hr T hT X
  cases hv
  rw [h0] at hz hk
  have hsz : H.size = z + E1.length + 1 := by rw [hP.2, List.length_append]; show z + (E1.length + 1) = z + E1.length + 1; omega
  obtain ⟨t2, a1, b1⟩ := kk T'.heap (locs ++ Ls) ⟨by
      rw [vj_app]
      refine ((vj_left hP).kept fun k q hq => ?_).app ?_
      · have h9 := (vj_mem hq).2
        have h8 : k < E1.length := by rw [← vj_len z E1]; exact (List.getElem?_eq_some_iff.mp hq).1
        rw [e1]
        exact hk q.1 (by omega) (fun h7 : z + E1.length ≤ q.1 => by omega)
      · rw [e1]; exact hp.1, by rw [e1, hp.2, List.length_append]; omega⟩
    ⟨Nat.le_trans hS.1 (by rw [e1]; exact hz), fun q h1 h2 => by
      rw [e1, hk q (Nat.lt_of_lt_of_le h1 hS.1) (fun h7 : z + E1.length ≤ q => h2 (show z ≤ q by omega))]; exact hS.2.1 q h1 h2, fun q hq => by
      rcases List.mem_append.mp hq with h | h
      · exact hS.2.2 q h
      · have h7 : z + E1.length ≤ q.base := hL q h
        show z ≤ q.base
        omega⟩ T' rfl X'
  exact ⟨t2, st t2 a1, b1⟩
end VJC
theorem dX5_init_0 : decode cX5_init 0 = .ok (.aload_n 0, 1) := by decide +kernel
theorem dX5_init_1 : decode cX5_init 1 = .ok (.invokespecial 3, 3) := by decide +kernel
theorem dX5_init_4 : decode cX5_init 4 = .ok (.aload_n 0, 1) := by decide +kernel
theorem dX5_init_5 : decode cX5_init 5 = .ok (.bipush 80, 2) := by decide +kernel
theorem dX5_init_7 : decode cX5_init 7 = .ok (.newarray .int, 2) := by decide +kernel
theorem dX5_init_9 : decode cX5_init 9 = .ok (.putfield 9, 3) := by decide +kernel
theorem dX5_init_12 : decode cX5_init 12 = .ok (.return_, 1) := by decide +kernel
def vjF5 (cI cJ cZ : ClassId) (z : Nat) : List va_E := .inr (5, [.ref (z + 1), .int 0]) :: [.inl (cI, 80, .inl (fun _ => 0))]
def vj_rm5 : Room := { frames := 2, cells := 1, slots := 80, locals := 40 }
theorem vj_df5 : ∀ j, j < av_nf 5 → defaultValue (av_ty 5 j) = vp_V [.null, .int 0] j := by decide +kernel
set_option maxRecDepth 40000 in
theorem vj_ctor5 (l : Launch) (D : va_G) (cI cJ cZ : ClassId) (z : Nat) : Met l yX5_init (Cond.code yX5_init cX5_init 1 none :: av_tbl) vj_rm5 (vj_P D cI cJ cZ [.ref z] z 5 [.null, .int 0]) (vj_Q D z (vjF5 cI cJ cZ z)) 1 80 (vj_A z) := by
  refine Met.ofW (cc := cX5_init) (maxL := 1) (ret := none) (by decide) rfl ?_
  intro p e s m args below meth c s₁ B hml hv
  obtain ⟨rfl, hP, hK⟩ := hv
  have hx := B.exec
  have hb := B.bytes
  have hr := B.returns
  have hts0 := atoms_spec (ws := Cond.code yX5_init cX5_init 1 none :: av_tbl) B.pre
  have hts : ∀ w ∈ av_tbl, w.before _ s = true := fun w hw => hts0 w (List.mem_cons_of_mem _ hw)
  have hown : s.vm.findClass (av_cn 5) = some m.cls := findClass_of_methodNamed B.named
  have hin : meth.name = "<init>" := (name_of_methodNamed B.named B.method).1
  have hlocks := B.notSynchronized
  have C : vj_C p c cX5_init s m _ 5 D cI cJ cZ := ⟨hx, hb, hown, hts, hK⟩
  have hz : z ≤ s.heap.size := by rw [hP.2]; exact Nat.le_add_right _ _
  have hS : va_S (vj_A z) s.heap s.heap [] := va_S.rf
  have hl := lv_entry ([.ref z]) (n := 1) (Nat.le_of_ble_eq_true rfl)
  rw [lg_entry_eq]
  generalize (lg_sl ([.ref z]) ++ List.replicate (1 - (lg_sl ([.ref z])).length) Slot.unset).toArray = ls at hl ⊢
  have hl : lv_has ls 1 [(0, .ref z)] := hl
  have h0 := lv_at hl 0 rfl
  obtain ⟨H, hH⟩ : ∃ H, H = s.heap := ⟨_, rfl⟩
  have hP : vj_S D z [.inr (5, [.null, .int 0])] H := by rw [hH]; exact hP
  have hS : va_S (vj_A z) s.heap H [] := by rw [hH]; exact hS
  rw [← hH]
  refine lv_aload_n hx hb dX5_init_0 rfl h0 ?_
  refine W.objInit hx hb hown (hts _ (av_tbl_t (p := 33) (by decide +kernel) (by decide +kernel))) (hts _ vj_ob.1) (hts _ vj_ob.2) rfl (by rw [hml]; exact hl.1) rfl dX5_init_1 (Nat.le_of_ble_eq_true rfl) (Nat.le_of_ble_eq_true rfl) ?_
  refine W.eq (g2 := F0 m 4 ls []) rfl ?_
  refine lv_aload_n hx hb dX5_init_4 rfl h0 ?_
  refine lv_bipush hx hb (v := 80) dX5_init_5 rfl ?_
  refine vj_newa C hz hP hS (atype := .int) rfl 0 rfl rfl vj_aw.1 (n := 80) (N := 80) (80, .inl (fun _ => 0)) (fun _ => rfl) (by decide) rfl (by decide) (Nat.le_of_ble_eq_true rfl) (Nat.le_of_ble_eq_true rfl) dX5_init_7 (len := 1) rfl (fun H hP hS => ?_)
  have hP : vj_S D z (.inr (5, [.null, .int 0]) :: [.inl (cI, 80, .inl (fun _ => 0))]) H := hP
  refine vj_put C (by decide) hP hS 0 (by decide) (av_tbl_t (p := 34) (by decide +kernel) (by decide +kernel)) rfl hin (ty := .array .int) rfl rfl rfl (Nat.le_of_ble_eq_true rfl) dX5_init_9 (fun H locs hP hS => ?_)
  have hP : vj_S D z (.inr (5, [.ref (z + 1), .int 0]) :: [.inl (cI, 80, .inl (fun _ => 0))]) H := hP
  exact W.vret hx hb hr (fun t ht hW => ⟨rfl, by rw [ht]; exact hP, hS.F ht⟩) hS.2.2 dX5_init_12
theorem dX2_init_0 : decode cX2_init 0 = .ok (.aload_n 0, 1) := by decide +kernel
theorem dX2_init_1 : decode cX2_init 1 = .ok (.invokespecial 3, 3) := by decide +kernel
theorem dX2_init_4 : decode cX2_init 4 = .ok (.aload_n 0, 1) := by decide +kernel
theorem dX2_init_5 : decode cX2_init 5 = .ok (.bipush 7, 2) := by decide +kernel
theorem dX2_init_7 : decode cX2_init 7 = .ok (.newarray .long, 2) := by decide +kernel
theorem dX2_init_9 : decode cX2_init 9 = .ok (.putfield 9, 3) := by decide +kernel
theorem dX2_init_12 : decode cX2_init 12 = .ok (.return_, 1) := by decide +kernel
def vjF2 (cI cJ cZ : ClassId) (z : Nat) : List va_E := .inr (2, [.ref (z + 1), .int 0]) :: [.inl (cJ, 7, .inr (.inl (fun _ => 0)))]
def vj_rm2 : Room := { frames := 2, cells := 1, slots := 7, locals := 40 }
theorem vj_df2 : ∀ j, j < av_nf 2 → defaultValue (av_ty 2 j) = vp_V [.null, .int 0] j := by decide +kernel
set_option maxRecDepth 40000 in
theorem vj_ctor2 (l : Launch) (D : va_G) (cI cJ cZ : ClassId) (z : Nat) : Met l yX2_init (Cond.code yX2_init cX2_init 1 none :: av_tbl) vj_rm2 (vj_P D cI cJ cZ [.ref z] z 2 [.null, .int 0]) (vj_Q D z (vjF2 cI cJ cZ z)) 1 7 (vj_A z) := by
  refine Met.ofW (cc := cX2_init) (maxL := 1) (ret := none) (by decide) rfl ?_
  intro p e s m args below meth c s₁ B hml hv
  obtain ⟨rfl, hP, hK⟩ := hv
  have hx := B.exec
  have hb := B.bytes
  have hr := B.returns
  have hts0 := atoms_spec (ws := Cond.code yX2_init cX2_init 1 none :: av_tbl) B.pre
  have hts : ∀ w ∈ av_tbl, w.before _ s = true := fun w hw => hts0 w (List.mem_cons_of_mem _ hw)
  have hown : s.vm.findClass (av_cn 2) = some m.cls := findClass_of_methodNamed B.named
  have hin : meth.name = "<init>" := (name_of_methodNamed B.named B.method).1
  have hlocks := B.notSynchronized
  have C : vj_C p c cX2_init s m _ 2 D cI cJ cZ := ⟨hx, hb, hown, hts, hK⟩
  have hz : z ≤ s.heap.size := by rw [hP.2]; exact Nat.le_add_right _ _
  have hS : va_S (vj_A z) s.heap s.heap [] := va_S.rf
  have hl := lv_entry ([.ref z]) (n := 1) (Nat.le_of_ble_eq_true rfl)
  rw [lg_entry_eq]
  generalize (lg_sl ([.ref z]) ++ List.replicate (1 - (lg_sl ([.ref z])).length) Slot.unset).toArray = ls at hl ⊢
  have hl : lv_has ls 1 [(0, .ref z)] := hl
  have h0 := lv_at hl 0 rfl
  obtain ⟨H, hH⟩ : ∃ H, H = s.heap := ⟨_, rfl⟩
  have hP : vj_S D z [.inr (2, [.null, .int 0])] H := by rw [hH]; exact hP
  have hS : va_S (vj_A z) s.heap H [] := by rw [hH]; exact hS
  rw [← hH]
  refine lv_aload_n hx hb dX2_init_0 rfl h0 ?_
  refine W.objInit hx hb hown (hts _ (av_tbl_t (p := 49) (by decide +kernel) (by decide +kernel))) (hts _ vj_ob.1) (hts _ vj_ob.2) rfl (by rw [hml]; exact hl.1) rfl dX2_init_1 (Nat.le_of_ble_eq_true rfl) (Nat.le_of_ble_eq_true rfl) ?_
  refine W.eq (g2 := F0 m 4 ls []) rfl ?_
  refine lv_aload_n hx hb dX2_init_4 rfl h0 ?_
  refine lv_bipush hx hb (v := 7) dX2_init_5 rfl ?_
  refine vj_newa C hz hP hS (atype := .long) rfl 1 rfl rfl vj_aw.2.1 (n := 7) (N := 7) (7, .inr (.inl (fun _ => 0))) (fun _ => rfl) (by decide) rfl (by decide) (Nat.le_of_ble_eq_true rfl) (Nat.le_of_ble_eq_true rfl) dX2_init_7 (len := 1) rfl (fun H hP hS => ?_)
  have hP : vj_S D z (.inr (2, [.null, .int 0]) :: [.inl (cJ, 7, .inr (.inl (fun _ => 0)))]) H := hP
  refine vj_put C (by decide) hP hS 0 (by decide) (av_tbl_t (p := 50) (by decide +kernel) (by decide +kernel)) rfl hin (ty := .array .long) rfl rfl rfl (Nat.le_of_ble_eq_true rfl) dX2_init_9 (fun H locs hP hS => ?_)
  have hP : vj_S D z (.inr (2, [.ref (z + 1), .int 0]) :: [.inl (cJ, 7, .inr (.inl (fun _ => 0)))]) H := hP
  exact W.vret hx hb hr (fun t ht hW => ⟨rfl, by rw [ht]; exact hP, hS.F ht⟩) hS.2.2 dX2_init_12
theorem dX4_init_0 : decode cX4_init 0 = .ok (.aload_n 0, 1) := by decide +kernel
theorem dX4_init_1 : decode cX4_init 1 = .ok (.invokespecial 3, 3) := by decide +kernel
theorem dX4_init_4 : decode cX4_init 4 = .ok (.aload_n 0, 1) := by decide +kernel
theorem dX4_init_5 : decode cX4_init 5 = .ok (.bipush 7, 2) := by decide +kernel
theorem dX4_init_7 : decode cX4_init 7 = .ok (.newarray .int, 2) := by decide +kernel
theorem dX4_init_9 : decode cX4_init 9 = .ok (.putfield 9, 3) := by decide +kernel
theorem dX4_init_12 : decode cX4_init 12 = .ok (.aload_n 0, 1) := by decide +kernel
theorem dX4_init_13 : decode cX4_init 13 = .ok (.bipush 7, 2) := by decide +kernel
theorem dX4_init_15 : decode cX4_init 15 = .ok (.newarray .int, 2) := by decide +kernel
theorem dX4_init_17 : decode cX4_init 17 = .ok (.putfield 15, 3) := by decide +kernel
theorem dX4_init_20 : decode cX4_init 20 = .ok (.aload_n 0, 1) := by decide +kernel
theorem dX4_init_21 : decode cX4_init 21 = .ok (.bipush 7, 2) := by decide +kernel
theorem dX4_init_23 : decode cX4_init 23 = .ok (.newarray .int, 2) := by decide +kernel
theorem dX4_init_25 : decode cX4_init 25 = .ok (.putfield 18, 3) := by decide +kernel
theorem dX4_init_28 : decode cX4_init 28 = .ok (.aload_n 0, 1) := by decide +kernel
theorem dX4_init_29 : decode cX4_init 29 = .ok (.bipush 7, 2) := by decide +kernel
theorem dX4_init_31 : decode cX4_init 31 = .ok (.newarray .int, 2) := by decide +kernel
theorem dX4_init_33 : decode cX4_init 33 = .ok (.putfield 21, 3) := by decide +kernel
theorem dX4_init_36 : decode cX4_init 36 = .ok (.aload_n 0, 1) := by decide +kernel
theorem dX4_init_37 : decode cX4_init 37 = .ok (.bipush 7, 2) := by decide +kernel
theorem dX4_init_39 : decode cX4_init 39 = .ok (.newarray .int, 2) := by decide +kernel
theorem dX4_init_41 : decode cX4_init 41 = .ok (.putfield 24, 3) := by decide +kernel
theorem dX4_init_44 : decode cX4_init 44 = .ok (.aload_n 0, 1) := by decide +kernel
theorem dX4_init_45 : decode cX4_init 45 = .ok (.bipush 7, 2) := by decide +kernel
theorem dX4_init_47 : decode cX4_init 47 = .ok (.newarray .int, 2) := by decide +kernel
theorem dX4_init_49 : decode cX4_init 49 = .ok (.putfield 27, 3) := by decide +kernel
theorem dX4_init_52 : decode cX4_init 52 = .ok (.aload_n 0, 1) := by decide +kernel
theorem dX4_init_53 : decode cX4_init 53 = .ok (.iconst 3, 1) := by decide +kernel
theorem dX4_init_54 : decode cX4_init 54 = .ok (.putfield 30, 3) := by decide +kernel
theorem dX4_init_57 : decode cX4_init 57 = .ok (.return_, 1) := by decide +kernel
def vjF4 (cI cJ cZ : ClassId) (z : Nat) : List va_E := .inr (4, [.ref (z + 1), .ref (z + 2), .ref (z + 3), .ref (z + 4), .ref (z + 5), .ref (z + 6), .int 0, .int 0, .int 0, .int 0, .int 0, .int 3, .int 0]) :: [.inl (cI, 7, .inl (fun _ => 0)), .inl (cI, 7, .inl (fun _ => 0)), .inl (cI, 7, .inl (fun _ => 0)), .inl (cI, 7, .inl (fun _ => 0)), .inl (cI, 7, .inl (fun _ => 0)), .inl (cI, 7, .inl (fun _ => 0))]
def vj_rm4 : Room := { frames := 2, cells := 6, slots := 42, locals := 40 }
theorem vj_df4 : ∀ j, j < av_nf 4 → defaultValue (av_ty 4 j) = vp_V [.null, .null, .null, .null, .null, .null, .int 0, .int 0, .int 0, .int 0, .int 0, .int 0, .int 0] j := by decide +kernel
set_option maxRecDepth 40000 in
theorem vj_ctor4 (l : Launch) (D : va_G) (cI cJ cZ : ClassId) (z : Nat) : Met l yX4_init (Cond.code yX4_init cX4_init 1 none :: av_tbl) vj_rm4 (vj_P D cI cJ cZ [.ref z] z 4 [.null, .null, .null, .null, .null, .null, .int 0, .int 0, .int 0, .int 0, .int 0, .int 0, .int 0]) (vj_Q D z (vjF4 cI cJ cZ z)) 6 42 (vj_A z) := by
  refine Met.ofW (cc := cX4_init) (maxL := 1) (ret := none) (by decide) rfl ?_
  intro p e s m args below meth c s₁ B hml hv
  obtain ⟨rfl, hP, hK⟩ := hv
  have hx := B.exec
  have hb := B.bytes
  have hr := B.returns
  have hts0 := atoms_spec (ws := Cond.code yX4_init cX4_init 1 none :: av_tbl) B.pre
  have hts : ∀ w ∈ av_tbl, w.before _ s = true := fun w hw => hts0 w (List.mem_cons_of_mem _ hw)
  have hown : s.vm.findClass (av_cn 4) = some m.cls := findClass_of_methodNamed B.named
  have hin : meth.name = "<init>" := (name_of_methodNamed B.named B.method).1
  have hlocks := B.notSynchronized
  have C : vj_C p c cX4_init s m _ 4 D cI cJ cZ := ⟨hx, hb, hown, hts, hK⟩
  have hz : z ≤ s.heap.size := by rw [hP.2]; exact Nat.le_add_right _ _
  have hS : va_S (vj_A z) s.heap s.heap [] := va_S.rf
  have hl := lv_entry ([.ref z]) (n := 1) (Nat.le_of_ble_eq_true rfl)
  rw [lg_entry_eq]
  generalize (lg_sl ([.ref z]) ++ List.replicate (1 - (lg_sl ([.ref z])).length) Slot.unset).toArray = ls at hl ⊢
  have hl : lv_has ls 1 [(0, .ref z)] := hl
  have h0 := lv_at hl 0 rfl
  obtain ⟨H, hH⟩ : ∃ H, H = s.heap := ⟨_, rfl⟩
  have hP : vj_S D z [.inr (4, [.null, .null, .null, .null, .null, .null, .int 0, .int 0, .int 0, .int 0, .int 0, .int 0, .int 0])] H := by rw [hH]; exact hP
  have hS : va_S (vj_A z) s.heap H [] := by rw [hH]; exact hS
  rw [← hH]
  refine lv_aload_n hx hb dX4_init_0 rfl h0 ?_
  refine W.objInit hx hb hown (hts _ (av_tbl_t (p := 65) (by decide +kernel) (by decide +kernel))) (hts _ vj_ob.1) (hts _ vj_ob.2) rfl (by rw [hml]; exact hl.1) rfl dX4_init_1 (Nat.le_of_ble_eq_true rfl) (Nat.le_of_ble_eq_true rfl) ?_
  refine W.eq (g2 := F0 m 4 ls []) rfl ?_
  refine lv_aload_n hx hb dX4_init_4 rfl h0 ?_
  refine lv_bipush hx hb (v := 7) dX4_init_5 rfl ?_
  refine vj_newa C hz hP hS (atype := .int) rfl 0 rfl rfl vj_aw.1 (n := 7) (N := 7) (7, .inl (fun _ => 0)) (fun _ => rfl) (by decide) rfl (by decide) (Nat.le_of_ble_eq_true rfl) (Nat.le_of_ble_eq_true rfl) dX4_init_7 (len := 1) rfl (fun H hP hS => ?_)
  have hP : vj_S D z (.inr (4, [.null, .null, .null, .null, .null, .null, .int 0, .int 0, .int 0, .int 0, .int 0, .int 0, .int 0]) :: [.inl (cI, 7, .inl (fun _ => 0))]) H := hP
  refine vj_put C (by decide) hP hS 0 (by decide) (av_tbl_t (p := 66) (by decide +kernel) (by decide +kernel)) rfl hin (ty := .array .int) rfl rfl rfl (Nat.le_of_ble_eq_true rfl) dX4_init_9 (fun H locs hP hS => ?_)
  have hP : vj_S D z (.inr (4, [.ref (z + 1), .null, .null, .null, .null, .null, .int 0, .int 0, .int 0, .int 0, .int 0, .int 0, .int 0]) :: [.inl (cI, 7, .inl (fun _ => 0))]) H := hP
  refine lv_aload_n hx hb dX4_init_12 rfl h0 ?_
  refine lv_bipush hx hb (v := 7) dX4_init_13 rfl ?_
  refine vj_newa C hz hP hS (atype := .int) rfl 0 rfl rfl vj_aw.1 (n := 7) (N := 7) (7, .inl (fun _ => 0)) (fun _ => rfl) (by decide) rfl (by decide) (Nat.le_of_ble_eq_true rfl) (Nat.le_of_ble_eq_true rfl) dX4_init_15 (len := 2) rfl (fun H hP hS => ?_)
  have hP : vj_S D z (.inr (4, [.ref (z + 1), .null, .null, .null, .null, .null, .int 0, .int 0, .int 0, .int 0, .int 0, .int 0, .int 0]) :: [.inl (cI, 7, .inl (fun _ => 0)), .inl (cI, 7, .inl (fun _ => 0))]) H := hP
  refine vj_put C (by decide) hP hS 1 (by decide) (av_tbl_t (p := 68) (by decide +kernel) (by decide +kernel)) rfl hin (ty := .array .int) rfl rfl rfl (Nat.le_of_ble_eq_true rfl) dX4_init_17 (fun H locs hP hS => ?_)
  have hP : vj_S D z (.inr (4, [.ref (z + 1), .ref (z + 2), .null, .null, .null, .null, .int 0, .int 0, .int 0, .int 0, .int 0, .int 0, .int 0]) :: [.inl (cI, 7, .inl (fun _ => 0)), .inl (cI, 7, .inl (fun _ => 0))]) H := hP
  refine lv_aload_n hx hb dX4_init_20 rfl h0 ?_
  refine lv_bipush hx hb (v := 7) dX4_init_21 rfl ?_
  refine vj_newa C hz hP hS (atype := .int) rfl 0 rfl rfl vj_aw.1 (n := 7) (N := 7) (7, .inl (fun _ => 0)) (fun _ => rfl) (by decide) rfl (by decide) (Nat.le_of_ble_eq_true rfl) (Nat.le_of_ble_eq_true rfl) dX4_init_23 (len := 3) rfl (fun H hP hS => ?_)
  have hP : vj_S D z (.inr (4, [.ref (z + 1), .ref (z + 2), .null, .null, .null, .null, .int 0, .int 0, .int 0, .int 0, .int 0, .int 0, .int 0]) :: [.inl (cI, 7, .inl (fun _ => 0)), .inl (cI, 7, .inl (fun _ => 0)), .inl (cI, 7, .inl (fun _ => 0))]) H := hP
  refine vj_put C (by decide) hP hS 2 (by decide) (av_tbl_t (p := 71) (by decide +kernel) (by decide +kernel)) rfl hin (ty := .array .int) rfl rfl rfl (Nat.le_of_ble_eq_true rfl) dX4_init_25 (fun H locs hP hS => ?_)
  have hP : vj_S D z (.inr (4, [.ref (z + 1), .ref (z + 2), .ref (z + 3), .null, .null, .null, .int 0, .int 0, .int 0, .int 0, .int 0, .int 0, .int 0]) :: [.inl (cI, 7, .inl (fun _ => 0)), .inl (cI, 7, .inl (fun _ => 0)), .inl (cI, 7, .inl (fun _ => 0))]) H := hP
  refine lv_aload_n hx hb dX4_init_28 rfl h0 ?_
  refine lv_bipush hx hb (v := 7) dX4_init_29 rfl ?_
  refine vj_newa C hz hP hS (atype := .int) rfl 0 rfl rfl vj_aw.1 (n := 7) (N := 7) (7, .inl (fun _ => 0)) (fun _ => rfl) (by decide) rfl (by decide) (Nat.le_of_ble_eq_true rfl) (Nat.le_of_ble_eq_true rfl) dX4_init_31 (len := 4) rfl (fun H hP hS => ?_)
  have hP : vj_S D z (.inr (4, [.ref (z + 1), .ref (z + 2), .ref (z + 3), .null, .null, .null, .int 0, .int 0, .int 0, .int 0, .int 0, .int 0, .int 0]) :: [.inl (cI, 7, .inl (fun _ => 0)), .inl (cI, 7, .inl (fun _ => 0)), .inl (cI, 7, .inl (fun _ => 0)), .inl (cI, 7, .inl (fun _ => 0))]) H := hP
  refine vj_put C (by decide) hP hS 3 (by decide) (av_tbl_t (p := 74) (by decide +kernel) (by decide +kernel)) rfl hin (ty := .array .int) rfl rfl rfl (Nat.le_of_ble_eq_true rfl) dX4_init_33 (fun H locs hP hS => ?_)
  have hP : vj_S D z (.inr (4, [.ref (z + 1), .ref (z + 2), .ref (z + 3), .ref (z + 4), .null, .null, .int 0, .int 0, .int 0, .int 0, .int 0, .int 0, .int 0]) :: [.inl (cI, 7, .inl (fun _ => 0)), .inl (cI, 7, .inl (fun _ => 0)), .inl (cI, 7, .inl (fun _ => 0)), .inl (cI, 7, .inl (fun _ => 0))]) H := hP
  refine lv_aload_n hx hb dX4_init_36 rfl h0 ?_
  refine lv_bipush hx hb (v := 7) dX4_init_37 rfl ?_
  refine vj_newa C hz hP hS (atype := .int) rfl 0 rfl rfl vj_aw.1 (n := 7) (N := 7) (7, .inl (fun _ => 0)) (fun _ => rfl) (by decide) rfl (by decide) (Nat.le_of_ble_eq_true rfl) (Nat.le_of_ble_eq_true rfl) dX4_init_39 (len := 5) rfl (fun H hP hS => ?_)
  have hP : vj_S D z (.inr (4, [.ref (z + 1), .ref (z + 2), .ref (z + 3), .ref (z + 4), .null, .null, .int 0, .int 0, .int 0, .int 0, .int 0, .int 0, .int 0]) :: [.inl (cI, 7, .inl (fun _ => 0)), .inl (cI, 7, .inl (fun _ => 0)), .inl (cI, 7, .inl (fun _ => 0)), .inl (cI, 7, .inl (fun _ => 0)), .inl (cI, 7, .inl (fun _ => 0))]) H := hP
  refine vj_put C (by decide) hP hS 4 (by decide) (av_tbl_t (p := 76) (by decide +kernel) (by decide +kernel)) rfl hin (ty := .array .int) rfl rfl rfl (Nat.le_of_ble_eq_true rfl) dX4_init_41 (fun H locs hP hS => ?_)
  have hP : vj_S D z (.inr (4, [.ref (z + 1), .ref (z + 2), .ref (z + 3), .ref (z + 4), .ref (z + 5), .null, .int 0, .int 0, .int 0, .int 0, .int 0, .int 0, .int 0]) :: [.inl (cI, 7, .inl (fun _ => 0)), .inl (cI, 7, .inl (fun _ => 0)), .inl (cI, 7, .inl (fun _ => 0)), .inl (cI, 7, .inl (fun _ => 0)), .inl (cI, 7, .inl (fun _ => 0))]) H := hP
  refine lv_aload_n hx hb dX4_init_44 rfl h0 ?_
  refine lv_bipush hx hb (v := 7) dX4_init_45 rfl ?_
  refine vj_newa C hz hP hS (atype := .int) rfl 0 rfl rfl vj_aw.1 (n := 7) (N := 7) (7, .inl (fun _ => 0)) (fun _ => rfl) (by decide) rfl (by decide) (Nat.le_of_ble_eq_true rfl) (Nat.le_of_ble_eq_true rfl) dX4_init_47 (len := 6) rfl (fun H hP hS => ?_)
  have hP : vj_S D z (.inr (4, [.ref (z + 1), .ref (z + 2), .ref (z + 3), .ref (z + 4), .ref (z + 5), .null, .int 0, .int 0, .int 0, .int 0, .int 0, .int 0, .int 0]) :: [.inl (cI, 7, .inl (fun _ => 0)), .inl (cI, 7, .inl (fun _ => 0)), .inl (cI, 7, .inl (fun _ => 0)), .inl (cI, 7, .inl (fun _ => 0)), .inl (cI, 7, .inl (fun _ => 0)), .inl (cI, 7, .inl (fun _ => 0))]) H := hP
  refine vj_put C (by decide) hP hS 5 (by decide) (av_tbl_t (p := 79) (by decide +kernel) (by decide +kernel)) rfl hin (ty := .array .int) rfl rfl rfl (Nat.le_of_ble_eq_true rfl) dX4_init_49 (fun H locs hP hS => ?_)
  have hP : vj_S D z (.inr (4, [.ref (z + 1), .ref (z + 2), .ref (z + 3), .ref (z + 4), .ref (z + 5), .ref (z + 6), .int 0, .int 0, .int 0, .int 0, .int 0, .int 0, .int 0]) :: [.inl (cI, 7, .inl (fun _ => 0)), .inl (cI, 7, .inl (fun _ => 0)), .inl (cI, 7, .inl (fun _ => 0)), .inl (cI, 7, .inl (fun _ => 0)), .inl (cI, 7, .inl (fun _ => 0)), .inl (cI, 7, .inl (fun _ => 0))]) H := hP
  refine lv_aload_n hx hb dX4_init_52 rfl h0 ?_
  refine lv_iconst hx hb (v := 3) dX4_init_53 rfl ?_
  refine vj_put C (by decide) hP hS 11 (by decide) (av_tbl_t (p := 91) (by decide +kernel) (by decide +kernel)) rfl hin (ty := .int) rfl rfl rfl (Nat.le_of_ble_eq_true rfl) dX4_init_54 (fun H locs hP hS => ?_)
  have hP : vj_S D z (.inr (4, [.ref (z + 1), .ref (z + 2), .ref (z + 3), .ref (z + 4), .ref (z + 5), .ref (z + 6), .int 0, .int 0, .int 0, .int 0, .int 0, .int 3, .int 0]) :: [.inl (cI, 7, .inl (fun _ => 0)), .inl (cI, 7, .inl (fun _ => 0)), .inl (cI, 7, .inl (fun _ => 0)), .inl (cI, 7, .inl (fun _ => 0)), .inl (cI, 7, .inl (fun _ => 0)), .inl (cI, 7, .inl (fun _ => 0))]) H := hP
  exact W.vret hx hb hr (fun t ht hW => ⟨rfl, by rw [ht]; exact hP, hS.F ht⟩) hS.2.2 dX4_init_57
theorem dX3_init_0 : decode cX3_init 0 = .ok (.aload_n 0, 1) := by decide +kernel
theorem dX3_init_1 : decode cX3_init 1 = .ok (.invokespecial 1, 3) := by decide +kernel
theorem dX3_init_4 : decode cX3_init 4 = .ok (.aload_n 0, 1) := by decide +kernel
theorem dX3_init_5 : decode cX3_init 5 = .ok (.bipush 40, 2) := by decide +kernel
theorem dX3_init_7 : decode cX3_init 7 = .ok (.newarray .int, 2) := by decide +kernel
theorem dX3_init_9 : decode cX3_init 9 = .ok (.putfield 9, 3) := by decide +kernel
theorem dX3_init_12 : decode cX3_init 12 = .ok (.aload_n 0, 1) := by decide +kernel
theorem dX3_init_13 : decode cX3_init 13 = .ok (.bipush 40, 2) := by decide +kernel
theorem dX3_init_15 : decode cX3_init 15 = .ok (.newarray .int, 2) := by decide +kernel
theorem dX3_init_17 : decode cX3_init 17 = .ok (.putfield 13, 3) := by decide +kernel
theorem dX3_init_20 : decode cX3_init 20 = .ok (.aload_n 0, 1) := by decide +kernel
theorem dX3_init_21 : decode cX3_init 21 = .ok (.bipush 40, 2) := by decide +kernel
theorem dX3_init_23 : decode cX3_init 23 = .ok (.newarray .int, 2) := by decide +kernel
theorem dX3_init_25 : decode cX3_init 25 = .ok (.putfield 16, 3) := by decide +kernel
theorem dX3_init_28 : decode cX3_init 28 = .ok (.aload_n 0, 1) := by decide +kernel
theorem dX3_init_29 : decode cX3_init 29 = .ok (.getfield 9, 3) := by decide +kernel
theorem dX3_init_32 : decode cX3_init 32 = .ok (.iconst 0, 1) := by decide +kernel
theorem dX3_init_33 : decode cX3_init 33 = .ok (.sipush 1107, 3) := by decide +kernel
theorem dX3_init_36 : decode cX3_init 36 = .ok (.iastore, 1) := by decide +kernel
theorem dX3_init_37 : decode cX3_init 37 = .ok (.aload_n 0, 1) := by decide +kernel
theorem dX3_init_38 : decode cX3_init 38 = .ok (.iconst 1, 1) := by decide +kernel
theorem dX3_init_39 : decode cX3_init 39 = .ok (.putfield 19, 3) := by decide +kernel
theorem dX3_init_42 : decode cX3_init 42 = .ok (.return_, 1) := by decide +kernel
def vjF3 (cI cJ cZ : ClassId) (z : Nat) : List va_E := .inr (3, [.ref (z + 1), .ref (z + 2), .ref (z + 3), .int 1, .int 0, .int 0, .int 0, .int 0, .int 0]) :: [.inl (cI, 40, .inl (upd (fun _ => 0) 0 1107)), .inl (cI, 40, .inl (fun _ => 0)), .inl (cI, 40, .inl (fun _ => 0))]
def vj_rm3 : Room := { frames := 2, cells := 3, slots := 120, locals := 40 }
theorem vj_df3 : ∀ j, j < av_nf 3 → defaultValue (av_ty 3 j) = vp_V [.null, .null, .null, .int 0, .int 0, .int 0, .int 0, .int 0, .int 0] j := by decide +kernel
set_option maxRecDepth 40000 in
theorem vj_ctor3 (l : Launch) (D : va_G) (cI cJ cZ : ClassId) (z : Nat) : Met l yX3_init (Cond.code yX3_init cX3_init 1 none :: av_tbl) vj_rm3 (vj_P D cI cJ cZ [.ref z] z 3 [.null, .null, .null, .int 0, .int 0, .int 0, .int 0, .int 0, .int 0]) (vj_Q D z (vjF3 cI cJ cZ z)) 3 120 (vj_A z) := by
  refine Met.ofW (cc := cX3_init) (maxL := 1) (ret := none) (by decide) rfl ?_
  intro p e s m args below meth c s₁ B hml hv
  obtain ⟨rfl, hP, hK⟩ := hv
  have hx := B.exec
  have hb := B.bytes
  have hr := B.returns
  have hts0 := atoms_spec (ws := Cond.code yX3_init cX3_init 1 none :: av_tbl) B.pre
  have hts : ∀ w ∈ av_tbl, w.before _ s = true := fun w hw => hts0 w (List.mem_cons_of_mem _ hw)
  have hown : s.vm.findClass (av_cn 3) = some m.cls := findClass_of_methodNamed B.named
  have hin : meth.name = "<init>" := (name_of_methodNamed B.named B.method).1
  have hlocks := B.notSynchronized
  have C : vj_C p c cX3_init s m _ 3 D cI cJ cZ := ⟨hx, hb, hown, hts, hK⟩
  have hz : z ≤ s.heap.size := by rw [hP.2]; exact Nat.le_add_right _ _
  have hS : va_S (vj_A z) s.heap s.heap [] := va_S.rf
  have hl := lv_entry ([.ref z]) (n := 1) (Nat.le_of_ble_eq_true rfl)
  rw [lg_entry_eq]
  generalize (lg_sl ([.ref z]) ++ List.replicate (1 - (lg_sl ([.ref z])).length) Slot.unset).toArray = ls at hl ⊢
  have hl : lv_has ls 1 [(0, .ref z)] := hl
  have h0 := lv_at hl 0 rfl
  obtain ⟨H, hH⟩ : ∃ H, H = s.heap := ⟨_, rfl⟩
  have hP : vj_S D z [.inr (3, [.null, .null, .null, .int 0, .int 0, .int 0, .int 0, .int 0, .int 0])] H := by rw [hH]; exact hP
  have hS : va_S (vj_A z) s.heap H [] := by rw [hH]; exact hS
  rw [← hH]
  refine lv_aload_n hx hb dX3_init_0 rfl h0 ?_
  refine W.objInit hx hb hown (hts _ (av_tbl_t (p := 129) (by decide +kernel) (by decide +kernel))) (hts _ vj_ob.1) (hts _ vj_ob.2) rfl (by rw [hml]; exact hl.1) rfl dX3_init_1 (Nat.le_of_ble_eq_true rfl) (Nat.le_of_ble_eq_true rfl) ?_
  refine W.eq (g2 := F0 m 4 ls []) rfl ?_
  refine lv_aload_n hx hb dX3_init_4 rfl h0 ?_
  refine lv_bipush hx hb (v := 40) dX3_init_5 rfl ?_
  refine vj_newa C hz hP hS (atype := .int) rfl 0 rfl rfl vj_aw.1 (n := 40) (N := 40) (40, .inl (fun _ => 0)) (fun _ => rfl) (by decide) rfl (by decide) (Nat.le_of_ble_eq_true rfl) (Nat.le_of_ble_eq_true rfl) dX3_init_7 (len := 1) rfl (fun H hP hS => ?_)
  have hP : vj_S D z (.inr (3, [.null, .null, .null, .int 0, .int 0, .int 0, .int 0, .int 0, .int 0]) :: [.inl (cI, 40, .inl (fun _ => 0))]) H := hP
  refine vj_put C (by decide) hP hS 0 (by decide) (av_tbl_t (p := 130) (by decide +kernel) (by decide +kernel)) rfl hin (ty := .array .int) rfl rfl rfl (Nat.le_of_ble_eq_true rfl) dX3_init_9 (fun H locs hP hS => ?_)
  have hP : vj_S D z (.inr (3, [.ref (z + 1), .null, .null, .int 0, .int 0, .int 0, .int 0, .int 0, .int 0]) :: [.inl (cI, 40, .inl (fun _ => 0))]) H := hP
  refine lv_aload_n hx hb dX3_init_12 rfl h0 ?_
  refine lv_bipush hx hb (v := 40) dX3_init_13 rfl ?_
  refine vj_newa C hz hP hS (atype := .int) rfl 0 rfl rfl vj_aw.1 (n := 40) (N := 40) (40, .inl (fun _ => 0)) (fun _ => rfl) (by decide) rfl (by decide) (Nat.le_of_ble_eq_true rfl) (Nat.le_of_ble_eq_true rfl) dX3_init_15 (len := 2) rfl (fun H hP hS => ?_)
  have hP : vj_S D z (.inr (3, [.ref (z + 1), .null, .null, .int 0, .int 0, .int 0, .int 0, .int 0, .int 0]) :: [.inl (cI, 40, .inl (fun _ => 0)), .inl (cI, 40, .inl (fun _ => 0))]) H := hP
  refine vj_put C (by decide) hP hS 1 (by decide) (av_tbl_t (p := 131) (by decide +kernel) (by decide +kernel)) rfl hin (ty := .array .int) rfl rfl rfl (Nat.le_of_ble_eq_true rfl) dX3_init_17 (fun H locs hP hS => ?_)
  have hP : vj_S D z (.inr (3, [.ref (z + 1), .ref (z + 2), .null, .int 0, .int 0, .int 0, .int 0, .int 0, .int 0]) :: [.inl (cI, 40, .inl (fun _ => 0)), .inl (cI, 40, .inl (fun _ => 0))]) H := hP
  refine lv_aload_n hx hb dX3_init_20 rfl h0 ?_
  refine lv_bipush hx hb (v := 40) dX3_init_21 rfl ?_
  refine vj_newa C hz hP hS (atype := .int) rfl 0 rfl rfl vj_aw.1 (n := 40) (N := 40) (40, .inl (fun _ => 0)) (fun _ => rfl) (by decide) rfl (by decide) (Nat.le_of_ble_eq_true rfl) (Nat.le_of_ble_eq_true rfl) dX3_init_23 (len := 3) rfl (fun H hP hS => ?_)
  have hP : vj_S D z (.inr (3, [.ref (z + 1), .ref (z + 2), .null, .int 0, .int 0, .int 0, .int 0, .int 0, .int 0]) :: [.inl (cI, 40, .inl (fun _ => 0)), .inl (cI, 40, .inl (fun _ => 0)), .inl (cI, 40, .inl (fun _ => 0))]) H := hP
  refine vj_put C (by decide) hP hS 2 (by decide) (av_tbl_t (p := 132) (by decide +kernel) (by decide +kernel)) rfl hin (ty := .array .int) rfl rfl rfl (Nat.le_of_ble_eq_true rfl) dX3_init_25 (fun H locs hP hS => ?_)
  have hP : vj_S D z (.inr (3, [.ref (z + 1), .ref (z + 2), .ref (z + 3), .int 0, .int 0, .int 0, .int 0, .int 0, .int 0]) :: [.inl (cI, 40, .inl (fun _ => 0)), .inl (cI, 40, .inl (fun _ => 0)), .inl (cI, 40, .inl (fun _ => 0))]) H := hP
  refine lv_aload_n hx hb dX3_init_28 rfl h0 ?_
  refine va_get (a := z) hx hb hts (av_lays 3 (by decide)) hown hK.1 hP.1 0 rfl (av_cls 3 (by decide)) 0 (by decide) (hts _ (av_tbl_t (p := 130) (by decide +kernel) (by decide +kernel))) (fun _ h => h) (v := .ref (z + 1)) rfl dX3_init_29 ?_
  refine lv_iconst hx hb (v := 0) dX3_init_32 rfl ?_
  refine lv_sipush hx hb (v := 1107) dX3_init_33 rfl ?_
  refine vj_iast C hP hS 1 rfl (i := 0) (x := 1107) (by unfold vp_in; decide) dX3_init_36 (fun H locs hP hS => ?_)
  have hP : vj_S D z (.inr (3, [.ref (z + 1), .ref (z + 2), .ref (z + 3), .int 0, .int 0, .int 0, .int 0, .int 0, .int 0]) :: [.inl (cI, 40, .inl (upd (fun _ => 0) 0 1107)), .inl (cI, 40, .inl (fun _ => 0)), .inl (cI, 40, .inl (fun _ => 0))]) H := hP
  refine lv_aload_n hx hb dX3_init_37 rfl h0 ?_
  refine lv_iconst hx hb (v := 1) dX3_init_38 rfl ?_
  refine vj_put C (by decide) hP hS 3 (by decide) (av_tbl_t (p := 133) (by decide +kernel) (by decide +kernel)) rfl hin (ty := .int) rfl rfl rfl (Nat.le_of_ble_eq_true rfl) dX3_init_39 (fun H locs hP hS => ?_)
  have hP : vj_S D z (.inr (3, [.ref (z + 1), .ref (z + 2), .ref (z + 3), .int 1, .int 0, .int 0, .int 0, .int 0, .int 0]) :: [.inl (cI, 40, .inl (upd (fun _ => 0) 0 1107)), .inl (cI, 40, .inl (fun _ => 0)), .inl (cI, 40, .inl (fun _ => 0))]) H := hP
  exact W.vret hx hb hr (fun t ht hW => ⟨rfl, by rw [ht]; exact hP, hS.F ht⟩) hS.2.2 dX3_init_42
theorem dX1_init_0 : decode cX1_init 0 = .ok (.aload_n 0, 1) := by decide +kernel
theorem dX1_init_1 : decode cX1_init 1 = .ok (.invokespecial 3, 3) := by decide +kernel
theorem dX1_init_4 : decode cX1_init 4 = .ok (.aload_n 0, 1) := by decide +kernel
theorem dX1_init_5 : decode cX1_init 5 = .ok (.sipush 528, 3) := by decide +kernel
theorem dX1_init_8 : decode cX1_init 8 = .ok (.newarray .int, 2) := by decide +kernel
theorem dX1_init_10 : decode cX1_init 10 = .ok (.putfield 11, 3) := by decide +kernel
theorem dX1_init_13 : decode cX1_init 13 = .ok (.aload_n 0, 1) := by decide +kernel
theorem dX1_init_14 : decode cX1_init 14 = .ok (.bipush 99, 2) := by decide +kernel
theorem dX1_init_16 : decode cX1_init 16 = .ok (.newarray .int, 2) := by decide +kernel
theorem dX1_init_18 : decode cX1_init 18 = .ok (.putfield 15, 3) := by decide +kernel
theorem dX1_init_21 : decode cX1_init 21 = .ok (.return_, 1) := by decide +kernel
def vjF1 (cI cJ cZ : ClassId) (z : Nat) : List va_E := .inr (1, [.ref (z + 1), .ref (z + 2), .int 0, .int 0, .int 0]) :: [.inl (cI, 528, .inl (fun _ => 0)), .inl (cI, 99, .inl (fun _ => 0))]
def vj_rm1 : Room := { frames := 2, cells := 2, slots := 627, locals := 40 }
theorem vj_df1 : ∀ j, j < av_nf 1 → defaultValue (av_ty 1 j) = vp_V [.null, .null, .int 0, .int 0, .int 0] j := by decide +kernel
set_option maxRecDepth 40000 in
theorem vj_ctor1 (l : Launch) (D : va_G) (cI cJ cZ : ClassId) (z : Nat) : Met l yX1_init (Cond.code yX1_init cX1_init 1 none :: av_tbl) vj_rm1 (vj_P D cI cJ cZ [.ref z] z 1 [.null, .null, .int 0, .int 0, .int 0]) (vj_Q D z (vjF1 cI cJ cZ z)) 2 627 (vj_A z) := by
  refine Met.ofW (cc := cX1_init) (maxL := 1) (ret := none) (by decide) rfl ?_
  intro p e s m args below meth c s₁ B hml hv
  obtain ⟨rfl, hP, hK⟩ := hv
  have hx := B.exec
  have hb := B.bytes
  have hr := B.returns
  have hts0 := atoms_spec (ws := Cond.code yX1_init cX1_init 1 none :: av_tbl) B.pre
  have hts : ∀ w ∈ av_tbl, w.before _ s = true := fun w hw => hts0 w (List.mem_cons_of_mem _ hw)
  have hown : s.vm.findClass (av_cn 1) = some m.cls := findClass_of_methodNamed B.named
  have hin : meth.name = "<init>" := (name_of_methodNamed B.named B.method).1
  have hlocks := B.notSynchronized
  have C : vj_C p c cX1_init s m _ 1 D cI cJ cZ := ⟨hx, hb, hown, hts, hK⟩
  have hz : z ≤ s.heap.size := by rw [hP.2]; exact Nat.le_add_right _ _
  have hS : va_S (vj_A z) s.heap s.heap [] := va_S.rf
  have hl := lv_entry ([.ref z]) (n := 1) (Nat.le_of_ble_eq_true rfl)
  rw [lg_entry_eq]
  generalize (lg_sl ([.ref z]) ++ List.replicate (1 - (lg_sl ([.ref z])).length) Slot.unset).toArray = ls at hl ⊢
  have hl : lv_has ls 1 [(0, .ref z)] := hl
  have h0 := lv_at hl 0 rfl
  obtain ⟨H, hH⟩ : ∃ H, H = s.heap := ⟨_, rfl⟩
  have hP : vj_S D z [.inr (1, [.null, .null, .int 0, .int 0, .int 0])] H := by rw [hH]; exact hP
  have hS : va_S (vj_A z) s.heap H [] := by rw [hH]; exact hS
  rw [← hH]
  refine lv_aload_n hx hb dX1_init_0 rfl h0 ?_
  refine W.objInit hx hb hown (hts _ (av_tbl_t (p := 163) (by decide +kernel) (by decide +kernel))) (hts _ vj_ob.1) (hts _ vj_ob.2) rfl (by rw [hml]; exact hl.1) rfl dX1_init_1 (Nat.le_of_ble_eq_true rfl) (Nat.le_of_ble_eq_true rfl) ?_
  refine W.eq (g2 := F0 m 4 ls []) rfl ?_
  refine lv_aload_n hx hb dX1_init_4 rfl h0 ?_
  refine lv_sipush hx hb (v := 528) dX1_init_5 rfl ?_
  refine vj_newa C hz hP hS (atype := .int) rfl 0 rfl rfl vj_aw.1 (n := 528) (N := 528) (528, .inl (fun _ => 0)) (fun _ => rfl) (by decide) rfl (by decide) (Nat.le_of_ble_eq_true rfl) (Nat.le_of_ble_eq_true rfl) dX1_init_8 (len := 1) rfl (fun H hP hS => ?_)
  have hP : vj_S D z (.inr (1, [.null, .null, .int 0, .int 0, .int 0]) :: [.inl (cI, 528, .inl (fun _ => 0))]) H := hP
  refine vj_put C (by decide) hP hS 0 (by decide) (av_tbl_t (p := 164) (by decide +kernel) (by decide +kernel)) rfl hin (ty := .array .int) rfl rfl rfl (Nat.le_of_ble_eq_true rfl) dX1_init_10 (fun H locs hP hS => ?_)
  have hP : vj_S D z (.inr (1, [.ref (z + 1), .null, .int 0, .int 0, .int 0]) :: [.inl (cI, 528, .inl (fun _ => 0))]) H := hP
  refine lv_aload_n hx hb dX1_init_13 rfl h0 ?_
  refine lv_bipush hx hb (v := 99) dX1_init_14 rfl ?_
  refine vj_newa C hz hP hS (atype := .int) rfl 0 rfl rfl vj_aw.1 (n := 99) (N := 99) (99, .inl (fun _ => 0)) (fun _ => rfl) (by decide) rfl (by decide) (Nat.le_of_ble_eq_true rfl) (Nat.le_of_ble_eq_true rfl) dX1_init_16 (len := 2) rfl (fun H hP hS => ?_)
  have hP : vj_S D z (.inr (1, [.ref (z + 1), .null, .int 0, .int 0, .int 0]) :: [.inl (cI, 528, .inl (fun _ => 0)), .inl (cI, 99, .inl (fun _ => 0))]) H := hP
  refine vj_put C (by decide) hP hS 1 (by decide) (av_tbl_t (p := 165) (by decide +kernel) (by decide +kernel)) rfl hin (ty := .array .int) rfl rfl rfl (Nat.le_of_ble_eq_true rfl) dX1_init_18 (fun H locs hP hS => ?_)
  have hP : vj_S D z (.inr (1, [.ref (z + 1), .ref (z + 2), .int 0, .int 0, .int 0]) :: [.inl (cI, 528, .inl (fun _ => 0)), .inl (cI, 99, .inl (fun _ => 0))]) H := hP
  exact W.vret hx hb hr (fun t ht hW => ⟨rfl, by rw [ht]; exact hP, hS.F ht⟩) hS.2.2 dX1_init_21
theorem dX0_init_0 : decode cX0_init 0 = .ok (.aload_n 0, 1) := by decide +kernel
theorem dX0_init_1 : decode cX0_init 1 = .ok (.invokespecial 3, 3) := by decide +kernel
theorem dX0_init_4 : decode cX0_init 4 = .ok (.aload_n 0, 1) := by decide +kernel
theorem dX0_init_5 : decode cX0_init 5 = .ok (.bipush 12, 2) := by decide +kernel
theorem dX0_init_7 : decode cX0_init 7 = .ok (.newarray .int, 2) := by decide +kernel
theorem dX0_init_9 : decode cX0_init 9 = .ok (.putfield 11, 3) := by decide +kernel
theorem dX0_init_12 : decode cX0_init 12 = .ok (.aload_n 0, 1) := by decide +kernel
theorem dX0_init_13 : decode cX0_init 13 = .ok (.bipush 12, 2) := by decide +kernel
theorem dX0_init_15 : decode cX0_init 15 = .ok (.newarray .int, 2) := by decide +kernel
theorem dX0_init_17 : decode cX0_init 17 = .ok (.putfield 15, 3) := by decide +kernel
theorem dX0_init_20 : decode cX0_init 20 = .ok (.aload_n 0, 1) := by decide +kernel
theorem dX0_init_21 : decode cX0_init 21 = .ok (.bipush 12, 2) := by decide +kernel
theorem dX0_init_23 : decode cX0_init 23 = .ok (.newarray .int, 2) := by decide +kernel
theorem dX0_init_25 : decode cX0_init 25 = .ok (.putfield 18, 3) := by decide +kernel
theorem dX0_init_28 : decode cX0_init 28 = .ok (.aload_n 0, 1) := by decide +kernel
theorem dX0_init_29 : decode cX0_init 29 = .ok (.iload_n 1, 1) := by decide +kernel
theorem dX0_init_30 : decode cX0_init 30 = .ok (.putfield 21, 3) := by decide +kernel
theorem dX0_init_33 : decode cX0_init 33 = .ok (.return_, 1) := by decide +kernel
def vjF0 (cI cJ cZ : ClassId) (z : Nat) (a : Int32) : List va_E := .inr (0, [.ref (z + 1), .ref (z + 2), .ref (z + 3), .int a, .int 0]) :: [.inl (cI, 12, .inl (fun _ => 0)), .inl (cI, 12, .inl (fun _ => 0)), .inl (cI, 12, .inl (fun _ => 0))]
def vj_rm0 : Room := { frames := 2, cells := 3, slots := 36, locals := 40 }
theorem vj_df0 : ∀ j, j < av_nf 0 → defaultValue (av_ty 0 j) = vp_V [.null, .null, .null, .int 0, .int 0] j := by decide +kernel
set_option maxRecDepth 40000 in
theorem vj_ctor0 (l : Launch) (D : va_G) (cI cJ cZ : ClassId) (z : Nat) (a : Int32) : Met l yX0_init (Cond.code yX0_init cX0_init 2 none :: av_tbl) vj_rm0 (vj_P D cI cJ cZ [.ref z, .int a] z 0 [.null, .null, .null, .int 0, .int 0]) (vj_Q D z (vjF0 cI cJ cZ z a)) 3 36 (vj_A z) := by
  refine Met.ofW (cc := cX0_init) (maxL := 2) (ret := none) (by decide) rfl ?_
  intro p e s m args below meth c s₁ B hml hv
  obtain ⟨rfl, hP, hK⟩ := hv
  have hx := B.exec
  have hb := B.bytes
  have hr := B.returns
  have hts0 := atoms_spec (ws := Cond.code yX0_init cX0_init 2 none :: av_tbl) B.pre
  have hts : ∀ w ∈ av_tbl, w.before _ s = true := fun w hw => hts0 w (List.mem_cons_of_mem _ hw)
  have hown : s.vm.findClass (av_cn 0) = some m.cls := findClass_of_methodNamed B.named
  have hin : meth.name = "<init>" := (name_of_methodNamed B.named B.method).1
  have hlocks := B.notSynchronized
  have C : vj_C p c cX0_init s m _ 0 D cI cJ cZ := ⟨hx, hb, hown, hts, hK⟩
  have hz : z ≤ s.heap.size := by rw [hP.2]; exact Nat.le_add_right _ _
  have hS : va_S (vj_A z) s.heap s.heap [] := va_S.rf
  have hl := lv_entry ([.ref z, .int a]) (n := 2) (Nat.le_of_ble_eq_true rfl)
  rw [lg_entry_eq]
  generalize (lg_sl ([.ref z, .int a]) ++ List.replicate (2 - (lg_sl ([.ref z, .int a])).length) Slot.unset).toArray = ls at hl ⊢
  have hl : lv_has ls 2 [(0, .ref z), (1, .int a)] := hl
  have h0 := lv_at hl 0 rfl
  obtain ⟨H, hH⟩ : ∃ H, H = s.heap := ⟨_, rfl⟩
  have hP : vj_S D z [.inr (0, [.null, .null, .null, .int 0, .int 0])] H := by rw [hH]; exact hP
  have hS : va_S (vj_A z) s.heap H [] := by rw [hH]; exact hS
  rw [← hH]
  refine lv_aload_n hx hb dX0_init_0 rfl h0 ?_
  refine W.objInit hx hb hown (hts _ (av_tbl_t (p := 186) (by decide +kernel) (by decide +kernel))) (hts _ vj_ob.1) (hts _ vj_ob.2) rfl (by rw [hml]; exact hl.1) rfl dX0_init_1 (Nat.le_of_ble_eq_true rfl) (Nat.le_of_ble_eq_true rfl) ?_
  refine W.eq (g2 := F0 m 4 ls []) rfl ?_
  refine lv_aload_n hx hb dX0_init_4 rfl h0 ?_
  refine lv_bipush hx hb (v := 12) dX0_init_5 rfl ?_
  refine vj_newa C hz hP hS (atype := .int) rfl 0 rfl rfl vj_aw.1 (n := 12) (N := 12) (12, .inl (fun _ => 0)) (fun _ => rfl) (by decide) rfl (by decide) (Nat.le_of_ble_eq_true rfl) (Nat.le_of_ble_eq_true rfl) dX0_init_7 (len := 1) rfl (fun H hP hS => ?_)
  have hP : vj_S D z (.inr (0, [.null, .null, .null, .int 0, .int 0]) :: [.inl (cI, 12, .inl (fun _ => 0))]) H := hP
  refine vj_put C (by decide) hP hS 0 (by decide) (av_tbl_t (p := 187) (by decide +kernel) (by decide +kernel)) rfl hin (ty := .array .int) rfl rfl rfl (Nat.le_of_ble_eq_true rfl) dX0_init_9 (fun H locs hP hS => ?_)
  have hP : vj_S D z (.inr (0, [.ref (z + 1), .null, .null, .int 0, .int 0]) :: [.inl (cI, 12, .inl (fun _ => 0))]) H := hP
  refine lv_aload_n hx hb dX0_init_12 rfl h0 ?_
  refine lv_bipush hx hb (v := 12) dX0_init_13 rfl ?_
  refine vj_newa C hz hP hS (atype := .int) rfl 0 rfl rfl vj_aw.1 (n := 12) (N := 12) (12, .inl (fun _ => 0)) (fun _ => rfl) (by decide) rfl (by decide) (Nat.le_of_ble_eq_true rfl) (Nat.le_of_ble_eq_true rfl) dX0_init_15 (len := 2) rfl (fun H hP hS => ?_)
  have hP : vj_S D z (.inr (0, [.ref (z + 1), .null, .null, .int 0, .int 0]) :: [.inl (cI, 12, .inl (fun _ => 0)), .inl (cI, 12, .inl (fun _ => 0))]) H := hP
  refine vj_put C (by decide) hP hS 1 (by decide) (av_tbl_t (p := 189) (by decide +kernel) (by decide +kernel)) rfl hin (ty := .array .int) rfl rfl rfl (Nat.le_of_ble_eq_true rfl) dX0_init_17 (fun H locs hP hS => ?_)
  have hP : vj_S D z (.inr (0, [.ref (z + 1), .ref (z + 2), .null, .int 0, .int 0]) :: [.inl (cI, 12, .inl (fun _ => 0)), .inl (cI, 12, .inl (fun _ => 0))]) H := hP
  refine lv_aload_n hx hb dX0_init_20 rfl h0 ?_
  refine lv_bipush hx hb (v := 12) dX0_init_21 rfl ?_
  refine vj_newa C hz hP hS (atype := .int) rfl 0 rfl rfl vj_aw.1 (n := 12) (N := 12) (12, .inl (fun _ => 0)) (fun _ => rfl) (by decide) rfl (by decide) (Nat.le_of_ble_eq_true rfl) (Nat.le_of_ble_eq_true rfl) dX0_init_23 (len := 3) rfl (fun H hP hS => ?_)
  have hP : vj_S D z (.inr (0, [.ref (z + 1), .ref (z + 2), .null, .int 0, .int 0]) :: [.inl (cI, 12, .inl (fun _ => 0)), .inl (cI, 12, .inl (fun _ => 0)), .inl (cI, 12, .inl (fun _ => 0))]) H := hP
  refine vj_put C (by decide) hP hS 2 (by decide) (av_tbl_t (p := 191) (by decide +kernel) (by decide +kernel)) rfl hin (ty := .array .int) rfl rfl rfl (Nat.le_of_ble_eq_true rfl) dX0_init_25 (fun H locs hP hS => ?_)
  have hP : vj_S D z (.inr (0, [.ref (z + 1), .ref (z + 2), .ref (z + 3), .int 0, .int 0]) :: [.inl (cI, 12, .inl (fun _ => 0)), .inl (cI, 12, .inl (fun _ => 0)), .inl (cI, 12, .inl (fun _ => 0))]) H := hP
  refine lv_aload_n hx hb dX0_init_28 rfl h0 ?_
  refine lv_iload_n hx hb dX0_init_29 rfl (lv_at hl 1 rfl) ?_
  refine vj_put C (by decide) hP hS 3 (by decide) (av_tbl_t (p := 193) (by decide +kernel) (by decide +kernel)) rfl hin (ty := .int) rfl rfl rfl (Nat.le_of_ble_eq_true rfl) dX0_init_30 (fun H locs hP hS => ?_)
  have hP : vj_S D z (.inr (0, [.ref (z + 1), .ref (z + 2), .ref (z + 3), .int a, .int 0]) :: [.inl (cI, 12, .inl (fun _ => 0)), .inl (cI, 12, .inl (fun _ => 0)), .inl (cI, 12, .inl (fun _ => 0))]) H := hP
  exact W.vret hx hb hr (fun t ht hW => ⟨rfl, by rw [ht]; exact hP, hS.F ht⟩) hS.2.2 dX0_init_33
