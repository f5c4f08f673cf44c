/-! SOUNDNESS: the JDK's own String.length and charAt, over the constants -/
theorem dJ0_length_8abf5_0 : decode cJ0_length_8abf5 0 = .ok (.aload_n 0, 1) := by decide +kernel
theorem dJ0_length_8abf5_1 : decode cJ0_length_8abf5 1 = .ok (.getfield 9, 3) := by decide +kernel
theorem dJ0_length_8abf5_4 : decode cJ0_length_8abf5 4 = .ok (.arraylength, 1) := by decide +kernel
theorem dJ0_length_8abf5_5 : decode cJ0_length_8abf5 5 = .ok (.aload_n 0, 1) := by decide +kernel
theorem dJ0_length_8abf5_6 : decode cJ0_length_8abf5 6 = .ok (.invokevirtual 335, 3) := by decide +kernel
theorem dJ0_length_8abf5_9 : decode cJ0_length_8abf5 9 = .ok (.ishr, 1) := by decide +kernel
theorem dJ0_length_8abf5_10 : decode cJ0_length_8abf5 10 = .ok (.ireturn, 1) := by decide +kernel
theorem dJ0_charAt_5068e_0 : decode cJ0_charAt_5068e 0 = .ok (.aload_n 0, 1) := by decide +kernel
theorem dJ0_charAt_5068e_1 : decode cJ0_charAt_5068e 1 = .ok (.invokevirtual 492, 3) := by decide +kernel
theorem dJ0_charAt_5068e_4 : decode cJ0_charAt_5068e 4 = .ok (.ifCond .eq 12, 3) := by decide +kernel
theorem dJ0_charAt_5068e_7 : decode cJ0_charAt_5068e 7 = .ok (.aload_n 0, 1) := by decide +kernel
theorem dJ0_charAt_5068e_8 : decode cJ0_charAt_5068e 8 = .ok (.getfield 9, 3) := by decide +kernel
theorem dJ0_charAt_5068e_11 : decode cJ0_charAt_5068e 11 = .ok (.iload_n 1, 1) := by decide +kernel
theorem dJ0_charAt_5068e_12 : decode cJ0_charAt_5068e 12 = .ok (.invokestatic 495, 3) := by decide +kernel
theorem dJ0_charAt_5068e_15 : decode cJ0_charAt_5068e 15 = .ok (.ireturn, 1) := by decide +kernel
theorem dJ0_charAt_5068e_16 : decode cJ0_charAt_5068e 16 = .ok (.aload_n 0, 1) := by decide +kernel
theorem dJ0_charAt_5068e_17 : decode cJ0_charAt_5068e 17 = .ok (.getfield 9, 3) := by decide +kernel
theorem dJ0_charAt_5068e_20 : decode cJ0_charAt_5068e 20 = .ok (.iload_n 1, 1) := by decide +kernel
theorem dJ0_charAt_5068e_21 : decode cJ0_charAt_5068e 21 = .ok (.invokestatic 498, 3) := by decide +kernel
theorem dJ0_charAt_5068e_24 : decode cJ0_charAt_5068e 24 = .ok (.ireturn, 1) := by decide +kernel
theorem dJ0_coder_7d493_0 : decode cJ0_coder_7d493 0 = .ok (.getstatic 38, 3) := by decide +kernel
theorem dJ0_coder_7d493_3 : decode cJ0_coder_7d493 3 = .ok (.ifCond .eq 10, 3) := by decide +kernel
theorem dJ0_coder_7d493_6 : decode cJ0_coder_7d493 6 = .ok (.aload_n 0, 1) := by decide +kernel
theorem dJ0_coder_7d493_7 : decode cJ0_coder_7d493 7 = .ok (.getfield 15, 3) := by decide +kernel
theorem dJ0_coder_7d493_10 : decode cJ0_coder_7d493 10 = .ok (.goto 4, 3) := by decide +kernel
theorem dJ0_coder_7d493_13 : decode cJ0_coder_7d493 13 = .ok (.iconst 1, 1) := by decide +kernel
theorem dJ0_coder_7d493_14 : decode cJ0_coder_7d493 14 = .ok (.ireturn, 1) := by decide +kernel
theorem dJ0_isLatin1_aae02_0 : decode cJ0_isLatin1_aae02 0 = .ok (.getstatic 38, 3) := by decide +kernel
theorem dJ0_isLatin1_aae02_3 : decode cJ0_isLatin1_aae02 3 = .ok (.ifCond .eq 14, 3) := by decide +kernel
theorem dJ0_isLatin1_aae02_6 : decode cJ0_isLatin1_aae02 6 = .ok (.aload_n 0, 1) := by decide +kernel
theorem dJ0_isLatin1_aae02_7 : decode cJ0_isLatin1_aae02 7 = .ok (.getfield 15, 3) := by decide +kernel
theorem dJ0_isLatin1_aae02_10 : decode cJ0_isLatin1_aae02 10 = .ok (.ifCond .ne 7, 3) := by decide +kernel
theorem dJ0_isLatin1_aae02_13 : decode cJ0_isLatin1_aae02 13 = .ok (.iconst 1, 1) := by decide +kernel
theorem dJ0_isLatin1_aae02_14 : decode cJ0_isLatin1_aae02 14 = .ok (.goto 4, 3) := by decide +kernel
theorem dJ0_isLatin1_aae02_17 : decode cJ0_isLatin1_aae02 17 = .ok (.iconst 0, 1) := by decide +kernel
theorem dJ0_isLatin1_aae02_18 : decode cJ0_isLatin1_aae02 18 = .ok (.ireturn, 1) := by decide +kernel
theorem dJ0_checkIndex_df160_0 : decode cJ0_checkIndex_df160 0 = .ok (.iload_n 0, 1) := by decide +kernel
theorem dJ0_checkIndex_df160_1 : decode cJ0_checkIndex_df160 1 = .ok (.iload_n 1, 1) := by decide +kernel
theorem dJ0_checkIndex_df160_2 : decode cJ0_checkIndex_df160 2 = .ok (.getstatic 1053, 3) := by decide +kernel
theorem dJ0_checkIndex_df160_5 : decode cJ0_checkIndex_df160 5 = .ok (.invokestatic 1059, 3) := by decide +kernel
theorem dJ0_checkIndex_df160_8 : decode cJ0_checkIndex_df160 8 = .ok (.pop, 1) := by decide +kernel
theorem dJ0_checkIndex_df160_9 : decode cJ0_checkIndex_df160 9 = .ok (.return_, 1) := by decide +kernel
theorem dJ1_charAt_3b067_0 : decode cJ1_charAt_3b067 0 = .ok (.iload_n 1, 1) := by decide +kernel
theorem dJ1_charAt_3b067_1 : decode cJ1_charAt_3b067 1 = .ok (.aload_n 0, 1) := by decide +kernel
theorem dJ1_charAt_3b067_2 : decode cJ1_charAt_3b067 2 = .ok (.arraylength, 1) := by decide +kernel
theorem dJ1_charAt_3b067_3 : decode cJ1_charAt_3b067 3 = .ok (.invokestatic 9, 3) := by decide +kernel
theorem dJ1_charAt_3b067_6 : decode cJ1_charAt_3b067 6 = .ok (.aload_n 0, 1) := by decide +kernel
theorem dJ1_charAt_3b067_7 : decode cJ1_charAt_3b067 7 = .ok (.iload_n 1, 1) := by decide +kernel
theorem dJ1_charAt_3b067_8 : decode cJ1_charAt_3b067 8 = .ok (.baload, 1) := by decide +kernel
theorem dJ1_charAt_3b067_9 : decode cJ1_charAt_3b067 9 = .ok (.sipush 255, 3) := by decide +kernel
theorem dJ1_charAt_3b067_12 : decode cJ1_charAt_3b067 12 = .ok (.iand, 1) := by decide +kernel
theorem dJ1_charAt_3b067_13 : decode cJ1_charAt_3b067 13 = .ok (.i2c, 1) := by decide +kernel
theorem dJ1_charAt_3b067_14 : decode cJ1_charAt_3b067 14 = .ok (.ireturn, 1) := by decide +kernel
theorem dJ3_checkIndex_8e157_0 : decode cJ3_checkIndex_8e157 0 = .ok (.iload_n 0, 1) := by decide +kernel
theorem dJ3_checkIndex_8e157_1 : decode cJ3_checkIndex_8e157 1 = .ok (.ifCond .lt 8, 3) := by decide +kernel
theorem dJ3_checkIndex_8e157_4 : decode cJ3_checkIndex_8e157 4 = .ok (.iload_n 0, 1) := by decide +kernel
theorem dJ3_checkIndex_8e157_5 : decode cJ3_checkIndex_8e157 5 = .ok (.iload_n 1, 1) := by decide +kernel
theorem dJ3_checkIndex_8e157_6 : decode cJ3_checkIndex_8e157 6 = .ok (.if_icmp .lt 10, 3) := by decide +kernel
theorem dJ3_checkIndex_8e157_9 : decode cJ3_checkIndex_8e157 9 = .ok (.aload_n 2, 1) := by decide +kernel
theorem dJ3_checkIndex_8e157_10 : decode cJ3_checkIndex_8e157 10 = .ok (.iload_n 0, 1) := by decide +kernel
theorem dJ3_checkIndex_8e157_11 : decode cJ3_checkIndex_8e157 11 = .ok (.iload_n 1, 1) := by decide +kernel
theorem dJ3_checkIndex_8e157_12 : decode cJ3_checkIndex_8e157 12 = .ok (.invokestatic 95, 3) := by decide +kernel
theorem dJ3_checkIndex_8e157_15 : decode cJ3_checkIndex_8e157 15 = .ok (.athrow, 1) := by decide +kernel
theorem dJ3_checkIndex_8e157_16 : decode cJ3_checkIndex_8e157 16 = .ok (.iload_n 0, 1) := by decide +kernel
theorem dJ3_checkIndex_8e157_17 : decode cJ3_checkIndex_8e157 17 = .ok (.ireturn, 1) := by decide +kernel
theorem sw_38 : Cond.fieldLink RJ0 38 "java/lang/String" "COMPACT_STRINGS" "Z" ∈ av_tbl := av_tbl_t (p := 1153) (by decide +kernel) (by decide +kernel)
theorem sw_15 : Cond.fieldLink RJ0 15 "java/lang/String" "coder" "B" ∈ av_tbl := av_tbl_t (p := 1663) (by decide +kernel) (by decide +kernel)
theorem sw_9 : Cond.fieldLink RJ0 9 "java/lang/String" "value" "[B" ∈ av_tbl := av_tbl_t (p := 1662) (by decide +kernel) (by decide +kernel)
theorem sw_1053 : Cond.fieldLink RJ0 1053 "jdk/internal/util/Preconditions" "SIOOBE_FORMATTER" "Ljava/util/function/BiFunction;" ∈ av_tbl := av_tbl_t (p := 1169) (by decide +kernel) (by decide +kernel)
theorem sw_335 : Cond.methodLink RJ0 335 yJ0_coder_7d493 ∈ av_tbl := av_tbl_t (p := 1149) (by decide +kernel) (by decide +kernel)
theorem sw_492 : Cond.methodLink RJ0 492 yJ0_isLatin1_aae02 ∈ av_tbl := av_tbl_t (p := 1159) (by decide +kernel) (by decide +kernel)
theorem sw_495 : Cond.methodLink RJ0 495 yJ1_charAt_3b067 ∈ av_tbl := av_tbl_t (p := 1163) (by decide +kernel) (by decide +kernel)
theorem sw_1059 : Cond.methodLink RJ0 1059 yJ3_checkIndex_8e157 ∈ av_tbl := av_tbl_t (p := 1171) (by decide +kernel) (by decide +kernel)
theorem sw_19 : Cond.methodLink RJ1 9 yJ0_checkIndex_df160 ∈ av_tbl := av_tbl_t (p := 1166) (by decide +kernel) (by decide +kernel)
theorem sw_len : Cond.code yJ0_length_8abf5 cJ0_length_8abf5 1 (some .int) ∈ av_tbl ∧ Cond.instanceMethod yJ0_length_8abf5 ∈ av_tbl ∧ Cond.selects RJ0 yJ0_length_8abf5 yJ0_length_8abf5 ∈ av_tbl := ⟨av_tbl_t (p := 1148) (by decide +kernel) (by decide +kernel), av_tbl_t (p := 1146) (by decide +kernel) (by decide +kernel), av_tbl_t (p := 1147) (by decide +kernel) (by decide +kernel)⟩
theorem sw_cha : Cond.code yJ0_charAt_5068e cJ0_charAt_5068e 2 (some .char) ∈ av_tbl ∧ Cond.instanceMethod yJ0_charAt_5068e ∈ av_tbl ∧ Cond.selects RJ0 yJ0_charAt_5068e yJ0_charAt_5068e ∈ av_tbl := ⟨av_tbl_t (p := 1158) (by decide +kernel) (by decide +kernel), av_tbl_t (p := 1156) (by decide +kernel) (by decide +kernel), av_tbl_t (p := 1157) (by decide +kernel) (by decide +kernel)⟩
theorem sw_cod : Cond.code yJ0_coder_7d493 cJ0_coder_7d493 1 (some .byte) ∈ av_tbl ∧ Cond.instanceMethod yJ0_coder_7d493 ∈ av_tbl ∧ Cond.selects RJ0 yJ0_coder_7d493 yJ0_coder_7d493 ∈ av_tbl := ⟨av_tbl_t (p := 1152) (by decide +kernel) (by decide +kernel), av_tbl_t (p := 1150) (by decide +kernel) (by decide +kernel), av_tbl_t (p := 1151) (by decide +kernel) (by decide +kernel)⟩
theorem sw_lat : Cond.code yJ0_isLatin1_aae02 cJ0_isLatin1_aae02 1 (some .boolean) ∈ av_tbl ∧ Cond.instanceMethod yJ0_isLatin1_aae02 ∈ av_tbl ∧ Cond.selects RJ0 yJ0_isLatin1_aae02 yJ0_isLatin1_aae02 ∈ av_tbl := ⟨av_tbl_t (p := 1162) (by decide +kernel) (by decide +kernel), av_tbl_t (p := 1160) (by decide +kernel) (by decide +kernel), av_tbl_t (p := 1161) (by decide +kernel) (by decide +kernel)⟩
theorem sw_chk : Cond.code yJ0_checkIndex_df160 cJ0_checkIndex_df160 2 none ∈ av_tbl ∧ Cond.static yJ0_checkIndex_df160 ∈ av_tbl := ⟨av_tbl_t (p := 1168) (by decide +kernel) (by decide +kernel), av_tbl_t (p := 1167) (by decide +kernel) (by decide +kernel)⟩
theorem sw_ch1 : Cond.code yJ1_charAt_3b067 cJ1_charAt_3b067 2 (some .char) ∈ av_tbl ∧ Cond.static yJ1_charAt_3b067 ∈ av_tbl := ⟨av_tbl_t (p := 1165) (by decide +kernel) (by decide +kernel), av_tbl_t (p := 1164) (by decide +kernel) (by decide +kernel)⟩
theorem sw_pre : Cond.code yJ3_checkIndex_8e157 cJ3_checkIndex_8e157 3 (some .int) ∈ av_tbl ∧ Cond.static yJ3_checkIndex_8e157 ∈ av_tbl := ⟨av_tbl_t (p := 1173) (by decide +kernel) (by decide +kernel), av_tbl_t (p := 1172) (by decide +kernel) (by decide +kernel)⟩
theorem sw_ini : Cond.initialized RJ0 ∈ av_tbl ∧ Cond.initialized RJ1 ∈ av_tbl ∧ Cond.initialized RJ3 ∈ av_tbl := ⟨av_tbl_t (p := 10) (by decide +kernel) (by decide +kernel), av_tbl_t (p := 11) (by decide +kernel) (by decide +kernel), av_tbl_t (p := 12) (by decide +kernel) (by decide +kernel)⟩
/-- what the JDK's members read -/
def sc_E (ad adV : Nat → Nat) (U : State) (H : Heap) : Prop := vk_S 6 [4, 7, 3, 2, 2, 6] av_txt (fun i => ad (92 + i)) adV (fun _ => False) U H ∧ va_Z "java/lang/String" "COMPACT_STRINGS" "Z" (.int 1) (fun _ => False) U H ∧ va_Zq "jdk/internal/util/Preconditions" "SIOOBE_FORMATTER" "Ljava/util/function/BiFunction;" (fun _ => False) U H
theorem sc_E.moved {ad adV : Nat → Nat} {u U : State} {H : Heap} (hvm : u.vm.Alike U.vm) (h : sc_E ad adV u H) : sc_E ad adV U H := ⟨vk_S.moved hvm h.1, va_Z.moved hvm h.2.1, va_Zq.moved hvm h.2.2⟩
theorem sc_E.at' {ad adV : Nat → Nat} {s U : State} {H : Heap} {locs : List Loc} (h : sc_E ad adV s s.heap) (hS : va_S (fun _ => False) s.heap H locs) (hW : s.WarmedH U.vm) (hU : U.heap = H) : sc_E ad adV U U.heap := by
  subst hU
  exact sc_E.moved hW.alike ⟨h.1.kept hS.2.1, va_Z.kept h.2.1 hS.2.1, va_Zq.kept h.2.2 hS.2.1⟩
def sc_rm (d : Nat) : Room := { frames := d, cells := 0, slots := 0, locals := 40 * d }
def sc_ws (y : MethodName) (cc : ByteArray) (nL : Nat) (ret : Option FieldType) : List Cond := Cond.code y cc nL ret :: av_tbl
def sc_Q (v : Int32) : Array Value → State → Outcome → State → Prop := va_Qi (fun (r : Int32) (_ : Unit) => r = v) (fun _ _ => True) (fun _ => False)
def sc_Qv : Array Value → State → Outcome → State → Prop := va_Qv (fun (_ : Unit) => True) (fun _ _ => True) (fun _ => False)
def sc_P (ad adV : Nat → Nat) (as : List Value) : Array Value → State → Prop := va_Pc as (fun U => sc_E ad adV U U.heap)
theorem sc_blind (ad adV : Nat → Nat) (as : List Value) : FrameBlind (sc_P ad adV as) := fun a U g mk q => ⟨q.1, sc_E.moved (u := U) (U := U.calling g mk a) (Vm.Alike.refl U.vm) q.2⟩
def sc_M (l : Launch) (d : Nat) (y : MethodName) (cc : ByteArray) (nL : Nat) (ret : Option FieldType) (ad adV : Nat → Nat) (as : List Value) (v : Int32) : Prop := Met l y (sc_ws y cc nL ret) (sc_rm d) (sc_P ad adV as) (sc_Q v) 0 0 (fun _ => False)
theorem sc_cb {R : Room} {s : State} {args : Array Value} {own : String} {idx n d nL : Nat} {y : MethodName} {cc : ByteArray} {ret : Option FieldType} (hts : ∀ w ∈ av_tbl, w.before args s = true) (hcode : Cond.code y cc nL ret ∈ av_tbl) (hini : Cond.initialized y.cls ∈ av_tbl) (hc : y.cls ≠ "java/lang/invoke/MethodHandle" ∧ y.cls ≠ "java/lang/invoke/VarHandle") (hpar : (parseMethodDescriptor y.desc).map (fun d => d.parameters.length) = some n) (hlink : (Cond.methodLink own idx y).before args s = true) (hnL : nL ≤ 12) (hRf : d + 1 ≤ R.frames) (hRl : 40 * (d + 1) ≤ R.locals) : CallB R s args own idx y cc nL ret (sc_ws y cc nL ret) (sc_rm d) 0 0 n := by
  have hroom : 8 + (nL + 11) + (sc_rm d).locals ≤ R.locals := by
    show 8 + (nL + 11) + 40 * d ≤ R.locals
    omega
  have hpay : ∀ w ∈ sc_ws y cc nL ret, ∀ (a' : Array Value) (U : State), s.WarmedH U.vm → w.before a' U = true := by
    intro w hw a' U hW
    rcases List.mem_cons.mp hw with rfl | hw
    · exact word_at hW (good_of_word (List.mem_filter.mp hcode).2) (hts _ hcode)
    · exact word_at hW (good_of_word (List.mem_filter.mp hw).2) (hts w hw)
  have hp : ∀ sig, parseMethodDescriptor y.desc = some sig → n = sig.parameters.length := by
    intro sig hs
    rw [hs] at hpar
    exact (Option.some.inj hpar).symm
  exact ⟨rfl, rfl, hRf, hroom, hpay, List.mem_cons_self, hts _ hcode, hts _ hini, hc, hp, hlink⟩
theorem sc_coder (l : Launch) (d : Nat) (ad adV : Nat → Nat) (i : Nat) (hi : i < 6) : sc_M l d yJ0_coder_7d493 cJ0_coder_7d493 1 (some .byte) ad adV [.ref (ad (92 + i))] 0 := by
  refine Met.ofW (cc := cJ0_coder_7d493) (maxL := 1) (ret := some .byte) (by decide) rfl ?_
  intro p e s m args below meth c s₁ B hml hv
  obtain ⟨rfl, hE⟩ := hv
  have hx := B.exec
  have hb := B.bytes
  have hr := B.returns
  have hts0 := atoms_spec (ws := sc_ws yJ0_coder_7d493 cJ0_coder_7d493 1 (some .byte)) B.pre
  have hts : ∀ w ∈ av_tbl, w.before _ s = true := fun w hw => hts0 w (List.mem_cons_of_mem _ hw)
  have hown : s.vm.findClass RJ0 = some m.cls := findClass_of_methodNamed B.named
  have hlocks := B.notSynchronized
  have hS : va_S (fun _ => False) s.heap s.heap [] := va_S.rf
  have hl := lv_entry ([.ref (ad (92 + i))]) (n := 1) (Nat.le_of_ble_eq_true rfl)
  rw [lg_entry_eq]
  generalize (lg_sl ([.ref (ad (92 + i))]) ++ List.replicate (1 - (lg_sl ([.ref (ad (92 + i))])).length) Slot.unset).toArray = ls at hl ⊢
  have hl : lv_has ls 1 [(0, .ref (ad (92 + i)))] := hl
  refine va_gets hx hb hE.2.1 hS hown (hts _ sw_38) (fun x h => h) dJ0_coder_7d493_0 ?_
  refine lv_if_eq (tgt := 13) hx hb dJ0_coder_7d493_3 (by decide) (fun c => absurd c (by decide)) (fun _ => ?_)
  refine lv_aload_n hx hb dJ0_coder_7d493_6 rfl (lv_at hl 0 rfl) ?_
  refine vk_getf hx hb (hE.1.1 i hi).2.1 hS hown (hts _ sw_15) (fun x h => h) dJ0_coder_7d493_7 ?_
  refine lv_goto (tgt := 14) hx hb dJ0_coder_7d493_10 (by decide) ?_
  exact W.zret hx hb hr rfl (fun t ht _ => ⟨⟨0, (), rfl, rfl, trivial⟩, hS.F ht⟩) hS.2.2 dJ0_coder_7d493_14
theorem sc_latin (l : Launch) (d : Nat) (ad adV : Nat → Nat) (i : Nat) (hi : i < 6) : sc_M l d yJ0_isLatin1_aae02 cJ0_isLatin1_aae02 1 (some .boolean) ad adV [.ref (ad (92 + i))] 1 := by
  refine Met.ofW (cc := cJ0_isLatin1_aae02) (maxL := 1) (ret := some .boolean) (by decide) rfl ?_
  intro p e s m args below meth c s₁ B hml hv
  obtain ⟨rfl, hE⟩ := hv
  have hx := B.exec
  have hb := B.bytes
  have hr := B.returns
  have hts0 := atoms_spec (ws := sc_ws yJ0_isLatin1_aae02 cJ0_isLatin1_aae02 1 (some .boolean)) B.pre
  have hts : ∀ w ∈ av_tbl, w.before _ s = true := fun w hw => hts0 w (List.mem_cons_of_mem _ hw)
  have hown : s.vm.findClass RJ0 = some m.cls := findClass_of_methodNamed B.named
  have hlocks := B.notSynchronized
  have hS : va_S (fun _ => False) s.heap s.heap [] := va_S.rf
  have hl := lv_entry ([.ref (ad (92 + i))]) (n := 1) (Nat.le_of_ble_eq_true rfl)
  rw [lg_entry_eq]
  generalize (lg_sl ([.ref (ad (92 + i))]) ++ List.replicate (1 - (lg_sl ([.ref (ad (92 + i))])).length) Slot.unset).toArray = ls at hl ⊢
  have hl : lv_has ls 1 [(0, .ref (ad (92 + i)))] := hl
  refine va_gets hx hb hE.2.1 hS hown (hts _ sw_38) (fun x h => h) dJ0_isLatin1_aae02_0 ?_
  refine lv_if_eq (tgt := 17) hx hb dJ0_isLatin1_aae02_3 (by decide) (fun c => absurd c (by decide)) (fun _ => ?_)
  refine lv_aload_n hx hb dJ0_isLatin1_aae02_6 rfl (lv_at hl 0 rfl) ?_
  refine vk_getf hx hb (hE.1.1 i hi).2.1 hS hown (hts _ sw_15) (fun x h => h) dJ0_isLatin1_aae02_7 ?_
  refine lv_if_ne (tgt := 17) hx hb dJ0_isLatin1_aae02_10 (by decide) (fun c => absurd rfl c) (fun _ => ?_)
  refine lv_iconst (v := 1) hx hb dJ0_isLatin1_aae02_13 (by decide) ?_
  refine lv_goto (tgt := 18) hx hb dJ0_isLatin1_aae02_14 (by decide) ?_
  exact W.zret hx hb hr rfl (fun t ht _ => ⟨⟨1, (), rfl, rfl, trivial⟩, hS.F ht⟩) hS.2.2 dJ0_isLatin1_aae02_18
theorem sc_pre (l : Launch) (d : Nat) (ad adV : Nat → Nat) (k n : Nat) (hk : k < n) (hn : n < 2147483648) (z : Value) (hz : z = .null ∨ ∃ t, z = .ref t) : sc_M l d yJ3_checkIndex_8e157 cJ3_checkIndex_8e157 3 (some .int) ad adV [.int (nI k), .int (nI n), z] (nI k) := by
  refine Met.ofW (cc := cJ3_checkIndex_8e157) (maxL := 3) (ret := some .int) (by decide) rfl ?_
  intro p e s m args below meth c s₁ B hml hv
  obtain ⟨rfl, hE⟩ := hv
  have hx := B.exec
  have hb := B.bytes
  have hr := B.returns
  have hlocks := B.notSynchronized
  have hS : va_S (fun _ => False) s.heap s.heap [] := va_S.rf
  have hl : ∃ ls, entryFrame m ([.int (nI k), .int (nI n), z] : List Value).toArray 3 = F0 m 0 ls [] ∧ lv_has ls 3 [(0, .int (nI k)), (1, .int (nI n))] := by
    rcases hz with rfl | ⟨t, rfl⟩
    · exact ⟨_, lg_entry_eq m _ 3, lv_sub (lv_entry ([.int (nI k), .int (nI n), .null]) (n := 3) (Nat.le_of_ble_eq_true rfl)) [0, 1] rfl⟩
    · exact ⟨_, lg_entry_eq m _ 3, lv_sub (lv_entry ([.int (nI k), .int (nI n), .ref t]) (n := 3) (Nat.le_of_ble_eq_true rfl)) [0, 1] rfl⟩
  obtain ⟨ls, els, hl⟩ := hl
  rw [els]
  refine lv_iload_n hx hb dJ3_checkIndex_8e157_0 rfl (lv_at hl 0 rfl) ?_
  refine lv_if_lt (tgt := 9) hx hb dJ3_checkIndex_8e157_1 (by decide) (fun q => absurd q (nI_pos (by omega))) (fun _ => ?_)
  refine lv_iload_n hx hb dJ3_checkIndex_8e157_4 rfl (lv_at hl 0 rfl) ?_
  refine lv_iload_n hx hb dJ3_checkIndex_8e157_5 rfl (lv_at hl 1 rfl) ?_
  refine lv_icmp_lt (tgt := 16) hx hb dJ3_checkIndex_8e157_6 (by decide) (fun _ => ?_) (fun q => absurd (nI_lt hk hn) q)
  refine lv_iload_n hx hb dJ3_checkIndex_8e157_16 rfl (lv_at hl 0 rfl) ?_
  exact W.zret hx hb hr rfl (fun t ht _ => ⟨⟨nI k, (), rfl, rfl, trivial⟩, hS.F ht⟩) hS.2.2 dJ3_checkIndex_8e157_17
theorem sc_chk (l : Launch) (d : Nat) (ad adV : Nat → Nat) (k n : Nat) (hk : k < n) (hn : n < 2147483648) : Met l yJ0_checkIndex_df160 (sc_ws yJ0_checkIndex_df160 cJ0_checkIndex_df160 2 none) (sc_rm (d + 1)) (sc_P ad adV [.int (nI k), .int (nI n)]) sc_Qv 0 0 (fun _ => False) := by
  refine Met.ofW (cc := cJ0_checkIndex_df160) (maxL := 2) (ret := none) (by decide) rfl ?_
  intro p e s m args below meth c s₁ B hml hv
  obtain ⟨rfl, hE⟩ := hv
  have hx := B.exec
  have hb := B.bytes
  have hr := B.returns
  have hts0 := atoms_spec (ws := sc_ws yJ0_checkIndex_df160 cJ0_checkIndex_df160 2 none) B.pre
  have hts : ∀ w ∈ av_tbl, w.before _ s = true := fun w hw => hts0 w (List.mem_cons_of_mem _ hw)
  have hown : s.vm.findClass RJ0 = some m.cls := findClass_of_methodNamed B.named
  have hlocks := B.notSynchronized
  have hS : va_S (fun _ => False) s.heap s.heap [] := va_S.rf
  have hl := lv_entry ([.int (nI k), .int (nI n)]) (n := 2) (Nat.le_of_ble_eq_true rfl)
  rw [lg_entry_eq]
  generalize (lg_sl ([.int (nI k), .int (nI n)]) ++ List.replicate (2 - (lg_sl ([.int (nI k), .int (nI n)])).length) Slot.unset).toArray = ls at hl ⊢
  have hl : lv_has ls 2 [(0, .int (nI k)), (1, .int (nI n))] := hl
  refine lv_iload_n hx hb dJ0_checkIndex_df160_0 rfl (lv_at hl 0 rfl) ?_
  refine lv_iload_n hx hb dJ0_checkIndex_df160_1 rfl (lv_at hl 1 rfl) ?_
  have go : ∀ z : Value, (z = .null ∨ ∃ t, z = .ref t) → W p l e (sc_rm (d + 1)) s m #[.int (nI k), .int (nI n)] below meth c s.heap [] 0 0 (MQ below sc_Qv #[.int (nI k), .int (nI n)] s 0 0 (fun _ => False)) (F0 m 5 ls [z, .int (nI n), .int (nI k)]) := by
    intro z hz
    refine va_calli (va_runS (As := [.int (nI k), .int (nI n), z]) (rest := []) ⟨hx, hb, hml, hown, hts⟩ (sc_pre l d ad adV k n hk hn z hz) ⟨sc_cb (n := 3) hts sw_pre.1 sw_ini.2.2 ⟨by decide, by decide⟩ (by decide) (hts _ sw_1059) (by decide) (Nat.le_refl _) (Nat.le_refl _), hts _ sw_pre.2⟩ ⟨sc_blind ad adV _, fun U hU hW => ⟨rfl, hE.at' hS hW hU⟩⟩ rfl rfl hl.1 rfl (lv_room (Nat.le_of_ble_eq_true rfl)) dJ0_checkIndex_df160_5 ⟨Nat.le_refl _, Nat.le_refl _⟩) hS (fun q _ h => h) (fun q h => h) (fun r u t H1 locs1 ht hvm hw hB hz1 hk1 hS1 => ?_)
    refine lv_pop hx hb dJ0_checkIndex_df160_8 rfl ?_
    exact W.vret hx hb hr (fun t ht _ => ⟨⟨(), rfl, trivial, trivial⟩, hS1.F ht⟩) hS1.2.2 dJ0_checkIndex_df160_9
  rcases hE.2.2 with hz | ⟨t, hz⟩
  · exact va_gets hx hb hz hS hown (hts _ sw_1053) (fun x h => h) dJ0_checkIndex_df160_2 (go _ (Or.inl rfl))
  · exact va_gets hx hb hz hS hown (hts _ sw_1053) (fun x h => h) dJ0_checkIndex_df160_2 (go _ (Or.inr ⟨t, rfl⟩))
def sc_len (i : Nat) : Nat := [4, 7, 3, 2, 2, 6].getD i 0
theorem sc_lenT : ∀ i, i < 6 → sc_len i = av_txl (92 + i) ∧ sc_len i < 8 ∧ nI (sc_len i) >>> ((0 : Int32) &&& 31) = nI (sc_len i) := by decide +kernel
theorem sc_chT : ∀ i, i < 6 → ∀ k, k < sc_len i → ((((av_txt.getD i []).getD k 0) &&& 255).toUInt32 % 65536).toInt32 = av_txc (92 + i) k ∧ narrow .char (.int (av_txc (92 + i) k)) = .int (av_txc (92 + i) k) := by decide +kernel
theorem sc_ch1 (l : Launch) (d : Nat) (ad adV : Nat → Nat) (i k : Nat) (hi : i < 6) (hk : k < sc_len i) : sc_M l (d + 2) yJ1_charAt_3b067 cJ1_charAt_3b067 2 (some .char) ad adV [.ref (adV i), .int (nI k)] (av_txc (92 + i) k) := by
  have hn := (sc_lenT i hi).2.1
  refine Met.ofW (cc := cJ1_charAt_3b067) (maxL := 2) (ret := some .char) (by decide) rfl ?_
  intro p e s m args below meth c s₁ B hml hv
  obtain ⟨rfl, hE⟩ := hv
  have hx := B.exec
  have hb := B.bytes
  have hr := B.returns
  have hts0 := atoms_spec (ws := sc_ws yJ1_charAt_3b067 cJ1_charAt_3b067 2 (some .char)) B.pre
  have hts : ∀ w ∈ av_tbl, w.before _ s = true := fun w hw => hts0 w (List.mem_cons_of_mem _ hw)
  have hown : s.vm.findClass RJ1 = some m.cls := findClass_of_methodNamed B.named
  have hlocks := B.notSynchronized
  have hS : va_S (fun _ => False) s.heap s.heap [] := va_S.rf
  have hl := lv_entry ([.ref (adV i), .int (nI k)]) (n := 2) (Nat.le_of_ble_eq_true rfl)
  rw [lg_entry_eq]
  generalize (lg_sl ([.ref (adV i), .int (nI k)]) ++ List.replicate (2 - (lg_sl ([.ref (adV i), .int (nI k)])).length) Slot.unset).toArray = ls at hl ⊢
  have hl : lv_has ls 2 [(0, .ref (adV i)), (1, .int (nI k))] := hl
  refine lv_iload_n hx hb dJ1_charAt_3b067_0 rfl (lv_at hl 1 rfl) ?_
  refine lv_aload_n hx hb dJ1_charAt_3b067_1 rfl (lv_at hl 0 rfl) ?_
  refine va_tlen hx hb (hE.1.1 i hi).2.2.2 hS (v := nI (sc_len i)) rfl dJ1_charAt_3b067_2 ?_
  refine va_callv (va_runS (As := [.int (nI k), .int (nI (sc_len i))]) (rest := []) ⟨hx, hb, hml, hown, hts⟩ (sc_chk l d ad adV k (sc_len i) hk (by omega)) ⟨sc_cb (n := 2) hts sw_chk.1 sw_ini.1 ⟨by decide, by decide⟩ (by decide) (hts _ sw_19) (by decide) (Nat.le_refl _) (Nat.le_refl _), hts _ sw_chk.2⟩ ⟨sc_blind ad adV _, fun U hU hW => ⟨rfl, hE.at' hS hW hU⟩⟩ rfl rfl hl.1 rfl (lv_room (Nat.le_of_ble_eq_true rfl)) dJ1_charAt_3b067_3 ⟨Nat.le_refl _, Nat.le_refl _⟩) hS (fun q _ h => h) (fun q h => h) (fun u t H1 locs1 ht hvm hw hB hz1 hk1 hS1 => ?_)
  refine lv_aload_n hx hb dJ1_charAt_3b067_6 rfl (lv_at hl 0 rfl) ?_
  refine lv_iload_n hx hb dJ1_charAt_3b067_7 rfl (lv_at hl 1 rfl) ?_
  refine va_tb hx hb (hE.1.1 i hi).2.2.2 hS1 (i := nI k) (vp_in_nI hk (show sc_len i < 2147483648 by omega)) (v := .int ((av_txt.getD i []).getD k 0)) (by rw [nI_clamp (by omega)]) dJ1_charAt_3b067_8 ?_
  refine lv_sipush (v := 255) hx hb dJ1_charAt_3b067_9 (by decide) ?_
  refine lv_iand hx hb dJ1_charAt_3b067_12 ?_
  refine lv_i2c hx hb dJ1_charAt_3b067_13 (sc_chT i hi k hk).1 ?_
  exact W.zret hx hb hr (sc_chT i hi k hk).2 (fun t ht _ => ⟨⟨_, (), rfl, rfl, trivial⟩, hS1.F ht⟩) hS1.2.2 dJ1_charAt_3b067_14
theorem sc_length (l : Launch) (d : Nat) (ad adV : Nat → Nat) (i : Nat) (hi : i < 6) : sc_M l (d + 1) yJ0_length_8abf5 cJ0_length_8abf5 1 (some .int) ad adV [.ref (ad (92 + i))] (nI (av_txl (92 + i))) := by
  obtain ⟨n1, n2, n3⟩ := sc_lenT i hi
  refine Met.ofW (cc := cJ0_length_8abf5) (maxL := 1) (ret := some .int) (by decide) rfl ?_
  intro p e s m args below meth c s₁ B hml hv
  obtain ⟨rfl, hE⟩ := hv
  have hx := B.exec
  have hb := B.bytes
  have hr := B.returns
  have hts0 := atoms_spec (ws := sc_ws yJ0_length_8abf5 cJ0_length_8abf5 1 (some .int)) B.pre
  have hts : ∀ w ∈ av_tbl, w.before _ s = true := fun w hw => hts0 w (List.mem_cons_of_mem _ hw)
  have hown : s.vm.findClass RJ0 = some m.cls := findClass_of_methodNamed B.named
  have hlocks := B.notSynchronized
  have hS : va_S (fun _ => False) s.heap s.heap [] := va_S.rf
  have hl := lv_entry ([.ref (ad (92 + i))]) (n := 1) (Nat.le_of_ble_eq_true rfl)
  rw [lg_entry_eq]
  generalize (lg_sl ([.ref (ad (92 + i))]) ++ List.replicate (1 - (lg_sl ([.ref (ad (92 + i))])).length) Slot.unset).toArray = ls at hl ⊢
  have hl : lv_has ls 1 [(0, .ref (ad (92 + i)))] := hl
  refine lv_aload_n hx hb dJ0_length_8abf5_0 rfl (lv_at hl 0 rfl) ?_
  refine vk_getf hx hb (hE.1.1 i hi).2.2.1 hS hown (hts _ sw_9) (fun x h => h) dJ0_length_8abf5_1 ?_
  refine va_tlen hx hb (hE.1.1 i hi).2.2.2 hS (v := nI (sc_len i)) rfl dJ0_length_8abf5_4 ?_
  refine lv_aload_n hx hb dJ0_length_8abf5_5 rfl (lv_at hl 0 rfl) ?_
  refine va_calli (va_runV (C := RJ0) (As := []) (rest := [.int (nI (sc_len i))]) ⟨hx, hb, hml, hown, hts⟩ (sc_coder l d ad adV i hi) ⟨sc_cb hts sw_cod.1 sw_ini.1 ⟨by decide, by decide⟩ (by decide) (hts _ sw_335) (by decide) (Nat.le_refl _) (Nat.le_refl _), hts _ sw_cod.2.1, hts _ sw_cod.2.2⟩ ⟨sc_blind ad adV _, vk_recv hE.1 hi hS, fun U hU hW => ⟨rfl, hE.at' hS hW hU⟩⟩ rfl rfl hl.1 rfl (lv_room (Nat.le_of_ble_eq_true rfl)) dJ0_length_8abf5_6 ⟨Nat.le_refl _, Nat.le_refl _⟩) hS (fun q _ h => h) (fun q h => h) (fun r u t H1 locs1 ht hvm hw hB hz1 hk1 hS1 => ?_)
  subst hw
  refine lv_ishr hx hb dJ0_length_8abf5_9 ?_
  rw [n3, n1]
  exact W.iret hx hb hr (fun t ht _ => ⟨⟨_, (), rfl, rfl, trivial⟩, hS1.F ht⟩) hS1.2.2 dJ0_length_8abf5_10
theorem sc_charAt (l : Launch) (d : Nat) (ad adV : Nat → Nat) (i k : Nat) (hi : i < 6) (hk : k < sc_len i) : sc_M l (d + 3) yJ0_charAt_5068e cJ0_charAt_5068e 2 (some .char) ad adV [.ref (ad (92 + i)), .int (nI k)] (av_txc (92 + i) k) := by
  refine Met.ofW (cc := cJ0_charAt_5068e) (maxL := 2) (ret := some .char) (by decide) rfl ?_
  intro p e s m args below meth c s₁ B hml hv
  obtain ⟨rfl, hE⟩ := hv
  have hx := B.exec
  have hb := B.bytes
  have hr := B.returns
  have hts0 := atoms_spec (ws := sc_ws yJ0_charAt_5068e cJ0_charAt_5068e 2 (some .char)) B.pre
  have hts : ∀ w ∈ av_tbl, w.before _ s = true := fun w hw => hts0 w (List.mem_cons_of_mem _ hw)
  have hown : s.vm.findClass RJ0 = some m.cls := findClass_of_methodNamed B.named
  have hlocks := B.notSynchronized
  have hS : va_S (fun _ => False) s.heap s.heap [] := va_S.rf
  have hl := lv_entry ([.ref (ad (92 + i)), .int (nI k)]) (n := 2) (Nat.le_of_ble_eq_true rfl)
  rw [lg_entry_eq]
  generalize (lg_sl ([.ref (ad (92 + i)), .int (nI k)]) ++ List.replicate (2 - (lg_sl ([.ref (ad (92 + i)), .int (nI k)])).length) Slot.unset).toArray = ls at hl ⊢
  have hl : lv_has ls 2 [(0, .ref (ad (92 + i))), (1, .int (nI k))] := hl
  refine lv_aload_n hx hb dJ0_charAt_5068e_0 rfl (lv_at hl 0 rfl) ?_
  refine va_calli (va_runV (C := RJ0) (As := []) (rest := []) ⟨hx, hb, hml, hown, hts⟩ (sc_latin l (d + 2) ad adV i hi) ⟨sc_cb hts sw_lat.1 sw_ini.1 ⟨by decide, by decide⟩ (by decide) (hts _ sw_492) (by decide) (Nat.le_refl _) (Nat.le_refl _), hts _ sw_lat.2.1, hts _ sw_lat.2.2⟩ ⟨sc_blind ad adV _, vk_recv hE.1 hi hS, fun U hU hW => ⟨rfl, hE.at' hS hW hU⟩⟩ rfl rfl hl.1 rfl (lv_room (Nat.le_of_ble_eq_true rfl)) dJ0_charAt_5068e_1 ⟨Nat.le_refl _, Nat.le_refl _⟩) hS (fun q _ h => h) (fun q h => h) (fun r u t H1 locs1 ht hvm hw hB hz1 hk1 hS1 => ?_)
  subst hw
  refine lv_if_eq (tgt := 16) hx hb dJ0_charAt_5068e_4 (by decide) (fun c => absurd c (by decide)) (fun _ => ?_)
  refine lv_aload_n hx hb dJ0_charAt_5068e_7 rfl (lv_at hl 0 rfl) ?_
  refine vk_getf hx hb (hE.1.1 i hi).2.2.1 hS1 hown (hts _ sw_9) (fun x h => h) dJ0_charAt_5068e_8 ?_
  refine lv_iload_n hx hb dJ0_charAt_5068e_11 rfl (lv_at hl 1 rfl) ?_
  refine va_calli (va_runS (As := [.ref (adV i), .int (nI k)]) (rest := []) ⟨hx, hb, hml, hown, hts⟩ (sc_ch1 l d ad adV i k hi hk) ⟨sc_cb (n := 2) hts sw_ch1.1 sw_ini.2.1 ⟨by decide, by decide⟩ (by decide) (hts _ sw_495) (by decide) (Nat.le_refl _) (Nat.le_refl _), hts _ sw_ch1.2⟩ ⟨sc_blind ad adV _, fun U hU hW => ⟨rfl, hE.at' hS1 hW hU⟩⟩ rfl rfl hl.1 rfl (lv_room (Nat.le_of_ble_eq_true rfl)) dJ0_charAt_5068e_12 ⟨Nat.le_refl _, Nat.le_refl _⟩) hS1 (fun q _ h => h) (fun q h => h) (fun r u t H2 locs2 ht hvm hw hB hz2 hk2 hS2 => ?_)
  subst hw
  exact W.zret hx hb hr (sc_chT i hi k hk).2 (fun t ht _ => ⟨⟨_, (), rfl, rfl, trivial⟩, hS2.F ht⟩) hS2.2.2 dJ0_charAt_5068e_15
