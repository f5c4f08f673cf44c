/-! THE LAW'S OWN streamer AND row: they call the class's and catch what it throws -/
section VZH
variable {p : Program} {l : Launch} {e : Env} {R : Room} {s : State} {m : MethodId} {args : Array Value} {below : List Frame} {meth : Method} {c : Code} {H : Heap} {locs : List Loc} {cells slots : Nat} {Q : State → Prop}
variable {cc : ByteArray}
variable {ad : Nat → Nat} {D : va_G} {cI cJ cZ : ClassId} {A : Nat → Prop} {scr : Nat → Int32} {L : Nat}
theorem vz_cb {own : String} {idx n nL : Nat} {y : MethodName} {ret : Option FieldType} {rm : Room} (hts : ∀ w ∈ av_tbl, w.before args s = true) (hcode : Cond.code y cc nL ret ∈ av_tbl) (hini : Cond.initialized y.cls ∈ av_tbl) (hc : y.cls ≠ "java/lang/invoke/MethodHandle" ∧ y.cls ≠ "java/lang/invoke/VarHandle") (hpar : (parseMethodDescriptor y.desc).map (fun d => d.parameters.length) = some n) (hlink : Cond.methodLink own idx y ∈ av_tbl) (hRf : rm.frames + 1 ≤ R.frames) (hRl : 8 + (nL + 11) + rm.locals ≤ R.locals) : CallB R s args own idx y cc nL ret (Cond.code y cc nL ret :: av_tbl) rm rm.cells rm.slots n := by
  have hpay : ∀ w ∈ Cond.code y cc nL ret :: av_tbl, ∀ (a' : Array Value) (U : State), s.WarmedH U.vm → w.before a' U = true := by
    intro w hw a' U hW
    rcases List.mem_cons.mp hw with rfl | hw
    · exact word_at hW (good_of_word (List.mem_filter.mp hcode).2) (hts _ hcode)
    · exact word_at hW (good_of_word (List.mem_filter.mp hw).2) (hts w hw)
  have hp : ∀ sig, parseMethodDescriptor y.desc = some sig → n = sig.parameters.length := by
    intro sig hs
    rw [hs] at hpar
    exact (Option.some.inj hpar).symm
  exact ⟨rfl, rfl, hRf, hRl, hpay, List.mem_cons_self, hts _ hcode, hts _ hini, hc, hp, hts _ hlink⟩
theorem vz_csw {own : String} {idx n nL : Nat} {y : MethodName} {ret : Option FieldType} {rm : Room} {hh : List (Nat × Nat × Nat × Nat)} (hts : ∀ w ∈ av_tbl, w.before args s = true) (hcode : Cond.codeWith y cc nL ret hh ∈ av_tbl) (hini : Cond.initialized y.cls ∈ av_tbl) (hc : y.cls ≠ "java/lang/invoke/MethodHandle" ∧ y.cls ≠ "java/lang/invoke/VarHandle") (hpar : (parseMethodDescriptor y.desc).map (fun d => d.parameters.length) = some n) (hlink : Cond.methodLink own idx y ∈ av_tbl) (hst : Cond.static y ∈ av_tbl) (hRf : rm.frames + 1 ≤ R.frames) (hRl : 8 + (nL + 11) + rm.locals ≤ R.locals) : vx_CSW R s args own idx y cc nL ret hh (Cond.codeWith y cc nL ret hh :: av_tbl) rm rm.cells rm.slots n := by
  have hpay : ∀ w ∈ Cond.codeWith y cc nL ret hh :: av_tbl, ∀ (a' : Array Value) (U : State), s.WarmedH U.vm → w.before a' U = true := by
    intro w hw a' U hW
    rcases List.mem_cons.mp hw with rfl | hw
    · exact word_at hW (good_of_word (List.mem_filter.mp hcode).2) (hts _ hcode)
    · exact word_at hW (good_of_word (List.mem_filter.mp hw).2) (hts w hw)
  have hp : ∀ sig, parseMethodDescriptor y.desc = some sig → n = sig.parameters.length := by
    intro sig hs
    rw [hs] at hpar
    exact (Option.some.inj hpar).symm
  exact ⟨⟨rfl, rfl, hRf, hRl, hpay, List.mem_cons_self⟩, hts _ hcode, hts _ hini, hc, hp, hts _ hlink, hts _ hst⟩
end VZH
theorem vz_w1 : Cond.methodLink RL 7 yX6_streamer ∈ av_tbl ∧ Cond.instanceMethod yX6_streamer ∈ av_tbl ∧ Cond.selects RX6 yX6_streamer yX6_streamer ∈ av_tbl ∧ Cond.code yX6_streamer cX6_streamer 3 (some .int) ∈ av_tbl ∧ Cond.methodLink RL 42 yL_streamer ∈ av_tbl ∧ Cond.static yL_streamer ∈ av_tbl ∧ Cond.codeWith yL_streamer cL_streamer 5 (some .int) [(0, 10, 13, 13)] ∈ av_tbl :=
  ⟨av_tbl_t (p := 882) (by decide +kernel) (by decide +kernel), av_tbl_t (p := 883) (by decide +kernel) (by decide +kernel), av_tbl_t (p := 884) (by decide +kernel) (by decide +kernel), av_tbl_t (p := 885) (by decide +kernel) (by decide +kernel), av_tbl_t (p := 878) (by decide +kernel) (by decide +kernel), av_tbl_t (p := 879) (by decide +kernel) (by decide +kernel), av_tbl_t (p := 880) (by decide +kernel) (by decide +kernel)⟩
theorem vz_w2 : Cond.methodLink RL 15 yX6_row ∈ av_tbl ∧ Cond.instanceMethod yX6_row ∈ av_tbl ∧ Cond.selects RX6 yX6_row yX6_row ∈ av_tbl ∧ Cond.code yX6_row cX6_row 2 (some .long) ∈ av_tbl ∧ Cond.methodLink RL 237 yL_row ∈ av_tbl ∧ Cond.static yL_row ∈ av_tbl ∧ Cond.codeWith yL_row cL_row 4 (some .int) [(0, 8, 11, 13)] ∈ av_tbl :=
  ⟨av_tbl_t (p := 956) (by decide +kernel) (by decide +kernel), av_tbl_t (p := 957) (by decide +kernel) (by decide +kernel), av_tbl_t (p := 958) (by decide +kernel) (by decide +kernel), av_tbl_t (p := 959) (by decide +kernel) (by decide +kernel), av_tbl_t (p := 953) (by decide +kernel) (by decide +kernel), av_tbl_t (p := 954) (by decide +kernel) (by decide +kernel), av_tbl_t (p := 955) (by decide +kernel) (by decide +kernel)⟩
theorem vz_w3 : Cond.initialized RL ∈ av_tbl ∧ Cond.initialized RX6 ∈ av_tbl ∧ Cond.classLink RL 13 vz_X ∈ av_tbl ∧ Cond.castable vz_X vz_X ∈ av_nst :=
  ⟨av_tbl_t (p := 0) (by decide +kernel) (by decide +kernel), av_tbl_t (p := 1) (by decide +kernel) (by decide +kernel), av_tbl_t (p := 881) (by decide +kernel) (by decide +kernel), List.mem_filter.mpr ⟨List.mem_append_right _ (List.mem_of_getElem? (i := 888) (by decide +kernel)), by decide +kernel⟩⟩
