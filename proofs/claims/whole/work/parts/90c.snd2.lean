/-! SOUNDNESS, 2: the world around, calls -/
def av_ss (w : Nat) : String := (["pgby", "ksrpvcn", "<>=", "+-", "*/", "ndsprm"] : List String).getD w ""
def av_Sx (ad : Nat → Nat) (A : Nat → Prop) (U : State) (H : Heap) : Prop := ∃ adV : Nat → Nat, vk_S 6 [4, 7, 3, 2, 2, 6] av_txt (fun i => ad (92 + i)) adV A U H ∧ (∀ w, w < 6 → vk_R RX7 (av_sx.getD w 0) (av_ss w) (ad (92 + w)) U) ∧ va_Z "java/lang/String" "COMPACT_STRINGS" "Z" (.int 1) A U H ∧ va_Zq "jdk/internal/util/Preconditions" "SIOOBE_FORMATTER" "Ljava/util/function/BiFunction;" A U H
def av_Cx (ad : Nat → Nat) (D : va_G) (cI cJ cZ : ClassId) (A : Nat → Prop) (scr : Nat → Int32) (L : Nat) (U : State) (H : Heap) : Prop :=
  va_K D vwCl [(cI, .int), (cJ, .long), (cZ, .boolean)] U ∧ (∀ w ∈ av_nst, va_Nw w U) ∧ (va_X (ad 90) L scr U H ∧ ad 90 < H.size ∧ ¬ A (ad 90) ∧ L < 2147483648) ∧ av_Sx ad A U H
theorem av_nst_warm {w : Cond} (hw : w ∈ av_nst) {s U : State} (hW : s.WarmedH U.vm) (h : va_Nw w s) : va_Nw w U := by
  have h1 := (List.mem_filter.mp hw).2
  cases w <;> first | exact va_Nw.warmF hW h | exact va_Nw.warmM hW h | exact va_Nw.warmC hW h | exact va_Nw.warmD hW h | (exfalso; revert h1; simp [av_nest]; done)
theorem av_nst_same {w : Cond} (hw : w ∈ av_nst) {u U : State} (hv : u.vm = U.vm) (h : va_Nw w u) : va_Nw w U := by
  have h1 := (List.mem_filter.mp hw).2
  cases w <;> first | exact va_Nw.same rfl hv h | (exfalso; revert h1; simp [av_nest]; done)
theorem av_nst_use {w : Cond} (hw : w ∈ av_nst) {U : State} {A : Array Value} (h : va_Nw w U) : w.before A U = true := by
  have h1 := (List.mem_filter.mp hw).2
  cases w <;> first | exact va_Nw.use rfl h | (exfalso; revert h1; simp [av_nest]; done)
section AVS
variable {ad : Nat → Nat} {D : va_G} {cI cJ cZ : ClassId} {A : Nat → Prop} {scr : Nat → Int32} {L : Nat}
theorem av_Cx_at {s U : State} {H : Heap} {locs : List Loc} (h : av_Cx ad D cI cJ cZ A scr L s s.heap) (hS : va_S A s.heap H locs) (hW : s.WarmedH U.vm) (hU : U.heap = H) : av_Cx ad D cI cJ cZ A scr L U U.heap := by
  obtain ⟨h1, h2, ⟨h3, h4, h5, h6⟩, adV, h7, h8, h9, h10⟩ := h
  subst hU
  refine ⟨va_K.moved hW.alike h1, fun w hw => av_nst_warm hw hW (h2 w hw), ⟨va_X.moved hW.alike (h3.kept (hS.2.1 _ h4 h5)), Nat.lt_of_lt_of_le h4 hS.1, h5, h6⟩, adV, vk_S.moved hW.alike (h7.kept hS.2.1), fun w hw => (h8 w hw).warm hW, va_Z.moved hW.alike (va_Z.kept h9 hS.2.1), va_Zq.moved hW.alike (va_Zq.kept h10 hS.2.1)⟩
theorem av_Cx_calling {U : State} {g : JFrame} {mk : MethodId} {a : Array Value} (h : av_Cx ad D cI cJ cZ A scr L U U.heap) : av_Cx ad D cI cJ cZ A scr L (U.calling g mk a) (U.calling g mk a).heap := by
  obtain ⟨h1, h2, ⟨h3, h4, h5, h6⟩, adV, h7, h8, h9, h10⟩ := h
  exact ⟨va_K.moved (u := U) (U := U.calling g mk a) (Vm.Alike.refl U.vm) h1, fun w hw => av_nst_same hw (u := U) (U := U.calling g mk a) rfl (h2 w hw), ⟨va_X.moved (u := U) (U := U.calling g mk a) (Vm.Alike.refl U.vm) h3, h4, h5, h6⟩, adV, vk_S.moved (u := U) (U := U.calling g mk a) (Vm.Alike.refl U.vm) h7, fun w hw => vk_R.same (u := U) (U := U.calling g mk a) rfl (h8 w hw), va_Z.moved (u := U) (U := U.calling g mk a) (Vm.Alike.refl U.vm) h9, va_Zq.moved (u := U) (U := U.calling g mk a) (Vm.Alike.refl U.vm) h10⟩
variable (ad D cI cJ cZ A scr L)
def av_Pc (as : List Value) (h : av_M) : Array Value → State → Prop := fun v U => v = (as.map (av_c ad)).toArray ∧ va_P D vwCl (av_ws ad cI cJ cZ h) U.heap ∧ av_Cx ad D cI cJ cZ A scr L U U.heap ∧ h 90 = scr ∧ h 91 0 = nI L
def av_rv (ret : Option FieldType) (r : av_R) : Option Value := match ret with
  | none => none
  | some .long => some (.long r.2.1)
  | some _ => some (.int r.1)
def av_Qc (ret : Option FieldType) (r : av_R) : Array Value → State → Outcome → State → Prop := fun _ st o t => o = .returned (av_rv ret r) ∧ va_P D vwCl (av_ws ad cI cJ cZ r.2.2) t.heap ∧ va_F A st t ∧ r.2.2 90 = scr ∧ r.2.2 91 0 = nI L
def av_rm (d : Nat) : Room := { frames := d + 4, cells := 0, slots := 0, locals := 40 * (d + 4) }
def av_mws (k : Nat) : List Cond := Cond.code (av_mn k).2.1 (av_mn k).2.2.1 (av_mn k).2.2.2.1 (av_mn k).2.2.2.2.1 :: av_tbl
def av_Me (l : Launch) (d k : Nat) (as : List Value) (h : av_M) (r : av_R) : Prop :=
  Met l (av_mn k).2.1 (av_mws k) (av_rm d) (av_Pc ad D cI cJ cZ A scr L as h) (av_Qc ad D cI cJ cZ A scr L (av_mn k).2.2.2.2.1 r) 0 0 A
variable {ad D cI cJ cZ A scr L}
theorem av_Pc_blind (as : List Value) (h : av_M) : FrameBlind (av_Pc ad D cI cJ cZ A scr L as h) := fun a U g mk q => ⟨q.1, q.2.1, av_Cx_calling q.2.2.1, q.2.2.2⟩
theorem av_mn_mem {k : Nat} (hk : k < 277) : av_mn k ∈ av_mt := by
  have h1 : av_mt.length = 278 := by decide +kernel
  unfold av_mn
  rw [List.getD_eq_getElem?_getD, List.getElem?_eq_getElem (by omega)]
  exact List.getElem_mem _
theorem av_mem_of {α : Type} {l : List α} {f : α → Bool} (h : l.all f = true) {w : Nat} {e : α} (he : l[w]? = some e) : f e = true := List.all_eq_true.mp h e (List.mem_of_getElem? he)
section AVC
variable {p : Program} {l : Launch} {e : Env} {R : Room} {s : State} {m : MethodId} {args : Array Value} {below : List Frame} {meth : Method} {c : Code} {H : Heap} {locs : List Loc} {cells slots : Nat} {Q : State → Prop}
theorem av_call {pc : Nat} {lv : Array Slot} {st0 rest : List Value} {ret : Option FieldType} {r : av_R} {a : Array Value} (hr : va_Run p l e R s m args below meth c H locs cells slots 0 0 (F0 m pc lv st0) rest (av_Qc ad D cI cJ cZ A scr L ret r a) A) (hS : va_S A s.heap H locs)
    (kk : ∀ (H1 : Heap) (locs1 : List Loc), va_P D vwCl (av_ws ad cI cJ cZ r.2.2) H1 → va_S A s.heap H1 locs1 → r.2.2 90 = scr → r.2.2 91 0 = nI L → W p l e R s m args below meth c H1 locs1 cells slots Q (F0 m (pc + 3) lv ((av_rv ret r).toList ++ rest))) : W p l e R s m args below meth c H locs cells slots Q (F0 m pc lv st0) := by
  intro T hT X
  obtain ⟨v, st₀, t, T', Ls, h0, X', hL, e1, e2, ⟨hv, hp, ⟨hz, hk⟩, hs1, hs2⟩, st⟩ := hr T hT X
  cases hv
  rw [h0] at hz hk
  obtain ⟨t2, a1, b1⟩ := kk T'.heap (locs ++ Ls) (by rw [e1]; exact hp)
    ⟨Nat.le_trans hS.1 (by rw [e1]; exact hz), fun q h1 h2 => by rw [e1, hk q (Nat.lt_of_lt_of_le h1 hS.1) h2]; exact hS.2.1 q h1 h2, fun q hq => by
      rcases List.mem_append.mp hq with h | h
      · exact hS.2.2 q h
      · exact hL q h⟩ hs1 hs2 T' rfl X'
  exact ⟨t2, st t2 a1, b1⟩
/-- what a row of the table of calls says -/
theorem av_ct_spec (hM : ∀ e ∈ av_mt, av_gd e) {w own idx k n z o : Nat} {nest st : Bool} {pl : Nat} (h : av_ct[w]? = some (own, idx, nest, k, pl, st, n, z, o)) {args : Array Value} {s : State} (hts : ∀ w ∈ av_tbl, w.before args s = true) (hns : ∀ w ∈ av_nst, va_Nw w s) {d : Nat} {R : Room} (hRf : d + 5 ≤ R.frames) (hRl : 40 * (d + 5) ≤ R.locals) :
    (match nest with
    | true => va_CN R s args (av_cn own) idx (av_mn k).2.1 RX6 (av_mn k).2.2.1 (av_mn k).2.2.2.1 (av_mn k).2.2.2.2.1 (av_mws k) (av_rm d) 0 0 n
    | false => CallB R s args (av_cn own) idx (av_mn k).2.1 (av_mn k).2.2.1 (av_mn k).2.2.2.1 (av_mn k).2.2.2.2.1 (av_mws k) (av_rm d) 0 0 n) ∧ (match st with
    | true => (Cond.static (av_mn k).2.1).before args s = true
    | false => (Cond.instanceMethod (av_mn k).2.1).before args s = true ∧ (Cond.selects (av_cn o) (av_mn k).2.1 (av_mn k).2.1).before args s = true) ∧ av_rk (av_mn k).2.2.2.2.1 z = true := by
  have h1 := av_mem_of av_ct_ok h
  unfold av_cchk at h1
  dsimp only at h1
  generalize hmk : av_mn k = E at h1 ⊢
  obtain ⟨c, y, cc, nL, ret, n', st', p1, p2, p3, p4, T⟩ := E
  dsimp only at h1 ⊢
  simp only [Bool.and_eq_true, beq_iff_eq] at h1
  obtain ⟨⟨⟨⟨⟨g1, g2⟩, g3⟩, g4⟩, g5⟩, g6⟩ := h1
  have g4 := Nat.eq_of_beq_eq_true g4
  have g5 := Nat.eq_of_beq_eq_true g5
  subst g3 g4 g5
  have hk : k < 277 := by simpa using g2
  have hg := hM _ (av_mn_mem hk)
  rw [hmk] at hg
  obtain ⟨q1, q2, q3, q4⟩ := hg
  have hc10 : c ≠ 10 := by
    have : ∀ k, k < 277 → (av_mn k).1 ≠ 10 := by decide +kernel
    have h9 := this k hk
    rw [hmk] at h9
    exact h9
  obtain ⟨q4, q5, q6, q7, q8, q9, q10, q11⟩ := q4.resolve_left hc10
  have hnL : nL ≤ 12 := by simpa using q3
  have hmws : av_mws k = Cond.code y cc nL ret :: av_tbl := by unfold av_mws; rw [hmk]
  have hcode := hts _ q4
  have hroom : 8 + (nL + 11) + (av_rm d).locals ≤ R.locals := by
    show 8 + (nL + 11) + 40 * (d + 4) ≤ R.locals
    omega
  have hpay : ∀ w ∈ av_mws k, ∀ (a' : Array Value) (U : State), s.WarmedH U.vm → w.before a' U = true := by
    intro w hw a' U hW
    rw [hmws] at hw
    rcases List.mem_cons.mp hw with rfl | hw
    · exact word_at hW (good_of_word (List.mem_filter.mp q4).2) hcode
    · exact word_at hW (good_of_word (List.mem_filter.mp hw).2) (hts w hw)
  have hmem : Cond.code y cc nL ret ∈ av_mws k := by rw [hmws]; exact List.mem_cons_self
  have hpar : ∀ sig, parseMethodDescriptor y.desc = some sig → n = sig.parameters.length := by
    intro sig hs
    rw [hs] at q11
    exact (Option.some.inj q11).symm
  refine ⟨?_, ?_, g6⟩
  · cases nest with
    | false => exact ⟨rfl, rfl, hRf, hroom, hpay, hmem, hcode, hts _ q6, ⟨q9, q10⟩, hpar, hts _ (av_word_of g1)⟩
    | true => exact ⟨⟨rfl, rfl, hRf, hroom, hpay, hmem⟩, hcode, hts _ q6, ⟨q9, q10⟩, hpar, va_Nw.use rfl (hns _ (av_wordN_of g1))⟩
  · cases st with
    | true => exact hts _ q5
    | false => exact ⟨hts _ q5.1, hts _ q5.2⟩
end AVC
end AVS
