/-! EXCEPTIONS: streamer and row, where they throw -/
section VZ
variable {p : Program} {l : Launch} {e : Env} {R : Room} {s : State} {m : MethodId} {args : Array Value} {below : List Frame} {meth : Method} {c : Code} {H : Heap} {locs : List Loc} {cells slots : Nat} {Q : State → Prop}
variable {cc : ByteArray}
variable {ad : Nat → Nat} {D : va_G} {cI cJ cZ : ClassId} {A : Nat → Prop} {scr : Nat → Int32} {L : Nat}
theorem av_segP {E : Nat → List Value → av_M → Option av_R} {P : Nat → List Value → List Value → av_M → Prop} {own nL d : Nat} {ret : Option FieldType} {T : List av_I} {S : List Nat}
    (hM : ∀ e ∈ av_mt, av_gd e) (hx : p.tables.exec = Jvm.exec) (hb : c.code = cc) (hml : c.maxLocals = nL) (hown : s.vm.findClass (av_cn own) = some m.cls) (hts : ∀ w ∈ av_tbl, w.before args s = true) (hCx : av_Cx ad D cI cJ cZ A scr L s s.heap) (hD : ∀ h : av_M, va_D A (av_ws ad cI cJ cZ h))
    (hRf : d + 5 ≤ R.frames) (hRl0 : 40 * (d + 5) ≤ R.locals) (hc : cells ≤ R.cells) (hs : slots ≤ R.slots)
    (hE : ∀ (k : Nat) (as : List Value) (h : av_M) (r : av_R), k < 277 → E k as h = some r → av_Me ad D cI cJ cZ A scr L l d k as h r)
    (hw : av_wf T = true) (hT : T.all (av_chk own cc ret) = true) {n pc : Nat} {ls st : List Value} {h : av_M} (hhd : av_hd T pc = true)
    (hz : av_seg E (fun _ => none) (av_K P) T S n (av_at T pc) ls st h = some ())
    (hP : ∀ (pc : Nat) (ls st : List Value) (h : av_M), P pc ls st h → av_WA p l e R s m args below meth c cells slots Q ad D cI cJ cZ A scr L nL pc ls st h) :
    av_WA p l e R s m args below meth c cells slots Q ad D cI cJ cZ A scr L nL pc ls st h := by
  unfold av_hd at hhd
  cases ha : av_at T pc with
  | nil => rw [ha] at hhd; cases hhd
  | cons q tl =>
    have e1 := av_at_hd T pc q tl ha
    subst e1
    rw [ha] at hz
    exact av_segW (d := d) S hM hx hb hml hown hts hCx hD hRf hRl0 hc hs hE hw hT (fun pc ls st h q => hP pc ls st h (av_K_to q)) n q tl ls st h ha hz
def vz_X : String := "java/util/NoSuchElementException"
def vz_Z (A : Nat → Prop) (U : State) (H : Heap) : Prop := vx_Zq Bundle.tN "UNASSIGNED_STACK" Bundle.steD A U H ∧ vx_Zq Bundle.tN "SUPPRESSED_SENTINEL" Bundle.listD A U H
theorem vz_Z_at {s U : State} {H : Heap} {locs : List Loc} (h : vz_Z A s s.heap) (hS : va_S A s.heap H locs) (hW : s.WarmedH U.vm) (hU : U.heap = H) : vz_Z A U U.heap := by
  subst hU
  exact ⟨vx_Zq.moved hW.alike (vx_Zq.kept h.1 hS.2.1), vx_Zq.moved hW.alike (vx_Zq.kept h.2 hS.2.1)⟩
variable (ad D cI cJ cZ A scr L)
def vz_P (as : List Value) (h : av_M) : Array Value → State → Prop := fun v U => av_Pc ad D cI cJ cZ A scr L as h v U ∧ vz_Z A U U.heap
def vz_XC (h : av_M) : String → State → State → Prop := vx_X (fun _ : Unit => True) (fun E _ t => E = vz_X ∧ va_P D vwCl (av_ws ad cI cJ cZ h) t.heap) A
variable {ad D cI cJ cZ A scr L}
theorem vz_blind (as : List Value) (h : av_M) : FrameBlind (vz_P ad D cI cJ cZ A scr L as h) := fun a U g mk q => ⟨av_Pc_blind as h a U g mk q.1, vx_Zq.moved (u := U) (U := U.calling g mk a) (Vm.Alike.refl U.vm) q.2.1, vx_Zq.moved (u := U) (U := U.calling g mk a) (Vm.Alike.refl U.vm) q.2.2⟩
def vz_rm : Room := { frames := 200, cells := 1, slots := 6, locals := 8000 }
/-- new NoSuchElementException(), thrown out of a method of the class -/
theorem vz_throw {pc : Nat} {lv : Array Slot} {h : av_M} (hx : p.tables.exec = Jvm.exec) (hb : c.code = cc) (hl : l.stackTraces = false) (hown : s.vm.findClass RX6 = some m.cls) (hts : ∀ w ∈ av_tbl, w.before args s = true) (hCx : av_Cx ad D cI cJ cZ A scr L s s.heap) (hZ : vz_Z A s s.heap) (hS : va_S A s.heap H locs) (hP : va_P D vwCl (av_ws ad cI cJ cZ h) H) (hsize : lv.size = c.maxLocals)
    (htab : ∀ x ∈ c.exceptionTable.toList, False) (hlocks : meth.locks = false)
    (d0 : decode cc pc = .ok (.new 102, 3)) (d3 : decode cc (pc + 3) = .ok (.dup, 1)) (d4 : decode cc (pc + 4) = .ok (.invokespecial 104, 3)) (d7 : decode cc (pc + 7) = .ok (.athrow, 1)) {Qc : Array Value → State → Outcome → State → Prop} :
    W p l e vz_rm s m args below meth c H locs 0 0 (vx_MQ below Qc (vz_XC ad D cI cJ cZ A h) args s 1 6 A) (F0 m pc lv []) := by
  have hk := hts _ (List.mem_filter.mpr ⟨vz_k.1, vz_k.2.1⟩)
  have hi := hts _ (List.mem_filter.mpr ⟨vz_k.2.2.1, vz_k.2.2.2⟩)
  have hat : ∀ w ∈ vz_L, w.before args s = true := fun w hw => (vz_tbl w hw).elim (fun q => hts w q) (fun q => av_nst_use q (hCx.2.1 w q))
  exact vx_throw0 (names := ["java/lang/RuntimeException", "java/lang/Exception"]) (own := RX6) (cls := vz_X) (ik := 102) (ic := 104) hx hb hl hown (by decide) (by decide) hk hi hat (fun w hw => List.all_eq_true.mp vz_ot w hw) hZ.1 hZ.2 hS hsize d0 d3 d4 d7 (fun x hx => (htab x hx).elim) (by decide) (by decide) (by decide) (by decide) hlocks
    (fun t hv hz hq => ⟨(), trivial, ⟨rfl, fun k q hq' => (hP k q hq').kept (hq q.1 (hP k q hq').lt)⟩, Nat.le_trans hS.1 hz, fun q h1 h2 => by rw [hq q (Nat.lt_of_lt_of_le h1 hS.1)]; exact hS.2.1 q h1 h2⟩) hS.2.2 (by decide) (by decide)
end VZ
section VZM
variable {ad : Nat → Nat} {D : va_G} {cI cJ cZ : ClassId} {A : Nat → Prop} {scr : Nat → Int32} {L : Nat}
theorem vz_in8 {q : Int32} (h : sh_ir 0 8 q = false) : ¬ q = 0 ∧ ¬ q = 1 ∧ ¬ q = 2 ∧ ¬ q = 3 ∧ ¬ q = 4 ∧ ¬ q = 5 ∧ ¬ q = 6 ∧ ¬ q = 7 ∧ ¬ q = 8 := by
  refine ⟨?_, ?_, ?_, ?_, ?_, ?_, ?_, ?_, ?_⟩ <;> (intro z; rw [z] at h; revert h; decide)
theorem vz_streamer (l : Launch) (hl : l.stackTraces = false) (hM : ∀ e ∈ av_mt, av_gd e) (hD : ∀ h : av_M, va_D A (av_ws ad cI cJ cZ h)) {a q : Int32} {h : av_M} {b : Bool} (e1 : av_x (30 + 99) 26 [.ref 5, .int a] h = some (sh_i b, 0, h)) (hbq : b = false ∨ sh_ir 0 8 q = false) (Qc : Array Value → State → Outcome → State → Prop) :
    vx_Met l yX6_streamer (sc_ws yX6_streamer cX6_streamer 3 (some .int)) vz_rm (vz_P ad D cI cJ cZ A scr L [.ref 0, .int a, .int q] h) Qc (vz_XC ad D cI cJ cZ A h) 1 6 A := by
  refine vx_ofW (cc := cX6_streamer) (maxL := 3) (ret := some .int) (by decide) rfl ?_
  intro p e s m args below meth c s₁ B hml htab hv
  obtain ⟨⟨rfl, hP, hCx, h1, h2⟩, hZ⟩ := hv
  have hts0 := atoms_spec (ws := sc_ws yX6_streamer cX6_streamer 3 (some .int)) B.pre
  have hts : ∀ w ∈ av_tbl, w.before _ s = true := fun w hw => hts0 w (List.mem_cons_of_mem _ hw)
  have hown : s.vm.findClass RX6 = some m.cls := findClass_of_methodNamed B.named
  have hg := hM (av_mn 56) (av_mn_mem (by decide))
  obtain ⟨w1, w2, -, -⟩ := hg
  have hl0 := lv_entry (([.ref 0, .int a, .int q] : List Value).map (av_c ad)) (n := 3) (Nat.le_of_ble_eq_true rfl)
  rw [lg_entry_eq]
  refine av_segP (own := 6) (d := 30 + 99) (cc := cX6_streamer) (ret := some .int) (T := tX6_streamer) (S := [11, 170]) (n := 17) (pc := 0) (ls := [.ref 0, .int a, .int q]) (st := []) (h := h) (E := fun k as h => av_x (30 + 99) k as h) (P := fun pc ls st h' => (pc = 11 ∨ pc = 170) ∧ st = [] ∧ h' = h) hM B.exec B.bytes hml hown hts hCx hD (Nat.le_of_ble_eq_true rfl) (Nat.le_of_ble_eq_true rfl) (Nat.zero_le _) (Nat.zero_le _) (fun k as h r hk he => av_all l hM ad D cI cJ cZ A scr L hD (30 + 99) k as h r hk he) w1 w2 rfl ?_ ?_ s.heap [] _ hP va_S.rf ⟨rfl, _, hl0, fun i v hg hv => ?_⟩ h1 h2
  · rw [eT_streamer, e1]
    simp only [Option.bind_some]
    cases b with
    | false => rw [if_pos (show sh_i false = 0 from rfl)]; exact av_K_of ⟨Or.inl rfl, rfl, rfl⟩
    | true =>
      obtain ⟨n0, n1, n2, n3, n4, n5, n6, n7, n8⟩ := vz_in8 (hbq.resolve_left (by decide))
      rw [if_neg (show ¬ sh_i true = 0 by decide), if_neg n0, if_neg n1, if_neg n2, if_neg n3, if_neg n4, if_neg n5, if_neg n6, if_neg n7, if_neg n8]
      exact av_K_of ⟨Or.inr rfl, rfl, rfl⟩
  · rintro pc ls st h' ⟨hpc, rfl, rfl⟩
    intro H locs lv hP hS hlv h1 h2
    rcases hpc with rfl | rfl
    · exact vz_throw B.exec B.bytes hl hown hts hCx hZ hS hP ((av_lv_size hlv).trans hml.symm) htab B.notSynchronized (by decide +kernel) (by decide +kernel) (by decide +kernel) (by decide +kernel)
    · exact vz_throw B.exec B.bytes hl hown hts hCx hZ hS hP ((av_lv_size hlv).trans hml.symm) htab B.notSynchronized (by decide +kernel) (by decide +kernel) (by decide +kernel) (by decide +kernel)
  · have := av_lv_in (ad := ad) [.ref 0, .int a, .int q] 0 i v hg hv
    rw [Nat.zero_add] at this
    exact this
theorem vz_row (l : Launch) (hl : l.stackTraces = false) (hM : ∀ e ∈ av_mt, av_gd e) (hD : ∀ h : av_M, va_D A (av_ws ad cI cJ cZ h)) {a : Int32} {h : av_M} (hbq : a < 0 ∨ h 3 1 ≤ a) (Qc : Array Value → State → Outcome → State → Prop) :
    vx_Met l yX6_row (sc_ws yX6_row cX6_row 2 (some .long)) vz_rm (vz_P ad D cI cJ cZ A scr L [.ref 0, .int a] h) Qc (vz_XC ad D cI cJ cZ A h) 1 6 A := by
  refine vx_ofW (cc := cX6_row) (maxL := 2) (ret := some .long) (by decide) rfl ?_
  intro p e s m args below meth c s₁ B hml htab hv
  obtain ⟨⟨rfl, hP, hCx, h1, h2⟩, hZ⟩ := hv
  have hts0 := atoms_spec (ws := sc_ws yX6_row cX6_row 2 (some .long)) B.pre
  have hts : ∀ w ∈ av_tbl, w.before _ s = true := fun w hw => hts0 w (List.mem_cons_of_mem _ hw)
  have hown : s.vm.findClass RX6 = some m.cls := findClass_of_methodNamed B.named
  have hg := hM (av_mn 103) (av_mn_mem (by decide))
  obtain ⟨w1, w2, -, -⟩ := hg
  have hl0 := lv_entry (([.ref 0, .int a] : List Value).map (av_c ad)) (n := 2) (Nat.le_of_ble_eq_true rfl)
  rw [lg_entry_eq]
  refine av_segP (own := 6) (d := 30 + 99) (cc := cX6_row) (ret := some .long) (T := tX6_row) (S := [27]) (n := 20) (pc := 0) (ls := [.ref 0, .int a]) (st := []) (h := h) (E := fun k as h => av_x (30 + 99) k as h) (P := fun pc ls st h' => pc = 27 ∧ st = [] ∧ h' = h) hM B.exec B.bytes hml hown hts hCx hD (Nat.le_of_ble_eq_true rfl) (Nat.le_of_ble_eq_true rfl) (Nat.zero_le _) (Nat.zero_le _) (fun k as h r hk he => av_all l hM ad D cI cJ cZ A scr L hD (30 + 99) k as h r hk he) w1 w2 rfl ?_ ?_ s.heap [] _ hP va_S.rf ⟨rfl, _, hl0, fun i v hg hv => ?_⟩ h1 h2
  · rw [eT_row]
    rcases hbq with z | z
    · rw [if_pos z]; exact av_K_of ⟨rfl, rfl, rfl⟩
    · by_cases z0 : a < 0
      · rw [if_pos z0]; exact av_K_of ⟨rfl, rfl, rfl⟩
      · rw [if_neg z0, if_pos z]; exact av_K_of ⟨rfl, rfl, rfl⟩
  · rintro pc ls st h' ⟨rfl, rfl, rfl⟩
    intro H locs lv hP hS hlv h1 h2
    exact vz_throw B.exec B.bytes hl hown hts hCx hZ hS hP ((av_lv_size hlv).trans hml.symm) htab B.notSynchronized (by decide +kernel) (by decide +kernel) (by decide +kernel) (by decide +kernel)
  · have := av_lv_in (ad := ad) [.ref 0, .int a] 0 i v hg hv
    rw [Nat.zero_add] at this
    exact this
end VZM
