/-! SOUNDNESS, 4: every method of the abstract machine is one of the machine -/
theorem av_slin (ad : Nat → Nat) : ∀ (as : List Value), (lg_sl (as.map (av_c ad))).length = (av_in as).length := by
  intro as
  induction as with
  | nil => rfl
  | cons v l ih =>
    have e : lg_sl ((v :: l).map (av_c ad)) = (if (av_c ad v).category = 2 then [Slot.val (av_c ad v), Slot.second] else [Slot.val (av_c ad v)]) ++ lg_sl (l.map (av_c ad)) := by simp [lg_sl]
    rw [e, List.length_append, ih, av_c_cat]
    cases v with
    | long x => show 2 + _ = (av_in l).length + 1 + 1; omega
    | double x => show 2 + _ = (av_in l).length + 1 + 1; omega
    | int x => show 1 + _ = (av_in l).length + 1; omega
    | float x => show 1 + _ = (av_in l).length + 1; omega
    | null => show 1 + _ = (av_in l).length + 1; omega
    | ref x => show 1 + _ = (av_in l).length + 1; omega
    | retAddr x => show 1 + _ = (av_in l).length + 1; omega
section AVA
variable {p : Program} {l : Launch} {e : Env} {R : Room} {s : State} {m : MethodId} {args : Array Value} {below : List Frame} {meth : Method} {c : Code} {H : Heap} {locs : List Loc} {cells slots : Nat}
variable {cc : ByteArray}
variable {ad : Nat → Nat} {D : va_G} {cI cJ cZ : ClassId} {A : Nat → Prop} {scr : Nat → Int32} {L : Nat}
/-- an int is returned, cut to the method's type -/
theorem av_ret {Qc : Array Value → State → Outcome → State → Prop} {free : Addr → Prop} {a v : Int32} {ty : FieldType} (hx : p.tables.exec = Jvm.exec) (hb : c.code = cc) (hr : meth.sig.returnType = some ty) (hn : narrow ty (.int v) = .int a) (hlocks : meth.locks = false) (hf : ∀ q ∈ locs, free q.base) {pc : Nat} {ls : Array Slot} (hdg : decode cc pc = .ok (.ireturn, 1))
    (hq : ∀ t : State, t.heap = H → s.WarmedH t.vm → Qc args s (.returned (some (.int a))) t) : W p l e R s m args below meth c H locs cells slots (MQ below Qc args s cells slots free) (F0 m pc ls [.int v]) := by
  intro T hT X
  have hmeth' : T.vm.method? m = some meth := X.method'
  obtain ⟨fs, hret, hrun, hended, hW, hframe⟩ := X.leave (v := some (.int a)) (hlocks := hlocks) (fun h => by rw [hr] at h; cases h)
  refine ⟨T.setFrames fs, ?_, .returned (some (.int a)), hrun, hended, hq _ hT hW, locs, ⟨⟨_, rfl⟩, hW, hframe⟩, hf⟩
  jvm_step X.here [X.here.top, hx, hb, hdg, hmeth', hr, hn]
  (try refine ⟨rfl, ?_⟩); (try refine ⟨rfl, ?_⟩)
  first | (intro acts; rw [hret _ acts rfl rfl rfl]) | rw [hret _ _ rfl rfl rfl]
  exact Steps.refl _
theorem av_rv_int {ret : Option FieldType} {ty : FieldType} {r : av_R} (h : ret = some ty) (hl : ty ≠ .long) : av_rv ret r = some (.int r.1) := by
  subst h
  unfold av_rv
  split
  · rename_i q; cases q
  · rename_i q; cases q; exact absurd rfl hl
  · rfl
theorem av_runW {own nL d : Nat} {ret : Option FieldType} {T : List av_I} {E : Nat → List Value → av_M → Option av_R} (r : av_R)
    (hM : ∀ e ∈ av_mt, av_gd e) (hx : p.tables.exec = Jvm.exec) (hb : c.code = cc) (hml : c.maxLocals = nL) (hown : s.vm.findClass (av_cn own) = some m.cls) (hts : ∀ w ∈ av_tbl, w.before args s = true) (hCx : av_Cx ad D cI cJ cZ A scr L s s.heap) (hD : ∀ h : av_M, va_D A (av_ws ad cI cJ cZ h))
    (hRf : d + 5 ≤ R.frames) (hRl0 : 40 * (d + 5) ≤ R.locals)
    (hE : ∀ (k : Nat) (as : List Value) (h : av_M) (r : av_R), k < 277 → E k as h = some r → av_Me ad D cI cJ cZ A scr L l d k as h r)
    (hT : T.all (av_chk own cc ret) = true) (hr : meth.sig.returnType = ret) (hlocks : meth.locks = false) :
    ∀ (n pc : Nat) (ls st : List Value) (h : av_M), av_run E T n pc ls st h = some r → av_WA p l e R s m args below meth c 0 0 (MQ below (av_Qc ad D cI cJ cZ A scr L ret r) args s 0 0 A) ad D cI cJ cZ A scr L nL pc ls st h := by
  intro n
  induction n with
  | zero => intro pc ls st h hz; cases hz
  | succ n ih =>
    intro pc ls st h hz
    unfold av_run at hz
    cases hq : av_at T pc with
    | nil => rw [hq] at hz; cases hz
    | cons q tl =>
      rw [hq] at hz
      have hpc := av_at_hd T pc q tl hq
      have hmem : q ∈ T := av_at_mem T pc q (by rw [hq]; exact List.mem_cons_self)
      rw [← hpc]
      exact av_sound (β := av_R) (rt := some) (b := r) (cc := cc) (ret := ret) hM hx hb hml hown hts hCx hD hRf hRl0 (Nat.zero_le _) (Nat.zero_le _) hE (List.all_eq_true.mp hT q hmem) hz
        (fun ls st h e => ih _ ls st h e) (fun pc ls st h e => ih pc ls st h e)
        (fun a v h pc lv H locs ty e hdg hre hnl hn hP hS h1 h2 => by
          cases e
          exact av_ret hx hb (hr.trans hre) hn hlocks hS.2.2 hdg (fun t ht _ => ⟨by rw [av_rv_int hre hnl], by rw [ht]; exact hP, hS.F ht, h1, h2⟩))
        (fun v h pc lv H locs e hdg hre hP hS h1 h2 => by
          cases e
          exact W.lret hx hb (hr.trans hre) (fun t ht _ => ⟨by rw [hre]; rfl, by rw [ht]; exact hP, hS.F ht, h1, h2⟩) hS.2.2 hdg)
        (fun h pc lv H locs e hdg hre hP hS h1 h2 => by
          cases e
          exact W.vret hx hb (hr.trans hre) (fun t ht _ => ⟨by rw [hre]; rfl, by rw [ht]; exact hP, hS.F ht, h1, h2⟩) hS.2.2 hdg)
end AVA
theorem av_all (l : Launch) (hM : ∀ e ∈ av_mt, av_gd e) (ad : Nat → Nat) (D : va_G) (cI cJ cZ : ClassId) (A : Nat → Prop) (scr : Nat → Int32) (L : Nat) (hD : ∀ h : av_M, va_D A (av_ws ad cI cJ cZ h)) : ∀ (d k : Nat) (as : List Value) (h : av_M) (r : av_R), k < 277 → av_x d k as h = some r → av_Me ad D cI cJ cZ A scr L l d k as h r := by
  intro d
  induction d with
  | zero => intro k as h r _ e; cases e
  | succ d ih =>
    intro k as h r hk e
    have hc10 : (av_mn k).1 ≠ 10 := by
      have : ∀ k, k < 277 → (av_mn k).1 ≠ 10 := by decide +kernel
      exact this k hk
    have hg := hM _ (av_mn_mem hk)
    have e1 : av_x (d + 1) k as h = (match Nat.ble (av_in as).length (av_tab k).2 with
      | true => av_XP (av_X av_tab d) (av_tab k).1 0 (av_pad (av_tab k).2 (av_in as)) [] h
      | false => none) := rfl
    have et : av_tab k = ((av_mn k).2.2.2.2.2.2.2.2.2.2.2, (av_mn k).2.2.2.1) := rfl
    rw [e1, et] at e
    unfold av_Me av_mws
    generalize av_mn k = E at hc10 hg e ⊢
    obtain ⟨c0, y, cc, nL, ret, n, st, p1, p2, p3, p4, T⟩ := E
    obtain ⟨w1, w2, w3, w4⟩ := hg
    obtain ⟨q4, q5, q6, q7, q8, q9⟩ := w4.resolve_left hc10
    have e : (match Nat.ble (av_in as).length nL with
      | true => av_XP (av_X av_tab d) T 0 (av_pad nL (av_in as)) [] h
      | false => none) = some r := e
    cases hle : Nat.ble (av_in as).length nL with
    | false => rw [hle] at e; cases e
    | true =>
      rw [hle] at e
      obtain ⟨nn, hrun⟩ := av_XP_iff.mp e
      refine Met.ofW (cc := cc) (maxL := nL) (ret := ret) q8 rfl ?_
      intro p e s m args below meth c s₁ B hml hv
      obtain ⟨rfl, hP, hCx, h1, h2⟩ := hv
      have hts0 := atoms_spec (ws := Cond.code y cc nL ret :: av_tbl) B.pre
      have hts : ∀ w ∈ av_tbl, w.before _ s = true := fun w hw => hts0 w (List.mem_cons_of_mem _ hw)
      have hown : s.vm.findClass (av_cn c0) = some m.cls := by rw [← q7]; exact findClass_of_methodNamed B.named
      have hl := lv_entry (as.map (av_c ad)) (n := nL) (by rw [av_slin]; exact Nat.ble_eq.mp hle)
      rw [lg_entry_eq]
      refine av_runW r hM B.exec B.bytes hml hown hts hCx hD (Nat.le_refl _) (Nat.le_refl _) (fun k as h r hk he => ih k as h r hk he) w2 B.returns B.notSynchronized nn 0 _ [] h hrun s.heap [] _ hP va_S.rf ⟨av_pad_len _ _, _, hl, fun i v hg hv => ?_⟩ h1 h2
      have := av_lv_in (ad := ad) as 0 i v (av_pad_gl nL _ i v hg hv) hv
      rw [Nat.zero_add] at this
      exact this
