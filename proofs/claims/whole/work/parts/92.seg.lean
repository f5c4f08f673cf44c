/-! SEGMENTS of a method, on the machine -/
section AVG
variable {p : Program} {l : Launch} {e : Env} {R : Room} {s : State} {m : MethodId} {args : Array Value} {below : List Frame} {meth : Method} {c : Code} {cells slots : Nat} {Q : State → Prop}
variable {cc : ByteArray}
variable {ad : Nat → Nat} {D : va_G} {cI cJ cZ : ClassId} {A : Nat → Prop} {scr : Nat → Int32} {L : Nat}
theorem av_seg_nil {β : Type} {E : Nat → List Value → av_M → Option av_R} {rt : av_R → Option β} {K : Nat → List Value → List Value → av_M → Option β} {T : List av_I} {S : List Nat} (n : Nat) (ls st : List Value) (h : av_M) : av_seg E rt K T S n [] ls st h = none := by cases n <;> rfl
theorem av_segW {β : Type} {E : Nat → List Value → av_M → Option av_R} {K : Nat → List Value → List Value → av_M → Option β} {b : β} {own nL d : Nat} {ret : Option FieldType} {T : List av_I} (S : List Nat)
    (hM : ∀ e ∈ av_mt, av_gd e) (hx : p.tables.exec = Jvm.exec) (hb : c.code = cc) (hml : c.maxLocals = nL) (hown : s.vm.findClass (av_cn own) = some m.cls) (hts : ∀ w ∈ av_tbl, w.before args s = true) (hCx : av_Cx ad D cI cJ cZ A scr L s s.heap) (hD : ∀ h : av_M, va_D A (av_ws ad cI cJ cZ h))
    (hRf : d + 5 ≤ R.frames) (hRl0 : 40 * (d + 5) ≤ R.locals) (hc : cells ≤ R.cells) (hs : slots ≤ R.slots)
    (hE : ∀ (k : Nat) (as : List Value) (h : av_M) (r : av_R), k < 277 → E k as h = some r → av_Me ad D cI cJ cZ A scr L l d k as h r)
    (hw : av_wf T = true) (hT : T.all (av_chk own cc ret) = true)
    (hK : ∀ (pc : Nat) (ls st : List Value) (h : av_M), K pc ls st h = some b → av_WA p l e R s m args below meth c cells slots Q ad D cI cJ cZ A scr L nL pc ls st h) :
    ∀ (n : Nat) (q : av_I) (tl : List av_I) (ls st : List Value) (h : av_M), av_at T q.1 = q :: tl → av_seg E (fun _ => none) K T S n (q :: tl) ls st h = some b → av_WA p l e R s m args below meth c cells slots Q ad D cI cJ cZ A scr L nL q.1 ls st h := by
  intro n
  induction n with
  | zero => intro q tl ls st h _ hz; exact hK _ _ _ _ hz
  | succ n ih =>
    intro q tl ls st h hq hz
    have hmem : q ∈ T := av_at_mem T q.1 q (by rw [hq]; exact List.mem_cons_self)
    have hz : av_stp E (fun _ => none) (fun ls st h => match tl with
        | [] => none
        | q' :: _ => match av_mem S q'.1 with
          | true => K q'.1 ls st h
          | false => av_seg E (fun _ => none) K T S n tl ls st h)
      (fun pc ls st h => match av_mem S pc with
        | true => K pc ls st h
        | false => av_seg E (fun _ => none) K T S n (av_at T pc) ls st h) q ls st h = some b := hz
    refine av_sound (β := β) (b := b) (cc := cc) (ret := ret) hM hx hb hml hown hts hCx hD hRf hRl0 hc hs hE (List.all_eq_true.mp hT q hmem) hz ?_ ?_ (fun _ _ _ _ _ _ _ _ z => by cases z) (fun _ _ _ _ _ _ z => by cases z) (fun _ _ _ _ _ z => by cases z)
    · intro ls st h e
      cases tl with
      | nil => cases e
      | cons q' l =>
        obtain ⟨h1, h2⟩ := av_at_next T q.1 q q' l hw hq
        rw [← h2]
        have e : (match av_mem S q'.1 with
          | true => K q'.1 ls st h
          | false => av_seg E (fun _ => none) K T S n (q' :: l) ls st h) = some b := e
        cases hm : av_mem S q'.1 with
        | true => rw [hm] at e; exact hK _ _ _ _ e
        | false => rw [hm] at e; exact ih q' l ls st h h1 e
    · intro pc ls st h e
      cases hm : av_mem S pc with
      | true => rw [hm] at e; exact hK _ _ _ _ e
      | false =>
        rw [hm] at e
        cases hp : av_at T pc with
        | nil => rw [hp, av_seg_nil] at e; cases e
        | cons q2 tl2 =>
          rw [hp] at e
          have h1 := av_at_hd T pc q2 tl2 hp
          subst h1
          exact ih q2 tl2 ls st h hp e
end AVG
noncomputable def av_K (P : Nat → List Value → List Value → av_M → Prop) (pc : Nat) (ls st : List Value) (h : av_M) : Option Unit := @ite _ (P pc ls st h) (Classical.propDecidable _) (some ()) none
theorem av_K_of {P : Nat → List Value → List Value → av_M → Prop} {pc : Nat} {ls st : List Value} {h : av_M} (q : P pc ls st h) : av_K P pc ls st h = some () := by unfold av_K; rw [if_pos q]
theorem av_K_to {P : Nat → List Value → List Value → av_M → Prop} {pc : Nat} {ls st : List Value} {h : av_M} (q : av_K P pc ls st h = some ()) : P pc ls st h := by
  unfold av_K at q
  by_cases g : P pc ls st h
  · exact g
  · rw [if_neg g] at q; cases q
