/-! THE LAW, 1: a call of both on the machine -/
section LZ
variable {p : Program} {l : Launch} {e : Env} {s : State} {m : MethodId} {below : List Frame} {meth : Method} {c : Code} {b : Nat}
variable {ad : Nat → Nat} {D : va_G} {cI cJ cZ : ClassId} {scr : Nat → Int32} {L : Nat}
def lz_A (s : State) : Nat → Prop := fun q => s.heap.size ≤ q
def lz_C (p : Program) (s : State) (m : MethodId) (c : Code) (b : Nat) (ad : Nat → Nat) (D : va_G) (cI cJ cZ : ClassId) (scr : Nat → Int32) (L : Nat) : Prop :=
  (∀ e ∈ av_mt, av_gd e) ∧ p.tables.exec = Jvm.exec ∧ c.code = code ∧ c.maxLocals = 8 ∧ s.vm.findClass (av_cn 10) = some m.cls ∧ (∀ w ∈ av_tbl, w.before #[Value.ref b] s = true) ∧ av_Cx ad D cI cJ cZ (lz_A s) scr L s s.heap ∧ (∀ h : av_M, va_D (lz_A s) (av_ws ad cI cJ cZ h)) ∧ L ≤ 2560
variable (p l e s m below meth c b ad D cI cJ cZ scr L)
def lz_W (cells slots : Nat) (pc : Nat) (ls st : List Value) (h : av_M) : Prop := av_WA p l e room_1 s m #[Value.ref b] below meth c cells slots (lw_Z below #[Value.ref b] s) ad D cI cJ cZ (lz_A s) scr L 8 pc ls st h
variable {p l e s m below meth c b ad D cI cJ cZ scr L}
noncomputable def lz_E : Nat → List Value → av_M → Option av_R := fun k as h => av_x (30 + 100) k as h
def lz_r : av_R → Option Unit := fun _ => none
theorem lz_seg (C : lz_C p s m c b ad D cI cJ cZ scr L) {cells slots : Nat} (hc : cells ≤ 601024) (hs : slots ≤ 7293034) {S : List Nat} {n pc : Nat} (hhd : av_hd tL_law pc = true) {ls st : List Value} {h : av_M}
    (hz : av_seg lz_E lz_r (av_K (lz_W p l e s m below meth c b ad D cI cJ cZ scr L cells slots)) tL_law S n (av_at tL_law pc) ls st h = some ()) : lz_W p l e s m below meth c b ad D cI cJ cZ scr L cells slots pc ls st h := by
  obtain ⟨hM, hx, hb, hml, hown, hts, hCx, hD, hL⟩ := C
  have hg := hM (10, x, code, 8, ret, 1, true, 0, 0, 0, 0, tL_law) (List.mem_of_getElem? (i := 277) rfl)
  obtain ⟨w1, w2, -, -⟩ := hg
  unfold av_hd at hhd
  cases ha : av_at tL_law pc with
  | nil => rw [ha] at hhd; cases hhd
  | cons q tl =>
    have e1 := av_at_hd tL_law pc q tl ha
    subst e1
    rw [ha] at hz
    exact av_segW (d := 30 + 100) S hM hx hb hml hown hts hCx hD (Nat.le_of_ble_eq_true rfl) (Nat.le_of_ble_eq_true rfl) hc hs (fun k as h r hk he => av_all l hM ad D cI cJ cZ (lz_A s) scr L hD (30 + 100) k as h r hk he) w1 w2 (fun pc ls st h q => av_K_to q) n q tl ls st h ha hz
theorem lz_two (C : lz_C p s m c b ad D cI cJ cZ scr L) {cells slots : Nat} (hc : cells ≤ 601024) (hs : slots ≤ 7293034) {kx km pc0 pcA n1 n2 : Nat} {S1 S2 : List Nat} {as ls : List Value} {N : Nat} {h : av_M} (call : sh_P kx km as) (hd0 : av_hd tL_law pc0 = true) (hdA : av_hd tL_law pcA = true)
    (eA : ∀ h : av_M, h 91 0 = nI L → h 90 = scr → av_seg lz_E lz_r (av_K (lz_W p l e s m below meth c b ad D cI cJ cZ scr L cells slots)) tL_law S1 n1 (av_at tL_law pc0) ls [] h = (lz_E kx (.ref 0 :: as) h).bind fun q1 => av_K (lz_W p l e s m below meth c b ad D cI cJ cZ scr L cells slots) pcA ls [.int q1.1] q1.2.2)
    (eB : ∀ (h : av_M) (s0 : Int32), h 91 0 = nI L → h 90 = scr → av_seg lz_E lz_r (av_K (lz_W p l e s m below meth c b ad D cI cJ cZ scr L cells slots)) tL_law S2 n2 (av_at tL_law pcA) ls [.int s0] h = (lz_E km (.ref 44 :: as) h).bind fun q1 => if s0 = q1.1 then av_K (lz_W p l e s m below meth c b ad D cI cJ cZ scr L cells slots) 1621 ls [] q1.2.2 else lz_r (((0 &&& 1) : Int32), (0 : Int64), q1.2.2))
    (hN : N < 1000000) (hRel : sh_Rel N h) (hI : ∀ k : av_M, sh_Rel (N + 1) k → lz_W p l e s m below meth c b ad D cI cJ cZ scr L cells slots 1621 ls [] k) :
    lz_W p l e s m below meth c b ad D cI cJ cZ scr L cells slots pc0 ls [] h := by
  intro H locs lv hP hS hl h1 h2
  obtain ⟨a, k1, k2, e1, e2, R⟩ := call 30 N h hN hRel
  have e1 : lz_E kx (.ref 0 :: as) h = some (a, 0, k1) := e1
  have e2 : lz_E km (.ref 44 :: as) k1 = some (a, 0, k2) := e2
  refine lz_seg C hc hs hd0 (n := n1) (S := S1) ?_ H locs lv hP hS hl h1 h2
  rw [eA h h2 h1, e1]
  refine av_K_of ?_
  intro H' locs' lv' hP' hS' hl' h1' h2'
  refine lz_seg C hc hs hdA (n := n2) (S := S2) ?_ H' locs' lv' hP' hS' hl' h1' h2'
  rw [eB k1 a h2' h1', e2]
  simp only [Option.bind_some]
  rw [if_pos trivial]
  exact av_K_of (hI k2 R)
end LZ
theorem lz_J {N k L : Nat} {c : Int32} (hc : c = nI k) (hk : 5 * N + k < L) (hL : L ≤ 2560) (h : av_M) (e : h 91 0 = nI L) : av_ins (nI (5 * N) + c) (h 91 0) = true := by
  rw [e, hc, nI_add]
  unfold av_ins
  rw [decide_eq_false]
  · rfl
  · rintro (q | q)
    · exact nI_pos (by omega) q
    · exact nI_ge hk (by omega) q
theorem lz_V {N k : Nat} {c : Int32} (hc : c = nI k) (hk : 5 * N + k < 2560) : Int32.toNatClampNeg (nI (5 * N) + c) = 5 * N + k := by
  rw [hc, nI_add, nI_clamp (by omega)]
