/-! THE START, 1: what constructors make lies in a row, one address after another -/
def vj_ws : Nat → List va_E → va_W
  | _, [] => []
  | z, e :: E => (z, e) :: vj_ws (z + 1) E
theorem vj_get : ∀ (E : List va_E) (z k : Nat), (vj_ws z E)[k]? = (E[k]?).map (fun e => (z + k, e)) := by
  intro E
  induction E with
  | nil => intro z k; rfl
  | cons e E ih =>
    intro z k
    cases k with
    | zero => rfl
    | succ k =>
      show (vj_ws (z + 1) E)[k]? = (E[k]?).map _
      rw [ih, show z + 1 + k = z + (k + 1) by omega]
theorem vj_app : ∀ (E F : List va_E) (z : Nat), vj_ws z (E ++ F) = vj_ws z E ++ vj_ws (z + E.length) F := by
  intro E
  induction E with
  | nil => intro F z; rfl
  | cons e E ih =>
    intro F z
    show (z, e) :: vj_ws (z + 1) (E ++ F) = (z, e) :: (vj_ws (z + 1) E ++ vj_ws (z + (e :: E).length) F)
    rw [ih, show z + 1 + E.length = z + (e :: E).length by rw [List.length_cons]; omega]
theorem vj_set : ∀ (E : List va_E) (z k : Nat) (e : va_E), (vj_ws z E).set k (z + k, e) = vj_ws z (E.set k e) := by
  intro E
  induction E with
  | nil => intro z k e; rfl
  | cons e0 E ih =>
    intro z k e
    cases k with
    | zero => rfl
    | succ k =>
      show (z, e0) :: (vj_ws (z + 1) E).set k (z + (k + 1), e) = (z, e0) :: vj_ws (z + 1) (E.set k e)
      rw [show z + (k + 1) = z + 1 + k by omega, ih]
def vj_A (z : Nat) : Nat → Prop := fun q => z ≤ q
theorem vj_mem {E : List va_E} {z k : Nat} {q : Nat × va_E} (h : (vj_ws z E)[k]? = some q) : E[k]? = some q.2 ∧ q.1 = z + k := by
  rw [vj_get] at h
  cases e : E[k]? with
  | none => rw [e] at h; cases h
  | some x => rw [e] at h; cases h; exact ⟨rfl, rfl⟩
theorem vj_D (E : List va_E) (z : Nat) {A : Nat → Prop} (hA : ∀ q, z ≤ q → A q) : va_D A (vj_ws z E) := by
  refine ⟨fun i j p q hp hq e => ?_, fun k q hk => ?_⟩
  · have h1 := (vj_mem hp).2
    have h2 := (vj_mem hq).2
    omega
  · rw [(vj_mem hk).2]; exact hA _ (Nat.le_add_right _ _)
def vj_S (D : va_G) (z : Nat) (E : List va_E) (H : Heap) : Prop := va_P D vwCl (vj_ws z E) H ∧ H.size = z + E.length
def vj_K (D : va_G) (cI cJ cZ : ClassId) (s : State) : Prop := va_K D vwCl [(cI, .int), (cJ, .long), (cZ, .boolean)] s ∧ (∀ w ∈ av_nst, va_Nw w s)
def vj_C (p : Program) (c : Code) (cc : ByteArray) (s : State) (m : MethodId) (args : Array Value) (o : Nat) (D : va_G) (cI cJ cZ : ClassId) : Prop :=
  p.tables.exec = Jvm.exec ∧ c.code = cc ∧ s.vm.findClass (av_cn o) = some m.cls ∧ (∀ w ∈ av_tbl, w.before args s = true) ∧ vj_K D cI cJ cZ s
section VB
variable {p : Program} {l : Launch} {e : Env} {R : Room} {s : State} {m : MethodId} {args : Array Value} {below : List Frame} {meth : Method} {c : Code} {H : Heap} {locs : List Loc} {cells slots : Nat} {Q : State → Prop}
variable {cc : ByteArray} {o : Nat} {D : va_G} {cI cJ cZ : ClassId} {z pc : Nat} {ls : Array Slot} {rest : List Value} {E : List va_E}
theorem vj_newa {a : ClassId} (C : vj_C p c cc s m args o D cI cJ cZ) (hz : z ≤ s.heap.size) (hP : vj_S D z E H) (hS : va_S (vj_A z) s.heap H locs) {atype : ArrayType} {ty : FieldType} (hty : newarray.typeOf atype = ty) (t : Nat) (ht : [(cI, FieldType.int), (cJ, .long), (cZ, .boolean)][t]? = some (a, ty)) (hra : va_RA s a ty = (s.vm.findClass ("[" ++ ty.toString) = some a)) (harr : Cond.arrayClass ty ∈ av_tbl)
    {n : Int32} {N : Nat} (a0 : vp_A) (ha : ∀ cA : ClassId, vp_cell cA a0 = arrV cA N (fun _ => defaultValue ty)) (hn : ¬ n < 0) (hN : n.toNatClampNeg = N) (hbytes : N * componentBytes ty ≤ 536870912) (hcells : cells + 1 ≤ R.cells) (hslots : slots + N ≤ R.slots) (hdg : decode cc pc = .ok (.newarray atype, 2)) {len : Nat} (hlen : E.length = len)
    (kk : ∀ H1 : Heap, vj_S D z (E ++ [.inl (a, a0)]) H1 → va_S (vj_A z) s.heap H1 locs → W p l e R s m args below meth c H1 locs (cells + 1) (slots + N) Q (F0 m (pc + 2) ls (.ref (z + len) :: rest))) : W p l e R s m args below meth c H locs cells slots Q (F0 m pc ls (.int n :: rest)) := by
  subst hty
  subst hlen
  obtain ⟨hx, hb, hown, hts, hK, hns⟩ := C
  refine va_newaK hx hb (hts _ harr) rfl hdg rfl hn hN hbytes hcells hslots hP.2 (fun H1 cA e1 z1 o1 hAr hNm => ?_)
  have hc9 := (hK.2 t _ ht).2
  rw [hra] at hc9
  cases Option.some.inj (hNm.symm.trans hc9)
  refine kk H1 ⟨?_, by rw [z1, List.length_append]; rfl⟩ ⟨Nat.le_trans hS.1 (by rw [z1, hP.2]; omega), fun x h1 h2 => (o1 x (by rw [← hP.2]; exact Nat.lt_of_lt_of_le h1 hS.1)).trans (hS.2.1 x h1 h2), hS.2.2⟩
  rw [vj_app]
  refine (hP.1.kept fun k q hq => o1 q.1 (by rw [← hP.2]; exact (hP.1 k q hq).lt)).app (fun k q hq => ?_)
  obtain ⟨g1, g2⟩ := vj_mem hq
  cases k with
  | succ k => cases g1
  | zero =>
    obtain ⟨q1, q2⟩ := q
    cases g1
    dsimp only at g2
    subst g2
    show H1[_]? = some (vp_cell _ _)
    rw [ha]
    exact e1
theorem vj_new (C : vj_C p c cc s m args o D cI cJ cZ) (hz : z ≤ s.heap.size) (hP : vj_S D z E H) (hS : va_S (vj_A z) s.heap H locs) {ci index : Nat} (hci : ci < 8) (hcl : Cond.classLink (av_cn o) index (av_cn ci) ∈ av_tbl) (hins : Cond.instantiable (av_cn ci) (av_nf ci) ∈ av_tbl) (hini : Cond.initialized (av_cn ci) ∈ av_tbl)
    {fs : List Value} (hfs : ∀ j, j < av_nf ci → defaultValue (av_ty ci j) = vp_V fs j) {n : Nat} (hnf : av_nf ci = n) (hcells : cells + 1 ≤ R.cells) (hslots : slots + n ≤ R.slots) (hdg : decode cc pc = .ok (.new index, 3)) {len : Nat} (hlen : E.length = len)
    (kk : ∀ H1 : Heap, vj_S D z (E ++ [.inr (ci, fs)]) H1 → va_S (vj_A z) s.heap H1 locs → W p l e R s m args below meth c H1 locs (cells + 1) (slots + n) Q (F0 m (pc + 3) ls (.ref (z + len) :: rest))) : W p l e R s m args below meth c H locs cells slots Q (F0 m pc ls rest) := by
  subst hlen
  subst hnf
  obtain ⟨hx, hb, hown, hts, hK, hns⟩ := C
  have hKn := hK.1 ci _ (av_cls ci hci)
  refine W.newcK hx hb hown (hts _ hcl) (hts _ hins) (hts _ hini) rfl hdg hcells hslots hKn.2.1 hP.2 (fun H1 kC hkC e1 z1 o1 => ?_)
  refine kk H1 ⟨?_, by rw [z1, List.length_append]; rfl⟩ ⟨Nat.le_trans hS.1 (by rw [z1, hP.2]; omega), fun x h1 h2 => (o1 x (by rw [← hP.2]; exact Nat.lt_of_lt_of_le h1 hS.1)).trans (hS.2.1 x h1 h2), hS.2.2⟩
  rw [vj_app]
  refine (hP.1.kept fun k q hq => o1 q.1 (by rw [← hP.2]; exact (hP.1 k q hq).lt)).app (fun k q hq => ?_)
  obtain ⟨g1, g2⟩ := vj_mem hq
  cases k with
  | succ k => cases g1
  | zero =>
    obtain ⟨q1, q2⟩ := q
    cases g1
    dsimp only at g2
    subst g2
    exact ⟨_, av_cls ci hci, (u_born (av_ty ci) hts (av_lays ci hci) hKn hkC e1 (av_tys ci hci)).to hfs⟩
theorem vj_put (C : vj_C p c cc s m args o D cI cJ cZ) (ho : o < 8) {fs : List Value} {T : List va_E} (hP : vj_S D z (.inr (o, fs) :: T) H) (hS : va_S (vj_A z) s.heap H locs) (k : Nat) (hk : k < av_nf o) {index : Nat} (hlink : Cond.fieldLink (av_cn o) index (av_cn o) (av_Tt o k).2.1 (av_Tt o k).2.2.1 ∈ av_tbl) (hT : (av_Tt o k).1 = av_cn o) (hin2 : meth.name = "<init>") {ty : FieldType} {v : Value} (hty : av_ty o k = ty) (hn : narrow ty v = v) (hfit : fits ty v = true) (hl : k < fs.length)
    (hdg : decode cc pc = .ok (.putfield index, 3)) (kk : ∀ (H1 : Heap) (locs1 : List Loc), vj_S D z (.inr (o, fs.set k v) :: T) H1 → va_S (vj_A z) s.heap H1 locs1 → W p l e R s m args below meth c H1 locs1 cells slots Q (F0 m (pc + 3) ls rest)) : W p l e R s m args below meth c H locs cells slots Q (F0 m pc ls (v :: .ref z :: rest)) := by
  subst hty
  obtain ⟨hx, hb, hown, hts, hK, hns⟩ := C
  have hc := av_cls o ho
  have hap := va_apart (own := av_cn o) hts (av_lays o ho) (av_ty o) (av_tys o ho) (av_nms o ho) hK hc
  have hD := vj_D (.inr (o, fs) :: T) z (A := vj_A z) (fun _ h => h)
  have he : (vj_ws z (.inr (o, fs) :: T))[0]? = some (z, .inr (o, fs)) := rfl
  obtain ⟨r, h1, cell, q1, q2, q3, q4⟩ := hP.1 0 _ he
  have hr : r = (av_cn o, av_Tt o, av_nf o) := Option.some.inj (h1.symm.trans hc)
  subst hr
  obtain ⟨hS9, hfc, kC, hkC, hkind⟩ := hK.1 o _ hc
  obtain ⟨cf, kf, fi, f, hi, hsl⟩ := hS9 k hk
  have hlay := hts _ (av_lays o ho _ (u_in_lay hk))
  have hst := (u_facts hfc hkC (u_lays hts (av_lays o ho) hk) hi).1
  have hsame : s.fieldFound? (av_cn o) (av_Tt o k).2.1 (av_Tt o k).2.2.1 = some (cf, kf, fi, f) := by rw [← hT]; exact hi
  have fin : ∀ H' : Heap, H'[z]? = some (cell.setSlot f.slot v) → H'.size = H.size → (∀ q, q ≠ z → H'[q]? = H[q]?) → W p l e R s m args below meth c H' (locs ++ [⟨z, f.slot⟩]) cells slots Q (F0 m (pc + 3) ls rest) := by
    intro H' e1 e2 e3
    rw [hsl] at e1
    have hP1 : va_P D vwCl ((vj_ws z (.inr (o, fs) :: T)).set 0 (z, .inr (o, fs.set k v))) H' := hP.1.set hD he ⟨_, hc, t_OB.to (V := updV (vp_V fs) k v) ⟨_, e1, q2, q3, t_set q4 hap hk v⟩ (fun j _ => vp_updV_set hl v j)⟩ e3
    exact kk H' _ ⟨hP1, by rw [e2, hP.2]; rfl⟩ (hS.put e2 e3 (hD.2 0 _ he))
  by_cases hfin : (av_Tt o k).2.2.2 = true
  · unfold u_lay at hlay
    rw [if_pos hfin] at hlay
    have hcf : m.cls = cf := by
      obtain ⟨_, _, c', _, _, _, -, -, hf', -, -, -, hown2, -⟩ := Cond.laysFinal_spec hlay
      have e1 : c' = cf := by have := hi.symm.trans hf'; simp at this; exact this.1.symm
      rw [hT] at hown2
      rw [← e1]; exact Option.some.inj (hown.symm.trans hown2)
    have h6 := u_fits hfc hkC hkind (Or.inr hlay) hi (av_tys o ho k hk) hn hfit
    exact W.putFinK hx hb hown (hts _ hlink) hsame hst hcf hin2 (by rw [q2]; exact h6) q1 q3 (by rw [hsl]; exact k2_hasslot (q4 k hk)) rfl rfl hdg fin
  · unfold u_lay at hlay
    rw [if_neg hfin] at hlay
    have h6 := u_store hfc hkC hkind hlay hi (av_tys o ho k hk) hn hfit
    exact W.putK hx hb (f := f) ⟨hown, hts _ hlink, ⟨_, _, _, hsame⟩, hst⟩ (by rw [q2]; exact h6) q1 q3 (by rw [hsl]; exact k2_hasslot (q4 k hk)) rfl rfl hdg fin
theorem vj_iast (C : vj_C p c cc s m args o D cI cJ cZ) (hP : vj_S D z E H) (hS : va_S (vj_A z) s.heap H locs) (q0 : Nat) {n : Nat} {f : Nat → Int32} (ha : E[q0]? = some (.inl (cI, n, .inl f))) {i x : Int32} (hin : vp_in i n) (hdg : decode cc pc = .ok (.iastore, 1))
    (kk : ∀ (H1 : Heap) (locs1 : List Loc), vj_S D z (E.set q0 (.inl (cI, n, .inl (upd f i.toNatClampNeg x)))) H1 → va_S (vj_A z) s.heap H1 locs1 → W p l e R s m args below meth c H1 locs1 cells slots Q (F0 m (pc + 1) ls rest)) : W p l e R s m args below meth c H locs cells slots Q (F0 m pc ls (.int x :: .int i :: .ref (z + q0) :: rest)) := by
  obtain ⟨hx, hb, hown, hts, hK, hns⟩ := C
  have hD := vj_D E z (A := vj_A z) (fun _ h => h)
  have he : (vj_ws z E)[q0]? = some (z + q0, .inl (cI, n, .inl f)) := by rw [vj_get, ha]; rfl
  refine W.iast hx hb (hP.1 q0 _ he) ((hK.2 0 _ rfl).1 n (fun j => .int (f j))) (fun q => by cases q) (by show ¬ (i < 0 ∨ (arrV _ _ _).slots.size ≤ _); rw [arrV_size]; exact hin) rfl rfl hdg fun H1 e z1 oq => ?_
  refine kk H1 _ ⟨?_, by rw [z1, hP.2, List.length_set]⟩ (hS.put z1 oq (hD.2 q0 _ he))
  rw [← vj_set]
  refine hP.1.set hD he ?_ oq
  show H1[z + q0]? = some (vp_cell _ _)
  rw [e]
  show some ((arrV cI n (fun j => Value.int (f j))).setSlot i.toNatClampNeg (Value.int x)) = some (arrV cI n (fun j => Value.int (upd f i.toNatClampNeg x j)))
  rw [arrV_store]
  congr 2
  funext q
  by_cases hq : q = i.toNatClampNeg
  · subst hq
    simp [updV, upd]
  · simp [updV, upd, hq]
end VB
