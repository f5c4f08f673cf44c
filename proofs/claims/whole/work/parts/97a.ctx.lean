/-! THE START, 5: what holds at the law's entry -/
theorem lz_mem {p : Nat} {w : Cond} (h : tables_1[p]? = some w) : w ∈ lw_tbl := List.mem_append_right _ (List.mem_of_getElem? h)
theorem lz_inst : ∀ c, c < 8 → Cond.instantiable (av_cn c) (av_nf c) ∈ lw_tbl := by
  intro c hc
  match c, hc with
  | 0, _ => exact lz_mem (p := 182) (by decide +kernel)
  | 1, _ => exact lz_mem (p := 159) (by decide +kernel)
  | 2, _ => exact lz_mem (p := 45) (by decide +kernel)
  | 3, _ => exact lz_mem (p := 125) (by decide +kernel)
  | 4, _ => exact lz_mem (p := 61) (by decide +kernel)
  | 5, _ => exact lz_mem (p := 29) (by decide +kernel)
  | 6, _ => exact lz_mem (p := 21) (by decide +kernel)
  | 7, _ => exact lz_mem (p := 965) (by decide +kernel)
theorem lz_vwCl : vwCl.length = 8 := rfl
def lz_flat : List Cond := flatC (Jvm.Cond.and given_1 narrow_1)
def lz_tm (i : Nat) : Term := .string RX7 (av_sx.getD i 0)
theorem lz_f1 : ∀ i, i < 6 → Cond.exactly (lz_tm i) "java/lang/String" ∈ lz_flat := by decide +kernel
theorem lz_f2 : ∀ i, i < 6 → Cond.eq (.field (lz_tm i) "java/lang/String" "coder" "B") (.int 0) ∈ lz_flat := by decide +kernel
theorem lz_f3 : ∀ i, i < 6 → Cond.arrayOf (.field (lz_tm i) "java/lang/String" "value" "[B") .byte ∈ lz_flat := by decide +kernel
theorem lz_f4 : ∀ i, i < 6 → Cond.eq (.length (.field (lz_tm i) "java/lang/String" "value" "[B")) (.int (Int32.ofNat (([4, 7, 3, 2, 2, 6] : List Nat).getD i 0))) ∈ lz_flat := by decide +kernel
theorem lz_f5 : ∀ i, i < 6 → ∀ j, j < ([4, 7, 3, 2, 2, 6] : List Nat).getD i 0 → Cond.eq (.elem (.field (lz_tm i) "java/lang/String" "value" "[B") (.int (Int32.ofNat j))) (.int ((av_txt.getD i []).getD j 0)) ∈ lz_flat := by decide +kernel
theorem lz_f6 : ∀ i, i < 6 → ∀ j, j < 6 → i ≠ j → Cond.not (Cond.eq (lz_tm i) (lz_tm j)) ∈ lz_flat ∨ Cond.not (Cond.eq (lz_tm j) (lz_tm i)) ∈ lz_flat := by decide +kernel
theorem lz_f7 : Cond.isRef (.static "java/lang/Throwable" "UNASSIGNED_STACK" "[Ljava/lang/StackTraceElement;") ∈ lz_flat ∧ Cond.isRef (.static "java/lang/Throwable" "SUPPRESSED_SENTINEL" "Ljava/util/List;") ∈ lz_flat ∧ Cond.eq (.static "java/lang/String" "COMPACT_STRINGS" "Z") (.int 1) ∈ lz_flat ∧ Cond.isRef (.static "jdk/internal/util/Preconditions" "SIOOBE_FORMATTER" "Ljava/util/function/BiFunction;") ∈ lz_flat := by decide +kernel
theorem lz_sr : ∀ i, i < 6 → Cond.stringRef RX7 (av_sx.getD i 0) (av_ss i) ∈ lw_tbl := by
  intro c hc
  match c, hc with
  | 0, _ => exact lz_mem (p := 1140) (by decide +kernel)
  | 1, _ => exact lz_mem (p := 1243) (by decide +kernel)
  | 2, _ => exact lz_mem (p := 1244) (by decide +kernel)
  | 3, _ => exact lz_mem (p := 1245) (by decide +kernel)
  | 4, _ => exact lz_mem (p := 1246) (by decide +kernel)
  | 5, _ => exact lz_mem (p := 1400) (by decide +kernel)
theorem lz_arr {s : State} {args : Array Value} {ty : FieldType} (h : (Cond.arrayClass ty).before args s = true) : ∃ cA, ArrOfT s cA ty ∧ s.vm.findClass ("[" ++ ty.toString) = some cA := by
  obtain ⟨cA, kA, comp, h1, h2, h3⟩ := Cond.arrayClass_spec h
  exact ⟨cA, fun n z => ⟨fun k h => (by cases h), kA, h2, comp, h3⟩, h1⟩
theorem lz_nst_tabs {w : Cond} (h : av_nest w = true) : w.onTables = true := by
  cases w <;> first | rfl | (exfalso; revert h; simp [av_nest]; done)
theorem lz_start {p : Program} {s : State} {m : MethodId} {meth : Method} {c : Code} {b L : Nat} {xs : Nat → Int32} (hL : L ≤ 2560) (hM : ∀ e ∈ av_mt, av_gd e) (C0 : lw_At p s m meth c b L xs) :
    ∃ (st : Nat → Nat) (D : va_G) (cI cJ cZ : ClassId), lz_C p s m c b (vj_ad s.heap.size b st) D cI cJ cZ xs L ∧ vz_Z (lz_A s) s s.heap := by
  obtain ⟨hx, hb, hr, hml, hown, hts, hX, hbl, hlocks, hgv⟩ := id C0
  have htb : ∀ w ∈ av_tbl, w.before #[Value.ref b] s = true := fun w hw => hts w (List.mem_filter.mp hw).1
  have hfl : ∀ w ∈ lz_flat, w.before #[Value.ref b] s = true := flat_of_before _ hgv
  have hA : ∀ a : Nat, a < s.heap.size → ¬ lz_A s a := fun a h => Nat.not_le.mpr h
  have hu : ∀ c, ∃ q : ClassId × (Nat → Nat), c < 8 → u_Kn s (av_cn c) (av_Tt c) (av_nf c) q.1 q.2 := by
    intro c
    by_cases hc : c < 8
    · obtain ⟨c0, iS, h⟩ := u_known htb (av_lays c hc) (hts _ (lz_inst c hc))
      exact ⟨(c0, iS), fun _ => h⟩
    · exact ⟨(default, fun _ => 0), fun h => absurd h hc⟩
  obtain ⟨f, hf⟩ := Classical.axiomOfChoice hu
  obtain ⟨cI, i1, i2⟩ := lz_arr (htb _ vj_aw.1)
  obtain ⟨cJ, j1, j2⟩ := lz_arr (htb _ vj_aw.2.1)
  obtain ⟨cZ, z1, z2⟩ := lz_arr (htb _ vj_aw.2.2)
  have hK : va_K (fun c => (f c).1, fun c => (f c).2) vwCl [(cI, .int), (cJ, .long), (cZ, .boolean)] s := by
    refine ⟨fun c q hq => ?_, fun k q hq => ?_⟩
    · by_cases hc : c < 8
      · rw [av_cls c hc] at hq
        cases hq
        exact hf c hc
      · rw [List.getElem?_eq_none (by rw [lz_vwCl]; omega)] at hq
        cases hq
    · match k, hq with
      | 0, hq => cases hq; exact ⟨i1, i2⟩
      | 1, hq => cases hq; exact ⟨j1, j2⟩
      | 2, hq => cases hq; exact ⟨z1, z2⟩
      | k + 3, hq => cases hq
  have hn : ∀ w ∈ av_nst, va_Nw w s := fun w hw => va_Nw.of (lz_nst_tabs (List.mem_filter.mp hw).2) (hts w (List.mem_filter.mp hw).1)
  obtain ⟨adK, adV, hS, hev⟩ := vk_Sof (N := 6) (tm := lz_tm) (len := [4, 7, 3, 2, 2, 6]) (byt := av_txt) (A := lz_A s) (args := #[Value.ref b]) (by decide) (fun i hi => hfl _ (lz_f1 i hi)) (fun i hi => hfl _ (lz_f2 i hi)) (fun i hi => hfl _ (lz_f3 i hi)) (fun i hi => hfl _ (lz_f4 i hi)) (fun i hi j hj => hfl _ (lz_f5 i hi j hj))
    (fun i j hi hj hij => (lz_f6 i hi j hj hij).elim (fun h => Or.inl (hfl _ h)) (fun h => Or.inr (hfl _ h))) hA
  have hCS := va_Zof (A := lz_A s) (hts _ (lz_mem (p := 1154) (w := .laysStatic "java/lang/String" "COMPACT_STRINGS" "Z") (by decide +kernel))) (hts _ (lz_mem (p := 10) (w := .initialized "java/lang/String") (by decide +kernel))) (va_eqt (hfl _ lz_f7.2.2.1)) hA
  have hSF := va_Zqof (A := lz_A s) (hts _ (lz_mem (p := 1170) (w := .laysStatic "jdk/internal/util/Preconditions" "SIOOBE_FORMATTER" "Ljava/util/function/BiFunction;") (by decide +kernel))) (hts _ (lz_mem (p := 12) (w := .initialized "jdk/internal/util/Preconditions") (by decide +kernel))) (hfl _ lz_f7.2.2.2) hA
  have hZ1 := vx_Zqof (A := lz_A s) (hts _ (lz_mem (p := 913) (w := .laysStatic "java/lang/Throwable" "UNASSIGNED_STACK" "[Ljava/lang/StackTraceElement;") (by decide +kernel))) (hts _ (lz_mem (p := 14) (w := .initialized "java/lang/Throwable") (by decide +kernel))) (hfl _ lz_f7.1) hA
  have hZ2 := vx_Zqof (A := lz_A s) (hts _ (lz_mem (p := 915) (w := .laysStatic "java/lang/Throwable" "SUPPRESSED_SENTINEL" "Ljava/util/List;") (by decide +kernel))) (hts _ (lz_mem (p := 14) (w := .initialized "java/lang/Throwable") (by decide +kernel))) (hfl _ lz_f7.2.1) hA
  have had : ∀ i, vj_ad s.heap.size b (fun a => adK (a - 92)) (92 + i) = adK i := by
    intro i
    unfold vj_ad
    rw [if_neg (by omega), if_neg (by omega)]
    show adK (92 + i - 92) = adK i
    rw [Nat.add_sub_cancel_left]
  have hadf : (fun i => vj_ad s.heap.size b (fun a => adK (a - 92)) (92 + i)) = adK := funext had
  have hb90 : vj_ad s.heap.size b (fun a => adK (a - 92)) 90 = b := rfl
  refine ⟨fun a => adK (a - 92), (fun c => (f c).1, fun c => (f c).2), cI, cJ, cZ, ⟨hM, hx, hb, hml, hown, htb, ⟨hK, hn, ⟨?_, ?_, ?_, ?_⟩, adV, ?_, fun w hw => ?_, hCS, hSF⟩, fun h => ?_, hL⟩, hZ1, hZ2⟩
  · rw [hb90]; exact hX
  · rw [hb90]; exact hbl
  · rw [hb90]; exact hA b hbl
  · omega
  · rw [hadf]; exact hS
  · rw [had]; exact vk_R.of (A := #[Value.ref b]) (hts _ (lz_sr w hw)) (hev w hw)
  · refine ⟨fun i j p q hp hq e => ?_, fun k q hk => ?_⟩
    · have hi : i < av_N := by
        have := (List.getElem?_eq_some_iff.mp hp).1
        unfold av_ws at this
        rw [List.length_map, List.length_range] at this
        exact this
      have hj : j < av_N := by
        have := (List.getElem?_eq_some_iff.mp hq).1
        unfold av_ws at this
        rw [List.length_map, List.length_range] at this
        exact this
      rw [av_ws_get hi] at hp
      rw [av_ws_get hj] at hq
      cases hp
      cases hq
      have e : vj_ad s.heap.size b (fun a => adK (a - 92)) i = vj_ad s.heap.size b (fun a => adK (a - 92)) j := e
      unfold av_N at hi hj
      unfold vj_ad at e
      rw [if_pos hi, if_pos hj] at e
      omega
    · have hi : k < av_N := by
        have := (List.getElem?_eq_some_iff.mp hk).1
        unfold av_ws at this
        rw [List.length_map, List.length_range] at this
        exact this
      rw [av_ws_get hi] at hk
      cases hk
      show s.heap.size ≤ vj_ad s.heap.size b (fun a => adK (a - 92)) k
      unfold av_N at hi
      unfold vj_ad
      rw [if_pos hi]
      omega
