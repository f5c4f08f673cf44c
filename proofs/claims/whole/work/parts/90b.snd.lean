/-! SOUNDNESS: what the abstract machine answers, the machine answers. -/
def av_c (ad : Nat → Nat) : Value → Value
  | .ref k => .ref (ad k)
  | v => v
theorem av_c_cat (ad : Nat → Nat) (v : Value) : (av_c ad v).category = v.category := by cases v <;> rfl
def av_fe (ad : Nat → Nat) (x : Int32) (r : Nat) : Value := match r with
  | 0 => .int x
  | c + 1 => .ref (ad c)
def av_fv (ad : Nat → Nat) (f : Nat → Int32) : List Nat → Nat → List Value
  | [], _ => []
  | r :: l, k => av_fe ad (f k) r :: av_fv ad f l (k + 1)
def av_en (ad : Nat → Nat) (cI cJ cZ : ClassId) (f : Nat → Int32) (q : Nat × Nat × List Nat) : va_E := match q.1 with
  | 8 => .inl (cI, q.2.1, .inl f)
  | 9 => .inl (cJ, q.2.1, .inr (.inl (fun i => av_jn (f (2 * i)) (f (2 * i + 1)))))
  | 10 => .inl (cZ, q.2.1, .inl f)
  | c => .inr (c, av_fv ad f q.2.2 0)
def av_ws (ad : Nat → Nat) (cI cJ cZ : ClassId) (h : av_M) : va_W := (List.range av_N).map fun a => (ad a, av_en ad cI cJ cZ (h a) (av_nth av_shp a))
theorem av_ws_get {ad : Nat → Nat} {cI cJ cZ : ClassId} {h : av_M} {a : Nat} (ha : a < av_N) : (av_ws ad cI cJ cZ h)[a]? = some (ad a, av_en ad cI cJ cZ (h a) (av_nth av_shp a)) := by
  unfold av_ws
  rw [List.getElem?_map, List.getElem?_range ha]
  rfl
theorem av_ws_set {ad : Nat → Nat} {cI cJ cZ : ClassId} {h h' : av_M} {a : Nat} (ha : a < av_N) (hk : ∀ b, b ≠ a → h' b = h b) :
    (av_ws ad cI cJ cZ h).set a (ad a, av_en ad cI cJ cZ (h' a) (av_nth av_shp a)) = av_ws ad cI cJ cZ h' := by
  apply List.ext_getElem?
  intro i
  by_cases hi : i < av_N
  · rw [av_ws_get hi]
    by_cases e : a = i
    · subst e
      rw [List.getElem?_set_self (by unfold av_ws; rw [List.length_map, List.length_range]; exact hi)]
    · rw [List.getElem?_set_ne e, av_ws_get hi, hk i (fun q => e q.symm)]
  · have h1 : (av_ws ad cI cJ cZ h').length ≤ i := by unfold av_ws; rw [List.length_map, List.length_range]; omega
    have h2 : ((av_ws ad cI cJ cZ h).set a (ad a, av_en ad cI cJ cZ (h' a) (av_nth av_shp a))).length ≤ i := by rw [List.length_set]; unfold av_ws; rw [List.length_map, List.length_range]; omega
    rw [List.getElem?_eq_none h1, List.getElem?_eq_none h2]
theorem av_nth_ge : ∀ (l : List (Nat × Nat × List Nat)) (a : Nat), l.length ≤ a → av_nth l a = (99, 0, []) := by
  intro l
  induction l with
  | nil => intro a _; rfl
  | cons q l ih =>
    intro a ha
    cases a with
    | zero => simp at ha
    | succ a => exact ih a (by simpa using ha)
theorem av_shp_98 : av_shp.length = 98 := by decide +kernel
theorem av_kd_lt {a : Nat} (h : av_kd a ≤ 10) : a < av_N := by
  by_cases ha : a < 98
  · have : ∀ a, a < 98 → av_kd a ≤ 10 → a < av_N := by decide +kernel
    exact this a ha h
  · unfold av_kd at h
    rw [av_nth_ge av_shp a (by rw [av_shp_98]; omega)] at h
    exact absurd h (by decide)
theorem av_kd_11 {a : Nat} (h : av_kd a = 11) : a = 90 := by
  by_cases ha : a < 98
  · have : ∀ a, a < 98 → av_kd a = 11 → a = 90 := by decide +kernel
    exact this a ha h
  · unfold av_kd at h
    rw [av_nth_ge av_shp a (by rw [av_shp_98]; omega)] at h
    exact absurd h (by decide)
theorem av_kd_12 {a : Nat} (h : av_kd a = 12) : ∃ i, i < 6 ∧ a = 92 + i := by
  by_cases ha : a < 98
  · have : ∀ a, a < 98 → av_kd a = 12 → 92 ≤ a := by decide +kernel
    exact ⟨a - 92, by have := this a ha h; omega, by have := this a ha h; omega⟩
  · unfold av_kd at h
    rw [av_nth_ge av_shp a (by rw [av_shp_98]; omega)] at h
    exact absurd h (by decide)
theorem av_shp_len : ∀ a, a < av_N → av_kd a < 8 → (av_nth av_shp a).2.2.length = av_nf (av_kd a) := by decide +kernel
theorem av_fv_get (ad : Nat → Nat) (f : Nat → Int32) : ∀ (l : List Nat) (j k : Nat), k < l.length → (av_fv ad f l j)[k]? = some (av_fe ad (f (j + k)) (av_nn l k)) := by
  intro l
  induction l with
  | nil => intro j k h; simp at h
  | cons r l ih =>
    intro j k h
    cases k with
    | zero => rfl
    | succ k =>
      show (av_fv ad f l (j + 1))[k]? = some (av_fe ad (f (j + (k + 1))) (av_nn l k))
      rw [ih (j + 1) k (by simpa using h), show j + 1 + k = j + (k + 1) by omega]
theorem av_fv_len (ad : Nat → Nat) (f : Nat → Int32) : ∀ (l : List Nat) (j : Nat), (av_fv ad f l j).length = l.length := by
  intro l
  induction l with
  | nil => intro j; rfl
  | cons r l ih => intro j; simp [av_fv, ih]
theorem av_fv_up (ad : Nat → Nat) (f : Nat → Int32) (v : Int32) : ∀ (l : List Nat) (i j : Nat), i < j → av_fv ad (upd f i v) l j = av_fv ad f l j := by
  intro l
  induction l with
  | nil => intro i j _; rfl
  | cons r l ih =>
    intro i j hij
    have h1 : upd f i v j = f j := by unfold upd; rw [if_neg (by omega)]
    unfold av_fv
    rw [ih i (j + 1) (by omega), h1]
theorem av_fv_set (ad : Nat → Nat) (f : Nat → Int32) (v : Int32) : ∀ (l : List Nat) (j k : Nat), av_nn l k = 0 → k < l.length → (av_fv ad f l j).set k (.int v) = av_fv ad (upd f (j + k) v) l j := by
  intro l
  induction l with
  | nil => intro j k _ h; simp at h
  | cons r l ih =>
    intro j k h0 h
    cases k with
    | zero =>
      have hr : r = 0 := h0
      subst hr
      show Value.int v :: av_fv ad f l (j + 1) = Value.int (upd f j v j) :: av_fv ad (upd f j v) l (j + 1)
      have h1 : upd f j v j = v := by unfold upd; rw [if_pos rfl]
      rw [av_fv_up ad f v l j (j + 1) (by omega), h1]
    | succ k =>
      show av_fe ad (f j) r :: (av_fv ad f l (j + 1)).set k (.int v) = av_fe ad (upd f (j + (k + 1)) v j) r :: av_fv ad (upd f (j + (k + 1)) v) l (j + 1)
      have h1 : upd f (j + (k + 1)) v j = f j := by unfold upd; rw [if_neg (by omega)]
      rw [ih (j + 1) k h0 (by simpa using h), h1, show j + 1 + k = j + (k + 1) by omega]
theorem av_en_obj {ad : Nat → Nat} {cI cJ cZ : ClassId} {f : Nat → Int32} {q : Nat × Nat × List Nat} (h : q.1 < 8) : av_en ad cI cJ cZ f q = .inr (q.1, av_fv ad f q.2.2 0) := by
  obtain ⟨c, n, rs⟩ := q
  have h : c < 8 := h
  unfold av_en
  dsimp only
  split <;> first | omega | rfl
/-! the locals -/
def av_lv (ad : Nat → Nat) (nL : Nat) (lv : Array Slot) (ls : List Value) : Prop := ls.length = nL ∧ ∃ l, lv_has lv nL l ∧ ∀ (i : Nat) (v : Value), av_gl ls i = v → v ≠ .null → (i, av_c ad v) ∈ l
theorem av_lv_get {ad : Nat → Nat} {nL : Nat} {lv : Array Slot} {ls : List Value} {n : Nat} {v : Value} (h : av_lv ad nL lv ls) (hg : av_gl ls n = v) (hv : v ≠ .null) : lv[n]? = some (.val (av_c ad v)) := by
  obtain ⟨-, l, hl, hm⟩ := h
  exact hl.2.2 _ (hm n v hg hv)
theorem av_gl_st : ∀ (ls : List Value) (n i : Nat) (v : Value), av_gl (av_st ls n v) i = if i = n ∧ n < ls.length then v else av_gl ls i := by
  intro ls
  induction ls with
  | nil => intro n i v; simp [av_st, av_gl]
  | cons q l ih =>
    intro n i v
    cases n with
    | zero =>
      cases i with
      | zero => simp [av_st, av_gl]
      | succ i => simp [av_st, av_gl]
    | succ n =>
      cases i with
      | zero => simp [av_st, av_gl]
      | succ i =>
        show av_gl (av_st l n v) i = _
        rw [ih n i v]
        simp [av_gl]
theorem av_st_len : ∀ (ls : List Value) (n : Nat) (v : Value), (av_st ls n v).length = ls.length := by
  intro ls
  induction ls with
  | nil => intro n v; rfl
  | cons q l ih =>
    intro n v
    cases n with
    | zero => rfl
    | succ n => simp [av_st, ih n v]
theorem av_kp_len (ls : List Value) (n : Nat) : (av_kp ls n).length = ls.length := by
  unfold av_kp
  split
  · rfl
  · split
    · exact av_st_len _ _ _
    · exact av_st_len _ _ _
    · rfl
theorem av_gl_lt : ∀ (l : List Value) (k : Nat), av_gl l k ≠ .null → k < l.length := by
  intro l
  induction l with
  | nil => intro k hk; exact absurd rfl hk
  | cons q l ih =>
    intro k hk
    cases k with
    | zero => simp
    | succ k => simp; exact ih k hk
theorem av_kp_gl {ls : List Value} {n i : Nat} {v : Value} (h : av_gl (av_kp ls n) i = v) (hv : v ≠ .null) (hi : i ≠ n) : av_gl ls i = v ∧ ¬ (i + 1 = n ∧ v.category = 2) := by
  cases n with
  | zero => exact ⟨h, fun q => by omega⟩
  | succ k =>
    unfold av_kp at h
    dsimp only at h
    split at h
    · rename_i x hx
      rw [av_gl_st] at h
      split at h
      · exact absurd h.symm hv
      · rename_i hc
        exact ⟨h, fun q => hc ⟨by omega, av_gl_lt ls k (by rw [hx]; intro z; cases z)⟩⟩
    · rename_i x hx
      rw [av_gl_st] at h
      split at h
      · exact absurd h.symm hv
      · rename_i hc
        exact ⟨h, fun q => hc ⟨by omega, av_gl_lt ls k (by rw [hx]; intro z; cases z)⟩⟩
    · rename_i h1 h2
      refine ⟨h, fun q => ?_⟩
      obtain ⟨q1, q2⟩ := q
      have e : i = k := by omega
      subst e
      cases v with
      | long x => exact h1 x h
      | double x => exact h2 x h
      | int x => exact absurd (show (1 : Nat) = 2 from q2) (by decide)
      | float x => exact absurd (show (1 : Nat) = 2 from q2) (by decide)
      | null => exact absurd (show (1 : Nat) = 2 from q2) (by decide)
      | ref x => exact absurd (show (1 : Nat) = 2 from q2) (by decide)
      | retAddr x => exact absurd (show (1 : Nat) = 2 from q2) (by decide)
theorem av_lv_s1 {ad : Nat → Nat} {ls : List Value} {n : Nat} {v : Value} {l : List (Nat × Value)} (hm : ∀ (i : Nat) (v : Value), av_gl ls i = v → v ≠ .null → (i, av_c ad v) ∈ l) (hn : n < ls.length) :
    ∀ (i : Nat) (w : Value), av_gl (av_s1 ls n v) i = w → w ≠ .null → (i, av_c ad w) ∈ (n, av_c ad v) :: l.filter (fun q => !(q.1 == n) && !(q.1 + 1 == n && q.2.category == 2)) := by
  intro i w hg hw
  unfold av_s1 at hg
  rw [av_gl_st, av_kp_len] at hg
  by_cases e : i = n
  · rw [if_pos ⟨e, hn⟩] at hg
    rw [e, hg]
    exact List.mem_cons_self
  · rw [if_neg (fun q => e q.1)] at hg
    obtain ⟨h1, h2⟩ := av_kp_gl hg hw e
    refine List.mem_cons_of_mem _ (List.mem_filter.mpr ⟨hm i w h1 hw, ?_⟩)
    rw [Bool.and_eq_true, Bool.not_eq_true', Bool.not_eq_true', Bool.and_eq_false_iff]
    refine ⟨by simpa using e, ?_⟩
    by_cases e2 : i + 1 = n
    · refine Or.inr ?_
      show ((av_c ad w).category == 2) = false
      rw [av_c_cat]
      simpa using fun q => h2 ⟨e2, q⟩
    · exact Or.inl (by simpa using e2)
theorem av_lv_s2 {ad : Nat → Nat} {ls : List Value} {n : Nat} {v : Value} {l : List (Nat × Value)} (hm : ∀ (i : Nat) (v : Value), av_gl ls i = v → v ≠ .null → (i, av_c ad v) ∈ l) (hn : n + 1 < ls.length) :
    ∀ (i : Nat) (w : Value), av_gl (av_s2 ls n v) i = w → w ≠ .null → (i, av_c ad w) ∈ (n, av_c ad v) :: l.filter (fun q => !(q.1 == n) && (!(q.1 == n + 1) && !(q.1 + 1 == n && q.2.category == 2))) := by
  intro i w hg hw
  unfold av_s2 at hg
  rw [av_gl_st, av_st_len, av_kp_len] at hg
  by_cases e1 : i = n + 1
  · rw [if_pos ⟨e1, hn⟩] at hg
    exact absurd hg.symm hw
  · rw [if_neg (fun q => e1 q.1), av_gl_st, av_kp_len] at hg
    by_cases e : i = n
    · rw [if_pos ⟨e, by omega⟩] at hg
      rw [e, hg]
      exact List.mem_cons_self
    · rw [if_neg (fun q => e q.1)] at hg
      obtain ⟨h1, h2⟩ := av_kp_gl hg hw e
      refine List.mem_cons_of_mem _ (List.mem_filter.mpr ⟨hm i w h1 hw, ?_⟩)
      rw [Bool.and_eq_true, Bool.and_eq_true, Bool.not_eq_true', Bool.not_eq_true', Bool.not_eq_true', Bool.and_eq_false_iff]
      refine ⟨by simpa using e, by simpa using e1, ?_⟩
      by_cases e2 : i + 1 = n
      · refine Or.inr ?_
        show ((av_c ad w).category == 2) = false
        rw [av_c_cat]
        simpa using fun q => h2 ⟨e2, q⟩
      · exact Or.inl (by simpa using e2)
theorem av_s1_len (ls : List Value) (n : Nat) (v : Value) : (av_s1 ls n v).length = ls.length := by unfold av_s1; rw [av_st_len, av_kp_len]
theorem av_s2_len (ls : List Value) (n : Nat) (v : Value) : (av_s2 ls n v).length = ls.length := by unfold av_s2; rw [av_st_len, av_st_len, av_kp_len]
/-! the entry's locals -/
theorem av_lv_in {ad : Nat → Nat} : ∀ (as : List Value) (k i : Nat) (v : Value), av_gl (av_in as) i = v → v ≠ .null → (k + i, av_c ad v) ∈ lv_args k (as.map (av_c ad)) := by
  intro as
  induction as with
  | nil => intro k i v h hv; exact absurd h.symm hv
  | cons a l ih =>
    intro k i v h hv
    have two : ∀ x : Value, (∀ i v, av_gl (.null :: av_in l) i = v → v ≠ .null → (k + 1 + i, av_c ad v) ∈ lv_args (k + 2) (l.map (av_c ad))) := by
      intro x i v h hv
      cases i with
      | zero => exact absurd h.symm hv
      | succ i => rw [show k + 1 + (i + 1) = k + 2 + i by omega]; exact ih (k + 2) i v h hv
    have fin : ∀ (m : Nat) (r : List Value), (∀ i v, av_gl r i = v → v ≠ .null → (k + 1 + i, av_c ad v) ∈ lv_args m (l.map (av_c ad))) → av_gl (a :: r) i = v → (k + i, av_c ad v) ∈ (k, av_c ad a) :: lv_args m (l.map (av_c ad)) := by
      intro m r hr hg
      cases i with
      | zero => rw [show v = a from hg.symm]; exact List.mem_cons_self
      | succ i => exact List.mem_cons_of_mem _ (by rw [show k + (i + 1) = k + 1 + i by omega]; exact hr i v hg hv)
    have one : ∀ i v, av_gl (av_in l) i = v → v ≠ .null → (k + 1 + i, av_c ad v) ∈ lv_args (k + 1) (l.map (av_c ad)) := fun i v h hv => ih (k + 1) i v h hv
    cases a with
    | long x => exact fin (k + 2) (.null :: av_in l) (two .null) h
    | double x => exact fin (k + 2) (.null :: av_in l) (two .null) h
    | int x => exact fin (k + 1) (av_in l) one h
    | float x => exact fin (k + 1) (av_in l) one h
    | null => exact fin (k + 1) (av_in l) one h
    | ref x => exact fin (k + 1) (av_in l) one h
    | retAddr x => exact fin (k + 1) (av_in l) one h
theorem av_pad_gl : ∀ (n : Nat) (l : List Value) (i : Nat) (v : Value), av_gl (av_pad n l) i = v → v ≠ .null → av_gl l i = v := by
  intro n
  induction n with
  | zero => intro l i v h hv; exact absurd h.symm hv
  | succ n ih =>
    intro l i v h hv
    cases l with
    | nil =>
      cases i with
      | zero => exact absurd h.symm hv
      | succ i => exact ih [] i v h hv
    | cons a l =>
      cases i with
      | zero => exact h
      | succ i => exact ih l i v h hv
theorem av_pad_len : ∀ (n : Nat) (l : List Value), (av_pad n l).length = n := by
  intro n
  induction n with
  | zero => intro l; rfl
  | succ n ih =>
    intro l
    cases l with
    | nil => simp [av_pad, ih]
    | cons a l => simp [av_pad, ih]
