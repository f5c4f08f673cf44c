/-! RUNS: what an abstract method answers, as a value; segments of a method, evaluated. -/
abbrev av_Z : Type := av_R ⊕ (List Value × List Value × av_M) ⊕ (Nat × List Value × List Value × av_M)
def av_el {β : Type} (ret : av_R → Option β) (N : List Value → List Value → av_M → Option β) (J : Nat → List Value → List Value → av_M → Option β) : av_Z → Option β
  | .inl r => ret r
  | .inr (.inl (ls, st, h)) => N ls st h
  | .inr (.inr (pc, ls, st, h)) => J pc ls st h
def av_ini (E : Nat → List Value → av_M → Option av_R) (q : av_I) (ls st : List Value) (h : av_M) : Option av_Z :=
  av_stp E (fun r => some (.inl r)) (fun ls st h => some (.inr (.inl (ls, st, h)))) (fun pc ls st h => some (.inr (.inr (pc, ls, st, h)))) q ls st h
theorem av_sw_nat {β : Type} (ret : av_R → Option β) (N : List Value → List Value → av_M → Option β) (J : Nat → List Value → List Value → av_M → Option β) (ls st : List Value) (h : av_M) (x : Int32) (d : Nat) (sw : List (Int32 × Nat)) :
    av_sw (fun t => J t ls st h) x d sw = (av_sw (fun t => (some (.inr (.inr (t, ls, st, h))) : Option av_Z)) x d sw).bind (av_el ret N J) := by
  induction sw with
  | nil => rfl
  | cons c r ih =>
    obtain ⟨c, t⟩ := c
    unfold av_sw
    split
    · rfl
    · exact ih
set_option maxHeartbeats 4000000 in
theorem av_nat {β : Type} (E : Nat → List Value → av_M → Option av_R) (ret : av_R → Option β) (N : List Value → List Value → av_M → Option β) (J : Nat → List Value → List Value → av_M → Option β) (q : av_I) (ls st : List Value) (h : av_M) :
    av_stp E ret N J q ls st h = (av_ini E q ls st h).bind (av_el ret N J) := by
  obtain ⟨pc, len, i, x, y, z, w, o, v, u, sw⟩ := q
  unfold av_ini av_stp
  dsimp only
  cases i <;> first
    | rfl
    | ((try dsimp only); (repeat' split) <;> first | rfl | exact av_sw_nat ret N J _ _ _ _ _ _ | (cases E _ _ _ <;> rfl) | (simp only [av_fo_eq]; rfl) | (cases av_inb _ _ <;> rfl) | (cases av_ins _ _ <;> rfl) | (cases av_nz _ <;> rfl) | (cases av_nzl _ <;> rfl) | (cases av_01 _ <;> rfl) | (simp_all; done))
def av_run (E : Nat → List Value → av_M → Option av_R) (T : List av_I) : Nat → Nat → List Value → List Value → av_M → Option av_R
  | 0, _, _, _, _ => none
  | n + 1, pc, ls, st, h => match av_at T pc with
    | [] => none
    | q :: _ => av_stp E some (fun ls st h => av_run E T n (q.1 + q.2.1) ls st h) (fun pc ls st h => av_run E T n pc ls st h) q ls st h
theorem av_run_mono {E : Nat → List Value → av_M → Option av_R} {T : List av_I} {r : av_R} : ∀ (n pc : Nat) (ls st : List Value) (h : av_M), av_run E T n pc ls st h = some r → av_run E T (n + 1) pc ls st h = some r := by
  intro n
  induction n with
  | zero => intro pc ls st h hr; cases hr
  | succ n ih =>
    intro pc ls st h hr
    unfold av_run at hr ⊢
    cases hq : av_at T pc with
    | nil => rw [hq] at hr; cases hr
    | cons q tl =>
      rw [hq] at hr
      dsimp only at hr ⊢
      rw [av_nat] at hr ⊢
      cases hz : av_ini E q ls st h with
      | none => rw [hz] at hr; cases hr
      | some z =>
        rw [hz] at hr
        rcases z with r1 | ⟨ls1, st1, h1⟩ | ⟨pc1, ls1, st1, h1⟩
        · exact hr
        · exact ih _ _ _ _ hr
        · exact ih _ _ _ _ hr
theorem av_run_le {E : Nat → List Value → av_M → Option av_R} {T : List av_I} {r : av_R} {n m pc : Nat} {ls st : List Value} {h : av_M} (hr : av_run E T n pc ls st h = some r) (hm : n ≤ m) : av_run E T m pc ls st h = some r := by
  induction hm with
  | refl => exact hr
  | step _ ih => exact av_run_mono _ _ _ _ _ ih
/-- the answer, if there is one -/
noncomputable def av_XP (E : Nat → List Value → av_M → Option av_R) (T : List av_I) (pc : Nat) (ls st : List Value) (h : av_M) : Option av_R :=
  @dite _ (∃ (r : av_R) (n : Nat), av_run E T n pc ls st h = some r) (Classical.propDecidable _) (fun hx => some hx.choose) (fun _ => none)
theorem av_XP_iff {E : Nat → List Value → av_M → Option av_R} {T : List av_I} {pc : Nat} {ls st : List Value} {h : av_M} {r : av_R} : av_XP E T pc ls st h = some r ↔ ∃ n, av_run E T n pc ls st h = some r := by
  unfold av_XP
  by_cases hx : ∃ (r : av_R) (n : Nat), av_run E T n pc ls st h = some r
  · rw [dif_pos hx]
    obtain ⟨n, hn⟩ := hx.choose_spec
    constructor
    · intro e
      cases e
      exact ⟨n, hn⟩
    · rintro ⟨m, hm⟩
      have h1 := av_run_le hn (Nat.le_max_left n m)
      have h2 := av_run_le hm (Nat.le_max_right n m)
      rw [← h2, h1]
  · rw [dif_neg hx]
    constructor
    · intro e; cases e
    · rintro ⟨m, hm⟩; exact absurd ⟨r, m, hm⟩ hx
theorem av_XP_step {E : Nat → List Value → av_M → Option av_R} {T : List av_I} {pc : Nat} {ls st : List Value} {h : av_M} {q : av_I} {tl : List av_I} (hq : av_at T pc = q :: tl) :
    av_XP E T pc ls st h = av_stp E some (fun ls st h => av_XP E T (q.1 + q.2.1) ls st h) (fun pc ls st h => av_XP E T pc ls st h) q ls st h := by
  rw [av_nat]
  have key : ∀ (n : Nat), av_run E T (n + 1) pc ls st h = (av_ini E q ls st h).bind (av_el some (fun ls st h => av_run E T n (q.1 + q.2.1) ls st h) (fun pc ls st h => av_run E T n pc ls st h)) := by
    intro n
    rw [← av_nat]
    show (match av_at T pc with
      | [] => none
      | q :: _ => av_stp E some (fun ls st h => av_run E T n (q.1 + q.2.1) ls st h) (fun pc ls st h => av_run E T n pc ls st h) q ls st h) = _
    rw [hq]
  have succ : ∀ (r : av_R) (m : Nat), av_run E T m pc ls st h = some r → ∃ n, av_run E T (n + 1) pc ls st h = some r := fun r m hm => ⟨m, av_run_mono _ _ _ _ _ hm⟩
  cases hz : av_ini E q ls st h with
  | none =>
    apply Option.ext
    intro r
    rw [av_XP_iff]
    constructor
    · rintro ⟨m, hm⟩
      obtain ⟨n, hn⟩ := succ r m hm
      rw [key, hz] at hn
      cases hn
    · intro e; cases e
  | some z =>
    rcases z with r1 | ⟨ls1, st1, h1⟩ | ⟨pc1, ls1, st1, h1⟩
    · show _ = some r1
      rw [av_XP_iff]
      exact ⟨1, by rw [key 0, hz]; rfl⟩
    · show _ = av_XP E T (q.1 + q.2.1) ls1 st1 h1
      apply Option.ext
      intro r
      rw [av_XP_iff, av_XP_iff]
      constructor
      · rintro ⟨m, hm⟩
        obtain ⟨n, hn⟩ := succ r m hm
        rw [key, hz] at hn
        exact ⟨n, hn⟩
      · rintro ⟨m, hm⟩
        exact ⟨m + 1, by rw [key, hz]; exact hm⟩
    · show _ = av_XP E T pc1 ls1 st1 h1
      apply Option.ext
      intro r
      rw [av_XP_iff, av_XP_iff]
      constructor
      · rintro ⟨m, hm⟩
        obtain ⟨n, hn⟩ := succ r m hm
        rw [key, hz] at hn
        exact ⟨n, hn⟩
      · rintro ⟨m, hm⟩
        exact ⟨m + 1, by rw [key, hz]; exact hm⟩
theorem av_XP_none {E : Nat → List Value → av_M → Option av_R} {T : List av_I} {pc : Nat} {ls st : List Value} {h : av_M} (hq : av_at T pc = []) : av_XP E T pc ls st h = none := by
  apply Option.ext
  intro r
  rw [av_XP_iff]
  constructor
  · rintro ⟨m, hm⟩
    cases m with
    | zero => cases hm
    | succ m => unfold av_run at hm; rw [hq] at hm; cases hm
  · intro e; cases e
theorem av_bf {a b : Nat} (h : a ≠ b) : Nat.beq a b = false := by
  cases hb : Nat.beq a b with
  | false => rfl
  | true => exact absurd (Nat.eq_of_beq_eq_true hb) h
theorem av_at_mem : ∀ (T : List av_I) (pc : Nat), ∀ x ∈ av_at T pc, x ∈ T := by
  intro T
  induction T with
  | nil => intro pc x hx; cases hx
  | cons t T ih =>
    intro pc x hx
    unfold av_at at hx
    split at hx
    · exact hx
    · exact List.mem_cons_of_mem _ (ih pc x hx)
/-- the rows of a method stand one behind the other -/
def av_wf : List av_I → Bool
  | [] => true
  | q :: l => Nat.blt q.1 (q.1 + q.2.1) && (match l with
    | [] => true
    | q' :: _ => Nat.beq q'.1 (q.1 + q.2.1)) && av_wf l
theorem av_wf_tl {q : av_I} {T : List av_I} (h : av_wf (q :: T) = true) : av_wf T = true := by
  simp only [av_wf, Bool.and_eq_true] at h
  exact h.2
theorem av_wf_h {q q' : av_I} {T : List av_I} (h : av_wf (q :: q' :: T) = true) : q'.1 = q.1 + q.2.1 ∧ q.1 < q'.1 := by
  simp only [av_wf, Bool.and_eq_true] at h
  have h1 : q'.1 = q.1 + q.2.1 := Nat.eq_of_beq_eq_true h.1.2
  have h2 : q.1 < q.1 + q.2.1 := by simpa using h.1.1
  exact ⟨h1, by omega⟩
theorem av_wf_lt : ∀ (T : List av_I) (q : av_I), av_wf (q :: T) = true → ∀ x ∈ T, q.1 < x.1 := by
  intro T
  induction T with
  | nil => intro q _ x hx; cases hx
  | cons t T ih =>
    intro q hw x hx
    have h1 := (av_wf_h hw).2
    rcases List.mem_cons.mp hx with rfl | hx
    · exact h1
    · exact Nat.lt_trans h1 (ih t (av_wf_tl hw) x hx)
theorem av_at_next : ∀ (T : List av_I) (pc : Nat) (q q' : av_I) (l : List av_I), av_wf T = true → av_at T pc = q :: q' :: l → av_at T q'.1 = q' :: l ∧ q'.1 = q.1 + q.2.1 := by
  intro T
  induction T with
  | nil => intro pc q q' l _ h; cases h
  | cons t T ih =>
    intro pc q q' l hw h
    unfold av_at at h ⊢
    split at h
    · injection h with e1 e2
      subst e1 e2
      obtain ⟨h2, h1⟩ := av_wf_h hw
      refine ⟨?_, h2⟩
      rw [av_bf (by omega)]
      show av_at (q' :: l) q'.1 = _
      unfold av_at
      rw [Nat.beq_refl]
    · obtain ⟨h3, h4⟩ := ih pc q q' l (av_wf_tl hw) h
      have hm : q' ∈ T := av_at_mem T pc q' (by rw [h]; exact List.mem_cons_of_mem _ List.mem_cons_self)
      have h5 := av_wf_lt T t hw q' hm
      rw [av_bf (by omega)]
      exact ⟨h3, h4⟩
theorem av_at_last : ∀ (T : List av_I) (pc : Nat) (q : av_I), av_wf T = true → av_at T pc = [q] → ∀ pc', q.1 < pc' → av_at T pc' = [] := by
  intro T
  induction T with
  | nil => intro pc q _ _ pc' _; rfl
  | cons t T ih =>
    intro pc q hw h pc' hlt
    unfold av_at at h ⊢
    split at h
    · injection h with e1 e2
      subst e1 e2
      rw [av_bf (by omega)]
      rfl
    · have hm : q ∈ T := av_at_mem T pc q (by rw [h]; exact List.mem_cons_self)
      have h5 := av_wf_lt T t hw q hm
      rw [av_bf (by omega)]
      exact ih pc q (av_wf_tl hw) h pc' hlt
theorem av_at_wf : ∀ (T : List av_I) (pc : Nat), av_wf T = true → av_wf (av_at T pc) = true := by
  intro T
  induction T with
  | nil => intro pc h; exact h
  | cons t T ih =>
    intro pc h
    unfold av_at
    split
    · exact h
    · exact ih pc (av_wf_tl h)
theorem av_at_hd : ∀ (T : List av_I) (pc : Nat) (q : av_I) (l : List av_I), av_at T pc = q :: l → q.1 = pc := by
  intro T
  induction T with
  | nil => intro pc q l h; cases h
  | cons t T ih =>
    intro pc q l h
    unfold av_at at h
    split at h
    · rename_i hb
      injection h with e1 e2
      subst e1
      exact Nat.eq_of_beq_eq_true hb
    · exact ih pc q l h
def av_mem : List Nat → Nat → Bool
  | [], _ => false
  | a :: l, b => match Nat.beq a b with
    | true => true
    | false => av_mem l b
/-- a segment: from a row on till one of the stops, or the end; K says what comes there -/
def av_seg {β : Type} (E : Nat → List Value → av_M → Option av_R) (ret : av_R → Option β) (K : Nat → List Value → List Value → av_M → Option β) (T : List av_I) (S : List Nat) : Nat → List av_I → List Value → List Value → av_M → Option β
  | 0, [], _, _, _ => none
  | 0, q :: _, ls, st, h => K q.1 ls st h
  | _ + 1, [], _, _, _ => none
  | n + 1, q :: tl, ls, st, h => av_stp E ret
      (fun ls st h => match tl with
        | [] => none
        | q' :: _ => match av_mem S q'.1 with
          | true => K q'.1 ls st h
          | false => av_seg E ret K T S n tl ls st h)
      (fun pc ls st h => match av_mem S pc with
        | true => K pc ls st h
        | false => av_seg E ret K T S n (av_at T pc) ls st h) q ls st h
theorem av_seg_XP {E : Nat → List Value → av_M → Option av_R} {T : List av_I} (S : List Nat) (hw : av_wf T = true) : ∀ (n : Nat) (q : av_I) (tl : List av_I) (ls st : List Value) (h : av_M), av_at T q.1 = q :: tl → av_seg E some (av_XP E T) T S n (q :: tl) ls st h = av_XP E T q.1 ls st h := by
  intro n
  induction n with
  | zero => intro q tl ls st h _; rfl
  | succ n ih =>
    intro q tl ls st h hq
    rw [av_XP_step hq]
    show av_stp E some _ _ q ls st h = _
    congr 1
    · funext ls st h
      cases tl with
      | nil =>
        refine (av_XP_none ?_).symm
        have h6 := av_at_wf T q.1 hw
        rw [hq] at h6
        simp only [av_wf, Bool.and_eq_true] at h6
        have h7 : q.1 < q.1 + q.2.1 := by simpa using h6.1.1
        exact av_at_last T q.1 q hw hq _ h7
      | cons q' l =>
        obtain ⟨h1, h2⟩ := av_at_next T q.1 q q' l hw hq
        rw [← h2]
        dsimp only
        split
        · rfl
        · exact ih q' l ls st h h1
    · funext pc ls st h
      split
      · rfl
      · cases hp : av_at T pc with
        | nil =>
          rw [av_XP_none hp]
          cases n <;> rfl
        | cons q2 tl2 =>
          have h1 := av_at_hd T pc q2 tl2 hp
          subst h1
          exact ih q2 tl2 ls st h hp
/-- a method: its rows, its number of locals -/
abbrev av_MT : Type := List av_I × Nat
noncomputable def av_X (tab : Nat → av_MT) : Nat → Nat → List Value → av_M → Option av_R
  | 0, _, _, _ => none
  | d + 1, k, as, h => match Nat.ble (av_in as).length (tab k).2 with
    | true => av_XP (av_X tab d) (tab k).1 0 (av_pad (tab k).2 (av_in as)) [] h
    | false => none
theorem av_u_ne {h : av_M} {a k : Nat} {v : Int32} {b : Nat} (e : b ≠ a) : av_u h a k v b = h b := by unfold av_u; rw [if_neg e]
theorem av_u_eq {h : av_M} {a k : Nat} {v : Int32} : av_u h a k v a = upd (h a) k v := by unfold av_u; rw [if_pos rfl]
