/-! PURE, 75: calls: rule, 1: the class reads a sign -/
/-- the reader: out (the last first), waiting (the top first), nested, compared, digits, wants a thing -/
abbrev sh_Y : Type := List Nat × List Nat × Nat × (Nat → Bool) × Nat × Bool
def sh_yb (c : Nat) : Nat := if c = 60 ∨ c = 61 ∨ c = 62 then 1 else if c = 43 ∨ c = 45 then 2 else if c = 42 ∨ c = 47 then 3 else if c = 256 then 4 else 0
def sh_nm (c : Nat) : Bool := decide (c = 99) || (decide (c = 107) || (decide (c = 110) || (decide (c = 112) || (decide (c = 114) || (decide (c = 115) || decide (c = 118))))))
def sh_yr (b : Nat) : List Nat → List Nat → List Nat × List Nat
  | [], o => ([], o)
  | w :: ws, o => if b ≤ sh_yb w then sh_yr b ws ((1000 + w) :: o) else (w :: ws, o)
def sh_ub (f : Nat → Bool) (k : Nat) (v : Bool) : Nat → Bool := fun i => if i = k then v else f i
def sh_y10 (c : Nat) : List Nat → List Nat
  | [] => []
  | a :: o => (10 * a + (c - 48)) :: o
def sh_yd (c : Nat) : sh_Y → Option sh_Y
  | (o, w, n, cm, dg, true) => if c = 45 then some (o, 256 :: w, n, cm, dg, true) else if c = 40 then (if n < 4 then some (o, 40 :: w, n + 1, sh_ub cm (n + 1) false, dg, true) else none) else if 48 ≤ c ∧ c ≤ 57 then some ((c - 48) :: o, w, n, cm, 1, false) else if sh_nm c = true then some ((1000 + c) :: o, w, n, cm, 0, false) else none
  | (o, w, n, cm, dg, false) => if 48 ≤ c ∧ c ≤ 57 then (if 1 ≤ dg ∧ dg ≤ 2 ∧ 1 ≤ o.length then some (sh_y10 c o, w, n, cm, dg + 1, false) else none) else if c = 41 then (if n = 0 then none else some ((sh_yr 1 w o).2, (sh_yr 1 w o).1.tail, n - 1, cm, 0, false)) else if sh_yb c = 0 then none else if sh_yb c = 1 ∧ cm n = true then none else some ((sh_yr (sh_yb c) w o).2, c :: (sh_yr (sh_yb c) w o).1, n, if sh_yb c = 1 then sh_ub cm n true else cm, dg, true)
/-- a list laid in a row, its last first -/
def sh_ls (f : Nat → Int32) (g : Nat → Nat) : List Nat → Prop
  | [] => True
  | a :: l => f l.length = nI (g a) ∧ sh_ls f g l
theorem sh_ls_c {f f' : Nat → Int32} {g : Nat → Nat} : ∀ (l : List Nat), (∀ j, j < l.length → f' j = f j) → sh_ls f g l → sh_ls f' g l := by
  intro l
  induction l with
  | nil => intro _ _; trivial
  | cons a l ih =>
    intro h H
    exact ⟨(h l.length (by simp)).trans H.1, ih (fun j hj => h j (by simp; omega)) H.2⟩
theorem sh_ls_u {f : Nat → Int32} {g : Nat → Nat} {l : List Nat} {a : Nat} (H : sh_ls f g l) : sh_ls (upd f l.length (nI (g a))) g (a :: l) :=
  ⟨upd_s, sh_ls_c l (fun j hj => by unfold upd; rw [if_neg (by omega)]) H⟩
def sh_YX (o w : List Nat) (n : Nat) (cm : Nat → Bool) (dg : Nat) (wt : Bool) (h : av_M) : Prop := h 23 3 = nI o.length ∧ sh_ls (h 24) id o ∧ h 23 4 = nI w.length ∧ sh_ls (h 25) id w ∧ h 23 5 = nI n ∧ n ≤ 4 ∧ (∀ i, i ≤ 4 → bt (h 23 6) i = cm i) ∧ (wt = false → h 23 7 = nI dg ∧ dg ≤ 3) ∧ h 23 8 = sh_i wt ∧ ∀ a ∈ w, a < 257
def sh_YS (s : sh_Y) (h : av_M) : Prop := sh_YX s.1 s.2.1 s.2.2.1 s.2.2.2.1 s.2.2.2.2.1 s.2.2.2.2.2 h
theorem sh_i3 (P : Prop) [Decidable P] (a b : Int32) (h : av_M) : (if P then some (a, (0 : Int64), h) else some (b, (0 : Int64), h)) = some (if P then a else b, (0 : Int64), h) := by
  by_cases e : P
  · rw [if_pos e, if_pos e]
  · rw [if_neg e, if_neg e]
theorem sh_yb_k : ∀ c, c < 257 → (if nI c = 42 then (3 : Int32) else (if nI c = 43 then (2 : Int32) else (if nI c = 45 then (2 : Int32) else (if nI c = 47 then (3 : Int32) else (if nI c = 60 then (1 : Int32) else (if nI c = 61 then (1 : Int32) else (if nI c = 62 then (1 : Int32) else (if nI c = 256 then (4 : Int32) else (0 : Int32))))))))) = nI (sh_yb c) := by decide +kernel
theorem c_binding (d c : Nat) (hc : c < 257) (h : av_M) : av_x (d + 1) 22 [.int (nI c)] h = some (nI (sh_yb c), 0, h) := by
  rw [eX3_bindingOf_in]
  simp only [sh_i3]
  rw [sh_yb_k c hc]
theorem sh_nm_k : ∀ c, c < 256 → (if nI c = 99 then (1 : Int32) else (if nI c = 100 then (0 : Int32) else (if nI c = 101 then (0 : Int32) else (if nI c = 102 then (0 : Int32) else (if nI c = 103 then (0 : Int32) else (if nI c = 104 then (0 : Int32) else (if nI c = 105 then (0 : Int32) else (if nI c = 106 then (0 : Int32) else (if nI c = 107 then (1 : Int32) else (if nI c = 108 then (0 : Int32) else (if nI c = 109 then (0 : Int32) else (if nI c = 110 then (1 : Int32) else (if nI c = 111 then (0 : Int32) else (if nI c = 112 then (1 : Int32) else (if nI c = 113 then (0 : Int32) else (if nI c = 114 then (1 : Int32) else (if nI c = 115 then (1 : Int32) else (if nI c = 116 then (0 : Int32) else (if nI c = 117 then (0 : Int32) else (if nI c = 118 then (1 : Int32) else (0 : Int32))))))))))))))))))))) = sh_i (sh_nm c) := by decide +kernel
theorem c_isNm (d c : Nat) (hc : c < 256) (h : av_M) : av_x (d + 1) 21 [.int (nI c)] h = some (sh_i (sh_nm c), 0, h) := by
  rw [eX3_isName_in]
  simp only [sh_i3, sh_111, sh_001]
  rw [sh_nm_k c hc]
theorem sh_yb4 (c : Nat) : sh_yb c ≤ 4 := by
  unfold sh_yb
  split
  · omega
  · split
    · omega
    · split
      · omega
      · split <;> omega
theorem c_emitY (d k : Nat) (v : Int32) (h : av_M) (hk : k < 40) (e : h 23 3 = nI k) : av_x (d + 1) 20 [.ref 23, .int v] h = some (0, 0, av_u (av_u h 24 k v) 23 3 (nI (k + 1))) := by
  rw [eX3_emit_r23_in, e, if_neg (show ¬ (40 : Int32) ≤ nI k from sh_lt (n := 40) hk (by decide)), sh_inb hk (by decide), cond_true, nI_clamp (by omega), nI_1]
theorem c_holdY (d k : Nat) (v : Int32) (h : av_M) (hk : k < 40) (e : h 23 4 = nI k) : av_x (d + 1) 19 [.ref 23, .int v] h = some (0, 0, av_u (av_u h 25 k v) 23 4 (nI (k + 1))) := by
  rw [eX3_hold_r23_in, e, if_neg (show ¬ (40 : Int32) ≤ nI k from sh_lt (n := 40) hk (by decide)), sh_inb hk (by decide), cond_true, nI_clamp (by omega), nI_1]
theorem c_relY (d b : Nat) (hb : b ≤ 4) : ∀ (w o : List Nat) (h : av_M), o.length + w.length ≤ 40 → h 23 3 = nI o.length → sh_ls (h 24) id o → h 23 4 = nI w.length → sh_ls (h 25) id w → (∀ a ∈ w, a < 257) →
    ∃ h', av_xp (d + 1) 18 0 [.ref 23, .int (nI b)] [] h = some (0, 0, h') ∧ h' 23 3 = nI (sh_yr b w o).2.length ∧ sh_ls (h' 24) id (sh_yr b w o).2 ∧ h' 23 4 = nI (sh_yr b w o).1.length ∧ sh_ls (h' 25) id (sh_yr b w o).1 ∧ sh_fr [23, 24] h h' ∧ (∀ j, j ≠ 3 → j ≠ 4 → h' 23 j = h 23 j) := by
  intro w
  induction w with
  | nil =>
    intro o h hl e3 eo e4 ew hw
    refine ⟨h, ?_, e3, eo, e4, ew, sh_fr_refl _ _, fun _ _ _ => rfl⟩
    rw [eX3_release_r23_0, e4, if_pos (show nI ([] : List Nat).length ≤ (0 : Int32) by decide)]
  | cons a ws ih =>
    intro o h hl e3 eo e4 ew hw
    have hl2 : o.length + ws.length + 1 ≤ 40 := by simp at hl; omega
    have e4' : h 23 4 = nI (ws.length + 1) := e4
    have ha := hw a List.mem_cons_self
    have et : h 25 ws.length = nI a := ew.1
    rw [eX3_release_r23_0, e4', if_neg (nI_nle (by omega) (by omega)), nI_pred, sh_inb (show ws.length < 40 by omega) (by decide), cond_true, nI_clamp (by omega), et, c_binding d a ha]
    simp only [Option.bind_some]
    by_cases g : b ≤ sh_yb a
    · have k1 : (av_u h 23 4 (nI ws.length)) 23 3 = nI o.length := e3
      have ihh := ih ((1000 + a) :: o) (av_u (av_u (av_u h 23 4 (nI ws.length)) 24 o.length (nI (1000 + a))) 23 3 (nI (o.length + 1))) (by simp; omega) rfl (sh_ls_u (g := id) (f := h 24) eo) rfl ew.2 (fun x hx => hw x (List.mem_cons_of_mem _ hx))
      obtain ⟨h', q1, q2, q3, q4, q5, q6, q7⟩ := ihh
      have yr : sh_yr b (a :: ws) o = sh_yr b ws ((1000 + a) :: o) := by show (if b ≤ sh_yb a then _ else _) = _; rw [if_pos g]
      rw [yr]
      refine ⟨h', ?_, q2, q3, q4, q5, ?_, ?_⟩
      · rw [if_neg (nI_nlt g (by have := sh_yb4 a; omega)), e4', nI_pred, sh_inb (show ws.length < 40 by omega) (by decide), cond_true, nI_clamp (by omega), et, show (1000 : Int32) + nI a = nI (1000 + a) from nI_add 1000 a, c_emitY d o.length _ _ (by omega) k1]
        simp only [Option.bind_some]
        exact q1
      · exact sh_fr_tr (sh_fr_u (by decide) (sh_fr_u (by decide) (sh_fr_u (by decide) (sh_fr_refl _ _)))) q6 (fun _ q => q)
      · intro j j3 j4
        rw [q7 j j3 j4]
        show upd (upd (h 23) 4 _) 3 _ j = _
        unfold upd
        rw [if_neg j3, if_neg j4]
    · have yr : sh_yr b (a :: ws) o = (a :: ws, o) := by show (if b ≤ sh_yb a then _ else _) = _; rw [if_neg g]
      rw [yr, if_pos (nI_lt (by omega) (by omega))]
      exact ⟨h, rfl, e3, eo, e4, ew, sh_fr_refl _ _, fun _ _ _ => rfl⟩
theorem sh_yr_len (b : Nat) : ∀ (w o : List Nat), (sh_yr b w o).1.length + (sh_yr b w o).2.length = w.length + o.length := by
  intro w
  induction w with
  | nil => intro o; rfl
  | cons a ws ih =>
    intro o
    unfold sh_yr
    by_cases g : b ≤ sh_yb a
    · rw [if_pos g, ih]; simp; omega
    · rw [if_neg g]
theorem sh_yr_mem (b : Nat) : ∀ (w o : List Nat), ∀ a ∈ (sh_yr b w o).1, a ∈ w := by
  intro w
  induction w with
  | nil => intro o a h; exact h
  | cons c ws ih =>
    intro o a h
    unfold sh_yr at h
    by_cases g : b ≤ sh_yb c
    · rw [if_pos g] at h; exact List.mem_cons_of_mem _ (ih _ a h)
    · rw [if_neg g] at h; exact h
