/-! PURE, 3: rules and hours -/
def sh_isN (x : Int32) : Bool := decide (x = 99) || decide (x = 107) || decide (x = 110) || decide (x = 112) || decide (x = 114) || decide (x = 115) || decide (x = 118)
theorem c_isName (d : Nat) (x : Int32) (h : av_M) : av_x (d + 1) 21 [.int x] h = some (sh_i (sh_isN x), 0, h) := by
  rw [eX3_isName_in]
  by_cases e99 : x = 99
  · subst e99
    rw [if_pos rfl, show sh_isN 99 = true by decide]
    rfl
  by_cases e100 : x = 100
  · subst e100
    rw [if_neg (show ¬ (100 : Int32) = 99 by decide), if_pos rfl, show sh_isN 100 = false by decide]
    rfl
  by_cases e101 : x = 101
  · subst e101
    rw [if_neg (show ¬ (101 : Int32) = 99 by decide), if_neg (show ¬ (101 : Int32) = 100 by decide), if_pos rfl, show sh_isN 101 = false by decide]
    rfl
  by_cases e102 : x = 102
  · subst e102
    rw [if_neg (show ¬ (102 : Int32) = 99 by decide), if_neg (show ¬ (102 : Int32) = 100 by decide), if_neg (show ¬ (102 : Int32) = 101 by decide), if_pos rfl, show sh_isN 102 = false by decide]
    rfl
  by_cases e103 : x = 103
  · subst e103
    rw [if_neg (show ¬ (103 : Int32) = 99 by decide), if_neg (show ¬ (103 : Int32) = 100 by decide), if_neg (show ¬ (103 : Int32) = 101 by decide), if_neg (show ¬ (103 : Int32) = 102 by decide), if_pos rfl, show sh_isN 103 = false by decide]
    rfl
  by_cases e104 : x = 104
  · subst e104
    rw [if_neg (show ¬ (104 : Int32) = 99 by decide), if_neg (show ¬ (104 : Int32) = 100 by decide), if_neg (show ¬ (104 : Int32) = 101 by decide), if_neg (show ¬ (104 : Int32) = 102 by decide), if_neg (show ¬ (104 : Int32) = 103 by decide), if_pos rfl, show sh_isN 104 = false by decide]
    rfl
  by_cases e105 : x = 105
  · subst e105
    rw [if_neg (show ¬ (105 : Int32) = 99 by decide), if_neg (show ¬ (105 : Int32) = 100 by decide), if_neg (show ¬ (105 : Int32) = 101 by decide), if_neg (show ¬ (105 : Int32) = 102 by decide), if_neg (show ¬ (105 : Int32) = 103 by decide), if_neg (show ¬ (105 : Int32) = 104 by decide), if_pos rfl, show sh_isN 105 = false by decide]
    rfl
  by_cases e106 : x = 106
  · subst e106
    rw [if_neg (show ¬ (106 : Int32) = 99 by decide), if_neg (show ¬ (106 : Int32) = 100 by decide), if_neg (show ¬ (106 : Int32) = 101 by decide), if_neg (show ¬ (106 : Int32) = 102 by decide), if_neg (show ¬ (106 : Int32) = 103 by decide), if_neg (show ¬ (106 : Int32) = 104 by decide), if_neg (show ¬ (106 : Int32) = 105 by decide), if_pos rfl, show sh_isN 106 = false by decide]
    rfl
  by_cases e107 : x = 107
  · subst e107
    rw [if_neg (show ¬ (107 : Int32) = 99 by decide), if_neg (show ¬ (107 : Int32) = 100 by decide), if_neg (show ¬ (107 : Int32) = 101 by decide), if_neg (show ¬ (107 : Int32) = 102 by decide), if_neg (show ¬ (107 : Int32) = 103 by decide), if_neg (show ¬ (107 : Int32) = 104 by decide), if_neg (show ¬ (107 : Int32) = 105 by decide), if_neg (show ¬ (107 : Int32) = 106 by decide), if_pos rfl, show sh_isN 107 = true by decide]
    rfl
  by_cases e108 : x = 108
  · subst e108
    rw [if_neg (show ¬ (108 : Int32) = 99 by decide), if_neg (show ¬ (108 : Int32) = 100 by decide), if_neg (show ¬ (108 : Int32) = 101 by decide), if_neg (show ¬ (108 : Int32) = 102 by decide), if_neg (show ¬ (108 : Int32) = 103 by decide), if_neg (show ¬ (108 : Int32) = 104 by decide), if_neg (show ¬ (108 : Int32) = 105 by decide), if_neg (show ¬ (108 : Int32) = 106 by decide), if_neg (show ¬ (108 : Int32) = 107 by decide), if_pos rfl, show sh_isN 108 = false by decide]
    rfl
  by_cases e109 : x = 109
  · subst e109
    rw [if_neg (show ¬ (109 : Int32) = 99 by decide), if_neg (show ¬ (109 : Int32) = 100 by decide), if_neg (show ¬ (109 : Int32) = 101 by decide), if_neg (show ¬ (109 : Int32) = 102 by decide), if_neg (show ¬ (109 : Int32) = 103 by decide), if_neg (show ¬ (109 : Int32) = 104 by decide), if_neg (show ¬ (109 : Int32) = 105 by decide), if_neg (show ¬ (109 : Int32) = 106 by decide), if_neg (show ¬ (109 : Int32) = 107 by decide), if_neg (show ¬ (109 : Int32) = 108 by decide), if_pos rfl, show sh_isN 109 = false by decide]
    rfl
  by_cases e110 : x = 110
  · subst e110
    rw [if_neg (show ¬ (110 : Int32) = 99 by decide), if_neg (show ¬ (110 : Int32) = 100 by decide), if_neg (show ¬ (110 : Int32) = 101 by decide), if_neg (show ¬ (110 : Int32) = 102 by decide), if_neg (show ¬ (110 : Int32) = 103 by decide), if_neg (show ¬ (110 : Int32) = 104 by decide), if_neg (show ¬ (110 : Int32) = 105 by decide), if_neg (show ¬ (110 : Int32) = 106 by decide), if_neg (show ¬ (110 : Int32) = 107 by decide), if_neg (show ¬ (110 : Int32) = 108 by decide), if_neg (show ¬ (110 : Int32) = 109 by decide), if_pos rfl, show sh_isN 110 = true by decide]
    rfl
  by_cases e111 : x = 111
  · subst e111
    rw [if_neg (show ¬ (111 : Int32) = 99 by decide), if_neg (show ¬ (111 : Int32) = 100 by decide), if_neg (show ¬ (111 : Int32) = 101 by decide), if_neg (show ¬ (111 : Int32) = 102 by decide), if_neg (show ¬ (111 : Int32) = 103 by decide), if_neg (show ¬ (111 : Int32) = 104 by decide), if_neg (show ¬ (111 : Int32) = 105 by decide), if_neg (show ¬ (111 : Int32) = 106 by decide), if_neg (show ¬ (111 : Int32) = 107 by decide), if_neg (show ¬ (111 : Int32) = 108 by decide), if_neg (show ¬ (111 : Int32) = 109 by decide), if_neg (show ¬ (111 : Int32) = 110 by decide), if_pos rfl, show sh_isN 111 = false by decide]
    rfl
  by_cases e112 : x = 112
  · subst e112
    rw [if_neg (show ¬ (112 : Int32) = 99 by decide), if_neg (show ¬ (112 : Int32) = 100 by decide), if_neg (show ¬ (112 : Int32) = 101 by decide), if_neg (show ¬ (112 : Int32) = 102 by decide), if_neg (show ¬ (112 : Int32) = 103 by decide), if_neg (show ¬ (112 : Int32) = 104 by decide), if_neg (show ¬ (112 : Int32) = 105 by decide), if_neg (show ¬ (112 : Int32) = 106 by decide), if_neg (show ¬ (112 : Int32) = 107 by decide), if_neg (show ¬ (112 : Int32) = 108 by decide), if_neg (show ¬ (112 : Int32) = 109 by decide), if_neg (show ¬ (112 : Int32) = 110 by decide), if_neg (show ¬ (112 : Int32) = 111 by decide), if_pos rfl, show sh_isN 112 = true by decide]
    rfl
  by_cases e113 : x = 113
  · subst e113
    rw [if_neg (show ¬ (113 : Int32) = 99 by decide), if_neg (show ¬ (113 : Int32) = 100 by decide), if_neg (show ¬ (113 : Int32) = 101 by decide), if_neg (show ¬ (113 : Int32) = 102 by decide), if_neg (show ¬ (113 : Int32) = 103 by decide), if_neg (show ¬ (113 : Int32) = 104 by decide), if_neg (show ¬ (113 : Int32) = 105 by decide), if_neg (show ¬ (113 : Int32) = 106 by decide), if_neg (show ¬ (113 : Int32) = 107 by decide), if_neg (show ¬ (113 : Int32) = 108 by decide), if_neg (show ¬ (113 : Int32) = 109 by decide), if_neg (show ¬ (113 : Int32) = 110 by decide), if_neg (show ¬ (113 : Int32) = 111 by decide), if_neg (show ¬ (113 : Int32) = 112 by decide), if_pos rfl, show sh_isN 113 = false by decide]
    rfl
  by_cases e114 : x = 114
  · subst e114
    rw [if_neg (show ¬ (114 : Int32) = 99 by decide), if_neg (show ¬ (114 : Int32) = 100 by decide), if_neg (show ¬ (114 : Int32) = 101 by decide), if_neg (show ¬ (114 : Int32) = 102 by decide), if_neg (show ¬ (114 : Int32) = 103 by decide), if_neg (show ¬ (114 : Int32) = 104 by decide), if_neg (show ¬ (114 : Int32) = 105 by decide), if_neg (show ¬ (114 : Int32) = 106 by decide), if_neg (show ¬ (114 : Int32) = 107 by decide), if_neg (show ¬ (114 : Int32) = 108 by decide), if_neg (show ¬ (114 : Int32) = 109 by decide), if_neg (show ¬ (114 : Int32) = 110 by decide), if_neg (show ¬ (114 : Int32) = 111 by decide), if_neg (show ¬ (114 : Int32) = 112 by decide), if_neg (show ¬ (114 : Int32) = 113 by decide), if_pos rfl, show sh_isN 114 = true by decide]
    rfl
  by_cases e115 : x = 115
  · subst e115
    rw [if_neg (show ¬ (115 : Int32) = 99 by decide), if_neg (show ¬ (115 : Int32) = 100 by decide), if_neg (show ¬ (115 : Int32) = 101 by decide), if_neg (show ¬ (115 : Int32) = 102 by decide), if_neg (show ¬ (115 : Int32) = 103 by decide), if_neg (show ¬ (115 : Int32) = 104 by decide), if_neg (show ¬ (115 : Int32) = 105 by decide), if_neg (show ¬ (115 : Int32) = 106 by decide), if_neg (show ¬ (115 : Int32) = 107 by decide), if_neg (show ¬ (115 : Int32) = 108 by decide), if_neg (show ¬ (115 : Int32) = 109 by decide), if_neg (show ¬ (115 : Int32) = 110 by decide), if_neg (show ¬ (115 : Int32) = 111 by decide), if_neg (show ¬ (115 : Int32) = 112 by decide), if_neg (show ¬ (115 : Int32) = 113 by decide), if_neg (show ¬ (115 : Int32) = 114 by decide), if_pos rfl, show sh_isN 115 = true by decide]
    rfl
  by_cases e116 : x = 116
  · subst e116
    rw [if_neg (show ¬ (116 : Int32) = 99 by decide), if_neg (show ¬ (116 : Int32) = 100 by decide), if_neg (show ¬ (116 : Int32) = 101 by decide), if_neg (show ¬ (116 : Int32) = 102 by decide), if_neg (show ¬ (116 : Int32) = 103 by decide), if_neg (show ¬ (116 : Int32) = 104 by decide), if_neg (show ¬ (116 : Int32) = 105 by decide), if_neg (show ¬ (116 : Int32) = 106 by decide), if_neg (show ¬ (116 : Int32) = 107 by decide), if_neg (show ¬ (116 : Int32) = 108 by decide), if_neg (show ¬ (116 : Int32) = 109 by decide), if_neg (show ¬ (116 : Int32) = 110 by decide), if_neg (show ¬ (116 : Int32) = 111 by decide), if_neg (show ¬ (116 : Int32) = 112 by decide), if_neg (show ¬ (116 : Int32) = 113 by decide), if_neg (show ¬ (116 : Int32) = 114 by decide), if_neg (show ¬ (116 : Int32) = 115 by decide), if_pos rfl, show sh_isN 116 = false by decide]
    rfl
  by_cases e117 : x = 117
  · subst e117
    rw [if_neg (show ¬ (117 : Int32) = 99 by decide), if_neg (show ¬ (117 : Int32) = 100 by decide), if_neg (show ¬ (117 : Int32) = 101 by decide), if_neg (show ¬ (117 : Int32) = 102 by decide), if_neg (show ¬ (117 : Int32) = 103 by decide), if_neg (show ¬ (117 : Int32) = 104 by decide), if_neg (show ¬ (117 : Int32) = 105 by decide), if_neg (show ¬ (117 : Int32) = 106 by decide), if_neg (show ¬ (117 : Int32) = 107 by decide), if_neg (show ¬ (117 : Int32) = 108 by decide), if_neg (show ¬ (117 : Int32) = 109 by decide), if_neg (show ¬ (117 : Int32) = 110 by decide), if_neg (show ¬ (117 : Int32) = 111 by decide), if_neg (show ¬ (117 : Int32) = 112 by decide), if_neg (show ¬ (117 : Int32) = 113 by decide), if_neg (show ¬ (117 : Int32) = 114 by decide), if_neg (show ¬ (117 : Int32) = 115 by decide), if_neg (show ¬ (117 : Int32) = 116 by decide), if_pos rfl, show sh_isN 117 = false by decide]
    rfl
  by_cases e118 : x = 118
  · subst e118
    rw [if_neg (show ¬ (118 : Int32) = 99 by decide), if_neg (show ¬ (118 : Int32) = 100 by decide), if_neg (show ¬ (118 : Int32) = 101 by decide), if_neg (show ¬ (118 : Int32) = 102 by decide), if_neg (show ¬ (118 : Int32) = 103 by decide), if_neg (show ¬ (118 : Int32) = 104 by decide), if_neg (show ¬ (118 : Int32) = 105 by decide), if_neg (show ¬ (118 : Int32) = 106 by decide), if_neg (show ¬ (118 : Int32) = 107 by decide), if_neg (show ¬ (118 : Int32) = 108 by decide), if_neg (show ¬ (118 : Int32) = 109 by decide), if_neg (show ¬ (118 : Int32) = 110 by decide), if_neg (show ¬ (118 : Int32) = 111 by decide), if_neg (show ¬ (118 : Int32) = 112 by decide), if_neg (show ¬ (118 : Int32) = 113 by decide), if_neg (show ¬ (118 : Int32) = 114 by decide), if_neg (show ¬ (118 : Int32) = 115 by decide), if_neg (show ¬ (118 : Int32) = 116 by decide), if_neg (show ¬ (118 : Int32) = 117 by decide), if_pos rfl, show sh_isN 118 = true by decide]
    rfl
  rw [if_neg e99, if_neg e100, if_neg e101, if_neg e102, if_neg e103, if_neg e104, if_neg e105, if_neg e106, if_neg e107, if_neg e108, if_neg e109, if_neg e110, if_neg e111, if_neg e112, if_neg e113, if_neg e114, if_neg e115, if_neg e116, if_neg e117, if_neg e118]
  unfold sh_isN
  rw [decide_eq_false e99, decide_eq_false e107, decide_eq_false e110, decide_eq_false e112, decide_eq_false e114, decide_eq_false e115, decide_eq_false e118]
  rfl
/-- how many others of its COLOUR HOLD -/
def sh_cpF (col : Nat → Int32) (loose : Int32) (i j : Nat) (a : Int32) : Int32 := if j = i then a else if col j = col i then (if sh_b loose j = true then a else a + 1) else a
def sh_cp (n : Nat) (col : Nat → Int32) (r : Nat → Int32) (i : Nat) : Int32 := sh_lp (sh_cpF col (r 28 ||| r 29) i) n 0 0
/-- what a rule may ask: k s r p v c n -/
def sh_q (n : Nat) (col str : Nat → Int32) (r : Nat → Int32) (i : Nat) : Nat → Int32 := fun x => match x with
  | 0 => sh_lk r i
  | 1 => str i
  | 2 => r i
  | 3 => r (14 + i)
  | 4 => r 31
  | 5 => sh_cp n col r i
  | _ => r 32 - r 32 / 7 * 7
def sh_val (q : Nat → Int32) (x : Int32) : Int32 := if x = 99 then q 5 else if x = 107 then q 0 else if x = 112 then q 3 else if x = 114 then q 2 else if x = 115 then q 1 else if x = 118 then q 4 else q 6
def sh_join (x a b : Int32) : Int32 := if x = 42 then a * b else if x = 43 then a + b else if x = 45 then a - b else if x = 60 then (if b ≤ a then 0 else 1) else if x = 61 then (if a = b then 1 else 0) else if x = 62 then (if a ≤ b then 0 else 1) else if b = 0 then 0 else a / b
theorem c_join (d : Nat) (x a b : Int32) (h : av_M) : av_x (d + 1) 25 [.int x, .int a, .int b] h = some (sh_join x a b, 0, h) := by
  rw [eX3_join_in]
  unfold sh_join
  repeat' split
  all_goals first
    | rfl
    | skip
  rename_i hb
  rw [show av_nz b = true by unfold av_nz; simpa using hb]
  rfl
/-- a step of a rule: the stack's height, the stack -/
def sh_stp (st : Nat → Int32) (q : Nat → Int32) (k : Nat) (z : Nat × (Nat → Int32)) : Nat × (Nat → Int32) :=
  if st k - 1000 < 0 ∨ sh_isN (st k - 1000) = true then (if z.1 < 40 then (z.1 + 1, upd z.2 z.1 (if st k - 1000 < 0 then st k else sh_val q (st k - 1000))) else z)
  else if st k - 1000 = 256 then (if z.1 = 0 then z else (z.1, upd z.2 (z.1 - 1) (-(z.2 (z.1 - 1)))))
  else if z.1 ≤ 1 then z else (z.1 - 1, upd z.2 (z.1 - 2) (sh_join (st k - 1000) (z.2 (z.1 - 2)) (z.2 (z.1 - 1))))
def sh_run (m : Nat) (st : Nat → Int32) (q : Nat → Int32) (g : Nat → Int32) : Nat × (Nat → Int32) := sh_lp (sh_stp st q) m 0 (0, g)
/-- PULL: a rule of m steps, over an old stack g -/
def sh_pl (m : Nat) (st g q : Nat → Int32) : Int32 := av_max (-99) (av_min 99 ((sh_run m st q g).2 0))
def sh_poF (H : Int32) (k : Nat) (r : Nat → Int32) : Nat → Int32 := match sh_b H k with
  | true => upd (upd r k (r k - av_min (r (7 + k)) (r k))) (21 + k) (av_min 9999 (r (21 + k) + av_min (r (7 + k)) (r k)))
  | false => r
theorem sh_SV_po {o R L k : Nat} {h : av_M} {r : Nat → Int32} {a b : Int32} (hR : R = o + 3) (hL : L = o + 6) (hk : k < 7) (hv : sh_SV o h r) : sh_SV o (av_u (av_u h R k a) L k b) (upd (upd r k a) (21 + k) b) := by
  subst hR hL
  obtain ⟨v1, v2, v3, v4, v5, v6, v7, v8, v9⟩ := hv
  refine ⟨fun j hj => ?_, fun j hj => ?_, fun j hj => ?_, fun j hj => ?_, ?_, ?_, ?_, ?_, ?_⟩
  · rw [av_u_ne (by omega), av_u_eq]
    unfold upd
    rw [if_neg (show ¬ j = 21 + k by omega)]
    by_cases e : j = k
    · rw [if_pos e, if_pos e]
    · rw [if_neg e, if_neg e]; exact v1 j hj
  · rw [av_u_ne (by omega), av_u_ne (by omega)]
    unfold upd
    rw [if_neg (by omega), if_neg (by omega)]
    exact v2 j hj
  · rw [av_u_ne (by omega), av_u_ne (by omega)]
    unfold upd
    rw [if_neg (by omega), if_neg (by omega)]
    exact v3 j hj
  · rw [av_u_eq]
    unfold upd
    rw [av_u_ne (by omega)]
    by_cases e : j = k
    · rw [if_pos e, if_pos (by omega)]
    · rw [if_neg e, if_neg (by omega), if_neg (by omega)]; exact v4 j hj
  all_goals (rw [av_u_ne (by omega), av_u_ne (by omega)]; unfold upd; rw [if_neg (by omega), if_neg (by omega)]; assumption)
theorem sh_SV_fr {o : Nat} {S : List Nat} {h h' : av_M} {r : Nat → Int32} (hf : sh_fr S h h') (hS : ∀ a, a ∈ S → ¬ (a = o ∨ a = o + 3 ∨ a = o + 4 ∨ a = o + 5 ∨ a = o + 6)) (hv : sh_SV o h r) : sh_SV o h' r := by
  have g : ∀ a, (a = o ∨ a = o + 3 ∨ a = o + 4 ∨ a = o + 5 ∨ a = o + 6) → h' a = h a := fun a ha => hf a (fun q => hS a q ha)
  unfold sh_SV
  rw [g o (Or.inl rfl), g (o + 3) (by simp), g (o + 4) (by simp), g (o + 5) (by simp), g (o + 6) (by simp)]
  exact hv
theorem sh_SV_10 {o : Nat} {h : av_M} {r : Nat → Int32} {w : Int32} (hv : sh_SV o h r) : sh_SV o (av_u h o 10 w) (upd r 30 w) := by
  obtain ⟨v1, v2, v3, v4, v5, v6, v7, v8, v9⟩ := hv
  refine ⟨fun j hj => ?_, fun j hj => ?_, fun j hj => ?_, fun j hj => ?_, ?_, ?_, ?_, ?_, ?_⟩
  · rw [av_u_ne (by omega)]; unfold upd; rw [if_neg (by omega)]; exact v1 j hj
  · rw [av_u_ne (by omega)]; unfold upd; rw [if_neg (by omega)]; exact v2 j hj
  · rw [av_u_ne (by omega)]; unfold upd; rw [if_neg (by omega)]; exact v3 j hj
  · rw [av_u_ne (by omega)]; unfold upd; rw [if_neg (by omega)]; exact v4 j hj
  · rw [av_u_eq]; unfold upd; rw [if_neg (by omega), if_neg (by omega)]; exact v5
  · rw [av_u_eq]; unfold upd; rw [if_neg (by omega), if_neg (by omega)]; exact v6
  · rw [av_u_eq]; unfold upd; rw [if_pos rfl, if_pos rfl]
  · rw [av_u_eq]; unfold upd; rw [if_neg (by omega), if_neg (by omega)]; exact v8
  · rw [av_u_eq]; unfold upd; rw [if_neg (by omega), if_neg (by omega)]; exact v9
theorem sh_SV_end {o : Nat} {h : av_M} {r : Nat → Int32} {b : Int32} (hv : sh_SV o h r) : sh_SV o (av_u (av_u h o 8 (h o 8 ||| b)) o 12 (h o 12 + 1)) (upd (upd r 28 (r 28 ||| b)) 32 (r 32 + 1)) := by
  obtain ⟨v1, v2, v3, v4, v5, v6, v7, v8, v9⟩ := hv
  refine ⟨fun j hj => ?_, fun j hj => ?_, fun j hj => ?_, fun j hj => ?_, ?_, ?_, ?_, ?_, ?_⟩
  · rw [av_u_ne (by omega), av_u_ne (by omega)]; unfold upd; rw [if_neg (by omega), if_neg (by omega)]; exact v1 j hj
  · rw [av_u_ne (by omega), av_u_ne (by omega)]; unfold upd; rw [if_neg (by omega), if_neg (by omega)]; exact v2 j hj
  · rw [av_u_ne (by omega), av_u_ne (by omega)]; unfold upd; rw [if_neg (by omega), if_neg (by omega)]; exact v3 j hj
  · rw [av_u_ne (by omega), av_u_ne (by omega)]; unfold upd; rw [if_neg (by omega), if_neg (by omega)]; exact v4 j hj
  · rw [av_u_eq]; unfold upd; rw [if_neg (by omega), if_neg (by omega), if_pos rfl, av_u_eq]; unfold upd; rw [if_pos rfl, v5]
  · rw [av_u_eq]; unfold upd; rw [if_neg (by omega), if_neg (by omega), if_neg (by omega), av_u_eq]; unfold upd; rw [if_neg (by omega)]; exact v6
  · rw [av_u_eq]; unfold upd; rw [if_neg (by omega), if_neg (by omega), if_neg (by omega), av_u_eq]; unfold upd; rw [if_neg (by omega)]; exact v7
  · rw [av_u_eq]; unfold upd; rw [if_neg (by omega), if_neg (by omega), if_neg (by omega), av_u_eq]; unfold upd; rw [if_neg (by omega)]; exact v8
  · rw [av_u_eq]; unfold upd; rw [if_pos rfl, if_pos rfl, v9]
def sh_brF (H : Int32) (str pl : Nat → Int32) (k : Nat) (a : Int32) : Int32 := if sh_b H k = true ∧ ¬ pl k ≤ str k then a ||| ((1 : Int32) <<< (nI k &&& 31)) else a
/-- an HOUR -/
def sh_hr (n : Nat) (col str : Nat → Int32) (rl : (Nat → Int32) → Int32) (r : Nat → Int32) : Nat → Int32 :=
  let r1 := sh_lp (sh_poF (sh_hd n r)) n 0 r
  let r2 := upd r1 30 (av_min 9999 (r1 30 + av_max 0 (r1 31 - sh_w n str (sh_tt n r1) / 5)))
  let p := sh_lp (sh_brF (sh_hd n r2) str (fun i => rl (sh_q n col str r2 i))) n 0 0
  upd (upd r2 28 (r2 28 ||| p)) 32 (r2 32 + 1)
theorem c_companions5_l (d n : Nat) (h : av_M) (lo : Int32) (i : Nat) (hi : i < 7) (hn : n ≤ 7) (hm : h 5 6 = nI n) : ∀ t k a, k + t = n → av_xp (d + 1) 37 15 [.ref 5, .int (nI i), .int lo, .int a, .int (nI k)] [] h = some (sh_lp (sh_cpF (h 6) lo i) t k a, 0, h) := by
  intro t
  induction t with
  | zero =>
    intro k a e
    rw [eX4_companions_r5_15, hm, if_pos (sh_ge (by omega) (by omega))]
    rfl
  | succ t ih =>
    intro k a e
    rw [eX4_companions_r5_15, hm, if_neg (sh_lt (by omega) (by omega))]
    simp only [sh_inb (show k < 7 by omega) (by decide), sh_inb hi (by decide), cond_true, nI_1, nI_clamp (show k < 2 ^ 31 by omega), nI_clamp (show i < 2 ^ 31 by omega), nI_eq (show k < 2 ^ 31 by omega) (show i < 2 ^ 31 by omega), c_isIn, Option.bind_some, sh_i0]
    by_cases h1 : k = i
    · rw [if_pos h1, ih (k + 1) _ (by omega)]
      simp [sh_lp, sh_cpF, h1]
    · rw [if_neg h1]
      by_cases h2 : h 6 k = h 6 i
      · rw [if_pos h2]
        cases hb : sh_b lo k
        · rw [if_pos rfl, ih (k + 1) _ (by omega)]
          simp [sh_lp, sh_cpF, h1, h2, hb]
        · rw [if_neg (by decide), ih (k + 1) _ (by omega)]
          simp [sh_lp, sh_cpF, h1, h2, hb]
      · rw [if_neg h2, ih (k + 1) _ (by omega)]
        simp [sh_lp, sh_cpF, h1, h2]
theorem c_companions5 (d n : Nat) (h : av_M) (r : Nat → Int32) (i : Nat) (hi : i < 7) (hn : n ≤ 7) (hm : h 5 6 = nI n) (hv : sh_SV 5 h r) : av_x (d + 2) 37 [.ref 5, .int (nI i)] h = some (sh_cp n (h 6) r i, 0, h) := by
  rw [eX4_companions_r5_in, hv.2.2.2.2.1, hv.2.2.2.2.2.1]
  exact c_companions5_l d n h _ i hi hn hm n 0 0 (by omega)
theorem c_valueOf5 (d n : Nat) (h : av_M) (r : Nat → Int32) (x : Int32) (i : Nat) (hi : i < 7) (hn : n ≤ 7) (hm : h 5 6 = nI n) (hv : sh_SV 5 h r) : av_x (d + 3) 24 [.int x, .ref 5, .int (nI i)] h = some (sh_val (sh_q n (h 6) (h 7) r i) x, 0, h) := by
  obtain ⟨v1, v2, v3, v4, v5, v6, v7, v8, v9⟩ := id hv
  have e12 : h 5 12 = r 32 := v9
  have e11 : h 5 11 = r 31 := v8
  have eP : h 10 i = r (14 + i) := v3 i hi
  have eR : h 8 i = r i := v1 i hi
  have eL : h 5 10 - h 10 i - h 11 i = sh_lk r i := by rw [show h 5 10 = r 30 from v7, eP, show h 11 i = r (21 + i) from v4 i hi]; rfl
  rw [eX3_valueOf_r5_in]
  simp only [c_companions5 d n h r i hi hn hm hv, c_lack5 _ h i hi, Option.bind_some, sh_inb hi (by decide), cond_true, nI_clamp (show i < 2 ^ 31 by omega), eL, e12, e11, eR]
  by_cases e99 : x = 99
  · subst e99
    rw [show sh_val (sh_q n (h 6) (h 7) r i) 99 = sh_q n (h 6) (h 7) r i 5 by unfold sh_val; rw [if_pos rfl]]
    rw [if_pos rfl]
    rfl
  by_cases e100 : x = 100
  · subst e100
    rw [show sh_val (sh_q n (h 6) (h 7) r i) 100 = sh_q n (h 6) (h 7) r i 6 by unfold sh_val; rw [if_neg (show ¬ (100 : Int32) = 99 by decide), if_neg (show ¬ (100 : Int32) = 107 by decide), if_neg (show ¬ (100 : Int32) = 112 by decide), if_neg (show ¬ (100 : Int32) = 114 by decide), if_neg (show ¬ (100 : Int32) = 115 by decide), if_neg (show ¬ (100 : Int32) = 118 by decide)]]
    rw [if_neg (show ¬ (100 : Int32) = 99 by decide), if_pos rfl]
    rfl
  by_cases e101 : x = 101
  · subst e101
    rw [show sh_val (sh_q n (h 6) (h 7) r i) 101 = sh_q n (h 6) (h 7) r i 6 by unfold sh_val; rw [if_neg (show ¬ (101 : Int32) = 99 by decide), if_neg (show ¬ (101 : Int32) = 107 by decide), if_neg (show ¬ (101 : Int32) = 112 by decide), if_neg (show ¬ (101 : Int32) = 114 by decide), if_neg (show ¬ (101 : Int32) = 115 by decide), if_neg (show ¬ (101 : Int32) = 118 by decide)]]
    rw [if_neg (show ¬ (101 : Int32) = 99 by decide), if_neg (show ¬ (101 : Int32) = 100 by decide), if_pos rfl]
    rfl
  by_cases e102 : x = 102
  · subst e102
    rw [show sh_val (sh_q n (h 6) (h 7) r i) 102 = sh_q n (h 6) (h 7) r i 6 by unfold sh_val; rw [if_neg (show ¬ (102 : Int32) = 99 by decide), if_neg (show ¬ (102 : Int32) = 107 by decide), if_neg (show ¬ (102 : Int32) = 112 by decide), if_neg (show ¬ (102 : Int32) = 114 by decide), if_neg (show ¬ (102 : Int32) = 115 by decide), if_neg (show ¬ (102 : Int32) = 118 by decide)]]
    rw [if_neg (show ¬ (102 : Int32) = 99 by decide), if_neg (show ¬ (102 : Int32) = 100 by decide), if_neg (show ¬ (102 : Int32) = 101 by decide), if_pos rfl]
    rfl
  by_cases e103 : x = 103
  · subst e103
    rw [show sh_val (sh_q n (h 6) (h 7) r i) 103 = sh_q n (h 6) (h 7) r i 6 by unfold sh_val; rw [if_neg (show ¬ (103 : Int32) = 99 by decide), if_neg (show ¬ (103 : Int32) = 107 by decide), if_neg (show ¬ (103 : Int32) = 112 by decide), if_neg (show ¬ (103 : Int32) = 114 by decide), if_neg (show ¬ (103 : Int32) = 115 by decide), if_neg (show ¬ (103 : Int32) = 118 by decide)]]
    rw [if_neg (show ¬ (103 : Int32) = 99 by decide), if_neg (show ¬ (103 : Int32) = 100 by decide), if_neg (show ¬ (103 : Int32) = 101 by decide), if_neg (show ¬ (103 : Int32) = 102 by decide), if_pos rfl]
    rfl
  by_cases e104 : x = 104
  · subst e104
    rw [show sh_val (sh_q n (h 6) (h 7) r i) 104 = sh_q n (h 6) (h 7) r i 6 by unfold sh_val; rw [if_neg (show ¬ (104 : Int32) = 99 by decide), if_neg (show ¬ (104 : Int32) = 107 by decide), if_neg (show ¬ (104 : Int32) = 112 by decide), if_neg (show ¬ (104 : Int32) = 114 by decide), if_neg (show ¬ (104 : Int32) = 115 by decide), if_neg (show ¬ (104 : Int32) = 118 by decide)]]
    rw [if_neg (show ¬ (104 : Int32) = 99 by decide), if_neg (show ¬ (104 : Int32) = 100 by decide), if_neg (show ¬ (104 : Int32) = 101 by decide), if_neg (show ¬ (104 : Int32) = 102 by decide), if_neg (show ¬ (104 : Int32) = 103 by decide), if_pos rfl]
    rfl
  by_cases e105 : x = 105
  · subst e105
    rw [show sh_val (sh_q n (h 6) (h 7) r i) 105 = sh_q n (h 6) (h 7) r i 6 by unfold sh_val; rw [if_neg (show ¬ (105 : Int32) = 99 by decide), if_neg (show ¬ (105 : Int32) = 107 by decide), if_neg (show ¬ (105 : Int32) = 112 by decide), if_neg (show ¬ (105 : Int32) = 114 by decide), if_neg (show ¬ (105 : Int32) = 115 by decide), if_neg (show ¬ (105 : Int32) = 118 by decide)]]
    rw [if_neg (show ¬ (105 : Int32) = 99 by decide), if_neg (show ¬ (105 : Int32) = 100 by decide), if_neg (show ¬ (105 : Int32) = 101 by decide), if_neg (show ¬ (105 : Int32) = 102 by decide), if_neg (show ¬ (105 : Int32) = 103 by decide), if_neg (show ¬ (105 : Int32) = 104 by decide), if_pos rfl]
    rfl
  by_cases e106 : x = 106
  · subst e106
    rw [show sh_val (sh_q n (h 6) (h 7) r i) 106 = sh_q n (h 6) (h 7) r i 6 by unfold sh_val; rw [if_neg (show ¬ (106 : Int32) = 99 by decide), if_neg (show ¬ (106 : Int32) = 107 by decide), if_neg (show ¬ (106 : Int32) = 112 by decide), if_neg (show ¬ (106 : Int32) = 114 by decide), if_neg (show ¬ (106 : Int32) = 115 by decide), if_neg (show ¬ (106 : Int32) = 118 by decide)]]
    rw [if_neg (show ¬ (106 : Int32) = 99 by decide), if_neg (show ¬ (106 : Int32) = 100 by decide), if_neg (show ¬ (106 : Int32) = 101 by decide), if_neg (show ¬ (106 : Int32) = 102 by decide), if_neg (show ¬ (106 : Int32) = 103 by decide), if_neg (show ¬ (106 : Int32) = 104 by decide), if_neg (show ¬ (106 : Int32) = 105 by decide), if_pos rfl]
    rfl
  by_cases e107 : x = 107
  · subst e107
    rw [show sh_val (sh_q n (h 6) (h 7) r i) 107 = sh_q n (h 6) (h 7) r i 0 by unfold sh_val; rw [if_neg (show ¬ (107 : Int32) = 99 by decide), if_pos rfl]]
    rw [if_neg (show ¬ (107 : Int32) = 99 by decide), if_neg (show ¬ (107 : Int32) = 100 by decide), if_neg (show ¬ (107 : Int32) = 101 by decide), if_neg (show ¬ (107 : Int32) = 102 by decide), if_neg (show ¬ (107 : Int32) = 103 by decide), if_neg (show ¬ (107 : Int32) = 104 by decide), if_neg (show ¬ (107 : Int32) = 105 by decide), if_neg (show ¬ (107 : Int32) = 106 by decide), if_pos rfl]
    rfl
  by_cases e108 : x = 108
  · subst e108
    rw [show sh_val (sh_q n (h 6) (h 7) r i) 108 = sh_q n (h 6) (h 7) r i 6 by unfold sh_val; rw [if_neg (show ¬ (108 : Int32) = 99 by decide), if_neg (show ¬ (108 : Int32) = 107 by decide), if_neg (show ¬ (108 : Int32) = 112 by decide), if_neg (show ¬ (108 : Int32) = 114 by decide), if_neg (show ¬ (108 : Int32) = 115 by decide), if_neg (show ¬ (108 : Int32) = 118 by decide)]]
    rw [if_neg (show ¬ (108 : Int32) = 99 by decide), if_neg (show ¬ (108 : Int32) = 100 by decide), if_neg (show ¬ (108 : Int32) = 101 by decide), if_neg (show ¬ (108 : Int32) = 102 by decide), if_neg (show ¬ (108 : Int32) = 103 by decide), if_neg (show ¬ (108 : Int32) = 104 by decide), if_neg (show ¬ (108 : Int32) = 105 by decide), if_neg (show ¬ (108 : Int32) = 106 by decide), if_neg (show ¬ (108 : Int32) = 107 by decide), if_pos rfl]
    rfl
  by_cases e109 : x = 109
  · subst e109
    rw [show sh_val (sh_q n (h 6) (h 7) r i) 109 = sh_q n (h 6) (h 7) r i 6 by unfold sh_val; rw [if_neg (show ¬ (109 : Int32) = 99 by decide), if_neg (show ¬ (109 : Int32) = 107 by decide), if_neg (show ¬ (109 : Int32) = 112 by decide), if_neg (show ¬ (109 : Int32) = 114 by decide), if_neg (show ¬ (109 : Int32) = 115 by decide), if_neg (show ¬ (109 : Int32) = 118 by decide)]]
    rw [if_neg (show ¬ (109 : Int32) = 99 by decide), if_neg (show ¬ (109 : Int32) = 100 by decide), if_neg (show ¬ (109 : Int32) = 101 by decide), if_neg (show ¬ (109 : Int32) = 102 by decide), if_neg (show ¬ (109 : Int32) = 103 by decide), if_neg (show ¬ (109 : Int32) = 104 by decide), if_neg (show ¬ (109 : Int32) = 105 by decide), if_neg (show ¬ (109 : Int32) = 106 by decide), if_neg (show ¬ (109 : Int32) = 107 by decide), if_neg (show ¬ (109 : Int32) = 108 by decide), if_pos rfl]
    rfl
  by_cases e110 : x = 110
  · subst e110
    rw [show sh_val (sh_q n (h 6) (h 7) r i) 110 = sh_q n (h 6) (h 7) r i 6 by unfold sh_val; rw [if_neg (show ¬ (110 : Int32) = 99 by decide), if_neg (show ¬ (110 : Int32) = 107 by decide), if_neg (show ¬ (110 : Int32) = 112 by decide), if_neg (show ¬ (110 : Int32) = 114 by decide), if_neg (show ¬ (110 : Int32) = 115 by decide), if_neg (show ¬ (110 : Int32) = 118 by decide)]]
    rw [if_neg (show ¬ (110 : Int32) = 99 by decide), if_neg (show ¬ (110 : Int32) = 100 by decide), if_neg (show ¬ (110 : Int32) = 101 by decide), if_neg (show ¬ (110 : Int32) = 102 by decide), if_neg (show ¬ (110 : Int32) = 103 by decide), if_neg (show ¬ (110 : Int32) = 104 by decide), if_neg (show ¬ (110 : Int32) = 105 by decide), if_neg (show ¬ (110 : Int32) = 106 by decide), if_neg (show ¬ (110 : Int32) = 107 by decide), if_neg (show ¬ (110 : Int32) = 108 by decide), if_neg (show ¬ (110 : Int32) = 109 by decide), if_pos rfl]
    rfl
  by_cases e111 : x = 111
  · subst e111
    rw [show sh_val (sh_q n (h 6) (h 7) r i) 111 = sh_q n (h 6) (h 7) r i 6 by unfold sh_val; rw [if_neg (show ¬ (111 : Int32) = 99 by decide), if_neg (show ¬ (111 : Int32) = 107 by decide), if_neg (show ¬ (111 : Int32) = 112 by decide), if_neg (show ¬ (111 : Int32) = 114 by decide), if_neg (show ¬ (111 : Int32) = 115 by decide), if_neg (show ¬ (111 : Int32) = 118 by decide)]]
    rw [if_neg (show ¬ (111 : Int32) = 99 by decide), if_neg (show ¬ (111 : Int32) = 100 by decide), if_neg (show ¬ (111 : Int32) = 101 by decide), if_neg (show ¬ (111 : Int32) = 102 by decide), if_neg (show ¬ (111 : Int32) = 103 by decide), if_neg (show ¬ (111 : Int32) = 104 by decide), if_neg (show ¬ (111 : Int32) = 105 by decide), if_neg (show ¬ (111 : Int32) = 106 by decide), if_neg (show ¬ (111 : Int32) = 107 by decide), if_neg (show ¬ (111 : Int32) = 108 by decide), if_neg (show ¬ (111 : Int32) = 109 by decide), if_neg (show ¬ (111 : Int32) = 110 by decide), if_pos rfl]
    rfl
  by_cases e112 : x = 112
  · subst e112
    rw [show sh_val (sh_q n (h 6) (h 7) r i) 112 = sh_q n (h 6) (h 7) r i 3 by unfold sh_val; rw [if_neg (show ¬ (112 : Int32) = 99 by decide), if_neg (show ¬ (112 : Int32) = 107 by decide), if_pos rfl], eP]
    rw [if_neg (show ¬ (112 : Int32) = 99 by decide), if_neg (show ¬ (112 : Int32) = 100 by decide), if_neg (show ¬ (112 : Int32) = 101 by decide), if_neg (show ¬ (112 : Int32) = 102 by decide), if_neg (show ¬ (112 : Int32) = 103 by decide), if_neg (show ¬ (112 : Int32) = 104 by decide), if_neg (show ¬ (112 : Int32) = 105 by decide), if_neg (show ¬ (112 : Int32) = 106 by decide), if_neg (show ¬ (112 : Int32) = 107 by decide), if_neg (show ¬ (112 : Int32) = 108 by decide), if_neg (show ¬ (112 : Int32) = 109 by decide), if_neg (show ¬ (112 : Int32) = 110 by decide), if_neg (show ¬ (112 : Int32) = 111 by decide), if_pos rfl]
    rfl
  by_cases e113 : x = 113
  · subst e113
    rw [show sh_val (sh_q n (h 6) (h 7) r i) 113 = sh_q n (h 6) (h 7) r i 6 by unfold sh_val; rw [if_neg (show ¬ (113 : Int32) = 99 by decide), if_neg (show ¬ (113 : Int32) = 107 by decide), if_neg (show ¬ (113 : Int32) = 112 by decide), if_neg (show ¬ (113 : Int32) = 114 by decide), if_neg (show ¬ (113 : Int32) = 115 by decide), if_neg (show ¬ (113 : Int32) = 118 by decide)]]
    rw [if_neg (show ¬ (113 : Int32) = 99 by decide), if_neg (show ¬ (113 : Int32) = 100 by decide), if_neg (show ¬ (113 : Int32) = 101 by decide), if_neg (show ¬ (113 : Int32) = 102 by decide), if_neg (show ¬ (113 : Int32) = 103 by decide), if_neg (show ¬ (113 : Int32) = 104 by decide), if_neg (show ¬ (113 : Int32) = 105 by decide), if_neg (show ¬ (113 : Int32) = 106 by decide), if_neg (show ¬ (113 : Int32) = 107 by decide), if_neg (show ¬ (113 : Int32) = 108 by decide), if_neg (show ¬ (113 : Int32) = 109 by decide), if_neg (show ¬ (113 : Int32) = 110 by decide), if_neg (show ¬ (113 : Int32) = 111 by decide), if_neg (show ¬ (113 : Int32) = 112 by decide), if_pos rfl]
    rfl
  by_cases e114 : x = 114
  · subst e114
    rw [show sh_val (sh_q n (h 6) (h 7) r i) 114 = sh_q n (h 6) (h 7) r i 2 by unfold sh_val; rw [if_neg (show ¬ (114 : Int32) = 99 by decide), if_neg (show ¬ (114 : Int32) = 107 by decide), if_neg (show ¬ (114 : Int32) = 112 by decide), if_pos rfl]]
    rw [if_neg (show ¬ (114 : Int32) = 99 by decide), if_neg (show ¬ (114 : Int32) = 100 by decide), if_neg (show ¬ (114 : Int32) = 101 by decide), if_neg (show ¬ (114 : Int32) = 102 by decide), if_neg (show ¬ (114 : Int32) = 103 by decide), if_neg (show ¬ (114 : Int32) = 104 by decide), if_neg (show ¬ (114 : Int32) = 105 by decide), if_neg (show ¬ (114 : Int32) = 106 by decide), if_neg (show ¬ (114 : Int32) = 107 by decide), if_neg (show ¬ (114 : Int32) = 108 by decide), if_neg (show ¬ (114 : Int32) = 109 by decide), if_neg (show ¬ (114 : Int32) = 110 by decide), if_neg (show ¬ (114 : Int32) = 111 by decide), if_neg (show ¬ (114 : Int32) = 112 by decide), if_neg (show ¬ (114 : Int32) = 113 by decide), if_pos rfl]
    rfl
  by_cases e115 : x = 115
  · subst e115
    rw [show sh_val (sh_q n (h 6) (h 7) r i) 115 = sh_q n (h 6) (h 7) r i 1 by unfold sh_val; rw [if_neg (show ¬ (115 : Int32) = 99 by decide), if_neg (show ¬ (115 : Int32) = 107 by decide), if_neg (show ¬ (115 : Int32) = 112 by decide), if_neg (show ¬ (115 : Int32) = 114 by decide), if_pos rfl]]
    rw [if_neg (show ¬ (115 : Int32) = 99 by decide), if_neg (show ¬ (115 : Int32) = 100 by decide), if_neg (show ¬ (115 : Int32) = 101 by decide), if_neg (show ¬ (115 : Int32) = 102 by decide), if_neg (show ¬ (115 : Int32) = 103 by decide), if_neg (show ¬ (115 : Int32) = 104 by decide), if_neg (show ¬ (115 : Int32) = 105 by decide), if_neg (show ¬ (115 : Int32) = 106 by decide), if_neg (show ¬ (115 : Int32) = 107 by decide), if_neg (show ¬ (115 : Int32) = 108 by decide), if_neg (show ¬ (115 : Int32) = 109 by decide), if_neg (show ¬ (115 : Int32) = 110 by decide), if_neg (show ¬ (115 : Int32) = 111 by decide), if_neg (show ¬ (115 : Int32) = 112 by decide), if_neg (show ¬ (115 : Int32) = 113 by decide), if_neg (show ¬ (115 : Int32) = 114 by decide), if_pos rfl]
    rfl
  by_cases e116 : x = 116
  · subst e116
    rw [show sh_val (sh_q n (h 6) (h 7) r i) 116 = sh_q n (h 6) (h 7) r i 6 by unfold sh_val; rw [if_neg (show ¬ (116 : Int32) = 99 by decide), if_neg (show ¬ (116 : Int32) = 107 by decide), if_neg (show ¬ (116 : Int32) = 112 by decide), if_neg (show ¬ (116 : Int32) = 114 by decide), if_neg (show ¬ (116 : Int32) = 115 by decide), if_neg (show ¬ (116 : Int32) = 118 by decide)]]
    rw [if_neg (show ¬ (116 : Int32) = 99 by decide), if_neg (show ¬ (116 : Int32) = 100 by decide), if_neg (show ¬ (116 : Int32) = 101 by decide), if_neg (show ¬ (116 : Int32) = 102 by decide), if_neg (show ¬ (116 : Int32) = 103 by decide), if_neg (show ¬ (116 : Int32) = 104 by decide), if_neg (show ¬ (116 : Int32) = 105 by decide), if_neg (show ¬ (116 : Int32) = 106 by decide), if_neg (show ¬ (116 : Int32) = 107 by decide), if_neg (show ¬ (116 : Int32) = 108 by decide), if_neg (show ¬ (116 : Int32) = 109 by decide), if_neg (show ¬ (116 : Int32) = 110 by decide), if_neg (show ¬ (116 : Int32) = 111 by decide), if_neg (show ¬ (116 : Int32) = 112 by decide), if_neg (show ¬ (116 : Int32) = 113 by decide), if_neg (show ¬ (116 : Int32) = 114 by decide), if_neg (show ¬ (116 : Int32) = 115 by decide), if_pos rfl]
    rfl
  by_cases e117 : x = 117
  · subst e117
    rw [show sh_val (sh_q n (h 6) (h 7) r i) 117 = sh_q n (h 6) (h 7) r i 6 by unfold sh_val; rw [if_neg (show ¬ (117 : Int32) = 99 by decide), if_neg (show ¬ (117 : Int32) = 107 by decide), if_neg (show ¬ (117 : Int32) = 112 by decide), if_neg (show ¬ (117 : Int32) = 114 by decide), if_neg (show ¬ (117 : Int32) = 115 by decide), if_neg (show ¬ (117 : Int32) = 118 by decide)]]
    rw [if_neg (show ¬ (117 : Int32) = 99 by decide), if_neg (show ¬ (117 : Int32) = 100 by decide), if_neg (show ¬ (117 : Int32) = 101 by decide), if_neg (show ¬ (117 : Int32) = 102 by decide), if_neg (show ¬ (117 : Int32) = 103 by decide), if_neg (show ¬ (117 : Int32) = 104 by decide), if_neg (show ¬ (117 : Int32) = 105 by decide), if_neg (show ¬ (117 : Int32) = 106 by decide), if_neg (show ¬ (117 : Int32) = 107 by decide), if_neg (show ¬ (117 : Int32) = 108 by decide), if_neg (show ¬ (117 : Int32) = 109 by decide), if_neg (show ¬ (117 : Int32) = 110 by decide), if_neg (show ¬ (117 : Int32) = 111 by decide), if_neg (show ¬ (117 : Int32) = 112 by decide), if_neg (show ¬ (117 : Int32) = 113 by decide), if_neg (show ¬ (117 : Int32) = 114 by decide), if_neg (show ¬ (117 : Int32) = 115 by decide), if_neg (show ¬ (117 : Int32) = 116 by decide), if_pos rfl]
    rfl
  by_cases e118 : x = 118
  · subst e118
    rw [show sh_val (sh_q n (h 6) (h 7) r i) 118 = sh_q n (h 6) (h 7) r i 4 by unfold sh_val; rw [if_neg (show ¬ (118 : Int32) = 99 by decide), if_neg (show ¬ (118 : Int32) = 107 by decide), if_neg (show ¬ (118 : Int32) = 112 by decide), if_neg (show ¬ (118 : Int32) = 114 by decide), if_neg (show ¬ (118 : Int32) = 115 by decide), if_pos rfl]]
    rw [if_neg (show ¬ (118 : Int32) = 99 by decide), if_neg (show ¬ (118 : Int32) = 100 by decide), if_neg (show ¬ (118 : Int32) = 101 by decide), if_neg (show ¬ (118 : Int32) = 102 by decide), if_neg (show ¬ (118 : Int32) = 103 by decide), if_neg (show ¬ (118 : Int32) = 104 by decide), if_neg (show ¬ (118 : Int32) = 105 by decide), if_neg (show ¬ (118 : Int32) = 106 by decide), if_neg (show ¬ (118 : Int32) = 107 by decide), if_neg (show ¬ (118 : Int32) = 108 by decide), if_neg (show ¬ (118 : Int32) = 109 by decide), if_neg (show ¬ (118 : Int32) = 110 by decide), if_neg (show ¬ (118 : Int32) = 111 by decide), if_neg (show ¬ (118 : Int32) = 112 by decide), if_neg (show ¬ (118 : Int32) = 113 by decide), if_neg (show ¬ (118 : Int32) = 114 by decide), if_neg (show ¬ (118 : Int32) = 115 by decide), if_neg (show ¬ (118 : Int32) = 116 by decide), if_neg (show ¬ (118 : Int32) = 117 by decide), if_pos rfl]
    rfl
  have ev : sh_val (sh_q n (h 6) (h 7) r i) x = sh_q n (h 6) (h 7) r i 6 := by unfold sh_val; rw [if_neg e99, if_neg e107, if_neg e112, if_neg e114, if_neg e115, if_neg e118]
  rw [ev, if_neg e99, if_neg e100, if_neg e101, if_neg e102, if_neg e103, if_neg e104, if_neg e105, if_neg e106, if_neg e107, if_neg e108, if_neg e109, if_neg e110, if_neg e111, if_neg e112, if_neg e113, if_neg e114, if_neg e115, if_neg e116, if_neg e117, if_neg e118]
  rfl
theorem c_payOut5_l (d n : Nat) (H : Int32) (hn : n ≤ 7) : ∀ t k (h : av_M) (r : Nat → Int32) (x : Value), k + t = n → h 5 6 = nI n → sh_SV 5 h r → (x = .null ∨ ∃ y, x = .int y) →
    ∃ h', av_xp (d + 1) 44 7 [.ref 5, .int H, .int (nI k), x] [] h = some (0, 0, h') ∧ sh_fr [8, 11] h h' ∧ sh_SV 5 h' (sh_lp (sh_poF H) t k r) := by
  intro t
  induction t with
  | zero =>
    intro k h r x e hm hv hx
    refine ⟨h, ?_, sh_fr_refl _ _, hv⟩
    rcases hx with rfl | ⟨y, rfl⟩
    · rw [eX4_payOut_r5_7, hm, if_pos (sh_ge (by omega) (by omega))]
    · rw [eX4_payOut_r5_7_2, hm, if_pos (sh_ge (by omega) (by omega))]
  | succ t ih =>
    intro k h r x e hm hv hx
    have key : ∀ (h1 : av_M) (y : Value), (y = .null ∨ ∃ z, y = .int z) → sh_fr [8, 11] h h1 → sh_SV 5 h1 (sh_poF H k r) → ∃ h', av_xp (d + 1) 44 7 [.ref 5, .int H, .int (nI (k + 1)), y] [] h1 = some (0, 0, h') ∧ sh_fr [8, 11] h h' ∧ sh_SV 5 h' (sh_lp (sh_poF H) (t + 1) k r) := by
      intro h1 y hy hf hv1
      obtain ⟨h', e1, f1, v1⟩ := ih (k + 1) h1 _ y (by omega) (by rw [hf 5 (by decide)]; exact hm) hv1 hy
      exact ⟨h', e1, sh_fr_tr hf f1 (fun _ q => q), v1⟩
    have hR : h 8 k = r k := hv.1 k (by omega)
    have hT : h 9 k = r (7 + k) := hv.2.1 k (by omega)
    have hL : h 11 k = r (21 + k) := hv.2.2.2.1 k (by omega)
    have fin : ∃ h', (if sh_i (sh_b H k) = 0 then av_xp (d + 1) 44 7 [.ref 5, .int H, .int (nI (k + 1)), x] [] h else av_xp (d + 1) 44 7 [.ref 5, .int H, .int (nI (k + 1)), .int (av_min (r (7 + k)) (r k))] [] (av_u (av_u h 8 k (r k - av_min (r (7 + k)) (r k))) 11 k (av_min 9999 (r (21 + k) + av_min (r (7 + k)) (r k))))) = some (0, 0, h') ∧ sh_fr [8, 11] h h' ∧ sh_SV 5 h' (sh_lp (sh_poF H) (t + 1) k r) := by
      cases hb : sh_b H k
      · rw [if_pos (show sh_i false = 0 from rfl)]
        exact key h x hx (sh_fr_refl _ _) (by unfold sh_poF; rw [hb]; exact hv)
      · rw [if_neg (by decide)]
        exact key _ _ (Or.inr ⟨_, rfl⟩) (sh_fr_u (by decide) (sh_fr_u (by decide) (sh_fr_refl _ _))) (by unfold sh_poF; rw [hb]; exact sh_SV_po (by decide) (by decide) (by omega) hv)
    rcases hx with rfl | ⟨y, rfl⟩
    · rw [eX4_payOut_r5_7, hm, if_neg (sh_lt (by omega) (by omega)), c_isIn]
      simp only [Option.bind_some, sh_inb (show k < 7 by omega) (by decide), cond_true, nI_1, nI_clamp (show k < 2 ^ 31 by omega), hR, hT, hL]
      exact fin
    · rw [eX4_payOut_r5_7_2, hm, if_neg (sh_lt (by omega) (by omega)), c_isIn]
      simp only [Option.bind_some, sh_inb (show k < 7 by omega) (by decide), cond_true, nI_1, nI_clamp (show k < 2 ^ 31 by omega), hR, hT, hL]
      exact fin
theorem c_payOut5 (d n : Nat) (h : av_M) (r : Nat → Int32) (hn : n ≤ 7) (hm : h 5 6 = nI n) (he : h 5 7 = sh_e n) (hv : sh_SV 5 h r) :
    ∃ h', av_x (d + 2) 44 [.ref 5] h = some (0, 0, h') ∧ sh_fr [8, 11] h h' ∧ sh_SV 5 h' (sh_lp (sh_poF (sh_hd n r)) n 0 r) := by
  rw [eX4_payOut_r5_in, c_holding5 (d) n h r he hv]
  exact c_payOut5_l d n (sh_hd n r) hn n 0 h r .null (by omega) hm hv (Or.inl rfl)
theorem c_companions12_l (d n : Nat) (h : av_M) (lo : Int32) (i : Nat) (hi : i < 7) (hn : n ≤ 7) (hm : h 12 6 = nI n) : ∀ t k a, k + t = n → av_xp (d + 1) 37 15 [.ref 12, .int (nI i), .int lo, .int a, .int (nI k)] [] h = some (sh_lp (sh_cpF (h 13) lo i) t k a, 0, h) := by
  intro t
  induction t with
  | zero =>
    intro k a e
    rw [eX4_companions_r12_15, hm, if_pos (sh_ge (by omega) (by omega))]
    rfl
  | succ t ih =>
    intro k a e
    rw [eX4_companions_r12_15, hm, if_neg (sh_lt (by omega) (by omega))]
    simp only [sh_inb (show k < 7 by omega) (by decide), sh_inb hi (by decide), cond_true, nI_1, nI_clamp (show k < 2 ^ 31 by omega), nI_clamp (show i < 2 ^ 31 by omega), nI_eq (show k < 2 ^ 31 by omega) (show i < 2 ^ 31 by omega), c_isIn, Option.bind_some, sh_i0]
    by_cases h1 : k = i
    · rw [if_pos h1, ih (k + 1) _ (by omega)]
      simp [sh_lp, sh_cpF, h1]
    · rw [if_neg h1]
      by_cases h2 : h 13 k = h 13 i
      · rw [if_pos h2]
        cases hb : sh_b lo k
        · rw [if_pos rfl, ih (k + 1) _ (by omega)]
          simp [sh_lp, sh_cpF, h1, h2, hb]
        · rw [if_neg (by decide), ih (k + 1) _ (by omega)]
          simp [sh_lp, sh_cpF, h1, h2, hb]
      · rw [if_neg h2, ih (k + 1) _ (by omega)]
        simp [sh_lp, sh_cpF, h1, h2]
theorem c_companions12 (d n : Nat) (h : av_M) (r : Nat → Int32) (i : Nat) (hi : i < 7) (hn : n ≤ 7) (hm : h 12 6 = nI n) (hv : sh_SV 12 h r) : av_x (d + 2) 37 [.ref 12, .int (nI i)] h = some (sh_cp n (h 13) r i, 0, h) := by
  rw [eX4_companions_r12_in, hv.2.2.2.2.1, hv.2.2.2.2.2.1]
  exact c_companions12_l d n h _ i hi hn hm n 0 0 (by omega)
theorem c_valueOf12 (d n : Nat) (h : av_M) (r : Nat → Int32) (x : Int32) (i : Nat) (hi : i < 7) (hn : n ≤ 7) (hm : h 12 6 = nI n) (hv : sh_SV 12 h r) : av_x (d + 3) 24 [.int x, .ref 12, .int (nI i)] h = some (sh_val (sh_q n (h 13) (h 14) r i) x, 0, h) := by
  obtain ⟨v1, v2, v3, v4, v5, v6, v7, v8, v9⟩ := id hv
  have e12 : h 12 12 = r 32 := v9
  have e11 : h 12 11 = r 31 := v8
  have eP : h 17 i = r (14 + i) := v3 i hi
  have eR : h 15 i = r i := v1 i hi
  have eL : h 12 10 - h 17 i - h 18 i = sh_lk r i := by rw [show h 12 10 = r 30 from v7, eP, show h 18 i = r (21 + i) from v4 i hi]; rfl
  rw [eX3_valueOf_r12_in]
  simp only [c_companions12 d n h r i hi hn hm hv, c_lack12 _ h i hi, Option.bind_some, sh_inb hi (by decide), cond_true, nI_clamp (show i < 2 ^ 31 by omega), eL, e12, e11, eR]
  by_cases e99 : x = 99
  · subst e99
    rw [show sh_val (sh_q n (h 13) (h 14) r i) 99 = sh_q n (h 13) (h 14) r i 5 by unfold sh_val; rw [if_pos rfl]]
    rw [if_pos rfl]
    rfl
  by_cases e100 : x = 100
  · subst e100
    rw [show sh_val (sh_q n (h 13) (h 14) r i) 100 = sh_q n (h 13) (h 14) r i 6 by unfold sh_val; rw [if_neg (show ¬ (100 : Int32) = 99 by decide), if_neg (show ¬ (100 : Int32) = 107 by decide), if_neg (show ¬ (100 : Int32) = 112 by decide), if_neg (show ¬ (100 : Int32) = 114 by decide), if_neg (show ¬ (100 : Int32) = 115 by decide), if_neg (show ¬ (100 : Int32) = 118 by decide)]]
    rw [if_neg (show ¬ (100 : Int32) = 99 by decide), if_pos rfl]
    rfl
  by_cases e101 : x = 101
  · subst e101
    rw [show sh_val (sh_q n (h 13) (h 14) r i) 101 = sh_q n (h 13) (h 14) r i 6 by unfold sh_val; rw [if_neg (show ¬ (101 : Int32) = 99 by decide), if_neg (show ¬ (101 : Int32) = 107 by decide), if_neg (show ¬ (101 : Int32) = 112 by decide), if_neg (show ¬ (101 : Int32) = 114 by decide), if_neg (show ¬ (101 : Int32) = 115 by decide), if_neg (show ¬ (101 : Int32) = 118 by decide)]]
    rw [if_neg (show ¬ (101 : Int32) = 99 by decide), if_neg (show ¬ (101 : Int32) = 100 by decide), if_pos rfl]
    rfl
  by_cases e102 : x = 102
  · subst e102
    rw [show sh_val (sh_q n (h 13) (h 14) r i) 102 = sh_q n (h 13) (h 14) r i 6 by unfold sh_val; rw [if_neg (show ¬ (102 : Int32) = 99 by decide), if_neg (show ¬ (102 : Int32) = 107 by decide), if_neg (show ¬ (102 : Int32) = 112 by decide), if_neg (show ¬ (102 : Int32) = 114 by decide), if_neg (show ¬ (102 : Int32) = 115 by decide), if_neg (show ¬ (102 : Int32) = 118 by decide)]]
    rw [if_neg (show ¬ (102 : Int32) = 99 by decide), if_neg (show ¬ (102 : Int32) = 100 by decide), if_neg (show ¬ (102 : Int32) = 101 by decide), if_pos rfl]
    rfl
  by_cases e103 : x = 103
  · subst e103
    rw [show sh_val (sh_q n (h 13) (h 14) r i) 103 = sh_q n (h 13) (h 14) r i 6 by unfold sh_val; rw [if_neg (show ¬ (103 : Int32) = 99 by decide), if_neg (show ¬ (103 : Int32) = 107 by decide), if_neg (show ¬ (103 : Int32) = 112 by decide), if_neg (show ¬ (103 : Int32) = 114 by decide), if_neg (show ¬ (103 : Int32) = 115 by decide), if_neg (show ¬ (103 : Int32) = 118 by decide)]]
    rw [if_neg (show ¬ (103 : Int32) = 99 by decide), if_neg (show ¬ (103 : Int32) = 100 by decide), if_neg (show ¬ (103 : Int32) = 101 by decide), if_neg (show ¬ (103 : Int32) = 102 by decide), if_pos rfl]
    rfl
  by_cases e104 : x = 104
  · subst e104
    rw [show sh_val (sh_q n (h 13) (h 14) r i) 104 = sh_q n (h 13) (h 14) r i 6 by unfold sh_val; rw [if_neg (show ¬ (104 : Int32) = 99 by decide), if_neg (show ¬ (104 : Int32) = 107 by decide), if_neg (show ¬ (104 : Int32) = 112 by decide), if_neg (show ¬ (104 : Int32) = 114 by decide), if_neg (show ¬ (104 : Int32) = 115 by decide), if_neg (show ¬ (104 : Int32) = 118 by decide)]]
    rw [if_neg (show ¬ (104 : Int32) = 99 by decide), if_neg (show ¬ (104 : Int32) = 100 by decide), if_neg (show ¬ (104 : Int32) = 101 by decide), if_neg (show ¬ (104 : Int32) = 102 by decide), if_neg (show ¬ (104 : Int32) = 103 by decide), if_pos rfl]
    rfl
  by_cases e105 : x = 105
  · subst e105
    rw [show sh_val (sh_q n (h 13) (h 14) r i) 105 = sh_q n (h 13) (h 14) r i 6 by unfold sh_val; rw [if_neg (show ¬ (105 : Int32) = 99 by decide), if_neg (show ¬ (105 : Int32) = 107 by decide), if_neg (show ¬ (105 : Int32) = 112 by decide), if_neg (show ¬ (105 : Int32) = 114 by decide), if_neg (show ¬ (105 : Int32) = 115 by decide), if_neg (show ¬ (105 : Int32) = 118 by decide)]]
    rw [if_neg (show ¬ (105 : Int32) = 99 by decide), if_neg (show ¬ (105 : Int32) = 100 by decide), if_neg (show ¬ (105 : Int32) = 101 by decide), if_neg (show ¬ (105 : Int32) = 102 by decide), if_neg (show ¬ (105 : Int32) = 103 by decide), if_neg (show ¬ (105 : Int32) = 104 by decide), if_pos rfl]
    rfl
  by_cases e106 : x = 106
  · subst e106
    rw [show sh_val (sh_q n (h 13) (h 14) r i) 106 = sh_q n (h 13) (h 14) r i 6 by unfold sh_val; rw [if_neg (show ¬ (106 : Int32) = 99 by decide), if_neg (show ¬ (106 : Int32) = 107 by decide), if_neg (show ¬ (106 : Int32) = 112 by decide), if_neg (show ¬ (106 : Int32) = 114 by decide), if_neg (show ¬ (106 : Int32) = 115 by decide), if_neg (show ¬ (106 : Int32) = 118 by decide)]]
    rw [if_neg (show ¬ (106 : Int32) = 99 by decide), if_neg (show ¬ (106 : Int32) = 100 by decide), if_neg (show ¬ (106 : Int32) = 101 by decide), if_neg (show ¬ (106 : Int32) = 102 by decide), if_neg (show ¬ (106 : Int32) = 103 by decide), if_neg (show ¬ (106 : Int32) = 104 by decide), if_neg (show ¬ (106 : Int32) = 105 by decide), if_pos rfl]
    rfl
  by_cases e107 : x = 107
  · subst e107
    rw [show sh_val (sh_q n (h 13) (h 14) r i) 107 = sh_q n (h 13) (h 14) r i 0 by unfold sh_val; rw [if_neg (show ¬ (107 : Int32) = 99 by decide), if_pos rfl]]
    rw [if_neg (show ¬ (107 : Int32) = 99 by decide), if_neg (show ¬ (107 : Int32) = 100 by decide), if_neg (show ¬ (107 : Int32) = 101 by decide), if_neg (show ¬ (107 : Int32) = 102 by decide), if_neg (show ¬ (107 : Int32) = 103 by decide), if_neg (show ¬ (107 : Int32) = 104 by decide), if_neg (show ¬ (107 : Int32) = 105 by decide), if_neg (show ¬ (107 : Int32) = 106 by decide), if_pos rfl]
    rfl
  by_cases e108 : x = 108
  · subst e108
    rw [show sh_val (sh_q n (h 13) (h 14) r i) 108 = sh_q n (h 13) (h 14) r i 6 by unfold sh_val; rw [if_neg (show ¬ (108 : Int32) = 99 by decide), if_neg (show ¬ (108 : Int32) = 107 by decide), if_neg (show ¬ (108 : Int32) = 112 by decide), if_neg (show ¬ (108 : Int32) = 114 by decide), if_neg (show ¬ (108 : Int32) = 115 by decide), if_neg (show ¬ (108 : Int32) = 118 by decide)]]
    rw [if_neg (show ¬ (108 : Int32) = 99 by decide), if_neg (show ¬ (108 : Int32) = 100 by decide), if_neg (show ¬ (108 : Int32) = 101 by decide), if_neg (show ¬ (108 : Int32) = 102 by decide), if_neg (show ¬ (108 : Int32) = 103 by decide), if_neg (show ¬ (108 : Int32) = 104 by decide), if_neg (show ¬ (108 : Int32) = 105 by decide), if_neg (show ¬ (108 : Int32) = 106 by decide), if_neg (show ¬ (108 : Int32) = 107 by decide), if_pos rfl]
    rfl
  by_cases e109 : x = 109
  · subst e109
    rw [show sh_val (sh_q n (h 13) (h 14) r i) 109 = sh_q n (h 13) (h 14) r i 6 by unfold sh_val; rw [if_neg (show ¬ (109 : Int32) = 99 by decide), if_neg (show ¬ (109 : Int32) = 107 by decide), if_neg (show ¬ (109 : Int32) = 112 by decide), if_neg (show ¬ (109 : Int32) = 114 by decide), if_neg (show ¬ (109 : Int32) = 115 by decide), if_neg (show ¬ (109 : Int32) = 118 by decide)]]
    rw [if_neg (show ¬ (109 : Int32) = 99 by decide), if_neg (show ¬ (109 : Int32) = 100 by decide), if_neg (show ¬ (109 : Int32) = 101 by decide), if_neg (show ¬ (109 : Int32) = 102 by decide), if_neg (show ¬ (109 : Int32) = 103 by decide), if_neg (show ¬ (109 : Int32) = 104 by decide), if_neg (show ¬ (109 : Int32) = 105 by decide), if_neg (show ¬ (109 : Int32) = 106 by decide), if_neg (show ¬ (109 : Int32) = 107 by decide), if_neg (show ¬ (109 : Int32) = 108 by decide), if_pos rfl]
    rfl
  by_cases e110 : x = 110
  · subst e110
    rw [show sh_val (sh_q n (h 13) (h 14) r i) 110 = sh_q n (h 13) (h 14) r i 6 by unfold sh_val; rw [if_neg (show ¬ (110 : Int32) = 99 by decide), if_neg (show ¬ (110 : Int32) = 107 by decide), if_neg (show ¬ (110 : Int32) = 112 by decide), if_neg (show ¬ (110 : Int32) = 114 by decide), if_neg (show ¬ (110 : Int32) = 115 by decide), if_neg (show ¬ (110 : Int32) = 118 by decide)]]
    rw [if_neg (show ¬ (110 : Int32) = 99 by decide), if_neg (show ¬ (110 : Int32) = 100 by decide), if_neg (show ¬ (110 : Int32) = 101 by decide), if_neg (show ¬ (110 : Int32) = 102 by decide), if_neg (show ¬ (110 : Int32) = 103 by decide), if_neg (show ¬ (110 : Int32) = 104 by decide), if_neg (show ¬ (110 : Int32) = 105 by decide), if_neg (show ¬ (110 : Int32) = 106 by decide), if_neg (show ¬ (110 : Int32) = 107 by decide), if_neg (show ¬ (110 : Int32) = 108 by decide), if_neg (show ¬ (110 : Int32) = 109 by decide), if_pos rfl]
    rfl
  by_cases e111 : x = 111
  · subst e111
    rw [show sh_val (sh_q n (h 13) (h 14) r i) 111 = sh_q n (h 13) (h 14) r i 6 by unfold sh_val; rw [if_neg (show ¬ (111 : Int32) = 99 by decide), if_neg (show ¬ (111 : Int32) = 107 by decide), if_neg (show ¬ (111 : Int32) = 112 by decide), if_neg (show ¬ (111 : Int32) = 114 by decide), if_neg (show ¬ (111 : Int32) = 115 by decide), if_neg (show ¬ (111 : Int32) = 118 by decide)]]
    rw [if_neg (show ¬ (111 : Int32) = 99 by decide), if_neg (show ¬ (111 : Int32) = 100 by decide), if_neg (show ¬ (111 : Int32) = 101 by decide), if_neg (show ¬ (111 : Int32) = 102 by decide), if_neg (show ¬ (111 : Int32) = 103 by decide), if_neg (show ¬ (111 : Int32) = 104 by decide), if_neg (show ¬ (111 : Int32) = 105 by decide), if_neg (show ¬ (111 : Int32) = 106 by decide), if_neg (show ¬ (111 : Int32) = 107 by decide), if_neg (show ¬ (111 : Int32) = 108 by decide), if_neg (show ¬ (111 : Int32) = 109 by decide), if_neg (show ¬ (111 : Int32) = 110 by decide), if_pos rfl]
    rfl
  by_cases e112 : x = 112
  · subst e112
    rw [show sh_val (sh_q n (h 13) (h 14) r i) 112 = sh_q n (h 13) (h 14) r i 3 by unfold sh_val; rw [if_neg (show ¬ (112 : Int32) = 99 by decide), if_neg (show ¬ (112 : Int32) = 107 by decide), if_pos rfl], eP]
    rw [if_neg (show ¬ (112 : Int32) = 99 by decide), if_neg (show ¬ (112 : Int32) = 100 by decide), if_neg (show ¬ (112 : Int32) = 101 by decide), if_neg (show ¬ (112 : Int32) = 102 by decide), if_neg (show ¬ (112 : Int32) = 103 by decide), if_neg (show ¬ (112 : Int32) = 104 by decide), if_neg (show ¬ (112 : Int32) = 105 by decide), if_neg (show ¬ (112 : Int32) = 106 by decide), if_neg (show ¬ (112 : Int32) = 107 by decide), if_neg (show ¬ (112 : Int32) = 108 by decide), if_neg (show ¬ (112 : Int32) = 109 by decide), if_neg (show ¬ (112 : Int32) = 110 by decide), if_neg (show ¬ (112 : Int32) = 111 by decide), if_pos rfl]
    rfl
  by_cases e113 : x = 113
  · subst e113
    rw [show sh_val (sh_q n (h 13) (h 14) r i) 113 = sh_q n (h 13) (h 14) r i 6 by unfold sh_val; rw [if_neg (show ¬ (113 : Int32) = 99 by decide), if_neg (show ¬ (113 : Int32) = 107 by decide), if_neg (show ¬ (113 : Int32) = 112 by decide), if_neg (show ¬ (113 : Int32) = 114 by decide), if_neg (show ¬ (113 : Int32) = 115 by decide), if_neg (show ¬ (113 : Int32) = 118 by decide)]]
    rw [if_neg (show ¬ (113 : Int32) = 99 by decide), if_neg (show ¬ (113 : Int32) = 100 by decide), if_neg (show ¬ (113 : Int32) = 101 by decide), if_neg (show ¬ (113 : Int32) = 102 by decide), if_neg (show ¬ (113 : Int32) = 103 by decide), if_neg (show ¬ (113 : Int32) = 104 by decide), if_neg (show ¬ (113 : Int32) = 105 by decide), if_neg (show ¬ (113 : Int32) = 106 by decide), if_neg (show ¬ (113 : Int32) = 107 by decide), if_neg (show ¬ (113 : Int32) = 108 by decide), if_neg (show ¬ (113 : Int32) = 109 by decide), if_neg (show ¬ (113 : Int32) = 110 by decide), if_neg (show ¬ (113 : Int32) = 111 by decide), if_neg (show ¬ (113 : Int32) = 112 by decide), if_pos rfl]
    rfl
  by_cases e114 : x = 114
  · subst e114
    rw [show sh_val (sh_q n (h 13) (h 14) r i) 114 = sh_q n (h 13) (h 14) r i 2 by unfold sh_val; rw [if_neg (show ¬ (114 : Int32) = 99 by decide), if_neg (show ¬ (114 : Int32) = 107 by decide), if_neg (show ¬ (114 : Int32) = 112 by decide), if_pos rfl]]
    rw [if_neg (show ¬ (114 : Int32) = 99 by decide), if_neg (show ¬ (114 : Int32) = 100 by decide), if_neg (show ¬ (114 : Int32) = 101 by decide), if_neg (show ¬ (114 : Int32) = 102 by decide), if_neg (show ¬ (114 : Int32) = 103 by decide), if_neg (show ¬ (114 : Int32) = 104 by decide), if_neg (show ¬ (114 : Int32) = 105 by decide), if_neg (show ¬ (114 : Int32) = 106 by decide), if_neg (show ¬ (114 : Int32) = 107 by decide), if_neg (show ¬ (114 : Int32) = 108 by decide), if_neg (show ¬ (114 : Int32) = 109 by decide), if_neg (show ¬ (114 : Int32) = 110 by decide), if_neg (show ¬ (114 : Int32) = 111 by decide), if_neg (show ¬ (114 : Int32) = 112 by decide), if_neg (show ¬ (114 : Int32) = 113 by decide), if_pos rfl]
    rfl
  by_cases e115 : x = 115
  · subst e115
    rw [show sh_val (sh_q n (h 13) (h 14) r i) 115 = sh_q n (h 13) (h 14) r i 1 by unfold sh_val; rw [if_neg (show ¬ (115 : Int32) = 99 by decide), if_neg (show ¬ (115 : Int32) = 107 by decide), if_neg (show ¬ (115 : Int32) = 112 by decide), if_neg (show ¬ (115 : Int32) = 114 by decide), if_pos rfl]]
    rw [if_neg (show ¬ (115 : Int32) = 99 by decide), if_neg (show ¬ (115 : Int32) = 100 by decide), if_neg (show ¬ (115 : Int32) = 101 by decide), if_neg (show ¬ (115 : Int32) = 102 by decide), if_neg (show ¬ (115 : Int32) = 103 by decide), if_neg (show ¬ (115 : Int32) = 104 by decide), if_neg (show ¬ (115 : Int32) = 105 by decide), if_neg (show ¬ (115 : Int32) = 106 by decide), if_neg (show ¬ (115 : Int32) = 107 by decide), if_neg (show ¬ (115 : Int32) = 108 by decide), if_neg (show ¬ (115 : Int32) = 109 by decide), if_neg (show ¬ (115 : Int32) = 110 by decide), if_neg (show ¬ (115 : Int32) = 111 by decide), if_neg (show ¬ (115 : Int32) = 112 by decide), if_neg (show ¬ (115 : Int32) = 113 by decide), if_neg (show ¬ (115 : Int32) = 114 by decide), if_pos rfl]
    rfl
  by_cases e116 : x = 116
  · subst e116
    rw [show sh_val (sh_q n (h 13) (h 14) r i) 116 = sh_q n (h 13) (h 14) r i 6 by unfold sh_val; rw [if_neg (show ¬ (116 : Int32) = 99 by decide), if_neg (show ¬ (116 : Int32) = 107 by decide), if_neg (show ¬ (116 : Int32) = 112 by decide), if_neg (show ¬ (116 : Int32) = 114 by decide), if_neg (show ¬ (116 : Int32) = 115 by decide), if_neg (show ¬ (116 : Int32) = 118 by decide)]]
    rw [if_neg (show ¬ (116 : Int32) = 99 by decide), if_neg (show ¬ (116 : Int32) = 100 by decide), if_neg (show ¬ (116 : Int32) = 101 by decide), if_neg (show ¬ (116 : Int32) = 102 by decide), if_neg (show ¬ (116 : Int32) = 103 by decide), if_neg (show ¬ (116 : Int32) = 104 by decide), if_neg (show ¬ (116 : Int32) = 105 by decide), if_neg (show ¬ (116 : Int32) = 106 by decide), if_neg (show ¬ (116 : Int32) = 107 by decide), if_neg (show ¬ (116 : Int32) = 108 by decide), if_neg (show ¬ (116 : Int32) = 109 by decide), if_neg (show ¬ (116 : Int32) = 110 by decide), if_neg (show ¬ (116 : Int32) = 111 by decide), if_neg (show ¬ (116 : Int32) = 112 by decide), if_neg (show ¬ (116 : Int32) = 113 by decide), if_neg (show ¬ (116 : Int32) = 114 by decide), if_neg (show ¬ (116 : Int32) = 115 by decide), if_pos rfl]
    rfl
  by_cases e117 : x = 117
  · subst e117
    rw [show sh_val (sh_q n (h 13) (h 14) r i) 117 = sh_q n (h 13) (h 14) r i 6 by unfold sh_val; rw [if_neg (show ¬ (117 : Int32) = 99 by decide), if_neg (show ¬ (117 : Int32) = 107 by decide), if_neg (show ¬ (117 : Int32) = 112 by decide), if_neg (show ¬ (117 : Int32) = 114 by decide), if_neg (show ¬ (117 : Int32) = 115 by decide), if_neg (show ¬ (117 : Int32) = 118 by decide)]]
    rw [if_neg (show ¬ (117 : Int32) = 99 by decide), if_neg (show ¬ (117 : Int32) = 100 by decide), if_neg (show ¬ (117 : Int32) = 101 by decide), if_neg (show ¬ (117 : Int32) = 102 by decide), if_neg (show ¬ (117 : Int32) = 103 by decide), if_neg (show ¬ (117 : Int32) = 104 by decide), if_neg (show ¬ (117 : Int32) = 105 by decide), if_neg (show ¬ (117 : Int32) = 106 by decide), if_neg (show ¬ (117 : Int32) = 107 by decide), if_neg (show ¬ (117 : Int32) = 108 by decide), if_neg (show ¬ (117 : Int32) = 109 by decide), if_neg (show ¬ (117 : Int32) = 110 by decide), if_neg (show ¬ (117 : Int32) = 111 by decide), if_neg (show ¬ (117 : Int32) = 112 by decide), if_neg (show ¬ (117 : Int32) = 113 by decide), if_neg (show ¬ (117 : Int32) = 114 by decide), if_neg (show ¬ (117 : Int32) = 115 by decide), if_neg (show ¬ (117 : Int32) = 116 by decide), if_pos rfl]
    rfl
  by_cases e118 : x = 118
  · subst e118
    rw [show sh_val (sh_q n (h 13) (h 14) r i) 118 = sh_q n (h 13) (h 14) r i 4 by unfold sh_val; rw [if_neg (show ¬ (118 : Int32) = 99 by decide), if_neg (show ¬ (118 : Int32) = 107 by decide), if_neg (show ¬ (118 : Int32) = 112 by decide), if_neg (show ¬ (118 : Int32) = 114 by decide), if_neg (show ¬ (118 : Int32) = 115 by decide), if_pos rfl]]
    rw [if_neg (show ¬ (118 : Int32) = 99 by decide), if_neg (show ¬ (118 : Int32) = 100 by decide), if_neg (show ¬ (118 : Int32) = 101 by decide), if_neg (show ¬ (118 : Int32) = 102 by decide), if_neg (show ¬ (118 : Int32) = 103 by decide), if_neg (show ¬ (118 : Int32) = 104 by decide), if_neg (show ¬ (118 : Int32) = 105 by decide), if_neg (show ¬ (118 : Int32) = 106 by decide), if_neg (show ¬ (118 : Int32) = 107 by decide), if_neg (show ¬ (118 : Int32) = 108 by decide), if_neg (show ¬ (118 : Int32) = 109 by decide), if_neg (show ¬ (118 : Int32) = 110 by decide), if_neg (show ¬ (118 : Int32) = 111 by decide), if_neg (show ¬ (118 : Int32) = 112 by decide), if_neg (show ¬ (118 : Int32) = 113 by decide), if_neg (show ¬ (118 : Int32) = 114 by decide), if_neg (show ¬ (118 : Int32) = 115 by decide), if_neg (show ¬ (118 : Int32) = 116 by decide), if_neg (show ¬ (118 : Int32) = 117 by decide), if_pos rfl]
    rfl
  have ev : sh_val (sh_q n (h 13) (h 14) r i) x = sh_q n (h 13) (h 14) r i 6 := by unfold sh_val; rw [if_neg e99, if_neg e107, if_neg e112, if_neg e114, if_neg e115, if_neg e118]
  rw [ev, if_neg e99, if_neg e100, if_neg e101, if_neg e102, if_neg e103, if_neg e104, if_neg e105, if_neg e106, if_neg e107, if_neg e108, if_neg e109, if_neg e110, if_neg e111, if_neg e112, if_neg e113, if_neg e114, if_neg e115, if_neg e116, if_neg e117, if_neg e118]
  rfl
theorem c_payOut12_l (d n : Nat) (H : Int32) (hn : n ≤ 7) : ∀ t k (h : av_M) (r : Nat → Int32) (x : Value), k + t = n → h 12 6 = nI n → sh_SV 12 h r → (x = .null ∨ ∃ y, x = .int y) →
    ∃ h', av_xp (d + 1) 44 7 [.ref 12, .int H, .int (nI k), x] [] h = some (0, 0, h') ∧ sh_fr [15, 18] h h' ∧ sh_SV 12 h' (sh_lp (sh_poF H) t k r) := by
  intro t
  induction t with
  | zero =>
    intro k h r x e hm hv hx
    refine ⟨h, ?_, sh_fr_refl _ _, hv⟩
    rcases hx with rfl | ⟨y, rfl⟩
    · rw [eX4_payOut_r12_7, hm, if_pos (sh_ge (by omega) (by omega))]
    · rw [eX4_payOut_r12_7_2, hm, if_pos (sh_ge (by omega) (by omega))]
  | succ t ih =>
    intro k h r x e hm hv hx
    have key : ∀ (h1 : av_M) (y : Value), (y = .null ∨ ∃ z, y = .int z) → sh_fr [15, 18] h h1 → sh_SV 12 h1 (sh_poF H k r) → ∃ h', av_xp (d + 1) 44 7 [.ref 12, .int H, .int (nI (k + 1)), y] [] h1 = some (0, 0, h') ∧ sh_fr [15, 18] h h' ∧ sh_SV 12 h' (sh_lp (sh_poF H) (t + 1) k r) := by
      intro h1 y hy hf hv1
      obtain ⟨h', e1, f1, v1⟩ := ih (k + 1) h1 _ y (by omega) (by rw [hf 12 (by decide)]; exact hm) hv1 hy
      exact ⟨h', e1, sh_fr_tr hf f1 (fun _ q => q), v1⟩
    have hR : h 15 k = r k := hv.1 k (by omega)
    have hT : h 16 k = r (7 + k) := hv.2.1 k (by omega)
    have hL : h 18 k = r (21 + k) := hv.2.2.2.1 k (by omega)
    have fin : ∃ h', (if sh_i (sh_b H k) = 0 then av_xp (d + 1) 44 7 [.ref 12, .int H, .int (nI (k + 1)), x] [] h else av_xp (d + 1) 44 7 [.ref 12, .int H, .int (nI (k + 1)), .int (av_min (r (7 + k)) (r k))] [] (av_u (av_u h 15 k (r k - av_min (r (7 + k)) (r k))) 18 k (av_min 9999 (r (21 + k) + av_min (r (7 + k)) (r k))))) = some (0, 0, h') ∧ sh_fr [15, 18] h h' ∧ sh_SV 12 h' (sh_lp (sh_poF H) (t + 1) k r) := by
      cases hb : sh_b H k
      · rw [if_pos (show sh_i false = 0 from rfl)]
        exact key h x hx (sh_fr_refl _ _) (by unfold sh_poF; rw [hb]; exact hv)
      · rw [if_neg (by decide)]
        exact key _ _ (Or.inr ⟨_, rfl⟩) (sh_fr_u (by decide) (sh_fr_u (by decide) (sh_fr_refl _ _))) (by unfold sh_poF; rw [hb]; exact sh_SV_po (by decide) (by decide) (by omega) hv)
    rcases hx with rfl | ⟨y, rfl⟩
    · rw [eX4_payOut_r12_7, hm, if_neg (sh_lt (by omega) (by omega)), c_isIn]
      simp only [Option.bind_some, sh_inb (show k < 7 by omega) (by decide), cond_true, nI_1, nI_clamp (show k < 2 ^ 31 by omega), hR, hT, hL]
      exact fin
    · rw [eX4_payOut_r12_7_2, hm, if_neg (sh_lt (by omega) (by omega)), c_isIn]
      simp only [Option.bind_some, sh_inb (show k < 7 by omega) (by decide), cond_true, nI_1, nI_clamp (show k < 2 ^ 31 by omega), hR, hT, hL]
      exact fin
theorem c_payOut12 (d n : Nat) (h : av_M) (r : Nat → Int32) (hn : n ≤ 7) (hm : h 12 6 = nI n) (he : h 12 7 = sh_e n) (hv : sh_SV 12 h r) :
    ∃ h', av_x (d + 2) 44 [.ref 12] h = some (0, 0, h') ∧ sh_fr [15, 18] h h' ∧ sh_SV 12 h' (sh_lp (sh_poF (sh_hd n r)) n 0 r) := by
  rw [eX4_payOut_r12_in, c_holding12 (d) n h r he hv]
  exact c_payOut12_l d n (sh_hd n r) hn n 0 h r .null (by omega) hm hv (Or.inl rfl)

theorem c_pull195_l (d n m : Nat) (h0 : av_M) (r : Nat → Int32) (i : Nat) (hi : i < 7) (hn : n ≤ 7) (hm : h0 5 6 = nI n) (hv : sh_SV 5 h0 r) (hmm : m ≤ 40) (hsz : h0 19 3 = nI m) :
    ∀ t k (z : Nat × (Nat → Int32)) (x5 : Value), k + t = m → z.1 ≤ 40 → (x5 = .null ∨ ∃ y, x5 = .int y) →
      av_xp (d + 3) 23 5 [.ref 19, .ref 5, .int (nI i), .int (nI z.1), .int (nI k), x5] [] (sh_r h0 22 z.2) = some (av_max (-99) (av_min 99 ((sh_lp (sh_stp (h0 20) (sh_q n (h0 6) (h0 7) r i)) t k z).2 0)), 0, sh_r h0 22 (sh_lp (sh_stp (h0 20) (sh_q n (h0 6) (h0 7) r i)) t k z).2) := by
  intro t
  induction t with
  | zero =>
    intro k z x5 e hz hx
    have hk : k = m := by omega
    subst hk
    rcases hx with rfl | ⟨y, rfl⟩
    · rw [eX3_pull_r19_r5_5, show sh_r h0 22 z.2 19 3 = nI k from hsz, if_pos (sh_ge (by omega) (by omega)), eX6_within_in]
      rfl
    · rw [eX3_pull_r19_r5_5_2, show sh_r h0 22 z.2 19 3 = nI k from hsz, if_pos (sh_ge (by omega) (by omega)), eX6_within_in]
      rfl
  | succ t ih =>
    intro k z x5 e hz hx
    have hv' : sh_SV 5 (sh_r h0 22 z.2) r := hv
    have go : ∀ (z' : Nat × (Nat → Int32)), z'.1 ≤ 40 → z' = sh_stp (h0 20) (sh_q n (h0 6) (h0 7) r i) k z →
        av_xp (d + 3) 23 147 [.ref 19, .ref 5, .int (nI i), .int (nI z'.1), .int (nI k), .int (h0 20 k - 1000)] [] (sh_r h0 22 z'.2) = some (av_max (-99) (av_min 99 ((sh_lp (sh_stp (h0 20) (sh_q n (h0 6) (h0 7) r i)) (t + 1) k z).2 0)), 0, sh_r h0 22 (sh_lp (sh_stp (h0 20) (sh_q n (h0 6) (h0 7) r i)) (t + 1) k z).2) := by
      intro z' hz' ez
      rw [eX3_pull_r19_r5_147, nI_1, ih (k + 1) z' _ (by omega) hz' (Or.inr ⟨_, rfl⟩), ez]
      rfl
    have hup : ∀ (j : Nat) (v : Int32), av_u (sh_r h0 22 z.2) 22 j v = sh_r h0 22 (upd z.2 j v) := by
      intro j v
      funext b
      unfold av_u sh_r
      by_cases hb : b = 22
      · simp [hb]
      · simp [hb]
    have h27 : av_xp (d + 3) 23 27 [.ref 19, .ref 5, .int (nI i), .int (nI z.1), .int (nI k), .int (h0 20 k - 1000)] [] (sh_r h0 22 z.2) = some (av_max (-99) (av_min 99 ((sh_lp (sh_stp (h0 20) (sh_q n (h0 6) (h0 7) r i)) (t + 1) k z).2 0)), 0, sh_r h0 22 (sh_lp (sh_stp (h0 20) (sh_q n (h0 6) (h0 7) r i)) (t + 1) k z).2) := by
      have h40 : (h0 20 k - 1000 < 0 ∨ sh_isN (h0 20 k - 1000) = true) → av_xp (d + 3) 23 40 [.ref 19, .ref 5, .int (nI i), .int (nI z.1), .int (nI k), .int (h0 20 k - 1000)] [] (sh_r h0 22 z.2) = some (av_max (-99) (av_min 99 ((sh_lp (sh_stp (h0 20) (sh_q n (h0 6) (h0 7) r i)) (t + 1) k z).2 0)), 0, sh_r h0 22 (sh_lp (sh_stp (h0 20) (sh_q n (h0 6) (h0 7) r i)) (t + 1) k z).2) := by
        intro hor
        rw [eX3_pull_r19_r5_40]
        by_cases h1 : z.1 < 40
        · rw [if_neg (show ¬ (40 : Int32) ≤ nI z.1 from sh_lt (n := 40) h1 (by decide)), sh_inb h1 (by decide), sh_inb (show k < 40 by omega) (by decide)]
          simp only [cond_true, nI_1, nI_clamp (show z.1 < 2 ^ 31 by omega), nI_clamp (show k < 2 ^ 31 by omega), c_valueOf5 d n (sh_r h0 22 z.2) r _ i hi hn hm hv', Option.bind_some, hup]
          by_cases h2 : h0 20 k - 1000 < 0
          · rw [if_neg (show ¬ (0 : Int32) ≤ h0 20 k - 1000 by rw [Int32.not_le]; exact h2)]
            exact go (z.1 + 1, _) (by show z.1 + 1 ≤ 40; omega) (by unfold sh_stp; rw [if_pos (Or.inl h2), if_pos h1, if_pos h2]; rfl)
          · rw [if_pos (show (0 : Int32) ≤ h0 20 k - 1000 by rw [← Int32.not_lt]; exact h2)]
            exact go (z.1 + 1, _) (by show z.1 + 1 ≤ 40; omega) (by unfold sh_stp; rw [if_pos hor, if_pos h1, if_neg h2]; rfl)
        · rw [if_pos (show (40 : Int32) ≤ nI z.1 from sh_ge (n := 40) (by omega) (by omega))]
          exact go z hz (by unfold sh_stp; rw [if_pos hor, if_neg h1])
      rw [eX3_pull_r19_r5_27]
      by_cases h2 : h0 20 k - 1000 < 0
      · rw [if_pos h2]
        exact h40 (Or.inl h2)
      · rw [if_neg h2, c_isName]
        simp only [Option.bind_some, sh_i0]
        cases h3 : sh_isN (h0 20 k - 1000)
        · rw [if_pos rfl, eX3_pull_r19_r5_80]
          have hor : ¬ (h0 20 k - 1000 < 0 ∨ sh_isN (h0 20 k - 1000) = true) := by
            rintro (q | q)
            · exact h2 q
            · rw [h3] at q; cases q
          by_cases h4 : h0 20 k - 1000 = 256
          · rw [if_pos h4]
            by_cases h5 : z.1 = 0
            · rw [if_pos (show nI z.1 ≤ (0 : Int32) from sh_ge (k := 0) (n := z.1) (by omega) (by decide))]
              exact go z hz (by unfold sh_stp; rw [if_neg hor, if_pos h4, if_pos h5])
            · obtain ⟨y, hy⟩ : ∃ y, z.1 = y + 1 := ⟨z.1 - 1, by omega⟩
              rw [if_neg (show ¬ nI z.1 ≤ (0 : Int32) from sh_lt (k := 0) (n := z.1) (by omega) (by omega)), show nI z.1 - 1 = nI y by rw [hy]; exact nI_pred y, sh_inb (show y < 40 by omega) (by decide)]
              simp only [cond_true, nI_clamp (show y < 2 ^ 31 by omega), hup]
              exact go (z.1, upd z.2 y (-(z.2 y))) hz (by unfold sh_stp; rw [if_neg hor, if_pos h4, if_neg h5, show z.1 - 1 = y by omega])
          · rw [if_neg h4, eX3_pull_r19_r5_112]
            by_cases h5 : z.1 ≤ 1
            · rw [if_pos (show nI z.1 ≤ (1 : Int32) from sh_ge (k := 1) (n := z.1) h5 (by decide))]
              exact go z hz (by unfold sh_stp; rw [if_neg hor, if_neg h4, if_pos h5])
            · obtain ⟨y, hy⟩ : ∃ y, z.1 = y + 2 := ⟨z.1 - 2, by omega⟩
              rw [if_neg (show ¬ nI z.1 ≤ (1 : Int32) from sh_lt (k := 1) (n := z.1) (by omega) (by omega)), show nI z.1 + (-1) = nI (y + 1) by rw [hy, ← Int32.sub_eq_add_neg]; exact nI_pred (y + 1), eX3_pull_r19_r5_120, sh_inb (show y + 1 < 40 by omega) (by decide), nI_pred y, sh_inb (show y < 40 by omega) (by decide), cond_true, cond_true, eX3_pull_r19_r5_143, c_join]
              simp only [Option.bind_some, sh_inb (show y < 40 by omega) (by decide), cond_true, nI_clamp (show y < 2 ^ 31 by omega), nI_clamp (show y + 1 < 2 ^ 31 by omega), hup]
              exact go (y + 1, _) (by show y + 1 ≤ 40; omega) (by unfold sh_stp; rw [if_neg hor, if_neg h4, if_neg h5, show z.1 - 2 = y by omega, show z.1 - 1 = y + 1 by omega]; rfl)
        · rw [if_neg (by decide)]
          exact h40 (Or.inr h3)
    rcases hx with rfl | ⟨y, rfl⟩
    · rw [eX3_pull_r19_r5_5, show sh_r h0 22 z.2 19 3 = nI m from hsz, if_neg (sh_lt (by omega) (by omega)), sh_inb (show k < 40 by omega) (by decide), cond_true, nI_clamp (by omega)]
      exact h27
    · rw [eX3_pull_r19_r5_5_2, show sh_r h0 22 z.2 19 3 = nI m from hsz, if_neg (sh_lt (by omega) (by omega)), sh_inb (show k < 40 by omega) (by decide), cond_true, nI_clamp (by omega)]
      exact h27
theorem c_pull195 (d n m : Nat) (h : av_M) (r : Nat → Int32) (i : Nat) (hi : i < 7) (hn : n ≤ 7) (hm : h 5 6 = nI n) (hv : sh_SV 5 h r) (hmm : m ≤ 40) (hsz : h 19 3 = nI m) :
    av_x (d + 4) 23 [.ref 19, .ref 5, .int (nI i)] h = some (sh_pl m (h 20) (h 22) (sh_q n (h 6) (h 7) r i), 0, sh_r h 22 (sh_run m (h 20) (sh_q n (h 6) (h 7) r i) (h 22)).2) := by
  have hself : h = sh_r h 22 (h 22) := by
    funext b
    unfold sh_r
    by_cases hb : b = 22
    · simp [hb]
    · simp [hb]
  rw [eX3_pull_r19_r5_in]
  have e := c_pull195_l d n m h r i hi hn hm hv hmm hsz m 0 (0, h 22) .null (by omega) (Nat.zero_le 40) (Or.inl rfl)
  dsimp only at e
  rw [← hself] at e
  exact e
theorem c_break195_l (d n m : Nat) (H : Int32) (r : Nat → Int32) (rl : (Nat → Int32) → Int32) (st : Nat → Int32) (hn : n ≤ 7) (hmm : m ≤ 40) (hrl : ∀ g q, sh_pl m st g q = rl q) : ∀ t k (h : av_M) (a : Int32), k + t = n → h 5 6 = nI n → sh_SV 5 h r → h 19 3 = nI m → h 20 = st →
    ∃ h', av_xp (d + 4) 43 42 [.ref 5, .ref 19, .int a, .int H, .int (nI k)] [] h = some (0, 0, av_u (av_u h' 5 8 (h' 5 8 ||| sh_lp (sh_brF H (h 7) (fun i => rl (sh_q n (h 6) (h 7) r i))) t k a)) 5 12 (h' 5 12 + 1)) ∧ sh_fr [22] h h' := by
  intro t
  induction t with
  | zero =>
    intro k h a e hm hv hsz hst
    refine ⟨h, ?_, sh_fr_refl _ _⟩
    rw [eX4_passHour_r5_r19_42, hm, if_pos (sh_ge (by omega) (by omega))]
    rfl
  | succ t ih =>
    intro k h a e hm hv hsz hst
    have key : ∀ (h1 : av_M) (b : Int32), sh_fr [22] h h1 → b = sh_brF H (h 7) (fun i => rl (sh_q n (h 6) (h 7) r i)) k a → ∃ h', av_xp (d + 4) 43 42 [.ref 5, .ref 19, .int b, .int H, .int (nI (k + 1))] [] h1 = some (0, 0, av_u (av_u h' 5 8 (h' 5 8 ||| sh_lp (sh_brF H (h 7) (fun i => rl (sh_q n (h 6) (h 7) r i))) (t + 1) k a)) 5 12 (h' 5 12 + 1)) ∧ sh_fr [22] h h' := by
      intro h1 b hf hb
      have v1 : sh_SV 5 h1 r := sh_SV_fr hf (by decide) hv
      obtain ⟨h', e1, f1⟩ := ih (k + 1) h1 b (by omega) (by rw [hf 5 (by decide)]; exact hm) v1 (by rw [hf 19 (by decide)]; exact hsz) (by rw [hf 20 (by decide)]; exact hst)
      rw [hf 7 (by decide), hf 6 (by decide)] at e1
      refine ⟨h', ?_, sh_fr_tr hf f1 (fun _ q => q)⟩
      rw [e1, hb]
      rfl
    rw [eX4_passHour_r5_r19_42, hm, if_neg (sh_lt (by omega) (by omega)), c_isIn]
    simp only [Option.bind_some]
    cases hb : sh_b H k
    · rw [show sh_i false = 0 from rfl, if_pos rfl, nI_1]
      exact key h a (sh_fr_refl _ _) (by unfold sh_brF; rw [hb]; rfl)
    · rw [show sh_i true = 1 from rfl, if_neg (by decide), c_pull195 d n m h r k (by omega) hn hm hv hmm hsz]
      simp only [Option.bind_some, sh_inb (show k < 7 by omega) (by decide), cond_true, nI_1, nI_clamp (show k < 2 ^ 31 by omega)]
      have hf : ∀ g, sh_fr [22] h (sh_r h 22 g) := fun g b hb => by unfold sh_r; rw [if_neg (fun q => hb (by rw [q]; decide))]
      rw [hst, hrl, show sh_r h 22 (sh_run m st (sh_q n (h 6) (h 7) r k) (h 22)).2 7 k = h 7 k from rfl]
      by_cases hp : rl (sh_q n (h 6) (h 7) r k) ≤ h 7 k
      · rw [if_pos hp]
        exact key _ a (hf _) (by unfold sh_brF; rw [if_neg (fun q => q.2 hp)])
      · rw [if_neg hp]
        exact key _ _ (hf _) (by unfold sh_brF; rw [if_pos ⟨hb, hp⟩])
theorem c_passHour195 (d n m : Nat) (h : av_M) (r : Nat → Int32) (rl : (Nat → Int32) → Int32) (hn : n ≤ 7) (hm : h 5 6 = nI n) (he : h 5 7 = sh_e n) (hv : sh_SV 5 h r) (hmm : m ≤ 40) (hsz : h 19 3 = nI m) (hrl : ∀ g q, sh_pl m (h 20) g q = rl q) :
    ∃ h', av_x (d + 5) 43 [.ref 5, .ref 19] h = some (0, 0, h') ∧ sh_fr [5, 8, 11, 22] h h' ∧ sh_SV 5 h' (sh_hr n (h 6) (h 7) rl r) ∧ h' 5 6 = nI n ∧ h' 5 7 = sh_e n := by
  obtain ⟨h1, e1, f1, v1⟩ := c_payOut5 (d + 2) n h r hn hm he hv
  rw [eX4_passHour_r5_r19_in, e1]
  have m1 : h1 5 6 = nI n := by rw [f1 5 (by decide)]; exact hm
  have e7 : h1 5 7 = sh_e n := by rw [f1 5 (by decide)]; exact he
  generalize hr1 : sh_lp (sh_poF (sh_hd n r)) n 0 r = r1 at v1
  simp only [Option.bind_some, c_heldBack5 (d + 1) n h1 r1 hn m1 e7 v1]
  rw [show h1 5 10 = r1 30 from v1.2.2.2.2.2.2.1, show h1 5 11 = r1 31 from v1.2.2.2.2.2.2.2.1, f1 7 (by decide)]
  generalize hw : av_min 9999 (r1 30 + av_max 0 (r1 31 - sh_w n (h 7) (sh_tt n r1) / 5)) = w
  have v2 : sh_SV 5 (av_u h1 5 10 w) (upd r1 30 w) := sh_SV_10 v1
  have f2 : sh_fr [5, 8, 11, 22] h (av_u h1 5 10 w) := sh_fr_u (by decide) (sh_fr_up f1 (by decide))
  rw [c_holding5 (d + 3) n _ _ (show (av_u h1 5 10 w) 5 7 = sh_e n from e7) v2]
  simp only [Option.bind_some]
  obtain ⟨h3, e3, f3⟩ := c_break195_l d n m (sh_hd n (upd r1 30 w)) (upd r1 30 w) rl (h 20) hn hmm hrl n 0 (av_u h1 5 10 w) 0 (by omega) (show (av_u h1 5 10 w) 5 6 = nI n from m1) v2 (by rw [show (av_u h1 5 10 w) 19 = h1 19 from rfl, f1 19 (by decide)]; exact hsz) (by rw [show (av_u h1 5 10 w) 20 = h1 20 from rfl, f1 20 (by decide)])
  rw [show (0 : Int32) = nI 0 from rfl] at e3 ⊢
  refine ⟨_, e3, ?_, ?_, ?_, ?_⟩
  · exact sh_fr_u (by decide) (sh_fr_u (by decide) (sh_fr_tr f2 f3 (by decide)))
  · have v3 : sh_SV 5 h3 (upd r1 30 w) := sh_SV_fr f3 (by decide) v2
    have := sh_SV_end (b := sh_lp (sh_brF (sh_hd n (upd r1 30 w)) (h 7) (fun i => rl (sh_q n (h 6) (h 7) (upd r1 30 w) i))) n 0 0) v3
    unfold sh_hr
    rw [hr1]
    dsimp only
    rw [hw]
    rw [show (av_u h1 5 10 w) 7 = h 7 from f1 7 (by decide), show (av_u h1 5 10 w) 6 = h 6 from f1 6 (by decide)]
    exact this
  · show h3 5 6 = nI n
    rw [f3 5 (by decide)]
    exact m1
  · show h3 5 7 = sh_e n
    rw [f3 5 (by decide)]
    exact e7

theorem c_pull1912_l (d n m : Nat) (h0 : av_M) (r : Nat → Int32) (i : Nat) (hi : i < 7) (hn : n ≤ 7) (hm : h0 12 6 = nI n) (hv : sh_SV 12 h0 r) (hmm : m ≤ 40) (hsz : h0 19 3 = nI m) :
    ∀ t k (z : Nat × (Nat → Int32)) (x5 : Value), k + t = m → z.1 ≤ 40 → (x5 = .null ∨ ∃ y, x5 = .int y) →
      av_xp (d + 3) 23 5 [.ref 19, .ref 12, .int (nI i), .int (nI z.1), .int (nI k), x5] [] (sh_r h0 22 z.2) = some (av_max (-99) (av_min 99 ((sh_lp (sh_stp (h0 20) (sh_q n (h0 13) (h0 14) r i)) t k z).2 0)), 0, sh_r h0 22 (sh_lp (sh_stp (h0 20) (sh_q n (h0 13) (h0 14) r i)) t k z).2) := by
  intro t
  induction t with
  | zero =>
    intro k z x5 e hz hx
    have hk : k = m := by omega
    subst hk
    rcases hx with rfl | ⟨y, rfl⟩
    · rw [eX3_pull_r19_r12_5, show sh_r h0 22 z.2 19 3 = nI k from hsz, if_pos (sh_ge (by omega) (by omega)), eX6_within_in]
      rfl
    · rw [eX3_pull_r19_r12_5_2, show sh_r h0 22 z.2 19 3 = nI k from hsz, if_pos (sh_ge (by omega) (by omega)), eX6_within_in]
      rfl
  | succ t ih =>
    intro k z x5 e hz hx
    have hv' : sh_SV 12 (sh_r h0 22 z.2) r := hv
    have go : ∀ (z' : Nat × (Nat → Int32)), z'.1 ≤ 40 → z' = sh_stp (h0 20) (sh_q n (h0 13) (h0 14) r i) k z →
        av_xp (d + 3) 23 147 [.ref 19, .ref 12, .int (nI i), .int (nI z'.1), .int (nI k), .int (h0 20 k - 1000)] [] (sh_r h0 22 z'.2) = some (av_max (-99) (av_min 99 ((sh_lp (sh_stp (h0 20) (sh_q n (h0 13) (h0 14) r i)) (t + 1) k z).2 0)), 0, sh_r h0 22 (sh_lp (sh_stp (h0 20) (sh_q n (h0 13) (h0 14) r i)) (t + 1) k z).2) := by
      intro z' hz' ez
      rw [eX3_pull_r19_r12_147, nI_1, ih (k + 1) z' _ (by omega) hz' (Or.inr ⟨_, rfl⟩), ez]
      rfl
    have hup : ∀ (j : Nat) (v : Int32), av_u (sh_r h0 22 z.2) 22 j v = sh_r h0 22 (upd z.2 j v) := by
      intro j v
      funext b
      unfold av_u sh_r
      by_cases hb : b = 22
      · simp [hb]
      · simp [hb]
    have h27 : av_xp (d + 3) 23 27 [.ref 19, .ref 12, .int (nI i), .int (nI z.1), .int (nI k), .int (h0 20 k - 1000)] [] (sh_r h0 22 z.2) = some (av_max (-99) (av_min 99 ((sh_lp (sh_stp (h0 20) (sh_q n (h0 13) (h0 14) r i)) (t + 1) k z).2 0)), 0, sh_r h0 22 (sh_lp (sh_stp (h0 20) (sh_q n (h0 13) (h0 14) r i)) (t + 1) k z).2) := by
      have h40 : (h0 20 k - 1000 < 0 ∨ sh_isN (h0 20 k - 1000) = true) → av_xp (d + 3) 23 40 [.ref 19, .ref 12, .int (nI i), .int (nI z.1), .int (nI k), .int (h0 20 k - 1000)] [] (sh_r h0 22 z.2) = some (av_max (-99) (av_min 99 ((sh_lp (sh_stp (h0 20) (sh_q n (h0 13) (h0 14) r i)) (t + 1) k z).2 0)), 0, sh_r h0 22 (sh_lp (sh_stp (h0 20) (sh_q n (h0 13) (h0 14) r i)) (t + 1) k z).2) := by
        intro hor
        rw [eX3_pull_r19_r12_40]
        by_cases h1 : z.1 < 40
        · rw [if_neg (show ¬ (40 : Int32) ≤ nI z.1 from sh_lt (n := 40) h1 (by decide)), sh_inb h1 (by decide), sh_inb (show k < 40 by omega) (by decide)]
          simp only [cond_true, nI_1, nI_clamp (show z.1 < 2 ^ 31 by omega), nI_clamp (show k < 2 ^ 31 by omega), c_valueOf12 d n (sh_r h0 22 z.2) r _ i hi hn hm hv', Option.bind_some, hup]
          by_cases h2 : h0 20 k - 1000 < 0
          · rw [if_neg (show ¬ (0 : Int32) ≤ h0 20 k - 1000 by rw [Int32.not_le]; exact h2)]
            exact go (z.1 + 1, _) (by show z.1 + 1 ≤ 40; omega) (by unfold sh_stp; rw [if_pos (Or.inl h2), if_pos h1, if_pos h2]; rfl)
          · rw [if_pos (show (0 : Int32) ≤ h0 20 k - 1000 by rw [← Int32.not_lt]; exact h2)]
            exact go (z.1 + 1, _) (by show z.1 + 1 ≤ 40; omega) (by unfold sh_stp; rw [if_pos hor, if_pos h1, if_neg h2]; rfl)
        · rw [if_pos (show (40 : Int32) ≤ nI z.1 from sh_ge (n := 40) (by omega) (by omega))]
          exact go z hz (by unfold sh_stp; rw [if_pos hor, if_neg h1])
      rw [eX3_pull_r19_r12_27]
      by_cases h2 : h0 20 k - 1000 < 0
      · rw [if_pos h2]
        exact h40 (Or.inl h2)
      · rw [if_neg h2, c_isName]
        simp only [Option.bind_some, sh_i0]
        cases h3 : sh_isN (h0 20 k - 1000)
        · rw [if_pos rfl, eX3_pull_r19_r12_80]
          have hor : ¬ (h0 20 k - 1000 < 0 ∨ sh_isN (h0 20 k - 1000) = true) := by
            rintro (q | q)
            · exact h2 q
            · rw [h3] at q; cases q
          by_cases h4 : h0 20 k - 1000 = 256
          · rw [if_pos h4]
            by_cases h5 : z.1 = 0
            · rw [if_pos (show nI z.1 ≤ (0 : Int32) from sh_ge (k := 0) (n := z.1) (by omega) (by decide))]
              exact go z hz (by unfold sh_stp; rw [if_neg hor, if_pos h4, if_pos h5])
            · obtain ⟨y, hy⟩ : ∃ y, z.1 = y + 1 := ⟨z.1 - 1, by omega⟩
              rw [if_neg (show ¬ nI z.1 ≤ (0 : Int32) from sh_lt (k := 0) (n := z.1) (by omega) (by omega)), show nI z.1 - 1 = nI y by rw [hy]; exact nI_pred y, sh_inb (show y < 40 by omega) (by decide)]
              simp only [cond_true, nI_clamp (show y < 2 ^ 31 by omega), hup]
              exact go (z.1, upd z.2 y (-(z.2 y))) hz (by unfold sh_stp; rw [if_neg hor, if_pos h4, if_neg h5, show z.1 - 1 = y by omega])
          · rw [if_neg h4, eX3_pull_r19_r12_112]
            by_cases h5 : z.1 ≤ 1
            · rw [if_pos (show nI z.1 ≤ (1 : Int32) from sh_ge (k := 1) (n := z.1) h5 (by decide))]
              exact go z hz (by unfold sh_stp; rw [if_neg hor, if_neg h4, if_pos h5])
            · obtain ⟨y, hy⟩ : ∃ y, z.1 = y + 2 := ⟨z.1 - 2, by omega⟩
              rw [if_neg (show ¬ nI z.1 ≤ (1 : Int32) from sh_lt (k := 1) (n := z.1) (by omega) (by omega)), show nI z.1 + (-1) = nI (y + 1) by rw [hy, ← Int32.sub_eq_add_neg]; exact nI_pred (y + 1), eX3_pull_r19_r12_120, sh_inb (show y + 1 < 40 by omega) (by decide), nI_pred y, sh_inb (show y < 40 by omega) (by decide), cond_true, cond_true, eX3_pull_r19_r12_143, c_join]
              simp only [Option.bind_some, sh_inb (show y < 40 by omega) (by decide), cond_true, nI_clamp (show y < 2 ^ 31 by omega), nI_clamp (show y + 1 < 2 ^ 31 by omega), hup]
              exact go (y + 1, _) (by show y + 1 ≤ 40; omega) (by unfold sh_stp; rw [if_neg hor, if_neg h4, if_neg h5, show z.1 - 2 = y by omega, show z.1 - 1 = y + 1 by omega]; rfl)
        · rw [if_neg (by decide)]
          exact h40 (Or.inr h3)
    rcases hx with rfl | ⟨y, rfl⟩
    · rw [eX3_pull_r19_r12_5, show sh_r h0 22 z.2 19 3 = nI m from hsz, if_neg (sh_lt (by omega) (by omega)), sh_inb (show k < 40 by omega) (by decide), cond_true, nI_clamp (by omega)]
      exact h27
    · rw [eX3_pull_r19_r12_5_2, show sh_r h0 22 z.2 19 3 = nI m from hsz, if_neg (sh_lt (by omega) (by omega)), sh_inb (show k < 40 by omega) (by decide), cond_true, nI_clamp (by omega)]
      exact h27
theorem c_pull1912 (d n m : Nat) (h : av_M) (r : Nat → Int32) (i : Nat) (hi : i < 7) (hn : n ≤ 7) (hm : h 12 6 = nI n) (hv : sh_SV 12 h r) (hmm : m ≤ 40) (hsz : h 19 3 = nI m) :
    av_x (d + 4) 23 [.ref 19, .ref 12, .int (nI i)] h = some (sh_pl m (h 20) (h 22) (sh_q n (h 13) (h 14) r i), 0, sh_r h 22 (sh_run m (h 20) (sh_q n (h 13) (h 14) r i) (h 22)).2) := by
  have hself : h = sh_r h 22 (h 22) := by
    funext b
    unfold sh_r
    by_cases hb : b = 22
    · simp [hb]
    · simp [hb]
  rw [eX3_pull_r19_r12_in]
  have e := c_pull1912_l d n m h r i hi hn hm hv hmm hsz m 0 (0, h 22) .null (by omega) (Nat.zero_le 40) (Or.inl rfl)
  dsimp only at e
  rw [← hself] at e
  exact e
theorem c_break1912_l (d n m : Nat) (H : Int32) (r : Nat → Int32) (rl : (Nat → Int32) → Int32) (st : Nat → Int32) (hn : n ≤ 7) (hmm : m ≤ 40) (hrl : ∀ g q, sh_pl m st g q = rl q) : ∀ t k (h : av_M) (a : Int32), k + t = n → h 12 6 = nI n → sh_SV 12 h r → h 19 3 = nI m → h 20 = st →
    ∃ h', av_xp (d + 4) 43 42 [.ref 12, .ref 19, .int a, .int H, .int (nI k)] [] h = some (0, 0, av_u (av_u h' 12 8 (h' 12 8 ||| sh_lp (sh_brF H (h 14) (fun i => rl (sh_q n (h 13) (h 14) r i))) t k a)) 12 12 (h' 12 12 + 1)) ∧ sh_fr [22] h h' := by
  intro t
  induction t with
  | zero =>
    intro k h a e hm hv hsz hst
    refine ⟨h, ?_, sh_fr_refl _ _⟩
    rw [eX4_passHour_r12_r19_42, hm, if_pos (sh_ge (by omega) (by omega))]
    rfl
  | succ t ih =>
    intro k h a e hm hv hsz hst
    have key : ∀ (h1 : av_M) (b : Int32), sh_fr [22] h h1 → b = sh_brF H (h 14) (fun i => rl (sh_q n (h 13) (h 14) r i)) k a → ∃ h', av_xp (d + 4) 43 42 [.ref 12, .ref 19, .int b, .int H, .int (nI (k + 1))] [] h1 = some (0, 0, av_u (av_u h' 12 8 (h' 12 8 ||| sh_lp (sh_brF H (h 14) (fun i => rl (sh_q n (h 13) (h 14) r i))) (t + 1) k a)) 12 12 (h' 12 12 + 1)) ∧ sh_fr [22] h h' := by
      intro h1 b hf hb
      have v1 : sh_SV 12 h1 r := sh_SV_fr hf (by decide) hv
      obtain ⟨h', e1, f1⟩ := ih (k + 1) h1 b (by omega) (by rw [hf 12 (by decide)]; exact hm) v1 (by rw [hf 19 (by decide)]; exact hsz) (by rw [hf 20 (by decide)]; exact hst)
      rw [hf 14 (by decide), hf 13 (by decide)] at e1
      refine ⟨h', ?_, sh_fr_tr hf f1 (fun _ q => q)⟩
      rw [e1, hb]
      rfl
    rw [eX4_passHour_r12_r19_42, hm, if_neg (sh_lt (by omega) (by omega)), c_isIn]
    simp only [Option.bind_some]
    cases hb : sh_b H k
    · rw [show sh_i false = 0 from rfl, if_pos rfl, nI_1]
      exact key h a (sh_fr_refl _ _) (by unfold sh_brF; rw [hb]; rfl)
    · rw [show sh_i true = 1 from rfl, if_neg (by decide), c_pull1912 d n m h r k (by omega) hn hm hv hmm hsz]
      simp only [Option.bind_some, sh_inb (show k < 7 by omega) (by decide), cond_true, nI_1, nI_clamp (show k < 2 ^ 31 by omega)]
      have hf : ∀ g, sh_fr [22] h (sh_r h 22 g) := fun g b hb => by unfold sh_r; rw [if_neg (fun q => hb (by rw [q]; decide))]
      rw [hst, hrl, show sh_r h 22 (sh_run m st (sh_q n (h 13) (h 14) r k) (h 22)).2 14 k = h 14 k from rfl]
      by_cases hp : rl (sh_q n (h 13) (h 14) r k) ≤ h 14 k
      · rw [if_pos hp]
        exact key _ a (hf _) (by unfold sh_brF; rw [if_neg (fun q => q.2 hp)])
      · rw [if_neg hp]
        exact key _ _ (hf _) (by unfold sh_brF; rw [if_pos ⟨hb, hp⟩])
theorem c_passHour1912 (d n m : Nat) (h : av_M) (r : Nat → Int32) (rl : (Nat → Int32) → Int32) (hn : n ≤ 7) (hm : h 12 6 = nI n) (he : h 12 7 = sh_e n) (hv : sh_SV 12 h r) (hmm : m ≤ 40) (hsz : h 19 3 = nI m) (hrl : ∀ g q, sh_pl m (h 20) g q = rl q) :
    ∃ h', av_x (d + 5) 43 [.ref 12, .ref 19] h = some (0, 0, h') ∧ sh_fr [12, 15, 18, 22] h h' ∧ sh_SV 12 h' (sh_hr n (h 13) (h 14) rl r) ∧ h' 12 6 = nI n ∧ h' 12 7 = sh_e n := by
  obtain ⟨h1, e1, f1, v1⟩ := c_payOut12 (d + 2) n h r hn hm he hv
  rw [eX4_passHour_r12_r19_in, e1]
  have m1 : h1 12 6 = nI n := by rw [f1 12 (by decide)]; exact hm
  have e7 : h1 12 7 = sh_e n := by rw [f1 12 (by decide)]; exact he
  generalize hr1 : sh_lp (sh_poF (sh_hd n r)) n 0 r = r1 at v1
  simp only [Option.bind_some, c_heldBack12 (d + 1) n h1 r1 hn m1 e7 v1]
  rw [show h1 12 10 = r1 30 from v1.2.2.2.2.2.2.1, show h1 12 11 = r1 31 from v1.2.2.2.2.2.2.2.1, f1 14 (by decide)]
  generalize hw : av_min 9999 (r1 30 + av_max 0 (r1 31 - sh_w n (h 14) (sh_tt n r1) / 5)) = w
  have v2 : sh_SV 12 (av_u h1 12 10 w) (upd r1 30 w) := sh_SV_10 v1
  have f2 : sh_fr [12, 15, 18, 22] h (av_u h1 12 10 w) := sh_fr_u (by decide) (sh_fr_up f1 (by decide))
  rw [c_holding12 (d + 3) n _ _ (show (av_u h1 12 10 w) 12 7 = sh_e n from e7) v2]
  simp only [Option.bind_some]
  obtain ⟨h3, e3, f3⟩ := c_break1912_l d n m (sh_hd n (upd r1 30 w)) (upd r1 30 w) rl (h 20) hn hmm hrl n 0 (av_u h1 12 10 w) 0 (by omega) (show (av_u h1 12 10 w) 12 6 = nI n from m1) v2 (by rw [show (av_u h1 12 10 w) 19 = h1 19 from rfl, f1 19 (by decide)]; exact hsz) (by rw [show (av_u h1 12 10 w) 20 = h1 20 from rfl, f1 20 (by decide)])
  rw [show (0 : Int32) = nI 0 from rfl] at e3 ⊢
  refine ⟨_, e3, ?_, ?_, ?_, ?_⟩
  · exact sh_fr_u (by decide) (sh_fr_u (by decide) (sh_fr_tr f2 f3 (by decide)))
  · have v3 : sh_SV 12 h3 (upd r1 30 w) := sh_SV_fr f3 (by decide) v2
    have := sh_SV_end (b := sh_lp (sh_brF (sh_hd n (upd r1 30 w)) (h 14) (fun i => rl (sh_q n (h 13) (h 14) (upd r1 30 w) i))) n 0 0) v3
    unfold sh_hr
    rw [hr1]
    dsimp only
    rw [hw]
    rw [show (av_u h1 12 10 w) 14 = h 14 from f1 14 (by decide), show (av_u h1 12 10 w) 13 = h 13 from f1 13 (by decide)]
    exact this
  · show h3 12 6 = nI n
    rw [f3 12 (by decide)]
    exact m1
  · show h3 12 7 = sh_e n
    rw [f3 12 (by decide)]
    exact e7
theorem c_passHours1912_l (d n m z : Nat) (col str : Nat → Int32) (rl : (Nat → Int32) → Int32) (hn : n ≤ 7) (hmm : m ≤ 40) (hz : z < 1000) : ∀ t k (h : av_M) (r : Nat → Int32), k + t = z → h 13 = col → h 14 = str → h 12 6 = nI n → h 12 7 = sh_e n → sh_SV 12 h r → h 19 3 = nI m → (∀ g q, sh_pl m (h 20) g q = rl q) →
    ∃ h', av_xp (d + 5) 42 2 [.ref 12, .ref 19, .int (nI z), .int (nI k)] [] h = some (0, 0, h') ∧ sh_fr [12, 15, 18, 22] h h' ∧ sh_SV 12 h' (sh_lp (fun _ => sh_hr n col str rl) t k r) ∧ h' 12 6 = nI n ∧ h' 12 7 = sh_e n := by
  intro t
  induction t with
  | zero =>
    intro k h r e hc hs hm he hv hsz hrl
    refine ⟨h, ?_, sh_fr_refl _ _, hv, hm, he⟩
    rw [eX4_passHours_r12_r19_2, if_pos (sh_ge (by omega) (by omega))]
  | succ t ih =>
    intro k h r e hc hs hm he hv hsz hrl
    obtain ⟨h1, e1, f1, v1, m1, e7⟩ := c_passHour1912 d n m h r rl hn hm he hv hmm hsz hrl
    rw [hc, hs] at v1
    obtain ⟨h2, e2, f2, v2, m2, e72⟩ := ih (k + 1) h1 _ (by omega) (by rw [f1 13 (by decide)]; exact hc) (by rw [f1 14 (by decide)]; exact hs) m1 e7 v1 (by rw [f1 19 (by decide)]; exact hsz) (by rw [f1 20 (by decide)]; exact hrl)
    refine ⟨h2, ?_, sh_fr_tr f1 f2 (fun _ q => q), v2, m2, e72⟩
    rw [eX4_passHours_r12_r19_2, if_neg (sh_lt (by omega) (by omega)), e1]
    simp only [Option.bind_some, nI_1]
    exact e2


theorem c_pull2312_l (d n m : Nat) (h0 : av_M) (r : Nat → Int32) (i : Nat) (hi : i < 7) (hn : n ≤ 7) (hm : h0 12 6 = nI n) (hv : sh_SV 12 h0 r) (hmm : m ≤ 40) (hsz : h0 23 3 = nI m) :
    ∀ t k (z : Nat × (Nat → Int32)) (x5 : Value), k + t = m → z.1 ≤ 40 → (x5 = .null ∨ ∃ y, x5 = .int y) →
      av_xp (d + 3) 23 5 [.ref 23, .ref 12, .int (nI i), .int (nI z.1), .int (nI k), x5] [] (sh_r h0 26 z.2) = some (av_max (-99) (av_min 99 ((sh_lp (sh_stp (h0 24) (sh_q n (h0 13) (h0 14) r i)) t k z).2 0)), 0, sh_r h0 26 (sh_lp (sh_stp (h0 24) (sh_q n (h0 13) (h0 14) r i)) t k z).2) := by
  intro t
  induction t with
  | zero =>
    intro k z x5 e hz hx
    have hk : k = m := by omega
    subst hk
    rcases hx with rfl | ⟨y, rfl⟩
    · rw [eX3_pull_r23_r12_5, show sh_r h0 26 z.2 23 3 = nI k from hsz, if_pos (sh_ge (by omega) (by omega)), eX6_within_in]
      rfl
    · rw [eX3_pull_r23_r12_5_2, show sh_r h0 26 z.2 23 3 = nI k from hsz, if_pos (sh_ge (by omega) (by omega)), eX6_within_in]
      rfl
  | succ t ih =>
    intro k z x5 e hz hx
    have hv' : sh_SV 12 (sh_r h0 26 z.2) r := hv
    have go : ∀ (z' : Nat × (Nat → Int32)), z'.1 ≤ 40 → z' = sh_stp (h0 24) (sh_q n (h0 13) (h0 14) r i) k z →
        av_xp (d + 3) 23 147 [.ref 23, .ref 12, .int (nI i), .int (nI z'.1), .int (nI k), .int (h0 24 k - 1000)] [] (sh_r h0 26 z'.2) = some (av_max (-99) (av_min 99 ((sh_lp (sh_stp (h0 24) (sh_q n (h0 13) (h0 14) r i)) (t + 1) k z).2 0)), 0, sh_r h0 26 (sh_lp (sh_stp (h0 24) (sh_q n (h0 13) (h0 14) r i)) (t + 1) k z).2) := by
      intro z' hz' ez
      rw [eX3_pull_r23_r12_147, nI_1, ih (k + 1) z' _ (by omega) hz' (Or.inr ⟨_, rfl⟩), ez]
      rfl
    have hup : ∀ (j : Nat) (v : Int32), av_u (sh_r h0 26 z.2) 26 j v = sh_r h0 26 (upd z.2 j v) := by
      intro j v
      funext b
      unfold av_u sh_r
      by_cases hb : b = 26
      · simp [hb]
      · simp [hb]
    have h27 : av_xp (d + 3) 23 27 [.ref 23, .ref 12, .int (nI i), .int (nI z.1), .int (nI k), .int (h0 24 k - 1000)] [] (sh_r h0 26 z.2) = some (av_max (-99) (av_min 99 ((sh_lp (sh_stp (h0 24) (sh_q n (h0 13) (h0 14) r i)) (t + 1) k z).2 0)), 0, sh_r h0 26 (sh_lp (sh_stp (h0 24) (sh_q n (h0 13) (h0 14) r i)) (t + 1) k z).2) := by
      have h40 : (h0 24 k - 1000 < 0 ∨ sh_isN (h0 24 k - 1000) = true) → av_xp (d + 3) 23 40 [.ref 23, .ref 12, .int (nI i), .int (nI z.1), .int (nI k), .int (h0 24 k - 1000)] [] (sh_r h0 26 z.2) = some (av_max (-99) (av_min 99 ((sh_lp (sh_stp (h0 24) (sh_q n (h0 13) (h0 14) r i)) (t + 1) k z).2 0)), 0, sh_r h0 26 (sh_lp (sh_stp (h0 24) (sh_q n (h0 13) (h0 14) r i)) (t + 1) k z).2) := by
        intro hor
        rw [eX3_pull_r23_r12_40]
        by_cases h1 : z.1 < 40
        · rw [if_neg (show ¬ (40 : Int32) ≤ nI z.1 from sh_lt (n := 40) h1 (by decide)), sh_inb h1 (by decide), sh_inb (show k < 40 by omega) (by decide)]
          simp only [cond_true, nI_1, nI_clamp (show z.1 < 2 ^ 31 by omega), nI_clamp (show k < 2 ^ 31 by omega), c_valueOf12 d n (sh_r h0 26 z.2) r _ i hi hn hm hv', Option.bind_some, hup]
          by_cases h2 : h0 24 k - 1000 < 0
          · rw [if_neg (show ¬ (0 : Int32) ≤ h0 24 k - 1000 by rw [Int32.not_le]; exact h2)]
            exact go (z.1 + 1, _) (by show z.1 + 1 ≤ 40; omega) (by unfold sh_stp; rw [if_pos (Or.inl h2), if_pos h1, if_pos h2]; rfl)
          · rw [if_pos (show (0 : Int32) ≤ h0 24 k - 1000 by rw [← Int32.not_lt]; exact h2)]
            exact go (z.1 + 1, _) (by show z.1 + 1 ≤ 40; omega) (by unfold sh_stp; rw [if_pos hor, if_pos h1, if_neg h2]; rfl)
        · rw [if_pos (show (40 : Int32) ≤ nI z.1 from sh_ge (n := 40) (by omega) (by omega))]
          exact go z hz (by unfold sh_stp; rw [if_pos hor, if_neg h1])
      rw [eX3_pull_r23_r12_27]
      by_cases h2 : h0 24 k - 1000 < 0
      · rw [if_pos h2]
        exact h40 (Or.inl h2)
      · rw [if_neg h2, c_isName]
        simp only [Option.bind_some, sh_i0]
        cases h3 : sh_isN (h0 24 k - 1000)
        · rw [if_pos rfl, eX3_pull_r23_r12_80]
          have hor : ¬ (h0 24 k - 1000 < 0 ∨ sh_isN (h0 24 k - 1000) = true) := by
            rintro (q | q)
            · exact h2 q
            · rw [h3] at q; cases q
          by_cases h4 : h0 24 k - 1000 = 256
          · rw [if_pos h4]
            by_cases h5 : z.1 = 0
            · rw [if_pos (show nI z.1 ≤ (0 : Int32) from sh_ge (k := 0) (n := z.1) (by omega) (by decide))]
              exact go z hz (by unfold sh_stp; rw [if_neg hor, if_pos h4, if_pos h5])
            · obtain ⟨y, hy⟩ : ∃ y, z.1 = y + 1 := ⟨z.1 - 1, by omega⟩
              rw [if_neg (show ¬ nI z.1 ≤ (0 : Int32) from sh_lt (k := 0) (n := z.1) (by omega) (by omega)), show nI z.1 - 1 = nI y by rw [hy]; exact nI_pred y, sh_inb (show y < 40 by omega) (by decide)]
              simp only [cond_true, nI_clamp (show y < 2 ^ 31 by omega), hup]
              exact go (z.1, upd z.2 y (-(z.2 y))) hz (by unfold sh_stp; rw [if_neg hor, if_pos h4, if_neg h5, show z.1 - 1 = y by omega])
          · rw [if_neg h4, eX3_pull_r23_r12_112]
            by_cases h5 : z.1 ≤ 1
            · rw [if_pos (show nI z.1 ≤ (1 : Int32) from sh_ge (k := 1) (n := z.1) h5 (by decide))]
              exact go z hz (by unfold sh_stp; rw [if_neg hor, if_neg h4, if_pos h5])
            · obtain ⟨y, hy⟩ : ∃ y, z.1 = y + 2 := ⟨z.1 - 2, by omega⟩
              rw [if_neg (show ¬ nI z.1 ≤ (1 : Int32) from sh_lt (k := 1) (n := z.1) (by omega) (by omega)), show nI z.1 + (-1) = nI (y + 1) by rw [hy, ← Int32.sub_eq_add_neg]; exact nI_pred (y + 1), eX3_pull_r23_r12_120, sh_inb (show y + 1 < 40 by omega) (by decide), nI_pred y, sh_inb (show y < 40 by omega) (by decide), cond_true, cond_true, eX3_pull_r23_r12_143, c_join]
              simp only [Option.bind_some, sh_inb (show y < 40 by omega) (by decide), cond_true, nI_clamp (show y < 2 ^ 31 by omega), nI_clamp (show y + 1 < 2 ^ 31 by omega), hup]
              exact go (y + 1, _) (by show y + 1 ≤ 40; omega) (by unfold sh_stp; rw [if_neg hor, if_neg h4, if_neg h5, show z.1 - 2 = y by omega, show z.1 - 1 = y + 1 by omega]; rfl)
        · rw [if_neg (by decide)]
          exact h40 (Or.inr h3)
    rcases hx with rfl | ⟨y, rfl⟩
    · rw [eX3_pull_r23_r12_5, show sh_r h0 26 z.2 23 3 = nI m from hsz, if_neg (sh_lt (by omega) (by omega)), sh_inb (show k < 40 by omega) (by decide), cond_true, nI_clamp (by omega)]
      exact h27
    · rw [eX3_pull_r23_r12_5_2, show sh_r h0 26 z.2 23 3 = nI m from hsz, if_neg (sh_lt (by omega) (by omega)), sh_inb (show k < 40 by omega) (by decide), cond_true, nI_clamp (by omega)]
      exact h27
theorem c_pull2312 (d n m : Nat) (h : av_M) (r : Nat → Int32) (i : Nat) (hi : i < 7) (hn : n ≤ 7) (hm : h 12 6 = nI n) (hv : sh_SV 12 h r) (hmm : m ≤ 40) (hsz : h 23 3 = nI m) :
    av_x (d + 4) 23 [.ref 23, .ref 12, .int (nI i)] h = some (sh_pl m (h 24) (h 26) (sh_q n (h 13) (h 14) r i), 0, sh_r h 26 (sh_run m (h 24) (sh_q n (h 13) (h 14) r i) (h 26)).2) := by
  have hself : h = sh_r h 26 (h 26) := by
    funext b
    unfold sh_r
    by_cases hb : b = 26
    · simp [hb]
    · simp [hb]
  rw [eX3_pull_r23_r12_in]
  have e := c_pull2312_l d n m h r i hi hn hm hv hmm hsz m 0 (0, h 26) .null (by omega) (Nat.zero_le 40) (Or.inl rfl)
  dsimp only at e
  rw [← hself] at e
  exact e
theorem c_break2312_l (d n m : Nat) (H : Int32) (r : Nat → Int32) (rl : (Nat → Int32) → Int32) (st : Nat → Int32) (hn : n ≤ 7) (hmm : m ≤ 40) (hrl : ∀ g q, sh_pl m st g q = rl q) : ∀ t k (h : av_M) (a : Int32), k + t = n → h 12 6 = nI n → sh_SV 12 h r → h 23 3 = nI m → h 24 = st →
    ∃ h', av_xp (d + 4) 43 42 [.ref 12, .ref 23, .int a, .int H, .int (nI k)] [] h = some (0, 0, av_u (av_u h' 12 8 (h' 12 8 ||| sh_lp (sh_brF H (h 14) (fun i => rl (sh_q n (h 13) (h 14) r i))) t k a)) 12 12 (h' 12 12 + 1)) ∧ sh_fr [26] h h' := by
  intro t
  induction t with
  | zero =>
    intro k h a e hm hv hsz hst
    refine ⟨h, ?_, sh_fr_refl _ _⟩
    rw [eX4_passHour_r12_r23_42, hm, if_pos (sh_ge (by omega) (by omega))]
    rfl
  | succ t ih =>
    intro k h a e hm hv hsz hst
    have key : ∀ (h1 : av_M) (b : Int32), sh_fr [26] h h1 → b = sh_brF H (h 14) (fun i => rl (sh_q n (h 13) (h 14) r i)) k a → ∃ h', av_xp (d + 4) 43 42 [.ref 12, .ref 23, .int b, .int H, .int (nI (k + 1))] [] h1 = some (0, 0, av_u (av_u h' 12 8 (h' 12 8 ||| sh_lp (sh_brF H (h 14) (fun i => rl (sh_q n (h 13) (h 14) r i))) (t + 1) k a)) 12 12 (h' 12 12 + 1)) ∧ sh_fr [26] h h' := by
      intro h1 b hf hb
      have v1 : sh_SV 12 h1 r := sh_SV_fr hf (by decide) hv
      obtain ⟨h', e1, f1⟩ := ih (k + 1) h1 b (by omega) (by rw [hf 12 (by decide)]; exact hm) v1 (by rw [hf 23 (by decide)]; exact hsz) (by rw [hf 24 (by decide)]; exact hst)
      rw [hf 14 (by decide), hf 13 (by decide)] at e1
      refine ⟨h', ?_, sh_fr_tr hf f1 (fun _ q => q)⟩
      rw [e1, hb]
      rfl
    rw [eX4_passHour_r12_r23_42, hm, if_neg (sh_lt (by omega) (by omega)), c_isIn]
    simp only [Option.bind_some]
    cases hb : sh_b H k
    · rw [show sh_i false = 0 from rfl, if_pos rfl, nI_1]
      exact key h a (sh_fr_refl _ _) (by unfold sh_brF; rw [hb]; rfl)
    · rw [show sh_i true = 1 from rfl, if_neg (by decide), c_pull2312 d n m h r k (by omega) hn hm hv hmm hsz]
      simp only [Option.bind_some, sh_inb (show k < 7 by omega) (by decide), cond_true, nI_1, nI_clamp (show k < 2 ^ 31 by omega)]
      have hf : ∀ g, sh_fr [26] h (sh_r h 26 g) := fun g b hb => by unfold sh_r; rw [if_neg (fun q => hb (by rw [q]; decide))]
      rw [hst, hrl, show sh_r h 26 (sh_run m st (sh_q n (h 13) (h 14) r k) (h 26)).2 14 k = h 14 k from rfl]
      by_cases hp : rl (sh_q n (h 13) (h 14) r k) ≤ h 14 k
      · rw [if_pos hp]
        exact key _ a (hf _) (by unfold sh_brF; rw [if_neg (fun q => q.2 hp)])
      · rw [if_neg hp]
        exact key _ _ (hf _) (by unfold sh_brF; rw [if_pos ⟨hb, hp⟩])
theorem c_passHour2312 (d n m : Nat) (h : av_M) (r : Nat → Int32) (rl : (Nat → Int32) → Int32) (hn : n ≤ 7) (hm : h 12 6 = nI n) (he : h 12 7 = sh_e n) (hv : sh_SV 12 h r) (hmm : m ≤ 40) (hsz : h 23 3 = nI m) (hrl : ∀ g q, sh_pl m (h 24) g q = rl q) :
    ∃ h', av_x (d + 5) 43 [.ref 12, .ref 23] h = some (0, 0, h') ∧ sh_fr [12, 15, 18, 26] h h' ∧ sh_SV 12 h' (sh_hr n (h 13) (h 14) rl r) ∧ h' 12 6 = nI n ∧ h' 12 7 = sh_e n := by
  obtain ⟨h1, e1, f1, v1⟩ := c_payOut12 (d + 2) n h r hn hm he hv
  rw [eX4_passHour_r12_r23_in, e1]
  have m1 : h1 12 6 = nI n := by rw [f1 12 (by decide)]; exact hm
  have e7 : h1 12 7 = sh_e n := by rw [f1 12 (by decide)]; exact he
  generalize hr1 : sh_lp (sh_poF (sh_hd n r)) n 0 r = r1 at v1
  simp only [Option.bind_some, c_heldBack12 (d + 1) n h1 r1 hn m1 e7 v1]
  rw [show h1 12 10 = r1 30 from v1.2.2.2.2.2.2.1, show h1 12 11 = r1 31 from v1.2.2.2.2.2.2.2.1, f1 14 (by decide)]
  generalize hw : av_min 9999 (r1 30 + av_max 0 (r1 31 - sh_w n (h 14) (sh_tt n r1) / 5)) = w
  have v2 : sh_SV 12 (av_u h1 12 10 w) (upd r1 30 w) := sh_SV_10 v1
  have f2 : sh_fr [12, 15, 18, 26] h (av_u h1 12 10 w) := sh_fr_u (by decide) (sh_fr_up f1 (by decide))
  rw [c_holding12 (d + 3) n _ _ (show (av_u h1 12 10 w) 12 7 = sh_e n from e7) v2]
  simp only [Option.bind_some]
  obtain ⟨h3, e3, f3⟩ := c_break2312_l d n m (sh_hd n (upd r1 30 w)) (upd r1 30 w) rl (h 24) hn hmm hrl n 0 (av_u h1 12 10 w) 0 (by omega) (show (av_u h1 12 10 w) 12 6 = nI n from m1) v2 (by rw [show (av_u h1 12 10 w) 23 = h1 23 from rfl, f1 23 (by decide)]; exact hsz) (by rw [show (av_u h1 12 10 w) 24 = h1 24 from rfl, f1 24 (by decide)])
  rw [show (0 : Int32) = nI 0 from rfl] at e3 ⊢
  refine ⟨_, e3, ?_, ?_, ?_, ?_⟩
  · exact sh_fr_u (by decide) (sh_fr_u (by decide) (sh_fr_tr f2 f3 (by decide)))
  · have v3 : sh_SV 12 h3 (upd r1 30 w) := sh_SV_fr f3 (by decide) v2
    have := sh_SV_end (b := sh_lp (sh_brF (sh_hd n (upd r1 30 w)) (h 14) (fun i => rl (sh_q n (h 13) (h 14) (upd r1 30 w) i))) n 0 0) v3
    unfold sh_hr
    rw [hr1]
    dsimp only
    rw [hw]
    rw [show (av_u h1 12 10 w) 14 = h 14 from f1 14 (by decide), show (av_u h1 12 10 w) 13 = h 13 from f1 13 (by decide)]
    exact this
  · show h3 12 6 = nI n
    rw [f3 12 (by decide)]
    exact m1
  · show h3 12 7 = sh_e n
    rw [f3 12 (by decide)]
    exact e7
theorem c_passHours2312_l (d n m z : Nat) (col str : Nat → Int32) (rl : (Nat → Int32) → Int32) (hn : n ≤ 7) (hmm : m ≤ 40) (hz : z < 1000) : ∀ t k (h : av_M) (r : Nat → Int32), k + t = z → h 13 = col → h 14 = str → h 12 6 = nI n → h 12 7 = sh_e n → sh_SV 12 h r → h 23 3 = nI m → (∀ g q, sh_pl m (h 24) g q = rl q) →
    ∃ h', av_xp (d + 5) 42 2 [.ref 12, .ref 23, .int (nI z), .int (nI k)] [] h = some (0, 0, h') ∧ sh_fr [12, 15, 18, 26] h h' ∧ sh_SV 12 h' (sh_lp (fun _ => sh_hr n col str rl) t k r) ∧ h' 12 6 = nI n ∧ h' 12 7 = sh_e n := by
  intro t
  induction t with
  | zero =>
    intro k h r e hc hs hm he hv hsz hrl
    refine ⟨h, ?_, sh_fr_refl _ _, hv, hm, he⟩
    rw [eX4_passHours_r12_r23_2, if_pos (sh_ge (by omega) (by omega))]
  | succ t ih =>
    intro k h r e hc hs hm he hv hsz hrl
    obtain ⟨h1, e1, f1, v1, m1, e7⟩ := c_passHour2312 d n m h r rl hn hm he hv hmm hsz hrl
    rw [hc, hs] at v1
    obtain ⟨h2, e2, f2, v2, m2, e72⟩ := ih (k + 1) h1 _ (by omega) (by rw [f1 13 (by decide)]; exact hc) (by rw [f1 14 (by decide)]; exact hs) m1 e7 v1 (by rw [f1 23 (by decide)]; exact hsz) (by rw [f1 24 (by decide)]; exact hrl)
    refine ⟨h2, ?_, sh_fr_tr f1 f2 (fun _ q => q), v2, m2, e72⟩
    rw [eX4_passHours_r12_r23_2, if_neg (sh_lt (by omega) (by omega)), e1]
    simp only [Option.bind_some, nI_1]
    exact e2

