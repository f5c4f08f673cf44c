/-! PURE, 17: told rows -/
def sh_t1 (l : List Int64) (h : av_M) : Prop := h 3 1 = nI l.length ∧ ∀ j w, l[j]? = some w → h 4 (2 * j) = av_hi w ∧ h 4 (2 * j + 1) = av_lo w
def sh_t2 (l : List Int64) (h : av_M) : Prop := h 44 1 = nI l.length ∧ ∀ j w, l[j]? = some w → h 45 (2 * j) = av_hi w ∧ h 45 (2 * j + 1) = av_lo w
theorem sh_app {g : Nat → Int32} {l : List Int64} (v : Int64) (H : ∀ j w, l[j]? = some w → g (2 * j) = av_hi w ∧ g (2 * j + 1) = av_lo w) : ∀ j w, (l ++ [v])[j]? = some w → upd (upd g (2 * l.length) (av_hi v)) (2 * l.length + 1) (av_lo v) (2 * j) = av_hi w ∧ upd (upd g (2 * l.length) (av_hi v)) (2 * l.length + 1) (av_lo v) (2 * j + 1) = av_lo w := by
  intro j w hj
  have hlt : j < (l ++ [v]).length := (List.getElem?_eq_some_iff.mp hj).1
  rw [List.length_append] at hlt
  have hlt : j < l.length + 1 := hlt
  by_cases e : j = l.length
  · subst e
    rw [List.getElem?_append_right (by omega), Nat.sub_self] at hj
    injection hj with hj
    subst hj
    unfold upd
    rw [if_neg (by omega), if_pos rfl, if_pos rfl]
    exact ⟨rfl, rfl⟩
  · rw [List.getElem?_append_left (by omega)] at hj
    unfold upd
    rw [if_neg (by omega), if_neg (by omega), if_neg (by omega), if_neg (by omega)]
    exact H j w hj
theorem sh_t1_nil {h : av_M} (e : h 3 1 = 0) : sh_t1 [] h := ⟨e, fun j w hj => by simp at hj⟩
theorem sh_t2_nil {h : av_M} (e : h 44 1 = 0) : sh_t2 [] h := ⟨e, fun j w hj => by simp at hj⟩
theorem c_clear (d : Nat) (h : av_M) : av_x (d + 1) 8 [.ref 3] h = some (0, 0, av_u h 3 1 0) := eX2_clear_r3_in d h
theorem c_add (d : Nat) (h : av_M) (l : List Int64) (v : Int64) (hl : l.length < 7) (ht : sh_t1 l h) : ∃ h', av_x (d + 1) 9 [.ref 3, .long v] h = some (0, 0, h') ∧ sh_fr [3, 4] h h' ∧ sh_t1 (l ++ [v]) h' := by
  obtain ⟨t1, t2⟩ := ht
  rw [eX2_add_r3_in, t1, if_neg (show ¬ (7 : Int32) ≤ nI l.length from sh_lt (n := 7) hl (by decide)), sh_inb hl (by decide), cond_true, nI_clamp (by omega), nI_1]
  refine ⟨_, rfl, sh_fr_u (by decide) (sh_fr_u (by decide) (sh_fr_u (by decide) (sh_fr_refl _ _))), ?_, ?_⟩
  · show nI (l.length + 1) = nI (l ++ [v]).length
    rw [List.length_append]; rfl
  · exact sh_app v t2
theorem c_tell (d : Nat) (h : av_M) (v : Int64) : ∃ h', av_x (d + 2) 110 [.ref 0, .long v] h = some (0, 0, h') ∧ sh_fr [3, 4] h h' ∧ sh_t1 [v] h' := by
  rw [eX6_tell_r0_in, c_clear]
  simp only [Option.bind_some]
  obtain ⟨h1, e1, f1, t1⟩ := c_add d (av_u h 3 1 0) [] v (by decide) (sh_t1_nil rfl)
  rw [e1]
  exact ⟨h1, rfl, sh_fr_tr (sh_fr_u (by decide) (sh_fr_refl _ _)) f1 (by decide), t1⟩
theorem c_tell2 (d : Nat) (h : av_M) (v w : Int64) : ∃ h', av_x (d + 2) 111 [.ref 0, .long v, .long w] h = some (0, 0, h') ∧ sh_fr [3, 4] h h' ∧ sh_t1 [v, w] h' := by
  rw [eX6_tell__r0_in, c_clear]
  simp only [Option.bind_some]
  obtain ⟨h1, e1, f1, t1⟩ := c_add d (av_u h 3 1 0) [] v (by decide) (sh_t1_nil rfl)
  rw [e1]
  simp only [Option.bind_some]
  obtain ⟨h2, e2, f2, t2⟩ := c_add d h1 _ w (by simp) t1
  rw [e2]
  exact ⟨h2, rfl, sh_fr_tr (sh_fr_tr (sh_fr_u (by decide) (sh_fr_refl _ _)) f1 (by decide)) f2 (by decide), t2⟩
/-! the cells that a question may leave otherwise -/
def sh_C : List Nat := [3, 4, 12, 13, 14, 15, 16, 17, 18, 22, 23, 24, 25, 26, 42]
def sh_D : List Nat := [45, 49, 51, 53, 54, 55, 57, 58, 59, 63, 69, 70, 71, 72]
def sh_c (h h' : av_M) : Prop := sh_fr sh_C h h'
def sh_m (h h' : av_M) : Prop := (∀ a, a ≠ 44 → a ∉ sh_D → h' a = h a) ∧ ∀ j, 2 ≤ j → j < 44 → h' 44 j = h 44 j
theorem sh_c_refl (h : av_M) : sh_c h h := sh_fr_refl _ _
theorem sh_c_of {S : List Nat} {h h' : av_M} (hf : sh_fr S h h') (hs : ∀ a, a ∈ S → a ∈ sh_C) : sh_c h h' := sh_fr_up hf hs
theorem sh_c_tr {h h' h2 : av_M} (h1 : sh_c h h') (h3 : sh_c h' h2) : sh_c h h2 := sh_fr_tr h1 h3 (fun _ q => q)
theorem sh_c_u {h h' : av_M} {a k : Nat} {v : Int32} (ha : a ∈ sh_C) (hf : sh_c h h') : sh_c h (av_u h' a k v) := sh_fr_u ha hf
theorem sh_m_refl (h : av_M) : sh_m h h := ⟨fun _ _ _ => rfl, fun _ _ _ => rfl⟩
theorem sh_m_of {S : List Nat} {h h' : av_M} (hf : sh_fr S h h') (hs : ∀ a, a ∈ S → a ∈ sh_D) : sh_m h h' :=
  ⟨fun a _ hb => hf a (fun q => hb (hs a q)), fun j _ _ => by rw [hf 44 (fun q => absurd (hs 44 q) (by decide))]⟩
theorem sh_m_tr {h h' h2 : av_M} (h1 : sh_m h h') (h3 : sh_m h' h2) : sh_m h h2 :=
  ⟨fun a ha hb => (h3.1 a ha hb).trans (h1.1 a ha hb), fun j ha hb => (h3.2 j ha hb).trans (h1.2 j ha hb)⟩
theorem sh_m_u {h h' : av_M} {a k : Nat} {v : Int32} (ha : a ∈ sh_D) (hf : sh_m h h') : sh_m h (av_u h' a k v) :=
  sh_m_tr hf (sh_m_of (S := [a]) (sh_fr_u (by simp) (sh_fr_refl _ _)) (fun b hb => by rw [List.mem_singleton] at hb; rw [hb]; exact ha))
theorem sh_m_s {h h' : av_M} {k : Nat} {v : Int32} (hk : k < 2 ∨ 44 ≤ k) (hf : sh_m h h') : sh_m h (av_u h' 44 k v) := by
  refine sh_m_tr hf ⟨fun a ha _ => av_u_ne ha, fun j h1 h2 => ?_⟩
  rw [av_u_eq]
  unfold upd
  rw [if_neg (by omega)]
theorem c_enters (d : Nat) (h : av_M) (l : List Int64) (v : Int64) (hl : l.length < 24) (ht : sh_t2 l h) : ∃ h', av_x (d + 1) 162 [.ref 44, .long v] h = some (0, 0, h') ∧ sh_m h h' ∧ sh_fr [44, 45] h h' ∧ sh_t2 (l ++ [v]) h' := by
  obtain ⟨t1, t2⟩ := ht
  rw [eX7_enters_r44_in, t1, sh_inb hl (by decide), cond_true, nI_clamp (by omega), nI_1]
  refine ⟨_, rfl, sh_m_s (by decide) (sh_m_u (by decide) (sh_m_u (by decide) (sh_m_refl _))), sh_fr_u (by decide) (sh_fr_u (by decide) (sh_fr_u (by decide) (sh_fr_refl _ _))), ?_, ?_⟩
  · show nI (l.length + 1) = nI (l ++ [v]).length
    rw [List.length_append]; rfl
  · exact sh_app v t2
/-- one number told, from an empty row on -/
theorem c_ent1 (d : Nat) (h : av_M) (v : Int64) (e : h 44 1 = 0) : ∃ h', av_x (d + 1) 162 [.ref 44, .long v] h = some (0, 0, h') ∧ sh_m h h' ∧ sh_fr [44, 45] h h' ∧ sh_t2 [v] h' := c_enters d h [] v (by decide) (sh_t2_nil e)
theorem sh_t1_fr {l : List Int64} {S : List Nat} {h h' : av_M} (hf : sh_fr S h h') (h1 : 3 ∉ S) (h2 : 4 ∉ S) (ht : sh_t1 l h) : sh_t1 l h' := by
  unfold sh_t1 at ht ⊢
  rw [hf 3 h1, hf 4 h2]
  exact ht
theorem sh_t2_fr {l : List Int64} {S : List Nat} {h h' : av_M} (hf : sh_fr S h h') (h1 : 44 ∉ S) (h2 : 45 ∉ S) (ht : sh_t2 l h) : sh_t2 l h' := by
  unfold sh_t2 at ht ⊢
  rw [hf 44 h1, hf 45 h2]
  exact ht
theorem sh_PT_of {l : List Int64} {h : av_M} (hl : l.length ≤ 7) (h1 : sh_t1 l h) (h2 : sh_t2 l h) : sh_PT h := by
  refine ⟨l.length, hl, h1.1, h2.1, ?_⟩
  intro j hj
  have hi : j / 2 < l.length := by omega
  have hw : l[j / 2]? = some l[j / 2] := List.getElem?_eq_getElem hi
  have a1 := h1.2 _ _ hw
  have a2 := h2.2 _ _ hw
  by_cases e : j % 2 = 0
  · rw [show j = 2 * (j / 2) by omega, a1.1, a2.1]
  · rw [show j = 2 * (j / 2) + 1 by omega, a1.2, a2.2]
