/-! PURE, 76: calls: rule, 2: the class takes a sign -/
theorem sh_cE {c k : Nat} (hc : c < 257) (hk : k < 257) : nI c = nI k ↔ c = k := nI_eq (by omega) (by omega)
def sh_TK (d k : Nat) (p : Value) (o w : List Nat) (r : Option sh_Y) (h : av_M) : Prop := (r = none → av_x d k [.ref 23, p] h = some (0, 0, h)) ∧ ∀ s, r = some s → ∃ h', av_x d k [.ref 23, p] h = some (1, 0, h') ∧ sh_fr [23, 24, 25] h h' ∧ sh_YS s h' ∧ s.1.length + s.2.1.length ≤ o.length + w.length + 1
theorem sh_TK_n {d k : Nat} {p : Value} {o w : List Nat} {h : av_M} (e : av_x d k [.ref 23, p] h = some (0, 0, h)) : sh_TK d k p o w none h := ⟨fun _ => e, fun _ z => (nomatch z)⟩
theorem sh_TK_s {d k : Nat} {p : Value} {o w : List Nat} {s : sh_Y} {h h' : av_M} (e : av_x d k [.ref 23, p] h = some (1, 0, h')) (f : sh_fr [23, 24, 25] h h') (Y : sh_YS s h') (l : s.1.length + s.2.1.length ≤ o.length + w.length + 1) : sh_TK d k p o w (some s) h := ⟨fun z => (nomatch z), fun t z => by cases z; exact ⟨h', e, f, Y, l⟩⟩
theorem c_takeT (d c : Nat) (hc : c < 256) {o w : List Nat} {n : Nat} {cm : Nat → Bool} {dg : Nat} {h : av_M} (H : sh_YX o w n cm dg true h) (hl : o.length + w.length < 40) : sh_TK (d + 4) 13 (.int (nI c)) o w (sh_yd c (o, w, n, cm, dg, true)) h := by
  obtain ⟨e3, eo, e4, ew, e5, n4, ecm, e7, e8, hw⟩ := id H
  have yd : sh_yd c (o, w, n, cm, dg, true) = if c = 45 then some (o, 256 :: w, n, cm, dg, true) else if c = 40 then (if n < 4 then some (o, 40 :: w, n + 1, sh_ub cm (n + 1) false, dg, true) else none) else if 48 ≤ c ∧ c ≤ 57 then some ((c - 48) :: o, w, n, cm, 1, false) else if sh_nm c = true then some ((1000 + c) :: o, w, n, cm, 0, false) else none := rfl
  rw [yd]
  by_cases g1 : c = 45
  · have K : av_x (d + 4) 13 [.ref 23, .int (nI c)] h = some (1, 0, av_u (av_u h 25 w.length (nI 256)) 23 4 (nI (w.length + 1))) := by
      rw [eX3_takeThing_r23_in, if_pos (show nI c = 45 by rw [g1]; rfl), show (256 : Int32) = nI 256 from rfl, c_holdY (d + 2) w.length (nI 256) h (by omega) e4]
      rfl
    rw [if_pos g1]
    refine sh_TK_s K (sh_fr_u (by decide) (sh_fr_u (by decide) (sh_fr_refl _ _))) ?_ (by simp; omega)
    exact ⟨e3, eo, rfl, sh_ls_u (g := id) ew, e5, n4, ecm, fun z => (nomatch z), e8, List.forall_mem_cons.mpr ⟨by decide, hw⟩⟩
  rw [if_neg g1]
  have q1 : ¬ nI c = 45 := fun z => g1 ((sh_cE (k := 45) (by omega) (by decide)).mp z)
  by_cases g2 : c = 40
  · rw [if_pos g2]
    by_cases g : n < 4
    · have K : av_x (d + 4) 13 [.ref 23, .int (nI c)] h = some (1, 0, av_u (av_u (av_u (av_u h 23 5 (nI (n + 1))) 23 6 ((h 23 6) &&& (((1 : Int32) <<< (nI (n + 1) &&& 31)) ^^^ (-1)))) 25 w.length (nI 40)) 23 4 (nI (w.length + 1))) := by
        rw [eX3_takeThing_r23_in, if_neg q1, if_pos (show nI c = 40 by rw [g2]; rfl), eX3_open_r23_in, e5, if_pos (show nI n < 4 from nI_lt (b := 4) g (by decide)), nI_1, show (40 : Int32) = nI 40 from rfl, c_holdY (d + 1) w.length (nI 40) (av_u (av_u h 23 5 (nI (n + 1))) 23 6 ((h 23 6) &&& (((1 : Int32) <<< (nI (n + 1) &&& 31)) ^^^ (-1)))) (by omega) e4]
        simp only [Option.bind_some, sh_111]
      rw [if_pos g]
      refine sh_TK_s K (sh_fr_u (by decide) (sh_fr_u (by decide) (sh_fr_u (by decide) (sh_fr_u (by decide) (sh_fr_refl _ _))))) ?_ (by simp; omega)
      refine ⟨e3, eo, rfl, sh_ls_u (g := id) ew, rfl, by show n + 1 ≤ 4; omega, ?_, fun z => (nomatch z), e8, List.forall_mem_cons.mpr ⟨by decide, hw⟩⟩
      intro i hi
      show bt ((h 23 6) &&& (((1 : Int32) <<< (nI (n + 1) &&& 31)) ^^^ (-1))) i = sh_ub cm (n + 1) false i
      rw [b_and, b_xor, sh_bit1 (by omega) (by omega), b_m1 i (by omega), ecm i hi]
      unfold sh_ub
      by_cases e : i = n + 1
      · rw [if_pos e, decide_eq_true e]; simp
      · rw [if_neg e, decide_eq_false e]; simp
    · have K : av_x (d + 4) 13 [.ref 23, .int (nI c)] h = some (0, 0, h) := by
        rw [eX3_takeThing_r23_in, if_neg q1, if_pos (show nI c = 40 by rw [g2]; rfl), eX3_open_r23_in, e5, if_neg (show ¬ nI n < 4 from nI_nlt (b := 4) (by omega) (by omega))]
        simp only [Option.bind_some, sh_001]
      rw [if_neg g]
      exact sh_TK_n K
  rw [if_neg g2]
  have q2 : ¬ nI c = 40 := fun z => g2 ((sh_cE (k := 40) (by omega) (by decide)).mp z)
  by_cases g3 : 48 ≤ c ∧ c ≤ 57
  · have K : av_x (d + 4) 13 [.ref 23, .int (nI c)] h = some (1, 0, av_u (av_u (av_u (av_u h 24 o.length (nI (c - 48))) 23 3 (nI (o.length + 1))) 23 7 1) 23 8 0) := by
      rw [eX3_takeThing_r23_in, if_neg q1, if_neg q2, if_neg (show ¬ nI c < 48 from nI_nlt (b := 48) g3.1 (by omega)), if_neg (show ¬ (57 : Int32) < nI c from nI_nlt (a := 57) g3.2 (by decide)), show nI c - 48 = nI (c - 48) from nI_sub (b := 48) g3.1, c_emitY (d + 2) o.length _ h (by omega) e3]
      rfl
    rw [if_pos g3]
    refine sh_TK_s K (sh_fr_u (by decide) (sh_fr_u (by decide) (sh_fr_u (by decide) (sh_fr_u (by decide) (sh_fr_refl _ _))))) ?_ (by simp; omega)
    exact ⟨rfl, sh_ls_u (g := id) eo, e4, ew, e5, n4, ecm, fun _ => ⟨rfl, by show (1 : Nat) ≤ 3; decide⟩, rfl, hw⟩
  rw [if_neg g3]
  have K : av_x (d + 4) 13 [.ref 23, .int (nI c)] h = if sh_nm c = true then some (1, 0, av_u (av_u (av_u (av_u h 24 o.length (nI (1000 + c))) 23 3 (nI (o.length + 1))) 23 7 0) 23 8 0) else some (0, 0, h) := by
    rw [eX3_takeThing_r23_in, if_neg q1, if_neg q2]
    by_cases g4 : c < 48
    · rw [if_pos (show nI c < 48 from nI_lt (b := 48) g4 (by decide)), c_isNm (d + 2) c hc]
      simp only [Option.bind_some]
      cases hn : sh_nm c
      · rfl
      · rw [if_neg (show ¬ sh_i true = 0 by decide), show (1000 : Int32) + nI c = nI (1000 + c) from nI_add 1000 c, c_emitY (d + 2) o.length _ h (by omega) e3]
        rfl
    · rw [if_neg (show ¬ nI c < 48 from nI_nlt (b := 48) (by omega) (by omega)), if_pos (show (57 : Int32) < nI c from nI_lt (a := 57) (by omega) (by omega)), c_isNm (d + 2) c hc]
      simp only [Option.bind_some]
      cases hn : sh_nm c
      · rfl
      · rw [if_neg (show ¬ sh_i true = 0 by decide), show (1000 : Int32) + nI c = nI (1000 + c) from nI_add 1000 c, c_emitY (d + 2) o.length _ h (by omega) e3]
        rfl
  by_cases g5 : sh_nm c = true
  · rw [if_pos g5] at K ⊢
    refine sh_TK_s K (sh_fr_u (by decide) (sh_fr_u (by decide) (sh_fr_u (by decide) (sh_fr_u (by decide) (sh_fr_refl _ _))))) ?_ (by simp; omega)
    exact ⟨rfl, sh_ls_u (g := id) eo, e4, ew, e5, n4, ecm, fun _ => ⟨rfl, by show (0 : Nat) ≤ 3; decide⟩, rfl, hw⟩
  · rw [if_neg g5] at K ⊢
    exact sh_TK_n K
theorem c_digY (d c : Nat) (hc : 48 ≤ c ∧ c ≤ 57) {o w : List Nat} {n : Nat} {cm : Nat → Bool} {dg : Nat} {h : av_M} (H : sh_YX o w n cm dg false h) (hl : o.length + w.length < 40) : sh_TK (d + 1) 14 (.int (nI (c - 48))) o w (if 1 ≤ dg ∧ dg ≤ 2 ∧ 1 ≤ o.length then some (sh_y10 c o, w, n, cm, dg + 1, false) else none) h := by
  obtain ⟨e3, eo, e4, ew, e5, n4, ecm, e70, e8, hw⟩ := id H
  obtain ⟨e7, hdg⟩ := e70 rfl
  by_cases g : 1 ≤ dg ∧ dg ≤ 2 ∧ 1 ≤ o.length
  · obtain ⟨g1, g2, g3⟩ := id g
    rw [if_pos g]
    cases o with
    | nil => exact absurd g3 (by decide)
    | cons a o =>
      have e3' : h 23 3 = nI (o.length + 1) := e3
      have hl' : o.length + 1 + w.length < 40 := by simpa using hl
      have et : h 24 o.length = nI a := eo.1
      have K : av_x (d + 1) 14 [.ref 23, .int (nI (c - 48))] h = some (1, 0, av_u (av_u h 24 o.length (nI (10 * a + (c - 48)))) 23 7 (nI (dg + 1))) := by
        rw [eX3_takeDigit_r23_in, e7, if_neg (show ¬ nI dg < 1 from nI_nlt (b := 1) g1 (by omega)), if_neg (show ¬ (2 : Int32) < nI dg from nI_nlt (a := 2) g2 (by decide)), e3', if_pos (show (1 : Int32) ≤ nI (o.length + 1) from nI_le (a := 1) (by omega) (by omega)), nI_pred, sh_inb (show o.length < 40 by omega) (by decide), cond_true, cond_true, nI_clamp (by omega), et, show (10 : Int32) * nI a = nI (10 * a) from nI_mul 10 a, nI_add, nI_1, sh_111]
      refine sh_TK_s K (sh_fr_u (by decide) (sh_fr_u (by decide) (sh_fr_refl _ _))) ?_ (by show (o.length + 1) + w.length ≤ (o.length + 1) + w.length + 1; omega)
      exact ⟨e3', sh_ls_u (g := id) eo.2, e4, ew, e5, n4, ecm, fun _ => ⟨rfl, by show dg + 1 ≤ 3; omega⟩, e8, hw⟩
  · rw [if_neg g]
    refine sh_TK_n ?_
    rw [eX3_takeDigit_r23_in, e7]
    by_cases g1 : 1 ≤ dg
    · rw [if_neg (show ¬ nI dg < 1 from nI_nlt (b := 1) g1 (by omega))]
      by_cases g2 : dg ≤ 2
      · rw [if_neg (show ¬ (2 : Int32) < nI dg from nI_nlt (a := 2) g2 (by decide)), e3, if_neg (show ¬ (1 : Int32) ≤ nI o.length from nI_ge (b := 1) (by omega) (by decide))]
        rfl
      · rw [if_pos (show (2 : Int32) < nI dg from nI_lt (a := 2) (by omega) (by omega))]
        rfl
    · rw [if_pos (show nI dg < 1 from nI_lt (b := 1) (by omega) (by decide))]
      rfl
theorem c_closeY (d : Nat) {o w : List Nat} {n : Nat} {cm : Nat → Bool} {dg : Nat} {h : av_M} (H : sh_YX o w n cm dg false h) (hl : o.length + w.length < 40) : (n = 0 → av_x (d + 3) 17 [.ref 23] h = some (0, 0, h)) ∧ (n ≠ 0 → ∃ h', av_x (d + 3) 17 [.ref 23] h = some (1, 0, h') ∧ sh_fr [23, 24, 25] h h' ∧ sh_YX (sh_yr 1 w o).2 (sh_yr 1 w o).1.tail (n - 1) cm 0 false h') := by
  obtain ⟨e3, eo, e4, ew, e5, n4, ecm, e7, e8, hw⟩ := id H
  refine ⟨fun g => ?_, fun g => ?_⟩
  · rw [eX3_close_r23_in, e5, if_pos (show nI n = 0 by rw [g]; rfl)]
    rfl
  · obtain ⟨h1, r1, r2, r3, r4, r5, r6, r7⟩ := c_relY d 1 (by decide) w o h (by omega) e3 eo e4 ew hw
    have hm := sh_yr_mem 1 w o
    have hlen := sh_yr_len 1 w o
    have R : av_x (d + 2) 18 [.ref 23, .int 1] h = some (0, 0, h1) := by rw [eX3_release_r23_in]; exact r1
    generalize sh_yr 1 w o = P at r2 r3 r4 r5 hm hlen ⊢
    obtain ⟨w1, o1⟩ := P
    have f5 : h1 23 5 = nI n := by rw [r7 5 (by decide) (by decide)]; exact e5
    have f6 : h1 23 6 = h 23 6 := r7 6 (by decide) (by decide)
    have f8 : h1 23 8 = 0 := by rw [r7 8 (by decide) (by decide), e8]; rfl
    have n1 : nI n - 1 = nI (n - 1) := nI_sub (b := 1) (by omega)
    rw [eX3_close_r23_in, e5, if_neg (nI_ne0 (by omega) (by omega)), R]
    simp only [Option.bind_some]
    cases w1 with
    | nil =>
      have r4' : h1 23 4 = nI 0 := r4
      rw [r4', if_pos (show nI 0 ≤ (0 : Int32) by decide), f5, n1, sh_111]
      refine ⟨_, rfl, sh_fr_tr (sh_fr_up r6 (by decide)) (sh_fr_u (by decide) (sh_fr_u (by decide) (sh_fr_refl _ _))) (fun _ q => q), ?_⟩
      exact ⟨r2, r3, r4, trivial, rfl, by omega, fun i hi => by show bt (h1 23 6) i = cm i; rw [f6]; exact ecm i hi, fun _ => ⟨rfl, by decide⟩, f8, fun a z => absurd z List.not_mem_nil⟩
    | cons a w1 =>
      have r4' : h1 23 4 = nI (w1.length + 1) := r4
      have hl1 : w1.length + 1 + o1.length = w.length + o.length := by simpa using hlen
      rw [r4', if_neg (nI_nle (by omega) (by omega)), f5, n1, nI_pred, sh_111]
      have u5 : (av_u h1 23 4 (nI w1.length)) 23 5 = nI n := f5
      refine ⟨_, rfl, sh_fr_tr (sh_fr_up r6 (by decide)) (sh_fr_u (by decide) (sh_fr_u (by decide) (sh_fr_u (by decide) (sh_fr_refl _ _)))) (fun _ q => q), ?_⟩
      exact ⟨r2, r3, rfl, r5.2, rfl, by omega, fun i hi => by show bt (h1 23 6) i = cm i; rw [f6]; exact ecm i hi, fun _ => ⟨rfl, by decide⟩, f8, fun b z => hw b (hm b (List.mem_cons_of_mem _ z))⟩
