/-! THE START, 4: the first memory -/
def vj_h (scr : Nat → Int32) (L : Nat) : av_M := fun a => match a with
  | 5 => upd (fun _ => 0) 11 3
  | 12 => upd (fun _ => 0) 11 3
  | 19 => upd (fun _ => 0) 3 1
  | 20 => upd (fun _ => 0) 0 1107
  | 23 => upd (fun _ => 0) 3 1
  | 24 => upd (fun _ => 0) 0 1107
  | 30 => upd (fun _ => 0) 3 10
  | 34 => upd (fun _ => 0) 3 12
  | 38 => upd (fun _ => 0) 3 10
  | 48 => upd (fun _ => 0) 31 3
  | 90 => scr
  | 91 => fun _ => nI L
  | _ => fun _ => 0
theorem vj_bt0 (i : Nat) : bt 0 i = false := by unfold bt; exact BitVec.getLsbD_zero
theorem vj_up {n k : Nat} {v : Int32} (h : k ≠ n) : upd (fun _ => (0 : Int32)) n v k = 0 := by unfold upd; rw [if_neg h]
theorem vj_Rel (scr : Nat → Int32) (L : Nat) : sh_Rel 0 (vj_h scr L) := by
  have hB0 : ∀ b : Int, 0 ≤ b → sh_B 0 b 0 := fun b hb => ⟨Int.le_refl _, hb⟩
  have hr : ∀ k, k < 31 → upd (fun _ => (0 : Int32)) 31 3 k = 0 := fun k hk => vj_up (by omega)
  refine ⟨⟨0, upd (fun _ => 0) 31 3, ⟨Nat.zero_le _, rfl, rfl, ⟨fun k hk => ?_, fun k hk => ?_, fun k hk => ?_, fun k hk => ?_, rfl, rfl, rfl, rfl, rfl⟩, rfl, fun i _ => rfl, fun j hj => absurd hj (Nat.not_lt_zero _), ?_⟩, ?_, ?_, ?_, ?_, ?_, ?_, ?_, ?_⟩, ?_⟩
  · rw [hr k (by omega)]; rfl
  · rw [hr (7 + k) (by omega)]; rfl
  · rw [hr (14 + k) (by omega)]; rfl
  · rw [hr (21 + k) (by omega)]; rfl
  · refine ⟨fun k hk => ?_, ?_, ?_, fun i _ _ => ?_, fun i _ _ => ?_⟩
    · rw [hr k (by omega), hr (7 + k) (by omega), hr (14 + k) (by omega), hr (21 + k) (by omega)]
      exact ⟨hB0 _ (by decide), hB0 _ (by decide), hB0 _ (by decide), hB0 _ (by decide)⟩
    · rw [hr 30 (by omega)]; exact hB0 _ (by decide)
    · exact (by decide : (0 : Int) ≤ (3 : Int32).toInt ∧ (3 : Int32).toInt ≤ 9)
    · rw [hr 28 (by omega)]; exact vj_bt0 i
    · rw [hr 29 (by omega)]; exact vj_bt0 i
  · exact ⟨1, 0, rfl, rfl, by decide, by decide, fun k => if k = 0 then 0 else 1, rfl, rfl, fun k _ => by dsimp only; split <;> decide, Or.inl ⟨rfl, rfl, rfl, Or.inl ⟨Or.inr (Or.inl ⟨rfl, rfl⟩), by decide, rfl⟩⟩⟩
  · exact ⟨0, by decide, rfl, rfl, fun j hj => absurd hj (Nat.not_lt_zero _)⟩
  · exact ⟨0, 0, fun _ _ => 0, ⟨by decide, by decide, rfl, rfl, fun i hi => absurd hi (Nat.not_lt_zero _)⟩, ⟨by decide, rfl, fun i hi => absurd hi (Nat.not_lt_zero _)⟩, fun i hi => absurd hi (Nat.not_lt_zero _)⟩
  · refine ⟨0, fun _ => 0, fun _ _ => 0, Nat.le_refl _, rfl, fun p hp => ⟨Nat.le_refl _, rfl, Or.inl rfl, ⟨fun h => ?_, fun h => ?_⟩, fun h => ?_⟩⟩
    · have h : bt 0 p = true := h
      rw [vj_bt0] at h; cases h
    · have h : (0 : Int32) = 1 := h.1
      exact absurd h (by decide)
    · have h : bt 0 p = true := h
      rw [vj_bt0] at h; cases h
  · exact ⟨0, by decide, rfl, rfl, rfl, fun j hj => absurd hj (Nat.not_lt_zero _)⟩
  · exact ⟨0, by decide, rfl, rfl, rfl, fun j hj => absurd hj (Nat.not_lt_zero _)⟩
  · exact ⟨0, by decide, rfl, rfl, rfl, fun j hj => absurd hj (Nat.not_lt_zero _)⟩
  · exact ⟨0, by decide, rfl, fun j hj => absurd hj (Nat.not_lt_zero _)⟩
  · exact ⟨0, by decide, rfl, rfl, fun j hj => absurd hj (Nat.not_lt_zero _)⟩
/-- where the cells lie: what was made from z on, the script at b, the strings -/
def vj_ad (z b : Nat) (st : Nat → Nat) (a : Nat) : Nat := if a < 77 then z + a else if a = 90 then b else st a
theorem vj_l0 : (fun _ : Nat => (0 : Int64)) = fun _ : Nat => av_jn 0 0 := by
  funext _
  decide
set_option maxRecDepth 100000 in
theorem vj_world (z b : Nat) (st : Nat → Nat) (cI cJ cZ : ClassId) (scr : Nat → Int32) (L : Nat) : av_ws (vj_ad z b st) cI cJ cZ (vj_h scr L) = vj_ws z (vjF6 cI cJ cZ z ++ vjF7 cI cJ cZ (z + 44) ++ [.inl (cJ, 1, .inr (.inl (fun _ => 0)))]) := by
  unfold vjF6 vjF7 vjF2
  rw [vj_l0]
  rfl
