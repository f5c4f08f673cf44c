/-! PURE, 70: calls: sailing, 9: runs of the reference -/
def sh_sH9 (S : Nat) (G : Nat → Nat) (x : Nat) (h H : av_M) : Prop := sh_fr [44] h H ∧ (∀ j, j ∉ [0, 10, 11, 12, 13, 27] → H 44 j = h 44 j) ∧ H 44 10 = 0 ∧ H 44 11 = nI 0 ∧ H 44 12 = nI S ∧ H 44 27 = nI 0
theorem t_runS1 (d x S : Nat) (G : Nat → Nat) (h : av_M) (hS : S = min x 60) (hx : x ≤ 80) (h10 : h 44 10 = nI x) : ∃ H, av_x (d + 6) 217 [.ref 44] h = av_xp (d + 5) 217 19 [.ref 44, .int (nI x), .int 1, .null, .null] [] H ∧ sh_sH9 S G x h H := by
  refine ⟨av_u (av_u (av_u (av_u (av_u (av_u h 44 0 0) 44 10 0) 44 11 0) 44 13 0) 44 12 (nI S)) 44 27 0, ?_, ?_⟩
  · rw [eX7_sailing_r44_in, eX7_begins_r44_in]
    simp only [Option.bind_some]
    rw [show (av_u h 44 0 0) 44 10 = nI x from h10, sh_min60 hx, ← hS]
  · refine ⟨sh_fr_u (by decide) (sh_fr_u (by decide) (sh_fr_u (by decide) (sh_fr_u (by decide) (sh_fr_u (by decide) (sh_fr_u (by decide) (sh_fr_refl _ _)))))), ?_, rfl, rfl, rfl, rfl⟩
    intro j hj
    simp only [List.mem_cons, List.not_mem_nil, or_false, not_or] at hj
    obtain ⟨j0, j10, j11, j12, j13, j15⟩ := hj
    show upd (upd (upd (upd (upd (upd (h 44) 0 0) 10 0) 11 0) 13 0) 12 _) 27 0 j = h 44 j
    unfold upd
    rw [if_neg j15, if_neg j12, if_neg j13, if_neg j11, if_neg j10, if_neg j0]
theorem t_runS2 (d x S q : Nat) (h2 : av_M) (f : av_x (d + 5) 182 [.ref 44, .int (nI x), .int 60, .int (sh_i true)] h2 = some (0, 0, h2)) : sh_AF (d + 5) (nI x) true h2 = ((av_x (d + 5) 197 [.ref 44] h2).bind fun q2 => av_xp (d + 5) 217 64 [.ref 44, .int (nI x), .int (sh_i true), .int 0, .int 0] [] q2.2.2) := by
  unfold sh_AF
  rw [f]
  simp only [Option.bind_some]
  rw [if_pos (show (0 : Int32) ≤ 0 by decide)]
theorem t_runS3 (d x : Nat) (v : Int32) (good : Bool) (h2 : av_M) (hv : ¬ 0 ≤ v) (f : av_x (d + 5) 182 [.ref 44, .int (nI x), .int 60, .int (sh_i good)] h2 = some (v, 0, h2)) : sh_AF (d + 5) (nI x) good h2 = some (v, 0, h2) := by
  unfold sh_AF
  rw [f]
  simp only [Option.bind_some]
  rw [if_neg hv]
