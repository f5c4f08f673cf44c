/-! PURE, 66: calls: sailing, 5: an act on both sides -/
theorem c_digA (d x p : Nat) (G : Nat → Nat) (h : av_M) (hT : sh_TX x G h) (hp : p < 1000) : ∃ v, av_x (d + 2) 51 [.ref 1, .int (nI p)] h = some (v, 0, h) ∧ (p < x → v = sh_dI 0 (G p)) := by
  by_cases q : p < x
  · exact ⟨_, c_digX d x p G h hT q, fun _ => rfl⟩
  · refine ⟨-1, ?_, fun g => absurd g q⟩
    have hx := hT.1
    rw [eX5_digit_r1_in, eX5_at_r1_in, if_neg (show ¬ nI p < 0 from nI_nlt (b := 0) (by omega) (by omega)), hT.2.1, if_neg (nI_nlt (by omega) (by omega))]
    simp only [Option.bind_some]
    rw [if_pos (by decide)]
def sh_KX (n m x : Nat) (G : Nat → Nat) (st c6 c7 r : Nat → Int32) (h : av_M) : Prop := sh_TX x G h ∧ h 5 6 = nI n ∧ h 5 7 = sh_e n ∧ sh_SV 5 h r ∧ h 19 3 = nI m ∧ h 20 = st ∧ h 6 = c6 ∧ h 7 = c7
def sh_KM (n L A : Nat) (G : Nat → Nat) (cd col str r : Nat → Int32) (h : av_M) : Prop := h 44 3 = nI n ∧ sh_MV 48 h r ∧ h 44 18 = nI L ∧ h 52 = cd ∧ h 46 = col ∧ h 47 = str ∧ h 44 27 = nI A ∧ ∀ l, l < A → sh_AV G (sh_ap G l) l h
/-- the act at p on both sides: r before, some row behind -/
def sh_AJ (n m L A x p l : Nat) (G : Nat → Nat) (st c6 c7 cd col str r : Nat → Int32) : Prop := ∃ (ok : Bool) (r' : Nat → Int32), sh_G n r' ∧ (∀ (d : Nat) (h : av_M), sh_KX n m x G st c6 c7 r h → ∃ a h', av_x (d + 25) 123 [.ref 0, .int (nI p)] h = some (a, 0, h') ∧ (0 ≤ a ↔ ok = true) ∧ sh_fr [3, 4, 5, 8, 9, 10, 11, 22] h h' ∧ sh_KX n m x G st c6 c7 r' h') ∧ (∀ (d : Nat) (h : av_M), sh_KM n L A G cd col str r h → ∃ h', av_x (d + 25) 216 [.ref 44, .int (nI l)] h = some (sh_i ok, 0, h') ∧ sh_fr [48, 54, 55] h h' ∧ sh_KM n L A G cd col str r' h')
theorem sh_KM_fr {n L A : Nat} {G : Nat → Nat} {cd col str r r' : Nat → Int32} {h h' : av_M} (f : sh_fr [48, 54, 55] h h') (mv : sh_MV 48 h' r') (H : sh_KM n L A G cd col str r h) : sh_KM n L A G cd col str r' h' := by
  obtain ⟨a1, a2, a3, a4, a5, a6, a7, a8⟩ := H
  exact ⟨by rw [f 44 (by decide)]; exact a1, mv, by rw [f 44 (by decide)]; exact a3, by rw [f 52 (by decide)]; exact a4, by rw [f 46 (by decide)]; exact a5, by rw [f 47 (by decide)]; exact a6, by rw [f 44 (by decide)]; exact a7, fun l hl => sh_AV_s (i := 0) ⟨by rw [f 57 (by decide)], by rw [f 58 (by decide)], by rw [f 59 (by decide)]⟩ (a8 l hl)⟩
theorem sh_KX_fr {n m x : Nat} {G : Nat → Nat} {st c6 c7 r r' : Nat → Int32} {h h' : av_M} (f : sh_fr [3, 4, 5, 8, 9, 10, 11, 22] h h') (e6 : h' 5 6 = nI n) (e7 : h' 5 7 = sh_e n) (sv : sh_SV 5 h' r') (H : sh_KX n m x G st c6 c7 r h) : sh_KX n m x G st c6 c7 r' h' := by
  obtain ⟨a1, a2, a3, a4, a5, a6, a7, a8⟩ := H
  exact ⟨⟨a1.1, by rw [f 1 (by decide)]; exact a1.2.1, by rw [f 2 (by decide)]; exact a1.2.2⟩, e6, e7, sv, by rw [f 19 (by decide)]; exact a5, by rw [f 20 (by decide)]; exact a6, by rw [f 6 (by decide)]; exact a7, by rw [f 7 (by decide)]; exact a8⟩
theorem c_actF {n m L A x p l kx km : Nat} {G : Nat → Nat} {st c6 c7 cd col str r : Nat → Int32} {as : List Value} (hn : n ≤ 7) (hG : sh_G n r) (hA : sh_Act kx km as) (eqX : ∀ (d : Nat) (h : av_M), sh_KX n m x G st c6 c7 r h → av_x (d + 25) 123 [.ref 0, .int (nI p)] h = (av_x (d + 24) kx (.ref 0 :: as) h).bind fun q => some (q.1, 0, q.2.2)) (eqM : ∀ (d : Nat) (h : av_M), sh_KM n L A G cd col str r h → av_x (d + 25) 216 [.ref 44, .int (nI l)] h = (av_x (d + 24) km (.ref 44 :: as) h).bind fun q => if q.1 < 0 then some (0 &&& 1, 0, q.2.2) else some (1 &&& 1, 0, q.2.2)) : sh_AJ n m L A x p l G st c6 c7 cd col str r := by
  obtain ⟨a, r', hG', cX, cM⟩ := hA n r hn hG
  refine ⟨decide (0 ≤ a), r', hG', ?_, ?_⟩
  · intro d h H
    obtain ⟨h', e, f, g6, g7, sv⟩ := cX (d + 4) h H.2.1 H.2.2.1 H.2.2.2.1
    refine ⟨a, h', ?_, ⟨fun z => decide_eq_true z, fun z => of_decide_eq_true z⟩, sh_fr_up f (by decide), sh_KX_fr (sh_fr_up f (by decide)) g6 g7 sv H⟩
    rw [eqX d h H, show d + 24 = d + 4 + 20 from rfl, e]
    rfl
  · intro d h H
    obtain ⟨h', e, f, mv⟩ := cM (d + 4) h H.1 H.2.1
    refine ⟨h', ?_, sh_fr_up f (by decide), sh_KM_fr (sh_fr_up f (by decide)) mv H⟩
    rw [eqM d h H, show d + 24 = d + 4 + 20 from rfl, e]
    simp only [Option.bind_some]
    by_cases g : a < 0
    · rw [if_pos g, decide_eq_false (by rw [Int32.not_le]; exact g), sh_001]; rfl
    · rw [if_neg g, decide_eq_true (by rw [← Int32.not_lt]; exact g), sh_111]; rfl
theorem sh_kd_c : ∀ c, c < 256 → (sh_kd c = 0 → c = 110) ∧ (sh_kd c = 1 → c = 100) ∧ (sh_kd c = 2 → c = 115) ∧ (sh_kd c = 3 → c = 112) ∧ (sh_kd c = 4 → c = 114) ∧ (sh_kd c = 5 → c = 109) := by decide +kernel
/-- an act of the text, of the signs alone -/
def sh_AG (G : Nat → Nat) (p : Nat) : Prop := sh_kd (G p) < 6 ∧ sh_dg 0 (G (p + 1)) = true ∧ (sh_kd (G p) = 3 ∨ sh_kd (G p) = 4 → sh_dg 0 (G (p + 2)) = true) ∧ (sh_kd (G p) = 5 → sh_dg 0 (G (p + 2)) = true ∧ sh_dg 0 (G (p + 3)) = true)
theorem sh_AV_G {G : Nat → Nat} {p i : Nat} {h : av_M} (H : sh_AV G p i h) : sh_AG G p := ⟨H.1, H.2.2.2.1, fun z => (H.2.2.2.2.1 z).1, fun z => ⟨(H.2.2.2.2.2 z).1, (H.2.2.2.2.2 z).2.1⟩⟩
theorem sh_dI_d {c : Nat} (h : sh_dg 0 c = true) : sh_dI 0 c = nI (c - 48) := by
  unfold sh_dg at h
  simp only [Bool.and_eq_true, decide_eq_true_eq] at h
  exact sh_dI_of (by omega) h.2
theorem c_act0 (d x p : Nat) (G : Nat → Nat) (h : av_M) (hT : sh_TX x G h) (hA : sh_AG G p) (hp : p + 1 < x) : ∃ v, (p + 2 < x → v = sh_dI 0 (G (p + 2))) ∧ ∀ (o : Option (Int32 × Int64 × av_M)), (
    (if nI (G p) = 100 then ((av_x (d + 2) 128 [.ref 0, .int (nI (G (p + 1) - 48))] h).bind fun q10 => some ((q10.1 : Int32), (0 : Int64), q10.2.2)) else (if nI (G p) = 101 then some (((-1) : Int32), (0 : Int64), h) else (if nI (G p) = 102 then some (((-1) : Int32), (0 : Int64), h) else (if nI (G p) = 103 then some (((-1) : Int32), (0 : Int64), h) else (if nI (G p) = 104 then some (((-1) : Int32), (0 : Int64), h) else (if nI (G p) = 105 then some (((-1) : Int32), (0 : Int64), h) else (if nI (G p) = 106 then some (((-1) : Int32), (0 : Int64), h) else (if nI (G p) = 107 then some (((-1) : Int32), (0 : Int64), h) else (if nI (G p) = 108 then some (((-1) : Int32), (0 : Int64), h) else (if nI (G p) = 109 then ((av_x (d + 2) 51 [.ref 1, .int (nI (p + 3))] h).bind fun q8 => ((av_x (d + 2) 127 [.ref 0, .int (nI (G (p + 1) - 48)), .int ((10 * v) + q8.1)] q8.2.2).bind fun q9 => some ((q9.1 : Int32), (0 : Int64), q9.2.2))) else (if nI (G p) = 110 then ((av_x (d + 2) 124 [.ref 0, .int (nI (G (p + 1) - 48))] h).bind fun q7 => some ((q7.1 : Int32), (0 : Int64), q7.2.2)) else (if nI (G p) = 111 then some (((-1) : Int32), (0 : Int64), h) else (if nI (G p) = 112 then ((av_x (d + 2) 125 [.ref 0, .int (nI (G (p + 1) - 48)), .int v] h).bind fun q6 => some ((q6.1 : Int32), (0 : Int64), q6.2.2)) else (if nI (G p) = 113 then some (((-1) : Int32), (0 : Int64), h) else (if nI (G p) = 114 then ((av_x (d + 2) 126 [.ref 0, .int (nI (G (p + 1) - 48)), .int v] h).bind fun q5 => some ((q5.1 : Int32), (0 : Int64), q5.2.2)) else (if nI (G p) = 115 then ((av_x (d + 2) 129 [.ref 0, .int (nI (G (p + 1) - 48))] h).bind fun q4 => some ((q4.1 : Int32), (0 : Int64), q4.2.2)) else some (((-1) : Int32), (0 : Int64), h))))))))))))))))) = o) → av_x (d + 3) 123 [.ref 0, .int (nI p)] h = o := by
  have hx := hT.1
  obtain ⟨v, e2, hv⟩ := c_digA d x (p + 2) G h hT (by omega)
  refine ⟨v, hv, ?_⟩
  intro o ho
  rw [eX6_act_r0_in, show nI p + 1 = nI (p + 1) from nI_add _ 1, show nI p + 2 = nI (p + 2) from nI_add _ 2, show nI p + 3 = nI (p + 3) from nI_add _ 3, c_digX d x (p + 1) G h hT hp]
  simp only [Option.bind_some]
  rw [e2]
  simp only [Option.bind_some]
  rw [c_atX (d + 1) x p G h hT (by omega)]
  simp only [Option.bind_some]
  rw [sh_dI_d hA.2.1]
  exact ho
