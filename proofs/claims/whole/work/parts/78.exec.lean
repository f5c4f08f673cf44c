/-! PURE, 68: calls: sailing, 7: the acts done on both sides -/
def sh_bJ (b : Bool) : Int64 := match b with
  | true => 1
  | false => 0
noncomputable def sh_SX (d D : Nat) (bad : Bool) (h : av_M) : Option (Int32 × Int64 × av_M) := if nI D ≤ 0 then ((av_x d 111 [.ref 0, .long (sh_bJ bad), .long (Int32.toInt64 (h 5 10))] (av_u h 1 1 0)).bind fun q1 => some ((nI D : Int32), (0 : Int64), q1.2.2)) else ((av_x d 3 [.ref 27] h).bind fun q3 => ((av_x d 111 [.ref 0, .long (sh_bJ bad), .long (Int32.toInt64 (q3.2.2 5 10))] (av_u q3.2.2 1 1 0)).bind fun q4 => some ((nI D : Int32), (0 : Int64), q4.2.2)))
noncomputable def sh_SM (d D : Nat) (bad : Bool) (h : av_M) : Option (Int32 × Int64 × av_M) := ((av_x d 160 [.int (sh_i bad)] (av_u h 44 1 0)).bind fun q1 => ((av_x d 162 [.ref 44, .long (Int32.toInt64 q1.1)] q1.2.2).bind fun q2 => ((av_x d 162 [.ref 44, .long (Int32.toInt64 (q2.2.2 48 30))] q2.2.2).bind fun q3 => (if nI D ≤ 0 then some ((0 : Int32), (0 : Int64), q3.2.2) else ((av_x d 198 [.ref 44, .int (nI D)] q3.2.2).bind fun q4 => some ((q4.1 : Int32), (0 : Int64), q4.2.2))))))
theorem c_endX (d D x P : Nat) (X : Int32) (bad : Bool) (h : av_M) (h1 : h 1 1 = nI x) (hx : x ≤ 80) (hP : P < 1000) (hb : bad = true ∨ x ≤ P) : av_xp d 64 39 [.ref 0, .int X, .int (nI D), .int (sh_i bad), .int (nI P)] [] h = sh_SX d D bad h := by
  rw [eX6_sailing_r0_39, h1]
  unfold sh_SX
  by_cases g : nI x ≤ nI P
  · rw [if_pos g]
    by_cases g2 : nI D ≤ 0
    · rw [if_pos g2, if_pos g2]
      cases bad
      · rw [if_pos (show sh_i false = 0 from rfl)]; rfl
      · rw [if_neg (show ¬ sh_i true = 0 by decide)]; rfl
    · rw [if_neg g2, if_neg g2]
      cases bad
      · simp only [if_pos (show sh_i false = 0 from rfl)]; rfl
      · simp only [if_neg (show ¬ sh_i true = 0 by decide)]; rfl
  · rw [if_neg g]
    have hb2 : bad = true := by
      rcases hb with hb | hb
      · exact hb
      · exact absurd (sh_ge hb (by omega)) g
    rw [hb2, if_neg (show ¬ sh_i true = 0 by decide)]
    by_cases g2 : nI D ≤ 0
    · rw [if_pos g2, if_pos g2]; rfl
    · rw [if_neg g2, if_neg g2]
      simp only [if_neg (show ¬ sh_i true = 0 by decide)]; rfl
theorem sh_ap_mono (G : Nat → Nat) : ∀ k l, sh_ap G l ≤ sh_ap G (l + k) := by
  intro k
  induction k with
  | zero => intro l; exact Nat.le_refl _
  | succ k ih =>
    intro l
    have := ih l
    have e : sh_ap G (l + (k + 1)) = sh_ap G (l + k) + 1 + sh_wd (G (sh_ap G (l + k))) := rfl
    omega
theorem c_exec {n m L A x : Nat} {G : Nat → Nat} {st c6 c7 cd col str : Nat → Int32} (X Y g z : Int32) (hn : n ≤ 7) (hm : m ≤ 40) (hR : sh_RR m st L cd) (hCC : ∀ rl, sh_hr n c6 c7 rl = sh_hr n col str rl) (hst : ∀ j, j < n → sh_B 0 99 (str j)) (hA : ∀ l, l < A → sh_AG G (sh_ap G l)) (hA6 : A ≤ 30) (hAx : sh_ap G A = x) (hx2 : x ≤ 80) (h256 : ∀ j, j < x → G j < 256) : ∀ T l (r : Nat → Int32), l + T = A → sh_G n r →
    ∃ (D : Nat) (bad : Bool) (ρ : Nat → Int32), sh_G n ρ ∧ D ≤ A ∧
      (∀ (d : Nat) (h : av_M), sh_KX n m x G st c6 c7 r h → ∃ h', av_xp (d + 25) 64 39 [.ref 0, .int X, .int (nI l), .int 0, .int (nI (sh_ap G l))] [] h = sh_SX (d + 25) D bad h' ∧ sh_fr [3, 4, 5, 8, 9, 10, 11, 22] h h' ∧ sh_KX n m x G st c6 c7 ρ h') ∧
      (∀ (d : Nat) (h : av_M), sh_KM n L A G cd col str r h → ∃ h', av_xp (d + 25) 217 64 [.ref 44, .int Y, .int g, .int z, .int (nI l)] [] h = sh_SM (d + 25) D bad h' ∧ sh_fr [48, 54, 55] h h' ∧ sh_KM n L A G cd col str ρ h') := by
  intro T
  induction T with
  | zero =>
    intro l r e hG
    have el : l = A := by omega
    refine ⟨l, false, r, hG, by omega, ?_, ?_⟩
    · intro d h H
      exact ⟨h, c_endX (d + 25) l x (sh_ap G l) X false h H.1.2.1 hx2 (by rw [el, hAx]; omega) (Or.inr (by rw [el, hAx]; exact Nat.le_refl _)), sh_fr_refl _ _, H⟩
    · intro d h H
      refine ⟨h, ?_, sh_fr_refl _ _, H⟩
      have h27 : h 44 27 = nI A := H.2.2.2.2.2.2.1
      rw [eX7_sailing_r44_64, h27, if_pos (sh_ge (by omega) (by omega)), if_pos (sh_ge (by omega) (by omega))]
      rfl
  | succ T ih =>
    intro l r e hG
    have hl : l < A := by omega
    have e1 : sh_ap G (l + 1) = sh_ap G l + 1 + sh_wd (G (sh_ap G l)) := rfl
    have hle : sh_ap G (l + 1) ≤ x := by
      have := sh_ap_mono G (A - (l + 1)) (l + 1)
      rw [show l + 1 + (A - (l + 1)) = A by omega, hAx] at this
      exact this
    have hpx : sh_ap G l < x := by omega
    obtain ⟨ok, r', hG', cX, cM⟩ := c_actJ (A := A) (l := l) hn hG hm hR hCC hst (hA l hl) rfl hl hA6 (x := x) (by omega) hx2 (h256 _ hpx)
    have hd3 := sh_wd3 (G (sh_ap G l))
    have stX : ∀ (d : Nat) (h : av_M), sh_KX n m x G st c6 c7 r h → ∃ h', av_xp (d + 25) 64 39 [.ref 0, .int X, .int (nI l), .int 0, .int (nI (sh_ap G l))] [] h = (if ok = true then av_xp (d + 25) 64 39 [.ref 0, .int X, .int (nI (l + 1)), .int 0, .int (nI (sh_ap G (l + 1)))] [] h' else av_xp (d + 25) 64 39 [.ref 0, .int X, .int (nI l), .int 1, .int (nI (sh_ap G (l + 1)))] [] h') ∧ sh_fr [3, 4, 5, 8, 9, 10, 11, 22] h h' ∧ sh_KX n m x G st c6 c7 r' h' := by
      intro d h H
      obtain ⟨a, h', ea, ha, f, H'⟩ := cX d h H
      refine ⟨h', ?_, f, H'⟩
      have eq : nI (sh_ap G l) + (1 + nI (sh_wd (G (sh_ap G l)))) = nI (sh_ap G (l + 1)) := by
        rw [show (1 : Int32) + nI (sh_wd (G (sh_ap G l))) = nI (1 + sh_wd (G (sh_ap G l))) from nI_add 1 _, nI_add, e1, Nat.add_assoc]
      rw [eX6_sailing_r0_39, H.1.2.1, if_neg (sh_lt hpx (by omega)), if_pos rfl, ea]
      simp only [Option.bind_some]
      rw [c_atX (d + 24) x _ G h' H'.1 hpx]
      simp only [Option.bind_some]
      rw [c_behind (d + 24) _ h' (h256 _ hpx)]
      simp only [Option.bind_some]
      rw [eq, nI_1]
      cases ok
      · rw [if_neg (fun q => absurd (ha.mp q) (by decide)), if_neg (by decide)]
      · rw [if_pos (ha.mpr rfl), if_pos rfl]
    cases ok
    · -- refused
      refine ⟨l, true, r', hG', by omega, ?_, ?_⟩
      · intro d h H
        obtain ⟨h', e', f, H'⟩ := stX d h H
        rw [if_neg (by decide)] at e'
        exact ⟨h', e'.trans (c_endX (d + 25) l x (sh_ap G (l + 1)) X true h' H'.1.2.1 hx2 (by omega) (Or.inl rfl)), f, H'⟩
      · intro d h H
        obtain ⟨h', e', f, H'⟩ := cM d h H
        refine ⟨h', ?_, f, H'⟩
        have h27 : h 44 27 = nI A := H.2.2.2.2.2.2.1
        have k27 : h' 44 27 = nI A := H'.2.2.2.2.2.2.1
        rw [eX7_sailing_r44_64, h27, if_neg (sh_lt hl (by omega)), e']
        simp only [Option.bind_some]
        rw [if_pos (show sh_i false = 0 from rfl), k27, if_neg (sh_lt hl (by omega))]
        rfl
    · obtain ⟨D, bad, ρ, hGρ, hD, iX, iM⟩ := ih (l + 1) r' (by omega) hG'
      refine ⟨D, bad, ρ, hGρ, hD, ?_, ?_⟩
      · intro d h H
        obtain ⟨h', e', f, H'⟩ := stX d h H
        rw [if_pos rfl] at e'
        obtain ⟨h2, e2, f2, H2⟩ := iX d h' H'
        exact ⟨h2, e'.trans e2, sh_fr_tr f f2 (fun _ q => q), H2⟩
      · intro d h H
        obtain ⟨h', e', f, H'⟩ := cM d h H
        obtain ⟨h2, e2, f2, H2⟩ := iM d h' H'
        refine ⟨h2, ?_, sh_fr_tr f f2 (fun _ q => q), H2⟩
        have h27 : h 44 27 = nI A := H.2.2.2.2.2.2.1
        rw [eX7_sailing_r44_64, h27, if_neg (sh_lt hl (by omega)), e']
        simp only [Option.bind_some]
        rw [if_neg (show ¬ sh_i true = 0 by decide), nI_1]
        exact e2
