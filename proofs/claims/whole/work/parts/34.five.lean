/-! PURE, 24: five acts on both sides -/
def sh_Act (kx km : Nat) (as : List Value) : Prop := ∀ (n : Nat) (r : Nat → Int32), n ≤ 7 → sh_G n r → ∃ (a : Int32) (r' : Nat → Int32), sh_G n r' ∧
  (∀ (d : Nat) (h : av_M), h 5 6 = nI n → h 5 7 = sh_e n → sh_SV 5 h r → ∃ h', av_x (d + 20) kx (.ref 0 :: as) h = some (a, 0, h') ∧ sh_fr [5, 8, 9, 10, 11] h h' ∧ h' 5 6 = nI n ∧ h' 5 7 = sh_e n ∧ sh_SV 5 h' r') ∧
  (∀ (d : Nat) (h : av_M), h 44 3 = nI n → sh_MV 48 h r → ∃ h', av_x (d + 20) km (.ref 44 :: as) h = some (a, 0, h') ∧ sh_fr [48] h h' ∧ sh_MV 48 h' r')
/-- refused -/
theorem sh_Act_no {kx km : Nat} {as : List Value} {n : Nat} {r : Nat → Int32} {a : Int32} (hG : sh_G n r) (eX : ∀ (d : Nat) (h : av_M), h 5 6 = nI n → sh_SV 5 h r → av_x (d + 20) kx (.ref 0 :: as) h = some (a, 0, h)) (eM : ∀ (d : Nat) (h : av_M), h 44 3 = nI n → sh_MV 48 h r → av_x (d + 20) km (.ref 44 :: as) h = some (a, 0, h)) :
    ∃ (a : Int32) (r' : Nat → Int32), sh_G n r' ∧
  (∀ (d : Nat) (h : av_M), h 5 6 = nI n → h 5 7 = sh_e n → sh_SV 5 h r → ∃ h', av_x (d + 20) kx (.ref 0 :: as) h = some (a, 0, h') ∧ sh_fr [5, 8, 9, 10, 11] h h' ∧ h' 5 6 = nI n ∧ h' 5 7 = sh_e n ∧ sh_SV 5 h' r') ∧
  (∀ (d : Nat) (h : av_M), h 44 3 = nI n → sh_MV 48 h r → ∃ h', av_x (d + 20) km (.ref 44 :: as) h = some (a, 0, h') ∧ sh_fr [48] h h' ∧ sh_MV 48 h' r') :=
  ⟨a, r, hG, fun d h h1 h2 h3 => ⟨h, eX d h h1 h3, sh_fr_refl _ _, h1, h2, h3⟩, fun d h h1 h3 => ⟨h, eM d h h1 h3, sh_fr_refl _ _, h3⟩⟩
/-- one number of the sail becomes another one -/
theorem sh_Act_u {kx km : Nat} {as : List Value} {n i b s : Nat} {r : Nat → Int32} {a v : Int32} (hG : sh_G n (upd r i v)) (hi : (i < 28 ∧ b = 5 + 3 + i / 7 ∧ s = i % 7) ∨ (28 ≤ i ∧ i < 33 ∧ b = 5 ∧ s = i - 20)) (eX : ∀ (d : Nat) (h : av_M), h 5 6 = nI n → h 5 7 = sh_e n → sh_SV 5 h r → av_x (d + 20) kx (.ref 0 :: as) h = some (a, 0, av_u h b s v)) (eM : ∀ (d : Nat) (h : av_M), h 44 3 = nI n → sh_MV 48 h r → av_x (d + 20) km (.ref 44 :: as) h = some (a, 0, av_u h 48 i v)) :
    ∃ (a : Int32) (r' : Nat → Int32), sh_G n r' ∧
  (∀ (d : Nat) (h : av_M), h 5 6 = nI n → h 5 7 = sh_e n → sh_SV 5 h r → ∃ h', av_x (d + 20) kx (.ref 0 :: as) h = some (a, 0, h') ∧ sh_fr [5, 8, 9, 10, 11] h h' ∧ h' 5 6 = nI n ∧ h' 5 7 = sh_e n ∧ sh_SV 5 h' r') ∧
  (∀ (d : Nat) (h : av_M), h 44 3 = nI n → sh_MV 48 h r → ∃ h', av_x (d + 20) km (.ref 44 :: as) h = some (a, 0, h') ∧ sh_fr [48] h h' ∧ sh_MV 48 h' r') := by
  refine ⟨a, upd r i v, hG, fun d h h1 h2 h3 => ⟨_, eX d h h1 h2 h3, sh_fr_u ?_ (sh_fr_refl _ _), ?_, ?_, sh_SV_u h3 hi⟩, fun d h h1 h3 => ⟨_, eM d h h1 h3, sh_fr_u (by decide) (sh_fr_refl _ _), sh_MV_u v h3⟩⟩
  · have : b = 5 ∨ b = 8 ∨ b = 9 ∨ b = 10 ∨ b = 11 := by omega
    simp only [List.mem_cons, List.not_mem_nil, or_false]
    exact this
  · unfold av_u upd
    by_cases e : 5 = b
    · rw [if_pos e, if_neg (by omega), ← e]; exact h1
    · rw [if_neg e]; exact h1
  · unfold av_u upd
    by_cases e : 5 = b
    · rw [if_pos e, if_neg (by omega), ← e]; exact h2
    · rw [if_neg e]; exact h2
theorem sh_abs0 : ∀ b, b < 10 → ∀ c, c < 10 → (av_abs (nI b - nI c) = 0 ↔ nI c = nI b) := by decide +kernel
theorem sh_09 {v : Int32} (h : sh_ir 0 9 v = true) : ∃ b, b ≤ 9 ∧ v = nI b := by
  obtain ⟨c, _, c2, c3⟩ := sh_ir_nat (lo := 0) (hi := 9) (by decide) (by decide) h
  exact ⟨c, c2, c3⟩
theorem a_runs (p v : Int32) : sh_Act 125 204 [.int p, .int v] := by
  intro n r hn hG
  cases hk : sh_kn n p
  · exact sh_Act_no (a := -1) hG (fun d h h1 _ => by rw [eX6_runTo_r0_in, c_knowsp _ n h p h1, hk]; rfl) (fun d h h1 _ => by rw [eX7_runsTo_r44_in, c_isOne _ n h p hn h1, hk]; rfl)
  · cases hv : sh_ir 0 9 v
    · exact sh_Act_no (a := -1) hG (fun d h h1 _ => by rw [eX6_runTo_r0_in, c_knowsp _ n h p h1, hk]; simp only [Option.bind_some, c_isDigitX, hv]; rfl) (fun d h h1 _ => by rw [eX7_runsTo_r44_in, c_isOne _ n h p hn h1, hk]; simp only [Option.bind_some]; rw [if_neg (by decide), c_inI _ v 0 9 _ _ _ (by decide) (by decide), hv]; rfl)
    · obtain ⟨k, hkn, rfl⟩ := sh_kn_of hn hk
      obtain ⟨b, hb, rfl⟩ := sh_09 hv
      obtain ⟨c, hc, _, ec⟩ := sh_B_nat (N := 9) (hG.1 k (by omega)).2.2.1
      refine sh_Act_u (i := 14 + k) (b := 10) (s := k) (v := nI b) (a := if r (14 + k) = nI b then -2 else av_abs (nI b - r (14 + k))) (sh_G_u hG (by omega) (fun _ _ => sh_B_nI (by omega) (by decide)) (by omega) (by omega) (by omega) (by omega)) (by omega) ?_ ?_
      · intro d h h1 h2 h3
        rw [eX6_runTo_r0_in, c_knowsp _ n h _ h1, hk]
        simp only [Option.bind_some, c_isDigitX, hv]
        rw [if_neg (by decide), if_neg (by decide), sh_inb (show k < 7 by omega) (by decide)]
        simp only [cond_true]
        rw [nI_clamp (by omega), sh_SV_get h3 (a := 10) (s := k) (i := 14 + k) (by omega), ec]
        by_cases e : nI c = nI b
        · rw [if_pos ((sh_abs0 b (by omega) c (by omega)).mpr e), if_pos e]
        · rw [if_neg (fun q => e ((sh_abs0 b (by omega) c (by omega)).mp q)), if_neg e]
      · intro d h h1 h3
        rw [eX7_runsTo_r44_in, c_isOne _ n h _ hn h1, hk]
        simp only [Option.bind_some]
        rw [if_neg (by decide), c_inI _ _ 0 9 _ _ _ (by decide) (by decide), hv]
        simp only [Option.bind_some]
        rw [if_neg (by decide), show (14 : Int32) + nI k = nI (14 + k) from nI_add 14 k, sh_inb (show 14 + k < 33 by omega) (by decide)]
        simp only [cond_true]
        rw [nI_clamp (by omega), h3 (14 + k) (by omega)]
        by_cases e : r (14 + k) = nI b
        · rw [if_pos e, if_pos e]
        · rw [if_neg e, if_neg e]
theorem a_rates (p v : Int32) : sh_Act 126 205 [.int p, .int v] := by
  intro n r hn hG
  cases hk : sh_kn n p
  · exact sh_Act_no (a := -1) hG (fun d h h1 _ => by rw [eX6_setRate_r0_in, c_knowsp _ n h p h1, hk]; rfl) (fun d h h1 _ => by rw [eX7_ratesTo_r44_in, c_isOne _ n h p hn h1, hk]; rfl)
  · cases hv : sh_ir 0 9 v
    · exact sh_Act_no (a := -1) hG (fun d h h1 _ => by rw [eX6_setRate_r0_in, c_knowsp _ n h p h1, hk]; simp only [Option.bind_some, c_isDigitX, hv]; rfl) (fun d h h1 _ => by rw [eX7_ratesTo_r44_in, c_isOne _ n h p hn h1, hk]; simp only [Option.bind_some]; rw [if_neg (by decide), c_inI _ v 0 9 _ _ _ (by decide) (by decide), hv]; rfl)
    · obtain ⟨k, hkn, rfl⟩ := sh_kn_of hn hk
      obtain ⟨b, hb, rfl⟩ := sh_09 hv
      refine sh_Act_u (i := 7 + k) (b := 9) (s := k) (v := nI b) (a := if r (7 + k) = nI b then -2 else 10 + r (7 + k)) (sh_G_u hG (by omega) (fun _ _ => sh_B_nI (by omega) (by decide)) (by omega) (by omega) (by omega) (by omega)) (by omega) ?_ ?_
      · intro d h h1 h2 h3
        rw [eX6_setRate_r0_in, c_knowsp _ n h _ h1, hk]
        simp only [Option.bind_some, c_isDigitX, hv]
        rw [if_neg (by decide), if_neg (by decide), sh_inb (show k < 7 by omega) (by decide)]
        simp only [cond_true]
        rw [nI_clamp (by omega), sh_SV_get h3 (a := 9) (s := k) (i := 7 + k) (by omega)]
        by_cases e : r (7 + k) = nI b
        · rw [if_pos e, if_pos e]
        · rw [if_neg e, if_neg e]
      · intro d h h1 h3
        rw [eX7_ratesTo_r44_in, c_isOne _ n h _ hn h1, hk]
        simp only [Option.bind_some]
        rw [if_neg (by decide), c_inI _ _ 0 9 _ _ _ (by decide) (by decide), hv]
        simp only [Option.bind_some]
        rw [if_neg (by decide), show (7 : Int32) + nI k = nI (7 + k) from nI_add 7 k, eX7_becomes_r44_in, sh_inb (show 7 + k < 33 by omega) (by decide)]
        simp only [cond_true]
        rw [nI_clamp (by omega), h3 (7 + k) (by omega)]
        by_cases e : r (7 + k) = nI b
        · rw [if_pos e, if_pos e]; rfl
        · rw [if_neg e, if_neg e, Int32.add_comm]; rfl
theorem a_speed (v : Int32) : sh_Act 129 208 [.int v] := by
  intro n r hn hG
  cases hv : sh_ir 0 9 v
  · exact sh_Act_no (a := -1) hG (fun d h h1 _ => by rw [eX6_setSpeed_r0_in, c_isDigitX, hv]; rfl) (fun d h h1 _ => by rw [eX7_speedsTo_r44_in, c_inI _ v 0 9 _ _ _ (by decide) (by decide), hv]; rfl)
  · obtain ⟨b, hb, rfl⟩ := sh_09 hv
    refine sh_Act_u (i := 31) (b := 5) (s := 11) (v := nI b) (a := if r 31 = nI b then -2 else 10 + r 31) (sh_G_u hG (by omega) (by omega) (by omega) (by omega) (by omega) (fun _ => sh_B_nI (by omega) (by decide))) (by omega) ?_ ?_
    · intro d h h1 h2 h3
      rw [eX6_setSpeed_r0_in, c_isDigitX, hv]
      simp only [Option.bind_some]
      rw [if_neg (by decide), sh_SV_get h3 (a := 5) (s := 11) (i := 31) (by omega)]
      by_cases e : r 31 = nI b
      · rw [if_pos e, if_pos e]
      · rw [if_neg e, if_neg e]
    · intro d h h1 h3
      rw [eX7_speedsTo_r44_in, c_inI _ _ 0 9 _ _ _ (by decide) (by decide), hv]
      simp only [Option.bind_some]
      rw [if_neg (by decide), show (31 : Int32) = nI 31 from rfl, eX7_becomes_r44_in, sh_inb (show 31 < 33 by omega) (by decide)]
      simp only [cond_true]
      rw [nI_clamp (by omega), h3 31 (by omega)]
      by_cases e : r 31 = nI b
      · rw [if_pos e, if_pos e]; rfl
      · rw [if_neg e, if_neg e, Int32.add_comm]; rfl
theorem a_reels (p v : Int32) : sh_Act 127 206 [.int p, .int v] := by
  intro n r hn hG
  cases hk : sh_kn n p
  · exact sh_Act_no (a := -1) hG (fun d h h1 _ => by rw [eX6_fillReel_r0_in, c_knowsp _ n h p h1, hk]; rfl) (fun d h h1 _ => by rw [eX7_reelsMore_r44_in, c_isOne _ n h p hn h1, hk]; rfl)
  · have eM0 : ∀ (d : Nat) (h : av_M), h 44 3 = nI n → av_x (d + 20) 206 [.ref 44, .int p, .int v] h = if sh_ir 1 99 v = true then (cond (av_inb p 33) ((if (h 48 (Int32.toNatClampNeg p) + v) ≤ 99 then (cond (av_inb p 33) ((cond (av_inb p 33) ((cond (av_inb p 33) (some ((((av_u h 48 (Int32.toNatClampNeg p) ((h 48 (Int32.toNatClampNeg p)) + v)) 48 (Int32.toNatClampNeg p)) : Int32), (0 : Int64), (av_u h 48 (Int32.toNatClampNeg p) ((h 48 (Int32.toNatClampNeg p)) + v)))) none)) none)) none) else some (((-2) : Int32), (0 : Int64), h))) none) else some (-1, 0, h) := by
      intro d h h1
      rw [eX7_reelsMore_r44_in, c_isOne _ n h p hn h1, hk]
      simp only [Option.bind_some]
      rw [if_neg (by decide), c_inI _ v 1 99 _ _ _ (by decide) (by decide)]
      simp only [Option.bind_some]
      cases sh_ir 1 99 v <;> rfl
    by_cases g1 : v < 1
    · exact sh_Act_no (a := -1) hG (fun d h h1 _ => by rw [eX6_fillReel_r0_in, c_knowsp _ n h p h1, hk]; simp only [Option.bind_some]; rw [if_neg (by decide), if_pos g1]) (fun d h h1 _ => by rw [eM0 d h h1, sh_ir_lt g1, if_neg (by decide)])
    · by_cases g2 : 99 < v
      · exact sh_Act_no (a := -1) hG (fun d h h1 _ => by rw [eX6_fillReel_r0_in, c_knowsp _ n h p h1, hk]; simp only [Option.bind_some]; rw [if_neg (by decide), if_neg g1, if_neg (by rw [Int32.not_le]; exact g2)]) (fun d h h1 _ => by rw [eM0 d h h1, sh_ir_gt g2, if_neg (by decide)])
      · have g3 : v ≤ 99 := by rw [← Int32.not_lt]; exact g2
        obtain ⟨k, hkn, rfl⟩ := sh_kn_of hn hk
        by_cases e : r k + v ≤ 99
        · have hb : sh_B 0 99 (r k + v) := by
            have b1 := (hG.1 k (by omega)).1
            have b2 : sh_B 1 99 v := by
              rw [Int32.lt_iff_toInt_lt, show (1 : Int32).toInt = 1 by decide] at g1
              rw [Int32.le_iff_toInt_le, show (99 : Int32).toInt = 99 by decide] at g3
              exact ⟨by omega, g3⟩
            have s1 := sh_B_add b1 b2 (by decide) (by decide)
            rw [Int32.le_iff_toInt_le, show (99 : Int32).toInt = 99 by decide] at e
            exact ⟨by have := b1.1; have := b2.1; omega, e⟩
          refine sh_Act_u (i := k) (b := 8) (s := k) (v := r k + v) (a := r k + v) (sh_G_u hG (fun _ => hb) (by omega) (by omega) (by omega) (by omega) (by omega)) (by omega) ?_ ?_
          · intro d h h1 h2 h3
            rw [eX6_fillReel_r0_in, c_knowsp _ n h _ h1, hk]
            simp only [Option.bind_some]
            rw [if_neg (by decide), if_neg g1, if_pos g3, sh_inb (show k < 7 by omega) (by decide)]
            simp only [cond_true]
            rw [nI_clamp (by omega), sh_SV_get h3 (a := 8) (s := k) (i := k) (by omega), if_pos e]
          · intro d h h1 h3
            rw [eM0 d h h1, sh_ir_in g1 g2, if_pos rfl, sh_inb (show k < 33 by omega) (by decide)]
            simp only [cond_true]
            rw [nI_clamp (by omega), h3 k (by omega), if_pos e, av_u_eq, upd_s]
        · refine sh_Act_no (a := -2) hG ?_ ?_
          · intro d h h1 h3
            rw [eX6_fillReel_r0_in, c_knowsp _ n h _ h1, hk]
            simp only [Option.bind_some]
            rw [if_neg (by decide), if_neg g1, if_pos g3, sh_inb (show k < 7 by omega) (by decide)]
            simp only [cond_true]
            rw [nI_clamp (by omega), sh_SV_get h3 (a := 8) (s := k) (i := k) (by omega), if_neg e]
          · intro d h h1 h3
            rw [eM0 d h h1, sh_ir_in g1 g2, if_pos rfl, sh_inb (show k < 33 by omega) (by decide)]
            simp only [cond_true]
            rw [nI_clamp (by omega), h3 k (by omega), if_neg e]
theorem a_drops (p : Int32) : sh_Act 128 207 [.int p] := by
  intro n r hn hG
  cases hk : sh_kn n p
  · exact sh_Act_no (a := -1) hG (fun d h h1 _ => by rw [eX6_turnEnd_r0_in, c_knowsp _ n h p h1, hk]; rfl) (fun d h h1 _ => by rw [eX7_dropsOne_r44_in, c_isOne _ n h p hn h1, hk]; rfl)
  · obtain ⟨k, hkn, rfl⟩ := sh_kn_of hn hk
    cases hb : sh_b (r 28) k
    · refine sh_Act_u (i := 29) (b := 5) (s := 9) (v := r 29 ^^^ ((1 : Int32) <<< (nI k &&& 31))) (a := sh_bc (sh_hd n (upd r 29 (r 29 ^^^ ((1 : Int32) <<< (nI k &&& 31)))))) (sh_G_u hG (by omega) (by omega) (by omega) ?_ (by omega) (by omega)) (by omega) ?_ ?_
      · intro _ j hj h2
        rw [b_xor, hG.2.2.2.2 j hj h2, sh_bit1 (by omega) h2, decide_eq_false (by omega)]
        rfl
      · intro d h h1 h2 h3
        rw [eX6_turnEnd_r0_in, c_knowsp _ n h _ h1, hk]
        simp only [Option.bind_some]
        rw [if_neg (by decide), sh_SV_get h3 (a := 5) (s := 8) (i := 28) (by omega), c_isIn, hb]
        simp only [Option.bind_some]
        rw [if_pos (show sh_i false = 0 from rfl), sh_SV_get h3 (a := 5) (s := 9) (i := 29) (by omega), c_holding5 _ n _ (upd r 29 (r 29 ^^^ ((1 : Int32) <<< (nI k &&& 31)))) (show (av_u h 5 9 (r 29 ^^^ ((1 : Int32) <<< (nI k &&& 31)))) 5 7 = sh_e n from h2) (sh_SV_u h3 (a := 5) (s := 9) (i := 29) (by omega))]
        simp only [Option.bind_some, c_bc]
      · intro d h h1 h3
        rw [eX7_dropsOne_r44_in, c_isOne _ n h _ hn h1, hk]
        simp only [Option.bind_some]
        rw [if_neg (by decide), h3 28 (by omega), c_has, hb]
        simp only [Option.bind_some]
        rw [if_pos (show sh_i false = 0 from rfl), h3 29 (by omega), c_holdingM48 _ n _ (upd r 29 (r 29 ^^^ ((1 : Int32) <<< (nI k &&& 31)))) (show (av_u h 48 29 (r 29 ^^^ ((1 : Int32) <<< (nI k &&& 31)))) 44 3 = nI n from h1) (sh_MV_u _ h3)]
        simp only [Option.bind_some, c_bc]
    · refine sh_Act_no (a := -2) hG ?_ ?_
      · intro d h h1 h3
        rw [eX6_turnEnd_r0_in, c_knowsp _ n h _ h1, hk]
        simp only [Option.bind_some]
        rw [if_neg (by decide), sh_SV_get h3 (a := 5) (s := 8) (i := 28) (by omega), c_isIn, hb]
        rfl
      · intro d h h1 h3
        rw [eX7_dropsOne_r44_in, c_isOne _ n h _ hn h1, hk]
        simp only [Option.bind_some]
        rw [if_neg (by decide), h3 28 (by omega), c_has, hb]
        rfl
