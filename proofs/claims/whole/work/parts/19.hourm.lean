/-! PURE, 8: the reference's HOUR -/
theorem sh_MV_u {A k : Nat} {h : av_M} {r : Nat → Int32} (v : Int32) (hv : sh_MV A h r) : sh_MV A (av_u h A k v) (upd r k v) := by
  intro i hi
  rw [av_u_eq]
  unfold upd
  by_cases e : i = k
  · rw [if_pos e, if_pos e]
  · rw [if_neg e, if_neg e]; exact hv i hi
theorem sh_MV_fr {A : Nat} {S : List Nat} {h h' : av_M} {r : Nat → Int32} (hf : sh_fr S h h') (hS : A ∉ S) (hv : sh_MV A h r) : sh_MV A h' r := by
  intro i hi
  rw [hf A hS]
  exact hv i hi
theorem sh_MV_id {A k : Nat} {h : av_M} {r : Nat → Int32} {v : Int32} (hk : v = r k) (hv : sh_MV A h r) : sh_MV A (av_u h A k v) r := by
  intro i hi
  rw [av_u_eq]
  unfold upd
  by_cases e : i = k
  · rw [if_pos e, hk, e]
  · rw [if_neg e]; exact hv i hi
theorem sh_MV_cong {A : Nat} {h : av_M} {r r' : Nat → Int32} (hv : sh_MV A h r) (e : ∀ i, i < 33 → r i = r' i) : sh_MV A h r' := fun i hi => (hv i hi).trans (e i hi)
theorem sh_min_comm (x y : Int32) : av_min x y = av_min y x := by
  unfold av_min
  by_cases h1 : y < x
  · have h2 : ¬ x < y := by rw [Int32.lt_iff_toInt_lt] at h1 ⊢; omega
    rw [if_pos h1, if_neg h2]
  · by_cases h2 : x < y
    · rw [if_neg h1, if_pos h2]
    · rw [if_neg h1, if_neg h2]
      rw [Int32.lt_iff_toInt_lt] at h1 h2
      exact Int32.toInt_inj.mp (by omega)
theorem sh_min_le (x y : Int32) : av_min x y ≤ x := by
  unfold av_min
  by_cases h1 : y < x
  · rw [if_pos h1]; rw [Int32.lt_iff_toInt_lt] at h1; rw [Int32.le_iff_toInt_le]; omega
  · rw [if_neg h1]; rw [Int32.le_iff_toInt_le]; omega
theorem sh_min_of_le {x y : Int32} (h : y ≤ x) : av_min x y = y := by
  rw [sh_min_comm]
  unfold av_min
  rw [if_neg]
  rw [Int32.le_iff_toInt_le] at h; rw [Int32.lt_iff_toInt_lt]; omega
/-- no LENGTH over 9999 -/
def sh_L9 (r : Nat → Int32) : Prop := ∀ j, j < 7 → r (21 + j) ≤ 9999
theorem sh_L9_po {H : Int32} {k : Nat} {r : Nat → Int32} (hk : k < 7) (h : sh_L9 r) : sh_L9 (sh_poF H k r) := by
  intro j hj
  unfold sh_poF
  cases hb : sh_b H k
  · exact h j hj
  · show (upd (upd r k _) (21 + k) _) (21 + j) ≤ 9999
    unfold upd
    by_cases e : j = k
    · rw [if_pos (by omega)]; exact sh_min_le _ _
    · rw [if_neg (by omega), if_neg (by omega)]; exact h j hj
theorem sh_po_hi {H : Int32} {j : Nat} (hj : 28 ≤ j) : ∀ (t k : Nat) (r : Nat → Int32), k + t ≤ 7 → sh_lp (sh_poF H) t k r j = r j := by
  intro t
  induction t with
  | zero => intro k r _; rfl
  | succ t ih =>
    intro k r hk
    show sh_lp (sh_poF H) t (k + 1) (sh_poF H k r) j = r j
    rw [ih (k + 1) _ (by omega)]
    unfold sh_poF
    cases hb : sh_b H k
    · rfl
    · show (upd (upd r k _) (21 + k) _) j = r j
      unfold upd
      rw [if_neg (by omega), if_neg (by omega)]
theorem sh_po_t {H : Int32} {k : Nat} {r : Nat → Int32} (hb : sh_b H k = true) : sh_poF H k r = upd (upd r k (r k - av_min (r (7 + k)) (r k))) (21 + k) (av_min 9999 (r (21 + k) + av_min (r (7 + k)) (r k))) := by
  unfold sh_poF
  rw [hb]
theorem sh_po_f {H : Int32} {k : Nat} {r : Nat → Int32} (hb : sh_b H k = false) : sh_poF H k r = r := by
  unfold sh_poF
  rw [hb]
theorem c_pullM48 (d n m L : Nat) (st : Nat → Int32) (h : av_M) (r : Nat → Int32) (i : Nat) (hi : i < n) (hn : n ≤ 7) (hm : h 44 3 = nI n) (hv : sh_MV 48 h r) (hR : sh_RR m st L (h 52)) (hL : h 44 18 = nI L) :
    ∃ h', av_x (d + 4) 194 [.ref 44, .ref 48, .int (nI i)] h = some (sh_rl m st (sh_q n (h 46) (h 47) r i), 0, h') ∧ sh_fr [54, 55] h h' := by
  rw [eX7_pull_r44_r48_in, c_lackM48 (d + 2) h r i (by omega) hv]
  simp only [Option.bind_some]
  rw [sh_inb (show i < 7 by omega) (by decide), sh_inb (show i < 33 by omega) (by decide), show (14 : Int32) + nI i = nI (14 + i) from nI_add 14 i, sh_inb (show 14 + i < 33 by omega) (by decide), cond_true, cond_true, cond_true, nI_clamp (by omega), nI_clamp (by omega), hv i (by omega), hv (14 + i) (by omega), hv 31 (by omega)]
  generalize hh : av_u (av_u (av_u (av_u (av_u h 55 0 (sh_lk r i)) 55 1 (h 47 i)) 55 2 (r i)) 55 3 (r (14 + i))) 55 4 (r 31) = h1
  have f1 : sh_fr [54, 55] h h1 := by
    rw [← hh]
    exact sh_fr_u (by decide) (sh_fr_u (by decide) (sh_fr_u (by decide) (sh_fr_u (by decide) (sh_fr_u (by decide) (sh_fr_refl _ _)))))
  have m1 : h1 44 3 = nI n := by rw [f1 44 (by decide)]; exact hm
  have v1 : sh_MV 48 h1 r := sh_MV_fr f1 (by decide) hv
  rw [c_holdingM48 (d + 1) n h1 r m1 v1]
  simp only [Option.bind_some]
  rw [cond_true, c_ofColourM (d + 2) n h1 _ hn m1]
  simp only [Option.bind_some]
  rw [c_bc (d + 2)]
  simp only [Option.bind_some]
  rw [f1 46 (by decide), sh_cp_bc hn (h 46) r hi, v1 32 (by decide)]
  generalize hh2 : av_u (av_u h1 55 5 (sh_cp n (h 46) r i)) 55 6 (r 32 - r 32 / 7 * 7) = h2
  have f2 : sh_fr [54, 55] h h2 := by
    rw [← hh2]
    exact sh_fr_u (by decide) (sh_fr_u (by decide) f1)
  have hq : ∀ j, j < 7 → h2 55 j = sh_q n (h 46) (h 47) r i j := by
    intro j hj
    rw [← hh2, ← hh]
    match j, hj with
    | 0, _ => rfl
    | 1, _ => rfl
    | 2, _ => rfl
    | 3, _ => rfl
    | 4, _ => rfl
    | 5, _ => rfl
    | 6, _ => rfl
  obtain ⟨v, h3, e3, f3, w3⟩ := c_ruled d m L st h2 _ (by rw [f2 52 (by decide)]; exact hR) (by rw [f2 44 (by decide)]; exact hL) hq
  rw [e3]
  simp only [Option.bind_some]
  rw [w3]
  exact ⟨h3, rfl, sh_fr_tr f2 f3 (by decide)⟩
theorem c_breakM48_l (d n m L : Nat) (st col str : Nat → Int32) (H : Int32) (r : Nat → Int32) (hn : n ≤ 7) : ∀ t k (h : av_M) (a : Int32), k + t = n → h 44 3 = nI n → sh_MV 48 h r → sh_RR m st L (h 52) → h 44 18 = nI L → h 46 = col → h 47 = str →
    ∃ h', av_xp (d + 4) 201 111 [.ref 44, .ref 48, .int H, .int a, .int (nI k)] [] h = some (0, 0, av_u (av_u h' 48 28 (h' 48 28 ||| sh_lp (sh_brF H str (fun i => sh_rl m st (sh_q n col str r i))) t k a)) 48 32 (h' 48 32 + 1)) ∧ sh_fr [54, 55] h h' := by
  intro t
  induction t with
  | zero =>
    intro k h a e hm hv hR hL h46 h47
    rw [eX7_hourGoes_r44_r48_111, hm, if_pos (sh_ge (by omega) (by omega))]
    exact ⟨h, rfl, sh_fr_refl _ _⟩
  | succ t ih =>
    intro k h a e hm hv hR hL h46 h47
    rw [eX7_hourGoes_r44_r48_111, hm, if_neg (sh_lt (by omega) (by omega)), c_has]
    simp only [Option.bind_some, nI_1, Int32.or_zero]
    cases hb : sh_b H k
    · rw [if_pos (show sh_i false = 0 from rfl)]
      obtain ⟨h', e', f'⟩ := ih (k + 1) h a (by omega) hm hv hR hL h46 h47
      refine ⟨h', ?_, f'⟩
      rw [e', show sh_lp (sh_brF H str (fun i => sh_rl m st (sh_q n col str r i))) (t + 1) k a = sh_lp (sh_brF H str (fun i => sh_rl m st (sh_q n col str r i))) t (k + 1) (sh_brF H str (fun i => sh_rl m st (sh_q n col str r i)) k a) from rfl]
      rw [show sh_brF H str (fun i => sh_rl m st (sh_q n col str r i)) k a = a by unfold sh_brF; simp [hb]]
    · rw [if_neg (show ¬ sh_i true = 0 by decide)]
      obtain ⟨h1, e1, f1⟩ := c_pullM48 d n m L st h r k (by omega) hn hm hv hR hL
      rw [e1]
      simp only [Option.bind_some]
      rw [sh_inb (show k < 7 by omega) (by decide), cond_true, nI_clamp (by omega), f1 47 (by decide), h46, h47]
      have go : ∀ b, b = sh_brF H str (fun i => sh_rl m st (sh_q n col str r i)) k a → ∃ h', av_xp (d + 4) 201 111 [.ref 44, .ref 48, .int H, .int b, .int (nI (k + 1))] [] h1 = some (0, 0, av_u (av_u h' 48 28 (h' 48 28 ||| sh_lp (sh_brF H str (fun i => sh_rl m st (sh_q n col str r i))) (t + 1) k a)) 48 32 (h' 48 32 + 1)) ∧ sh_fr [54, 55] h h' := by
        intro b hb
        obtain ⟨h', e', f'⟩ := ih (k + 1) h1 b (by omega) (by rw [f1 44 (by decide)]; exact hm) (sh_MV_fr f1 (by decide) hv) (by rw [f1 52 (by decide)]; exact hR) (by rw [f1 44 (by decide)]; exact hL) (by rw [f1 46 (by decide)]; exact h46) (by rw [f1 47 (by decide)]; exact h47)
        rw [e', hb]
        exact ⟨h', rfl, sh_fr_tr f1 f' (fun _ z => z)⟩
      by_cases hp : sh_rl m st (sh_q n col str r k) ≤ str k
      · rw [if_pos hp]
        exact go _ (by unfold sh_brF; rw [if_neg (fun z => z.2 hp)])
      · rw [if_neg hp]
        exact go _ (by unfold sh_brF; rw [if_pos ⟨hb, hp⟩])
theorem c_payM48_l (d n : Nat) (H : Int32) (hn : n ≤ 7) : ∀ t k (h : av_M) (r : Nat → Int32) (x : Value), k + t = n → h 44 3 = nI n → sh_MV 48 h r → sh_L9 r → (x = .null ∨ ∃ y, x = .int y) →
    ∃ h' y, av_xp (d + 1) 201 8 [.ref 44, .ref 48, .int H, .int (nI k), x] [] h = av_xp (d + 1) 201 8 [.ref 44, .ref 48, .int H, .int (nI n), y] [] h' ∧ (y = .null ∨ ∃ z, y = .int z) ∧ sh_fr [48] h h' ∧ sh_MV 48 h' (sh_lp (sh_poF H) t k r) ∧ sh_L9 (sh_lp (sh_poF H) t k r) := by
  intro t
  induction t with
  | zero =>
    intro k h r x e hm hv h9 hx
    exact ⟨h, x, by rw [show k = n by omega], hx, sh_fr_refl _ _, hv, h9⟩
  | succ t ih =>
    intro k h r x e hm hv h9 hx
    have key : ∀ (h1 : av_M) (y : Int32), sh_fr [48] h h1 → sh_MV 48 h1 (sh_poF H k r) → ∃ h' z, av_xp (d + 1) 201 8 [.ref 44, .ref 48, .int H, .int (nI (k + 1)), .int y] [] h1 = av_xp (d + 1) 201 8 [.ref 44, .ref 48, .int H, .int (nI n), z] [] h' ∧ (z = .null ∨ ∃ y, z = .int y) ∧ sh_fr [48] h h' ∧ sh_MV 48 h' (sh_lp (sh_poF H) (t + 1) k r) ∧ sh_L9 (sh_lp (sh_poF H) (t + 1) k r) := by
      intro h1 y hf hv1
      obtain ⟨h', z, e1, z1, f1, v1, l1⟩ := ih (k + 1) h1 _ (.int y) (by omega) (by rw [hf 44 (by decide)]; exact hm) hv1 (sh_L9_po (by omega) h9) (Or.inr ⟨_, rfl⟩)
      exact ⟨h', z, e1, z1, sh_fr_tr hf f1 (fun _ q => q), v1, l1⟩
    have ek : (21 : Int32) + nI k = nI (21 + k) := nI_add 21 k
    have e7 : (7 : Int32) + nI k = nI (7 + k) := nI_add 7 k
    have vA : h 48 k = r k := hv k (by omega)
    have vB : h 48 (7 + k) = r (7 + k) := hv _ (by omega)
    have vC : h 48 (21 + k) = r (21 + k) := hv _ (by omega)
    have vD : ∀ x, (av_u h 48 (21 + k) x) 48 k = r k := fun x => by rw [av_u_eq]; unfold upd; rw [if_neg (by omega)]; exact vA
    have fin : ∃ h' z, (if sh_i (sh_b H k) = 0 then av_xp (d + 1) 201 8 [.ref 44, .ref 48, .int H, .int (nI (k + 1)), .int 0] [] (av_u (av_u h 48 (21 + k) (av_min 9999 (r (21 + k) + 0))) 48 k (r k - 0)) else av_xp (d + 1) 201 8 [.ref 44, .ref 48, .int H, .int (nI (k + 1)), .int (av_min (r k) (r (7 + k)))] [] (av_u (av_u h 48 (21 + k) (av_min 9999 (r (21 + k) + av_min (r k) (r (7 + k))))) 48 k (r k - av_min (r k) (r (7 + k))))) = av_xp (d + 1) 201 8 [.ref 44, .ref 48, .int H, .int (nI n), z] [] h' ∧ (z = .null ∨ ∃ y, z = .int y) ∧ sh_fr [48] h h' ∧ sh_MV 48 h' (sh_lp (sh_poF H) (t + 1) k r) ∧ sh_L9 (sh_lp (sh_poF H) (t + 1) k r) := by
      have uu : ∀ (a b : Int32) (i j : Nat), sh_fr [48] h (av_u (av_u h 48 i a) 48 j b) := fun a b i j => sh_fr_u (by decide) (sh_fr_u (by decide) (sh_fr_refl _ _))
      cases hb : sh_b H k
      · rw [if_pos (show sh_i false = 0 from rfl)]
        refine key _ _ (uu _ _ _ _) ?_
        rw [sh_po_f hb]
        refine sh_MV_id (by rw [Int32.sub_zero]) (sh_MV_id ?_ hv)
        rw [Int32.add_zero]
        exact sh_min_of_le (h9 k (by omega))
      · rw [if_neg (by decide)]
        refine key _ _ (uu _ _ _ _) ?_
        rw [sh_po_t hb, sh_min_comm (r k)]
        refine sh_MV_cong (sh_MV_u _ (sh_MV_u _ hv)) ?_
        intro i hi
        unfold upd
        by_cases e1 : i = k
        · rw [if_pos e1, if_neg (by omega), if_pos e1]
        · rw [if_neg e1, if_neg e1]
    rcases hx with rfl | ⟨y, rfl⟩
    · rw [eX7_hourGoes_r44_r48_8, hm, if_neg (sh_lt (by omega) (by omega)), c_has]
      simp only [Option.bind_some, ek, e7, sh_inb (show k < 33 by omega) (by decide), sh_inb (show 7 + k < 33 by omega) (by decide), sh_inb (show 21 + k < 33 by omega) (by decide), cond_true, nI_1, nI_clamp (show k < 2 ^ 31 by omega), nI_clamp (show 7 + k < 2 ^ 31 by omega), nI_clamp (show 21 + k < 2 ^ 31 by omega), vA, vB, vC, vD]
      exact fin
    · rw [eX7_hourGoes_r44_r48_8_2, hm, if_neg (sh_lt (by omega) (by omega)), c_has]
      simp only [Option.bind_some, ek, e7, sh_inb (show k < 33 by omega) (by decide), sh_inb (show 7 + k < 33 by omega) (by decide), sh_inb (show 21 + k < 33 by omega) (by decide), cond_true, nI_1, nI_clamp (show k < 2 ^ 31 by omega), nI_clamp (show 7 + k < 2 ^ 31 by omega), nI_clamp (show 21 + k < 2 ^ 31 by omega), vA, vB, vC, vD]
      exact fin
theorem c_hourM48 (d n m L : Nat) (st : Nat → Int32) (h : av_M) (r : Nat → Int32) (hn : n ≤ 7) (hm : h 44 3 = nI n) (hv : sh_MV 48 h r) (h9 : sh_L9 r) (hR : sh_RR m st L (h 52)) (hL : h 44 18 = nI L) :
    ∃ h', av_x (d + 5) 201 [.ref 44, .ref 48] h = some (0, 0, h') ∧ sh_fr [48, 54, 55] h h' ∧ sh_MV 48 h' (sh_hr n (h 46) (h 47) (sh_rl m st) r) ∧ sh_L9 (sh_hr n (h 46) (h 47) (sh_rl m st) r) := by
  rw [eX7_hourGoes_r44_r48_in, c_holdingM48 (d + 2) n h r hm hv]
  simp only [Option.bind_some]
  obtain ⟨h1, y, e1, hy, f1, v1, l1⟩ := c_payM48_l (d + 3) n (sh_hd n r) hn n 0 h r .null (by omega) hm hv h9 (Or.inl rfl)
  have r28 : ∀ j, 28 ≤ j → sh_lp (sh_poF (sh_hd n r)) n 0 r j = r j := fun j hj => sh_po_hi hj n 0 r (by omega)
  generalize hr1 : sh_lp (sh_poF (sh_hd n r)) n 0 r = r1 at v1 l1 r28
  have m1 : h1 44 3 = nI n := by rw [f1 44 (by decide)]; exact hm
  rw [show (0 : Int32) = nI 0 from rfl, e1]
  have stp : av_xp (d + 4) 201 8 [.ref 44, .ref 48, .int (sh_hd n r), .int (nI n), y] [] h1 = av_xp (d + 4) 201 111 [.ref 44, .ref 48, .int (sh_hd n r), .int 0, .int 0] [] (av_u h1 48 30 (av_min 9999 (r1 30 + av_max 0 (r1 31 - sh_w n (h 47) (sh_tt n r1) / 5)))) := by
    rcases hy with rfl | ⟨z, rfl⟩
    · rw [eX7_hourGoes_r44_r48_8, m1, if_pos (sh_ge (by omega) (by omega)), c_dragOf48 d n h1 r1 hn m1 v1]
      simp only [Option.bind_some]
      rw [v1 30 (by decide), v1 31 (by decide), f1 47 (by decide)]
    · rw [eX7_hourGoes_r44_r48_8_2, m1, if_pos (sh_ge (by omega) (by omega)), c_dragOf48 d n h1 r1 hn m1 v1]
      simp only [Option.bind_some]
      rw [v1 30 (by decide), v1 31 (by decide), f1 47 (by decide)]
  rw [stp]
  generalize hw : av_min 9999 (r1 30 + av_max 0 (r1 31 - sh_w n (h 47) (sh_tt n r1) / 5)) = w
  have v2 : sh_MV 48 (av_u h1 48 30 w) (upd r1 30 w) := sh_MV_u w v1
  have f2 : sh_fr [48, 54, 55] h (av_u h1 48 30 w) := sh_fr_u (by decide) (sh_fr_up f1 (by decide))
  have hH : sh_hd n (upd r1 30 w) = sh_hd n r := by
    unfold sh_hd upd
    rw [if_neg (by decide), if_neg (by decide), r28 28 (by decide), r28 29 (by decide)]
  obtain ⟨h3, e3, f3⟩ := c_breakM48_l d n m L st (h 46) (h 47) (sh_hd n r) (upd r1 30 w) hn n 0 (av_u h1 48 30 w) 0 (by omega) (by rw [f2 44 (by decide)]; exact hm) v2 (by rw [f2 52 (by decide)]; exact hR) (by rw [f2 44 (by decide)]; exact hL) (by rw [f2 46 (by decide)]) (by rw [f2 47 (by decide)])
  rw [show (nI 0 : Int32) = 0 from rfl] at e3
  rw [e3]
  have v3 : sh_MV 48 h3 (upd r1 30 w) := sh_MV_fr f3 (by decide) v2
  rw [v3 28 (by decide), v3 32 (by decide)]
  refine ⟨_, rfl, sh_fr_u (by decide) (sh_fr_u (by decide) (sh_fr_tr f2 f3 (by decide))), ?_, ?_⟩
  · have := sh_MV_u (k := 32) (upd r1 30 w 32 + 1) (sh_MV_u (k := 28) (upd r1 30 w 28 ||| sh_lp (sh_brF (sh_hd n r) (h 47) (fun i => sh_rl m st (sh_q n (h 46) (h 47) (upd r1 30 w) i))) n 0 0) v3)
    unfold sh_hr
    rw [hr1]
    dsimp only
    rw [hw, hH]
    exact this
  · unfold sh_hr
    rw [hr1]
    dsimp only
    rw [hw]
    intro j hj
    unfold upd
    rw [if_neg (by omega), if_neg (by omega), if_neg (by omega)]
    exact l1 j hj
theorem c_pullM49 (d n m L : Nat) (st : Nat → Int32) (h : av_M) (r : Nat → Int32) (i : Nat) (hi : i < n) (hn : n ≤ 7) (hm : h 44 3 = nI n) (hv : sh_MV 49 h r) (hR : sh_RR m st L (h 52)) (hL : h 44 18 = nI L) :
    ∃ h', av_x (d + 4) 194 [.ref 44, .ref 49, .int (nI i)] h = some (sh_rl m st (sh_q n (h 46) (h 47) r i), 0, h') ∧ sh_fr [54, 55] h h' := by
  rw [eX7_pull_r44_r49_in, c_lackM49 (d + 2) h r i (by omega) hv]
  simp only [Option.bind_some]
  rw [sh_inb (show i < 7 by omega) (by decide), sh_inb (show i < 33 by omega) (by decide), show (14 : Int32) + nI i = nI (14 + i) from nI_add 14 i, sh_inb (show 14 + i < 33 by omega) (by decide), cond_true, cond_true, cond_true, nI_clamp (by omega), nI_clamp (by omega), hv i (by omega), hv (14 + i) (by omega), hv 31 (by omega)]
  generalize hh : av_u (av_u (av_u (av_u (av_u h 55 0 (sh_lk r i)) 55 1 (h 47 i)) 55 2 (r i)) 55 3 (r (14 + i))) 55 4 (r 31) = h1
  have f1 : sh_fr [54, 55] h h1 := by
    rw [← hh]
    exact sh_fr_u (by decide) (sh_fr_u (by decide) (sh_fr_u (by decide) (sh_fr_u (by decide) (sh_fr_u (by decide) (sh_fr_refl _ _)))))
  have m1 : h1 44 3 = nI n := by rw [f1 44 (by decide)]; exact hm
  have v1 : sh_MV 49 h1 r := sh_MV_fr f1 (by decide) hv
  rw [c_holdingM49 (d + 1) n h1 r m1 v1]
  simp only [Option.bind_some]
  rw [cond_true, c_ofColourM (d + 2) n h1 _ hn m1]
  simp only [Option.bind_some]
  rw [c_bc (d + 2)]
  simp only [Option.bind_some]
  rw [f1 46 (by decide), sh_cp_bc hn (h 46) r hi, v1 32 (by decide)]
  generalize hh2 : av_u (av_u h1 55 5 (sh_cp n (h 46) r i)) 55 6 (r 32 - r 32 / 7 * 7) = h2
  have f2 : sh_fr [54, 55] h h2 := by
    rw [← hh2]
    exact sh_fr_u (by decide) (sh_fr_u (by decide) f1)
  have hq : ∀ j, j < 7 → h2 55 j = sh_q n (h 46) (h 47) r i j := by
    intro j hj
    rw [← hh2, ← hh]
    match j, hj with
    | 0, _ => rfl
    | 1, _ => rfl
    | 2, _ => rfl
    | 3, _ => rfl
    | 4, _ => rfl
    | 5, _ => rfl
    | 6, _ => rfl
  obtain ⟨v, h3, e3, f3, w3⟩ := c_ruled d m L st h2 _ (by rw [f2 52 (by decide)]; exact hR) (by rw [f2 44 (by decide)]; exact hL) hq
  rw [e3]
  simp only [Option.bind_some]
  rw [w3]
  exact ⟨h3, rfl, sh_fr_tr f2 f3 (by decide)⟩
theorem c_breakM49_l (d n m L : Nat) (st col str : Nat → Int32) (H : Int32) (r : Nat → Int32) (hn : n ≤ 7) : ∀ t k (h : av_M) (a : Int32), k + t = n → h 44 3 = nI n → sh_MV 49 h r → sh_RR m st L (h 52) → h 44 18 = nI L → h 46 = col → h 47 = str →
    ∃ h', av_xp (d + 4) 201 111 [.ref 44, .ref 49, .int H, .int a, .int (nI k)] [] h = some (0, 0, av_u (av_u h' 49 28 (h' 49 28 ||| sh_lp (sh_brF H str (fun i => sh_rl m st (sh_q n col str r i))) t k a)) 49 32 (h' 49 32 + 1)) ∧ sh_fr [54, 55] h h' := by
  intro t
  induction t with
  | zero =>
    intro k h a e hm hv hR hL h46 h47
    rw [eX7_hourGoes_r44_r49_111, hm, if_pos (sh_ge (by omega) (by omega))]
    exact ⟨h, rfl, sh_fr_refl _ _⟩
  | succ t ih =>
    intro k h a e hm hv hR hL h46 h47
    rw [eX7_hourGoes_r44_r49_111, hm, if_neg (sh_lt (by omega) (by omega)), c_has]
    simp only [Option.bind_some, nI_1, Int32.or_zero]
    cases hb : sh_b H k
    · rw [if_pos (show sh_i false = 0 from rfl)]
      obtain ⟨h', e', f'⟩ := ih (k + 1) h a (by omega) hm hv hR hL h46 h47
      refine ⟨h', ?_, f'⟩
      rw [e', show sh_lp (sh_brF H str (fun i => sh_rl m st (sh_q n col str r i))) (t + 1) k a = sh_lp (sh_brF H str (fun i => sh_rl m st (sh_q n col str r i))) t (k + 1) (sh_brF H str (fun i => sh_rl m st (sh_q n col str r i)) k a) from rfl]
      rw [show sh_brF H str (fun i => sh_rl m st (sh_q n col str r i)) k a = a by unfold sh_brF; simp [hb]]
    · rw [if_neg (show ¬ sh_i true = 0 by decide)]
      obtain ⟨h1, e1, f1⟩ := c_pullM49 d n m L st h r k (by omega) hn hm hv hR hL
      rw [e1]
      simp only [Option.bind_some]
      rw [sh_inb (show k < 7 by omega) (by decide), cond_true, nI_clamp (by omega), f1 47 (by decide), h46, h47]
      have go : ∀ b, b = sh_brF H str (fun i => sh_rl m st (sh_q n col str r i)) k a → ∃ h', av_xp (d + 4) 201 111 [.ref 44, .ref 49, .int H, .int b, .int (nI (k + 1))] [] h1 = some (0, 0, av_u (av_u h' 49 28 (h' 49 28 ||| sh_lp (sh_brF H str (fun i => sh_rl m st (sh_q n col str r i))) (t + 1) k a)) 49 32 (h' 49 32 + 1)) ∧ sh_fr [54, 55] h h' := by
        intro b hb
        obtain ⟨h', e', f'⟩ := ih (k + 1) h1 b (by omega) (by rw [f1 44 (by decide)]; exact hm) (sh_MV_fr f1 (by decide) hv) (by rw [f1 52 (by decide)]; exact hR) (by rw [f1 44 (by decide)]; exact hL) (by rw [f1 46 (by decide)]; exact h46) (by rw [f1 47 (by decide)]; exact h47)
        rw [e', hb]
        exact ⟨h', rfl, sh_fr_tr f1 f' (fun _ z => z)⟩
      by_cases hp : sh_rl m st (sh_q n col str r k) ≤ str k
      · rw [if_pos hp]
        exact go _ (by unfold sh_brF; rw [if_neg (fun z => z.2 hp)])
      · rw [if_neg hp]
        exact go _ (by unfold sh_brF; rw [if_pos ⟨hb, hp⟩])
theorem c_payM49_l (d n : Nat) (H : Int32) (hn : n ≤ 7) : ∀ t k (h : av_M) (r : Nat → Int32) (x : Value), k + t = n → h 44 3 = nI n → sh_MV 49 h r → sh_L9 r → (x = .null ∨ ∃ y, x = .int y) →
    ∃ h' y, av_xp (d + 1) 201 8 [.ref 44, .ref 49, .int H, .int (nI k), x] [] h = av_xp (d + 1) 201 8 [.ref 44, .ref 49, .int H, .int (nI n), y] [] h' ∧ (y = .null ∨ ∃ z, y = .int z) ∧ sh_fr [49] h h' ∧ sh_MV 49 h' (sh_lp (sh_poF H) t k r) ∧ sh_L9 (sh_lp (sh_poF H) t k r) := by
  intro t
  induction t with
  | zero =>
    intro k h r x e hm hv h9 hx
    exact ⟨h, x, by rw [show k = n by omega], hx, sh_fr_refl _ _, hv, h9⟩
  | succ t ih =>
    intro k h r x e hm hv h9 hx
    have key : ∀ (h1 : av_M) (y : Int32), sh_fr [49] h h1 → sh_MV 49 h1 (sh_poF H k r) → ∃ h' z, av_xp (d + 1) 201 8 [.ref 44, .ref 49, .int H, .int (nI (k + 1)), .int y] [] h1 = av_xp (d + 1) 201 8 [.ref 44, .ref 49, .int H, .int (nI n), z] [] h' ∧ (z = .null ∨ ∃ y, z = .int y) ∧ sh_fr [49] h h' ∧ sh_MV 49 h' (sh_lp (sh_poF H) (t + 1) k r) ∧ sh_L9 (sh_lp (sh_poF H) (t + 1) k r) := by
      intro h1 y hf hv1
      obtain ⟨h', z, e1, z1, f1, v1, l1⟩ := ih (k + 1) h1 _ (.int y) (by omega) (by rw [hf 44 (by decide)]; exact hm) hv1 (sh_L9_po (by omega) h9) (Or.inr ⟨_, rfl⟩)
      exact ⟨h', z, e1, z1, sh_fr_tr hf f1 (fun _ q => q), v1, l1⟩
    have ek : (21 : Int32) + nI k = nI (21 + k) := nI_add 21 k
    have e7 : (7 : Int32) + nI k = nI (7 + k) := nI_add 7 k
    have vA : h 49 k = r k := hv k (by omega)
    have vB : h 49 (7 + k) = r (7 + k) := hv _ (by omega)
    have vC : h 49 (21 + k) = r (21 + k) := hv _ (by omega)
    have vD : ∀ x, (av_u h 49 (21 + k) x) 49 k = r k := fun x => by rw [av_u_eq]; unfold upd; rw [if_neg (by omega)]; exact vA
    have fin : ∃ h' z, (if sh_i (sh_b H k) = 0 then av_xp (d + 1) 201 8 [.ref 44, .ref 49, .int H, .int (nI (k + 1)), .int 0] [] (av_u (av_u h 49 (21 + k) (av_min 9999 (r (21 + k) + 0))) 49 k (r k - 0)) else av_xp (d + 1) 201 8 [.ref 44, .ref 49, .int H, .int (nI (k + 1)), .int (av_min (r k) (r (7 + k)))] [] (av_u (av_u h 49 (21 + k) (av_min 9999 (r (21 + k) + av_min (r k) (r (7 + k))))) 49 k (r k - av_min (r k) (r (7 + k))))) = av_xp (d + 1) 201 8 [.ref 44, .ref 49, .int H, .int (nI n), z] [] h' ∧ (z = .null ∨ ∃ y, z = .int y) ∧ sh_fr [49] h h' ∧ sh_MV 49 h' (sh_lp (sh_poF H) (t + 1) k r) ∧ sh_L9 (sh_lp (sh_poF H) (t + 1) k r) := by
      have uu : ∀ (a b : Int32) (i j : Nat), sh_fr [49] h (av_u (av_u h 49 i a) 49 j b) := fun a b i j => sh_fr_u (by decide) (sh_fr_u (by decide) (sh_fr_refl _ _))
      cases hb : sh_b H k
      · rw [if_pos (show sh_i false = 0 from rfl)]
        refine key _ _ (uu _ _ _ _) ?_
        rw [sh_po_f hb]
        refine sh_MV_id (by rw [Int32.sub_zero]) (sh_MV_id ?_ hv)
        rw [Int32.add_zero]
        exact sh_min_of_le (h9 k (by omega))
      · rw [if_neg (by decide)]
        refine key _ _ (uu _ _ _ _) ?_
        rw [sh_po_t hb, sh_min_comm (r k)]
        refine sh_MV_cong (sh_MV_u _ (sh_MV_u _ hv)) ?_
        intro i hi
        unfold upd
        by_cases e1 : i = k
        · rw [if_pos e1, if_neg (by omega), if_pos e1]
        · rw [if_neg e1, if_neg e1]
    rcases hx with rfl | ⟨y, rfl⟩
    · rw [eX7_hourGoes_r44_r49_8, hm, if_neg (sh_lt (by omega) (by omega)), c_has]
      simp only [Option.bind_some, ek, e7, sh_inb (show k < 33 by omega) (by decide), sh_inb (show 7 + k < 33 by omega) (by decide), sh_inb (show 21 + k < 33 by omega) (by decide), cond_true, nI_1, nI_clamp (show k < 2 ^ 31 by omega), nI_clamp (show 7 + k < 2 ^ 31 by omega), nI_clamp (show 21 + k < 2 ^ 31 by omega), vA, vB, vC, vD]
      exact fin
    · rw [eX7_hourGoes_r44_r49_8_2, hm, if_neg (sh_lt (by omega) (by omega)), c_has]
      simp only [Option.bind_some, ek, e7, sh_inb (show k < 33 by omega) (by decide), sh_inb (show 7 + k < 33 by omega) (by decide), sh_inb (show 21 + k < 33 by omega) (by decide), cond_true, nI_1, nI_clamp (show k < 2 ^ 31 by omega), nI_clamp (show 7 + k < 2 ^ 31 by omega), nI_clamp (show 21 + k < 2 ^ 31 by omega), vA, vB, vC, vD]
      exact fin
theorem c_hourM49 (d n m L : Nat) (st : Nat → Int32) (h : av_M) (r : Nat → Int32) (hn : n ≤ 7) (hm : h 44 3 = nI n) (hv : sh_MV 49 h r) (h9 : sh_L9 r) (hR : sh_RR m st L (h 52)) (hL : h 44 18 = nI L) :
    ∃ h', av_x (d + 5) 201 [.ref 44, .ref 49] h = some (0, 0, h') ∧ sh_fr [49, 54, 55] h h' ∧ sh_MV 49 h' (sh_hr n (h 46) (h 47) (sh_rl m st) r) ∧ sh_L9 (sh_hr n (h 46) (h 47) (sh_rl m st) r) := by
  rw [eX7_hourGoes_r44_r49_in, c_holdingM49 (d + 2) n h r hm hv]
  simp only [Option.bind_some]
  obtain ⟨h1, y, e1, hy, f1, v1, l1⟩ := c_payM49_l (d + 3) n (sh_hd n r) hn n 0 h r .null (by omega) hm hv h9 (Or.inl rfl)
  have r28 : ∀ j, 28 ≤ j → sh_lp (sh_poF (sh_hd n r)) n 0 r j = r j := fun j hj => sh_po_hi hj n 0 r (by omega)
  generalize hr1 : sh_lp (sh_poF (sh_hd n r)) n 0 r = r1 at v1 l1 r28
  have m1 : h1 44 3 = nI n := by rw [f1 44 (by decide)]; exact hm
  rw [show (0 : Int32) = nI 0 from rfl, e1]
  have stp : av_xp (d + 4) 201 8 [.ref 44, .ref 49, .int (sh_hd n r), .int (nI n), y] [] h1 = av_xp (d + 4) 201 111 [.ref 44, .ref 49, .int (sh_hd n r), .int 0, .int 0] [] (av_u h1 49 30 (av_min 9999 (r1 30 + av_max 0 (r1 31 - sh_w n (h 47) (sh_tt n r1) / 5)))) := by
    rcases hy with rfl | ⟨z, rfl⟩
    · rw [eX7_hourGoes_r44_r49_8, m1, if_pos (sh_ge (by omega) (by omega)), c_dragOf49 d n h1 r1 hn m1 v1]
      simp only [Option.bind_some]
      rw [v1 30 (by decide), v1 31 (by decide), f1 47 (by decide)]
    · rw [eX7_hourGoes_r44_r49_8_2, m1, if_pos (sh_ge (by omega) (by omega)), c_dragOf49 d n h1 r1 hn m1 v1]
      simp only [Option.bind_some]
      rw [v1 30 (by decide), v1 31 (by decide), f1 47 (by decide)]
  rw [stp]
  generalize hw : av_min 9999 (r1 30 + av_max 0 (r1 31 - sh_w n (h 47) (sh_tt n r1) / 5)) = w
  have v2 : sh_MV 49 (av_u h1 49 30 w) (upd r1 30 w) := sh_MV_u w v1
  have f2 : sh_fr [49, 54, 55] h (av_u h1 49 30 w) := sh_fr_u (by decide) (sh_fr_up f1 (by decide))
  have hH : sh_hd n (upd r1 30 w) = sh_hd n r := by
    unfold sh_hd upd
    rw [if_neg (by decide), if_neg (by decide), r28 28 (by decide), r28 29 (by decide)]
  obtain ⟨h3, e3, f3⟩ := c_breakM49_l d n m L st (h 46) (h 47) (sh_hd n r) (upd r1 30 w) hn n 0 (av_u h1 49 30 w) 0 (by omega) (by rw [f2 44 (by decide)]; exact hm) v2 (by rw [f2 52 (by decide)]; exact hR) (by rw [f2 44 (by decide)]; exact hL) (by rw [f2 46 (by decide)]) (by rw [f2 47 (by decide)])
  rw [show (nI 0 : Int32) = 0 from rfl] at e3
  rw [e3]
  have v3 : sh_MV 49 h3 (upd r1 30 w) := sh_MV_fr f3 (by decide) v2
  rw [v3 28 (by decide), v3 32 (by decide)]
  refine ⟨_, rfl, sh_fr_u (by decide) (sh_fr_u (by decide) (sh_fr_tr f2 f3 (by decide))), ?_, ?_⟩
  · have := sh_MV_u (k := 32) (upd r1 30 w 32 + 1) (sh_MV_u (k := 28) (upd r1 30 w 28 ||| sh_lp (sh_brF (sh_hd n r) (h 47) (fun i => sh_rl m st (sh_q n (h 46) (h 47) (upd r1 30 w) i))) n 0 0) v3)
    unfold sh_hr
    rw [hr1]
    dsimp only
    rw [hw, hH]
    exact this
  · unfold sh_hr
    rw [hr1]
    dsimp only
    rw [hw]
    intro j hj
    unfold upd
    rw [if_neg (by omega), if_neg (by omega), if_neg (by omega)]
    exact l1 j hj
