/-! PURE, 6: the reference works a rule out as the class does -/
theorem sh_k12 {c : Int32} (h : c < 1000) : c < 2000 := by
  rw [Int32.lt_iff_toInt_lt] at h ⊢
  have e9 : (1000 : Int32).toInt = 1000 := by decide
  have e8 : (2000 : Int32).toInt = 2000 := by decide
  omega
theorem c_worked (d : Nat) {s c : Int32} (hb : sh_bin s c) (a b : Int32) (h : av_M) : av_x (d + 2) 191 [.int (c - 2000), .int a, .int b] h = some (sh_join (s - 1000) a b, 0, h) := by
  rw [eX7_worked_in]
  simp only [c_flag0, c_flag1, Option.bind_some]
  rcases hb with ⟨rfl, rfl⟩ | ⟨rfl, rfl⟩ | ⟨rfl, rfl⟩ | ⟨rfl, rfl⟩ | ⟨rfl, rfl⟩ | ⟨rfl, rfl⟩ | ⟨rfl, rfl⟩
  · rw [show (2000 : Int32) - 2000 = 0 by decide, show sh_join (1060 - 1000) a b = if b ≤ a then 0 else 1 from rfl, if_pos rfl]
    by_cases e : b ≤ a
    · rw [if_pos e, if_pos e]
    · rw [if_neg e, if_neg e]
  · rw [show (2001 : Int32) - 2000 = 1 by decide, show sh_join (1062 - 1000) a b = if a ≤ b then 0 else 1 from rfl, if_neg (show ¬ (1 : Int32) = 0 by decide), if_pos rfl]
    by_cases e : a ≤ b
    · rw [if_pos e, if_pos e]
    · rw [if_neg e, if_neg e]
  · rw [show (2002 : Int32) - 2000 = 2 by decide, show sh_join (1061 - 1000) a b = if a = b then 1 else 0 from rfl, if_neg (show ¬ (2 : Int32) = 0 by decide), if_neg (show ¬ (2 : Int32) = 1 by decide), if_pos rfl]
    by_cases e : a = b
    · rw [if_pos e, if_pos e]
    · rw [if_neg e, if_neg e]
  · rfl
  · rfl
  · rfl
  · rw [show (2006 : Int32) - 2000 = 6 by decide, show sh_join (1047 - 1000) a b = if b = 0 then 0 else a / b from rfl, if_neg (show ¬ (6 : Int32) = 0 by decide), if_neg (show ¬ (6 : Int32) = 1 by decide), if_neg (show ¬ (6 : Int32) = 2 by decide), if_neg (show ¬ (6 : Int32) = 3 by decide), if_neg (show ¬ (6 : Int32) = 4 by decide), if_neg (show ¬ (6 : Int32) = 5 by decide)]
    by_cases e : b = 0
    · rw [if_pos e, if_pos e]
    · rw [if_neg e, if_neg e, show av_nz b = true by unfold av_nz; simpa using e]
      rfl
theorem c_ruled_l (d m : Nat) (st cd q : Nat → Int32) (H : Nat → Nat) (hm40 : m ≤ 40) (hH : ∀ k, k ≤ m → H k ≤ 40) (hm1 : H m = 1) (hm0 : 1 ≤ m) (hal : ∀ k, k < m → sh_al (st k) (cd k) (H k) (H (k + 1))) :
    ∀ t k (h : av_M) (g : Nat → Int32) (x : Value), k + t = m → h 44 18 = nI m → h 52 = cd → (∀ i, i < 7 → h 55 i = q i) → (∀ j, j < H k → h 54 j = g j) → (x = .null ∨ ∃ y, x = .int y) →
      ∃ h', av_xp (d + 2) 192 4 [.ref 44, .int (nI (H k)), .int (nI k), x] [] h = some ((sh_lp (sh_stp st q) t k (H k, g)).2 0, 0, h') ∧ sh_fr [54] h h' := by
  intro t
  induction t with
  | zero =>
    intro k h g x e hL hc hq hg hx
    have hk : k = m := by omega
    subst hk
    refine ⟨h, ?_, sh_fr_refl _ _⟩
    rcases hx with rfl | ⟨y, rfl⟩
    · rw [eX7_ruled_r44_4, hL, if_pos (sh_ge (by omega) (by omega)), if_neg (nI_ne0 (by omega) (by omega)), hg 0 (by omega)]
      rfl
    · rw [eX7_ruled_r44_4_2, hL, if_pos (sh_ge (by omega) (by omega)), if_neg (nI_ne0 (by omega) (by omega)), hg 0 (by omega)]
      rfl
  | succ t ih =>
    intro k h g x e hL hc hq hg hx
    have ha := hal k (by omega)
    have hHk := hH k (by omega)
    have key : ∀ (h1 : av_M) (g1 : Nat → Int32), sh_fr [54] h h1 → (∀ j, j < H (k + 1) → h1 54 j = g1 j) → sh_stp st q k (H k, g) = (H (k + 1), g1) →
        ∃ h', av_xp (d + 2) 192 119 [.ref 44, .int (nI (H (k + 1))), .int (nI k), .int (cd k)] [] h1 = some ((sh_lp (sh_stp st q) (t + 1) k (H k, g)).2 0, 0, h') ∧ sh_fr [54] h h' := by
      intro h1 g1 f1 hg1 es
      obtain ⟨h2, e2, f2⟩ := ih (k + 1) h1 g1 (.int (cd k)) (by omega) (by rw [f1 44 (by decide)]; exact hL) (by rw [f1 52 (by decide)]; exact hc) (by rw [f1 55 (by decide)]; exact hq) hg1 (Or.inr ⟨_, rfl⟩)
      refine ⟨h2, ?_, sh_fr_tr f1 f2 (fun _ z => z)⟩
      rw [eX7_ruled_r44_119, nI_1, e2]
      show _ = some ((sh_lp (sh_stp st q) t (k + 1) (sh_stp st q k (H k, g))).2 0, 0, h2)
      rw [es]
    have huu : ∀ (j : Nat) (v : Int32), sh_fr [54] h (av_u h 54 j v) := fun j v => sh_fr_u (by decide) (sh_fr_refl _ _)
    have main : ∃ h', av_xp (d + 2) 192 19 [.ref 44, .int (nI (H k)), .int (nI k), .int (cd k)] [] h = some ((sh_lp (sh_stp st q) (t + 1) k (H k, g)).2 0, 0, h') ∧ sh_fr [54] h h' := by
      have es := sh_stp_al (q := q) (g := g) ha
      rw [eX7_ruled_r44_19]
      rcases ha with ⟨h1, h2, h3⟩ | ⟨h1, h2, h3, h4⟩ | ⟨h1, h2, h3⟩
      · have hpush : ∀ v, v = sh_pv q (st k) → ∃ h', av_xp (d + 2) 192 119 [.ref 44, .int (nI (H k + 1)), .int (nI k), .int (cd k)] [] (av_u h 54 (H k) v) = some ((sh_lp (sh_stp st q) (t + 1) k (H k, g)).2 0, 0, h') ∧ sh_fr [54] h h' := by
          intro v hv
          rw [← h3]
          refine key _ (upd g (H k) (sh_pv q (st k))) (huu _ _) ?_ (by rw [es, if_pos (sh_isN_of h1).symm])
          intro j hj
          rw [av_u_eq, hv]
          exact sh_upd_lt (x := H k + 1) (fun j hj hne => hg j (by omega)) (fun _ => rfl) j (by omega)
        rcases h1 with ⟨n1, n2, n3⟩ | h1
        · rw [if_neg (fun z => by rw [z] at n3; revert n3; decide), eX7_ruled_r44_46, if_pos (sh_k12 n3), eX7_ruled_r44_89, if_pos n3, sh_inb (show H k < 80 by omega) (by decide), cond_true, nI_1, nI_clamp (by omega)]
          exact hpush _ (by unfold sh_pv; rw [if_pos n1]; exact n2)
        · have go : ∀ (s c : Int32) (i : Nat), st k = s → cd k = c → ¬ c = 3000 → c < 2000 → ¬ c < 1000 → c - 1000 = nI i → i < 7 → sh_pv q s = q i → ∃ h', (if cd k = 3000 then cond (av_inb (nI (H k) - 1) 80) (cond (av_inb (nI (H k) - 1) 80) (av_xp (d + 2) 192 119 [.ref 44, .int (nI (H k)), .int (nI k), .int (cd k)] [] (av_u h 54 (Int32.toNatClampNeg (nI (H k) - 1)) (-(h 54 (Int32.toNatClampNeg (nI (H k) - 1)))))) none) none else av_xp (d + 2) 192 46 [.ref 44, .int (nI (H k)), .int (nI k), .int (cd k)] [] h) = some ((sh_lp (sh_stp st q) (t + 1) k (H k, g)).2 0, 0, h') ∧ sh_fr [54] h h' := by
            intro s c i es1 es2 c1 c2 c3 c4 c5 c6
            rw [if_neg (by rw [es2]; exact c1), eX7_ruled_r44_46, if_pos (by rw [es2]; exact c2), eX7_ruled_r44_89, if_neg (by rw [es2]; exact c3), show cd k - 1000 = nI i by rw [es2]; exact c4, sh_inb (show i < 7 from c5) (by decide), sh_inb (show H k < 80 by omega) (by decide), cond_true, cond_true, nI_1, nI_clamp (by omega), nI_clamp (by omega), hq i c5]
            exact hpush _ (by rw [es1]; exact c6.symm)
          rcases h1 with ⟨a1, a2⟩ | ⟨a1, a2⟩ | ⟨a1, a2⟩ | ⟨a1, a2⟩ | ⟨a1, a2⟩ | ⟨a1, a2⟩ | ⟨a1, a2⟩
          · exact go _ _ 0 a1 a2 (by decide) (by decide) (by decide) (by decide) (by decide) rfl
          · exact go _ _ 1 a1 a2 (by decide) (by decide) (by decide) (by decide) (by decide) rfl
          · exact go _ _ 2 a1 a2 (by decide) (by decide) (by decide) (by decide) (by decide) rfl
          · exact go _ _ 3 a1 a2 (by decide) (by decide) (by decide) (by decide) (by decide) rfl
          · exact go _ _ 4 a1 a2 (by decide) (by decide) (by decide) (by decide) (by decide) rfl
          · exact go _ _ 5 a1 a2 (by decide) (by decide) (by decide) (by decide) (by decide) rfl
          · exact go _ _ 6 a1 a2 (by decide) (by decide) (by decide) (by decide) (by decide) rfl
      · obtain ⟨y, hy⟩ : ∃ y, H k = y + 1 := ⟨H k - 1, by omega⟩
        have hp' : ¬ (sh_isN (st k - 1000) = true ∨ st k - 1000 < 0) := fun z => sh_not_push (Or.inl ⟨h1, h2⟩) z.symm
        rw [if_pos h2, show nI (H k) - 1 = nI y by rw [hy]; exact nI_pred y, sh_inb (show y < 80 by omega) (by decide), cond_true, cond_true, nI_clamp (by omega)]
        have key' := key
        rw [h4] at key'
        refine key' _ (upd g (H k - 1) (-(g (H k - 1)))) (huu _ _) ?_ (by rw [es, if_neg hp', if_pos (by rw [h1]; decide), h4])
        intro j hj
        rw [av_u_eq, show H k - 1 = y by omega, hg y (by omega)]
        exact sh_upd_lt (x := H k) (fun j hj hne => hg j hj) (fun _ => rfl) j (by omega)
      · obtain ⟨y, hy⟩ : ∃ y, H k = y + 2 := ⟨H k - 2, by omega⟩
        have hp' : ¬ (sh_isN (st k - 1000) = true ∨ st k - 1000 < 0) := fun z => sh_not_push (Or.inr h1) z.symm
        have hc3 : ¬ cd k = 3000 ∧ ¬ cd k < 2000 := by
          rcases h1 with ⟨-, e1⟩ | ⟨-, e1⟩ | ⟨-, e1⟩ | ⟨-, e1⟩ | ⟨-, e1⟩ | ⟨-, e1⟩ | ⟨-, e1⟩ <;> rw [e1] <;> decide
        rw [if_neg hc3.1, eX7_ruled_r44_46, if_neg hc3.2, show nI (H k) + (-1) = nI (y + 1) by rw [hy, ← Int32.sub_eq_add_neg]; exact nI_pred (y + 1), eX7_ruled_r44_56, nI_pred y, sh_inb (show y < 80 by omega) (by decide), sh_inb (show y + 1 < 80 by omega) (by decide), cond_true, cond_true, eX7_ruled_r44_82, c_worked d h1]
        simp only [Option.bind_some, sh_inb (show y < 80 by omega) (by decide), cond_true, nI_clamp (show y < 2 ^ 31 by omega), nI_clamp (show y + 1 < 2 ^ 31 by omega)]
        rw [show y + 1 = H (k + 1) by omega]
        refine key _ (upd g (H k - 2) (sh_join (st k - 1000) (g (H k - 2)) (g (H k - 1)))) (huu _ _) ?_ (by rw [es, if_neg hp', if_neg (sh_bin_256 h1)])
        intro j hj
        rw [av_u_eq, show H k - 2 = y by omega, show H k - 1 = H (k + 1) by omega, hg y (by omega), hg (H (k + 1)) (by omega)]
        exact sh_upd_lt (x := H k) (fun j hj hne => hg j hj) (fun _ => rfl) j (by omega)
    rcases hx with rfl | ⟨y, rfl⟩
    · rw [eX7_ruled_r44_4, hL, if_neg (sh_lt (by omega) (by omega)), sh_inb (show k < 80 by omega) (by decide), cond_true, nI_clamp (by omega), hc]
      exact main
    · rw [eX7_ruled_r44_4_2, hL, if_neg (sh_lt (by omega) (by omega)), sh_inb (show k < 80 by omega) (by decide), cond_true, nI_clamp (by omega), hc]
      exact main
theorem c_ruled (d m L : Nat) (st : Nat → Int32) (h : av_M) (q : Nat → Int32) (hR : sh_RR m st L (h 52)) (hL : h 44 18 = nI L) (hq : ∀ i, i < 7 → h 55 i = q i) :
    ∃ v h', av_x (d + 3) 192 [.ref 44] h = some (v, 0, h') ∧ sh_fr [54] h h' ∧ av_max (-99) (av_min 99 v) = sh_rl m st q := by
  obtain ⟨h1, h2, H, h3, h4, h5, h6⟩ := id hR
  rw [eX7_ruled_r44_in]
  rcases h6 with ⟨e1, e2, e3, e4⟩ | ⟨e1, e2⟩
  · refine ⟨q 0, h, ?_, sh_fr_refl _ _, ?_⟩
    · rw [eX7_ruled_r44_4, hL, e1, if_pos (show nI 0 ≤ (0 : Int32) by decide), if_pos (show nI 0 = (0 : Int32) by decide), hq 0 (by decide)]
    · subst e2
      unfold sh_rl sh_pl sh_run
      show _ = av_max (-99) (av_min 99 ((sh_stp st q 0 (0, fun _ => 0)).2 0))
      unfold sh_stp
      rw [e3]
      rfl
  · subst e1
    obtain ⟨h', e, f⟩ := c_ruled_l d L st (h 52) q H h1 h5 h4 h2 e2 L 0 h (h 54) .null (by omega) hL rfl hq (fun _ _ => rfl) (Or.inl rfl)
    rw [h3] at e
    refine ⟨_, h', e, f, ?_⟩
    rw [← sh_rl_pl hR (h 54) q]
    rfl
