/-! PURE, 42: what was seen; guess -/
theorem sh_subadd (w a b : Int32) : w - (a + b) = w - a - b := by
  apply Int32.toBitVec_inj.mp
  rw [Int32.toBitVec_sub, Int32.toBitVec_add, Int32.toBitVec_sub, Int32.toBitVec_sub]
  bv_omega
def sh_so (r g0 g1 g2 : Nat → Int32) (w : Int32) (i : Nat) : Bool := match decide (w - r (14 + (g0 i).toNatClampNeg) - r (21 + (g0 i).toNatClampNeg) < g1 i) with
  | true => !decide (g2 i = 1)
  | false => decide (g2 i = 1)
def sh_ev (P : Nat → Bool) : Nat → Nat → Bool
  | 0, _ => true
  | t + 1, k => P k && sh_ev P t (k + 1)
theorem sh_01 {x : Int32} (h : sh_ir 0 1 x = true) : x = 0 ∨ x = 1 := by
  obtain ⟨c, _, c2, rfl⟩ := sh_ir_nat (lo := 0) (hi := 1) (by decide) (by decide) h
  have : c = 0 ∨ c = 1 := by omega
  rcases this with rfl | rfl
  · exact Or.inl rfl
  · exact Or.inr rfl
/-- what is needed of the sights -/
def sh_SF (n s : Nat) (g0 g1 g2 : Nat → Int32) : Prop := s ≤ 10 ∧ ∀ i, i < s → sh_kn n (g0 i) = true ∧ sh_ir (-99) 99 (g1 i) = true ∧ sh_ir 0 1 (g2 i) = true
theorem c_fitsX_l (d n s : Nat) (r g0 g1 g2 : Nat → Int32) (w : Int32) (h : av_M) (hn : n ≤ 7) (hv : sh_SV 5 h r) (hs : h 30 4 = nI s) (hS : sh_SF n s g0 g1 g2) (hg : ∀ i, i < s → h 31 i = g0 i ∧ h 32 i = g1 i ∧ h 33 i = g2 i) : ∀ t k (x : Value), k + t = s → sh_j1 x → av_xp (d + 20) 139 2 [.ref 0, .int w, .int (nI k), x] [] h = some (sh_i (sh_ev (sh_so r g0 g1 g2 w) t k), 0, h) := by
  have hs10 := hS.1
  intro t
  induction t with
  | zero =>
    intro k x e hx
    rw [mX6_fitsSights_r0_2 _ _ _ _ _ hx, hs, if_pos (sh_ge (by omega) (by omega))]
    rfl
  | succ t ih =>
    intro k x e hx
    obtain ⟨q0, q1, q2⟩ := hg k (by omega)
    obtain ⟨p0, p1, p2⟩ := hS.2 k (by omega)
    obtain ⟨K, hK, eK⟩ := sh_kn_of hn p0
    rw [mX6_fitsSights_r0_2 _ _ _ _ _ hx, hs, if_neg (sh_lt (by omega) (by omega)), sh_inb (show k < 12 by omega) (by decide), nI_clamp (by omega), q0, eK]
    simp only [cond_true]
    rw [c_reach5 _ h K (by omega), sh_SV_get hv (a := 10) (s := K) (i := 14 + K) (by omega), sh_SV_get hv (a := 11) (s := K) (i := 21 + K) (by omega)]
    simp only [Option.bind_some, nI_1]
    rw [q1, q2, sh_subadd]
    have es : sh_so r g0 g1 g2 w k = (match decide (w - r (14 + K) - r (21 + K) < g1 k) with
      | true => !decide (g2 k = 1)
      | false => decide (g2 k = 1)) := by
      unfold sh_so
      rw [eK, nI_clamp (by omega)]
    show _ = some (sh_i (sh_so r g0 g1 g2 w k && sh_ev (sh_so r g0 g1 g2 w) t (k + 1)), 0, h)
    rw [es]
    by_cases c : w - r (14 + K) - r (21 + K) < g1 k
    · rw [if_pos c, decide_eq_true c]
      by_cases z : g2 k = 1
      · rw [if_pos z, decide_eq_true z]; rfl
      · rw [if_neg z, decide_eq_false z]
        exact ih (k + 1) _ (by omega) (Or.inr ⟨_, rfl⟩)
    · rw [if_neg c, decide_eq_false c]
      by_cases z : g2 k = 1
      · rw [if_pos z, decide_eq_true z]
        exact ih (k + 1) _ (by omega) (Or.inr ⟨_, rfl⟩)
      · rw [if_neg z, decide_eq_false z]; rfl
theorem c_fitsX (d n s : Nat) (r g0 g1 g2 : Nat → Int32) (w : Int32) (h : av_M) (hn : n ≤ 7) (hv : sh_SV 5 h r) (hs : h 30 4 = nI s) (hS : sh_SF n s g0 g1 g2) (hg : ∀ i, i < s → h 31 i = g0 i ∧ h 32 i = g1 i ∧ h 33 i = g2 i) : av_x (d + 21) 139 [.ref 0, .int w] h = some (sh_i (sh_ev (sh_so r g0 g1 g2 w) s 0), 0, h) := by
  rw [eX6_fitsSights_r0_in]
  exact c_fitsX_l d n s r g0 g1 g2 w h hn hv hs hS hg s 0 .null (by omega) (Or.inl rfl)
theorem c_lacks (d K : Nat) (r : Nat → Int32) (w v : Int32) (h : av_M) (hK : K < 7) (hv : sh_MV 48 h r) : av_x (d + 1) 244 [.ref 44, .int w, .int (nI K), .int v] h = some (sh_i (!decide (w - r (14 + K) - r (21 + K) < v)), 0, h) := by
  rw [eX7_lacks_r44_in, show (14 : Int32) + nI K = nI (14 + K) from nI_add 14 K, show (21 : Int32) + nI K = nI (21 + K) from nI_add 21 K, sh_inb (show 14 + K < 33 by omega) (by decide), sh_inb (show 21 + K < 33 by omega) (by decide)]
  simp only [cond_true]
  rw [nI_clamp (by omega), nI_clamp (by omega), hv (14 + K) (by omega), hv (21 + K) (by omega)]
  by_cases c : w - r (14 + K) - r (21 + K) < v
  · rw [if_pos c, decide_eq_true c]; rfl
  · rw [if_neg c, decide_eq_false c]; rfl
theorem c_asSeen_l (d n s : Nat) (r : Nat → Int32) (w : Int32) (h : av_M) (hn : n ≤ 7) (hv : sh_MV 48 h r) (hs : h 44 28 = nI s) (hS : sh_SF n s (h 60) (h 61) (h 62)) : ∀ t k (b : Bool), k + t = s → av_xp (d + 20) 245 4 [.ref 44, .int w, .int (sh_i b), .int (nI k)] [] h = some (sh_i (b && sh_ev (sh_so r (h 60) (h 61) (h 62) w) t k), 0, h) := by
  have hs10 := hS.1
  intro t
  induction t with
  | zero =>
    intro k b e
    rw [eX7_isAsSeen_r44_4, hs, if_pos (sh_ge (by omega) (by omega)), sh_ia]
    unfold sh_ev
    rw [Bool.and_true]
  | succ t ih =>
    intro k b e
    rw [eX7_isAsSeen_r44_4, hs, if_neg (sh_lt (by omega) (by omega))]
    cases b
    · rw [if_pos (show sh_i false = 0 from rfl), nI_1]
      exact (ih (k + 1) false (by omega)).trans (by simp only [Bool.false_and])
    · obtain ⟨p0, p1, p2⟩ := hS.2 k (by omega)
      obtain ⟨K, hK, eK⟩ := sh_kn_of hn p0
      rw [if_neg (show ¬ sh_i true = 0 by decide), sh_inb (show k < 10 by omega) (by decide), nI_clamp (by omega), eK]
      simp only [cond_true]
      rw [c_lacks _ K r w _ h (by omega) hv]
      simp only [Option.bind_some, c_flag, nI_1]
      have es : sh_so r (h 60) (h 61) (h 62) w k = (match decide (w - r (14 + K) - r (21 + K) < h 61 k) with
        | true => !decide (h 62 k = 1)
        | false => decide (h 62 k = 1)) := by
        unfold sh_so
        rw [eK, nI_clamp (by omega)]
      show _ = some (sh_i (true && (sh_so r (h 60) (h 61) (h 62) w k && sh_ev (sh_so r (h 60) (h 61) (h 62) w) t (k + 1))), 0, h)
      rw [es, Bool.true_and]
      have R := fun b => ih (k + 1) b (by omega)
      have R1 := R true
      have R0 := R false
      rw [Bool.true_and] at R1
      rw [Bool.false_and] at R0
      rcases sh_01 p2 with z | z
      · rw [z]
        cases decide (w - r (14 + K) - r (21 + K) < h 61 k)
        · rw [if_neg (show ¬ sh_i (!false) = 0 by decide), decide_eq_false (show ¬ (0 : Int32) = 1 by decide)]
          exact R0
        · rw [if_pos (show sh_i (!true) = 0 by decide), decide_eq_false (show ¬ (0 : Int32) = 1 by decide)]
          exact R1
      · rw [z]
        cases decide (w - r (14 + K) - r (21 + K) < h 61 k)
        · rw [if_pos (show sh_i (!false) = 1 by decide), decide_eq_true (show (1 : Int32) = 1 by decide)]
          exact R1
        · rw [if_neg (show ¬ sh_i (!true) = 1 by decide), decide_eq_true (show (1 : Int32) = 1 by decide)]
          exact R0
theorem c_asSeen (d n s : Nat) (r : Nat → Int32) (w : Int32) (h : av_M) (hn : n ≤ 7) (hv : sh_MV 48 h r) (hs : h 44 28 = nI s) (hS : sh_SF n s (h 60) (h 61) (h 62)) : av_x (d + 21) 245 [.ref 44, .int w] h = some (sh_i (sh_ev (sh_so r (h 60) (h 61) (h 62) w) s 0), 0, h) := by
  rw [eX7_isAsSeen_r44_in]
  have := c_asSeen_l d n s r w h hn hv hs hS s 0 true (by omega)
  rw [Bool.true_and] at this
  exact this
/-! guess -/
def sh_gF (P : Nat → Bool) (k : Nat) (z : Nat × Nat × Nat) : Nat × Nat × Nat := match P k with
  | true => (z.1 + 1, if z.1 = 0 then k else z.2.1, k)
  | false => z
def sh_gL (b : Bool) (z : Nat × Nat × Nat) : List Int64 := if z.1 = 0 then [Int32.toInt64 (sh_i b)] else [Int32.toInt64 (sh_i b), Int32.toInt64 (nI z.2.1), Int32.toInt64 (nI z.2.2)]
theorem sh_gF_le {P : Nat → Bool} {k : Nat} {z : Nat × Nat × Nat} (h : z.1 ≤ k) : (sh_gF P k z).1 ≤ k + 1 := by
  unfold sh_gF
  cases P k <;> dsimp only <;> omega
theorem f_guess_l (d n s : Nat) (r g0 g1 g2 : Nat → Int32) (h : av_M) (hn : n ≤ 7) (hv : sh_SV 5 h r) (hs : h 30 4 = nI s) (hS : sh_SF n s g0 g1 g2) (hg : ∀ i, i < s → h 31 i = g0 i ∧ h 32 i = g1 i ∧ h 33 i = g2 i) : ∀ t k z, k + t = 60 → z.1 ≤ k → ∃ h', av_xp (d + 22) 85 9 [.ref 0, .int (nI z.1), .int (nI z.2.1), .int (nI z.2.2), .int (nI k)] [] h = some (nI (sh_lp (sh_gF (fun w => sh_ev (sh_so r g0 g1 g2 (nI w)) s 0)) t k z).1, 0, h') ∧ sh_c h h' ∧ sh_t1 (sh_gL (sh_ev (sh_so r g0 g1 g2 (r 30)) s 0) (sh_lp (sh_gF (fun w => sh_ev (sh_so r g0 g1 g2 (nI w)) s 0)) t k z)) h' := by
  intro t
  induction t with
  | zero =>
    intro k z e hz
    have ek : k = 60 := by omega
    subst ek
    rw [eX6_guess_r0_9, if_pos (show (60 : Int32) ≤ nI 60 by decide), hv.2.2.2.2.2.2.1, c_fitsX _ n s r g0 g1 g2 _ h hn hv hs hS hg]
    simp only [Option.bind_some]
    have main : ∀ b : Bool, ∃ h', (((av_x (d + 22) 110 [.ref 0, .long (Int32.toInt64 (sh_i b))] h).bind fun q2 => (if nI z.1 ≤ 0 then some ((nI z.1 : Int32), (0 : Int64), q2.2.2) else ((av_x (d + 22) 9 [.ref 3, .long (Int32.toInt64 (nI z.2.1))] q2.2.2).bind fun q3 => ((av_x (d + 22) 9 [.ref 3, .long (Int32.toInt64 (nI z.2.2))] q3.2.2).bind fun q4 => some ((nI z.1 : Int32), (0 : Int64), q4.2.2)))))) = some (nI z.1, 0, h') ∧ sh_c h h' ∧ sh_t1 (sh_gL b z) h' := by
      intro b
      obtain ⟨h2, e2, f2, t2⟩ := c_tell (d + 20) h (Int32.toInt64 (sh_i b))
      rw [e2]
      simp only [Option.bind_some]
      unfold sh_gL
      by_cases c : z.1 = 0
      · rw [c, if_pos (show nI 0 ≤ 0 by decide), if_pos rfl]
        exact ⟨h2, rfl, sh_c_of f2 (by decide), t2⟩
      · rw [if_neg (nI_nle (by omega) (by omega)), if_neg c]
        obtain ⟨h3, e3, f3, t3⟩ := c_add (d + 21) h2 _ (Int32.toInt64 (nI z.2.1)) (by simp) t2
        rw [e3]
        simp only [Option.bind_some]
        obtain ⟨h4, e4, f4, t4⟩ := c_add (d + 21) h3 _ (Int32.toInt64 (nI z.2.2)) (by simp) t3
        rw [e4]
        exact ⟨h4, rfl, sh_c_tr (sh_c_tr (sh_c_of f2 (by decide)) (sh_c_of f3 (by decide))) (sh_c_of f4 (by decide)), t4⟩
    cases hb : sh_ev (sh_so r g0 g1 g2 (r 30)) s 0
    · rw [if_pos (show sh_i false = 0 from rfl)]
      exact main false
    · rw [if_neg (show ¬ sh_i true = 0 by decide)]
      exact main true
  | succ t ih =>
    intro k z e hz
    rw [eX6_guess_r0_9, if_neg (show ¬ (60 : Int32) ≤ nI k from sh_lt (n := 60) (by omega) (by decide)), c_fitsX _ n s r g0 g1 g2 _ h hn hv hs hS hg]
    simp only [Option.bind_some]
    have step : sh_lp (sh_gF (fun w => sh_ev (sh_so r g0 g1 g2 (nI w)) s 0)) (t + 1) k z = sh_lp (sh_gF (fun w => sh_ev (sh_so r g0 g1 g2 (nI w)) s 0)) t (k + 1) (sh_gF (fun w => sh_ev (sh_so r g0 g1 g2 (nI w)) s 0) k z) := rfl
    rw [step]
    have hz2 := sh_gF_le (P := fun w => sh_ev (sh_so r g0 g1 g2 (nI w)) s 0) hz
    cases hb : sh_ev (sh_so r g0 g1 g2 (nI k)) s 0
    · have es : sh_gF (fun w => sh_ev (sh_so r g0 g1 g2 (nI w)) s 0) k z = z := by unfold sh_gF; simp only [hb]
      rw [if_pos (show sh_i false = 0 from rfl), nI_1, es]
      exact ih (k + 1) z (by omega) (by omega)
    · have es : sh_gF (fun w => sh_ev (sh_so r g0 g1 g2 (nI w)) s 0) k z = (z.1 + 1, if z.1 = 0 then k else z.2.1, k) := by unfold sh_gF; simp only [hb]
      rw [if_neg (show ¬ sh_i true = 0 by decide), nI_1, nI_1, es]
      by_cases c : z.1 = 0
      · rw [if_pos (show nI z.1 = 0 by rw [c]; rfl), if_pos c]
        exact ih (k + 1) (z.1 + 1, k, k) (by omega) (by show z.1 + 1 ≤ k + 1; omega)
      · rw [if_neg (nI_ne0 (by omega) (by omega)), if_neg c]
        exact ih (k + 1) (z.1 + 1, z.2.1, k) (by omega) (by show z.1 + 1 ≤ k + 1; omega)
theorem t_guess_l (d n s : Nat) (r : Nat → Int32) (h : av_M) (hn : n ≤ 7) (hv : sh_MV 48 h r) (hs : h 44 28 = nI s) (hS : sh_SF n s (h 60) (h 61) (h 62)) : ∀ t k z (x : Value), k + t = 60 → z.1 ≤ k → sh_j1 x → ∃ h', av_xp (d + 22) 246 14 [.ref 44, .int (nI z.1), .int (nI z.2.1), .int (nI z.2.2), .int (nI k), x] [] h = some (nI (sh_lp (sh_gF (fun w => sh_ev (sh_so r (h 60) (h 61) (h 62) (nI w)) s 0)) t k z).1, 0, h') ∧ sh_m h h' ∧ sh_t2 (sh_gL (sh_ev (sh_so r (h 60) (h 61) (h 62) (r 30)) s 0) (sh_lp (sh_gF (fun w => sh_ev (sh_so r (h 60) (h 61) (h 62) (nI w)) s 0)) t k z)) h' := by
  intro t
  induction t with
  | zero =>
    intro k z x e hz hx
    have ek : k = 60 := by omega
    subst ek
    rw [mX7_guess_r44_14 _ _ _ _ _ _ _ hx, if_pos (show (59 : Int32) < nI 60 by decide), hv 30 (by decide), c_asSeen _ n s r _ (av_u h 44 1 0) hn (sh_MV_fr (S := [44]) (sh_fr_u (by decide) (sh_fr_refl _ _)) (by decide) hv) hs hS]
    simp only [Option.bind_some, c_flag]
    obtain ⟨h2, e2, m2, f2, t2⟩ := c_ent1 (d + 21) (av_u h 44 1 0) (Int32.toInt64 (sh_i (sh_ev (sh_so r ((av_u h 44 1 0) 60) ((av_u h 44 1 0) 61) ((av_u h 44 1 0) 62) (r 30)) s 0))) rfl
    have m2' := sh_m_tr (sh_m_s (k := 1) (v := 0) (by decide) (sh_m_refl h)) m2
    rw [e2]
    simp only [Option.bind_some]
    unfold sh_lp sh_gL
    by_cases c : z.1 = 0
    · rw [c, if_pos (show nI 0 ≤ 0 by decide), if_pos rfl]
      exact ⟨h2, rfl, m2', t2⟩
    · rw [if_neg (nI_nle (by omega) (by omega)), if_neg c]
      obtain ⟨h3, e3, m3, f3, t3⟩ := c_enters (d + 21) h2 _ (Int32.toInt64 (nI z.2.1)) (by simp) t2
      rw [e3]
      simp only [Option.bind_some]
      obtain ⟨h4, e4, m4, f4, t4⟩ := c_enters (d + 21) h3 _ (Int32.toInt64 (nI z.2.2)) (by simp) t3
      rw [e4]
      exact ⟨h4, rfl, sh_m_tr (sh_m_tr m2' m3) m4, t4⟩
  | succ t ih =>
    intro k z x e hz hx
    rw [mX7_guess_r44_14 _ _ _ _ _ _ _ hx, if_neg (show ¬ (59 : Int32) < nI k from nI_nlt (b := k) (a := 59) (by omega) (by omega)), c_asSeen _ n s r _ h hn hv hs hS]
    simp only [Option.bind_some, c_flag]
    have step : sh_lp (sh_gF (fun w => sh_ev (sh_so r (h 60) (h 61) (h 62) (nI w)) s 0)) (t + 1) k z = sh_lp (sh_gF (fun w => sh_ev (sh_so r (h 60) (h 61) (h 62) (nI w)) s 0)) t (k + 1) (sh_gF (fun w => sh_ev (sh_so r (h 60) (h 61) (h 62) (nI w)) s 0) k z) := rfl
    rw [step]
    cases hb : sh_ev (sh_so r (h 60) (h 61) (h 62) (nI k)) s 0
    · have es : sh_gF (fun w => sh_ev (sh_so r (h 60) (h 61) (h 62) (nI w)) s 0) k z = z := by unfold sh_gF; simp only [hb]
      rw [if_pos (show sh_i false = 0 from rfl), if_pos (show sh_i false = 0 from rfl), nI_1, es, show nI z.1 + sh_i false = nI z.1 from Int32.add_zero _]
      exact ih (k + 1) z _ (by omega) (by omega) (Or.inr ⟨_, rfl⟩)
    · have es : sh_gF (fun w => sh_ev (sh_so r (h 60) (h 61) (h 62) (nI w)) s 0) k z = (z.1 + 1, if z.1 = 0 then k else z.2.1, k) := by unfold sh_gF; simp only [hb]
      rw [if_neg (show ¬ sh_i true = 0 by decide), if_neg (show ¬ sh_i true = 0 by decide), if_neg (show ¬ sh_i true = 0 by decide), nI_1, es, show nI z.1 + sh_i true = nI (z.1 + 1) from nI_1 _]
      by_cases c : z.1 = 0
      · rw [if_pos (show nI z.1 = 0 by rw [c]; rfl), if_pos c]
        exact ih (k + 1) (z.1 + 1, k, k) _ (by omega) (by show z.1 + 1 ≤ k + 1; omega) (Or.inr ⟨_, rfl⟩)
      · rw [if_neg (nI_ne0 (by omega) (by omega)), if_neg c]
        exact ih (k + 1) (z.1 + 1, z.2.1, k) _ (by omega) (by show z.1 + 1 ≤ k + 1; omega) (Or.inr ⟨_, rfl⟩)
theorem sh_gL_le (b : Bool) (z : Nat × Nat × Nat) : (sh_gL b z).length ≤ 7 := by
  unfold sh_gL
  by_cases c : z.1 = 0
  · rw [if_pos c]; simp
  · rw [if_neg c]; simp
theorem sh_so_cong {r g0 g1 g2 f0 f1 f2 : Nat → Int32} {w : Int32} : ∀ t k, (∀ i, k ≤ i → i < k + t → g0 i = f0 i ∧ g1 i = f1 i ∧ g2 i = f2 i) → sh_ev (sh_so r g0 g1 g2 w) t k = sh_ev (sh_so r f0 f1 f2 w) t k := by
  intro t
  induction t with
  | zero => intro k _; rfl
  | succ t ih =>
    intro k h
    obtain ⟨h1, h2, h3⟩ := h k (Nat.le_refl _) (by omega)
    unfold sh_ev
    rw [ih (k + 1) (fun i i1 i2 => h i (by omega) (by omega))]
    unfold sh_so
    rw [h1, h2, h3]
theorem c_guess : sh_P 85 246 [] := sh_qF fun d N n m L r h F E hF => by
  obtain ⟨a1, a2, a3, a4, a5, a6, a7, a8⟩ := id E.1.1
  obtain ⟨s, s1, s2, s3, s4, s5⟩ := id E.1.2.2.2.2.2.1
  have hS : sh_SF n s (h 60) (h 61) (h 62) := ⟨s1, fun i hi => (s5 i hi).2.2.2⟩
  obtain ⟨O, hO⟩ : ∃ O, O = sh_lp (sh_gF (fun w => sh_ev (sh_so r (h 60) (h 61) (h 62) (nI w)) s 0)) 60 0 (0, 0, 0) := ⟨_, rfl⟩
  refine ⟨nI O.1, some (sh_gL (sh_ev (sh_so r (h 60) (h 61) (h 62) (r 30)) s 0) O), fun l q => by injection q with q; subst q; exact sh_gL_le _ _, ?_, ?_⟩
  · have K := f_guess_l (d + 77) n s r (h 60) (h 61) (h 62) h a1 a4 s3 hS (fun i hi => ⟨(s5 i hi).1, (s5 i hi).2.1, (s5 i hi).2.2.1⟩) 60 0 (0, 0, 0) (by omega) (by decide)
    rw [← hO] at K
    obtain ⟨h2, e2, c2, t2⟩ := K
    refine ⟨h2, ?_, c2, t2⟩
    rw [eX6_guess_r0_in]
    exact e2
  · intro h' hc E' hF'
    obtain ⟨b1, b2, b3, b4, b5, b6, b7, b8⟩ := id E'.1.1
    have q60 : (av_u h' 44 0 0) 60 = h 60 := hc 60 (by decide)
    have q61 : (av_u h' 44 0 0) 61 = h 61 := hc 61 (by decide)
    have q62 : (av_u h' 44 0 0) 62 = h 62 := hc 62 (by decide)
    have K := t_guess_l (d + 77) n s r (av_u h' 44 0 0) a1 b6 (by show h' 44 28 = nI s; rw [hc 44 (by decide)]; exact s4) (by rw [q60, q61, q62]; exact hS) 60 0 (0, 0, 0) .null (by omega) (by decide) (Or.inl rfl)
    rw [q60, q61, q62, ← hO] at K
    obtain ⟨h2, e2, c2, t2⟩ := K
    refine ⟨h2, ?_, sh_m_tr (sh_m_s (k := 0) (v := 0) (by decide) (sh_m_refl h')) c2, t2⟩
    rw [eX7_guess_r44_in]
    exact e2
