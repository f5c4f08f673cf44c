/-! PURE, 10: how long one HOLDS, in both -/
theorem sh_cp_cong {n : Nat} {col col' : Nat → Int32} (hc : ∀ j, j < n → col j = col' j) (r : Nat → Int32) {i : Nat} (hi : i < n) : sh_cp n col r i = sh_cp n col' r i := by
  unfold sh_cp
  apply sh_lp_cong
  intro j _ h2 a
  unfold sh_cpF
  rw [hc j (by omega), hc i hi]
theorem sh_q_cong {n : Nat} {col col' str str' : Nat → Int32} (hc : ∀ j, j < n → col j = col' j) (hs : ∀ j, j < n → str j = str' j) (r : Nat → Int32) {i : Nat} (hi : i < n) : sh_q n col str r i = sh_q n col' str' r i := by
  funext x
  unfold sh_q
  rw [hs i hi, sh_cp_cong hc r hi]
theorem sh_w_cong {n : Nat} {str str' : Nat → Int32} (hs : ∀ j, j < n → str j = str' j) (s : Int32) : sh_w n str s = sh_w n str' s := by
  unfold sh_w
  apply sh_lp_cong
  intro j _ h2 a
  unfold sh_wF
  rw [hs j (by omega)]
theorem sh_hr_cong {n : Nat} {col col' str str' : Nat → Int32} (hc : ∀ j, j < n → col j = col' j) (hs : ∀ j, j < n → str j = str' j) (rl : (Nat → Int32) → Int32) (r : Nat → Int32) : sh_hr n col str rl r = sh_hr n col' str' rl r := by
  unfold sh_hr
  dsimp only
  rw [sh_w_cong hs]
  generalize upd (sh_lp (sh_poF (sh_hd n r)) n 0 r) 30 (av_min 9999 (sh_lp (sh_poF (sh_hd n r)) n 0 r 30 + av_max 0 (sh_lp (sh_poF (sh_hd n r)) n 0 r 31 - sh_w n str' (sh_tt n (sh_lp (sh_poF (sh_hd n r)) n 0 r)) / 5))) = r2
  have : sh_lp (sh_brF (sh_hd n r2) str (fun i => rl (sh_q n col str r2 i))) n 0 0 = sh_lp (sh_brF (sh_hd n r2) str' (fun i => rl (sh_q n col' str' r2 i))) n 0 0 := by
    apply sh_lp_cong
    intro j _ h2 a
    unfold sh_brF
    simp only [hs j (by omega), sh_q_cong hc hs r2 (show j < n by omega)]
  rw [this]
theorem sh_hr_29 {n : Nat} (hn : n ≤ 7) (col str : Nat → Int32) (rl : (Nat → Int32) → Int32) (r : Nat → Int32) : sh_hr n col str rl r 29 = r 29 := by
  unfold sh_hr upd
  rw [if_neg (by decide), if_neg (by decide), if_neg (by decide)]
  exact sh_po_hi (by decide) n 0 r (by omega)
theorem sh_sm_br (H : Int32) (str pl : Nat → Int32) {n : Nat} (hn : n ≤ 7) : sh_sm (sh_lp (sh_brF H str pl) n 0 0) := by
  rw [sh_brF_s]
  exact sh_sm_sF _ hn
theorem sh_hr_28 {n : Nat} (hn : n ≤ 7) (col str : Nat → Int32) (rl : (Nat → Int32) → Int32) (r : Nat → Int32) : ∃ p, sh_sm p ∧ sh_hr n col str rl r 28 = r 28 ||| p := by
  have key : ∀ (r2 : Nat → Int32) (p x : Int32), (upd (upd r2 28 (r2 28 ||| p)) 32 x) 28 = r2 28 ||| p := by
    intro r2 p x
    unfold upd
    rw [if_neg (by decide), if_pos rfl]
  have k2 : ∀ w, (upd (sh_lp (sh_poF (sh_hd n r)) n 0 r) 30 w) 28 = r 28 := by
    intro w
    unfold upd
    rw [if_neg (by decide), sh_po_hi (by decide) n 0 r (by omega)]
  exact ⟨_, sh_sm_br _ _ _ hn, (key _ _ _).trans (by rw [k2])⟩
theorem sh_hd_mono {n : Nat} (hn : n ≤ 7) (col str : Nat → Int32) (rl : (Nat → Int32) → Int32) (r : Nat → Int32) {i : Nat} (hi : i < 32) (h : sh_b (sh_hd n r) i = false) : sh_b (sh_hd n (sh_hr n col str rl r)) i = false := by
  obtain ⟨p, -, e⟩ := sh_hr_28 hn col str rl r
  rw [sh_b_bt _ hi, sh_hd_bt hn _ hi] at h ⊢
  rw [e, sh_hr_29 hn, b_or]
  by_cases hin : i < n
  · cases h1 : bt (r 28) i <;> cases h2 : bt (r 29) i <;> simp_all
  · simp [hin]
/-- an HOUR, and whether i HOLDS after it -/
def sh_hdF (n : Nat) (hr : (Nat → Int32) → (Nat → Int32)) (i : Nat) (_ : Nat) (z : (Nat → Int32) × Int32) : (Nat → Int32) × Int32 := (hr z.1, z.2 + sh_i (sh_b (sh_hd n (hr z.1)) i))
theorem sh_hdF_cong {n : Nat} {hr hr' : (Nat → Int32) → (Nat → Int32)} (e : ∀ r, hr r = hr' r) (i : Nat) : sh_hdF n hr i = sh_hdF n hr' i := by
  rw [show hr = hr' from funext e]
theorem sh_hdF_out {n : Nat} (hn : n ≤ 7) (col str : Nat → Int32) (rl : (Nat → Int32) → Int32) {i : Nat} (hi : i < 32) : ∀ (t k : Nat) (r : Nat → Int32) (a : Int32), sh_b (sh_hd n r) i = false → (sh_lp (sh_hdF n (sh_hr n col str rl) i) t k (r, a)).2 = a := by
  intro t
  induction t with
  | zero => intro k r a _; rfl
  | succ t ih =>
    intro k r a h
    show (sh_lp (sh_hdF n (sh_hr n col str rl) i) t (k + 1) (sh_hdF n (sh_hr n col str rl) i k (r, a))).2 = a
    have h1 := sh_hd_mono hn col str rl r hi h
    have e1 : sh_hdF n (sh_hr n col str rl) i k (r, a) = (sh_hr n col str rl r, a) := by
      show (sh_hr n col str rl r, a + sh_i (sh_b (sh_hd n (sh_hr n col str rl r)) i)) = _
      rw [h1, show sh_i false = 0 from rfl, Int32.add_zero]
    rw [e1]
    exact ih (k + 1) _ a h1
theorem c_heldAt_l (d n m L z i : Nat) (st col str : Nat → Int32) (p2 : Int32) (hn : n ≤ 7) (hi : i < n) (hz : z < 1000) : ∀ t k (h : av_M) (r : Nat → Int32) (a : Int32), k + t = z → h 44 3 = nI n → sh_MV 49 h r → sh_L9 r → sh_RR m st L (h 52) → h 44 18 = nI L → h 46 = col → h 47 = str →
    ∃ h', av_xp (d + 5) 225 27 [.ref 44, .int (nI i), .int p2, .int (nI z), .int a, .int (nI k)] [] h = some ((sh_lp (sh_hdF n (sh_hr n col str (sh_rl m st)) i) t k (r, a)).2, 0, h') ∧ sh_fr [49, 54, 55] h h' := by
  intro t
  induction t with
  | zero =>
    intro k h r a e hm hv h9 hR hL h46 h47
    rw [eX7_heldAt_r44_27, if_pos (sh_ge (by omega) (by omega))]
    exact ⟨h, rfl, sh_fr_refl _ _⟩
  | succ t ih =>
    intro k h r a e hm hv h9 hR hL h46 h47
    rw [eX7_heldAt_r44_27, if_neg (sh_lt (by omega) (by omega))]
    obtain ⟨h1, e1, f1, v1, l1⟩ := c_hourM49 d n m L st h r hn hm hv h9 hR hL
    rw [h46, h47] at v1 l1
    rw [e1]
    simp only [Option.bind_some]
    rw [c_holdingM49 (d + 3) n h1 _ (by rw [f1 44 (by decide)]; exact hm) v1]
    simp only [Option.bind_some]
    rw [c_has (d + 4)]
    simp only [Option.bind_some]
    rw [c_flag (d + 4)]
    simp only [Option.bind_some, nI_1]
    obtain ⟨h2, e2, f2⟩ := ih (k + 1) h1 _ (a + sh_i (sh_b (sh_hd n (sh_hr n col str (sh_rl m st) r)) i)) (by omega) (by rw [f1 44 (by decide)]; exact hm) v1 l1 (by rw [f1 52 (by decide)]; exact hR) (by rw [f1 44 (by decide)]; exact hL) (by rw [f1 46 (by decide)]; exact h46) (by rw [f1 47 (by decide)]; exact h47)
    exact ⟨h2, e2, sh_fr_tr f1 f2 (fun _ z => z)⟩
theorem sh_L9_u {r : Nat → Int32} {j : Nat} {v : Int32} (hj : j < 21 ∨ 28 ≤ j) (h : sh_L9 r) : sh_L9 (upd r j v) := by
  intro x hx
  unfold upd
  rw [if_neg (by omega)]
  exact h x hx
theorem c_heldAt (d n m L z i : Nat) (st : Nat → Int32) (p2 : Int32) (h : av_M) (r : Nat → Int32) (hn : n ≤ 7) (hi : i < n) (hz : z < 1000) (hm : h 44 3 = nI n) (hv : sh_MV 48 h r) (h9 : sh_L9 r) (hR : sh_RR m st L (h 52)) (hL : h 44 18 = nI L) :
    ∃ h', av_x (d + 6) 225 [.ref 44, .int (nI i), .int p2, .int (nI z)] h = some ((sh_lp (sh_hdF n (sh_hr n (h 46) (h 47) (sh_rl m st)) i) z 0 (upd r (14 + i) p2, 0)).2, 0, h') ∧ sh_fr [49, 54, 55] h h' := by
  rw [eX7_heldAt_r44_in]
  obtain ⟨h1, e1, f1, v1⟩ := c_copies (d + 4) h r hv
  rw [e1]
  simp only [Option.bind_some]
  rw [show (14 : Int32) + nI i = nI (14 + i) from nI_add 14 i, sh_inb (show 14 + i < 33 by omega) (by decide), cond_true, nI_clamp (by omega)]
  have f2 : sh_fr [49, 54, 55] h (av_u h1 49 (14 + i) p2) := sh_fr_u (by decide) (sh_fr_up f1 (by decide))
  obtain ⟨h2, e2, f3⟩ := c_heldAt_l d n m L z i st (h 46) (h 47) p2 hn hi hz z 0 (av_u h1 49 (14 + i) p2) (upd r (14 + i) p2) 0 (by omega) (by rw [f2 44 (by decide)]; exact hm) (sh_MV_u _ v1) (sh_L9_u (by omega) h9) (by rw [f2 52 (by decide)]; exact hR) (by rw [f2 44 (by decide)]; exact hL) (by rw [f2 46 (by decide)]) (by rw [f2 47 (by decide)])
  exact ⟨h2, e2, sh_fr_tr f2 f3 (fun _ z => z)⟩
theorem c_heldBy (d n m L z : Nat) (st : Nat → Int32) (p1 : Int32) (h : av_M) (r : Nat → Int32) (hn : n ≤ 7) (hz : z < 1000) (hm : h 44 3 = nI n) (hv : sh_MV 48 h r) (h9 : sh_L9 r) (hR : sh_RR m st L (h 52)) (hL : h 44 18 = nI L) :
    ∃ h', av_x (d + 7) 227 [.ref 44, .int p1, .int (nI z)] h = some (sh_bc (sh_hd n (sh_lp (fun _ => sh_hr n (h 46) (h 47) (sh_rl m st)) z 0 (upd r 31 p1))), 0, h') ∧ sh_fr [49, 54, 55] h h' := by
  rw [eX7_heldBy_r44_in]
  obtain ⟨h1, e1, f1, v1⟩ := c_copies (d + 5) h r hv
  rw [e1]
  simp only [Option.bind_some]
  have f2 : sh_fr [49, 54, 55] h (av_u h1 49 31 p1) := sh_fr_u (by decide) (sh_fr_up f1 (by decide))
  obtain ⟨h2, e2, f3, v3, -⟩ := c_goesOn49 d n m L z st (av_u h1 49 31 p1) (upd r 31 p1) hn hz (by rw [f2 44 (by decide)]; exact hm) (sh_MV_u _ v1) (sh_L9_u (by omega) h9) (by rw [f2 52 (by decide)]; exact hR) (by rw [f2 44 (by decide)]; exact hL)
  rw [f2 46 (by decide), f2 47 (by decide)] at v3
  rw [e2]
  simp only [Option.bind_some]
  rw [c_holdingM49 (d + 4) n h2 _ (by rw [f3 44 (by decide), f2 44 (by decide)]; exact hm) v3]
  simp only [Option.bind_some]
  rw [c_bc (d + 5)]
  exact ⟨h2, rfl, sh_fr_tr f2 f3 (fun _ z => z)⟩
theorem c_hoursHeld_l (d n m z i : Nat) (col str : Nat → Int32) (rl : (Nat → Int32) → Int32) (hn : n ≤ 7) (hi : i < n) (hmm : m ≤ 40) (hz : z < 1000) : ∀ t k (h : av_M) (r : Nat → Int32) (a : Int32), k + t = z → h 13 = col → h 14 = str → h 12 6 = nI n → h 12 7 = sh_e n → sh_SV 12 h r → h 19 3 = nI m → (∀ g q, sh_pl m (h 20) g q = rl q) →
    ∃ h', av_xp (d + 5) 130 5 [.ref 0, .int (nI i), .int (nI z), .int a, .int (nI k)] [] h = some ((sh_lp (sh_hdF n (sh_hr n col str rl) i) t k (r, a)).2, 0, h') ∧ sh_fr [12, 15, 18, 22] h h' := by
  intro t
  induction t with
  | zero =>
    intro k h r a e hc hs hm he hv hsz hrl
    rw [eX6_hoursHeld_r0_5, if_pos (sh_ge (by omega) (by omega))]
    exact ⟨h, rfl, sh_fr_refl _ _⟩
  | succ t ih =>
    intro k h r a e hc hs hm he hv hsz hrl
    rw [eX6_hoursHeld_r0_5, if_neg (sh_lt (by omega) (by omega)), c_holds12 (d + 3) n h r i he hv]
    simp only [Option.bind_some]
    cases hb : sh_b (sh_hd n r) i
    · rw [if_pos (show sh_i false = 0 from rfl), sh_hdF_out hn col str rl (by omega) (t + 1) k r a hb]
      exact ⟨h, rfl, sh_fr_refl _ _⟩
    · rw [if_neg (show ¬ sh_i true = 0 by decide)]
      obtain ⟨h1, e1, f1, v1, m1, x1⟩ := c_passHour1912 d n m h r rl hn hm he hv hmm hsz hrl
      rw [hc, hs] at v1
      rw [e1]
      simp only [Option.bind_some]
      rw [c_holds12 (d + 3) n h1 _ i x1 v1]
      simp only [Option.bind_some, nI_1]
      have go : ∀ b, b = a + sh_i (sh_b (sh_hd n (sh_hr n col str rl r)) i) → ∃ h', av_xp (d + 5) 130 5 [.ref 0, .int (nI i), .int (nI z), .int b, .int (nI (k + 1))] [] h1 = some ((sh_lp (sh_hdF n (sh_hr n col str rl) i) (t + 1) k (r, a)).2, 0, h') ∧ sh_fr [12, 15, 18, 22] h h' := by
        intro b eb
        obtain ⟨h2, e2, f2⟩ := ih (k + 1) h1 _ b (by omega) (by rw [f1 13 (by decide)]; exact hc) (by rw [f1 14 (by decide)]; exact hs) m1 x1 v1 (by rw [f1 19 (by decide)]; exact hsz) (by rw [f1 20 (by decide)]; exact hrl)
        rw [eb] at e2
        rw [eb]
        exact ⟨h2, e2, sh_fr_tr f1 f2 (fun _ z => z)⟩
      cases hb2 : sh_b (sh_hd n (sh_hr n col str rl r)) i
      · rw [if_pos (show sh_i false = 0 from rfl)]
        exact go a (by rw [hb2, show sh_i false = 0 from rfl, Int32.add_zero])
      · rw [if_neg (show ¬ sh_i true = 0 by decide)]
        exact go (a + 1) (by rw [hb2]; rfl)
theorem c_hoursHeld (d n m z i : Nat) (h : av_M) (r : Nat → Int32) (rl : (Nat → Int32) → Int32) (hn : n ≤ 7) (hi : i < n) (hmm : m ≤ 40) (hz : z < 1000) (hm : h 12 6 = nI n) (he : h 12 7 = sh_e n) (hv : sh_SV 12 h r) (hsz : h 19 3 = nI m) (hrl : ∀ g q, sh_pl m (h 20) g q = rl q) :
    ∃ h', av_x (d + 6) 130 [.ref 0, .int (nI i), .int (nI z)] h = some ((sh_lp (sh_hdF n (sh_hr n (h 13) (h 14) rl) i) z 0 (r, 0)).2, 0, h') ∧ sh_fr [12, 15, 18, 22] h h' := by
  rw [eX6_hoursHeld_r0_in]
  exact c_hoursHeld_l d n m z i _ _ rl hn hi hmm hz z 0 h r 0 (by omega) rfl rfl hm he hv hsz hrl
