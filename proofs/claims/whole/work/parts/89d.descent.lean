/-! PURE, 83: calls: rule, 9: a rule on both sides -/
theorem t_descent (x S : Nat) (G : Nat → Nat) (hS : S ≤ 40) : ∀ f, (∀ p nest o h, nest ≤ 4 → (S - p) + 5 * (4 - nest) + 10 ≤ f → p ≤ S → sh_RS x S p nest G o h → sh_OUT x S 3 p nest G o (av_x f 186 [.ref 44] h) h) ∧ (∀ r p nest o h, r ≤ 3 → nest ≤ 4 → (S - p) + 5 * (4 - nest) + 14 - r ≤ f → p ≤ S → sh_RS x S p nest G o h → sh_OUT x S r p nest G o (av_x f 187 [.ref 44, .int (nI r)] h) h) := by
  intro f
  induction f with
  | zero => exact ⟨fun p nest o h _ h2 => by omega, fun r p nest o h h1 _ h2 => by omega⟩
  | succ f ih =>
    obtain ⟨IT, IR⟩ := ih
    refine ⟨fun p nest o h hn hf hp hR => ?_, fun r p nest o h hr hn hf hp hR => ?_⟩
    · obtain ⟨g, rfl⟩ : ∃ g, f = g + 5 := ⟨f - 5, by omega⟩
      exact t_thing g x S p nest G o h hS hn hR (fun h' a b => IT (p + 1) nest o h' hn (by omega) a b) (fun h' a b c => IR 0 (p + 1) (nest + 1) o h' (by omega) (by omega) (by omega) b c)
    · obtain ⟨g, rfl⟩ : ∃ g, f = g + 5 := ⟨f - 5, by omega⟩
      by_cases r3 : r = 3
      · subst r3
        obtain ⟨b, q, C, h', a1, a2⟩ := IT p nest o h hn (by omega) hp hR
        rw [eX7_readsRank_r44_in, if_pos (show nI 3 = 3 by rfl), a1]
        exact ⟨b, q, C, h', by simp only [Option.bind_some]; rw [sh_ia], a2⟩
      · obtain ⟨b, q, C, h', a1, a2, a3, a4, a5, a6, a7, a8⟩ := IR (r + 1) p nest o h (by omega) hn (by omega) hp hR
        have tb : ∀ w, sh_tb r w → sh_tb (r + 1) w := fun w z => Or.inr fun a za => by have := z.resolve_left r3 a za; omega
        rw [eX7_readsRank_r44_in, if_neg (show ¬ nI r = 3 from fun z => r3 ((nI_eq (b := 3) (by omega) (by decide)).mp z)), nI_1, a1]
        simp only [Option.bind_some]
        cases b with
        | false =>
          rw [if_pos (show sh_i false = 0 from rfl), sh_001]
          exact ⟨false, q, C, h', rfl, a2, a3, a4, a5, a6, fun z => (nomatch z), fun z oy w cm dg b1 b2 => a8 z oy w cm dg (tb w b1) (fun z => (nomatch z))⟩
        | true =>
          obtain ⟨R1, wl1, W1, l1⟩ := a7 rfl
          rw [if_neg (show ¬ sh_i true = 0 by decide)]
          refine sh_OUT_h a2 (t_rankL g x S p nest r G o hS (by omega) (fun q' o' h2 c1 c2 c3 => IR (r + 1) q' nest o' h2 (by omega) hn (by omega) c2 c3) (S - q) q C .null h' (by omega) a3 a4 (Or.inl rfl) R1 wl1 ?_ l1)
          intro oy w cm dg b1 b2
          obtain ⟨o', e, cm', dg', y1, y2, y3, y4, y5, y6⟩ := W1 oy w cm dg (tb w b1) (fun z => (nomatch z))
          exact ⟨o', e, cm', dg', y1, fun a z => by have := y2 a z; omega, y3, y4, fun _ => y5 (by omega), fun z => (y5 (by omega)).trans (b2 z), y6⟩
theorem t_fault40 (d x S q : Nat) (good : Bool) (h : av_M) (hS : S = min x 40) (hx : x ≤ 80) (hq : q ≤ S) (h11 : h 44 11 = nI q) (h12 : h 44 12 = nI S) : av_x (d + 1) 182 [.ref 44, .int (nI x), .int 40, .int (sh_i good)] h = some (if good = true ∧ q = S ∧ x ≤ 40 then 0 else -1 - nI q, 0, h) := by
  have e48 : q < 40 ∨ ¬ nI q < 40 ∧ nI q = 40 := by
    by_cases g : q < 40
    · exact Or.inl g
    · exact Or.inr ⟨nI_nlt (b := 40) (by omega) (by omega), by rw [show q = 40 by omega]; rfl⟩
  rw [eX7_faultOf_r44_in, h11, h12]
  cases good
  · rw [if_pos (show sh_i false = 0 from rfl), if_neg (show ¬ (false = true ∧ q = S ∧ x ≤ 40) from fun g => (nomatch g.1))]
    by_cases g : nI x ≤ 40
    · rw [if_pos g]
    · rw [if_neg g]
      rcases e48 with e | e
      · rw [if_pos (show nI q < 40 from nI_lt (b := 40) e (by omega))]
      · rw [if_neg e.1, e.2]
  · rw [if_neg (show ¬ sh_i true = 0 by decide)]
    by_cases g : q = S
    · rw [if_pos (by rw [g])]
      by_cases g2 : x ≤ 40
      · rw [if_pos (show nI x ≤ 40 from sh_ge (k := 40) (n := x) (by omega) (by omega)), if_pos ⟨rfl, g, g2⟩]
      · rw [if_neg (show ¬ nI x ≤ 40 from sh_lt (k := 40) (n := x) (by omega) (by omega)), if_neg (show ¬ (true = true ∧ q = S ∧ x ≤ 40) from fun z => g2 z.2.2), show q = 40 by omega]
        rfl
    · rw [if_neg (show ¬ nI q = nI S from fun z => g ((nI_eq (by omega) (by omega)).mp z)), if_neg (show ¬ (true = true ∧ q = S ∧ x ≤ 40) from fun z => g z.2.1)]
      by_cases g2 : nI x ≤ 40
      · rw [if_pos g2]
      · rw [if_neg g2]
        rcases e48 with e | e
        · rw [if_pos (show nI q < 40 from nI_lt (b := 40) e (by omega))]
        · rw [if_neg e.1, e.2]
/-- from a list to heights -/
theorem sh_wl_H (st cd : Nat → Int32) : ∀ (l : List Nat) (y : Nat), sh_wl l y → sh_ls st id l → sh_ls cd sh_cc l → ∃ H : Nat → Nat, H 0 = 0 ∧ H l.length = y ∧ (∀ k, k ≤ l.length → H k ≤ k) ∧ ∀ k, k < l.length → sh_al (st k) (cd k) (H k) (H (k + 1)) := by
  intro l
  induction l with
  | nil => intro y h _ _; exact ⟨fun _ => 0, rfl, h.symm, fun k _ => Nat.zero_le _, fun k hk => absurd hk (Nat.not_lt_zero _)⟩
  | cons a l ih =>
    intro y h hs hc
    have hy := sh_wl_le _ _ h
    obtain ⟨x, h1, h2⟩ := h
    obtain ⟨H, g0, g1, g2, g3⟩ := ih x h1 hs.2 hc.2
    refine ⟨fun k => if k ≤ l.length then H k else y, ?_, ?_, ?_, ?_⟩
    · show (if 0 ≤ l.length then H 0 else y) = 0
      rw [if_pos (Nat.zero_le _)]; exact g0
    · show (if l.length + 1 ≤ l.length then _ else y) = y
      rw [if_neg (by omega)]
    · intro k hk
      have hk : k ≤ l.length + 1 := hk
      show (if k ≤ l.length then H k else y) ≤ k
      by_cases g : k ≤ l.length
      · rw [if_pos g]; exact g2 k g
      · rw [if_neg g]; have hy : y ≤ l.length + 1 := hy; omega
    · intro k hk
      have hk : k < l.length + 1 := hk
      show sh_al _ _ (if k ≤ l.length then H k else y) (if k + 1 ≤ l.length then H (k + 1) else y)
      by_cases g : k < l.length
      · rw [if_pos (by omega), if_pos (by omega)]; exact g3 k g
      · rw [if_pos (by omega), if_neg (by omega), show k = l.length by omega, hs.1, hc.1, g1]
        exact h2
theorem sh_RR_of {st cd : Nat → Int32} {l : List Nat} (h : sh_wl l 1) (hs : sh_ls st id l) (hc : sh_ls cd sh_cc l) (hl : l.length ≤ 40) : sh_RR l.length st l.length cd := by
  have h1 := sh_wl_le _ _ h
  obtain ⟨H, g0, g1, g2, g3⟩ := sh_wl_H st cd l 1 h hs hc
  exact ⟨hl, h1, H, g0, g1, fun k hk => Nat.le_trans (g2 k hk) (by omega), Or.inr ⟨rfl, g3⟩⟩
theorem sh_RR_0 {st cd : Nat → Int32} (h : st 0 = 1107) : sh_RR 1 st 0 cd := ⟨by decide, by decide, fun k => k, rfl, rfl, fun k hk => by show k ≤ 40; omega, Or.inl ⟨rfl, rfl, h, Or.inl ⟨Or.inr (Or.inl ⟨rfl, rfl⟩), by decide, rfl⟩⟩⟩
theorem sh_RR_c {m L : Nat} {st st' cd cd' : Nat → Int32} (h : sh_RR m st L cd) (hs : ∀ k, k < m → st' k = st k) (hc : ∀ k, k < L → cd' k = cd k) : sh_RR m st' L cd' := by
  obtain ⟨h1, h2, H, h3, h4, h5, h6⟩ := h
  refine ⟨h1, h2, H, h3, h4, h5, ?_⟩
  rcases h6 with ⟨e1, e2, e3, e4⟩ | ⟨e1, e2⟩
  · exact Or.inl ⟨e1, e2, (hs 0 (by omega)).trans e3, e4⟩
  · exact Or.inr ⟨e1, fun k hk => by rw [hs k hk, hc k (by omega)]; exact e2 k hk⟩
theorem sh_RR_L {m L : Nat} {st cd : Nat → Int32} (h : sh_RR m st L cd) : L ≤ 40 := by
  obtain ⟨h1, h2, H, h3, h4, h5, h6⟩ := h
  rcases h6 with ⟨e1, -⟩ | ⟨e1, -⟩ <;> omega
def sh_FM (h h' : av_M) : Prop := (∀ a, a ≠ 44 → a ≠ 53 → h' a = h a) ∧ (∀ j, j ≠ 10 → j ≠ 11 → j ≠ 12 → j ≠ 13 → j ≠ 19 → h' 44 j = h 44 j) ∧ h' 44 10 = nI 0
/-- the rule is read by both -/
theorem c_ruleB (d x : Nat) (G : Nat → Nat) (hX hM : av_M) (hTX : sh_TX x G hX) (m10 : hM 44 10 = nI x) (g50 : ∀ j, j < x → hM 50 j = nI (G j) ∧ G j < 256) :
    (∃ m L h1 h2, av_x (d + 90) 11 [.ref 23, .ref 1] hX = some (-1, 0, h1) ∧ sh_fr [23, 24, 25] hX h1 ∧ h1 23 3 = nI m ∧ av_x (d + 90) 188 [.ref 44] hM = some (0, 0, h2) ∧ sh_FM hM h2 ∧ h2 44 19 = nI L ∧ sh_RR m (h1 24) L (h2 53)) ∨
    (∃ q h1 h2, q ≤ 40 ∧ av_x (d + 90) 11 [.ref 23, .ref 1] hX = some (nI q, 0, h1) ∧ sh_fr [23, 24, 25] hX h1 ∧ av_x (d + 90) 188 [.ref 44] hM = some (-1 - nI q, 0, h2) ∧ sh_FM hM h2) := by
  have hx := hTX.1
  obtain ⟨S, hS⟩ : ∃ S, S = min x 40 := ⟨_, rfl⟩
  have em : av_min (nI x) 40 = nI S := by
    unfold av_min
    by_cases g : x ≤ 40
    · rw [if_neg (show ¬ (40 : Int32) < nI x from nI_nlt (a := 40) g (by decide)), show S = x by omega]
    · rw [if_pos (show (40 : Int32) < nI x from nI_lt (a := 40) (by omega) (by omega)), show S = 40 by omega]
      rfl
  obtain ⟨h0, e0⟩ : ∃ h0, h0 = av_u (av_u (av_u (av_u (av_u hM 44 10 0) 44 11 0) 44 13 0) 44 12 (nI S)) 44 19 0 := ⟨_, rfl⟩
  have B : av_x (d + 89) 175 [.ref 44, .int 40] hM = some (nI x, 0, av_u (av_u (av_u (av_u hM 44 10 0) 44 11 0) 44 13 0) 44 12 (nI S)) := by
    rw [eX7_begins_r44_in, m10, em]
  have F0 : sh_FM hM h0 := by
    rw [e0]
    refine ⟨fun a p q => by rw [av_u_ne p, av_u_ne p, av_u_ne p, av_u_ne p, av_u_ne p], fun j q1 q2 q3 q4 q5 => ?_, rfl⟩
    show upd (upd (upd (upd (upd (hM 44) 10 _) 11 _) 13 _) 12 _) 19 _ j = _
    unfold upd
    rw [if_neg q5, if_neg q3, if_neg q4, if_neg q2, if_neg q1]
  by_cases x0 : x = 0
  · subst x0
    obtain ⟨h1, r1, r2, r3, r4⟩ := c_readX0 (d + 84) hX hTX.2.1
    refine Or.inl ⟨1, 0, h1, h0, r1, r2, r3, ?_, F0, by rw [e0]; rfl, sh_RR_0 r4⟩
    have fl := t_fault40 (d + 88) 0 S 0 true h0 hS (by decide) (Nat.zero_le _) (by rw [e0]; rfl) (by rw [e0]; rfl)
    rw [if_pos ⟨rfl, by omega, by decide⟩] at fl
    have fl : av_x (d + 89) 182 [.ref 44, .int (nI 0), .int 40, .int 1] h0 = some (0, 0, h0) := fl
    rw [eX7_readsRule_r44_in, B]
    simp only [Option.bind_some]
    rw [if_pos (show nI 0 = (0 : Int32) by decide), ← e0, fl]
    rfl
  · have RS0 : sh_RS x S 0 0 G [] h0 := by
      rw [e0]
      exact ⟨⟨by omega, by omega, Nat.zero_le _, rfl, rfl, g50⟩, rfl, rfl, trivial, Nat.le_refl _⟩
    obtain ⟨b, q, C, h2, a1, a2, a3, a4, a5, a6, a7, a8⟩ := (t_descent x S G (by omega) (d + 89)).2 0 0 0 [] h0 (by decide) (by decide) (by omega) (Nat.zero_le _) RS0
    have a1 : av_x (d + 89) 187 [.ref 44, .int 0] h0 = some (sh_i b, 0, h2) := a1
    have F2 : sh_FM hM h2 := ⟨fun a p q => (a2.1 a p q).trans (F0.1 a p q), fun j q1 q2 q3 q4 q5 => (a2.2 j q2 q4 q5).trans (F0.2.1 j q1 q2 q3 q4 q5), (a2.2 10 (by decide) (by decide) (by decide)).trans F0.2.2⟩
    have h12 : h2 44 12 = nI S := (a2.2 12 (by decide) (by decide) (by decide)).trans (by rw [e0]; rfl)
    have fl := t_fault40 (d + 88) x S q b h2 hS hx a4 a5 h12
    have RD : av_x (d + 90) 188 [.ref 44] hM = some (if b = true ∧ q = S ∧ x ≤ 40 then 0 else -1 - nI q, 0, h2) := by
      rw [eX7_readsRule_r44_in, B]
      simp only [Option.bind_some]
      rw [if_neg (nI_ne0 (by omega) (by omega)), ← e0, a1]
      simp only [Option.bind_some]
      cases b with
      | false =>
        have fl : av_x (d + 89) 182 [.ref 44, .int (nI x), .int 40, .int 0] h2 = _ := fl
        rw [if_pos (show sh_i false = 0 from rfl), fl]
        rfl
      | true =>
        have fl : av_x (d + 89) 182 [.ref 44, .int (nI x), .int 40, .int 1] h2 = _ := fl
        rw [if_neg (show ¬ sh_i true = 0 by decide), fl]
        rfl
    have q0 : sh_tb 0 [] := Or.inr fun a z => by cases z
    have cX := fun (s : sh_Y) (r : sh_yq G 0 q sh_y0 s) => c_readX (d + 84) x q G hX hTX x0 s (by omega) r
    rw [← hS] at cX
    cases b with
    | false =>
      obtain ⟨s, s1, s2⟩ := a8 rfl [] [] (fun _ => false) 0 q0 (fun _ => rfl)
      obtain ⟨c1, c2, c3⟩ := cX s s1
      rw [if_neg (fun z => (nomatch z.1))] at RD
      rcases s2 with ⟨z1, z2⟩ | ⟨z1, z2⟩
      · obtain ⟨h1, u1, u2⟩ := c1 z1 z2
        exact Or.inr ⟨q, h1, h2, by omega, u1, u2, RD, F2⟩
      · obtain ⟨h1, u1, u2⟩ := c3 z1 (fun y => by
          rcases z2 with z2 | z2
          · rw [z2] at y; exact absurd y.2.1 (by decide)
          · exact z2 y.2.2)
        exact Or.inr ⟨q, h1, h2, by omega, u1, u2, RD, F2⟩
    | true =>
      obtain ⟨R1, wl1, W1, l1⟩ := a7 rfl
      obtain ⟨o', e, cm', dg', y1, y2, y3, y4, y5, y6⟩ := W1 [] [] (fun _ => false) 0 q0 (fun _ => rfl)
      rw [List.append_nil] at y1 y3
      obtain ⟨c1, c2, c3⟩ := cX _ y1
      by_cases g : q = S ∧ x ≤ 40
      · rw [if_pos ⟨rfl, g⟩] at RD
        obtain ⟨h1, u1, u2, u3, u4⟩ := c2 g.1 ⟨g.2, rfl, rfl⟩
        have ya := sh_yr_app 1 e [] o' y2 (fun a z => by cases z)
        rw [List.append_nil] at ya
        have u3 : h1 23 3 = nI (sh_yr 1 e o').2.length := u3
        have u4 : sh_ls (h1 24) id (sh_yr 1 e o').2 := u4
        rw [ya, y3] at u3 u4
        obtain ⟨-, -, r19, rls, rl⟩ := R1
        rw [List.append_nil] at r19 rls rl
        have w1 := wl1 0 rfl
        rw [List.append_nil] at w1
        exact Or.inl ⟨C.length, C.length, h1, h2, u1, u2, u3, RD, F2, r19, sh_RR_of w1 u4 rls (by omega)⟩
      · rw [if_neg (fun z => g z.2)] at RD
        by_cases g1 : q < S
        · have hg : G q < 256 := (hTX.2.2 q (by omega)).2
          obtain ⟨h1, u1, u2⟩ := c1 g1 (sh_stop o' e y6 g1 hg (Or.inr rfl))
          exact Or.inr ⟨q, h1, h2, by omega, u1, u2, RD, F2⟩
        · obtain ⟨h1, u1, u2⟩ := c3 (by omega) (fun y => g ⟨by omega, y.1⟩)
          exact Or.inr ⟨q, h1, h2, by omega, u1, u2, RD, F2⟩
