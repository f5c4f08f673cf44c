/-! EQUATIONS: each segment of each method, as a tree of tests and calls -/
def av_tab (k : Nat) : av_MT := ((av_mn k).2.2.2.2.2.2.2.2.2.2.2, (av_mn k).2.2.2.1)
noncomputable def av_x (d k : Nat) (as : List Value) (h : av_M) : Option av_R := av_X av_tab d k as h
noncomputable def av_xp (d k pc : Nat) (ls st : List Value) (h : av_M) : Option av_R := av_XP (fun k as h => av_x d k as h) (av_tab k).1 pc ls st h
def av_hd (T : List av_I) (pc : Nat) : Bool := match av_at T pc with
  | [] => false
  | _ :: _ => true
theorem av_eq {d k : Nat} (T : List av_I) (nL : Nat) (S : List Nat) (n pc : Nat) (ls st : List Value) (h : av_M) (hT : av_tab k = (T, nL)) (hw : av_wf T = true) (hq : av_hd T pc = true) :
    av_xp d k pc ls st h = av_seg (fun k as h => av_x d k as h) some (fun pc ls st h => av_xp d k pc ls st h) T S n (av_at T pc) ls st h := by
  unfold av_hd at hq
  cases ha : av_at T pc with
  | nil => rw [ha] at hq; cases hq
  | cons q tl =>
    have e := av_at_hd T pc q tl ha
    subst e
    unfold av_xp
    rw [hT]
    exact (av_seg_XP S hw n q tl ls st h ha).symm
theorem av_ent (d k : Nat) (T : List av_I) (nL : Nat) (as : List Value) (h : av_M) (hT : av_tab k = (T, nL)) (hf : Nat.ble (av_in as).length nL = true := by rfl) : av_x (d + 1) k as h = av_xp d k 0 (av_pad nL (av_in as)) [] h := by
  have e : av_x (d + 1) k as h = (match Nat.ble (av_in as).length (av_tab k).2 with
    | true => av_XP (av_X av_tab d) (av_tab k).1 0 (av_pad (av_tab k).2 (av_in as)) [] h
    | false => none) := rfl
  rw [e, hT]
  show (match Nat.ble (av_in as).length nL with
    | true => av_XP (av_X av_tab d) T 0 (av_pad nL (av_in as)) [] h
    | false => none) = av_XP (fun k as h => av_x d k as h) (av_tab k).1 0 _ [] h
  rw [hf, hT]
  rfl
