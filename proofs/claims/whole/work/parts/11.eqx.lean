/-! equations of the class -/
theorem tabX6_sign : av_tab 52 = (tX6_sign, 2) := rfl
theorem wfX6_sign : av_wf tX6_sign = true := by decide +kernel
set_option maxHeartbeats 400000 in
set_option maxRecDepth 40000 in
theorem eX6_sign_r0_in (d : Nat) (h : av_M) (p1 : Int32) : av_x (d + 1) 52 [.ref 0, .int p1] h = ((av_x d 48 [.ref 1, .int p1] h).bind fun q1 => some ((q1.1 : Int32), (0 : Int64), q1.2.2)) := (av_ent d 52 tX6_sign 2 _ h tabX6_sign).trans ((av_eq tX6_sign 2 [] 6 0 _ _ h tabX6_sign wfX6_sign rfl).trans rfl)
theorem tabX6_end : av_tab 53 = (tX6_end, 2) := rfl
theorem wfX6_end : av_wf tX6_end = true := by decide +kernel
set_option maxHeartbeats 400000 in
set_option maxRecDepth 40000 in
theorem eX6_end_r0_in (d : Nat) (h : av_M) (p1 : Int32) : av_x (d + 1) 53 [.ref 0, .int p1] h = ((av_x d 49 [.ref 1, .int p1] h).bind fun q1 => some (((q1.1 &&& 1) : Int32), (0 : Int64), q1.2.2)) := (av_ent d 53 tX6_end 2 _ h tabX6_end).trans ((av_eq tX6_end 2 [] 6 0 _ _ h tabX6_end wfX6_end rfl).trans rfl)
theorem tabX6_streamers : av_tab 54 = (tX6_streamers, 3) := rfl
theorem wfX6_streamers : av_wf tX6_streamers = true := by decide +kernel
set_option maxHeartbeats 400000 in
set_option maxRecDepth 40000 in
theorem eX6_streamers_r0_in (d : Nat) (h : av_M) : av_x (d + 1) 54 [.ref 0] h = ((av_x d 115 [.ref 0] h).bind fun q1 => (if 0 ≤ q1.1 then (if q1.1 < 0 then some (((((h 1 1) + 1) / 7) : Int32), (0 : Int64), (av_u q1.2.2 1 1 0)) else some ((((-1) - q1.1) : Int32), (0 : Int64), (av_u q1.2.2 1 1 0))) else ((av_x d 117 [.ref 0] q1.2.2).bind fun q2 => (if q1.1 < 0 then some (((((h 1 1) + 1) / 7) : Int32), (0 : Int64), (av_u q2.2.2 1 1 0)) else some ((((-1) - q1.1) : Int32), (0 : Int64), (av_u q2.2.2 1 1 0)))))) := (av_ent d 54 tX6_streamers 3 _ h tabX6_streamers).trans ((av_eq tX6_streamers 3 [] 24 0 _ _ h tabX6_streamers wfX6_streamers rfl).trans rfl)
theorem tabX6_rule : av_tab 55 = (tX6_rule, 2) := rfl
theorem wfX6_rule : av_wf tX6_rule = true := by decide +kernel
set_option maxHeartbeats 400000 in
set_option maxRecDepth 40000 in
theorem eX6_rule_r0_in (d : Nat) (h : av_M) : av_x (d + 1) 55 [.ref 0] h = ((av_x d 11 [.ref 23, .ref 1] h).bind fun q1 => (if q1.1 < 0 then ((av_x d 10 [.ref 19, .ref 23] (av_u q1.2.2 1 1 0)).bind fun q2 => some ((0 : Int32), (0 : Int64), q2.2.2)) else some ((((-1) - q1.1) : Int32), (0 : Int64), (av_u q1.2.2 1 1 0)))) := (av_ent d 55 tX6_rule 2 _ h tabX6_rule).trans ((av_eq tX6_rule 2 [] 20 0 _ _ h tabX6_rule wfX6_rule rfl).trans rfl)
theorem tabX6_sheet : av_tab 57 = (tX6_sheet, 9) := rfl
theorem wfX6_sheet : av_wf tX6_sheet = true := by decide +kernel
set_option maxHeartbeats 400000 in
set_option maxRecDepth 40000 in
theorem eX6_sheet_r0_in (d : Nat) (h : av_M) (p1 : Int32) (p2 : Int32) (p3 : Int32) (p4 : Int32) : av_x (d + 1) 57 [.ref 0, .int p1, .int p2, .int p3, .int p4] h = (if p1 < 0 then some (((-1) : Int32), (0 : Int64), h) else (if 3 < p1 then some (((-1) : Int32), (0 : Int64), h) else (if p2 ≤ 7 then (if p1 = 3 then av_xp d 57 47 [.ref 0, .int p1, .int p2, .int p3, .int p4, .int 1, .int 0, .int 0, .null] [] h else (if 0 ≤ p2 then av_xp d 57 47 [.ref 0, .int p1, .int p2, .int p3, .int p4, .int 0, .int 0, .int 0, .null] [] h else some (((-2) : Int32), (0 : Int64), h))) else some (((-1) : Int32), (0 : Int64), h)))) := (av_ent d 57 tX6_sheet 9 _ h tabX6_sheet).trans ((av_eq tX6_sheet 9 [47] 22 0 _ _ h tabX6_sheet wfX6_sheet rfl).trans rfl)
set_option maxHeartbeats 400000 in
set_option maxRecDepth 40000 in
theorem eX6_sheet_r0_47 (d : Nat) (h : av_M) (a1 : Int32) (a2 : Int32) (a3 : Int32) (a4 : Int32) (a5 : Int32) (a6 : Int32) (a7 : Int32) : av_xp d 57 47 [.ref 0, .int a1, .int a2, .int a3, .int a4, .int a5, .int a6, .int a7, .null] [] h = (if (h 5 6) ≤ a7 then (if a5 = 0 then some ((a6 : Int32), (0 : Int64), h) else some (((-3) : Int32), (0 : Int64), h)) else (if a5 = 0 then (if a2 ≤ a7 then (cond (av_inb a7 7) ((cond (av_inb a7 7) (av_xp d 57 47 [.ref 0, .int a1, .int a2, .int a3, .int a4, .int a5, .int (a6 + ((av_u h 7 (Int32.toNatClampNeg a7) 1) 7 (Int32.toNatClampNeg a7))), .int (a7 + 1), .int 0] [] (av_u h 7 (Int32.toNatClampNeg a7) 1)) none)) none) else ((av_x d 119 [.int a1, .int (a3 + (a7 * a4))] h).bind fun q1 => ((av_x d 104 [.int q1.1, .int 1, .int 9] q1.2.2).bind fun q2 => (cond (av_inb a7 7) ((cond (av_inb a7 7) (av_xp d 57 47 [.ref 0, .int a1, .int a2, .int a3, .int a4, .int a5, .int (a6 + ((av_u q2.2.2 7 (Int32.toNatClampNeg a7) q2.1) 7 (Int32.toNatClampNeg a7))), .int (a7 + 1), .int 1] [] (av_u q2.2.2 7 (Int32.toNatClampNeg a7) q2.1)) none)) none)))) else (cond (av_inb a7 7) ((cond (av_inb a7 7) (av_xp d 57 47 [.ref 0, .int a1, .int a2, .int a3, .int a4, .int a5, .int (a6 + ((av_u h 7 (Int32.toNatClampNeg a7) 1) 7 (Int32.toNatClampNeg a7))), .int (a7 + 1), .int 0] [] (av_u h 7 (Int32.toNatClampNeg a7) 1)) none)) none))) := (av_eq tX6_sheet 9 [47] 42 47 _ _ h tabX6_sheet wfX6_sheet rfl).trans rfl
set_option maxHeartbeats 400000 in
set_option maxRecDepth 40000 in
theorem eX6_sheet_r0_47_2 (d : Nat) (h : av_M) (a1 : Int32) (a2 : Int32) (a3 : Int32) (a4 : Int32) (a5 : Int32) (a6 : Int32) (a7 : Int32) (a8 : Int32) : av_xp d 57 47 [.ref 0, .int a1, .int a2, .int a3, .int a4, .int a5, .int a6, .int a7, .int a8] [] h = (if (h 5 6) ≤ a7 then (if a5 = 0 then some ((a6 : Int32), (0 : Int64), h) else some (((-3) : Int32), (0 : Int64), h)) else (if a5 = 0 then (if a2 ≤ a7 then (cond (av_inb a7 7) ((cond (av_inb a7 7) (av_xp d 57 47 [.ref 0, .int a1, .int a2, .int a3, .int a4, .int a5, .int (a6 + ((av_u h 7 (Int32.toNatClampNeg a7) 1) 7 (Int32.toNatClampNeg a7))), .int (a7 + 1), .int 0] [] (av_u h 7 (Int32.toNatClampNeg a7) 1)) none)) none) else ((av_x d 119 [.int a1, .int (a3 + (a7 * a4))] h).bind fun q1 => ((av_x d 104 [.int q1.1, .int 1, .int 9] q1.2.2).bind fun q2 => (cond (av_inb a7 7) ((cond (av_inb a7 7) (av_xp d 57 47 [.ref 0, .int a1, .int a2, .int a3, .int a4, .int a5, .int (a6 + ((av_u q2.2.2 7 (Int32.toNatClampNeg a7) q2.1) 7 (Int32.toNatClampNeg a7))), .int (a7 + 1), .int 1] [] (av_u q2.2.2 7 (Int32.toNatClampNeg a7) q2.1)) none)) none)))) else (cond (av_inb a7 7) ((cond (av_inb a7 7) (av_xp d 57 47 [.ref 0, .int a1, .int a2, .int a3, .int a4, .int a5, .int (a6 + ((av_u h 7 (Int32.toNatClampNeg a7) 1) 7 (Int32.toNatClampNeg a7))), .int (a7 + 1), .int 0] [] (av_u h 7 (Int32.toNatClampNeg a7) 1)) none)) none))) := (av_eq tX6_sheet 9 [47] 42 47 _ _ h tabX6_sheet wfX6_sheet rfl).trans rfl
theorem tabX6_hours : av_tab 58 = (tX6_hours, 2) := rfl
theorem wfX6_hours : av_wf tX6_hours = true := by decide +kernel
set_option maxHeartbeats 400000 in
set_option maxRecDepth 40000 in
theorem eX6_hours_r0_in (d : Nat) (h : av_M) (p1 : Int32) : av_x (d + 1) 58 [.ref 0, .int p1] h = ((av_x d 2 [.ref 27, .ref 5] h).bind fun q1 => ((av_x d 124 [.ref 0, .int p1] q1.2.2).bind fun q2 => ((av_x d 122 [.ref 0, .int q2.1] q2.2.2).bind fun q3 => some ((q3.1 : Int32), (0 : Int64), q3.2.2)))) := (av_ent d 58 tX6_hours 2 _ h tabX6_hours).trans ((av_eq tX6_hours 2 [] 12 0 _ _ h tabX6_hours wfX6_hours rfl).trans rfl)
theorem tabX6_runs : av_tab 59 = (tX6_runs, 3) := rfl
theorem wfX6_runs : av_wf tX6_runs = true := by decide +kernel
set_option maxHeartbeats 400000 in
set_option maxRecDepth 40000 in
theorem eX6_runs_r0_in (d : Nat) (h : av_M) (p1 : Int32) (p2 : Int32) : av_x (d + 1) 59 [.ref 0, .int p1, .int p2] h = ((av_x d 2 [.ref 27, .ref 5] h).bind fun q1 => ((av_x d 125 [.ref 0, .int p1, .int p2] q1.2.2).bind fun q2 => ((av_x d 122 [.ref 0, .int q2.1] q2.2.2).bind fun q3 => some ((q3.1 : Int32), (0 : Int64), q3.2.2)))) := (av_ent d 59 tX6_runs 3 _ h tabX6_runs).trans ((av_eq tX6_runs 3 [] 13 0 _ _ h tabX6_runs wfX6_runs rfl).trans rfl)
theorem tabX6_rates : av_tab 60 = (tX6_rates, 3) := rfl
theorem wfX6_rates : av_wf tX6_rates = true := by decide +kernel
set_option maxHeartbeats 400000 in
set_option maxRecDepth 40000 in
theorem eX6_rates_r0_in (d : Nat) (h : av_M) (p1 : Int32) (p2 : Int32) : av_x (d + 1) 60 [.ref 0, .int p1, .int p2] h = ((av_x d 2 [.ref 27, .ref 5] h).bind fun q1 => ((av_x d 126 [.ref 0, .int p1, .int p2] q1.2.2).bind fun q2 => ((av_x d 122 [.ref 0, .int q2.1] q2.2.2).bind fun q3 => some ((q3.1 : Int32), (0 : Int64), q3.2.2)))) := (av_ent d 60 tX6_rates 3 _ h tabX6_rates).trans ((av_eq tX6_rates 3 [] 13 0 _ _ h tabX6_rates wfX6_rates rfl).trans rfl)
theorem tabX6_reels : av_tab 61 = (tX6_reels, 3) := rfl
theorem wfX6_reels : av_wf tX6_reels = true := by decide +kernel
set_option maxHeartbeats 400000 in
set_option maxRecDepth 40000 in
theorem eX6_reels_r0_in (d : Nat) (h : av_M) (p1 : Int32) (p2 : Int32) : av_x (d + 1) 61 [.ref 0, .int p1, .int p2] h = ((av_x d 2 [.ref 27, .ref 5] h).bind fun q1 => ((av_x d 127 [.ref 0, .int p1, .int p2] q1.2.2).bind fun q2 => ((av_x d 122 [.ref 0, .int q2.1] q2.2.2).bind fun q3 => some ((q3.1 : Int32), (0 : Int64), q3.2.2)))) := (av_ent d 61 tX6_reels 3 _ h tabX6_reels).trans ((av_eq tX6_reels 3 [] 13 0 _ _ h tabX6_reels wfX6_reels rfl).trans rfl)
theorem tabX6_drops : av_tab 62 = (tX6_drops, 2) := rfl
theorem wfX6_drops : av_wf tX6_drops = true := by decide +kernel
set_option maxHeartbeats 400000 in
set_option maxRecDepth 40000 in
theorem eX6_drops_r0_in (d : Nat) (h : av_M) (p1 : Int32) : av_x (d + 1) 62 [.ref 0, .int p1] h = ((av_x d 2 [.ref 27, .ref 5] h).bind fun q1 => ((av_x d 128 [.ref 0, .int p1] q1.2.2).bind fun q2 => ((av_x d 122 [.ref 0, .int q2.1] q2.2.2).bind fun q3 => some ((q3.1 : Int32), (0 : Int64), q3.2.2)))) := (av_ent d 62 tX6_drops 2 _ h tabX6_drops).trans ((av_eq tX6_drops 2 [] 12 0 _ _ h tabX6_drops wfX6_drops rfl).trans rfl)
theorem tabX6_speed : av_tab 63 = (tX6_speed, 2) := rfl
theorem wfX6_speed : av_wf tX6_speed = true := by decide +kernel
set_option maxHeartbeats 400000 in
set_option maxRecDepth 40000 in
theorem eX6_speed_r0_in (d : Nat) (h : av_M) (p1 : Int32) : av_x (d + 1) 63 [.ref 0, .int p1] h = ((av_x d 2 [.ref 27, .ref 5] h).bind fun q1 => ((av_x d 129 [.ref 0, .int p1] q1.2.2).bind fun q2 => ((av_x d 122 [.ref 0, .int q2.1] q2.2.2).bind fun q3 => some ((q3.1 : Int32), (0 : Int64), q3.2.2)))) := (av_ent d 63 tX6_speed 2 _ h tabX6_speed).trans ((av_eq tX6_speed 2 [] 12 0 _ _ h tabX6_speed wfX6_speed rfl).trans rfl)
theorem tabX6_sailing : av_tab 64 = (tX6_sailing, 5) := rfl
theorem wfX6_sailing : av_wf tX6_sailing = true := by decide +kernel
set_option maxHeartbeats 400000 in
set_option maxRecDepth 40000 in
theorem eX6_sailing_r0_in (d : Nat) (h : av_M) : av_x (d + 1) 64 [.ref 0] h = ((av_x d 120 [.ref 0] h).bind fun q1 => (if q1.1 < 0 then ((av_x d 2 [.ref 27, .ref 5] q1.2.2).bind fun q2 => av_xp d 64 39 [.ref 0, .int q1.1, .int 0, .int 0, .int 0] [] q2.2.2) else some ((((-1) - q1.1) : Int32), (0 : Int64), (av_u q1.2.2 1 1 0)))) := (av_ent d 64 tX6_sailing 5 _ h tabX6_sailing).trans ((av_eq tX6_sailing 5 [39] 17 0 _ _ h tabX6_sailing wfX6_sailing rfl).trans rfl)
set_option maxHeartbeats 400000 in
set_option maxRecDepth 40000 in
theorem eX6_sailing_r0_39 (d : Nat) (h : av_M) (a1 : Int32) (a2 : Int32) (a3 : Int32) (a4 : Int32) : av_xp d 64 39 [.ref 0, .int a1, .int a2, .int a3, .int a4] [] h = (if (h 1 1) ≤ a4 then (if a2 ≤ 0 then (if a3 = 0 then ((av_x d 111 [.ref 0, .long 0, .long (Int32.toInt64 (h 5 10))] (av_u h 1 1 0)).bind fun q1 => some ((a2 : Int32), (0 : Int64), q1.2.2)) else ((av_x d 111 [.ref 0, .long 1, .long (Int32.toInt64 (h 5 10))] (av_u h 1 1 0)).bind fun q2 => some ((a2 : Int32), (0 : Int64), q2.2.2))) else ((av_x d 3 [.ref 27] h).bind fun q3 => (if a3 = 0 then ((av_x d 111 [.ref 0, .long 0, .long (Int32.toInt64 (q3.2.2 5 10))] (av_u q3.2.2 1 1 0)).bind fun q4 => some ((a2 : Int32), (0 : Int64), q4.2.2)) else ((av_x d 111 [.ref 0, .long 1, .long (Int32.toInt64 (q3.2.2 5 10))] (av_u q3.2.2 1 1 0)).bind fun q5 => some ((a2 : Int32), (0 : Int64), q5.2.2))))) else (if a3 = 0 then ((av_x d 123 [.ref 0, .int a4] h).bind fun q11 => (if 0 ≤ q11.1 then ((av_x d 50 [.ref 1, .int a4] q11.2.2).bind fun q12 => ((av_x d 121 [.int q12.1] q12.2.2).bind fun q13 => av_xp d 64 39 [.ref 0, .int a1, .int (a2 + 1), .int 0, .int (a4 + (1 + q13.1))] [] q13.2.2)) else ((av_x d 50 [.ref 1, .int a4] q11.2.2).bind fun q14 => ((av_x d 121 [.int q14.1] q14.2.2).bind fun q15 => av_xp d 64 39 [.ref 0, .int a1, .int a2, .int 1, .int (a4 + (1 + q15.1))] [] q15.2.2)))) else (if a2 ≤ 0 then (if a3 = 0 then ((av_x d 111 [.ref 0, .long 0, .long (Int32.toInt64 (h 5 10))] (av_u h 1 1 0)).bind fun q6 => some ((a2 : Int32), (0 : Int64), q6.2.2)) else ((av_x d 111 [.ref 0, .long 1, .long (Int32.toInt64 (h 5 10))] (av_u h 1 1 0)).bind fun q7 => some ((a2 : Int32), (0 : Int64), q7.2.2))) else ((av_x d 3 [.ref 27] h).bind fun q8 => (if a3 = 0 then ((av_x d 111 [.ref 0, .long 0, .long (Int32.toInt64 (q8.2.2 5 10))] (av_u q8.2.2 1 1 0)).bind fun q9 => some ((a2 : Int32), (0 : Int64), q9.2.2)) else ((av_x d 111 [.ref 0, .long 1, .long (Int32.toInt64 (q8.2.2 5 10))] (av_u q8.2.2 1 1 0)).bind fun q10 => some ((a2 : Int32), (0 : Int64), q10.2.2))))))) := (av_eq tX6_sailing 5 [39] 29 39 _ _ h tabX6_sailing wfX6_sailing rfl).trans rfl
theorem tabX6_undo : av_tab 65 = (tX6_undo, 1) := rfl
theorem wfX6_undo : av_wf tX6_undo = true := by decide +kernel
set_option maxHeartbeats 400000 in
set_option maxRecDepth 40000 in
theorem eX6_undo_r0_in (d : Nat) (h : av_M) : av_x (d + 1) 65 [.ref 0] h = ((av_x d 4 [.ref 27, .ref 5] h).bind fun q1 => (if q1.1 = 0 then some (((-1) : Int32), (0 : Int64), q1.2.2) else some (((q1.2.2 27 3) : Int32), (0 : Int64), q1.2.2))) := (av_ent d 65 tX6_undo 1 _ h tabX6_undo).trans ((av_eq tX6_undo 1 [] 12 0 _ _ h tabX6_undo wfX6_undo rfl).trans rfl)
theorem tabX6_later : av_tab 66 = (tX6_later, 2) := rfl
theorem wfX6_later : av_wf tX6_later = true := by decide +kernel
set_option maxHeartbeats 400000 in
set_option maxRecDepth 40000 in
theorem eX6_later_r0_in (d : Nat) (h : av_M) (p1 : Int32) : av_x (d + 1) 66 [.ref 0, .int p1] h = (if p1 < 0 then some (((-1) : Int32), (0 : Int64), h) else (if p1 ≤ 99 then ((av_x d 114 [.ref 0, .int p1] h).bind fun q1 => ((av_x d 28 [.ref 12] q1.2.2).bind fun q2 => ((av_x d 33 [.ref 12] q2.2.2).bind fun q3 => ((av_x d 111 [.ref 0, .long (Int32.toInt64 q2.1), .long (Int32.toInt64 q3.1)] q3.2.2).bind fun q4 => some (((q4.2.2 12 10) : Int32), (0 : Int64), q4.2.2))))) else some (((-1) : Int32), (0 : Int64), h))) := (av_ent d 66 tX6_later 2 _ h tabX6_later).trans ((av_eq tX6_later 2 [] 23 0 _ _ h tabX6_later wfX6_later rfl).trans rfl)
theorem tabX6_when : av_tab 67 = (tX6_when, 3) := rfl
theorem wfX6_when : av_wf tX6_when = true := by decide +kernel
set_option maxHeartbeats 400000 in
set_option maxRecDepth 40000 in
theorem eX6_when_r0_in (d : Nat) (h : av_M) (p1 : Int32) : av_x (d + 1) 67 [.ref 0, .int p1] h = ((av_x d 26 [.ref 5, .int p1] h).bind fun q1 => (if q1.1 = 0 then some (((-1) : Int32), (0 : Int64), q1.2.2) else ((av_x d 45 [.ref 12, .ref 5] q1.2.2).bind fun q2 => av_xp d 67 26 [.ref 0, .int p1, .int 0] [] q2.2.2))) := (av_ent d 67 tX6_when 3 _ h tabX6_when).trans ((av_eq tX6_when 3 [26] 13 0 _ _ h tabX6_when wfX6_when rfl).trans rfl)
set_option maxHeartbeats 400000 in
set_option maxRecDepth 40000 in
theorem eX6_when_r0_26 (d : Nat) (h : av_M) (a1 : Int32) (a2 : Int32) : av_xp d 67 26 [.ref 0, .int a1, .int a2] [] h = (if 99 < a2 then some (((-2) : Int32), (0 : Int64), h) else ((av_x d 29 [.ref 12, .int a1] h).bind fun q1 => (if q1.1 = 0 then (cond (av_inb a1 7) (((av_x d 111 [.ref 0, .long (Int32.toInt64 (q1.2.2 12 10)), .long (Int32.toInt64 (q1.2.2 18 (Int32.toNatClampNeg a1)))] q1.2.2).bind fun q3 => some ((a2 : Int32), (0 : Int64), q3.2.2))) none) else ((av_x d 43 [.ref 12, .ref 19] q1.2.2).bind fun q2 => av_xp d 67 26 [.ref 0, .int a1, .int (a2 + 1)] [] q2.2.2)))) := (av_eq tX6_when 3 [26] 23 26 _ _ h tabX6_when wfX6_when rfl).trans rfl
theorem tabX6_order : av_tab 68 = (tX6_order, 6) := rfl
theorem wfX6_order : av_wf tX6_order = true := by decide +kernel
set_option maxHeartbeats 400000 in
set_option maxRecDepth 40000 in
theorem eX6_order_r0_in (d : Nat) (h : av_M) : av_x (d + 1) 68 [.ref 0] h = ((av_x d 45 [.ref 12, .ref 5] h).bind fun q1 => ((av_x d 8 [.ref 3] q1.2.2).bind fun q2 => av_xp d 68 22 [.ref 0, .int 0, .int 1, .null, .null, .null] [] q2.2.2)) := (av_ent d 68 tX6_order 6 _ h tabX6_order).trans ((av_eq tX6_order 6 [22, 63] 13 0 _ _ h tabX6_order wfX6_order rfl).trans rfl)
set_option maxHeartbeats 400000 in
set_option maxRecDepth 40000 in
theorem eX6_order_r0_22 (d : Nat) (h : av_M) (a1 : Int32) (a2 : Int32) : av_xp d 68 22 [.ref 0, .int a1, .int a2, .null, .null, .null] [] h = (if 99 < a2 then some ((a1 : Int32), (0 : Int64), h) else ((av_x d 43 [.ref 12, .ref 19] h).bind fun q1 => av_xp d 68 63 [.ref 0, .int a1, .int a2, .int (h 12 8), .int ((q1.2.2 12 8) &&& ((h 12 8) ^^^ (-1))), .int 0] [] q1.2.2)) := (av_eq tX6_order 6 [22, 63] 23 22 _ _ h tabX6_order wfX6_order rfl).trans rfl
set_option maxHeartbeats 400000 in
set_option maxRecDepth 40000 in
theorem eX6_order_r0_63 (d : Nat) (h : av_M) (a1 : Int32) (a2 : Int32) (a3 : Int32) (a4 : Int32) (a5 : Int32) : av_xp d 68 63 [.ref 0, .int a1, .int a2, .int a3, .int a4, .int a5] [] h = (if (h 12 6) ≤ a5 then av_xp d 68 22 [.ref 0, .int a1, .int (a2 + 1), .int a3, .int a4, .int a5] [] h else ((av_x d 108 [.int a4, .int a5] h).bind fun q1 => (if q1.1 = 0 then av_xp d 68 63 [.ref 0, .int a1, .int a2, .int a3, .int a4, .int (a5 + 1)] [] q1.2.2 else ((av_x d 9 [.ref 3, .long (Int32.toInt64 a5)] q1.2.2).bind fun q2 => av_xp d 68 63 [.ref 0, .int (a1 + 1), .int a2, .int a3, .int a4, .int (a5 + 1)] [] q2.2.2)))) := (av_eq tX6_order 6 [22, 63] 18 63 _ _ h tabX6_order wfX6_order rfl).trans rfl
set_option maxHeartbeats 400000 in
set_option maxRecDepth 40000 in
theorem eX6_order_r0_22_2 (d : Nat) (h : av_M) (a1 : Int32) (a2 : Int32) (a3 : Int32) (a4 : Int32) (a5 : Int32) : av_xp d 68 22 [.ref 0, .int a1, .int a2, .int a3, .int a4, .int a5] [] h = (if 99 < a2 then some ((a1 : Int32), (0 : Int64), h) else ((av_x d 43 [.ref 12, .ref 19] h).bind fun q1 => av_xp d 68 63 [.ref 0, .int a1, .int a2, .int (h 12 8), .int ((q1.2.2 12 8) &&& ((h 12 8) ^^^ (-1))), .int 0] [] q1.2.2)) := (av_eq tX6_order 6 [22, 63] 23 22 _ _ h tabX6_order wfX6_order rfl).trans rfl
theorem tabX6_gone : av_tab 69 = (tX6_gone, 2) := rfl
theorem wfX6_gone : av_wf tX6_gone = true := by decide +kernel
set_option maxHeartbeats 400000 in
set_option maxRecDepth 40000 in
theorem eX6_gone_r0_in (d : Nat) (h : av_M) : av_x (d + 1) 69 [.ref 0] h = ((av_x d 45 [.ref 12, .ref 5] h).bind fun q1 => av_xp d 69 13 [.ref 0, .int 0] [] q1.2.2) := (av_ent d 69 tX6_gone 2 _ h tabX6_gone).trans ((av_eq tX6_gone 2 [13] 8 0 _ _ h tabX6_gone wfX6_gone rfl).trans rfl)
set_option maxHeartbeats 400000 in
set_option maxRecDepth 40000 in
theorem eX6_gone_r0_13 (d : Nat) (h : av_M) (a1 : Int32) : av_xp d 69 13 [.ref 0, .int a1] [] h = (if 99 < a1 then some (((-2) : Int32), (0 : Int64), h) else ((av_x d 28 [.ref 12] h).bind fun q1 => (if q1.1 = 0 then ((av_x d 110 [.ref 0, .long (Int32.toInt64 (q1.2.2 12 10))] q1.2.2).bind fun q3 => some ((a1 : Int32), (0 : Int64), q3.2.2)) else ((av_x d 43 [.ref 12, .ref 19] q1.2.2).bind fun q2 => av_xp d 69 13 [.ref 0, .int (a1 + 1)] [] q2.2.2)))) := (av_eq tX6_gone 2 [13] 16 13 _ _ h tabX6_gone wfX6_gone rfl).trans rfl
theorem tabX6_stopped : av_tab 70 = (tX6_stopped, 6) := rfl
theorem wfX6_stopped : av_wf tX6_stopped = true := by decide +kernel
set_option maxHeartbeats 400000 in
set_option maxRecDepth 40000 in
theorem eX6_stopped_r0_in (d : Nat) (h : av_M) : av_x (d + 1) 70 [.ref 0] h = ((av_x d 45 [.ref 12, .ref 5] h).bind fun q1 => av_xp d 70 20 [.ref 0, .int 0, .int 0, .int 0, .int 1, .null] [] q1.2.2) := (av_ent d 70 tX6_stopped 6 _ h tabX6_stopped).trans ((av_eq tX6_stopped 6 [20] 14 0 _ _ h tabX6_stopped wfX6_stopped rfl).trans rfl)
set_option maxHeartbeats 400000 in
set_option maxRecDepth 40000 in
theorem eX6_stopped_r0_20 (d : Nat) (h : av_M) (a1 : Int32) (a2 : Int32) (a3 : Int32) (a4 : Int32) : av_xp d 70 20 [.ref 0, .int a1, .int a2, .int a3, .int a4, .null] [] h = (if 99 < a4 then (if a3 = 0 then some (((-2) : Int32), (0 : Int64), h) else ((av_x d 111 [.ref 0, .long (Int32.toInt64 a3), .long (Int32.toInt64 a2)] h).bind fun q1 => some ((a1 : Int32), (0 : Int64), q1.2.2))) else ((av_x d 43 [.ref 12, .ref 19] h).bind fun q2 => (if (h 12 10) < (q2.2.2 12 10) then av_xp d 70 20 [.ref 0, .int a1, .int a2, .int a3, .int (a4 + 1), .int (h 12 10)] [] q2.2.2 else (if (a3 + 1) = 1 then av_xp d 70 20 [.ref 0, .int a4, .int (q2.2.2 12 10), .int (a3 + 1), .int (a4 + 1), .int (h 12 10)] [] q2.2.2 else av_xp d 70 20 [.ref 0, .int a1, .int a2, .int (a3 + 1), .int (a4 + 1), .int (h 12 10)] [] q2.2.2)))) := (av_eq tX6_stopped 6 [20] 30 20 _ _ h tabX6_stopped wfX6_stopped rfl).trans rfl
set_option maxHeartbeats 400000 in
set_option maxRecDepth 40000 in
theorem eX6_stopped_r0_20_2 (d : Nat) (h : av_M) (a1 : Int32) (a2 : Int32) (a3 : Int32) (a4 : Int32) (a5 : Int32) : av_xp d 70 20 [.ref 0, .int a1, .int a2, .int a3, .int a4, .int a5] [] h = (if 99 < a4 then (if a3 = 0 then some (((-2) : Int32), (0 : Int64), h) else ((av_x d 111 [.ref 0, .long (Int32.toInt64 a3), .long (Int32.toInt64 a2)] h).bind fun q1 => some ((a1 : Int32), (0 : Int64), q1.2.2))) else ((av_x d 43 [.ref 12, .ref 19] h).bind fun q2 => (if (h 12 10) < (q2.2.2 12 10) then av_xp d 70 20 [.ref 0, .int a1, .int a2, .int a3, .int (a4 + 1), .int (h 12 10)] [] q2.2.2 else (if (a3 + 1) = 1 then av_xp d 70 20 [.ref 0, .int a4, .int (q2.2.2 12 10), .int (a3 + 1), .int (a4 + 1), .int (h 12 10)] [] q2.2.2 else av_xp d 70 20 [.ref 0, .int a1, .int a2, .int (a3 + 1), .int (a4 + 1), .int (h 12 10)] [] q2.2.2)))) := (av_eq tX6_stopped 6 [20] 30 20 _ _ h tabX6_stopped wfX6_stopped rfl).trans rfl
theorem tabX6_drag : av_tab 71 = (tX6_drag, 1) := rfl
theorem wfX6_drag : av_wf tX6_drag = true := by decide +kernel
set_option maxHeartbeats 400000 in
set_option maxRecDepth 40000 in
theorem eX6_drag_r0_in (d : Nat) (h : av_M) : av_x (d + 1) 71 [.ref 0] h = ((av_x d 33 [.ref 5] h).bind fun q1 => ((av_x d 28 [.ref 5] q1.2.2).bind fun q2 => ((av_x d 38 [.ref 5, .int q2.1] q2.2.2).bind fun q3 => ((av_x d 111 [.ref 0, .long (Int32.toInt64 q1.1), .long (Int32.toInt64 q3.1)] q3.2.2).bind fun q4 => ((av_x d 41 [.ref 5] q4.2.2).bind fun q5 => some ((q5.1 : Int32), (0 : Int64), q5.2.2)))))) := (av_ent d 71 tX6_drag 1 _ h tabX6_drag).trans ((av_eq tX6_drag 1 [] 18 0 _ _ h tabX6_drag wfX6_drag rfl).trans rfl)
theorem tabX6_thrift : av_tab 72 = (tX6_thrift, 6) := rfl
theorem wfX6_thrift : av_wf tX6_thrift = true := by decide +kernel
set_option maxHeartbeats 400000 in
set_option maxRecDepth 40000 in
theorem eX6_thrift_r0_in (d : Nat) (h : av_M) (p1 : Int32) (p2 : Int32) : av_x (d + 1) 72 [.ref 0, .int p1, .int p2] h = ((av_x d 26 [.ref 5, .int p1] h).bind fun q1 => (if q1.1 = 0 then some (((-1) : Int32), (0 : Int64), q1.2.2) else ((av_x d 107 [.int p2] q1.2.2).bind fun q2 => (if q2.1 = 0 then some (((-1) : Int32), (0 : Int64), q2.2.2) else av_xp d 72 30 [.ref 0, .int p1, .int p2, .int (-2), .int 0, .int 9] [] q2.2.2)))) := (av_ent d 72 tX6_thrift 6 _ h tabX6_thrift).trans ((av_eq tX6_thrift 6 [30] 15 0 _ _ h tabX6_thrift wfX6_thrift rfl).trans rfl)
set_option maxHeartbeats 400000 in
set_option maxRecDepth 40000 in
theorem eX6_thrift_r0_30 (d : Nat) (h : av_M) (a1 : Int32) (a2 : Int32) (a3 : Int32) (a4 : Int32) (a5 : Int32) : av_xp d 72 30 [.ref 0, .int a1, .int a2, .int a3, .int a4, .int a5] [] h = (if a5 < 0 then (if a4 ≤ 0 then some ((a3 : Int32), (0 : Int64), h) else ((av_x d 110 [.ref 0, .long (Int32.toInt64 a4)] h).bind fun q1 => some ((a3 : Int32), (0 : Int64), q1.2.2))) else ((av_x d 45 [.ref 12, .ref 5] h).bind fun q2 => (cond (av_inb a1 7) (((av_x d 130 [.ref 0, .int a1, .int a2] (av_u q2.2.2 16 (Int32.toNatClampNeg a1) a5)).bind fun q3 => (if q3.1 = a2 then av_xp d 72 30 [.ref 0, .int a1, .int a2, .int a5, .int (a4 + 1), .int (a5 + (-1))] [] q3.2.2 else av_xp d 72 30 [.ref 0, .int a1, .int a2, .int a3, .int a4, .int (a5 + (-1))] [] q3.2.2))) none))) := (av_eq tX6_thrift 6 [30] 25 30 _ _ h tabX6_thrift wfX6_thrift rfl).trans rfl
theorem tabX6_mole : av_tab 73 = (tX6_mole, 7) := rfl
theorem wfX6_mole : av_wf tX6_mole = true := by decide +kernel
set_option maxHeartbeats 400000 in
set_option maxRecDepth 40000 in
theorem eX6_mole_r0_in (d : Nat) (h : av_M) (p1 : Int32) (p2 : Int32) : av_x (d + 1) 73 [.ref 0, .int p1, .int p2] h = ((av_x d 26 [.ref 5, .int p1] h).bind fun q1 => (if q1.1 = 0 then some (((-1) : Int32), (0 : Int64), q1.2.2) else ((av_x d 107 [.int p2] q1.2.2).bind fun q2 => (if q2.1 = 0 then some (((-1) : Int32), (0 : Int64), q2.2.2) else av_xp d 73 28 [.ref 0, .int p1, .int p2, .int 0, .int (-1), .int 0, .null] [] q2.2.2)))) := (av_ent d 73 tX6_mole 7 _ h tabX6_mole).trans ((av_eq tX6_mole 7 [28] 15 0 _ _ h tabX6_mole wfX6_mole rfl).trans rfl)
set_option maxHeartbeats 400000 in
set_option maxRecDepth 40000 in
theorem eX6_mole_r0_28 (d : Nat) (h : av_M) (a1 : Int32) (a2 : Int32) (a3 : Int32) (a4 : Int32) (a5 : Int32) : av_xp d 73 28 [.ref 0, .int a1, .int a2, .int a3, .int a4, .int a5, .null] [] h = (if 9 < a5 then ((av_x d 45 [.ref 12, .ref 5] h).bind fun q1 => ((av_x d 130 [.ref 0, .int a1, .int a2] q1.2.2).bind fun q2 => ((av_x d 111 [.ref 0, .long (Int32.toInt64 a4), .long (Int32.toInt64 q2.1)] q2.2.2).bind fun q3 => some ((a3 : Int32), (0 : Int64), q3.2.2)))) else ((av_x d 45 [.ref 12, .ref 5] h).bind fun q4 => (cond (av_inb a1 7) (((av_x d 130 [.ref 0, .int a1, .int a2] (av_u q4.2.2 17 (Int32.toNatClampNeg a1) a5)).bind fun q5 => (if q5.1 ≤ a4 then av_xp d 73 28 [.ref 0, .int a1, .int a2, .int a3, .int a4, .int (a5 + 1), .int q5.1] [] q5.2.2 else av_xp d 73 28 [.ref 0, .int a1, .int a2, .int a5, .int q5.1, .int (a5 + 1), .int q5.1] [] q5.2.2))) none))) := (av_eq tX6_mole 7 [28] 29 28 _ _ h tabX6_mole wfX6_mole rfl).trans rfl
set_option maxHeartbeats 400000 in
set_option maxRecDepth 40000 in
theorem eX6_mole_r0_28_2 (d : Nat) (h : av_M) (a1 : Int32) (a2 : Int32) (a3 : Int32) (a4 : Int32) (a5 : Int32) (a6 : Int32) : av_xp d 73 28 [.ref 0, .int a1, .int a2, .int a3, .int a4, .int a5, .int a6] [] h = (if 9 < a5 then ((av_x d 45 [.ref 12, .ref 5] h).bind fun q1 => ((av_x d 130 [.ref 0, .int a1, .int a2] q1.2.2).bind fun q2 => ((av_x d 111 [.ref 0, .long (Int32.toInt64 a4), .long (Int32.toInt64 q2.1)] q2.2.2).bind fun q3 => some ((a3 : Int32), (0 : Int64), q3.2.2)))) else ((av_x d 45 [.ref 12, .ref 5] h).bind fun q4 => (cond (av_inb a1 7) (((av_x d 130 [.ref 0, .int a1, .int a2] (av_u q4.2.2 17 (Int32.toNatClampNeg a1) a5)).bind fun q5 => (if q5.1 ≤ a4 then av_xp d 73 28 [.ref 0, .int a1, .int a2, .int a3, .int a4, .int (a5 + 1), .int q5.1] [] q5.2.2 else av_xp d 73 28 [.ref 0, .int a1, .int a2, .int a5, .int q5.1, .int (a5 + 1), .int q5.1] [] q5.2.2))) none))) := (av_eq tX6_mole 7 [28] 29 28 _ _ h tabX6_mole wfX6_mole rfl).trans rfl
theorem tabX6_slows : av_tab 74 = (tX6_slows, 5) := rfl
theorem wfX6_slows : av_wf tX6_slows = true := by decide +kernel
set_option maxHeartbeats 400000 in
set_option maxRecDepth 40000 in
theorem eX6_slows_r0_in (d : Nat) (h : av_M) (p1 : Int32) (p2 : Int32) : av_x (d + 1) 74 [.ref 0, .int p1, .int p2] h = (if p1 < 0 then some (((-1) : Int32), (0 : Int64), h) else (if 7 < p1 then some (((-1) : Int32), (0 : Int64), h) else ((av_x d 107 [.int p2] h).bind fun q1 => (if q1.1 = 0 then some (((-1) : Int32), (0 : Int64), q1.2.2) else av_xp d 74 22 [.ref 0, .int p1, .int p2, .int 9, .null] [] q1.2.2)))) := (av_ent d 74 tX6_slows 5 _ h tabX6_slows).trans ((av_eq tX6_slows 5 [22] 11 0 _ _ h tabX6_slows wfX6_slows rfl).trans rfl)
set_option maxHeartbeats 400000 in
set_option maxRecDepth 40000 in
theorem eX6_slows_r0_22 (d : Nat) (h : av_M) (a1 : Int32) (a2 : Int32) (a3 : Int32) : av_xp d 74 22 [.ref 0, .int a1, .int a2, .int a3, .null] [] h = (if a3 < 0 then some (((-2) : Int32), (0 : Int64), h) else ((av_x d 131 [.ref 0, .int a3, .int a2] h).bind fun q1 => (if q1.1 < a1 then av_xp d 74 22 [.ref 0, .int a1, .int a2, .int (a3 + (-1)), .int q1.1] [] q1.2.2 else ((av_x d 131 [.ref 0, .int (q1.2.2 5 11), .int a2] q1.2.2).bind fun q2 => ((av_x d 111 [.ref 0, .long (Int32.toInt64 q1.1), .long (Int32.toInt64 q2.1)] q2.2.2).bind fun q3 => some ((a3 : Int32), (0 : Int64), q3.2.2)))))) := (av_eq tX6_slows 5 [22] 24 22 _ _ h tabX6_slows wfX6_slows rfl).trans rfl
set_option maxHeartbeats 400000 in
set_option maxRecDepth 40000 in
theorem eX6_slows_r0_22_2 (d : Nat) (h : av_M) (a1 : Int32) (a2 : Int32) (a3 : Int32) (a4 : Int32) : av_xp d 74 22 [.ref 0, .int a1, .int a2, .int a3, .int a4] [] h = (if a3 < 0 then some (((-2) : Int32), (0 : Int64), h) else ((av_x d 131 [.ref 0, .int a3, .int a2] h).bind fun q1 => (if q1.1 < a1 then av_xp d 74 22 [.ref 0, .int a1, .int a2, .int (a3 + (-1)), .int q1.1] [] q1.2.2 else ((av_x d 131 [.ref 0, .int (q1.2.2 5 11), .int a2] q1.2.2).bind fun q2 => ((av_x d 111 [.ref 0, .long (Int32.toInt64 q1.1), .long (Int32.toInt64 q2.1)] q2.2.2).bind fun q3 => some ((a3 : Int32), (0 : Int64), q3.2.2)))))) := (av_eq tX6_slows 5 [22] 24 22 _ _ h tabX6_slows wfX6_slows rfl).trans rfl
theorem tabX6_halts : av_tab 75 = (tX6_halts, 6) := rfl
theorem wfX6_halts : av_wf tX6_halts = true := by decide +kernel
set_option maxHeartbeats 400000 in
set_option maxRecDepth 40000 in
theorem eX6_halts_r0_in (d : Nat) (h : av_M) : av_x (d + 1) 75 [.ref 0] h = ((av_x d 28 [.ref 5] h).bind fun q1 => av_xp d 75 16 [.ref 0, .int q1.1, .int 8, .int 0, .int 0, .null] [] q1.2.2) := (av_ent d 75 tX6_halts 6 _ h tabX6_halts).trans ((av_eq tX6_halts 6 [16] 11 0 _ _ h tabX6_halts wfX6_halts rfl).trans rfl)
set_option maxHeartbeats 400000 in
set_option maxRecDepth 40000 in
theorem eX6_halts_r0_16 (d : Nat) (h : av_M) (a1 : Int32) (a2 : Int32) (a3 : Int32) (a4 : Int32) : av_xp d 75 16 [.ref 0, .int a1, .int a2, .int a3, .int a4, .null] [] h = (if 128 ≤ a4 then ((av_x d 113 [.ref 0, .int a2, .int a3] h).bind fun q1 => some ((q1.1 : Int32), (0 : Int64), q1.2.2)) else ((av_x d 109 [.int a4, .int a1] h).bind fun q2 => (if q2.1 = 0 then av_xp d 75 16 [.ref 0, .int a1, .int a2, .int a3, .int (a4 + 1), .int 0] [] q2.2.2 else ((av_x d 275 [.int a4] q2.2.2).bind fun q3 => (if a2 ≤ q3.1 then av_xp d 75 16 [.ref 0, .int a1, .int a2, .int a3, .int (a4 + 1), .int 0] [] q3.2.2 else ((av_x d 38 [.ref 5, .int a4] q3.2.2).bind fun q4 => (if (q4.1 / 5) < (q4.2.2 5 11) then av_xp d 75 16 [.ref 0, .int a1, .int a2, .int a3, .int (a4 + 1), .int 1] [] q4.2.2 else ((av_x d 275 [.int a4] q4.2.2).bind fun q5 => av_xp d 75 16 [.ref 0, .int a1, .int q5.1, .int a4, .int (a4 + 1), .int 1] [] q5.2.2)))))))) := (av_eq tX6_halts 6 [16] 34 16 _ _ h tabX6_halts wfX6_halts rfl).trans rfl
set_option maxHeartbeats 400000 in
set_option maxRecDepth 40000 in
theorem eX6_halts_r0_16_2 (d : Nat) (h : av_M) (a1 : Int32) (a2 : Int32) (a3 : Int32) (a4 : Int32) (a5 : Int32) : av_xp d 75 16 [.ref 0, .int a1, .int a2, .int a3, .int a4, .int a5] [] h = (if 128 ≤ a4 then ((av_x d 113 [.ref 0, .int a2, .int a3] h).bind fun q1 => some ((q1.1 : Int32), (0 : Int64), q1.2.2)) else ((av_x d 109 [.int a4, .int a1] h).bind fun q2 => (if q2.1 = 0 then av_xp d 75 16 [.ref 0, .int a1, .int a2, .int a3, .int (a4 + 1), .int 0] [] q2.2.2 else ((av_x d 275 [.int a4] q2.2.2).bind fun q3 => (if a2 ≤ q3.1 then av_xp d 75 16 [.ref 0, .int a1, .int a2, .int a3, .int (a4 + 1), .int 0] [] q3.2.2 else ((av_x d 38 [.ref 5, .int a4] q3.2.2).bind fun q4 => (if (q4.1 / 5) < (q4.2.2 5 11) then av_xp d 75 16 [.ref 0, .int a1, .int a2, .int a3, .int (a4 + 1), .int 1] [] q4.2.2 else ((av_x d 275 [.int a4] q4.2.2).bind fun q5 => av_xp d 75 16 [.ref 0, .int a1, .int q5.1, .int a4, .int (a4 + 1), .int 1] [] q5.2.2)))))))) := (av_eq tX6_halts 6 [16] 34 16 _ _ h tabX6_halts wfX6_halts rfl).trans rfl
theorem tabX6_frees : av_tab 76 = (tX6_frees, 8) := rfl
theorem wfX6_frees : av_wf tX6_frees = true := by decide +kernel
set_option maxHeartbeats 400000 in
set_option maxRecDepth 40000 in
theorem eX6_frees_r0_in (d : Nat) (h : av_M) (p1 : Int32) (p2 : Int32) : av_x (d + 1) 76 [.ref 0, .int p1, .int p2] h = ((av_x d 26 [.ref 5, .int p1] h).bind fun q1 => (if q1.1 = 0 then some (((-1) : Int32), (0 : Int64), q1.2.2) else ((av_x d 107 [.int p2] q1.2.2).bind fun q2 => (if q2.1 = 0 then some (((-1) : Int32), (0 : Int64), q2.2.2) else ((av_x d 28 [.ref 5] q2.2.2).bind fun q3 => av_xp d 76 44 [.ref 0, .int p1, .int p2, .int (q3.1 &&& ((1 <<< (p1 &&& 31)) ^^^ (-1))), .int 8, .int 0, .int 0, .null] [] q3.2.2))))) := (av_ent d 76 tX6_frees 8 _ h tabX6_frees).trans ((av_eq tX6_frees 8 [44] 25 0 _ _ h tabX6_frees wfX6_frees rfl).trans rfl)
set_option maxHeartbeats 400000 in
set_option maxRecDepth 40000 in
theorem eX6_frees_r0_44 (d : Nat) (h : av_M) (a1 : Int32) (a2 : Int32) (a3 : Int32) (a4 : Int32) (a5 : Int32) (a6 : Int32) : av_xp d 76 44 [.ref 0, .int a1, .int a2, .int a3, .int a4, .int a5, .int a6, .null] [] h = (if 128 ≤ a6 then ((av_x d 113 [.ref 0, .int a4, .int a5] h).bind fun q1 => some ((q1.1 : Int32), (0 : Int64), q1.2.2)) else ((av_x d 109 [.int a6, .int a3] h).bind fun q2 => (if q2.1 = 0 then av_xp d 76 44 [.ref 0, .int a1, .int a2, .int a3, .int a4, .int a5, .int (a6 + 1), .int 0] [] q2.2.2 else ((av_x d 275 [.int a6] q2.2.2).bind fun q3 => (if a4 ≤ q3.1 then av_xp d 76 44 [.ref 0, .int a1, .int a2, .int a3, .int a4, .int a5, .int (a6 + 1), .int 0] [] q3.2.2 else ((av_x d 132 [.ref 0, .int a1, .int a6, .int a2] q3.2.2).bind fun q4 => (if q4.1 = 0 then av_xp d 76 44 [.ref 0, .int a1, .int a2, .int a3, .int a4, .int a5, .int (a6 + 1), .int 1] [] q4.2.2 else ((av_x d 275 [.int a6] q4.2.2).bind fun q5 => av_xp d 76 44 [.ref 0, .int a1, .int a2, .int a3, .int q5.1, .int a6, .int (a6 + 1), .int 1] [] q5.2.2)))))))) := (av_eq tX6_frees 8 [44] 30 44 _ _ h tabX6_frees wfX6_frees rfl).trans rfl
set_option maxHeartbeats 400000 in
set_option maxRecDepth 40000 in
theorem eX6_frees_r0_44_2 (d : Nat) (h : av_M) (a1 : Int32) (a2 : Int32) (a3 : Int32) (a4 : Int32) (a5 : Int32) (a6 : Int32) (a7 : Int32) : av_xp d 76 44 [.ref 0, .int a1, .int a2, .int a3, .int a4, .int a5, .int a6, .int a7] [] h = (if 128 ≤ a6 then ((av_x d 113 [.ref 0, .int a4, .int a5] h).bind fun q1 => some ((q1.1 : Int32), (0 : Int64), q1.2.2)) else ((av_x d 109 [.int a6, .int a3] h).bind fun q2 => (if q2.1 = 0 then av_xp d 76 44 [.ref 0, .int a1, .int a2, .int a3, .int a4, .int a5, .int (a6 + 1), .int 0] [] q2.2.2 else ((av_x d 275 [.int a6] q2.2.2).bind fun q3 => (if a4 ≤ q3.1 then av_xp d 76 44 [.ref 0, .int a1, .int a2, .int a3, .int a4, .int a5, .int (a6 + 1), .int 0] [] q3.2.2 else ((av_x d 132 [.ref 0, .int a1, .int a6, .int a2] q3.2.2).bind fun q4 => (if q4.1 = 0 then av_xp d 76 44 [.ref 0, .int a1, .int a2, .int a3, .int a4, .int a5, .int (a6 + 1), .int 1] [] q4.2.2 else ((av_x d 275 [.int a6] q4.2.2).bind fun q5 => av_xp d 76 44 [.ref 0, .int a1, .int a2, .int a3, .int q5.1, .int a6, .int (a6 + 1), .int 1] [] q5.2.2)))))))) := (av_eq tX6_frees 8 [44] 30 44 _ _ h tabX6_frees wfX6_frees rfl).trans rfl
theorem tabX6_power : av_tab 77 = (tX6_power, 5) := rfl
theorem wfX6_power : av_wf tX6_power = true := by decide +kernel
set_option maxHeartbeats 400000 in
set_option maxRecDepth 40000 in
theorem eX6_power_r0_in (d : Nat) (h : av_M) (p1 : Int32) : av_x (d + 1) 77 [.ref 0, .int p1] h = ((av_x d 26 [.ref 5, .int p1] h).bind fun q1 => (if q1.1 = 0 then some (((-1) : Int32), (0 : Int64), q1.2.2) else ((av_x d 29 [.ref 5, .int p1] q1.2.2).bind fun q2 => (if q2.1 = 0 then some (((-2) : Int32), (0 : Int64), q2.2.2) else ((av_x d 28 [.ref 5] q2.2.2).bind fun q3 => av_xp d 77 46 [.ref 0, .int p1, .int (q3.1 &&& ((1 <<< (p1 &&& 31)) ^^^ (-1))), .int 0, .int 0] [] q3.2.2))))) := (av_ent d 77 tX6_power 5 _ h tabX6_power).trans ((av_eq tX6_power 5 [46] 25 0 _ _ h tabX6_power wfX6_power rfl).trans rfl)
set_option maxHeartbeats 400000 in
set_option maxRecDepth 40000 in
theorem eX6_power_r0_46 (d : Nat) (h : av_M) (a1 : Int32) (a2 : Int32) (a3 : Int32) (a4 : Int32) : av_xp d 77 46 [.ref 0, .int a1, .int a2, .int a3, .int a4] [] h = (if 128 ≤ a4 then ((av_x d 275 [.int a2] h).bind fun q1 => ((av_x d 112 [.ref 0, .long (Int32.toInt64 a3), .long (1 <<< (Int32.toInt64 q1.1 &&& 63))] q1.2.2).bind fun q2 => some ((0 : Int32), (0 : Int64), q2.2.2))) else ((av_x d 109 [.int a4, .int a2] h).bind fun q3 => (if q3.1 = 0 then av_xp d 77 46 [.ref 0, .int a1, .int a2, .int a3, .int (a4 + 1)] [] q3.2.2 else ((av_x d 133 [.ref 0, .int a4, .int a1] q3.2.2).bind fun q4 => (if q4.1 = 0 then av_xp d 77 46 [.ref 0, .int a1, .int a2, .int a3, .int (a4 + 1)] [] q4.2.2 else av_xp d 77 46 [.ref 0, .int a1, .int a2, .int (a3 + 1), .int (a4 + 1)] [] q4.2.2))))) := (av_eq tX6_power 5 [46] 16 46 _ _ h tabX6_power wfX6_power rfl).trans rfl
theorem tabX6_pivots : av_tab 78 = (tX6_pivots, 8) := rfl
theorem wfX6_pivots : av_wf tX6_pivots = true := by decide +kernel
set_option maxHeartbeats 400000 in
set_option maxRecDepth 40000 in
theorem eX6_pivots_r0_in (d : Nat) (h : av_M) (p1 : Int32) : av_x (d + 1) 78 [.ref 0, .int p1] h = ((av_x d 26 [.ref 5, .int p1] h).bind fun q1 => (if q1.1 = 0 then some (((-1) : Int32), (0 : Int64), q1.2.2) else ((av_x d 29 [.ref 5, .int p1] q1.2.2).bind fun q2 => (if q2.1 = 0 then some (((-2) : Int32), (0 : Int64), q2.2.2) else ((av_x d 28 [.ref 5] q2.2.2).bind fun q3 => ((av_x d 275 [.int (q3.1 &&& ((1 <<< (p1 &&& 31)) ^^^ (-1)))] q3.2.2).bind fun q4 => av_xp d 78 52 [.ref 0, .int p1, .int (q3.1 &&& ((1 <<< (p1 &&& 31)) ^^^ (-1))), .int q4.1, .long 0, .null, .int 0, .null] [] q4.2.2)))))) := (av_ent d 78 tX6_pivots 8 _ h tabX6_pivots).trans ((av_eq tX6_pivots 8 [52] 28 0 _ _ h tabX6_pivots wfX6_pivots rfl).trans rfl)
set_option maxHeartbeats 400000 in
set_option maxRecDepth 40000 in
theorem eX6_pivots_r0_52 (d : Nat) (h : av_M) (a1 : Int32) (a2 : Int32) (a3 : Int32) (a4 : Int64) (a6 : Int32) : av_xp d 78 52 [.ref 0, .int a1, .int a2, .int a3, .long a4, .null, .int a6, .null] [] h = (if 128 ≤ a6 then ((av_x d 135 [.int (a3 + 1)] h).bind fun q1 => ((av_x d 112 [.ref 0, .long a4, .long q1.2.1] q1.2.2).bind fun q2 => some ((0 : Int32), (0 : Int64), q2.2.2))) else ((av_x d 109 [.int a6, .int a2] h).bind fun q3 => (if q3.1 = 0 then av_xp d 78 52 [.ref 0, .int a1, .int a2, .int a3, .long a4, .null, .int (a6 + 1), .null] [] q3.2.2 else ((av_x d 133 [.ref 0, .int a6, .int a1] q3.2.2).bind fun q4 => (if q4.1 = 0 then av_xp d 78 52 [.ref 0, .int a1, .int a2, .int a3, .long a4, .null, .int (a6 + 1), .null] [] q4.2.2 else ((av_x d 275 [.int a6] q4.2.2).bind fun q5 => ((av_x d 135 [.int q5.1] q5.2.2).bind fun q6 => ((av_x d 135 [.int (a3 - q5.1)] q6.2.2).bind fun q7 => av_xp d 78 52 [.ref 0, .int a1, .int a2, .int a3, .long (a4 + (q6.2.1 * q7.2.1)), .null, .int (a6 + 1), .int q5.1] [] q7.2.2)))))))) := (av_eq tX6_pivots 8 [52] 28 52 _ _ h tabX6_pivots wfX6_pivots rfl).trans rfl
set_option maxHeartbeats 400000 in
set_option maxRecDepth 40000 in
theorem eX6_pivots_r0_52_2 (d : Nat) (h : av_M) (a1 : Int32) (a2 : Int32) (a3 : Int32) (a4 : Int64) (a6 : Int32) (a7 : Int32) : av_xp d 78 52 [.ref 0, .int a1, .int a2, .int a3, .long a4, .null, .int a6, .int a7] [] h = (if 128 ≤ a6 then ((av_x d 135 [.int (a3 + 1)] h).bind fun q1 => ((av_x d 112 [.ref 0, .long a4, .long q1.2.1] q1.2.2).bind fun q2 => some ((0 : Int32), (0 : Int64), q2.2.2))) else ((av_x d 109 [.int a6, .int a2] h).bind fun q3 => (if q3.1 = 0 then av_xp d 78 52 [.ref 0, .int a1, .int a2, .int a3, .long a4, .null, .int (a6 + 1), .int a7] [] q3.2.2 else ((av_x d 133 [.ref 0, .int a6, .int a1] q3.2.2).bind fun q4 => (if q4.1 = 0 then av_xp d 78 52 [.ref 0, .int a1, .int a2, .int a3, .long a4, .null, .int (a6 + 1), .int a7] [] q4.2.2 else ((av_x d 275 [.int a6] q4.2.2).bind fun q5 => ((av_x d 135 [.int q5.1] q5.2.2).bind fun q6 => ((av_x d 135 [.int (a3 - q5.1)] q6.2.2).bind fun q7 => av_xp d 78 52 [.ref 0, .int a1, .int a2, .int a3, .long (a4 + (q6.2.1 * q7.2.1)), .null, .int (a6 + 1), .int q5.1] [] q7.2.2)))))))) := (av_eq tX6_pivots 8 [52] 28 52 _ _ h tabX6_pivots wfX6_pivots rfl).trans rfl
theorem tabX6_colours : av_tab 79 = (tX6_colours, 5) := rfl
theorem wfX6_colours : av_wf tX6_colours = true := by decide +kernel
set_option maxHeartbeats 400000 in
set_option maxRecDepth 40000 in
theorem eX6_colours_r0_in (d : Nat) (h : av_M) : av_x (d + 1) 79 [.ref 0] h = ((av_x d 8 [.ref 3] h).bind fun q1 => av_xp d 79 13 [.ref 0, .int 0, .int (-1), .int 0, .null] [] q1.2.2) := (av_ent d 79 tX6_colours 5 _ h tabX6_colours).trans ((av_eq tX6_colours 5 [13] 10 0 _ _ h tabX6_colours wfX6_colours rfl).trans rfl)
set_option maxHeartbeats 400000 in
set_option maxRecDepth 40000 in
theorem eX6_colours_r0_13 (d : Nat) (h : av_M) (a1 : Int32) (a2 : Int32) (a3 : Int32) : av_xp d 79 13 [.ref 0, .int a1, .int a2, .int a3, .null] [] h = (if 4 ≤ a3 then some ((a1 : Int32), (0 : Int64), h) else ((av_x d 28 [.ref 5] h).bind fun q1 => ((av_x d 34 [.ref 5, .int a3] q1.2.2).bind fun q2 => ((av_x d 38 [.ref 5, .int (q1.1 &&& q2.1)] q2.2.2).bind fun q3 => ((av_x d 9 [.ref 3, .long (Int32.toInt64 q3.1)] q3.2.2).bind fun q4 => (if q3.1 ≤ a2 then av_xp d 79 13 [.ref 0, .int a1, .int a2, .int (a3 + 1), .int q3.1] [] q4.2.2 else av_xp d 79 13 [.ref 0, .int a3, .int q3.1, .int (a3 + 1), .int q3.1] [] q4.2.2)))))) := (av_eq tX6_colours 5 [13] 30 13 _ _ h tabX6_colours wfX6_colours rfl).trans rfl
set_option maxHeartbeats 400000 in
set_option maxRecDepth 40000 in
theorem eX6_colours_r0_13_2 (d : Nat) (h : av_M) (a1 : Int32) (a2 : Int32) (a3 : Int32) (a4 : Int32) : av_xp d 79 13 [.ref 0, .int a1, .int a2, .int a3, .int a4] [] h = (if 4 ≤ a3 then some ((a1 : Int32), (0 : Int64), h) else ((av_x d 28 [.ref 5] h).bind fun q1 => ((av_x d 34 [.ref 5, .int a3] q1.2.2).bind fun q2 => ((av_x d 38 [.ref 5, .int (q1.1 &&& q2.1)] q2.2.2).bind fun q3 => ((av_x d 9 [.ref 3, .long (Int32.toInt64 q3.1)] q3.2.2).bind fun q4 => (if q3.1 ≤ a2 then av_xp d 79 13 [.ref 0, .int a1, .int a2, .int (a3 + 1), .int q3.1] [] q4.2.2 else av_xp d 79 13 [.ref 0, .int a3, .int q3.1, .int (a3 + 1), .int q3.1] [] q4.2.2)))))) := (av_eq tX6_colours 5 [13] 30 13 _ _ h tabX6_colours wfX6_colours rfl).trans rfl
theorem tabX6_parties : av_tab 80 = (tX6_parties, 7) := rfl
theorem wfX6_parties : av_wf tX6_parties = true := by decide +kernel
set_option maxHeartbeats 400000 in
set_option maxRecDepth 40000 in
theorem eX6_parties_r0_in (d : Nat) (h : av_M) : av_x (d + 1) 80 [.ref 0] h = ((av_x d 28 [.ref 5] h).bind fun q1 => ((av_x d 38 [.ref 5, .int q1.1] q1.2.2).bind fun q2 => av_xp d 80 27 [.ref 0, .int q1.1, .int q2.1, .int (q2.1 + 1), .int 0, .int 0, .null] [] q2.2.2)) := (av_ent d 80 tX6_parties 7 _ h tabX6_parties).trans ((av_eq tX6_parties 7 [27] 18 0 _ _ h tabX6_parties wfX6_parties rfl).trans rfl)
set_option maxHeartbeats 400000 in
set_option maxRecDepth 40000 in
theorem eX6_parties_r0_27 (d : Nat) (h : av_M) (a1 : Int32) (a2 : Int32) (a3 : Int32) (a4 : Int32) (a5 : Int32) : av_xp d 80 27 [.ref 0, .int a1, .int a2, .int a3, .int a4, .int a5, .null] [] h = (if 128 ≤ a5 then ((av_x d 38 [.ref 5, .int a4] h).bind fun q1 => ((av_x d 111 [.ref 0, .long (Int32.toInt64 a4), .long (Int32.toInt64 q1.1)] q1.2.2).bind fun q2 => some ((a3 : Int32), (0 : Int64), q2.2.2))) else ((av_x d 109 [.int a5, .int a1] h).bind fun q3 => (if q3.1 = 0 then av_xp d 80 27 [.ref 0, .int a1, .int a2, .int a3, .int a4, .int (a5 + 1), .null] [] q3.2.2 else ((av_x d 38 [.ref 5, .int a5] q3.2.2).bind fun q4 => (if a3 ≤ (av_abs (a2 - (2 * q4.1))) then av_xp d 80 27 [.ref 0, .int a1, .int a2, .int a3, .int a4, .int (a5 + 1), .int (av_abs (a2 - (2 * q4.1)))] [] q4.2.2 else av_xp d 80 27 [.ref 0, .int a1, .int a2, .int (av_abs (a2 - (2 * q4.1))), .int a5, .int (a5 + 1), .int (av_abs (a2 - (2 * q4.1)))] [] q4.2.2))))) := (av_eq tX6_parties 7 [27] 27 27 _ _ h tabX6_parties wfX6_parties rfl).trans rfl
set_option maxHeartbeats 400000 in
set_option maxRecDepth 40000 in
theorem eX6_parties_r0_27_2 (d : Nat) (h : av_M) (a1 : Int32) (a2 : Int32) (a3 : Int32) (a4 : Int32) (a5 : Int32) (a6 : Int32) : av_xp d 80 27 [.ref 0, .int a1, .int a2, .int a3, .int a4, .int a5, .int a6] [] h = (if 128 ≤ a5 then ((av_x d 38 [.ref 5, .int a4] h).bind fun q1 => ((av_x d 111 [.ref 0, .long (Int32.toInt64 a4), .long (Int32.toInt64 q1.1)] q1.2.2).bind fun q2 => some ((a3 : Int32), (0 : Int64), q2.2.2))) else ((av_x d 109 [.int a5, .int a1] h).bind fun q3 => (if q3.1 = 0 then av_xp d 80 27 [.ref 0, .int a1, .int a2, .int a3, .int a4, .int (a5 + 1), .int a6] [] q3.2.2 else ((av_x d 38 [.ref 5, .int a5] q3.2.2).bind fun q4 => (if a3 ≤ (av_abs (a2 - (2 * q4.1))) then av_xp d 80 27 [.ref 0, .int a1, .int a2, .int a3, .int a4, .int (a5 + 1), .int (av_abs (a2 - (2 * q4.1)))] [] q4.2.2 else av_xp d 80 27 [.ref 0, .int a1, .int a2, .int (av_abs (a2 - (2 * q4.1))), .int a5, .int (a5 + 1), .int (av_abs (a2 - (2 * q4.1)))] [] q4.2.2))))) := (av_eq tX6_parties 7 [27] 27 27 _ _ h tabX6_parties wfX6_parties rfl).trans rfl
theorem tabX6_ends : av_tab 81 = (tX6_ends, 8) := rfl
theorem wfX6_ends : av_wf tX6_ends = true := by decide +kernel
set_option maxHeartbeats 400000 in
set_option maxRecDepth 40000 in
theorem eX6_ends_r0_in (d : Nat) (h : av_M) (p1 : Int32) (p2 : Int32) (p3 : Int32) (p4 : Int32) : av_x (d + 1) 81 [.ref 0, .int p1, .int p2, .int p3, .int p4] h = ((av_x d 137 [.int p1] h).bind fun q1 => (if q1.1 = 0 then some (((-1) : Int32), (0 : Int64), q1.2.2) else ((av_x d 137 [.int p2] q1.2.2).bind fun q2 => (if q2.1 = 0 then some (((-1) : Int32), (0 : Int64), q2.2.2) else ((av_x d 137 [.int p3] q2.2.2).bind fun q3 => (if q3.1 = 0 then some (((-1) : Int32), (0 : Int64), q3.2.2) else ((av_x d 137 [.int p4] q3.2.2).bind fun q4 => (if q4.1 = 0 then some (((-1) : Int32), (0 : Int64), q4.2.2) else ((av_x d 28 [.ref 5] q4.2.2).bind fun q5 => ((av_x d 8 [.ref 3] q5.2.2).bind fun q6 => av_xp d 81 63 [.ref 0, .int p1, .int p2, .int p3, .int p4, .int ((q4.2.2 5 7) &&& (q5.1 ^^^ (-1))), .int 0, .int 0] [] q6.2.2)))))))))) := (av_ent d 81 tX6_ends 8 _ h tabX6_ends).trans ((av_eq tX6_ends 8 [63] 30 0 _ _ h tabX6_ends wfX6_ends rfl).trans rfl)
set_option maxHeartbeats 400000 in
set_option maxRecDepth 40000 in
theorem eX6_ends_r0_63 (d : Nat) (h : av_M) (a1 : Int32) (a2 : Int32) (a3 : Int32) (a4 : Int32) (a5 : Int32) (a6 : Int32) (a7 : Int32) : av_xp d 81 63 [.ref 0, .int a1, .int a2, .int a3, .int a4, .int a5, .int a6, .int a7] [] h = (if 128 ≤ a7 then some ((a6 : Int32), (0 : Int64), h) else ((av_x d 109 [.int a7, .int a5] h).bind fun q1 => (if q1.1 = 0 then av_xp d 81 63 [.ref 0, .int a1, .int a2, .int a3, .int a4, .int a5, .int a6, .int (a7 + 1)] [] q1.2.2 else ((av_x d 138 [.ref 0, .int a7, .int a1, .int a2, .int a3, .int a4] q1.2.2).bind fun q2 => (if q2.1 = 0 then av_xp d 81 63 [.ref 0, .int a1, .int a2, .int a3, .int a4, .int a5, .int a6, .int (a7 + 1)] [] q2.2.2 else (if a6 = 0 then ((av_x d 9 [.ref 3, .long (Int32.toInt64 a7)] q2.2.2).bind fun q3 => av_xp d 81 63 [.ref 0, .int a1, .int a2, .int a3, .int a4, .int a5, .int (a6 + 1), .int (a7 + 1)] [] q3.2.2) else av_xp d 81 63 [.ref 0, .int a1, .int a2, .int a3, .int a4, .int a5, .int (a6 + 1), .int (a7 + 1)] [] q2.2.2)))))) := (av_eq tX6_ends 8 [63] 26 63 _ _ h tabX6_ends wfX6_ends rfl).trans rfl
theorem tabX6_just : av_tab 82 = (tX6_just, 6) := rfl
theorem wfX6_just : av_wf tX6_just = true := by decide +kernel
set_option maxHeartbeats 400000 in
set_option maxRecDepth 40000 in
theorem eX6_just_r0_in (d : Nat) (h : av_M) (p1 : Int32) : av_x (d + 1) 82 [.ref 0, .int p1] h = (if p1 < 0 then some (((-1) : Int32), (0 : Int64), h) else (if p1 ≤ 9999 then av_xp d 82 24 [.ref 0, .int p1, .int 8, .int 0, .int 0, .int 0] [] h else some (((-1) : Int32), (0 : Int64), h))) := (av_ent d 82 tX6_just 6 _ h tabX6_just).trans ((av_eq tX6_just 6 [24] 14 0 _ _ h tabX6_just wfX6_just rfl).trans rfl)
set_option maxHeartbeats 400000 in
set_option maxRecDepth 40000 in
theorem eX6_just_r0_24 (d : Nat) (h : av_M) (a1 : Int32) (a2 : Int32) (a3 : Int32) (a4 : Int32) (a5 : Int32) : av_xp d 82 24 [.ref 0, .int a1, .int a2, .int a3, .int a4, .int a5] [] h = (if 128 ≤ a5 then (if a4 = 0 then some (((-2) : Int32), (0 : Int64), h) else ((av_x d 111 [.ref 0, .long (Int32.toInt64 a3), .long (Int32.toInt64 a4)] h).bind fun q1 => some ((a2 : Int32), (0 : Int64), q1.2.2))) else ((av_x d 109 [.int a5, .int (h 5 7)] h).bind fun q2 => (if q2.1 = 0 then av_xp d 82 24 [.ref 0, .int a1, .int a2, .int a3, .int a4, .int (a5 + 1)] [] q2.2.2 else ((av_x d 39 [.ref 5, .int a5] q2.2.2).bind fun q3 => (if q3.1 = a1 then ((av_x d 275 [.int a5] q3.2.2).bind fun q4 => (if a2 ≤ q4.1 then av_xp d 82 24 [.ref 0, .int a1, .int a2, .int a3, .int (a4 + 1), .int (a5 + 1)] [] q4.2.2 else ((av_x d 275 [.int a5] q4.2.2).bind fun q5 => av_xp d 82 24 [.ref 0, .int a1, .int q5.1, .int a5, .int (a4 + 1), .int (a5 + 1)] [] q5.2.2))) else av_xp d 82 24 [.ref 0, .int a1, .int a2, .int a3, .int a4, .int (a5 + 1)] [] q3.2.2))))) := (av_eq tX6_just 6 [24] 28 24 _ _ h tabX6_just wfX6_just rfl).trans rfl
theorem tabX6_seen : av_tab 83 = (tX6_seen, 5) := rfl
theorem wfX6_seen : av_wf tX6_seen = true := by decide +kernel
set_option maxHeartbeats 400000 in
set_option maxRecDepth 40000 in
theorem eX6_seen_r0_in (d : Nat) (h : av_M) (p1 : Int32) (p2 : Int32) (p3 : Int32) : av_x (d + 1) 83 [.ref 0, .int p1, .int p2, .int p3] h = ((av_x d 26 [.ref 5, .int p1] h).bind fun q1 => (if q1.1 = 0 then some (((-1) : Int32), (0 : Int64), q1.2.2) else ((av_x d 105 [.int p3] q1.2.2).bind fun q2 => (if q2.1 = 0 then some (((-1) : Int32), (0 : Int64), q2.2.2) else (if p2 < (-99) then some (((-1) : Int32), (0 : Int64), q2.2.2) else (if p2 ≤ 99 then ((av_x d 0 [.ref 30, .int p1, .int p2, .int p3] q2.2.2).bind fun q3 => some ((q3.1 : Int32), (0 : Int64), q3.2.2)) else some (((-1) : Int32), (0 : Int64), q2.2.2))))))) := (av_ent d 83 tX6_seen 5 _ h tabX6_seen).trans ((av_eq tX6_seen 5 [] 27 0 _ _ h tabX6_seen wfX6_seen rfl).trans rfl)
theorem tabX6_forget : av_tab 84 = (tX6_forget, 1) := rfl
theorem wfX6_forget : av_wf tX6_forget = true := by decide +kernel
set_option maxHeartbeats 400000 in
set_option maxRecDepth 40000 in
theorem eX6_forget_r0_in (d : Nat) (h : av_M) : av_x (d + 1) 84 [.ref 0] h = ((av_x d 1 [.ref 30] h).bind fun q1 => some ((q1.1 : Int32), (0 : Int64), q1.2.2)) := (av_ent d 84 tX6_forget 1 _ h tabX6_forget).trans ((av_eq tX6_forget 1 [] 5 0 _ _ h tabX6_forget wfX6_forget rfl).trans rfl)
theorem tabX6_guess : av_tab 85 = (tX6_guess, 5) := rfl
theorem wfX6_guess : av_wf tX6_guess = true := by decide +kernel
set_option maxHeartbeats 400000 in
set_option maxRecDepth 40000 in
theorem eX6_guess_r0_in (d : Nat) (h : av_M) : av_x (d + 1) 85 [.ref 0] h = av_xp d 85 9 [.ref 0, .int 0, .int 0, .int 0, .int 0] [] h := (av_ent d 85 tX6_guess 5 _ h tabX6_guess).trans ((av_eq tX6_guess 5 [9] 9 0 _ _ h tabX6_guess wfX6_guess rfl).trans rfl)
set_option maxHeartbeats 400000 in
set_option maxRecDepth 40000 in
theorem eX6_guess_r0_9 (d : Nat) (h : av_M) (a1 : Int32) (a2 : Int32) (a3 : Int32) (a4 : Int32) : av_xp d 85 9 [.ref 0, .int a1, .int a2, .int a3, .int a4] [] h = (if 60 ≤ a4 then ((av_x d 139 [.ref 0, .int (h 5 10)] h).bind fun q1 => (if q1.1 = 0 then ((av_x d 110 [.ref 0, .long 0] q1.2.2).bind fun q2 => (if a1 ≤ 0 then some ((a1 : Int32), (0 : Int64), q2.2.2) else ((av_x d 9 [.ref 3, .long (Int32.toInt64 a2)] q2.2.2).bind fun q3 => ((av_x d 9 [.ref 3, .long (Int32.toInt64 a3)] q3.2.2).bind fun q4 => some ((a1 : Int32), (0 : Int64), q4.2.2))))) else ((av_x d 110 [.ref 0, .long 1] q1.2.2).bind fun q5 => (if a1 ≤ 0 then some ((a1 : Int32), (0 : Int64), q5.2.2) else ((av_x d 9 [.ref 3, .long (Int32.toInt64 a2)] q5.2.2).bind fun q6 => ((av_x d 9 [.ref 3, .long (Int32.toInt64 a3)] q6.2.2).bind fun q7 => some ((a1 : Int32), (0 : Int64), q7.2.2))))))) else ((av_x d 139 [.ref 0, .int a4] h).bind fun q8 => (if q8.1 = 0 then av_xp d 85 9 [.ref 0, .int a1, .int a2, .int a3, .int (a4 + 1)] [] q8.2.2 else (if a1 = 0 then av_xp d 85 9 [.ref 0, .int (a1 + 1), .int a4, .int a4, .int (a4 + 1)] [] q8.2.2 else av_xp d 85 9 [.ref 0, .int (a1 + 1), .int a2, .int a4, .int (a4 + 1)] [] q8.2.2)))) := (av_eq tX6_guess 5 [9] 28 9 _ _ h tabX6_guess wfX6_guess rfl).trans rfl
theorem tabX6_looks : av_tab 86 = (tX6_looks, 8) := rfl
theorem wfX6_looks : av_wf tX6_looks = true := by decide +kernel
set_option maxHeartbeats 400000 in
set_option maxRecDepth 40000 in
theorem eX6_looks_r0_in (d : Nat) (h : av_M) : av_x (d + 1) 86 [.ref 0] h = ((av_x d 140 [.ref 0] h).bind fun q1 => (if q1.1 = 0 then some (((-2) : Int32), (0 : Int64), q1.2.2) else (if (q1.2.2 5 6) = 0 then some (((-2) : Int32), (0 : Int64), q1.2.2) else av_xp d 86 31 [.ref 0, .int q1.1, .int (q1.1 + 1), .int 0, .int 0, .null, .null, .null] [] q1.2.2))) := (av_ent d 86 tX6_looks 8 _ h tabX6_looks).trans ((av_eq tX6_looks 8 [31, 47] 18 0 _ _ h tabX6_looks wfX6_looks rfl).trans rfl)
set_option maxHeartbeats 400000 in
set_option maxRecDepth 40000 in
theorem eX6_looks_r0_31 (d : Nat) (h : av_M) (a1 : Int32) (a2 : Int32) (a3 : Int32) (a4 : Int32) : av_xp d 86 31 [.ref 0, .int a1, .int a2, .int a3, .int a4, .null, .null, .null] [] h = (if (h 5 6) ≤ a4 then ((av_x d 110 [.ref 0, .long (Int32.toInt64 a2)] h).bind fun q1 => some ((a3 : Int32), (0 : Int64), q1.2.2)) else av_xp d 86 47 [.ref 0, .int a1, .int a2, .int a3, .int a4, .int (-99), .null, .null] [] h) := (av_eq tX6_looks 8 [31, 47] 12 31 _ _ h tabX6_looks wfX6_looks rfl).trans rfl
set_option maxHeartbeats 400000 in
set_option maxRecDepth 40000 in
theorem eX6_looks_r0_47 (d : Nat) (h : av_M) (a1 : Int32) (a2 : Int32) (a3 : Int32) (a4 : Int32) (a5 : Int32) : av_xp d 86 47 [.ref 0, .int a1, .int a2, .int a3, .int a4, .int a5, .null, .null] [] h = (if 99 < a5 then av_xp d 86 31 [.ref 0, .int a1, .int a2, .int a3, .int (a4 + 1), .int a5, .null, .null] [] h else ((av_x d 31 [.ref 5, .int a4] h).bind fun q1 => ((av_x d 104 [.int (a5 + q1.1), .int 0, .int 60] q1.2.2).bind fun q2 => (cond (av_inb q2.1 61) ((if a2 ≤ (av_max (q2.2.2 42 (Int32.toNatClampNeg q2.1)) (a1 - (q2.2.2 42 (Int32.toNatClampNeg q2.1)))) then av_xp d 86 47 [.ref 0, .int a1, .int a2, .int a3, .int a4, .int (a5 + 1), .int (q2.2.2 42 (Int32.toNatClampNeg q2.1)), .int (av_max (q2.2.2 42 (Int32.toNatClampNeg q2.1)) (a1 - (q2.2.2 42 (Int32.toNatClampNeg q2.1))))] [] q2.2.2 else av_xp d 86 47 [.ref 0, .int a1, .int (av_max (q2.2.2 42 (Int32.toNatClampNeg q2.1)) (a1 - (q2.2.2 42 (Int32.toNatClampNeg q2.1)))), .int (((200 * a4) + 99) + a5), .int a4, .int (a5 + 1), .int (q2.2.2 42 (Int32.toNatClampNeg q2.1)), .int (av_max (q2.2.2 42 (Int32.toNatClampNeg q2.1)) (a1 - (q2.2.2 42 (Int32.toNatClampNeg q2.1))))] [] q2.2.2)) none)))) := (av_eq tX6_looks 8 [31, 47] 38 47 _ _ h tabX6_looks wfX6_looks rfl).trans rfl
set_option maxHeartbeats 400000 in
set_option maxRecDepth 40000 in
theorem eX6_looks_r0_31_2 (d : Nat) (h : av_M) (a1 : Int32) (a2 : Int32) (a3 : Int32) (a4 : Int32) (a5 : Int32) : av_xp d 86 31 [.ref 0, .int a1, .int a2, .int a3, .int a4, .int a5, .null, .null] [] h = (if (h 5 6) ≤ a4 then ((av_x d 110 [.ref 0, .long (Int32.toInt64 a2)] h).bind fun q1 => some ((a3 : Int32), (0 : Int64), q1.2.2)) else av_xp d 86 47 [.ref 0, .int a1, .int a2, .int a3, .int a4, .int (-99), .null, .null] [] h) := (av_eq tX6_looks 8 [31, 47] 12 31 _ _ h tabX6_looks wfX6_looks rfl).trans rfl
set_option maxHeartbeats 400000 in
set_option maxRecDepth 40000 in
theorem eX6_looks_r0_47_2 (d : Nat) (h : av_M) (a1 : Int32) (a2 : Int32) (a3 : Int32) (a4 : Int32) (a5 : Int32) (a6 : Int32) (a7 : Int32) : av_xp d 86 47 [.ref 0, .int a1, .int a2, .int a3, .int a4, .int a5, .int a6, .int a7] [] h = (if 99 < a5 then av_xp d 86 31 [.ref 0, .int a1, .int a2, .int a3, .int (a4 + 1), .int a5, .int a6, .int a7] [] h else ((av_x d 31 [.ref 5, .int a4] h).bind fun q1 => ((av_x d 104 [.int (a5 + q1.1), .int 0, .int 60] q1.2.2).bind fun q2 => (cond (av_inb q2.1 61) ((if a2 ≤ (av_max (q2.2.2 42 (Int32.toNatClampNeg q2.1)) (a1 - (q2.2.2 42 (Int32.toNatClampNeg q2.1)))) then av_xp d 86 47 [.ref 0, .int a1, .int a2, .int a3, .int a4, .int (a5 + 1), .int (q2.2.2 42 (Int32.toNatClampNeg q2.1)), .int (av_max (q2.2.2 42 (Int32.toNatClampNeg q2.1)) (a1 - (q2.2.2 42 (Int32.toNatClampNeg q2.1))))] [] q2.2.2 else av_xp d 86 47 [.ref 0, .int a1, .int (av_max (q2.2.2 42 (Int32.toNatClampNeg q2.1)) (a1 - (q2.2.2 42 (Int32.toNatClampNeg q2.1)))), .int (((200 * a4) + 99) + a5), .int a4, .int (a5 + 1), .int (q2.2.2 42 (Int32.toNatClampNeg q2.1)), .int (av_max (q2.2.2 42 (Int32.toNatClampNeg q2.1)) (a1 - (q2.2.2 42 (Int32.toNatClampNeg q2.1))))] [] q2.2.2)) none)))) := (av_eq tX6_looks 8 [31, 47] 38 47 _ _ h tabX6_looks wfX6_looks rfl).trans rfl
set_option maxHeartbeats 400000 in
set_option maxRecDepth 40000 in
theorem eX6_looks_r0_31_3 (d : Nat) (h : av_M) (a1 : Int32) (a2 : Int32) (a3 : Int32) (a4 : Int32) (a5 : Int32) (a6 : Int32) (a7 : Int32) : av_xp d 86 31 [.ref 0, .int a1, .int a2, .int a3, .int a4, .int a5, .int a6, .int a7] [] h = (if (h 5 6) ≤ a4 then ((av_x d 110 [.ref 0, .long (Int32.toInt64 a2)] h).bind fun q1 => some ((a3 : Int32), (0 : Int64), q1.2.2)) else av_xp d 86 47 [.ref 0, .int a1, .int a2, .int a3, .int a4, .int (-99), .int a6, .int a7] [] h) := (av_eq tX6_looks 8 [31, 47] 12 31 _ _ h tabX6_looks wfX6_looks rfl).trans rfl
theorem tabX6_heard : av_tab 87 = (tX6_heard, 3) := rfl
theorem wfX6_heard : av_wf tX6_heard = true := by decide +kernel
set_option maxHeartbeats 400000 in
set_option maxRecDepth 40000 in
theorem eX6_heard_r0_in (d : Nat) (h : av_M) (p1 : Int32) (p2 : Int32) : av_x (d + 1) 87 [.ref 0, .int p1, .int p2] h = ((av_x d 141 [.int p1, .int p2] h).bind fun q1 => (if q1.1 = 0 then some (((-1) : Int32), (0 : Int64), q1.2.2) else ((av_x d 0 [.ref 34, .int p1, .int p2, .int 1] q1.2.2).bind fun q2 => some ((q2.1 : Int32), (0 : Int64), q2.2.2)))) := (av_ent d 87 tX6_heard 3 _ h tabX6_heard).trans ((av_eq tX6_heard 3 [] 13 0 _ _ h tabX6_heard wfX6_heard rfl).trans rfl)
theorem tabX6_denies : av_tab 88 = (tX6_denies, 1) := rfl
theorem wfX6_denies : av_wf tX6_denies = true := by decide +kernel
set_option maxHeartbeats 400000 in
set_option maxRecDepth 40000 in
theorem eX6_denies_r0_in (d : Nat) (h : av_M) : av_x (d + 1) 88 [.ref 0] h = ((av_x d 1 [.ref 34] h).bind fun q1 => some ((q1.1 : Int32), (0 : Int64), q1.2.2)) := (av_ent d 88 tX6_denies 1 _ h tabX6_denies).trans ((av_eq tX6_denies 1 [] 5 0 _ _ h tabX6_denies wfX6_denies rfl).trans rfl)
theorem tabX6_fits : av_tab 89 = (tX6_fits, 2) := rfl
theorem wfX6_fits : av_wf tX6_fits = true := by decide +kernel
set_option maxHeartbeats 400000 in
set_option maxRecDepth 40000 in
theorem eX6_fits_r0_in (d : Nat) (h : av_M) : av_x (d + 1) 89 [.ref 0] h = ((av_x d 142 [.ref 0] h).bind fun q1 => ((av_x d 275 [.int q1.1] q1.2.2).bind fun q2 => ((av_x d 110 [.ref 0, .long (Int32.toInt64 q2.1)] q2.2.2).bind fun q3 => some ((q1.1 : Int32), (0 : Int64), q3.2.2)))) := (av_ent d 89 tX6_fits 2 _ h tabX6_fits).trans ((av_eq tX6_fits 2 [] 11 0 _ _ h tabX6_fits wfX6_fits rfl).trans rfl)
theorem tabX6_asks : av_tab 90 = (tX6_asks, 10) := rfl
theorem wfX6_asks : av_wf tX6_asks = true := by decide +kernel
set_option maxHeartbeats 400000 in
set_option maxRecDepth 40000 in
theorem eX6_asks_r0_in (d : Nat) (h : av_M) : av_x (d + 1) 90 [.ref 0] h = ((av_x d 142 [.ref 0] h).bind fun q1 => ((av_x d 275 [.int q1.1] q1.2.2).bind fun q2 => (if q2.1 = 0 then some (((-2) : Int32), (0 : Int64), q2.2.2) else av_xp d 90 27 [.ref 0, .int q1.1, .int q2.1, .int (q2.1 + 1), .int 0, .int 0, .null, .null, .null, .null] [] q2.2.2))) := (av_ent d 90 tX6_asks 10 _ h tabX6_asks).trans ((av_eq tX6_asks 10 [27] 17 0 _ _ h tabX6_asks wfX6_asks rfl).trans rfl)
set_option maxHeartbeats 400000 in
set_option maxRecDepth 40000 in
theorem eX6_asks_r0_27 (d : Nat) (h : av_M) (a1 : Int32) (a2 : Int32) (a3 : Int32) (a4 : Int32) (a5 : Int32) : av_xp d 90 27 [.ref 0, .int a1, .int a2, .int a3, .int a4, .int a5, .null, .null, .null, .null] [] h = (if 50 ≤ a5 then ((av_x d 110 [.ref 0, .long (Int32.toInt64 a3)] h).bind fun q1 => some ((a4 : Int32), (0 : Int64), q1.2.2)) else ((av_x d 141 [.int (a5 / 10), .int (a5 - a5 / 10 * 10)] h).bind fun q2 => (if q2.1 = 0 then av_xp d 90 27 [.ref 0, .int a1, .int a2, .int a3, .int a4, .int (a5 + 1), .int (a5 / 10), .int (a5 - a5 / 10 * 10), .null, .null] [] q2.2.2 else ((av_x d 143 [.ref 0, .int (a5 / 10), .int (a5 - a5 / 10 * 10)] q2.2.2).bind fun q3 => ((av_x d 275 [.int (a1 &&& q3.1)] q3.2.2).bind fun q4 => (if a3 ≤ (av_max q4.1 (a2 - q4.1)) then av_xp d 90 27 [.ref 0, .int a1, .int a2, .int a3, .int a4, .int (a5 + 1), .int (a5 / 10), .int (a5 - a5 / 10 * 10), .int q4.1, .int (av_max q4.1 (a2 - q4.1))] [] q4.2.2 else av_xp d 90 27 [.ref 0, .int a1, .int a2, .int (av_max q4.1 (a2 - q4.1)), .int a5, .int (a5 + 1), .int (a5 / 10), .int (a5 - a5 / 10 * 10), .int q4.1, .int (av_max q4.1 (a2 - q4.1))] [] q4.2.2)))))) := (av_eq tX6_asks 10 [27] 39 27 _ _ h tabX6_asks wfX6_asks rfl).trans rfl
set_option maxHeartbeats 400000 in
set_option maxRecDepth 40000 in
theorem eX6_asks_r0_27_2 (d : Nat) (h : av_M) (a1 : Int32) (a2 : Int32) (a3 : Int32) (a4 : Int32) (a5 : Int32) (a6 : Int32) (a7 : Int32) : av_xp d 90 27 [.ref 0, .int a1, .int a2, .int a3, .int a4, .int a5, .int a6, .int a7, .null, .null] [] h = (if 50 ≤ a5 then ((av_x d 110 [.ref 0, .long (Int32.toInt64 a3)] h).bind fun q1 => some ((a4 : Int32), (0 : Int64), q1.2.2)) else ((av_x d 141 [.int (a5 / 10), .int (a5 - a5 / 10 * 10)] h).bind fun q2 => (if q2.1 = 0 then av_xp d 90 27 [.ref 0, .int a1, .int a2, .int a3, .int a4, .int (a5 + 1), .int (a5 / 10), .int (a5 - a5 / 10 * 10), .null, .null] [] q2.2.2 else ((av_x d 143 [.ref 0, .int (a5 / 10), .int (a5 - a5 / 10 * 10)] q2.2.2).bind fun q3 => ((av_x d 275 [.int (a1 &&& q3.1)] q3.2.2).bind fun q4 => (if a3 ≤ (av_max q4.1 (a2 - q4.1)) then av_xp d 90 27 [.ref 0, .int a1, .int a2, .int a3, .int a4, .int (a5 + 1), .int (a5 / 10), .int (a5 - a5 / 10 * 10), .int q4.1, .int (av_max q4.1 (a2 - q4.1))] [] q4.2.2 else av_xp d 90 27 [.ref 0, .int a1, .int a2, .int (av_max q4.1 (a2 - q4.1)), .int a5, .int (a5 + 1), .int (a5 / 10), .int (a5 - a5 / 10 * 10), .int q4.1, .int (av_max q4.1 (a2 - q4.1))] [] q4.2.2)))))) := (av_eq tX6_asks 10 [27] 39 27 _ _ h tabX6_asks wfX6_asks rfl).trans rfl
set_option maxHeartbeats 400000 in
set_option maxRecDepth 40000 in
theorem eX6_asks_r0_27_3 (d : Nat) (h : av_M) (a1 : Int32) (a2 : Int32) (a3 : Int32) (a4 : Int32) (a5 : Int32) (a6 : Int32) (a7 : Int32) (a8 : Int32) (a9 : Int32) : av_xp d 90 27 [.ref 0, .int a1, .int a2, .int a3, .int a4, .int a5, .int a6, .int a7, .int a8, .int a9] [] h = (if 50 ≤ a5 then ((av_x d 110 [.ref 0, .long (Int32.toInt64 a3)] h).bind fun q1 => some ((a4 : Int32), (0 : Int64), q1.2.2)) else ((av_x d 141 [.int (a5 / 10), .int (a5 - a5 / 10 * 10)] h).bind fun q2 => (if q2.1 = 0 then av_xp d 90 27 [.ref 0, .int a1, .int a2, .int a3, .int a4, .int (a5 + 1), .int (a5 / 10), .int (a5 - a5 / 10 * 10), .int a8, .int a9] [] q2.2.2 else ((av_x d 143 [.ref 0, .int (a5 / 10), .int (a5 - a5 / 10 * 10)] q2.2.2).bind fun q3 => ((av_x d 275 [.int (a1 &&& q3.1)] q3.2.2).bind fun q4 => (if a3 ≤ (av_max q4.1 (a2 - q4.1)) then av_xp d 90 27 [.ref 0, .int a1, .int a2, .int a3, .int a4, .int (a5 + 1), .int (a5 / 10), .int (a5 - a5 / 10 * 10), .int q4.1, .int (av_max q4.1 (a2 - q4.1))] [] q4.2.2 else av_xp d 90 27 [.ref 0, .int a1, .int a2, .int (av_max q4.1 (a2 - q4.1)), .int a5, .int (a5 + 1), .int (a5 / 10), .int (a5 - a5 / 10 * 10), .int q4.1, .int (av_max q4.1 (a2 - q4.1))] [] q4.2.2)))))) := (av_eq tX6_asks 10 [27] 39 27 _ _ h tabX6_asks wfX6_asks rfl).trans rfl
theorem tabX6_odds : av_tab 91 = (tX6_odds, 9) := rfl
theorem wfX6_odds : av_wf tX6_odds = true := by decide +kernel
set_option maxHeartbeats 400000 in
set_option maxRecDepth 40000 in
theorem eX6_odds_r0_in (d : Nat) (h : av_M) (p1 : Int32) (p2 : Int32) : av_x (d + 1) 91 [.ref 0, .int p1, .int p2] h = (if p1 < 0 then some (((-1) : Int32), (0 : Int64), h) else (if 10 < p1 then some (((-1) : Int32), (0 : Int64), h) else (if p2 < 0 then some (((-1) : Int32), (0 : Int64), h) else (if p2 ≤ 63 then ((av_x d 28 [.ref 5] h).bind fun q1 => ((av_x d 275 [.int q1.1] q1.2.2).bind fun q2 => av_xp d 91 42 [.ref 0, .int p1, .int p2, .int q1.1, .int q2.1, .long 0, .null, .int 0, .null] [] q2.2.2)) else some (((-1) : Int32), (0 : Int64), h))))) := (av_ent d 91 tX6_odds 9 _ h tabX6_odds).trans ((av_eq tX6_odds 9 [42] 22 0 _ _ h tabX6_odds wfX6_odds rfl).trans rfl)
set_option maxHeartbeats 400000 in
set_option maxRecDepth 40000 in
theorem eX6_odds_r0_42 (d : Nat) (h : av_M) (a1 : Int32) (a2 : Int32) (a3 : Int32) (a4 : Int32) (a5 : Int64) (a7 : Int32) : av_xp d 91 42 [.ref 0, .int a1, .int a2, .int a3, .int a4, .long a5, .null, .int a7, .null] [] h = (if 128 ≤ a7 then ((av_x d 136 [.long 10, .int a4] h).bind fun q1 => ((av_x d 112 [.ref 0, .long a5, .long q1.2.1] q1.2.2).bind fun q2 => some ((0 : Int32), (0 : Int64), q2.2.2))) else ((av_x d 109 [.int a7, .int a3] h).bind fun q3 => (if q3.1 = 0 then av_xp d 91 42 [.ref 0, .int a1, .int a2, .int a3, .int a4, .long a5, .null, .int (a7 + 1), .null] [] q3.2.2 else ((av_x d 38 [.ref 5, .int a7] q3.2.2).bind fun q4 => (if q4.1 < a2 then av_xp d 91 42 [.ref 0, .int a1, .int a2, .int a3, .int a4, .long a5, .null, .int (a7 + 1), .null] [] q4.2.2 else ((av_x d 275 [.int a7] q4.2.2).bind fun q5 => ((av_x d 136 [.long (Int32.toInt64 (10 - a1)), .int q5.1] q5.2.2).bind fun q6 => ((av_x d 136 [.long (Int32.toInt64 a1), .int (a4 - q5.1)] q6.2.2).bind fun q7 => av_xp d 91 42 [.ref 0, .int a1, .int a2, .int a3, .int a4, .long (a5 + (q6.2.1 * q7.2.1)), .null, .int (a7 + 1), .int q5.1] [] q7.2.2)))))))) := (av_eq tX6_odds 9 [42] 35 42 _ _ h tabX6_odds wfX6_odds rfl).trans rfl
set_option maxHeartbeats 400000 in
set_option maxRecDepth 40000 in
theorem eX6_odds_r0_42_2 (d : Nat) (h : av_M) (a1 : Int32) (a2 : Int32) (a3 : Int32) (a4 : Int32) (a5 : Int64) (a7 : Int32) (a8 : Int32) : av_xp d 91 42 [.ref 0, .int a1, .int a2, .int a3, .int a4, .long a5, .null, .int a7, .int a8] [] h = (if 128 ≤ a7 then ((av_x d 136 [.long 10, .int a4] h).bind fun q1 => ((av_x d 112 [.ref 0, .long a5, .long q1.2.1] q1.2.2).bind fun q2 => some ((0 : Int32), (0 : Int64), q2.2.2))) else ((av_x d 109 [.int a7, .int a3] h).bind fun q3 => (if q3.1 = 0 then av_xp d 91 42 [.ref 0, .int a1, .int a2, .int a3, .int a4, .long a5, .null, .int (a7 + 1), .int a8] [] q3.2.2 else ((av_x d 38 [.ref 5, .int a7] q3.2.2).bind fun q4 => (if q4.1 < a2 then av_xp d 91 42 [.ref 0, .int a1, .int a2, .int a3, .int a4, .long a5, .null, .int (a7 + 1), .int a8] [] q4.2.2 else ((av_x d 275 [.int a7] q4.2.2).bind fun q5 => ((av_x d 136 [.long (Int32.toInt64 (10 - a1)), .int q5.1] q5.2.2).bind fun q6 => ((av_x d 136 [.long (Int32.toInt64 a1), .int (a4 - q5.1)] q6.2.2).bind fun q7 => av_xp d 91 42 [.ref 0, .int a1, .int a2, .int a3, .int a4, .long (a5 + (q6.2.1 * q7.2.1)), .null, .int (a7 + 1), .int q5.1] [] q7.2.2)))))))) := (av_eq tX6_odds 9 [42] 35 42 _ _ h tabX6_odds wfX6_odds rfl).trans rfl
theorem tabX6_saw : av_tab 92 = (tX6_saw, 5) := rfl
theorem wfX6_saw : av_wf tX6_saw = true := by decide +kernel
set_option maxHeartbeats 400000 in
set_option maxRecDepth 40000 in
theorem eX6_saw_r0_in (d : Nat) (h : av_M) (p1 : Int32) (p2 : Int32) (p3 : Int32) : av_x (d + 1) 92 [.ref 0, .int p1, .int p2, .int p3] h = (if p1 < 0 then some (((-1) : Int32), (0 : Int64), h) else (if 20 < p1 then some (((-1) : Int32), (0 : Int64), h) else (if p2 < 1 then some (((-1) : Int32), (0 : Int64), h) else (if 9 < p2 then some (((-1) : Int32), (0 : Int64), h) else ((av_x d 105 [.int p3] h).bind fun q1 => (if q1.1 = 0 then some (((-1) : Int32), (0 : Int64), q1.2.2) else ((av_x d 0 [.ref 38, .int p1, .int p2, .int p3] q1.2.2).bind fun q2 => some ((q2.1 : Int32), (0 : Int64), q2.2.2)))))))) := (av_ent d 92 tX6_saw 5 _ h tabX6_saw).trans ((av_eq tX6_saw 5 [] 28 0 _ _ h tabX6_saw wfX6_saw rfl).trans rfl)
theorem tabX6_clears : av_tab 93 = (tX6_clears, 1) := rfl
theorem wfX6_clears : av_wf tX6_clears = true := by decide +kernel
set_option maxHeartbeats 400000 in
set_option maxRecDepth 40000 in
theorem eX6_clears_r0_in (d : Nat) (h : av_M) : av_x (d + 1) 93 [.ref 0] h = ((av_x d 1 [.ref 38] h).bind fun q1 => some ((q1.1 : Int32), (0 : Int64), q1.2.2)) := (av_ent d 93 tX6_clears 1 _ h tabX6_clears).trans ((av_eq tX6_clears 1 [] 5 0 _ _ h tabX6_clears wfX6_clears rfl).trans rfl)
theorem tabX6_laws : av_tab 94 = (tX6_laws, 3) := rfl
theorem wfX6_laws : av_wf tX6_laws = true := by decide +kernel
set_option maxHeartbeats 400000 in
set_option maxRecDepth 40000 in
theorem eX6_laws_r0_in (d : Nat) (h : av_M) : av_x (d + 1) 94 [.ref 0] h = ((av_x d 8 [.ref 3] h).bind fun q1 => av_xp d 94 11 [.ref 0, .int 0, .int 0] [] q1.2.2) := (av_ent d 94 tX6_laws 3 _ h tabX6_laws).trans ((av_eq tX6_laws 3 [11] 8 0 _ _ h tabX6_laws wfX6_laws rfl).trans rfl)
set_option maxHeartbeats 400000 in
set_option maxRecDepth 40000 in
theorem eX6_laws_r0_11 (d : Nat) (h : av_M) (a1 : Int32) (a2 : Int32) : av_xp d 94 11 [.ref 0, .int a1, .int a2] [] h = (if 40 ≤ a2 then some ((a1 : Int32), (0 : Int64), h) else ((av_x d 147 [.ref 0, .int a2] h).bind fun q1 => (if q1.1 = 0 then av_xp d 94 11 [.ref 0, .int a1, .int (a2 + 1)] [] q1.2.2 else (if a1 = 0 then ((av_x d 144 [.int a2] q1.2.2).bind fun q2 => ((av_x d 9 [.ref 3, .long (Int32.toInt64 q2.1)] q2.2.2).bind fun q3 => ((av_x d 145 [.int a2] q3.2.2).bind fun q4 => ((av_x d 9 [.ref 3, .long (Int32.toInt64 q4.1)] q4.2.2).bind fun q5 => av_xp d 94 11 [.ref 0, .int (a1 + 1), .int (a2 + 1)] [] q5.2.2)))) else av_xp d 94 11 [.ref 0, .int (a1 + 1), .int (a2 + 1)] [] q1.2.2)))) := (av_eq tX6_laws 3 [11] 25 11 _ _ h tabX6_laws wfX6_laws rfl).trans rfl
theorem tabX6_tries : av_tab 95 = (tX6_tries, 10) := rfl
theorem wfX6_tries : av_wf tX6_tries = true := by decide +kernel
set_option maxHeartbeats 400000 in
set_option maxRecDepth 40000 in
theorem eX6_tries_r0_in (d : Nat) (h : av_M) : av_x (d + 1) 95 [.ref 0] h = ((av_x d 148 [.ref 0] h).bind fun q1 => ((av_x d 276 [.long q1.2.1] q1.2.2).bind fun q2 => (if q2.1 = 0 then some (((-2) : Int32), (0 : Int64), q2.2.2) else av_xp d 95 28 [.ref 0, .long q1.2.1, .null, .int q2.1, .int (q2.1 + 1), .int 0, .int 0, .null, .null, .null] [] q2.2.2))) := (av_ent d 95 tX6_tries 10 _ h tabX6_tries).trans ((av_eq tX6_tries 10 [28, 38] 17 0 _ _ h tabX6_tries wfX6_tries rfl).trans rfl)
set_option maxHeartbeats 400000 in
set_option maxRecDepth 40000 in
theorem eX6_tries_r0_28 (d : Nat) (h : av_M) (a1 : Int64) (a3 : Int32) (a4 : Int32) (a5 : Int32) (a6 : Int32) : av_xp d 95 28 [.ref 0, .long a1, .null, .int a3, .int a4, .int a5, .int a6, .null, .null, .null] [] h = (if 20 < a6 then ((av_x d 110 [.ref 0, .long (Int32.toInt64 a4)] h).bind fun q1 => some ((a5 : Int32), (0 : Int64), q1.2.2)) else av_xp d 95 38 [.ref 0, .long a1, .null, .int a3, .int a4, .int a5, .int a6, .int 1, .null, .null] [] h) := (av_eq tX6_tries 10 [28, 38] 10 28 _ _ h tabX6_tries wfX6_tries rfl).trans rfl
set_option maxHeartbeats 400000 in
set_option maxRecDepth 40000 in
theorem eX6_tries_r0_38 (d : Nat) (h : av_M) (a1 : Int64) (a3 : Int32) (a4 : Int32) (a5 : Int32) (a6 : Int32) (a7 : Int32) : av_xp d 95 38 [.ref 0, .long a1, .null, .int a3, .int a4, .int a5, .int a6, .int a7, .null, .null] [] h = (if 9 < a7 then av_xp d 95 28 [.ref 0, .long a1, .null, .int a3, .int a4, .int a5, .int (a6 + 1), .int a7, .null, .null] [] h else ((av_x d 149 [.int a6, .int a7] h).bind fun q1 => ((av_x d 276 [.long (a1 &&& q1.2.1)] q1.2.2).bind fun q2 => (if a4 ≤ (av_max q2.1 (a3 - q2.1)) then av_xp d 95 38 [.ref 0, .long a1, .null, .int a3, .int a4, .int a5, .int a6, .int (a7 + 1), .int q2.1, .int (av_max q2.1 (a3 - q2.1))] [] q2.2.2 else av_xp d 95 38 [.ref 0, .long a1, .null, .int a3, .int (av_max q2.1 (a3 - q2.1)), .int ((10 * a6) + a7), .int a6, .int (a7 + 1), .int q2.1, .int (av_max q2.1 (a3 - q2.1))] [] q2.2.2)))) := (av_eq tX6_tries 10 [28, 38] 30 38 _ _ h tabX6_tries wfX6_tries rfl).trans rfl
set_option maxHeartbeats 400000 in
set_option maxRecDepth 40000 in
theorem eX6_tries_r0_28_2 (d : Nat) (h : av_M) (a1 : Int64) (a3 : Int32) (a4 : Int32) (a5 : Int32) (a6 : Int32) (a7 : Int32) : av_xp d 95 28 [.ref 0, .long a1, .null, .int a3, .int a4, .int a5, .int a6, .int a7, .null, .null] [] h = (if 20 < a6 then ((av_x d 110 [.ref 0, .long (Int32.toInt64 a4)] h).bind fun q1 => some ((a5 : Int32), (0 : Int64), q1.2.2)) else av_xp d 95 38 [.ref 0, .long a1, .null, .int a3, .int a4, .int a5, .int a6, .int 1, .null, .null] [] h) := (av_eq tX6_tries 10 [28, 38] 10 28 _ _ h tabX6_tries wfX6_tries rfl).trans rfl
set_option maxHeartbeats 400000 in
set_option maxRecDepth 40000 in
theorem eX6_tries_r0_38_2 (d : Nat) (h : av_M) (a1 : Int64) (a3 : Int32) (a4 : Int32) (a5 : Int32) (a6 : Int32) (a7 : Int32) (a8 : Int32) (a9 : Int32) : av_xp d 95 38 [.ref 0, .long a1, .null, .int a3, .int a4, .int a5, .int a6, .int a7, .int a8, .int a9] [] h = (if 9 < a7 then av_xp d 95 28 [.ref 0, .long a1, .null, .int a3, .int a4, .int a5, .int (a6 + 1), .int a7, .int a8, .int a9] [] h else ((av_x d 149 [.int a6, .int a7] h).bind fun q1 => ((av_x d 276 [.long (a1 &&& q1.2.1)] q1.2.2).bind fun q2 => (if a4 ≤ (av_max q2.1 (a3 - q2.1)) then av_xp d 95 38 [.ref 0, .long a1, .null, .int a3, .int a4, .int a5, .int a6, .int (a7 + 1), .int q2.1, .int (av_max q2.1 (a3 - q2.1))] [] q2.2.2 else av_xp d 95 38 [.ref 0, .long a1, .null, .int a3, .int (av_max q2.1 (a3 - q2.1)), .int ((10 * a6) + a7), .int a6, .int (a7 + 1), .int q2.1, .int (av_max q2.1 (a3 - q2.1))] [] q2.2.2)))) := (av_eq tX6_tries 10 [28, 38] 30 38 _ _ h tabX6_tries wfX6_tries rfl).trans rfl
set_option maxHeartbeats 400000 in
set_option maxRecDepth 40000 in
theorem eX6_tries_r0_28_3 (d : Nat) (h : av_M) (a1 : Int64) (a3 : Int32) (a4 : Int32) (a5 : Int32) (a6 : Int32) (a7 : Int32) (a8 : Int32) (a9 : Int32) : av_xp d 95 28 [.ref 0, .long a1, .null, .int a3, .int a4, .int a5, .int a6, .int a7, .int a8, .int a9] [] h = (if 20 < a6 then ((av_x d 110 [.ref 0, .long (Int32.toInt64 a4)] h).bind fun q1 => some ((a5 : Int32), (0 : Int64), q1.2.2)) else av_xp d 95 38 [.ref 0, .long a1, .null, .int a3, .int a4, .int a5, .int a6, .int 1, .int a8, .int a9] [] h) := (av_eq tX6_tries 10 [28, 38] 10 28 _ _ h tabX6_tries wfX6_tries rfl).trans rfl
theorem tabX6_letting : av_tab 96 = (tX6_letting, 4) := rfl
theorem wfX6_letting : av_wf tX6_letting = true := by decide +kernel
set_option maxHeartbeats 400000 in
set_option maxRecDepth 40000 in
theorem eX6_letting_r0_in (d : Nat) (h : av_M) (p1 : Int32) : av_x (d + 1) 96 [.ref 0, .int p1] h = (if p1 < 0 then some (((-1) : Int32), (0 : Int64), h) else (if p1 ≤ 60 then ((av_x d 150 [.ref 0, .int p1] h).bind fun q1 => ((av_x d 8 [.ref 3] q1.2.2).bind fun q2 => av_xp d 96 26 [.ref 0, .int p1, .int 1, .null] [] q2.2.2)) else some (((-1) : Int32), (0 : Int64), h))) := (av_ent d 96 tX6_letting 4 _ h tabX6_letting).trans ((av_eq tX6_letting 4 [26, 33] 14 0 _ _ h tabX6_letting wfX6_letting rfl).trans rfl)
set_option maxHeartbeats 400000 in
set_option maxRecDepth 40000 in
theorem eX6_letting_r0_26 (d : Nat) (h : av_M) (a1 : Int32) (a2 : Int32) : av_xp d 96 26 [.ref 0, .int a1, .int a2, .null] [] h = (if 2 < a2 then some ((0 : Int32), (0 : Int64), h) else av_xp d 96 33 [.ref 0, .int a1, .int a2, .int 0] [] h) := (av_eq tX6_letting 4 [26, 33] 6 26 _ _ h tabX6_letting wfX6_letting rfl).trans rfl
set_option maxHeartbeats 400000 in
set_option maxRecDepth 40000 in
theorem eX6_letting_r0_33 (d : Nat) (h : av_M) (a1 : Int32) (a2 : Int32) (a3 : Int32) : av_xp d 96 33 [.ref 0, .int a1, .int a2, .int a3] [] h = (if (a1 - a2) < a3 then av_xp d 96 26 [.ref 0, .int a1, .int (a2 + 1), .int a3] [] h else (cond (av_inb a3 61) ((cond (av_inb ((a1 - a2) - a3) 61) ((if (h 43 (Int32.toNatClampNeg a3)) = (h 43 (Int32.toNatClampNeg ((a1 - a2) - a3))) then ((av_x d 111 [.ref 0, .long (Int32.toInt64 a2), .long (Int32.toInt64 a3)] h).bind fun q1 => some ((1 : Int32), (0 : Int64), q1.2.2)) else av_xp d 96 33 [.ref 0, .int a1, .int a2, .int (a3 + 1)] [] h)) none)) none)) := (av_eq tX6_letting 4 [26, 33] 27 33 _ _ h tabX6_letting wfX6_letting rfl).trans rfl
set_option maxHeartbeats 400000 in
set_option maxRecDepth 40000 in
theorem eX6_letting_r0_26_2 (d : Nat) (h : av_M) (a1 : Int32) (a2 : Int32) (a3 : Int32) : av_xp d 96 26 [.ref 0, .int a1, .int a2, .int a3] [] h = (if 2 < a2 then some ((0 : Int32), (0 : Int64), h) else av_xp d 96 33 [.ref 0, .int a1, .int a2, .int 0] [] h) := (av_eq tX6_letting 4 [26, 33] 6 26 _ _ h tabX6_letting wfX6_letting rfl).trans rfl
theorem tabX6_law : av_tab 97 = (tX6_law, 5) := rfl
theorem wfX6_law : av_wf tX6_law = true := by decide +kernel
set_option maxHeartbeats 400000 in
set_option maxRecDepth 40000 in
theorem eX6_law_r0_in (d : Nat) (h : av_M) : av_x (d + 1) 97 [.ref 0] h = ((av_x d 11 [.ref 23, .ref 1] h).bind fun q1 => (if q1.1 < 0 then ((av_x d 45 [.ref 12, .ref 5] (av_u q1.2.2 1 1 0)).bind fun q2 => ((av_x d 42 [.ref 12, .ref 23, .int 20] q2.2.2).bind fun q3 => ((av_x d 28 [.ref 12] q3.2.2).bind fun q4 => ((av_x d 275 [.int q4.1] q4.2.2).bind fun q5 => ((av_x d 114 [.ref 0, .int 20] q5.2.2).bind fun q6 => ((av_x d 28 [.ref 12] q6.2.2).bind fun q7 => ((av_x d 275 [.int q7.1] q7.2.2).bind fun q8 => ((av_x d 111 [.ref 0, .long (Int32.toInt64 q5.1), .long (Int32.toInt64 q8.1)] q8.2.2).bind fun q9 => ((av_x d 9 [.ref 3, .long (Int32.toInt64 (q5.2.2 12 10))] q9.2.2).bind fun q10 => ((av_x d 9 [.ref 3, .long (Int32.toInt64 (q10.2.2 12 10))] q10.2.2).bind fun q11 => some (((q5.1 - q8.1) : Int32), (0 : Int64), q11.2.2))))))))))) else some ((((-10000) - q1.1) : Int32), (0 : Int64), (av_u q1.2.2 1 1 0)))) := (av_ent d 97 tX6_law 5 _ h tabX6_law).trans ((av_eq tX6_law 5 [] 63 0 _ _ h tabX6_law wfX6_law rfl).trans rfl)
theorem tabX6_wars : av_tab 98 = (tX6_wars, 5) := rfl
theorem wfX6_wars : av_wf tX6_wars = true := by decide +kernel
set_option maxHeartbeats 400000 in
set_option maxRecDepth 40000 in
theorem eX6_wars_r0_in (d : Nat) (h : av_M) (p1 : Int32) : av_x (d + 1) 98 [.ref 0, .int p1] h = (if p1 < 0 then some (((-1) : Int32), (0 : Int64), h) else (if p1 ≤ 20 then ((av_x d 8 [.ref 3] h).bind fun q1 => av_xp d 98 23 [.ref 0, .int p1, .int 0, .int 0, .null] [] q1.2.2) else some (((-1) : Int32), (0 : Int64), h))) := (av_ent d 98 tX6_wars 5 _ h tabX6_wars).trans ((av_eq tX6_wars 5 [23, 32] 13 0 _ _ h tabX6_wars wfX6_wars rfl).trans rfl)
set_option maxHeartbeats 400000 in
set_option maxRecDepth 40000 in
theorem eX6_wars_r0_23 (d : Nat) (h : av_M) (a1 : Int32) (a2 : Int32) (a3 : Int32) : av_xp d 98 23 [.ref 0, .int a1, .int a2, .int a3, .null] [] h = (if 9 < a3 then some ((a2 : Int32), (0 : Int64), h) else av_xp d 98 32 [.ref 0, .int a1, .int a2, .int a3, .int 0] [] h) := (av_eq tX6_wars 5 [23, 32] 6 23 _ _ h tabX6_wars wfX6_wars rfl).trans rfl
set_option maxHeartbeats 400000 in
set_option maxRecDepth 40000 in
theorem eX6_wars_r0_32 (d : Nat) (h : av_M) (a1 : Int32) (a2 : Int32) (a3 : Int32) (a4 : Int32) : av_xp d 98 32 [.ref 0, .int a1, .int a2, .int a3, .int a4] [] h = (if 9 < a4 then av_xp d 98 23 [.ref 0, .int a1, .int a2, .int (a3 + 1), .int a4] [] h else ((av_x d 152 [.int a3, .int a4, .int a1] h).bind fun q1 => (if q1.1 = 0 then av_xp d 98 32 [.ref 0, .int a1, .int a2, .int a3, .int (a4 + 1)] [] q1.2.2 else ((av_x d 152 [.int a4, .int a3, .int a1] q1.2.2).bind fun q2 => (if q2.1 = 0 then av_xp d 98 32 [.ref 0, .int a1, .int a2, .int a3, .int (a4 + 1)] [] q2.2.2 else (if a2 = 0 then ((av_x d 111 [.ref 0, .long (Int32.toInt64 a3), .long (Int32.toInt64 a4)] q2.2.2).bind fun q3 => av_xp d 98 32 [.ref 0, .int a1, .int (a2 + 1), .int a3, .int (a4 + 1)] [] q3.2.2) else av_xp d 98 32 [.ref 0, .int a1, .int (a2 + 1), .int a3, .int (a4 + 1)] [] q2.2.2)))))) := (av_eq tX6_wars 5 [23, 32] 25 32 _ _ h tabX6_wars wfX6_wars rfl).trans rfl
set_option maxHeartbeats 400000 in
set_option maxRecDepth 40000 in
theorem eX6_wars_r0_23_2 (d : Nat) (h : av_M) (a1 : Int32) (a2 : Int32) (a3 : Int32) (a4 : Int32) : av_xp d 98 23 [.ref 0, .int a1, .int a2, .int a3, .int a4] [] h = (if 9 < a3 then some ((a2 : Int32), (0 : Int64), h) else av_xp d 98 32 [.ref 0, .int a1, .int a2, .int a3, .int 0] [] h) := (av_eq tX6_wars 5 [23, 32] 6 23 _ _ h tabX6_wars wfX6_wars rfl).trans rfl
theorem tabX6_years : av_tab 99 = (tX6_years, 4) := rfl
theorem wfX6_years : av_wf tX6_years = true := by decide +kernel
set_option maxHeartbeats 400000 in
set_option maxRecDepth 40000 in
theorem eX6_years_r0_in (d : Nat) (h : av_M) (p1 : Int32) (p2 : Int32) : av_x (d + 1) 99 [.ref 0, .int p1, .int p2] h = ((av_x d 107 [.int p2] h).bind fun q1 => (if q1.1 = 0 then some (((-1) : Int32), (0 : Int64), q1.2.2) else ((av_x d 45 [.ref 12, .ref 5] q1.2.2).bind fun q2 => av_xp d 99 27 [.ref 0, .int p1, .int p2, .int 0] [] (av_u q2.2.2 0 13 p1)))) := (av_ent d 99 tX6_years 4 _ h tabX6_years).trans ((av_eq tX6_years 4 [27] 14 0 _ _ h tabX6_years wfX6_years rfl).trans rfl)
set_option maxHeartbeats 400000 in
set_option maxRecDepth 40000 in
theorem eX6_years_r0_27 (d : Nat) (h : av_M) (a1 : Int32) (a2 : Int32) (a3 : Int32) : av_xp d 99 27 [.ref 0, .int a1, .int a2, .int a3] [] h = (if a2 ≤ a3 then ((av_x d 28 [.ref 12] h).bind fun q1 => ((av_x d 40 [.ref 12] q1.2.2).bind fun q2 => ((av_x d 111 [.ref 0, .long (Int32.toInt64 q1.1), .long (Int32.toInt64 q2.1)] q2.2.2).bind fun q3 => some (((q3.2.2 12 10) : Int32), (0 : Int64), q3.2.2)))) else ((av_x d 155 [.ref 0] h).bind fun q4 => av_xp d 99 27 [.ref 0, .int a1, .int a2, .int (a3 + 1)] [] q4.2.2)) := (av_eq tX6_years 4 [27] 18 27 _ _ h tabX6_years wfX6_years rfl).trans rfl
theorem tabX6_keep : av_tab 100 = (tX6_keep, 2) := rfl
theorem wfX6_keep : av_wf tX6_keep = true := by decide +kernel
set_option maxHeartbeats 400000 in
set_option maxRecDepth 40000 in
theorem eX6_keep_r0_in (d : Nat) (h : av_M) (p1 : Int32) : av_x (d + 1) 100 [.ref 0, .int p1] h = ((av_x d 5 [.ref 27, .int p1, .ref 5] h).bind fun q1 => some (((q1.1 &&& 1) : Int32), (0 : Int64), q1.2.2)) := (av_ent d 100 tX6_keep 2 _ h tabX6_keep).trans ((av_eq tX6_keep 2 [] 8 0 _ _ h tabX6_keep wfX6_keep rfl).trans rfl)
theorem tabX6_again : av_tab 101 = (tX6_again, 2) := rfl
theorem wfX6_again : av_wf tX6_again = true := by decide +kernel
set_option maxHeartbeats 400000 in
set_option maxRecDepth 40000 in
theorem eX6_again_r0_in (d : Nat) (h : av_M) (p1 : Int32) : av_x (d + 1) 101 [.ref 0, .int p1] h = ((av_x d 6 [.ref 27, .int p1, .ref 5] h).bind fun q1 => some (((q1.1 &&& 1) : Int32), (0 : Int64), q1.2.2)) := (av_ent d 101 tX6_again 2 _ h tabX6_again).trans ((av_eq tX6_again 2 [] 8 0 _ _ h tabX6_again wfX6_again rfl).trans rfl)
theorem tabX6_count : av_tab 102 = (tX6_count, 2) := rfl
theorem wfX6_count : av_wf tX6_count = true := by decide +kernel
set_option maxHeartbeats 400000 in
set_option maxRecDepth 40000 in
theorem eX6_count_r0_in (d : Nat) (h : av_M) (p1 : Int32) : av_x (d + 1) 102 [.ref 0, .int p1] h = (if p1 = 0 then some (((h 5 6) : Int32), (0 : Int64), h) else (if p1 = 1 then ((av_x d 28 [.ref 5] h).bind fun q2 => some ((q2.1 : Int32), (0 : Int64), q2.2.2)) else (if p1 = 2 then some (((h 5 10) : Int32), (0 : Int64), h) else (if p1 = 3 then some (((h 5 11) : Int32), (0 : Int64), h) else (if p1 = 4 then some (((h 5 12) : Int32), (0 : Int64), h) else (if p1 = 5 then some (((h 5 8) : Int32), (0 : Int64), h) else (if p1 = 6 then ((av_x d 40 [.ref 5] h).bind fun q1 => some ((q1.1 : Int32), (0 : Int64), q1.2.2)) else (if p1 = 7 then some (((h 30 4) : Int32), (0 : Int64), h) else (if p1 = 8 then some (((h 38 4) : Int32), (0 : Int64), h) else (if p1 = 9 then some (((h 34 4) : Int32), (0 : Int64), h) else (if p1 = 10 then some (((h 27 3) : Int32), (0 : Int64), h) else (if p1 = 11 then some (((h 3 1) : Int32), (0 : Int64), h) else (if p1 = 12 then some (((h 1 1) : Int32), (0 : Int64), h) else some (((-100) : Int32), (0 : Int64), h)))))))))))))) := (av_ent d 102 tX6_count 2 _ h tabX6_count).trans ((av_eq tX6_count 2 [] 7 0 _ _ h tabX6_count wfX6_count rfl).trans rfl)
theorem tabX6_streamer : av_tab 56 = (tX6_streamer, 3) := rfl
theorem wfX6_streamer : av_wf tX6_streamer = true := by decide +kernel
set_option maxHeartbeats 400000 in
set_option maxRecDepth 40000 in
theorem eX6_streamer_r0_in (d : Nat) (h : av_M) (p1 : Int32) (p2 : Int32) : av_x (d + 1) 56 [.ref 0, .int p1, .int p2] h = ((av_x d 26 [.ref 5, .int p1] h).bind fun q1 => (if q1.1 = 0 then none else (if p2 = 0 then (cond (av_inb p1 7) (some (((q1.2.2 6 (Int32.toNatClampNeg p1)) : Int32), (0 : Int64), q1.2.2)) none) else (if p2 = 1 then (cond (av_inb p1 7) (some (((q1.2.2 7 (Int32.toNatClampNeg p1)) : Int32), (0 : Int64), q1.2.2)) none) else (if p2 = 2 then (cond (av_inb p1 7) (some (((q1.2.2 8 (Int32.toNatClampNeg p1)) : Int32), (0 : Int64), q1.2.2)) none) else (if p2 = 3 then (cond (av_inb p1 7) (some (((q1.2.2 9 (Int32.toNatClampNeg p1)) : Int32), (0 : Int64), q1.2.2)) none) else (if p2 = 4 then (cond (av_inb p1 7) (some (((q1.2.2 10 (Int32.toNatClampNeg p1)) : Int32), (0 : Int64), q1.2.2)) none) else (if p2 = 5 then (cond (av_inb p1 7) (some (((q1.2.2 11 (Int32.toNatClampNeg p1)) : Int32), (0 : Int64), q1.2.2)) none) else (if p2 = 6 then ((av_x d 30 [.ref 5, .int p1] q1.2.2).bind fun q4 => some ((q4.1 : Int32), (0 : Int64), q4.2.2)) else (if p2 = 7 then ((av_x d 32 [.ref 5, .int p1] q1.2.2).bind fun q3 => some (((20000 + q3.1) : Int32), (0 : Int64), q3.2.2)) else (if p2 = 8 then ((av_x d 23 [.ref 19, .ref 5, .int p1] q1.2.2).bind fun q2 => some (((100 + q2.1) : Int32), (0 : Int64), q2.2.2)) else none))))))))))) := (av_ent d 56 tX6_streamer 3 _ h tabX6_streamer).trans ((av_eq tX6_streamer 3 [] 17 0 _ _ h tabX6_streamer wfX6_streamer rfl).trans rfl)
theorem tabX6_row : av_tab 103 = (tX6_row, 2) := rfl
theorem wfX6_row : av_wf tX6_row = true := by decide +kernel
set_option maxHeartbeats 400000 in
set_option maxRecDepth 40000 in
theorem eX6_row_r0_in (d : Nat) (h : av_M) (p1 : Int32) : av_x (d + 1) 103 [.ref 0, .int p1] h = (if p1 < 0 then none else (if (h 3 1) ≤ p1 then none else (if p1 < 7 then (cond (av_inb p1 7) (some ((0 : Int32), ((av_jn (h 4 (2 * Int32.toNatClampNeg p1)) (h 4 (2 * Int32.toNatClampNeg p1 + 1))) : Int64), h)) none) else none))) := (av_ent d 103 tX6_row 2 _ h tabX6_row).trans ((av_eq tX6_row 2 [] 20 0 _ _ h tabX6_row wfX6_row rfl).trans rfl)
theorem tabX5_append : av_tab 48 = (tX5_append, 3) := rfl
theorem wfX5_append : av_wf tX5_append = true := by decide +kernel
set_option maxHeartbeats 400000 in
set_option maxRecDepth 40000 in
theorem eX5_append_r1_in (d : Nat) (h : av_M) (p1 : Int32) : av_x (d + 1) 48 [.ref 1, .int p1] h = (if (h 1 1) ≤ 76 then av_xp d 48 14 [.ref 1, .int p1, .int 24] [] h else some (((-1) : Int32), (0 : Int64), h)) := (av_ent d 48 tX5_append 3 _ h tabX5_append).trans ((av_eq tX5_append 3 [14] 7 0 _ _ h tabX5_append wfX5_append rfl).trans rfl)
set_option maxHeartbeats 400000 in
set_option maxRecDepth 40000 in
theorem eX5_append_r1_14 (d : Nat) (h : av_M) (a1 : Int32) (a2 : Int32) : av_xp d 48 14 [.ref 1, .int a1, .int a2] [] h = (if a2 < 0 then some (((h 1 1) : Int32), (0 : Int64), h) else (cond (av_inb (h 1 1) 80) (av_xp d 48 14 [.ref 1, .int a1, .int (a2 + (-8))] [] (av_u (av_u h 2 (Int32.toNatClampNeg (h 1 1)) (((Int32.toUInt32 a1 >>> (Int32.toUInt32 a2 &&& Int32.toUInt32 31)).toInt32) &&& 255)) 1 1 ((h 1 1) + 1))) none)) := (av_eq tX5_append 3 [14] 21 14 _ _ h tabX5_append wfX5_append rfl).trans rfl
theorem tabX5_shorten : av_tab 49 = (tX5_shorten, 2) := rfl
theorem wfX5_shorten : av_wf tX5_shorten = true := by decide +kernel
set_option maxHeartbeats 400000 in
set_option maxRecDepth 40000 in
theorem eX5_shorten_r1_in (d : Nat) (h : av_M) (p1 : Int32) : av_x (d + 1) 49 [.ref 1, .int p1] h = (if p1 < 0 then some (((0 &&& 1) : Int32), (0 : Int64), h) else (if p1 ≤ (h 1 1) then some (((1 &&& 1) : Int32), (0 : Int64), (av_u h 1 1 p1)) else some (((0 &&& 1) : Int32), (0 : Int64), h))) := (av_ent d 49 tX5_shorten 2 _ h tabX5_shorten).trans ((av_eq tX5_shorten 2 [] 12 0 _ _ h tabX5_shorten wfX5_shorten rfl).trans rfl)
theorem tabX6_badLineSign : av_tab 115 = (tX6_badLineSign, 3) := rfl
theorem wfX6_badLineSign : av_wf tX6_badLineSign = true := by decide +kernel
set_option maxHeartbeats 400000 in
set_option maxRecDepth 40000 in
theorem eX6_badLineSign_r0_in (d : Nat) (h : av_M) : av_x (d + 1) 115 [.ref 0] h = av_xp d 115 15 [.ref 0, .int (av_min (h 1 1) 48), .int 0] [] h := (av_ent d 115 tX6_badLineSign 3 _ h tabX6_badLineSign).trans ((av_eq tX6_badLineSign 3 [15] 9 0 _ _ h tabX6_badLineSign wfX6_badLineSign rfl).trans rfl)
set_option maxHeartbeats 400000 in
set_option maxRecDepth 40000 in
theorem eX6_badLineSign_r0_15 (d : Nat) (h : av_M) (a1 : Int32) (a2 : Int32) : av_xp d 115 15 [.ref 0, .int a1, .int a2] [] h = (if a1 ≤ a2 then (if a1 = 0 then (if (h 1 1) = a1 then some (((-1) : Int32), (0 : Int64), h) else some ((a1 : Int32), (0 : Int64), h)) else (if (a1 - a1 / 7 * 7) = 6 then (if (h 1 1) = a1 then some (((-1) : Int32), (0 : Int64), h) else some ((a1 : Int32), (0 : Int64), h)) else some ((a1 : Int32), (0 : Int64), h))) else ((av_x d 116 [.ref 0, .int a2] h).bind fun q1 => (if q1.1 = 0 then some ((a2 : Int32), (0 : Int64), q1.2.2) else av_xp d 115 15 [.ref 0, .int a1, .int (a2 + 1)] [] q1.2.2))) := (av_eq tX6_badLineSign 3 [15] 24 15 _ _ h tabX6_badLineSign wfX6_badLineSign rfl).trans rfl
theorem tabX6_addLines : av_tab 117 = (tX6_addLines, 6) := rfl
theorem wfX6_addLines : av_wf tX6_addLines = true := by decide +kernel
set_option maxHeartbeats 400000 in
set_option maxRecDepth 40000 in
theorem eX6_addLines_r0_in (d : Nat) (h : av_M) : av_x (d + 1) 117 [.ref 0] h = (if (h 1 1) ≤ 0 then av_xp d 117 19 [.ref 0, .int 0, .null, .null, .null, .null] [] h else ((av_x d 7 [.ref 27] h).bind fun q1 => av_xp d 117 19 [.ref 0, .int 0, .null, .null, .null, .null] [] q1.2.2)) := (av_ent d 117 tX6_addLines 6 _ h tabX6_addLines).trans ((av_eq tX6_addLines 6 [19] 10 0 _ _ h tabX6_addLines wfX6_addLines rfl).trans rfl)
set_option maxHeartbeats 400000 in
set_option maxRecDepth 40000 in
theorem eX6_addLines_r0_19 (d : Nat) (h : av_M) (a1 : Int32) : av_xp d 117 19 [.ref 0, .int a1, .null, .null, .null, .null] [] h = (if (h 1 1) ≤ a1 then some ((0 : Int32), (0 : Int64), h) else ((av_x d 51 [.ref 1, .int (a1 + 1)] h).bind fun q1 => ((av_x d 51 [.ref 1, .int (a1 + 2)] q1.2.2).bind fun q2 => ((av_x d 51 [.ref 1, .int (a1 + 3)] q2.2.2).bind fun q3 => ((av_x d 51 [.ref 1, .int (a1 + 4)] q3.2.2).bind fun q4 => ((av_x d 51 [.ref 1, .int (a1 + 5)] q4.2.2).bind fun q5 => ((av_x d 50 [.ref 1, .int a1] q5.2.2).bind fun q6 => ((av_x d 118 [.int q6.1] q6.2.2).bind fun q7 => ((av_x d 27 [.ref 5, .int q7.1, .int q1.1, .int ((10 * q2.1) + q3.1), .int q4.1, .int q5.1] q7.2.2).bind fun q8 => av_xp d 117 19 [.ref 0, .int (a1 + 7), .int q1.1, .int ((10 * q2.1) + q3.1), .int q4.1, .int q5.1] [] q8.2.2))))))))) := (av_eq tX6_addLines 6 [19] 57 19 _ _ h tabX6_addLines wfX6_addLines rfl).trans rfl
set_option maxHeartbeats 400000 in
set_option maxRecDepth 40000 in
theorem eX6_addLines_r0_19_2 (d : Nat) (h : av_M) (a1 : Int32) (a2 : Int32) (a3 : Int32) (a4 : Int32) (a5 : Int32) : av_xp d 117 19 [.ref 0, .int a1, .int a2, .int a3, .int a4, .int a5] [] h = (if (h 1 1) ≤ a1 then some ((0 : Int32), (0 : Int64), h) else ((av_x d 51 [.ref 1, .int (a1 + 1)] h).bind fun q1 => ((av_x d 51 [.ref 1, .int (a1 + 2)] q1.2.2).bind fun q2 => ((av_x d 51 [.ref 1, .int (a1 + 3)] q2.2.2).bind fun q3 => ((av_x d 51 [.ref 1, .int (a1 + 4)] q3.2.2).bind fun q4 => ((av_x d 51 [.ref 1, .int (a1 + 5)] q4.2.2).bind fun q5 => ((av_x d 50 [.ref 1, .int a1] q5.2.2).bind fun q6 => ((av_x d 118 [.int q6.1] q6.2.2).bind fun q7 => ((av_x d 27 [.ref 5, .int q7.1, .int q1.1, .int ((10 * q2.1) + q3.1), .int q4.1, .int q5.1] q7.2.2).bind fun q8 => av_xp d 117 19 [.ref 0, .int (a1 + 7), .int q1.1, .int ((10 * q2.1) + q3.1), .int q4.1, .int q5.1] [] q8.2.2))))))))) := (av_eq tX6_addLines 6 [19] 57 19 _ _ h tabX6_addLines wfX6_addLines rfl).trans rfl
theorem tabX3_read : av_tab 11 = (tX3_read, 4) := rfl
theorem wfX3_read : av_wf tX3_read = true := by decide +kernel
set_option maxHeartbeats 400000 in
set_option maxRecDepth 40000 in
theorem eX3_read_r23_r1_in (d : Nat) (h : av_M) : av_x (d + 1) 11 [.ref 23, .ref 1] h = (if (h 1 1) = 0 then ((av_x d 13 [.ref 23, .int 107] (av_u (av_u (av_u (av_u (av_u h 23 3 0) 23 4 0) 23 5 0) 23 6 0) 23 8 1)).bind fun q1 => some (((-1) : Int32), (0 : Int64), q1.2.2)) else av_xp d 11 53 [.ref 23, .ref 1, .int (av_min (h 1 1) 40), .int 0] [] (av_u (av_u (av_u (av_u (av_u h 23 3 0) 23 4 0) 23 5 0) 23 6 0) 23 8 1)) := (av_ent d 11 tX3_read 4 _ h tabX3_read).trans ((av_eq tX3_read 4 [53] 26 0 _ _ h tabX3_read wfX3_read rfl).trans rfl)
set_option maxHeartbeats 400000 in
set_option maxRecDepth 40000 in
theorem eX3_read_r23_r1_53 (d : Nat) (h : av_M) (a2 : Int32) (a3 : Int32) : av_xp d 11 53 [.ref 23, .ref 1, .int a2, .int a3] [] h = (if a2 ≤ a3 then (if a2 < (h 1 1) then some ((a2 : Int32), (0 : Int64), h) else (if (h 23 8) = 0 then (if (h 23 5) ≤ 0 then ((av_x d 18 [.ref 23, .int 1] h).bind fun q1 => some (((-1) : Int32), (0 : Int64), q1.2.2)) else some ((a2 : Int32), (0 : Int64), h)) else some ((a2 : Int32), (0 : Int64), h))) else ((av_x d 50 [.ref 1, .int a3] h).bind fun q2 => ((av_x d 12 [.ref 23, .int q2.1] q2.2.2).bind fun q3 => (if q3.1 = 0 then some ((a3 : Int32), (0 : Int64), q3.2.2) else av_xp d 11 53 [.ref 23, .ref 1, .int a2, .int (a3 + 1)] [] q3.2.2)))) := (av_eq tX3_read 4 [53] 19 53 _ _ h tabX3_read wfX3_read rfl).trans rfl
theorem tabX3_copy : av_tab 10 = (tX3_copy, 3) := rfl
theorem wfX3_copy : av_wf tX3_copy = true := by decide +kernel
set_option maxHeartbeats 400000 in
set_option maxRecDepth 40000 in
theorem eX3_copy_r19_r23_in (d : Nat) (h : av_M) : av_x (d + 1) 10 [.ref 19, .ref 23] h = av_xp d 10 2 [.ref 19, .ref 23, .int 0] [] h := (av_ent d 10 tX3_copy 3 _ h tabX3_copy).trans ((av_eq tX3_copy 3 [2] 3 0 _ _ h tabX3_copy wfX3_copy rfl).trans rfl)
set_option maxHeartbeats 400000 in
set_option maxRecDepth 40000 in
theorem eX3_copy_r19_r23_2 (d : Nat) (h : av_M) (a2 : Int32) : av_xp d 10 2 [.ref 19, .ref 23, .int a2] [] h = (if 40 ≤ a2 then some ((0 : Int32), (0 : Int64), (av_u h 19 3 (h 23 3))) else (cond (av_inb a2 40) ((cond (av_inb a2 40) (av_xp d 10 2 [.ref 19, .ref 23, .int (a2 + 1)] [] (av_u h 20 (Int32.toNatClampNeg a2) (h 24 (Int32.toNatClampNeg a2)))) none)) none)) := (av_eq tX3_copy 3 [2] 14 2 _ _ h tabX3_copy wfX3_copy rfl).trans rfl
theorem tabX6_asKind : av_tab 119 = (tX6_asKind, 2) := rfl
theorem wfX6_asKind : av_wf tX6_asKind = true := by decide +kernel
set_option maxHeartbeats 400000 in
set_option maxRecDepth 40000 in
theorem eX6_asKind_in (d : Nat) (h : av_M) (p0 : Int32) (p1 : Int32) : av_x (d + 1) 119 [.int p0, .int p1] h = (if p0 = 0 then some ((((Int32.toInt8 p1).toInt32) : Int32), (0 : Int64), h) else (if p0 = 1 then some ((((Int32.toInt16 p1).toInt32) : Int32), (0 : Int64), h) else some ((p1 : Int32), (0 : Int64), h))) := (av_ent d 119 tX6_asKind 2 _ h tabX6_asKind).trans ((av_eq tX6_asKind 2 [] 6 0 _ _ h tabX6_asKind wfX6_asKind rfl).trans rfl)
theorem tabX6_within : av_tab 104 = (tX6_within, 3) := rfl
theorem wfX6_within : av_wf tX6_within = true := by decide +kernel
set_option maxHeartbeats 400000 in
set_option maxRecDepth 40000 in
theorem eX6_within_in (d : Nat) (h : av_M) (p0 : Int32) (p1 : Int32) (p2 : Int32) : av_x (d + 1) 104 [.int p0, .int p1, .int p2] h = some (((av_max p1 (av_min p2 p0)) : Int32), (0 : Int64), h) := (av_ent d 104 tX6_within 3 _ h tabX6_within).trans ((av_eq tX6_within 3 [] 7 0 _ _ h tabX6_within wfX6_within rfl).trans rfl)
theorem tabX1_mark : av_tab 2 = (tX1_mark, 2) := rfl
theorem wfX1_mark : av_wf tX1_mark = true := by decide +kernel
set_option maxHeartbeats 400000 in
set_option maxRecDepth 40000 in
theorem eX1_mark_r27_r5_in (d : Nat) (h : av_M) : av_x (d + 1) 2 [.ref 27, .ref 5] h = ((av_x d 46 [.ref 5, .ref 28, .int ((h 27 2) * 33)] h).bind fun q1 => some ((0 : Int32), (0 : Int64), q1.2.2)) := (av_ent d 2 tX1_mark 2 _ h tabX1_mark).trans ((av_eq tX1_mark 2 [] 10 0 _ _ h tabX1_mark wfX1_mark rfl).trans rfl)
theorem tabX6_goHours : av_tab 124 = (tX6_goHours, 4) := rfl
theorem wfX6_goHours : av_wf tX6_goHours = true := by decide +kernel
set_option maxHeartbeats 400000 in
set_option maxRecDepth 40000 in
theorem eX6_goHours_r0_in (d : Nat) (h : av_M) (p1 : Int32) : av_x (d + 1) 124 [.ref 0, .int p1] h = (if p1 < 0 then some (((-1) : Int32), (0 : Int64), h) else (if p1 ≤ 60 then av_xp d 124 22 [.ref 0, .int p1, .int (h 5 8), .int 0] [] h else some (((-1) : Int32), (0 : Int64), h))) := (av_ent d 124 tX6_goHours 4 _ h tabX6_goHours).trans ((av_eq tX6_goHours 4 [22] 12 0 _ _ h tabX6_goHours wfX6_goHours rfl).trans rfl)
set_option maxHeartbeats 400000 in
set_option maxRecDepth 40000 in
theorem eX6_goHours_r0_22 (d : Nat) (h : av_M) (a1 : Int32) (a2 : Int32) (a3 : Int32) : av_xp d 124 22 [.ref 0, .int a1, .int a2, .int a3] [] h = (if a1 ≤ a3 then ((av_x d 28 [.ref 5] h).bind fun q1 => ((av_x d 275 [.int q1.1] q1.2.2).bind fun q2 => ((av_x d 111 [.ref 0, .long (Int32.toInt64 ((h 5 8) &&& (a2 ^^^ (-1)))), .long (Int32.toInt64 q2.1)] q2.2.2).bind fun q3 => some (((q3.2.2 5 10) : Int32), (0 : Int64), q3.2.2)))) else ((av_x d 43 [.ref 5, .ref 19] h).bind fun q4 => av_xp d 124 22 [.ref 0, .int a1, .int a2, .int (a3 + 1)] [] q4.2.2)) := (av_eq tX6_goHours 4 [22] 23 22 _ _ h tabX6_goHours wfX6_goHours rfl).trans rfl
theorem tabX6_settled : av_tab 122 = (tX6_settled, 2) := rfl
theorem wfX6_settled : av_wf tX6_settled = true := by decide +kernel
set_option maxHeartbeats 400000 in
set_option maxRecDepth 40000 in
theorem eX6_settled_r0_in (d : Nat) (h : av_M) (p1 : Int32) : av_x (d + 1) 122 [.ref 0, .int p1] h = (if p1 < 0 then some ((p1 : Int32), (0 : Int64), h) else ((av_x d 3 [.ref 27] h).bind fun q1 => some ((p1 : Int32), (0 : Int64), q1.2.2))) := (av_ent d 122 tX6_settled 2 _ h tabX6_settled).trans ((av_eq tX6_settled 2 [] 8 0 _ _ h tabX6_settled wfX6_settled rfl).trans rfl)
theorem tabJ6_bitCount_0f7a4 : av_tab 275 = (tJ6_bitCount_0f7a4, 1) := rfl
theorem wfJ6_bitCount_0f7a4 : av_wf tJ6_bitCount_0f7a4 = true := by decide +kernel
set_option maxHeartbeats 400000 in
set_option maxRecDepth 40000 in
theorem eJ6_bitCount_0f7a4_in (d : Nat) (h : av_M) (p0 : Int32) : av_x (d + 1) 275 [.int p0] h = some ((((((((((p0 - (((Int32.toUInt32 p0 >>> (Int32.toUInt32 1 &&& Int32.toUInt32 31)).toInt32) &&& 1431655765)) &&& 858993459) + (((Int32.toUInt32 (p0 - (((Int32.toUInt32 p0 >>> (Int32.toUInt32 1 &&& Int32.toUInt32 31)).toInt32) &&& 1431655765)) >>> (Int32.toUInt32 2 &&& Int32.toUInt32 31)).toInt32) &&& 858993459)) + ((Int32.toUInt32 (((p0 - (((Int32.toUInt32 p0 >>> (Int32.toUInt32 1 &&& Int32.toUInt32 31)).toInt32) &&& 1431655765)) &&& 858993459) + (((Int32.toUInt32 (p0 - (((Int32.toUInt32 p0 >>> (Int32.toUInt32 1 &&& Int32.toUInt32 31)).toInt32) &&& 1431655765)) >>> (Int32.toUInt32 2 &&& Int32.toUInt32 31)).toInt32) &&& 858993459)) >>> (Int32.toUInt32 4 &&& Int32.toUInt32 31)).toInt32)) &&& 252645135) + ((Int32.toUInt32 (((((p0 - (((Int32.toUInt32 p0 >>> (Int32.toUInt32 1 &&& Int32.toUInt32 31)).toInt32) &&& 1431655765)) &&& 858993459) + (((Int32.toUInt32 (p0 - (((Int32.toUInt32 p0 >>> (Int32.toUInt32 1 &&& Int32.toUInt32 31)).toInt32) &&& 1431655765)) >>> (Int32.toUInt32 2 &&& Int32.toUInt32 31)).toInt32) &&& 858993459)) + ((Int32.toUInt32 (((p0 - (((Int32.toUInt32 p0 >>> (Int32.toUInt32 1 &&& Int32.toUInt32 31)).toInt32) &&& 1431655765)) &&& 858993459) + (((Int32.toUInt32 (p0 - (((Int32.toUInt32 p0 >>> (Int32.toUInt32 1 &&& Int32.toUInt32 31)).toInt32) &&& 1431655765)) >>> (Int32.toUInt32 2 &&& Int32.toUInt32 31)).toInt32) &&& 858993459)) >>> (Int32.toUInt32 4 &&& Int32.toUInt32 31)).toInt32)) &&& 252645135) >>> (Int32.toUInt32 8 &&& Int32.toUInt32 31)).toInt32)) + ((Int32.toUInt32 ((((((p0 - (((Int32.toUInt32 p0 >>> (Int32.toUInt32 1 &&& Int32.toUInt32 31)).toInt32) &&& 1431655765)) &&& 858993459) + (((Int32.toUInt32 (p0 - (((Int32.toUInt32 p0 >>> (Int32.toUInt32 1 &&& Int32.toUInt32 31)).toInt32) &&& 1431655765)) >>> (Int32.toUInt32 2 &&& Int32.toUInt32 31)).toInt32) &&& 858993459)) + ((Int32.toUInt32 (((p0 - (((Int32.toUInt32 p0 >>> (Int32.toUInt32 1 &&& Int32.toUInt32 31)).toInt32) &&& 1431655765)) &&& 858993459) + (((Int32.toUInt32 (p0 - (((Int32.toUInt32 p0 >>> (Int32.toUInt32 1 &&& Int32.toUInt32 31)).toInt32) &&& 1431655765)) >>> (Int32.toUInt32 2 &&& Int32.toUInt32 31)).toInt32) &&& 858993459)) >>> (Int32.toUInt32 4 &&& Int32.toUInt32 31)).toInt32)) &&& 252645135) + ((Int32.toUInt32 (((((p0 - (((Int32.toUInt32 p0 >>> (Int32.toUInt32 1 &&& Int32.toUInt32 31)).toInt32) &&& 1431655765)) &&& 858993459) + (((Int32.toUInt32 (p0 - (((Int32.toUInt32 p0 >>> (Int32.toUInt32 1 &&& Int32.toUInt32 31)).toInt32) &&& 1431655765)) >>> (Int32.toUInt32 2 &&& Int32.toUInt32 31)).toInt32) &&& 858993459)) + ((Int32.toUInt32 (((p0 - (((Int32.toUInt32 p0 >>> (Int32.toUInt32 1 &&& Int32.toUInt32 31)).toInt32) &&& 1431655765)) &&& 858993459) + (((Int32.toUInt32 (p0 - (((Int32.toUInt32 p0 >>> (Int32.toUInt32 1 &&& Int32.toUInt32 31)).toInt32) &&& 1431655765)) >>> (Int32.toUInt32 2 &&& Int32.toUInt32 31)).toInt32) &&& 858993459)) >>> (Int32.toUInt32 4 &&& Int32.toUInt32 31)).toInt32)) &&& 252645135) >>> (Int32.toUInt32 8 &&& Int32.toUInt32 31)).toInt32)) >>> (Int32.toUInt32 16 &&& Int32.toUInt32 31)).toInt32)) &&& 63) : Int32), (0 : Int64), h) := (av_ent d 275 tJ6_bitCount_0f7a4 1 _ h tabJ6_bitCount_0f7a4).trans ((av_eq tJ6_bitCount_0f7a4 1 [] 43 0 _ _ h tabJ6_bitCount_0f7a4 wfJ6_bitCount_0f7a4 rfl).trans rfl)
theorem tabX6_runTo : av_tab 125 = (tX6_runTo, 4) := rfl
theorem wfX6_runTo : av_wf tX6_runTo = true := by decide +kernel
set_option maxHeartbeats 400000 in
set_option maxRecDepth 40000 in
theorem eX6_runTo_r0_in (d : Nat) (h : av_M) (p1 : Int32) (p2 : Int32) : av_x (d + 1) 125 [.ref 0, .int p1, .int p2] h = ((av_x d 26 [.ref 5, .int p1] h).bind fun q1 => (if q1.1 = 0 then some (((-1) : Int32), (0 : Int64), q1.2.2) else ((av_x d 106 [.int p2] q1.2.2).bind fun q2 => (if q2.1 = 0 then some (((-1) : Int32), (0 : Int64), q2.2.2) else (cond (av_inb p1 7) ((cond (av_inb p1 7) ((if (av_abs (p2 - (q2.2.2 10 (Int32.toNatClampNeg p1)))) = 0 then some (((-2) : Int32), (0 : Int64), (av_u q2.2.2 10 (Int32.toNatClampNeg p1) p2)) else some (((av_abs (p2 - (q2.2.2 10 (Int32.toNatClampNeg p1)))) : Int32), (0 : Int64), (av_u q2.2.2 10 (Int32.toNatClampNeg p1) p2)))) none)) none))))) := (av_ent d 125 tX6_runTo 4 _ h tabX6_runTo).trans ((av_eq tX6_runTo 4 [] 29 0 _ _ h tabX6_runTo wfX6_runTo rfl).trans rfl)
theorem tabX6_setRate : av_tab 126 = (tX6_setRate, 4) := rfl
theorem wfX6_setRate : av_wf tX6_setRate = true := by decide +kernel
set_option maxHeartbeats 400000 in
set_option maxRecDepth 40000 in
theorem eX6_setRate_r0_in (d : Nat) (h : av_M) (p1 : Int32) (p2 : Int32) : av_x (d + 1) 126 [.ref 0, .int p1, .int p2] h = ((av_x d 26 [.ref 5, .int p1] h).bind fun q1 => (if q1.1 = 0 then some (((-1) : Int32), (0 : Int64), q1.2.2) else ((av_x d 106 [.int p2] q1.2.2).bind fun q2 => (if q2.1 = 0 then some (((-1) : Int32), (0 : Int64), q2.2.2) else (cond (av_inb p1 7) ((cond (av_inb p1 7) ((if (q2.2.2 9 (Int32.toNatClampNeg p1)) = p2 then some (((-2) : Int32), (0 : Int64), (av_u q2.2.2 9 (Int32.toNatClampNeg p1) p2)) else some (((10 + (q2.2.2 9 (Int32.toNatClampNeg p1))) : Int32), (0 : Int64), (av_u q2.2.2 9 (Int32.toNatClampNeg p1) p2)))) none)) none))))) := (av_ent d 126 tX6_setRate 4 _ h tabX6_setRate).trans ((av_eq tX6_setRate 4 [] 28 0 _ _ h tabX6_setRate wfX6_setRate rfl).trans rfl)
theorem tabX6_fillReel : av_tab 127 = (tX6_fillReel, 4) := rfl
theorem wfX6_fillReel : av_wf tX6_fillReel = true := by decide +kernel
set_option maxHeartbeats 400000 in
set_option maxRecDepth 40000 in
theorem eX6_fillReel_r0_in (d : Nat) (h : av_M) (p1 : Int32) (p2 : Int32) : av_x (d + 1) 127 [.ref 0, .int p1, .int p2] h = ((av_x d 26 [.ref 5, .int p1] h).bind fun q1 => (if q1.1 = 0 then some (((-1) : Int32), (0 : Int64), q1.2.2) else (if p2 < 1 then some (((-1) : Int32), (0 : Int64), q1.2.2) else (if p2 ≤ 99 then (cond (av_inb p1 7) ((if ((q1.2.2 8 (Int32.toNatClampNeg p1)) + p2) ≤ 99 then (cond (av_inb p1 7) (some ((((q1.2.2 8 (Int32.toNatClampNeg p1)) + p2) : Int32), (0 : Int64), (av_u q1.2.2 8 (Int32.toNatClampNeg p1) ((q1.2.2 8 (Int32.toNatClampNeg p1)) + p2)))) none) else some (((-2) : Int32), (0 : Int64), q1.2.2))) none) else some (((-1) : Int32), (0 : Int64), q1.2.2))))) := (av_ent d 127 tX6_fillReel 4 _ h tabX6_fillReel).trans ((av_eq tX6_fillReel 4 [] 31 0 _ _ h tabX6_fillReel wfX6_fillReel rfl).trans rfl)
theorem tabX6_turnEnd : av_tab 128 = (tX6_turnEnd, 2) := rfl
theorem wfX6_turnEnd : av_wf tX6_turnEnd = true := by decide +kernel
set_option maxHeartbeats 400000 in
set_option maxRecDepth 40000 in
theorem eX6_turnEnd_r0_in (d : Nat) (h : av_M) (p1 : Int32) : av_x (d + 1) 128 [.ref 0, .int p1] h = ((av_x d 26 [.ref 5, .int p1] h).bind fun q1 => (if q1.1 = 0 then some (((-1) : Int32), (0 : Int64), q1.2.2) else ((av_x d 108 [.int (q1.2.2 5 8), .int p1] q1.2.2).bind fun q2 => (if q2.1 = 0 then ((av_x d 28 [.ref 5] (av_u q2.2.2 5 9 ((q2.2.2 5 9) ^^^ (1 <<< (p1 &&& 31))))).bind fun q3 => ((av_x d 275 [.int q3.1] q3.2.2).bind fun q4 => some ((q4.1 : Int32), (0 : Int64), q4.2.2))) else some (((-2) : Int32), (0 : Int64), q2.2.2))))) := (av_ent d 128 tX6_turnEnd 2 _ h tabX6_turnEnd).trans ((av_eq tX6_turnEnd 2 [] 26 0 _ _ h tabX6_turnEnd wfX6_turnEnd rfl).trans rfl)
theorem tabX6_setSpeed : av_tab 129 = (tX6_setSpeed, 3) := rfl
theorem wfX6_setSpeed : av_wf tX6_setSpeed = true := by decide +kernel
set_option maxHeartbeats 400000 in
set_option maxRecDepth 40000 in
theorem eX6_setSpeed_r0_in (d : Nat) (h : av_M) (p1 : Int32) : av_x (d + 1) 129 [.ref 0, .int p1] h = ((av_x d 106 [.int p1] h).bind fun q1 => (if q1.1 = 0 then some (((-1) : Int32), (0 : Int64), q1.2.2) else (if (q1.2.2 5 11) = p1 then some (((-2) : Int32), (0 : Int64), (av_u q1.2.2 5 11 p1)) else some (((10 + (q1.2.2 5 11)) : Int32), (0 : Int64), (av_u q1.2.2 5 11 p1))))) := (av_ent d 129 tX6_setSpeed 3 _ h tabX6_setSpeed).trans ((av_eq tX6_setSpeed 3 [] 19 0 _ _ h tabX6_setSpeed wfX6_setSpeed rfl).trans rfl)
theorem tabX6_badActSign : av_tab 120 = (tX6_badActSign, 4) := rfl
theorem wfX6_badActSign : av_wf tX6_badActSign = true := by decide +kernel
set_option maxHeartbeats 400000 in
set_option maxRecDepth 40000 in
theorem eX6_badActSign_r0_in (d : Nat) (h : av_M) : av_x (d + 1) 120 [.ref 0] h = av_xp d 120 17 [.ref 0, .int (av_min (h 1 1) 60), .int 0, .int 0] [] h := (av_ent d 120 tX6_badActSign 4 _ h tabX6_badActSign).trans ((av_eq tX6_badActSign 4 [17] 11 0 _ _ h tabX6_badActSign wfX6_badActSign rfl).trans rfl)
set_option maxHeartbeats 400000 in
set_option maxRecDepth 40000 in
theorem eX6_badActSign_r0_17 (d : Nat) (h : av_M) (a1 : Int32) (a2 : Int32) (a3 : Int32) : av_xp d 120 17 [.ref 0, .int a1, .int a2, .int a3] [] h = (if a1 ≤ a3 then (if a2 = 0 then (if (h 1 1) = a1 then some (((-1) : Int32), (0 : Int64), h) else some ((a1 : Int32), (0 : Int64), h)) else some ((a1 : Int32), (0 : Int64), h)) else (if a2 ≤ 0 then ((av_x d 50 [.ref 1, .int a3] h).bind fun q1 => ((av_x d 121 [.int q1.1] q1.2.2).bind fun q2 => (if q2.1 = 0 then some ((a3 : Int32), (0 : Int64), q2.2.2) else av_xp d 120 17 [.ref 0, .int a1, .int q2.1, .int (a3 + 1)] [] q2.2.2))) else ((av_x d 51 [.ref 1, .int a3] h).bind fun q3 => (if 0 ≤ q3.1 then av_xp d 120 17 [.ref 0, .int a1, .int (a2 + (-1)), .int (a3 + 1)] [] q3.2.2 else some ((a3 : Int32), (0 : Int64), q3.2.2))))) := (av_eq tX6_badActSign 4 [17] 16 17 _ _ h tabX6_badActSign wfX6_badActSign rfl).trans rfl
theorem tabX6_tell_ : av_tab 111 = (tX6_tell_, 5) := rfl
theorem wfX6_tell_ : av_wf tX6_tell_ = true := by decide +kernel
set_option maxHeartbeats 400000 in
set_option maxRecDepth 40000 in
theorem eX6_tell__r0_in (d : Nat) (h : av_M) (p1 : Int64) (p2 : Int64) : av_x (d + 1) 111 [.ref 0, .long p1, .long p2] h = ((av_x d 8 [.ref 3] h).bind fun q1 => ((av_x d 9 [.ref 3, .long p1] q1.2.2).bind fun q2 => ((av_x d 9 [.ref 3, .long p2] q2.2.2).bind fun q3 => some ((0 : Int32), (0 : Int64), q3.2.2)))) := (av_ent d 111 tX6_tell_ 5 _ h tabX6_tell_).trans ((av_eq tX6_tell_ 5 [] 13 0 _ _ h tabX6_tell_ wfX6_tell_ rfl).trans rfl)
theorem tabX1_confirm : av_tab 3 = (tX1_confirm, 1) := rfl
theorem wfX1_confirm : av_wf tX1_confirm = true := by decide +kernel
set_option maxHeartbeats 400000 in
set_option maxRecDepth 40000 in
theorem eX1_confirm_r27_in (d : Nat) (h : av_M) : av_x (d + 1) 3 [.ref 27] h = some ((0 : Int32), (0 : Int64), (av_u (av_u h 27 2 (((h 27 2) + 1) - ((h 27 2) + 1) / 16 * 16)) 27 3 (av_min 15 ((h 27 3) + 1)))) := (av_ent d 3 tX1_confirm 1 _ h tabX1_confirm).trans ((av_eq tX1_confirm 1 [] 18 0 _ _ h tabX1_confirm wfX1_confirm rfl).trans rfl)
theorem tabX6_act : av_tab 123 = (tX6_act, 4) := rfl
theorem wfX6_act : av_wf tX6_act = true := by decide +kernel
set_option maxHeartbeats 400000 in
set_option maxRecDepth 40000 in
theorem eX6_act_r0_in (d : Nat) (h : av_M) (p1 : Int32) : av_x (d + 1) 123 [.ref 0, .int p1] h = ((av_x d 51 [.ref 1, .int (p1 + 1)] h).bind fun q1 => ((av_x d 51 [.ref 1, .int (p1 + 2)] q1.2.2).bind fun q2 => ((av_x d 50 [.ref 1, .int p1] q2.2.2).bind fun q3 => (if q3.1 = 100 then ((av_x d 128 [.ref 0, .int q1.1] q3.2.2).bind fun q10 => some ((q10.1 : Int32), (0 : Int64), q10.2.2)) else (if q3.1 = 101 then some (((-1) : Int32), (0 : Int64), q3.2.2) else (if q3.1 = 102 then some (((-1) : Int32), (0 : Int64), q3.2.2) else (if q3.1 = 103 then some (((-1) : Int32), (0 : Int64), q3.2.2) else (if q3.1 = 104 then some (((-1) : Int32), (0 : Int64), q3.2.2) else (if q3.1 = 105 then some (((-1) : Int32), (0 : Int64), q3.2.2) else (if q3.1 = 106 then some (((-1) : Int32), (0 : Int64), q3.2.2) else (if q3.1 = 107 then some (((-1) : Int32), (0 : Int64), q3.2.2) else (if q3.1 = 108 then some (((-1) : Int32), (0 : Int64), q3.2.2) else (if q3.1 = 109 then ((av_x d 51 [.ref 1, .int (p1 + 3)] q3.2.2).bind fun q8 => ((av_x d 127 [.ref 0, .int q1.1, .int ((10 * q2.1) + q8.1)] q8.2.2).bind fun q9 => some ((q9.1 : Int32), (0 : Int64), q9.2.2))) else (if q3.1 = 110 then ((av_x d 124 [.ref 0, .int q1.1] q3.2.2).bind fun q7 => some ((q7.1 : Int32), (0 : Int64), q7.2.2)) else (if q3.1 = 111 then some (((-1) : Int32), (0 : Int64), q3.2.2) else (if q3.1 = 112 then ((av_x d 125 [.ref 0, .int q1.1, .int q2.1] q3.2.2).bind fun q6 => some ((q6.1 : Int32), (0 : Int64), q6.2.2)) else (if q3.1 = 113 then some (((-1) : Int32), (0 : Int64), q3.2.2) else (if q3.1 = 114 then ((av_x d 126 [.ref 0, .int q1.1, .int q2.1] q3.2.2).bind fun q5 => some ((q5.1 : Int32), (0 : Int64), q5.2.2)) else (if q3.1 = 115 then ((av_x d 129 [.ref 0, .int q1.1] q3.2.2).bind fun q4 => some ((q4.1 : Int32), (0 : Int64), q4.2.2)) else some (((-1) : Int32), (0 : Int64), q3.2.2)))))))))))))))))))) := (av_ent d 123 tX6_act 4 _ h tabX6_act).trans ((av_eq tX6_act 4 [] 34 0 _ _ h tabX6_act wfX6_act rfl).trans rfl)
theorem tabX5_at : av_tab 50 = (tX5_at, 2) := rfl
theorem wfX5_at : av_wf tX5_at = true := by decide +kernel
set_option maxHeartbeats 400000 in
set_option maxRecDepth 40000 in
theorem eX5_at_r1_in (d : Nat) (h : av_M) (p1 : Int32) : av_x (d + 1) 50 [.ref 1, .int p1] h = (if p1 < 0 then some (((-1) : Int32), (0 : Int64), h) else (if p1 < (h 1 1) then (cond (av_inb p1 80) (some (((h 2 (Int32.toNatClampNeg p1)) : Int32), (0 : Int64), h)) none) else some (((-1) : Int32), (0 : Int64), h))) := (av_ent d 50 tX5_at 2 _ h tabX5_at).trans ((av_eq tX5_at 2 [] 12 0 _ _ h tabX5_at wfX5_at rfl).trans rfl)
theorem tabX6_digitsBehind : av_tab 121 = (tX6_digitsBehind, 1) := rfl
theorem wfX6_digitsBehind : av_wf tX6_digitsBehind = true := by decide +kernel
set_option maxHeartbeats 400000 in
set_option maxRecDepth 40000 in
theorem eX6_digitsBehind_in (d : Nat) (h : av_M) (p0 : Int32) : av_x (d + 1) 121 [.int p0] h = (if p0 = 100 then some ((1 : Int32), (0 : Int64), h) else (if p0 = 101 then some ((0 : Int32), (0 : Int64), h) else (if p0 = 102 then some ((0 : Int32), (0 : Int64), h) else (if p0 = 103 then some ((0 : Int32), (0 : Int64), h) else (if p0 = 104 then some ((0 : Int32), (0 : Int64), h) else (if p0 = 105 then some ((0 : Int32), (0 : Int64), h) else (if p0 = 106 then some ((0 : Int32), (0 : Int64), h) else (if p0 = 107 then some ((0 : Int32), (0 : Int64), h) else (if p0 = 108 then some ((0 : Int32), (0 : Int64), h) else (if p0 = 109 then some ((3 : Int32), (0 : Int64), h) else (if p0 = 110 then some ((1 : Int32), (0 : Int64), h) else (if p0 = 111 then some ((0 : Int32), (0 : Int64), h) else (if p0 = 112 then some ((2 : Int32), (0 : Int64), h) else (if p0 = 113 then some ((0 : Int32), (0 : Int64), h) else (if p0 = 114 then some ((2 : Int32), (0 : Int64), h) else (if p0 = 115 then some ((1 : Int32), (0 : Int64), h) else some ((0 : Int32), (0 : Int64), h))))))))))))))))) := (av_ent d 121 tX6_digitsBehind 1 _ h tabX6_digitsBehind).trans ((av_eq tX6_digitsBehind 1 [] 5 0 _ _ h tabX6_digitsBehind wfX6_digitsBehind rfl).trans rfl)
theorem tabX1_bringBack : av_tab 4 = (tX1_bringBack, 2) := rfl
theorem wfX1_bringBack : av_wf tX1_bringBack = true := by decide +kernel
set_option maxHeartbeats 400000 in
set_option maxRecDepth 40000 in
theorem eX1_bringBack_r27_r5_in (d : Nat) (h : av_M) : av_x (d + 1) 4 [.ref 27, .ref 5] h = (if (h 27 3) = 0 then some (((0 &&& 1) : Int32), (0 : Int64), h) else ((av_x d 47 [.ref 5, .ref 28, .int (((((h 27 2) + 16) - 1) - (((h 27 2) + 16) - 1) / 16 * 16) * 33)] (av_u (av_u h 27 3 ((h 27 3) - 1)) 27 2 ((((h 27 2) + 16) - 1) - (((h 27 2) + 16) - 1) / 16 * 16))).bind fun q1 => some (((1 &&& 1) : Int32), (0 : Int64), q1.2.2))) := (av_ent d 4 tX1_bringBack 2 _ h tabX1_bringBack).trans ((av_eq tX1_bringBack 2 [] 30 0 _ _ h tabX1_bringBack wfX1_bringBack rfl).trans rfl)
theorem tabX6_foresee : av_tab 114 = (tX6_foresee, 2) := rfl
theorem wfX6_foresee : av_wf tX6_foresee = true := by decide +kernel
set_option maxHeartbeats 400000 in
set_option maxRecDepth 40000 in
theorem eX6_foresee_r0_in (d : Nat) (h : av_M) (p1 : Int32) : av_x (d + 1) 114 [.ref 0, .int p1] h = ((av_x d 45 [.ref 12, .ref 5] h).bind fun q1 => ((av_x d 42 [.ref 12, .ref 19, .int p1] q1.2.2).bind fun q2 => some ((0 : Int32), (0 : Int64), q2.2.2))) := (av_ent d 114 tX6_foresee 2 _ h tabX6_foresee).trans ((av_eq tX6_foresee 2 [] 13 0 _ _ h tabX6_foresee wfX6_foresee rfl).trans rfl)
theorem tabX4_holding : av_tab 28 = (tX4_holding, 1) := rfl
theorem wfX4_holding : av_wf tX4_holding = true := by decide +kernel
set_option maxHeartbeats 400000 in
set_option maxRecDepth 40000 in
theorem eX4_holding_r12_in (d : Nat) (h : av_M) : av_x (d + 1) 28 [.ref 12] h = some ((((h 12 7) &&& (((h 12 8) ||| (h 12 9)) ^^^ (-1))) : Int32), (0 : Int64), h) := (av_ent d 28 tX4_holding 1 _ h tabX4_holding).trans ((av_eq tX4_holding 1 [] 12 0 _ _ h tabX4_holding wfX4_holding rfl).trans rfl)
theorem tabX4_taut : av_tab 33 = (tX4_taut, 3) := rfl
theorem wfX4_taut : av_wf tX4_taut = true := by decide +kernel
set_option maxHeartbeats 400000 in
set_option maxRecDepth 40000 in
theorem eX4_taut_r12_in (d : Nat) (h : av_M) : av_x (d + 1) 33 [.ref 12] h = av_xp d 33 4 [.ref 12, .int 0, .int 0] [] h := (av_ent d 33 tX4_taut 3 _ h tabX4_taut).trans ((av_eq tX4_taut 3 [4] 5 0 _ _ h tabX4_taut wfX4_taut rfl).trans rfl)
set_option maxHeartbeats 400000 in
set_option maxRecDepth 40000 in
theorem eX4_taut_r12_4 (d : Nat) (h : av_M) (a1 : Int32) (a2 : Int32) : av_xp d 33 4 [.ref 12, .int a1, .int a2] [] h = (if (h 12 6) ≤ a2 then ((av_x d 28 [.ref 12] h).bind fun q1 => some (((a1 &&& q1.1) : Int32), (0 : Int64), q1.2.2)) else ((av_x d 32 [.ref 12, .int a2] h).bind fun q2 => (if q2.1 < 0 then av_xp d 33 4 [.ref 12, .int a1, .int (a2 + 1)] [] q2.2.2 else av_xp d 33 4 [.ref 12, .int (a1 ||| (1 <<< (a2 &&& 31))), .int (a2 + 1)] [] q2.2.2))) := (av_eq tX4_taut 3 [4] 17 4 _ _ h tabX4_taut wfX4_taut rfl).trans rfl
theorem tabX4_knows : av_tab 26 = (tX4_knows, 2) := rfl
theorem wfX4_knows : av_wf tX4_knows = true := by decide +kernel
set_option maxHeartbeats 400000 in
set_option maxRecDepth 40000 in
theorem eX4_knows_r5_in (d : Nat) (h : av_M) (p1 : Int32) : av_x (d + 1) 26 [.ref 5, .int p1] h = (if p1 < 0 then some (((0 &&& 1) : Int32), (0 : Int64), h) else (if (h 5 6) ≤ p1 then some (((0 &&& 1) : Int32), (0 : Int64), h) else some (((1 &&& 1) : Int32), (0 : Int64), h))) := (av_ent d 26 tX4_knows 2 _ h tabX4_knows).trans ((av_eq tX4_knows 2 [] 10 0 _ _ h tabX4_knows wfX4_knows rfl).trans rfl)
theorem tabX4_copy : av_tab 45 = (tX4_copy, 3) := rfl
theorem wfX4_copy : av_wf tX4_copy = true := by decide +kernel
set_option maxHeartbeats 400000 in
set_option maxRecDepth 40000 in
theorem eX4_copy_r12_r5_in (d : Nat) (h : av_M) : av_x (d + 1) 45 [.ref 12, .ref 5] h = av_xp d 45 2 [.ref 12, .ref 5, .int 0] [] h := (av_ent d 45 tX4_copy 3 _ h tabX4_copy).trans ((av_eq tX4_copy 3 [2] 3 0 _ _ h tabX4_copy wfX4_copy rfl).trans rfl)
set_option maxHeartbeats 400000 in
set_option maxRecDepth 40000 in
theorem eX4_copy_r12_r5_2 (d : Nat) (h : av_M) (a2 : Int32) : av_xp d 45 2 [.ref 12, .ref 5, .int a2] [] h = (if 7 ≤ a2 then some ((0 : Int32), (0 : Int64), (av_u (av_u (av_u (av_u (av_u (av_u (av_u h 12 6 (h 5 6)) 12 7 (h 5 7)) 12 8 (h 5 8)) 12 9 (h 5 9)) 12 10 (h 5 10)) 12 11 (h 5 11)) 12 12 (h 5 12))) else (cond (av_inb a2 7) ((cond (av_inb a2 7) ((cond (av_inb a2 7) ((cond (av_inb a2 7) ((cond (av_inb a2 7) ((cond (av_inb a2 7) ((cond (av_inb a2 7) ((cond (av_inb a2 7) ((cond (av_inb a2 7) ((cond (av_inb a2 7) ((cond (av_inb a2 7) ((cond (av_inb a2 7) (av_xp d 45 2 [.ref 12, .ref 5, .int (a2 + 1)] [] (av_u (av_u (av_u (av_u (av_u (av_u h 13 (Int32.toNatClampNeg a2) (h 6 (Int32.toNatClampNeg a2))) 14 (Int32.toNatClampNeg a2) (h 7 (Int32.toNatClampNeg a2))) 15 (Int32.toNatClampNeg a2) (h 8 (Int32.toNatClampNeg a2))) 16 (Int32.toNatClampNeg a2) (h 9 (Int32.toNatClampNeg a2))) 17 (Int32.toNatClampNeg a2) (h 10 (Int32.toNatClampNeg a2))) 18 (Int32.toNatClampNeg a2) (h 11 (Int32.toNatClampNeg a2)))) none)) none)) none)) none)) none)) none)) none)) none)) none)) none)) none)) none)) := (av_eq tX4_copy 3 [2] 54 2 _ _ h tabX4_copy wfX4_copy rfl).trans rfl
theorem tabX4_holds : av_tab 29 = (tX4_holds, 2) := rfl
theorem wfX4_holds : av_wf tX4_holds = true := by decide +kernel
set_option maxHeartbeats 400000 in
set_option maxRecDepth 40000 in
theorem eX4_holds_r12_in (d : Nat) (h : av_M) (p1 : Int32) : av_x (d + 1) 29 [.ref 12, .int p1] h = ((av_x d 28 [.ref 12] h).bind fun q1 => ((av_x d 108 [.int q1.1, .int p1] q1.2.2).bind fun q2 => some (((q2.1 &&& 1) : Int32), (0 : Int64), q2.2.2))) := (av_ent d 29 tX4_holds 2 _ h tabX4_holds).trans ((av_eq tX4_holds 2 [] 6 0 _ _ h tabX4_holds wfX4_holds rfl).trans rfl)
theorem tabX4_passHour : av_tab 43 = (tX4_passHour, 5) := rfl
theorem wfX4_passHour : av_wf tX4_passHour = true := by decide +kernel
set_option maxHeartbeats 400000 in
set_option maxRecDepth 40000 in
theorem eX4_passHour_r12_r19_in (d : Nat) (h : av_M) : av_x (d + 1) 43 [.ref 12, .ref 19] h = ((av_x d 44 [.ref 12] h).bind fun q1 => ((av_x d 41 [.ref 12] q1.2.2).bind fun q2 => ((av_x d 28 [.ref 12] (av_u q2.2.2 12 10 (av_min 9999 ((q1.2.2 12 10) + (av_max 0 ((q1.2.2 12 11) - q2.1)))))).bind fun q3 => av_xp d 43 42 [.ref 12, .ref 19, .int 0, .int q3.1, .int 0] [] q3.2.2))) := (av_ent d 43 tX4_passHour 5 _ h tabX4_passHour).trans ((av_eq tX4_passHour 5 [42] 24 0 _ _ h tabX4_passHour wfX4_passHour rfl).trans rfl)
set_option maxHeartbeats 400000 in
set_option maxRecDepth 40000 in
theorem eX4_passHour_r12_r19_42 (d : Nat) (h : av_M) (a2 : Int32) (a3 : Int32) (a4 : Int32) : av_xp d 43 42 [.ref 12, .ref 19, .int a2, .int a3, .int a4] [] h = (if (h 12 6) ≤ a4 then some ((0 : Int32), (0 : Int64), (av_u (av_u h 12 8 ((h 12 8) ||| a2)) 12 12 ((h 12 12) + 1))) else ((av_x d 108 [.int a3, .int a4] h).bind fun q1 => (if q1.1 = 0 then av_xp d 43 42 [.ref 12, .ref 19, .int a2, .int a3, .int (a4 + 1)] [] q1.2.2 else ((av_x d 23 [.ref 19, .ref 12, .int a4] q1.2.2).bind fun q2 => (cond (av_inb a4 7) ((if q2.1 ≤ (q2.2.2 14 (Int32.toNatClampNeg a4)) then av_xp d 43 42 [.ref 12, .ref 19, .int a2, .int a3, .int (a4 + 1)] [] q2.2.2 else av_xp d 43 42 [.ref 12, .ref 19, .int (a2 ||| (1 <<< (a4 &&& 31))), .int a3, .int (a4 + 1)] [] q2.2.2)) none))))) := (av_eq tX4_passHour 5 [42] 26 42 _ _ h tabX4_passHour wfX4_passHour rfl).trans rfl
theorem tabX2_clear : av_tab 8 = (tX2_clear, 1) := rfl
theorem wfX2_clear : av_wf tX2_clear = true := by decide +kernel
set_option maxHeartbeats 400000 in
set_option maxRecDepth 40000 in
theorem eX2_clear_r3_in (d : Nat) (h : av_M) : av_x (d + 1) 8 [.ref 3] h = some ((0 : Int32), (0 : Int64), (av_u h 3 1 0)) := (av_ent d 8 tX2_clear 1 _ h tabX2_clear).trans ((av_eq tX2_clear 1 [] 5 0 _ _ h tabX2_clear wfX2_clear rfl).trans rfl)
theorem tabX6_isIn : av_tab 108 = (tX6_isIn, 2) := rfl
theorem wfX6_isIn : av_wf tX6_isIn = true := by decide +kernel
set_option maxHeartbeats 400000 in
set_option maxRecDepth 40000 in
theorem eX6_isIn_in (d : Nat) (h : av_M) (p0 : Int32) (p1 : Int32) : av_x (d + 1) 108 [.int p0, .int p1] h = (if ((p0 >>> (p1 &&& 31)) &&& 1) = 0 then some (((0 &&& 1) : Int32), (0 : Int64), h) else some (((1 &&& 1) : Int32), (0 : Int64), h)) := (av_ent d 108 tX6_isIn 2 _ h tabX6_isIn).trans ((av_eq tX6_isIn 2 [] 10 0 _ _ h tabX6_isIn wfX6_isIn rfl).trans rfl)
theorem tabX2_add : av_tab 9 = (tX2_add, 3) := rfl
theorem wfX2_add : av_wf tX2_add = true := by decide +kernel
set_option maxHeartbeats 400000 in
set_option maxRecDepth 40000 in
theorem eX2_add_r3_in (d : Nat) (h : av_M) (p1 : Int64) : av_x (d + 1) 9 [.ref 3, .long p1] h = (if 7 ≤ (h 3 1) then some ((0 : Int32), (0 : Int64), h) else (cond (av_inb (h 3 1) 7) (some ((0 : Int32), (0 : Int64), (av_u (av_u (av_u h 4 (2 * Int32.toNatClampNeg (h 3 1)) (av_hi p1)) 4 (2 * Int32.toNatClampNeg (h 3 1) + 1) (av_lo p1)) 3 1 ((h 3 1) + 1)))) none)) := (av_ent d 9 tX2_add 3 _ h tabX2_add).trans ((av_eq tX2_add 3 [] 20 0 _ _ h tabX2_add wfX2_add rfl).trans rfl)
theorem tabX6_tell : av_tab 110 = (tX6_tell, 3) := rfl
theorem wfX6_tell : av_wf tX6_tell = true := by decide +kernel
set_option maxHeartbeats 400000 in
set_option maxRecDepth 40000 in
theorem eX6_tell_r0_in (d : Nat) (h : av_M) (p1 : Int64) : av_x (d + 1) 110 [.ref 0, .long p1] h = ((av_x d 8 [.ref 3] h).bind fun q1 => ((av_x d 9 [.ref 3, .long p1] q1.2.2).bind fun q2 => some ((0 : Int32), (0 : Int64), q2.2.2))) := (av_ent d 110 tX6_tell 3 _ h tabX6_tell).trans ((av_eq tX6_tell 3 [] 9 0 _ _ h tabX6_tell wfX6_tell rfl).trans rfl)
set_option maxHeartbeats 400000 in
set_option maxRecDepth 40000 in
theorem eX4_taut_r5_in (d : Nat) (h : av_M) : av_x (d + 1) 33 [.ref 5] h = av_xp d 33 4 [.ref 5, .int 0, .int 0] [] h := (av_ent d 33 tX4_taut 3 _ h tabX4_taut).trans ((av_eq tX4_taut 3 [4] 5 0 _ _ h tabX4_taut wfX4_taut rfl).trans rfl)
set_option maxHeartbeats 400000 in
set_option maxRecDepth 40000 in
theorem eX4_taut_r5_4 (d : Nat) (h : av_M) (a1 : Int32) (a2 : Int32) : av_xp d 33 4 [.ref 5, .int a1, .int a2] [] h = (if (h 5 6) ≤ a2 then ((av_x d 28 [.ref 5] h).bind fun q1 => some (((a1 &&& q1.1) : Int32), (0 : Int64), q1.2.2)) else ((av_x d 32 [.ref 5, .int a2] h).bind fun q2 => (if q2.1 < 0 then av_xp d 33 4 [.ref 5, .int a1, .int (a2 + 1)] [] q2.2.2 else av_xp d 33 4 [.ref 5, .int (a1 ||| (1 <<< (a2 &&& 31))), .int (a2 + 1)] [] q2.2.2))) := (av_eq tX4_taut 3 [4] 17 4 _ _ h tabX4_taut wfX4_taut rfl).trans rfl
set_option maxHeartbeats 400000 in
set_option maxRecDepth 40000 in
theorem eX4_holding_r5_in (d : Nat) (h : av_M) : av_x (d + 1) 28 [.ref 5] h = some ((((h 5 7) &&& (((h 5 8) ||| (h 5 9)) ^^^ (-1))) : Int32), (0 : Int64), h) := (av_ent d 28 tX4_holding 1 _ h tabX4_holding).trans ((av_eq tX4_holding 1 [] 12 0 _ _ h tabX4_holding wfX4_holding rfl).trans rfl)
theorem tabX4_weight : av_tab 38 = (tX4_weight, 4) := rfl
theorem wfX4_weight : av_wf tX4_weight = true := by decide +kernel
set_option maxHeartbeats 400000 in
set_option maxRecDepth 40000 in
theorem eX4_weight_r5_in (d : Nat) (h : av_M) (p1 : Int32) : av_x (d + 1) 38 [.ref 5, .int p1] h = av_xp d 38 4 [.ref 5, .int p1, .int 0, .int 0] [] h := (av_ent d 38 tX4_weight 4 _ h tabX4_weight).trans ((av_eq tX4_weight 4 [4] 5 0 _ _ h tabX4_weight wfX4_weight rfl).trans rfl)
set_option maxHeartbeats 400000 in
set_option maxRecDepth 40000 in
theorem eX4_weight_r5_4 (d : Nat) (h : av_M) (a1 : Int32) (a2 : Int32) (a3 : Int32) : av_xp d 38 4 [.ref 5, .int a1, .int a2, .int a3] [] h = (if (h 5 6) ≤ a3 then some ((a2 : Int32), (0 : Int64), h) else ((av_x d 108 [.int a1, .int a3] h).bind fun q1 => (if q1.1 = 0 then av_xp d 38 4 [.ref 5, .int a1, .int a2, .int (a3 + 1)] [] q1.2.2 else (cond (av_inb a3 7) (av_xp d 38 4 [.ref 5, .int a1, .int (a2 + (q1.2.2 7 (Int32.toNatClampNeg a3))), .int (a3 + 1)] [] q1.2.2) none)))) := (av_eq tX4_weight 4 [4] 18 4 _ _ h tabX4_weight wfX4_weight rfl).trans rfl
theorem tabX4_heldBack : av_tab 41 = (tX4_heldBack, 1) := rfl
theorem wfX4_heldBack : av_wf tX4_heldBack = true := by decide +kernel
set_option maxHeartbeats 400000 in
set_option maxRecDepth 40000 in
theorem eX4_heldBack_r5_in (d : Nat) (h : av_M) : av_x (d + 1) 41 [.ref 5] h = ((av_x d 33 [.ref 5] h).bind fun q1 => ((av_x d 38 [.ref 5, .int q1.1] q1.2.2).bind fun q2 => some (((q2.1 / 5) : Int32), (0 : Int64), q2.2.2))) := (av_ent d 41 tX4_heldBack 1 _ h tabX4_heldBack).trans ((av_eq tX4_heldBack 1 [] 8 0 _ _ h tabX4_heldBack wfX4_heldBack rfl).trans rfl)
theorem tabX6_isSpan : av_tab 107 = (tX6_isSpan, 1) := rfl
theorem wfX6_isSpan : av_wf tX6_isSpan = true := by decide +kernel
set_option maxHeartbeats 400000 in
set_option maxRecDepth 40000 in
theorem eX6_isSpan_in (d : Nat) (h : av_M) (p0 : Int32) : av_x (d + 1) 107 [.int p0] h = (if p0 < 1 then some (((0 &&& 1) : Int32), (0 : Int64), h) else (if 60 < p0 then some (((0 &&& 1) : Int32), (0 : Int64), h) else some (((1 &&& 1) : Int32), (0 : Int64), h))) := (av_ent d 107 tX6_isSpan 1 _ h tabX6_isSpan).trans ((av_eq tX6_isSpan 1 [] 10 0 _ _ h tabX6_isSpan wfX6_isSpan rfl).trans rfl)
theorem tabX6_hoursHeld : av_tab 130 = (tX6_hoursHeld, 5) := rfl
theorem wfX6_hoursHeld : av_wf tX6_hoursHeld = true := by decide +kernel
set_option maxHeartbeats 400000 in
set_option maxRecDepth 40000 in
theorem eX6_hoursHeld_r0_in (d : Nat) (h : av_M) (p1 : Int32) (p2 : Int32) : av_x (d + 1) 130 [.ref 0, .int p1, .int p2] h = av_xp d 130 5 [.ref 0, .int p1, .int p2, .int 0, .int 0] [] h := (av_ent d 130 tX6_hoursHeld 5 _ h tabX6_hoursHeld).trans ((av_eq tX6_hoursHeld 5 [5] 5 0 _ _ h tabX6_hoursHeld wfX6_hoursHeld rfl).trans rfl)
set_option maxHeartbeats 400000 in
set_option maxRecDepth 40000 in
theorem eX6_hoursHeld_r0_5 (d : Nat) (h : av_M) (a1 : Int32) (a2 : Int32) (a3 : Int32) (a4 : Int32) : av_xp d 130 5 [.ref 0, .int a1, .int a2, .int a3, .int a4] [] h = (if a2 ≤ a4 then some ((a3 : Int32), (0 : Int64), h) else ((av_x d 29 [.ref 12, .int a1] h).bind fun q1 => (if q1.1 = 0 then some ((a3 : Int32), (0 : Int64), q1.2.2) else ((av_x d 43 [.ref 12, .ref 19] q1.2.2).bind fun q2 => ((av_x d 29 [.ref 12, .int a1] q2.2.2).bind fun q3 => (if q3.1 = 0 then av_xp d 130 5 [.ref 0, .int a1, .int a2, .int a3, .int (a4 + 1)] [] q3.2.2 else av_xp d 130 5 [.ref 0, .int a1, .int a2, .int (a3 + 1), .int (a4 + 1)] [] q3.2.2)))))) := (av_eq tX6_hoursHeld 5 [5] 22 5 _ _ h tabX6_hoursHeld wfX6_hoursHeld rfl).trans rfl
theorem tabX6_holdBySpeed : av_tab 131 = (tX6_holdBySpeed, 3) := rfl
theorem wfX6_holdBySpeed : av_wf tX6_holdBySpeed = true := by decide +kernel
set_option maxHeartbeats 400000 in
set_option maxRecDepth 40000 in
theorem eX6_holdBySpeed_r0_in (d : Nat) (h : av_M) (p1 : Int32) (p2 : Int32) : av_x (d + 1) 131 [.ref 0, .int p1, .int p2] h = ((av_x d 45 [.ref 12, .ref 5] h).bind fun q1 => ((av_x d 42 [.ref 12, .ref 19, .int p2] (av_u q1.2.2 12 11 p1)).bind fun q2 => ((av_x d 28 [.ref 12] q2.2.2).bind fun q3 => ((av_x d 275 [.int q3.1] q3.2.2).bind fun q4 => some ((q4.1 : Int32), (0 : Int64), q4.2.2))))) := (av_ent d 131 tX6_holdBySpeed 3 _ h tabX6_holdBySpeed).trans ((av_eq tX6_holdBySpeed 3 [] 21 0 _ _ h tabX6_holdBySpeed wfX6_holdBySpeed rfl).trans rfl)
theorem tabX6_tellSet : av_tab 113 = (tX6_tellSet, 3) := rfl
theorem wfX6_tellSet : av_wf tX6_tellSet = true := by decide +kernel
set_option maxHeartbeats 400000 in
set_option maxRecDepth 40000 in
theorem eX6_tellSet_r0_in (d : Nat) (h : av_M) (p1 : Int32) (p2 : Int32) : av_x (d + 1) 113 [.ref 0, .int p1, .int p2] h = (if p1 ≤ 7 then ((av_x d 110 [.ref 0, .long (Int32.toInt64 p2)] h).bind fun q1 => some ((p1 : Int32), (0 : Int64), q1.2.2)) else some (((-2) : Int32), (0 : Int64), h)) := (av_ent d 113 tX6_tellSet 3 _ h tabX6_tellSet).trans ((av_eq tX6_tellSet 3 [] 10 0 _ _ h tabX6_tellSet wfX6_tellSet rfl).trans rfl)
theorem tabX6_isWithin : av_tab 109 = (tX6_isWithin, 2) := rfl
theorem wfX6_isWithin : av_wf tX6_isWithin = true := by decide +kernel
set_option maxHeartbeats 400000 in
set_option maxRecDepth 40000 in
theorem eX6_isWithin_in (d : Nat) (h : av_M) (p0 : Int32) (p1 : Int32) : av_x (d + 1) 109 [.int p0, .int p1] h = (if (p0 &&& (p1 ^^^ (-1))) = 0 then some (((1 &&& 1) : Int32), (0 : Int64), h) else some (((0 &&& 1) : Int32), (0 : Int64), h)) := (av_ent d 109 tX6_isWithin 2 _ h tabX6_isWithin).trans ((av_eq tX6_isWithin 2 [] 10 0 _ _ h tabX6_isWithin wfX6_isWithin rfl).trans rfl)
theorem tabX6_holdsWithout : av_tab 132 = (tX6_holdsWithout, 4) := rfl
theorem wfX6_holdsWithout : av_wf tX6_holdsWithout = true := by decide +kernel
set_option maxHeartbeats 400000 in
set_option maxRecDepth 40000 in
theorem eX6_holdsWithout_r0_in (d : Nat) (h : av_M) (p1 : Int32) (p2 : Int32) (p3 : Int32) : av_x (d + 1) 132 [.ref 0, .int p1, .int p2, .int p3] h = ((av_x d 45 [.ref 12, .ref 5] h).bind fun q1 => ((av_x d 130 [.ref 0, .int p1, .int p3] (av_u q1.2.2 12 9 ((q1.2.2 12 9) ||| p2))).bind fun q2 => (if q2.1 = p3 then some (((1 &&& 1) : Int32), (0 : Int64), q2.2.2) else some (((0 &&& 1) : Int32), (0 : Int64), q2.2.2)))) := (av_ent d 132 tX6_holdsWithout 4 _ h tabX6_holdsWithout).trans ((av_eq tX6_holdsWithout 4 [] 22 0 _ _ h tabX6_holdsWithout wfX6_holdsWithout rfl).trans rfl)
set_option maxHeartbeats 400000 in
set_option maxRecDepth 40000 in
theorem eX4_holds_r5_in (d : Nat) (h : av_M) (p1 : Int32) : av_x (d + 1) 29 [.ref 5, .int p1] h = ((av_x d 28 [.ref 5] h).bind fun q1 => ((av_x d 108 [.int q1.1, .int p1] q1.2.2).bind fun q2 => some (((q2.1 &&& 1) : Int32), (0 : Int64), q2.2.2))) := (av_ent d 29 tX4_holds 2 _ h tabX4_holds).trans ((av_eq tX4_holds 2 [] 6 0 _ _ h tabX4_holds wfX4_holds rfl).trans rfl)
theorem tabX6_tellFraction : av_tab 112 = (tX6_tellFraction, 12) := rfl
theorem wfX6_tellFraction : av_wf tX6_tellFraction = true := by decide +kernel
set_option maxHeartbeats 400000 in
set_option maxRecDepth 40000 in
theorem eX6_tellFraction_r0_in (d : Nat) (h : av_M) (p1 : Int64) (p2 : Int64) : av_x (d + 1) 112 [.ref 0, .long p1, .long p2] h = av_xp d 112 9 [.ref 0, .long p1, .null, .long p2, .null, .long p2, .null, .long p1, .null, .int 0, .null, .null] [] h := (av_ent d 112 tX6_tellFraction 12 _ h tabX6_tellFraction).trans ((av_eq tX6_tellFraction 12 [9] 7 0 _ _ h tabX6_tellFraction wfX6_tellFraction rfl).trans rfl)
set_option maxHeartbeats 400000 in
set_option maxRecDepth 40000 in
theorem eX6_tellFraction_r0_9 (d : Nat) (h : av_M) (a1 : Int64) (a3 : Int64) (a5 : Int64) (a7 : Int64) (a9 : Int32) : av_xp d 112 9 [.ref 0, .long a1, .null, .long a3, .null, .long a5, .null, .long a7, .null, .int a9, .null, .null] [] h = (if 100 ≤ a9 then (if (lg_cmp a5 0) = 0 then ((av_x d 111 [.ref 0, .long (a1 / 1), .long (a3 / 1)] h).bind fun q2 => some ((0 : Int32), (0 : Int64), q2.2.2)) else (cond (av_nzl a5) ((cond (av_nzl a5) (((av_x d 111 [.ref 0, .long (a1 / a5), .long (a3 / a5)] h).bind fun q1 => some ((0 : Int32), (0 : Int64), q1.2.2))) none)) none)) else (if (lg_cmp a7 0) = 0 then (if (lg_cmp a5 0) = 0 then ((av_x d 111 [.ref 0, .long (a1 / 1), .long (a3 / 1)] h).bind fun q4 => some ((0 : Int32), (0 : Int64), q4.2.2)) else (cond (av_nzl a5) ((cond (av_nzl a5) (((av_x d 111 [.ref 0, .long (a1 / a5), .long (a3 / a5)] h).bind fun q3 => some ((0 : Int32), (0 : Int64), q3.2.2))) none)) none)) else (cond (av_nzl a7) (av_xp d 112 9 [.ref 0, .long a1, .null, .long a3, .null, .long a7, .null, .long (a5 - a5 / a7 * a7), .null, .int (a9 + 1), .long (a5 - a5 / a7 * a7), .null] [] h) none))) := (av_eq tX6_tellFraction 12 [9] 23 9 _ _ h tabX6_tellFraction wfX6_tellFraction rfl).trans rfl
set_option maxHeartbeats 400000 in
set_option maxRecDepth 40000 in
theorem eX6_tellFraction_r0_9_2 (d : Nat) (h : av_M) (a1 : Int64) (a3 : Int64) (a5 : Int64) (a7 : Int64) (a9 : Int32) (a10 : Int64) : av_xp d 112 9 [.ref 0, .long a1, .null, .long a3, .null, .long a5, .null, .long a7, .null, .int a9, .long a10, .null] [] h = (if 100 ≤ a9 then (if (lg_cmp a5 0) = 0 then ((av_x d 111 [.ref 0, .long (a1 / 1), .long (a3 / 1)] h).bind fun q2 => some ((0 : Int32), (0 : Int64), q2.2.2)) else (cond (av_nzl a5) ((cond (av_nzl a5) (((av_x d 111 [.ref 0, .long (a1 / a5), .long (a3 / a5)] h).bind fun q1 => some ((0 : Int32), (0 : Int64), q1.2.2))) none)) none)) else (if (lg_cmp a7 0) = 0 then (if (lg_cmp a5 0) = 0 then ((av_x d 111 [.ref 0, .long (a1 / 1), .long (a3 / 1)] h).bind fun q4 => some ((0 : Int32), (0 : Int64), q4.2.2)) else (cond (av_nzl a5) ((cond (av_nzl a5) (((av_x d 111 [.ref 0, .long (a1 / a5), .long (a3 / a5)] h).bind fun q3 => some ((0 : Int32), (0 : Int64), q3.2.2))) none)) none)) else (cond (av_nzl a7) (av_xp d 112 9 [.ref 0, .long a1, .null, .long a3, .null, .long a7, .null, .long (a5 - a5 / a7 * a7), .null, .int (a9 + 1), .long (a5 - a5 / a7 * a7), .null] [] h) none))) := (av_eq tX6_tellFraction 12 [9] 23 9 _ _ h tabX6_tellFraction wfX6_tellFraction rfl).trans rfl
theorem tabX6_tips : av_tab 133 = (tX6_tips, 3) := rfl
theorem wfX6_tips : av_wf tX6_tips = true := by decide +kernel
set_option maxHeartbeats 400000 in
set_option maxRecDepth 40000 in
theorem eX6_tips_r0_in (d : Nat) (h : av_M) (p1 : Int32) (p2 : Int32) : av_x (d + 1) 133 [.ref 0, .int p1, .int p2] h = ((av_x d 134 [.ref 0, .int p1] h).bind fun q1 => (if q1.1 = 0 then ((av_x d 134 [.ref 0, .int (p1 ||| (1 <<< (p2 &&& 31)))] q1.2.2).bind fun q2 => (if q2.1 = 0 then some (((0 &&& 1) : Int32), (0 : Int64), q2.2.2) else some (((1 &&& 1) : Int32), (0 : Int64), q2.2.2))) else some (((0 &&& 1) : Int32), (0 : Int64), q1.2.2))) := (av_ent d 133 tX6_tips 3 _ h tabX6_tips).trans ((av_eq tX6_tips 3 [] 16 0 _ _ h tabX6_tips wfX6_tips rfl).trans rfl)
theorem tabX6_orders : av_tab 135 = (tX6_orders, 4) := rfl
theorem wfX6_orders : av_wf tX6_orders = true := by decide +kernel
set_option maxHeartbeats 400000 in
set_option maxRecDepth 40000 in
theorem eX6_orders_in (d : Nat) (h : av_M) (p0 : Int32) : av_x (d + 1) 135 [.int p0] h = av_xp d 135 4 [.int p0, .long 1, .null, .int 2] [] h := (av_ent d 135 tX6_orders 4 _ h tabX6_orders).trans ((av_eq tX6_orders 4 [4] 5 0 _ _ h tabX6_orders wfX6_orders rfl).trans rfl)
set_option maxHeartbeats 400000 in
set_option maxRecDepth 40000 in
theorem eX6_orders_4 (d : Nat) (h : av_M) (a0 : Int32) (a1 : Int64) (a3 : Int32) : av_xp d 135 4 [.int a0, .long a1, .null, .int a3] [] h = (if a0 < a3 then some ((0 : Int32), (a1 : Int64), h) else av_xp d 135 4 [.int a0, .long (a1 * (Int32.toInt64 a3)), .null, .int (a3 + 1)] [] h) := (av_eq tX6_orders 4 [4] 11 4 _ _ h tabX6_orders wfX6_orders rfl).trans rfl
theorem tabX4_ofColour : av_tab 34 = (tX4_ofColour, 4) := rfl
theorem wfX4_ofColour : av_wf tX4_ofColour = true := by decide +kernel
set_option maxHeartbeats 400000 in
set_option maxRecDepth 40000 in
theorem eX4_ofColour_r5_in (d : Nat) (h : av_M) (p1 : Int32) : av_x (d + 1) 34 [.ref 5, .int p1] h = av_xp d 34 4 [.ref 5, .int p1, .int 0, .int 0] [] h := (av_ent d 34 tX4_ofColour 4 _ h tabX4_ofColour).trans ((av_eq tX4_ofColour 4 [4] 5 0 _ _ h tabX4_ofColour wfX4_ofColour rfl).trans rfl)
set_option maxHeartbeats 400000 in
set_option maxRecDepth 40000 in
theorem eX4_ofColour_r5_4 (d : Nat) (h : av_M) (a1 : Int32) (a2 : Int32) (a3 : Int32) : av_xp d 34 4 [.ref 5, .int a1, .int a2, .int a3] [] h = (if (h 5 6) ≤ a3 then some ((a2 : Int32), (0 : Int64), h) else (cond (av_inb a3 7) ((if (h 6 (Int32.toNatClampNeg a3)) = a1 then av_xp d 34 4 [.ref 5, .int a1, .int (a2 ||| (1 <<< (a3 &&& 31))), .int (a3 + 1)] [] h else av_xp d 34 4 [.ref 5, .int a1, .int a2, .int (a3 + 1)] [] h)) none)) := (av_eq tX4_ofColour 4 [4] 19 4 _ _ h tabX4_ofColour wfX4_ofColour rfl).trans rfl
theorem tabX6_mayBeEnds : av_tab 137 = (tX6_mayBeEnds, 1) := rfl
theorem wfX6_mayBeEnds : av_wf tX6_mayBeEnds = true := by decide +kernel
set_option maxHeartbeats 400000 in
set_option maxRecDepth 40000 in
theorem eX6_mayBeEnds_in (d : Nat) (h : av_M) (p0 : Int32) : av_x (d + 1) 137 [.int p0] h = (if p0 < 0 then some (((0 &&& 1) : Int32), (0 : Int64), h) else (if 7 < p0 then some (((0 &&& 1) : Int32), (0 : Int64), h) else some (((1 &&& 1) : Int32), (0 : Int64), h))) := (av_ent d 137 tX6_mayBeEnds 1 _ h tabX6_mayBeEnds).trans ((av_eq tX6_mayBeEnds 1 [] 9 0 _ _ h tabX6_mayBeEnds wfX6_mayBeEnds rfl).trans rfl)
theorem tabX6_coloursAre : av_tab 138 = (tX6_coloursAre, 6) := rfl
theorem wfX6_coloursAre : av_wf tX6_coloursAre = true := by decide +kernel
set_option maxHeartbeats 400000 in
set_option maxRecDepth 40000 in
theorem eX6_coloursAre_r0_in (d : Nat) (h : av_M) (p1 : Int32) (p2 : Int32) (p3 : Int32) (p4 : Int32) (p5 : Int32) : av_x (d + 1) 138 [.ref 0, .int p1, .int p2, .int p3, .int p4, .int p5] h = ((av_x d 34 [.ref 5, .int 0] h).bind fun q1 => ((av_x d 275 [.int (p1 &&& q1.1)] q1.2.2).bind fun q2 => (if q2.1 = p2 then ((av_x d 34 [.ref 5, .int 1] q2.2.2).bind fun q3 => ((av_x d 275 [.int (p1 &&& q3.1)] q3.2.2).bind fun q4 => (if q4.1 = p3 then ((av_x d 34 [.ref 5, .int 2] q4.2.2).bind fun q5 => ((av_x d 275 [.int (p1 &&& q5.1)] q5.2.2).bind fun q6 => (if q6.1 = p4 then ((av_x d 34 [.ref 5, .int 3] q6.2.2).bind fun q7 => ((av_x d 275 [.int (p1 &&& q7.1)] q7.2.2).bind fun q8 => (if q8.1 = p5 then some (((1 &&& 1) : Int32), (0 : Int64), q8.2.2) else some (((0 &&& 1) : Int32), (0 : Int64), q8.2.2)))) else some (((0 &&& 1) : Int32), (0 : Int64), q6.2.2)))) else some (((0 &&& 1) : Int32), (0 : Int64), q4.2.2)))) else some (((0 &&& 1) : Int32), (0 : Int64), q2.2.2)))) := (av_ent d 138 tX6_coloursAre 6 _ h tabX6_coloursAre).trans ((av_eq tX6_coloursAre 6 [] 40 0 _ _ h tabX6_coloursAre wfX6_coloursAre rfl).trans rfl)
theorem tabX4_lengths : av_tab 39 = (tX4_lengths, 4) := rfl
theorem wfX4_lengths : av_wf tX4_lengths = true := by decide +kernel
set_option maxHeartbeats 400000 in
set_option maxRecDepth 40000 in
theorem eX4_lengths_r5_in (d : Nat) (h : av_M) (p1 : Int32) : av_x (d + 1) 39 [.ref 5, .int p1] h = av_xp d 39 4 [.ref 5, .int p1, .int 0, .int 0] [] h := (av_ent d 39 tX4_lengths 4 _ h tabX4_lengths).trans ((av_eq tX4_lengths 4 [4] 5 0 _ _ h tabX4_lengths wfX4_lengths rfl).trans rfl)
set_option maxHeartbeats 400000 in
set_option maxRecDepth 40000 in
theorem eX4_lengths_r5_4 (d : Nat) (h : av_M) (a1 : Int32) (a2 : Int32) (a3 : Int32) : av_xp d 39 4 [.ref 5, .int a1, .int a2, .int a3] [] h = (if (h 5 6) ≤ a3 then some ((a2 : Int32), (0 : Int64), h) else ((av_x d 108 [.int a1, .int a3] h).bind fun q1 => (if q1.1 = 0 then av_xp d 39 4 [.ref 5, .int a1, .int a2, .int (a3 + 1)] [] q1.2.2 else (cond (av_inb a3 7) (av_xp d 39 4 [.ref 5, .int a1, .int (a2 + (q1.2.2 11 (Int32.toNatClampNeg a3))), .int (a3 + 1)] [] q1.2.2) none)))) := (av_eq tX4_lengths 4 [4] 18 4 _ _ h tabX4_lengths wfX4_lengths rfl).trans rfl
theorem tabX6_isBit : av_tab 105 = (tX6_isBit, 1) := rfl
theorem wfX6_isBit : av_wf tX6_isBit = true := by decide +kernel
set_option maxHeartbeats 400000 in
set_option maxRecDepth 40000 in
theorem eX6_isBit_in (d : Nat) (h : av_M) (p0 : Int32) : av_x (d + 1) 105 [.int p0] h = (if p0 = 0 then some (((1 &&& 1) : Int32), (0 : Int64), h) else (if p0 = 1 then some (((1 &&& 1) : Int32), (0 : Int64), h) else some (((0 &&& 1) : Int32), (0 : Int64), h))) := (av_ent d 105 tX6_isBit 1 _ h tabX6_isBit).trans ((av_eq tX6_isBit 1 [] 9 0 _ _ h tabX6_isBit wfX6_isBit rfl).trans rfl)
theorem tabX0_add : av_tab 0 = (tX0_add, 4) := rfl
theorem wfX0_add : av_wf tX0_add = true := by decide +kernel
set_option maxHeartbeats 400000 in
set_option maxRecDepth 40000 in
theorem eX0_add_r30_in (d : Nat) (h : av_M) (p1 : Int32) (p2 : Int32) (p3 : Int32) : av_x (d + 1) 0 [.ref 30, .int p1, .int p2, .int p3] h = (if (h 30 3) ≤ (h 30 4) then some (((-1) : Int32), (0 : Int64), h) else (if (h 30 4) < 12 then (cond (av_inb (h 30 4) 12) ((cond (av_inb (h 30 4) 12) ((cond (av_inb (h 30 4) 12) (some ((((h 30 4) + 1) : Int32), (0 : Int64), (av_u (av_u (av_u (av_u h 31 (Int32.toNatClampNeg (h 30 4)) p1) 32 (Int32.toNatClampNeg (h 30 4)) p2) 33 (Int32.toNatClampNeg (h 30 4)) p3) 30 4 ((h 30 4) + 1)))) none)) none)) none) else some (((-1) : Int32), (0 : Int64), h))) := (av_ent d 0 tX0_add 4 _ h tabX0_add).trans ((av_eq tX0_add 4 [] 37 0 _ _ h tabX0_add wfX0_add rfl).trans rfl)
theorem tabX0_drop : av_tab 1 = (tX0_drop, 2) := rfl
theorem wfX0_drop : av_wf tX0_drop = true := by decide +kernel
set_option maxHeartbeats 400000 in
set_option maxRecDepth 40000 in
theorem eX0_drop_r30_in (d : Nat) (h : av_M) : av_x (d + 1) 1 [.ref 30] h = some (((h 30 4) : Int32), (0 : Int64), (av_u h 30 4 0)) := (av_ent d 1 tX0_drop 2 _ h tabX0_drop).trans ((av_eq tX0_drop 2 [] 9 0 _ _ h tabX0_drop wfX0_drop rfl).trans rfl)
theorem tabX6_fitsSights : av_tab 139 = (tX6_fitsSights, 4) := rfl
theorem wfX6_fitsSights : av_wf tX6_fitsSights = true := by decide +kernel
set_option maxHeartbeats 400000 in
set_option maxRecDepth 40000 in
theorem eX6_fitsSights_r0_in (d : Nat) (h : av_M) (p1 : Int32) : av_x (d + 1) 139 [.ref 0, .int p1] h = av_xp d 139 2 [.ref 0, .int p1, .int 0, .null] [] h := (av_ent d 139 tX6_fitsSights 4 _ h tabX6_fitsSights).trans ((av_eq tX6_fitsSights 4 [2] 3 0 _ _ h tabX6_fitsSights wfX6_fitsSights rfl).trans rfl)
set_option maxHeartbeats 400000 in
set_option maxRecDepth 40000 in
theorem eX6_fitsSights_r0_2 (d : Nat) (h : av_M) (a1 : Int32) (a2 : Int32) : av_xp d 139 2 [.ref 0, .int a1, .int a2, .null] [] h = (if (h 30 4) ≤ a2 then some (((1 &&& 1) : Int32), (0 : Int64), h) else (cond (av_inb a2 12) (((av_x d 31 [.ref 5, .int (h 31 (Int32.toNatClampNeg a2))] h).bind fun q1 => (cond (av_inb a2 12) ((if (a1 - q1.1) < (q1.2.2 32 (Int32.toNatClampNeg a2)) then (cond (av_inb a2 12) ((if (q1.2.2 33 (Int32.toNatClampNeg a2)) = 1 then some (((0 &&& 1) : Int32), (0 : Int64), q1.2.2) else av_xp d 139 2 [.ref 0, .int a1, .int (a2 + 1), .int 0] [] q1.2.2)) none) else (cond (av_inb a2 12) ((if (q1.2.2 33 (Int32.toNatClampNeg a2)) = 1 then av_xp d 139 2 [.ref 0, .int a1, .int (a2 + 1), .int 1] [] q1.2.2 else some (((0 &&& 1) : Int32), (0 : Int64), q1.2.2))) none))) none))) none)) := (av_eq tX6_fitsSights 4 [2] 38 2 _ _ h tabX6_fitsSights wfX6_fitsSights rfl).trans rfl
set_option maxHeartbeats 400000 in
set_option maxRecDepth 40000 in
theorem eX6_fitsSights_r0_2_2 (d : Nat) (h : av_M) (a1 : Int32) (a2 : Int32) (a3 : Int32) : av_xp d 139 2 [.ref 0, .int a1, .int a2, .int a3] [] h = (if (h 30 4) ≤ a2 then some (((1 &&& 1) : Int32), (0 : Int64), h) else (cond (av_inb a2 12) (((av_x d 31 [.ref 5, .int (h 31 (Int32.toNatClampNeg a2))] h).bind fun q1 => (cond (av_inb a2 12) ((if (a1 - q1.1) < (q1.2.2 32 (Int32.toNatClampNeg a2)) then (cond (av_inb a2 12) ((if (q1.2.2 33 (Int32.toNatClampNeg a2)) = 1 then some (((0 &&& 1) : Int32), (0 : Int64), q1.2.2) else av_xp d 139 2 [.ref 0, .int a1, .int (a2 + 1), .int 0] [] q1.2.2)) none) else (cond (av_inb a2 12) ((if (q1.2.2 33 (Int32.toNatClampNeg a2)) = 1 then av_xp d 139 2 [.ref 0, .int a1, .int (a2 + 1), .int 1] [] q1.2.2 else some (((0 &&& 1) : Int32), (0 : Int64), q1.2.2))) none))) none))) none)) := (av_eq tX6_fitsSights 4 [2] 38 2 _ _ h tabX6_fitsSights wfX6_fitsSights rfl).trans rfl
theorem tabX6_countWaysFrom : av_tab 140 = (tX6_countWaysFrom, 2) := rfl
theorem wfX6_countWaysFrom : av_wf tX6_countWaysFrom = true := by decide +kernel
set_option maxHeartbeats 400000 in
set_option maxRecDepth 40000 in
theorem eX6_countWaysFrom_r0_in (d : Nat) (h : av_M) : av_x (d + 1) 140 [.ref 0] h = av_xp d 140 11 [.ref 0, .int 59] [] (av_u h 42 60 0) := (av_ent d 140 tX6_countWaysFrom 2 _ h tabX6_countWaysFrom).trans ((av_eq tX6_countWaysFrom 2 [11] 8 0 _ _ h tabX6_countWaysFrom wfX6_countWaysFrom rfl).trans rfl)
set_option maxHeartbeats 400000 in
set_option maxRecDepth 40000 in
theorem eX6_countWaysFrom_r0_11 (d : Nat) (h : av_M) (a1 : Int32) : av_xp d 140 11 [.ref 0, .int a1] [] h = (if a1 < 0 then some (((h 42 0) : Int32), (0 : Int64), h) else (cond (av_inb (a1 + 1) 61) (((av_x d 139 [.ref 0, .int a1] h).bind fun q1 => (if q1.1 = 0 then (cond (av_inb a1 61) (av_xp d 140 11 [.ref 0, .int (a1 + (-1))] [] (av_u q1.2.2 42 (Int32.toNatClampNeg a1) ((h 42 (Int32.toNatClampNeg (a1 + 1))) + 0))) none) else (cond (av_inb a1 61) (av_xp d 140 11 [.ref 0, .int (a1 + (-1))] [] (av_u q1.2.2 42 (Int32.toNatClampNeg a1) ((h 42 (Int32.toNatClampNeg (a1 + 1))) + 1))) none)))) none)) := (av_eq tX6_countWaysFrom 2 [11] 22 11 _ _ h tabX6_countWaysFrom wfX6_countWaysFrom rfl).trans rfl
theorem tabX4_reach : av_tab 31 = (tX4_reach, 2) := rfl
theorem wfX4_reach : av_wf tX4_reach = true := by decide +kernel
set_option maxHeartbeats 400000 in
set_option maxRecDepth 40000 in
theorem eX4_reach_r5_in (d : Nat) (h : av_M) (p1 : Int32) : av_x (d + 1) 31 [.ref 5, .int p1] h = (cond (av_inb p1 7) ((cond (av_inb p1 7) (some ((((h 10 (Int32.toNatClampNeg p1)) + (h 11 (Int32.toNatClampNeg p1))) : Int32), (0 : Int64), h)) none)) none) := (av_ent d 31 tX4_reach 2 _ h tabX4_reach).trans ((av_eq tX4_reach 2 [] 11 0 _ _ h tabX4_reach wfX4_reach rfl).trans rfl)
theorem tabX6_mayBeHeard : av_tab 141 = (tX6_mayBeHeard, 2) := rfl
theorem wfX6_mayBeHeard : av_wf tX6_mayBeHeard = true := by decide +kernel
set_option maxHeartbeats 400000 in
set_option maxRecDepth 40000 in
theorem eX6_mayBeHeard_in (d : Nat) (h : av_M) (p0 : Int32) (p1 : Int32) : av_x (d + 1) 141 [.int p0, .int p1] h = (if p0 = 0 then (if p1 < 0 then some (((0 &&& 1) : Int32), (0 : Int64), h) else (if 4 ≤ p1 then some (((0 &&& 1) : Int32), (0 : Int64), h) else some (((1 &&& 1) : Int32), (0 : Int64), h))) else (if p0 = 1 then (if p1 < 1 then some (((0 &&& 1) : Int32), (0 : Int64), h) else (if 9 < p1 then some (((0 &&& 1) : Int32), (0 : Int64), h) else some (((1 &&& 1) : Int32), (0 : Int64), h))) else (if p0 = 2 then ((av_x d 105 [.int p1] h).bind fun q3 => some (((q3.1 &&& 1) : Int32), (0 : Int64), q3.2.2)) else (if p0 = 3 then ((av_x d 106 [.int p1] h).bind fun q2 => some (((q2.1 &&& 1) : Int32), (0 : Int64), q2.2.2)) else (if p0 = 4 then ((av_x d 105 [.int p1] h).bind fun q1 => some (((q1.1 &&& 1) : Int32), (0 : Int64), q1.2.2)) else some (((0 &&& 1) : Int32), (0 : Int64), h)))))) := (av_ent d 141 tX6_mayBeHeard 2 _ h tabX6_mayBeHeard).trans ((av_eq tX6_mayBeHeard 2 [] 12 0 _ _ h tabX6_mayBeHeard wfX6_mayBeHeard rfl).trans rfl)
set_option maxHeartbeats 400000 in
set_option maxRecDepth 40000 in
theorem eX0_add_r34_in (d : Nat) (h : av_M) (p1 : Int32) (p2 : Int32) (p3 : Int32) : av_x (d + 1) 0 [.ref 34, .int p1, .int p2, .int p3] h = (if (h 34 3) ≤ (h 34 4) then some (((-1) : Int32), (0 : Int64), h) else (if (h 34 4) < 12 then (cond (av_inb (h 34 4) 12) ((cond (av_inb (h 34 4) 12) ((cond (av_inb (h 34 4) 12) (some ((((h 34 4) + 1) : Int32), (0 : Int64), (av_u (av_u (av_u (av_u h 35 (Int32.toNatClampNeg (h 34 4)) p1) 36 (Int32.toNatClampNeg (h 34 4)) p2) 37 (Int32.toNatClampNeg (h 34 4)) p3) 34 4 ((h 34 4) + 1)))) none)) none)) none) else some (((-1) : Int32), (0 : Int64), h))) := (av_ent d 0 tX0_add 4 _ h tabX0_add).trans ((av_eq tX0_add 4 [] 37 0 _ _ h tabX0_add wfX0_add rfl).trans rfl)
set_option maxHeartbeats 400000 in
set_option maxRecDepth 40000 in
theorem eX0_drop_r34_in (d : Nat) (h : av_M) : av_x (d + 1) 1 [.ref 34] h = some (((h 34 4) : Int32), (0 : Int64), (av_u h 34 4 0)) := (av_ent d 1 tX0_drop 2 _ h tabX0_drop).trans ((av_eq tX0_drop 2 [] 9 0 _ _ h tabX0_drop wfX0_drop rfl).trans rfl)
theorem tabX6_fitRumours : av_tab 142 = (tX6_fitRumours, 3) := rfl
theorem wfX6_fitRumours : av_wf tX6_fitRumours = true := by decide +kernel
set_option maxHeartbeats 400000 in
set_option maxRecDepth 40000 in
theorem eX6_fitRumours_r0_in (d : Nat) (h : av_M) : av_x (d + 1) 142 [.ref 0] h = av_xp d 142 10 [.ref 0, .int (h 5 7), .int 0] [] h := (av_ent d 142 tX6_fitRumours 3 _ h tabX6_fitRumours).trans ((av_eq tX6_fitRumours 3 [10] 7 0 _ _ h tabX6_fitRumours wfX6_fitRumours rfl).trans rfl)
set_option maxHeartbeats 400000 in
set_option maxRecDepth 40000 in
theorem eX6_fitRumours_r0_10 (d : Nat) (h : av_M) (a1 : Int32) (a2 : Int32) : av_xp d 142 10 [.ref 0, .int a1, .int a2] [] h = (if (h 34 4) ≤ a2 then some ((a1 : Int32), (0 : Int64), h) else (cond (av_inb a2 12) ((cond (av_inb a2 12) (((av_x d 143 [.ref 0, .int (h 35 (Int32.toNatClampNeg a2)), .int (h 36 (Int32.toNatClampNeg a2))] h).bind fun q1 => av_xp d 142 10 [.ref 0, .int (a1 &&& q1.1), .int (a2 + 1)] [] q1.2.2)) none)) none)) := (av_eq tX6_fitRumours 3 [10] 23 10 _ _ h tabX6_fitRumours wfX6_fitRumours rfl).trans rfl
theorem tabX6_ofWhom : av_tab 143 = (tX6_ofWhom, 3) := rfl
theorem wfX6_ofWhom : av_wf tX6_ofWhom = true := by decide +kernel
set_option maxHeartbeats 400000 in
set_option maxRecDepth 40000 in
theorem eX6_ofWhom_r0_in (d : Nat) (h : av_M) (p1 : Int32) (p2 : Int32) : av_x (d + 1) 143 [.ref 0, .int p1, .int p2] h = (if p1 = 0 then ((av_x d 34 [.ref 5, .int p2] h).bind fun q7 => some ((q7.1 : Int32), (0 : Int64), q7.2.2)) else (if p1 = 1 then ((av_x d 35 [.ref 5, .int p2] h).bind fun q6 => some ((q6.1 : Int32), (0 : Int64), q6.2.2)) else (if p1 = 2 then (if p2 = 1 then ((av_x d 28 [.ref 5] h).bind fun q5 => some ((q5.1 : Int32), (0 : Int64), q5.2.2)) else ((av_x d 28 [.ref 5] h).bind fun q4 => some ((((h 5 7) &&& (q4.1 ^^^ (-1))) : Int32), (0 : Int64), q4.2.2))) else (if p1 = 3 then ((av_x d 36 [.ref 5, .int p2] h).bind fun q3 => some ((q3.1 : Int32), (0 : Int64), q3.2.2)) else (if p2 = 1 then ((av_x d 33 [.ref 5] h).bind fun q2 => some ((q2.1 : Int32), (0 : Int64), q2.2.2)) else ((av_x d 33 [.ref 5] h).bind fun q1 => some ((((h 5 7) &&& (q1.1 ^^^ (-1))) : Int32), (0 : Int64), q1.2.2))))))) := (av_ent d 143 tX6_ofWhom 3 _ h tabX6_ofWhom).trans ((av_eq tX6_ofWhom 3 [] 16 0 _ _ h tabX6_ofWhom wfX6_ofWhom rfl).trans rfl)
theorem tabX6_times : av_tab 136 = (tX6_times, 6) := rfl
theorem wfX6_times : av_wf tX6_times = true := by decide +kernel
set_option maxHeartbeats 400000 in
set_option maxRecDepth 40000 in
theorem eX6_times_in (d : Nat) (h : av_M) (p0 : Int64) (p1 : Int32) : av_x (d + 1) 136 [.long p0, .int p1] h = av_xp d 136 5 [.long p0, .null, .int p1, .long 1, .null, .int 0] [] h := (av_ent d 136 tX6_times 6 _ h tabX6_times).trans ((av_eq tX6_times 6 [5] 5 0 _ _ h tabX6_times wfX6_times rfl).trans rfl)
set_option maxHeartbeats 400000 in
set_option maxRecDepth 40000 in
theorem eX6_times_5 (d : Nat) (h : av_M) (a0 : Int64) (a2 : Int32) (a3 : Int64) (a5 : Int32) : av_xp d 136 5 [.long a0, .null, .int a2, .long a3, .null, .int a5] [] h = (if a2 ≤ a5 then some ((0 : Int32), (a3 : Int64), h) else av_xp d 136 5 [.long a0, .null, .int a2, .long (a3 * a0), .null, .int (a5 + 1)] [] h) := (av_eq tX6_times 6 [5] 10 5 _ _ h tabX6_times wfX6_times rfl).trans rfl
set_option maxHeartbeats 400000 in
set_option maxRecDepth 40000 in
theorem eX0_add_r38_in (d : Nat) (h : av_M) (p1 : Int32) (p2 : Int32) (p3 : Int32) : av_x (d + 1) 0 [.ref 38, .int p1, .int p2, .int p3] h = (if (h 38 3) ≤ (h 38 4) then some (((-1) : Int32), (0 : Int64), h) else (if (h 38 4) < 12 then (cond (av_inb (h 38 4) 12) ((cond (av_inb (h 38 4) 12) ((cond (av_inb (h 38 4) 12) (some ((((h 38 4) + 1) : Int32), (0 : Int64), (av_u (av_u (av_u (av_u h 39 (Int32.toNatClampNeg (h 38 4)) p1) 40 (Int32.toNatClampNeg (h 38 4)) p2) 41 (Int32.toNatClampNeg (h 38 4)) p3) 38 4 ((h 38 4) + 1)))) none)) none)) none) else some (((-1) : Int32), (0 : Int64), h))) := (av_ent d 0 tX0_add 4 _ h tabX0_add).trans ((av_eq tX0_add 4 [] 37 0 _ _ h tabX0_add wfX0_add rfl).trans rfl)
set_option maxHeartbeats 400000 in
set_option maxRecDepth 40000 in
theorem eX0_drop_r38_in (d : Nat) (h : av_M) : av_x (d + 1) 1 [.ref 38] h = some (((h 38 4) : Int32), (0 : Int64), (av_u h 38 4 0)) := (av_ent d 1 tX0_drop 2 _ h tabX0_drop).trans ((av_eq tX0_drop 2 [] 9 0 _ _ h tabX0_drop wfX0_drop rfl).trans rfl)
theorem tabX6_fitsPartings : av_tab 147 = (tX6_fitsPartings, 4) := rfl
theorem wfX6_fitsPartings : av_wf tX6_fitsPartings = true := by decide +kernel
set_option maxHeartbeats 400000 in
set_option maxRecDepth 40000 in
theorem eX6_fitsPartings_r0_in (d : Nat) (h : av_M) (p1 : Int32) : av_x (d + 1) 147 [.ref 0, .int p1] h = av_xp d 147 2 [.ref 0, .int p1, .int 0, .null] [] h := (av_ent d 147 tX6_fitsPartings 4 _ h tabX6_fitsPartings).trans ((av_eq tX6_fitsPartings 4 [2] 3 0 _ _ h tabX6_fitsPartings wfX6_fitsPartings rfl).trans rfl)
set_option maxHeartbeats 400000 in
set_option maxRecDepth 40000 in
theorem eX6_fitsPartings_r0_2 (d : Nat) (h : av_M) (a1 : Int32) (a2 : Int32) : av_xp d 147 2 [.ref 0, .int a1, .int a2, .null] [] h = (if (h 38 4) ≤ a2 then some (((1 &&& 1) : Int32), (0 : Int64), h) else (cond (av_inb a2 12) ((cond (av_inb a2 12) (((av_x d 146 [.int a1, .int (h 39 (Int32.toNatClampNeg a2)), .int (h 40 (Int32.toNatClampNeg a2))] h).bind fun q1 => (cond (av_inb a2 12) ((if (q1.2.2 41 (Int32.toNatClampNeg a2)) = 1 then (if q1.1 = 1 then av_xp d 147 2 [.ref 0, .int a1, .int (a2 + 1), .int q1.1] [] q1.2.2 else some (((0 &&& 1) : Int32), (0 : Int64), q1.2.2)) else (if q1.1 = 0 then av_xp d 147 2 [.ref 0, .int a1, .int (a2 + 1), .int q1.1] [] q1.2.2 else some (((0 &&& 1) : Int32), (0 : Int64), q1.2.2)))) none))) none)) none)) := (av_eq tX6_fitsPartings 4 [2] 32 2 _ _ h tabX6_fitsPartings wfX6_fitsPartings rfl).trans rfl
set_option maxHeartbeats 400000 in
set_option maxRecDepth 40000 in
theorem eX6_fitsPartings_r0_2_2 (d : Nat) (h : av_M) (a1 : Int32) (a2 : Int32) (a3 : Int32) : av_xp d 147 2 [.ref 0, .int a1, .int a2, .int a3] [] h = (if (h 38 4) ≤ a2 then some (((1 &&& 1) : Int32), (0 : Int64), h) else (cond (av_inb a2 12) ((cond (av_inb a2 12) (((av_x d 146 [.int a1, .int (h 39 (Int32.toNatClampNeg a2)), .int (h 40 (Int32.toNatClampNeg a2))] h).bind fun q1 => (cond (av_inb a2 12) ((if (q1.2.2 41 (Int32.toNatClampNeg a2)) = 1 then (if q1.1 = 1 then av_xp d 147 2 [.ref 0, .int a1, .int (a2 + 1), .int q1.1] [] q1.2.2 else some (((0 &&& 1) : Int32), (0 : Int64), q1.2.2)) else (if q1.1 = 0 then av_xp d 147 2 [.ref 0, .int a1, .int (a2 + 1), .int q1.1] [] q1.2.2 else some (((0 &&& 1) : Int32), (0 : Int64), q1.2.2)))) none))) none)) none)) := (av_eq tX6_fitsPartings 4 [2] 32 2 _ _ h tabX6_fitsPartings wfX6_fitsPartings rfl).trans rfl
theorem tabX6_factorOf : av_tab 144 = (tX6_factorOf, 1) := rfl
theorem wfX6_factorOf : av_wf tX6_factorOf = true := by decide +kernel
set_option maxHeartbeats 400000 in
set_option maxRecDepth 40000 in
theorem eX6_factorOf_in (d : Nat) (h : av_M) (p0 : Int32) : av_x (d + 1) 144 [.int p0] h = some (((1 + (p0 / 10)) : Int32), (0 : Int64), h) := (av_ent d 144 tX6_factorOf 1 _ h tabX6_factorOf).trans ((av_eq tX6_factorOf 1 [] 7 0 _ _ h tabX6_factorOf wfX6_factorOf rfl).trans rfl)
theorem tabX6_slackOf : av_tab 145 = (tX6_slackOf, 1) := rfl
theorem wfX6_slackOf : av_wf tX6_slackOf = true := by decide +kernel
set_option maxHeartbeats 400000 in
set_option maxRecDepth 40000 in
theorem eX6_slackOf_in (d : Nat) (h : av_M) (p0 : Int32) : av_x (d + 1) 145 [.int p0] h = some (((p0 - p0 / 10 * 10) : Int32), (0 : Int64), h) := (av_ent d 145 tX6_slackOf 1 _ h tabX6_slackOf).trans ((av_eq tX6_slackOf 1 [] 5 0 _ _ h tabX6_slackOf wfX6_slackOf rfl).trans rfl)
theorem tabX6_fittingLaws : av_tab 148 = (tX6_fittingLaws, 4) := rfl
theorem wfX6_fittingLaws : av_wf tX6_fittingLaws = true := by decide +kernel
set_option maxHeartbeats 400000 in
set_option maxRecDepth 40000 in
theorem eX6_fittingLaws_r0_in (d : Nat) (h : av_M) : av_x (d + 1) 148 [.ref 0] h = av_xp d 148 4 [.ref 0, .long 0, .null, .int 0] [] h := (av_ent d 148 tX6_fittingLaws 4 _ h tabX6_fittingLaws).trans ((av_eq tX6_fittingLaws 4 [4] 5 0 _ _ h tabX6_fittingLaws wfX6_fittingLaws rfl).trans rfl)
set_option maxHeartbeats 400000 in
set_option maxRecDepth 40000 in
theorem eX6_fittingLaws_r0_4 (d : Nat) (h : av_M) (a1 : Int64) (a3 : Int32) : av_xp d 148 4 [.ref 0, .long a1, .null, .int a3] [] h = (if 40 ≤ a3 then some ((0 : Int32), (a1 : Int64), h) else ((av_x d 147 [.ref 0, .int a3] h).bind fun q1 => (if q1.1 = 0 then av_xp d 148 4 [.ref 0, .long a1, .null, .int (a3 + 1)] [] q1.2.2 else av_xp d 148 4 [.ref 0, .long (a1 ||| (1 <<< (Int32.toInt64 a3 &&& 63))), .null, .int (a3 + 1)] [] q1.2.2))) := (av_eq tX6_fittingLaws 4 [4] 16 4 _ _ h tabX6_fittingLaws wfX6_fittingLaws rfl).trans rfl
theorem tabJ13_bitCount_95d88 : av_tab 276 = (tJ13_bitCount_95d88, 2) := rfl
theorem wfJ13_bitCount_95d88 : av_wf tJ13_bitCount_95d88 = true := by decide +kernel
set_option maxHeartbeats 400000 in
set_option maxRecDepth 40000 in
theorem eJ13_bitCount_95d88_in (d : Nat) (h : av_M) (p0 : Int64) : av_x (d + 1) 276 [.long p0] h = some ((((Int64.toInt32 ((((((((p0 - (((Int64.toUInt64 p0 >>> ((Int32.toInt64 1).toUInt64 &&& Int64.toUInt64 63)).toInt64) &&& 6148914691236517205)) &&& 3689348814741910323) + (((Int64.toUInt64 (p0 - (((Int64.toUInt64 p0 >>> ((Int32.toInt64 1).toUInt64 &&& Int64.toUInt64 63)).toInt64) &&& 6148914691236517205)) >>> ((Int32.toInt64 2).toUInt64 &&& Int64.toUInt64 63)).toInt64) &&& 3689348814741910323)) + ((Int64.toUInt64 (((p0 - (((Int64.toUInt64 p0 >>> ((Int32.toInt64 1).toUInt64 &&& Int64.toUInt64 63)).toInt64) &&& 6148914691236517205)) &&& 3689348814741910323) + (((Int64.toUInt64 (p0 - (((Int64.toUInt64 p0 >>> ((Int32.toInt64 1).toUInt64 &&& Int64.toUInt64 63)).toInt64) &&& 6148914691236517205)) >>> ((Int32.toInt64 2).toUInt64 &&& Int64.toUInt64 63)).toInt64) &&& 3689348814741910323)) >>> ((Int32.toInt64 4).toUInt64 &&& Int64.toUInt64 63)).toInt64)) &&& 1085102592571150095) + ((Int64.toUInt64 (((((p0 - (((Int64.toUInt64 p0 >>> ((Int32.toInt64 1).toUInt64 &&& Int64.toUInt64 63)).toInt64) &&& 6148914691236517205)) &&& 3689348814741910323) + (((Int64.toUInt64 (p0 - (((Int64.toUInt64 p0 >>> ((Int32.toInt64 1).toUInt64 &&& Int64.toUInt64 63)).toInt64) &&& 6148914691236517205)) >>> ((Int32.toInt64 2).toUInt64 &&& Int64.toUInt64 63)).toInt64) &&& 3689348814741910323)) + ((Int64.toUInt64 (((p0 - (((Int64.toUInt64 p0 >>> ((Int32.toInt64 1).toUInt64 &&& Int64.toUInt64 63)).toInt64) &&& 6148914691236517205)) &&& 3689348814741910323) + (((Int64.toUInt64 (p0 - (((Int64.toUInt64 p0 >>> ((Int32.toInt64 1).toUInt64 &&& Int64.toUInt64 63)).toInt64) &&& 6148914691236517205)) >>> ((Int32.toInt64 2).toUInt64 &&& Int64.toUInt64 63)).toInt64) &&& 3689348814741910323)) >>> ((Int32.toInt64 4).toUInt64 &&& Int64.toUInt64 63)).toInt64)) &&& 1085102592571150095) >>> ((Int32.toInt64 8).toUInt64 &&& Int64.toUInt64 63)).toInt64)) + ((Int64.toUInt64 ((((((p0 - (((Int64.toUInt64 p0 >>> ((Int32.toInt64 1).toUInt64 &&& Int64.toUInt64 63)).toInt64) &&& 6148914691236517205)) &&& 3689348814741910323) + (((Int64.toUInt64 (p0 - (((Int64.toUInt64 p0 >>> ((Int32.toInt64 1).toUInt64 &&& Int64.toUInt64 63)).toInt64) &&& 6148914691236517205)) >>> ((Int32.toInt64 2).toUInt64 &&& Int64.toUInt64 63)).toInt64) &&& 3689348814741910323)) + ((Int64.toUInt64 (((p0 - (((Int64.toUInt64 p0 >>> ((Int32.toInt64 1).toUInt64 &&& Int64.toUInt64 63)).toInt64) &&& 6148914691236517205)) &&& 3689348814741910323) + (((Int64.toUInt64 (p0 - (((Int64.toUInt64 p0 >>> ((Int32.toInt64 1).toUInt64 &&& Int64.toUInt64 63)).toInt64) &&& 6148914691236517205)) >>> ((Int32.toInt64 2).toUInt64 &&& Int64.toUInt64 63)).toInt64) &&& 3689348814741910323)) >>> ((Int32.toInt64 4).toUInt64 &&& Int64.toUInt64 63)).toInt64)) &&& 1085102592571150095) + ((Int64.toUInt64 (((((p0 - (((Int64.toUInt64 p0 >>> ((Int32.toInt64 1).toUInt64 &&& Int64.toUInt64 63)).toInt64) &&& 6148914691236517205)) &&& 3689348814741910323) + (((Int64.toUInt64 (p0 - (((Int64.toUInt64 p0 >>> ((Int32.toInt64 1).toUInt64 &&& Int64.toUInt64 63)).toInt64) &&& 6148914691236517205)) >>> ((Int32.toInt64 2).toUInt64 &&& Int64.toUInt64 63)).toInt64) &&& 3689348814741910323)) + ((Int64.toUInt64 (((p0 - (((Int64.toUInt64 p0 >>> ((Int32.toInt64 1).toUInt64 &&& Int64.toUInt64 63)).toInt64) &&& 6148914691236517205)) &&& 3689348814741910323) + (((Int64.toUInt64 (p0 - (((Int64.toUInt64 p0 >>> ((Int32.toInt64 1).toUInt64 &&& Int64.toUInt64 63)).toInt64) &&& 6148914691236517205)) >>> ((Int32.toInt64 2).toUInt64 &&& Int64.toUInt64 63)).toInt64) &&& 3689348814741910323)) >>> ((Int32.toInt64 4).toUInt64 &&& Int64.toUInt64 63)).toInt64)) &&& 1085102592571150095) >>> ((Int32.toInt64 8).toUInt64 &&& Int64.toUInt64 63)).toInt64)) >>> ((Int32.toInt64 16).toUInt64 &&& Int64.toUInt64 63)).toInt64)) + ((Int64.toUInt64 (((((((p0 - (((Int64.toUInt64 p0 >>> ((Int32.toInt64 1).toUInt64 &&& Int64.toUInt64 63)).toInt64) &&& 6148914691236517205)) &&& 3689348814741910323) + (((Int64.toUInt64 (p0 - (((Int64.toUInt64 p0 >>> ((Int32.toInt64 1).toUInt64 &&& Int64.toUInt64 63)).toInt64) &&& 6148914691236517205)) >>> ((Int32.toInt64 2).toUInt64 &&& Int64.toUInt64 63)).toInt64) &&& 3689348814741910323)) + ((Int64.toUInt64 (((p0 - (((Int64.toUInt64 p0 >>> ((Int32.toInt64 1).toUInt64 &&& Int64.toUInt64 63)).toInt64) &&& 6148914691236517205)) &&& 3689348814741910323) + (((Int64.toUInt64 (p0 - (((Int64.toUInt64 p0 >>> ((Int32.toInt64 1).toUInt64 &&& Int64.toUInt64 63)).toInt64) &&& 6148914691236517205)) >>> ((Int32.toInt64 2).toUInt64 &&& Int64.toUInt64 63)).toInt64) &&& 3689348814741910323)) >>> ((Int32.toInt64 4).toUInt64 &&& Int64.toUInt64 63)).toInt64)) &&& 1085102592571150095) + ((Int64.toUInt64 (((((p0 - (((Int64.toUInt64 p0 >>> ((Int32.toInt64 1).toUInt64 &&& Int64.toUInt64 63)).toInt64) &&& 6148914691236517205)) &&& 3689348814741910323) + (((Int64.toUInt64 (p0 - (((Int64.toUInt64 p0 >>> ((Int32.toInt64 1).toUInt64 &&& Int64.toUInt64 63)).toInt64) &&& 6148914691236517205)) >>> ((Int32.toInt64 2).toUInt64 &&& Int64.toUInt64 63)).toInt64) &&& 3689348814741910323)) + ((Int64.toUInt64 (((p0 - (((Int64.toUInt64 p0 >>> ((Int32.toInt64 1).toUInt64 &&& Int64.toUInt64 63)).toInt64) &&& 6148914691236517205)) &&& 3689348814741910323) + (((Int64.toUInt64 (p0 - (((Int64.toUInt64 p0 >>> ((Int32.toInt64 1).toUInt64 &&& Int64.toUInt64 63)).toInt64) &&& 6148914691236517205)) >>> ((Int32.toInt64 2).toUInt64 &&& Int64.toUInt64 63)).toInt64) &&& 3689348814741910323)) >>> ((Int32.toInt64 4).toUInt64 &&& Int64.toUInt64 63)).toInt64)) &&& 1085102592571150095) >>> ((Int32.toInt64 8).toUInt64 &&& Int64.toUInt64 63)).toInt64)) + ((Int64.toUInt64 ((((((p0 - (((Int64.toUInt64 p0 >>> ((Int32.toInt64 1).toUInt64 &&& Int64.toUInt64 63)).toInt64) &&& 6148914691236517205)) &&& 3689348814741910323) + (((Int64.toUInt64 (p0 - (((Int64.toUInt64 p0 >>> ((Int32.toInt64 1).toUInt64 &&& Int64.toUInt64 63)).toInt64) &&& 6148914691236517205)) >>> ((Int32.toInt64 2).toUInt64 &&& Int64.toUInt64 63)).toInt64) &&& 3689348814741910323)) + ((Int64.toUInt64 (((p0 - (((Int64.toUInt64 p0 >>> ((Int32.toInt64 1).toUInt64 &&& Int64.toUInt64 63)).toInt64) &&& 6148914691236517205)) &&& 3689348814741910323) + (((Int64.toUInt64 (p0 - (((Int64.toUInt64 p0 >>> ((Int32.toInt64 1).toUInt64 &&& Int64.toUInt64 63)).toInt64) &&& 6148914691236517205)) >>> ((Int32.toInt64 2).toUInt64 &&& Int64.toUInt64 63)).toInt64) &&& 3689348814741910323)) >>> ((Int32.toInt64 4).toUInt64 &&& Int64.toUInt64 63)).toInt64)) &&& 1085102592571150095) + ((Int64.toUInt64 (((((p0 - (((Int64.toUInt64 p0 >>> ((Int32.toInt64 1).toUInt64 &&& Int64.toUInt64 63)).toInt64) &&& 6148914691236517205)) &&& 3689348814741910323) + (((Int64.toUInt64 (p0 - (((Int64.toUInt64 p0 >>> ((Int32.toInt64 1).toUInt64 &&& Int64.toUInt64 63)).toInt64) &&& 6148914691236517205)) >>> ((Int32.toInt64 2).toUInt64 &&& Int64.toUInt64 63)).toInt64) &&& 3689348814741910323)) + ((Int64.toUInt64 (((p0 - (((Int64.toUInt64 p0 >>> ((Int32.toInt64 1).toUInt64 &&& Int64.toUInt64 63)).toInt64) &&& 6148914691236517205)) &&& 3689348814741910323) + (((Int64.toUInt64 (p0 - (((Int64.toUInt64 p0 >>> ((Int32.toInt64 1).toUInt64 &&& Int64.toUInt64 63)).toInt64) &&& 6148914691236517205)) >>> ((Int32.toInt64 2).toUInt64 &&& Int64.toUInt64 63)).toInt64) &&& 3689348814741910323)) >>> ((Int32.toInt64 4).toUInt64 &&& Int64.toUInt64 63)).toInt64)) &&& 1085102592571150095) >>> ((Int32.toInt64 8).toUInt64 &&& Int64.toUInt64 63)).toInt64)) >>> ((Int32.toInt64 16).toUInt64 &&& Int64.toUInt64 63)).toInt64)) >>> ((Int32.toInt64 32).toUInt64 &&& Int64.toUInt64 63)).toInt64))) &&& 127) : Int32), (0 : Int64), h) := (av_ent d 276 tJ13_bitCount_95d88 2 _ h tabJ13_bitCount_95d88).trans ((av_eq tJ13_bitCount_95d88 2 [] 50 0 _ _ h tabJ13_bitCount_95d88 wfJ13_bitCount_95d88 rfl).trans rfl)
theorem tabX6_breakingLaws : av_tab 149 = (tX6_breakingLaws, 5) := rfl
theorem wfX6_breakingLaws : av_wf tX6_breakingLaws = true := by decide +kernel
set_option maxHeartbeats 400000 in
set_option maxRecDepth 40000 in
theorem eX6_breakingLaws_in (d : Nat) (h : av_M) (p0 : Int32) (p1 : Int32) : av_x (d + 1) 149 [.int p0, .int p1] h = av_xp d 149 5 [.int p0, .int p1, .long 0, .null, .int 0] [] h := (av_ent d 149 tX6_breakingLaws 5 _ h tabX6_breakingLaws).trans ((av_eq tX6_breakingLaws 5 [5] 5 0 _ _ h tabX6_breakingLaws wfX6_breakingLaws rfl).trans rfl)
set_option maxHeartbeats 400000 in
set_option maxRecDepth 40000 in
theorem eX6_breakingLaws_5 (d : Nat) (h : av_M) (a0 : Int32) (a1 : Int32) (a2 : Int64) (a4 : Int32) : av_xp d 149 5 [.int a0, .int a1, .long a2, .null, .int a4] [] h = (if 40 ≤ a4 then some ((0 : Int32), (a2 : Int64), h) else ((av_x d 146 [.int a4, .int a0, .int a1] h).bind fun q1 => (if q1.1 = 0 then av_xp d 149 5 [.int a0, .int a1, .long a2, .null, .int (a4 + 1)] [] q1.2.2 else av_xp d 149 5 [.int a0, .int a1, .long (a2 ||| (1 <<< (Int32.toInt64 a4 &&& 63))), .null, .int (a4 + 1)] [] q1.2.2))) := (av_eq tX6_breakingLaws 5 [5] 17 5 _ _ h tabX6_breakingLaws wfX6_breakingLaws rfl).trans rfl
theorem tabX6_learnNimbers : av_tab 150 = (tX6_learnNimbers, 2) := rfl
theorem wfX6_learnNimbers : av_wf tX6_learnNimbers = true := by decide +kernel
set_option maxHeartbeats 400000 in
set_option maxRecDepth 40000 in
theorem eX6_learnNimbers_r0_in (d : Nat) (h : av_M) (p1 : Int32) : av_x (d + 1) 150 [.ref 0, .int p1] h = av_xp d 150 0 [.ref 0, .int p1] [] h := av_ent d 150 tX6_learnNimbers 2 _ h tabX6_learnNimbers
set_option maxHeartbeats 400000 in
set_option maxRecDepth 40000 in
theorem eX6_learnNimbers_r0_0 (d : Nat) (h : av_M) (a1 : Int32) : av_xp d 150 0 [.ref 0, .int a1] [] h = (if a1 < (h 0 12) then some ((0 : Int32), (0 : Int64), h) else (if 61 ≤ (h 0 12) then some ((0 : Int32), (0 : Int64), h) else ((av_x d 151 [.ref 0, .int (h 0 12)] h).bind fun q1 => (cond (av_inb (h 0 12) 61) (av_xp d 150 0 [.ref 0, .int a1] [] (av_u (av_u q1.2.2 43 (Int32.toNatClampNeg (h 0 12)) q1.1) 0 12 ((q1.2.2 0 12) + 1))) none)))) := (av_eq tX6_learnNimbers 2 [0] 27 0 _ _ h tabX6_learnNimbers wfX6_learnNimbers rfl).trans rfl
theorem tabX4_passHours : av_tab 42 = (tX4_passHours, 4) := rfl
theorem wfX4_passHours : av_wf tX4_passHours = true := by decide +kernel
set_option maxHeartbeats 400000 in
set_option maxRecDepth 40000 in
theorem eX4_passHours_r12_r23_in (d : Nat) (h : av_M) (p2 : Int32) : av_x (d + 1) 42 [.ref 12, .ref 23, .int p2] h = av_xp d 42 2 [.ref 12, .ref 23, .int p2, .int 0] [] h := (av_ent d 42 tX4_passHours 4 _ h tabX4_passHours).trans ((av_eq tX4_passHours 4 [2] 3 0 _ _ h tabX4_passHours wfX4_passHours rfl).trans rfl)
set_option maxHeartbeats 400000 in
set_option maxRecDepth 40000 in
theorem eX4_passHours_r12_r23_2 (d : Nat) (h : av_M) (a2 : Int32) (a3 : Int32) : av_xp d 42 2 [.ref 12, .ref 23, .int a2, .int a3] [] h = (if a2 ≤ a3 then some ((0 : Int32), (0 : Int64), h) else ((av_x d 43 [.ref 12, .ref 23] h).bind fun q1 => av_xp d 42 2 [.ref 12, .ref 23, .int a2, .int (a3 + 1)] [] q1.2.2)) := (av_eq tX4_passHours 4 [2] 9 2 _ _ h tabX4_passHours wfX4_passHours rfl).trans rfl
theorem tabX6_isBestAgainst : av_tab 152 = (tX6_isBestAgainst, 5) := rfl
theorem wfX6_isBestAgainst : av_wf tX6_isBestAgainst = true := by decide +kernel
set_option maxHeartbeats 400000 in
set_option maxRecDepth 40000 in
theorem eX6_isBestAgainst_in (d : Nat) (h : av_M) (p0 : Int32) (p1 : Int32) (p2 : Int32) : av_x (d + 1) 152 [.int p0, .int p1, .int p2] h = ((av_x d 153 [.int p0, .int p1, .int p2] h).bind fun q1 => av_xp d 152 10 [.int p0, .int p1, .int p2, .int q1.1, .int 0] [] q1.2.2) := (av_ent d 152 tX6_isBestAgainst 5 _ h tabX6_isBestAgainst).trans ((av_eq tX6_isBestAgainst 5 [10] 8 0 _ _ h tabX6_isBestAgainst wfX6_isBestAgainst rfl).trans rfl)
set_option maxHeartbeats 400000 in
set_option maxRecDepth 40000 in
theorem eX6_isBestAgainst_10 (d : Nat) (h : av_M) (a0 : Int32) (a1 : Int32) (a2 : Int32) (a3 : Int32) (a4 : Int32) : av_xp d 152 10 [.int a0, .int a1, .int a2, .int a3, .int a4] [] h = (if 9 < a4 then some (((1 &&& 1) : Int32), (0 : Int64), h) else ((av_x d 153 [.int a4, .int a1, .int a2] h).bind fun q1 => (if q1.1 ≤ a3 then av_xp d 152 10 [.int a0, .int a1, .int a2, .int a3, .int (a4 + 1)] [] q1.2.2 else some (((0 &&& 1) : Int32), (0 : Int64), q1.2.2)))) := (av_eq tX6_isBestAgainst 5 [10] 12 10 _ _ h tabX6_isBestAgainst wfX6_isBestAgainst rfl).trans rfl
theorem tabX4_reelsTogether : av_tab 40 = (tX4_reelsTogether, 3) := rfl
theorem wfX4_reelsTogether : av_wf tX4_reelsTogether = true := by decide +kernel
set_option maxHeartbeats 400000 in
set_option maxRecDepth 40000 in
theorem eX4_reelsTogether_r12_in (d : Nat) (h : av_M) : av_x (d + 1) 40 [.ref 12] h = av_xp d 40 4 [.ref 12, .int 0, .int 0] [] h := (av_ent d 40 tX4_reelsTogether 3 _ h tabX4_reelsTogether).trans ((av_eq tX4_reelsTogether 3 [4] 5 0 _ _ h tabX4_reelsTogether wfX4_reelsTogether rfl).trans rfl)
set_option maxHeartbeats 400000 in
set_option maxRecDepth 40000 in
theorem eX4_reelsTogether_r12_4 (d : Nat) (h : av_M) (a1 : Int32) (a2 : Int32) : av_xp d 40 4 [.ref 12, .int a1, .int a2] [] h = (if (h 12 6) ≤ a2 then some ((a1 : Int32), (0 : Int64), h) else (cond (av_inb a2 7) (av_xp d 40 4 [.ref 12, .int (a1 + (h 15 (Int32.toNatClampNeg a2))), .int (a2 + 1)] [] h) none)) := (av_eq tX4_reelsTogether 3 [4] 14 4 _ _ h tabX4_reelsTogether wfX4_reelsTogether rfl).trans rfl
theorem tabX6_drawOne : av_tab 155 = (tX6_drawOne, 4) := rfl
theorem wfX6_drawOne : av_wf tX6_drawOne = true := by decide +kernel
set_option maxHeartbeats 400000 in
set_option maxRecDepth 40000 in
theorem eX6_drawOne_r0_in (d : Nat) (h : av_M) : av_x (d + 1) 155 [.ref 0] h = ((av_x d 154 [.ref 0, .int 4] h).bind fun q1 => (if 2 ≤ q1.1 then (if (q1.2.2 12 6) ≤ 0 then some ((0 : Int32), (0 : Int64), q1.2.2) else ((av_x d 154 [.ref 0, .int (q1.2.2 12 6)] q1.2.2).bind fun q2 => ((av_x d 154 [.ref 0, .int 10] q2.2.2).bind fun q3 => (if q1.1 = 2 then (cond (av_inb q2.1 7) (some ((0 : Int32), (0 : Int64), (av_u q3.2.2 16 (Int32.toNatClampNeg q2.1) q3.1))) none) else (cond (av_inb q2.1 7) (some ((0 : Int32), (0 : Int64), (av_u q3.2.2 17 (Int32.toNatClampNeg q2.1) q3.1))) none))))) else ((av_x d 43 [.ref 12, .ref 19] q1.2.2).bind fun q4 => some ((0 : Int32), (0 : Int64), q4.2.2)))) := (av_ent d 155 tX6_drawOne 4 _ h tabX6_drawOne).trans ((av_eq tX6_drawOne 4 [] 33 0 _ _ h tabX6_drawOne wfX6_drawOne rfl).trans rfl)
theorem tabX1_keepUnder : av_tab 5 = (tX1_keepUnder, 3) := rfl
theorem wfX1_keepUnder : av_wf tX1_keepUnder = true := by decide +kernel
set_option maxHeartbeats 400000 in
set_option maxRecDepth 40000 in
theorem eX1_keepUnder_r27_r5_in (d : Nat) (h : av_M) (p1 : Int32) : av_x (d + 1) 5 [.ref 27, .int p1, .ref 5] h = (if p1 < 0 then some (((0 &&& 1) : Int32), (0 : Int64), h) else (if p1 < 3 then ((av_x d 46 [.ref 5, .ref 29, .int (p1 * 33)] h).bind fun q1 => some (((1 &&& 1) : Int32), (0 : Int64), (av_u q1.2.2 27 4 ((q1.2.2 27 4) ||| (1 <<< (p1 &&& 31)))))) else some (((0 &&& 1) : Int32), (0 : Int64), h))) := (av_ent d 5 tX1_keepUnder 3 _ h tabX1_keepUnder).trans ((av_eq tX1_keepUnder 3 [] 23 0 _ _ h tabX1_keepUnder wfX1_keepUnder rfl).trans rfl)
theorem tabX1_bringKept : av_tab 6 = (tX1_bringKept, 3) := rfl
theorem wfX1_bringKept : av_wf tX1_bringKept = true := by decide +kernel
set_option maxHeartbeats 400000 in
set_option maxRecDepth 40000 in
theorem eX1_bringKept_r27_r5_in (d : Nat) (h : av_M) (p1 : Int32) : av_x (d + 1) 6 [.ref 27, .int p1, .ref 5] h = (if p1 < 0 then some (((0 &&& 1) : Int32), (0 : Int64), h) else (if 3 ≤ p1 then some (((0 &&& 1) : Int32), (0 : Int64), h) else ((av_x d 108 [.int (h 27 4), .int p1] h).bind fun q1 => (if q1.1 = 0 then some (((0 &&& 1) : Int32), (0 : Int64), q1.2.2) else ((av_x d 47 [.ref 5, .ref 29, .int (p1 * 33)] q1.2.2).bind fun q2 => some (((1 &&& 1) : Int32), (0 : Int64), (av_u q2.2.2 27 3 0))))))) := (av_ent d 6 tX1_bringKept 3 _ h tabX1_bringKept).trans ((av_eq tX1_bringKept 3 [] 23 0 _ _ h tabX1_bringKept wfX1_bringKept rfl).trans rfl)
set_option maxHeartbeats 400000 in
set_option maxRecDepth 40000 in
theorem eX4_reelsTogether_r5_in (d : Nat) (h : av_M) : av_x (d + 1) 40 [.ref 5] h = av_xp d 40 4 [.ref 5, .int 0, .int 0] [] h := (av_ent d 40 tX4_reelsTogether 3 _ h tabX4_reelsTogether).trans ((av_eq tX4_reelsTogether 3 [4] 5 0 _ _ h tabX4_reelsTogether wfX4_reelsTogether rfl).trans rfl)
set_option maxHeartbeats 400000 in
set_option maxRecDepth 40000 in
theorem eX4_reelsTogether_r5_4 (d : Nat) (h : av_M) (a1 : Int32) (a2 : Int32) : av_xp d 40 4 [.ref 5, .int a1, .int a2] [] h = (if (h 5 6) ≤ a2 then some ((a1 : Int32), (0 : Int64), h) else (cond (av_inb a2 7) (av_xp d 40 4 [.ref 5, .int (a1 + (h 8 (Int32.toNatClampNeg a2))), .int (a2 + 1)] [] h) none)) := (av_eq tX4_reelsTogether 3 [4] 14 4 _ _ h tabX4_reelsTogether wfX4_reelsTogether rfl).trans rfl
theorem tabX3_pull : av_tab 23 = (tX3_pull, 6) := rfl
theorem wfX3_pull : av_wf tX3_pull = true := by decide +kernel
set_option maxHeartbeats 400000 in
set_option maxRecDepth 40000 in
theorem eX3_pull_r19_r5_in (d : Nat) (h : av_M) (p2 : Int32) : av_x (d + 1) 23 [.ref 19, .ref 5, .int p2] h = av_xp d 23 5 [.ref 19, .ref 5, .int p2, .int 0, .int 0, .null] [] h := (av_ent d 23 tX3_pull 6 _ h tabX3_pull).trans ((av_eq tX3_pull 6 [5, 27, 40, 80, 112, 120, 143, 147] 5 0 _ _ h tabX3_pull wfX3_pull rfl).trans rfl)
set_option maxHeartbeats 400000 in
set_option maxRecDepth 40000 in
theorem eX3_pull_r19_r5_5 (d : Nat) (h : av_M) (a2 : Int32) (a3 : Int32) (a4 : Int32) : av_xp d 23 5 [.ref 19, .ref 5, .int a2, .int a3, .int a4, .null] [] h = (if (h 19 3) ≤ a4 then ((av_x d 104 [.int (h 22 0), .int (-99), .int 99] h).bind fun q1 => some ((q1.1 : Int32), (0 : Int64), q1.2.2)) else (cond (av_inb a4 40) (av_xp d 23 27 [.ref 19, .ref 5, .int a2, .int a3, .int a4, .int ((h 20 (Int32.toNatClampNeg a4)) - 1000)] [] h) none)) := (av_eq tX3_pull 6 [5, 27, 40, 80, 112, 120, 143, 147] 13 5 _ _ h tabX3_pull wfX3_pull rfl).trans rfl
set_option maxHeartbeats 400000 in
set_option maxRecDepth 40000 in
theorem eX3_pull_r19_r5_27 (d : Nat) (h : av_M) (a2 : Int32) (a3 : Int32) (a4 : Int32) (a5 : Int32) : av_xp d 23 27 [.ref 19, .ref 5, .int a2, .int a3, .int a4, .int a5] [] h = (if a5 < 0 then av_xp d 23 40 [.ref 19, .ref 5, .int a2, .int a3, .int a4, .int a5] [] h else ((av_x d 21 [.int a5] h).bind fun q1 => (if q1.1 = 0 then av_xp d 23 80 [.ref 19, .ref 5, .int a2, .int a3, .int a4, .int a5] [] q1.2.2 else av_xp d 23 40 [.ref 19, .ref 5, .int a2, .int a3, .int a4, .int a5] [] q1.2.2))) := (av_eq tX3_pull 6 [5, 27, 40, 80, 112, 120, 143, 147] 6 27 _ _ h tabX3_pull wfX3_pull rfl).trans rfl
set_option maxHeartbeats 400000 in
set_option maxRecDepth 40000 in
theorem eX3_pull_r19_r5_40 (d : Nat) (h : av_M) (a2 : Int32) (a3 : Int32) (a4 : Int32) (a5 : Int32) : av_xp d 23 40 [.ref 19, .ref 5, .int a2, .int a3, .int a4, .int a5] [] h = (if 40 ≤ a3 then av_xp d 23 147 [.ref 19, .ref 5, .int a2, .int a3, .int a4, .int a5] [] h else (if 0 ≤ a5 then ((av_x d 24 [.int a5, .ref 5, .int a2] h).bind fun q1 => (cond (av_inb a3 40) (av_xp d 23 147 [.ref 19, .ref 5, .int a2, .int (a3 + 1), .int a4, .int a5] [] (av_u q1.2.2 22 (Int32.toNatClampNeg a3) q1.1)) none)) else (cond (av_inb a4 40) ((cond (av_inb a3 40) (av_xp d 23 147 [.ref 19, .ref 5, .int a2, .int (a3 + 1), .int a4, .int a5] [] (av_u h 22 (Int32.toNatClampNeg a3) (h 20 (Int32.toNatClampNeg a4)))) none)) none))) := (av_eq tX3_pull 6 [5, 27, 40, 80, 112, 120, 143, 147] 17 40 _ _ h tabX3_pull wfX3_pull rfl).trans rfl
set_option maxHeartbeats 400000 in
set_option maxRecDepth 40000 in
theorem eX3_pull_r19_r5_80 (d : Nat) (h : av_M) (a2 : Int32) (a3 : Int32) (a4 : Int32) (a5 : Int32) : av_xp d 23 80 [.ref 19, .ref 5, .int a2, .int a3, .int a4, .int a5] [] h = (if a5 = 256 then (if a3 ≤ 0 then av_xp d 23 147 [.ref 19, .ref 5, .int a2, .int a3, .int a4, .int a5] [] h else (cond (av_inb (a3 - 1) 40) ((cond (av_inb (a3 - 1) 40) (av_xp d 23 147 [.ref 19, .ref 5, .int a2, .int a3, .int a4, .int a5] [] (av_u h 22 (Int32.toNatClampNeg (a3 - 1)) (-(h 22 (Int32.toNatClampNeg (a3 - 1)))))) none)) none)) else av_xp d 23 112 [.ref 19, .ref 5, .int a2, .int a3, .int a4, .int a5] [] h) := (av_eq tX3_pull 6 [5, 27, 40, 80, 112, 120, 143, 147] 20 80 _ _ h tabX3_pull wfX3_pull rfl).trans rfl
set_option maxHeartbeats 400000 in
set_option maxRecDepth 40000 in
theorem eX3_pull_r19_r5_147 (d : Nat) (h : av_M) (a2 : Int32) (a3 : Int32) (a4 : Int32) (a5 : Int32) : av_xp d 23 147 [.ref 19, .ref 5, .int a2, .int a3, .int a4, .int a5] [] h = av_xp d 23 5 [.ref 19, .ref 5, .int a2, .int a3, .int (a4 + 1), .int a5] [] h := (av_eq tX3_pull 6 [5, 27, 40, 80, 112, 120, 143, 147] 3 147 _ _ h tabX3_pull wfX3_pull rfl).trans rfl
set_option maxHeartbeats 400000 in
set_option maxRecDepth 40000 in
theorem eX3_pull_r19_r5_112 (d : Nat) (h : av_M) (a2 : Int32) (a3 : Int32) (a4 : Int32) (a5 : Int32) : av_xp d 23 112 [.ref 19, .ref 5, .int a2, .int a3, .int a4, .int a5] [] h = (if a3 ≤ 1 then av_xp d 23 147 [.ref 19, .ref 5, .int a2, .int a3, .int a4, .int a5] [] h else av_xp d 23 120 [.ref 19, .ref 5, .int a2, .int (a3 + (-1)), .int a4, .int a5] [] h) := (av_eq tX3_pull 6 [5, 27, 40, 80, 112, 120, 143, 147] 5 112 _ _ h tabX3_pull wfX3_pull rfl).trans rfl
set_option maxHeartbeats 400000 in
set_option maxRecDepth 40000 in
theorem eX3_pull_r19_r5_5_2 (d : Nat) (h : av_M) (a2 : Int32) (a3 : Int32) (a4 : Int32) (a5 : Int32) : av_xp d 23 5 [.ref 19, .ref 5, .int a2, .int a3, .int a4, .int a5] [] h = (if (h 19 3) ≤ a4 then ((av_x d 104 [.int (h 22 0), .int (-99), .int 99] h).bind fun q1 => some ((q1.1 : Int32), (0 : Int64), q1.2.2)) else (cond (av_inb a4 40) (av_xp d 23 27 [.ref 19, .ref 5, .int a2, .int a3, .int a4, .int ((h 20 (Int32.toNatClampNeg a4)) - 1000)] [] h) none)) := (av_eq tX3_pull 6 [5, 27, 40, 80, 112, 120, 143, 147] 13 5 _ _ h tabX3_pull wfX3_pull rfl).trans rfl
set_option maxHeartbeats 400000 in
set_option maxRecDepth 40000 in
theorem eX3_pull_r19_r5_120 (d : Nat) (h : av_M) (a2 : Int32) (a3 : Int32) (a4 : Int32) (a5 : Int32) : av_xp d 23 120 [.ref 19, .ref 5, .int a2, .int a3, .int a4, .int a5] [] h = (cond (av_inb (a3 - 1) 40) ((cond (av_inb a3 40) (av_xp d 23 143 [.ref 19, .ref 5, .int a2, .int a3, .int a4, .int a5] [.int (h 22 (Int32.toNatClampNeg a3)), .int (h 22 (Int32.toNatClampNeg (a3 - 1))), .int a5, .int (a3 - 1), .ref 22] h) none)) none) := (av_eq tX3_pull 6 [5, 27, 40, 80, 112, 120, 143, 147] 17 120 _ _ h tabX3_pull wfX3_pull rfl).trans rfl
set_option maxHeartbeats 400000 in
set_option maxRecDepth 40000 in
theorem eX3_pull_r19_r5_143 (d : Nat) (h : av_M) (a2 : Int32) (a3 : Int32) (a4 : Int32) (a5 : Int32) (s0 : Int32) (s1 : Int32) (s2 : Int32) (s3 : Int32) : av_xp d 23 143 [.ref 19, .ref 5, .int a2, .int a3, .int a4, .int a5] [.int s0, .int s1, .int s2, .int s3, .ref 22] h = ((av_x d 25 [.int s2, .int s1, .int s0] h).bind fun q1 => (cond (av_inb s3 40) (av_xp d 23 147 [.ref 19, .ref 5, .int a2, .int a3, .int a4, .int a5] [] (av_u q1.2.2 22 (Int32.toNatClampNeg s3) q1.1)) none)) := (av_eq tX3_pull 6 [5, 27, 40, 80, 112, 120, 143, 147] 3 143 _ _ h tabX3_pull wfX3_pull rfl).trans rfl
theorem tabX4_lack : av_tab 32 = (tX4_lack, 2) := rfl
theorem wfX4_lack : av_wf tX4_lack = true := by decide +kernel
set_option maxHeartbeats 400000 in
set_option maxRecDepth 40000 in
theorem eX4_lack_r5_in (d : Nat) (h : av_M) (p1 : Int32) : av_x (d + 1) 32 [.ref 5, .int p1] h = (cond (av_inb p1 7) ((cond (av_inb p1 7) (some (((((h 5 10) - (h 10 (Int32.toNatClampNeg p1))) - (h 11 (Int32.toNatClampNeg p1))) : Int32), (0 : Int64), h)) none)) none) := (av_ent d 32 tX4_lack 2 _ h tabX4_lack).trans ((av_eq tX4_lack 2 [] 14 0 _ _ h tabX4_lack wfX4_lack rfl).trans rfl)
theorem tabX4_fate : av_tab 30 = (tX4_fate, 2) := rfl
theorem wfX4_fate : av_wf tX4_fate = true := by decide +kernel
set_option maxHeartbeats 400000 in
set_option maxRecDepth 40000 in
theorem eX4_fate_r5_in (d : Nat) (h : av_M) (p1 : Int32) : av_x (d + 1) 30 [.ref 5, .int p1] h = ((av_x d 108 [.int (h 5 8), .int p1] h).bind fun q1 => (if q1.1 = 0 then ((av_x d 108 [.int (q1.2.2 5 9), .int p1] q1.2.2).bind fun q2 => (if q2.1 = 0 then some ((0 : Int32), (0 : Int64), q2.2.2) else some ((1 : Int32), (0 : Int64), q2.2.2))) else some ((2 : Int32), (0 : Int64), q1.2.2))) := (av_ent d 30 tX4_fate 2 _ h tabX4_fate).trans ((av_eq tX4_fate 2 [] 14 0 _ _ h tabX4_fate wfX4_fate rfl).trans rfl)
theorem tabX6_fitsLine : av_tab 116 = (tX6_fitsLine, 3) := rfl
theorem wfX6_fitsLine : av_wf tX6_fitsLine = true := by decide +kernel
set_option maxHeartbeats 400000 in
set_option maxRecDepth 40000 in
theorem eX6_fitsLine_r0_in (d : Nat) (h : av_M) (p1 : Int32) : av_x (d + 1) 116 [.ref 0, .int p1] h = (if (p1 - p1 / 7 * 7) = 0 then (if 7 ≤ ((h 5 6) + (p1 / 7)) then some (((0 &&& 1) : Int32), (0 : Int64), h) else ((av_x d 50 [.ref 1, .int p1] h).bind fun q4 => ((av_x d 118 [.int q4.1] q4.2.2).bind fun q5 => (if q5.1 < 0 then some (((0 &&& 1) : Int32), (0 : Int64), q5.2.2) else some (((1 &&& 1) : Int32), (0 : Int64), q5.2.2))))) else (if (p1 - p1 / 7 * 7) = 1 then ((av_x d 51 [.ref 1, .int p1] h).bind fun q3 => (if q3.1 < 1 then some (((0 &&& 1) : Int32), (0 : Int64), q3.2.2) else some (((1 &&& 1) : Int32), (0 : Int64), q3.2.2))) else (if (p1 - p1 / 7 * 7) = 6 then ((av_x d 50 [.ref 1, .int p1] h).bind fun q2 => (if q2.1 = 59 then some (((1 &&& 1) : Int32), (0 : Int64), q2.2.2) else some (((0 &&& 1) : Int32), (0 : Int64), q2.2.2))) else ((av_x d 51 [.ref 1, .int p1] h).bind fun q1 => (if q1.1 < 0 then some (((0 &&& 1) : Int32), (0 : Int64), q1.2.2) else some (((1 &&& 1) : Int32), (0 : Int64), q1.2.2)))))) := (av_ent d 116 tX6_fitsLine 3 _ h tabX6_fitsLine).trans ((av_eq tX6_fitsLine 3 [] 25 0 _ _ h tabX6_fitsLine wfX6_fitsLine rfl).trans rfl)
theorem tabX1_loseAll : av_tab 7 = (tX1_loseAll, 1) := rfl
theorem wfX1_loseAll : av_wf tX1_loseAll = true := by decide +kernel
set_option maxHeartbeats 400000 in
set_option maxRecDepth 40000 in
theorem eX1_loseAll_r27_in (d : Nat) (h : av_M) : av_x (d + 1) 7 [.ref 27] h = some ((0 : Int32), (0 : Int64), (av_u (av_u h 27 3 0) 27 4 0)) := (av_ent d 7 tX1_loseAll 1 _ h tabX1_loseAll).trans ((av_eq tX1_loseAll 1 [] 8 0 _ _ h tabX1_loseAll wfX1_loseAll rfl).trans rfl)
theorem tabX5_digit : av_tab 51 = (tX5_digit, 3) := rfl
theorem wfX5_digit : av_wf tX5_digit = true := by decide +kernel
set_option maxHeartbeats 400000 in
set_option maxRecDepth 40000 in
theorem eX5_digit_r1_in (d : Nat) (h : av_M) (p1 : Int32) : av_x (d + 1) 51 [.ref 1, .int p1] h = ((av_x d 50 [.ref 1, .int p1] h).bind fun q1 => (if q1.1 < 48 then some (((-1) : Int32), (0 : Int64), q1.2.2) else (if 57 < q1.1 then some (((-1) : Int32), (0 : Int64), q1.2.2) else some (((q1.1 - 48) : Int32), (0 : Int64), q1.2.2)))) := (av_ent d 51 tX5_digit 3 _ h tabX5_digit).trans ((av_eq tX5_digit 3 [] 16 0 _ _ h tabX5_digit wfX5_digit rfl).trans rfl)
theorem tabX6_colourOf : av_tab 118 = (tX6_colourOf, 1) := rfl
theorem wfX6_colourOf : av_wf tX6_colourOf = true := by decide +kernel
set_option maxHeartbeats 400000 in
set_option maxRecDepth 40000 in
theorem eX6_colourOf_in (d : Nat) (h : av_M) (p0 : Int32) : av_x (d + 1) 118 [.int p0] h = (if p0 = 98 then some ((2 : Int32), (0 : Int64), h) else (if p0 = 103 then some ((1 : Int32), (0 : Int64), h) else (if p0 = 112 then some ((0 : Int32), (0 : Int64), h) else (if p0 = 121 then some ((3 : Int32), (0 : Int64), h) else some (((-1) : Int32), (0 : Int64), h))))) := (av_ent d 118 tX6_colourOf 1 _ h tabX6_colourOf).trans ((av_eq tX6_colourOf 1 [] 5 0 _ _ h tabX6_colourOf wfX6_colourOf rfl).trans rfl)
theorem tabX4_come : av_tab 27 = (tX4_come, 6) := rfl
theorem wfX4_come : av_wf tX4_come = true := by decide +kernel
set_option maxHeartbeats 400000 in
set_option maxRecDepth 40000 in
theorem eX4_come_r5_in (d : Nat) (h : av_M) (p1 : Int32) (p2 : Int32) (p3 : Int32) (p4 : Int32) (p5 : Int32) : av_x (d + 1) 27 [.ref 5, .int p1, .int p2, .int p3, .int p4, .int p5] h = (if 7 ≤ (h 5 6) then some ((0 : Int32), (0 : Int64), h) else (cond (av_inb (h 5 6) 7) ((cond (av_inb (h 5 6) 7) ((cond (av_inb (h 5 6) 7) ((cond (av_inb (h 5 6) 7) ((cond (av_inb (h 5 6) 7) (some ((0 : Int32), (0 : Int64), (av_u (av_u (av_u (av_u (av_u (av_u (av_u h 6 (Int32.toNatClampNeg (h 5 6)) p1) 7 (Int32.toNatClampNeg (h 5 6)) p2) 8 (Int32.toNatClampNeg (h 5 6)) p3) 9 (Int32.toNatClampNeg (h 5 6)) p4) 10 (Int32.toNatClampNeg (h 5 6)) p5) 5 7 ((h 5 7) ||| (1 <<< ((h 5 6) &&& 31)))) 5 6 ((h 5 6) + 1)))) none)) none)) none)) none)) none)) := (av_ent d 27 tX4_come 6 _ h tabX4_come).trans ((av_eq tX4_come 6 [] 51 0 _ _ h tabX4_come wfX4_come rfl).trans rfl)
theorem tabX3_takeThing : av_tab 13 = (tX3_takeThing, 3) := rfl
theorem wfX3_takeThing : av_wf tX3_takeThing = true := by decide +kernel
set_option maxHeartbeats 400000 in
set_option maxRecDepth 40000 in
theorem eX3_takeThing_r23_in (d : Nat) (h : av_M) (p1 : Int32) : av_x (d + 1) 13 [.ref 23, .int p1] h = (if p1 = 45 then ((av_x d 19 [.ref 23, .int 256] h).bind fun q7 => some (((1 &&& 1) : Int32), (0 : Int64), q7.2.2)) else (if p1 = 40 then ((av_x d 16 [.ref 23] h).bind fun q6 => some (((q6.1 &&& 1) : Int32), (0 : Int64), q6.2.2)) else (if p1 < 48 then ((av_x d 21 [.int p1] h).bind fun q1 => (if q1.1 = 0 then some (((0 &&& 1) : Int32), (0 : Int64), q1.2.2) else ((av_x d 20 [.ref 23, .int (1000 + p1)] q1.2.2).bind fun q2 => some (((1 &&& 1) : Int32), (0 : Int64), (av_u (av_u q2.2.2 23 7 0) 23 8 0))))) else (if 57 < p1 then ((av_x d 21 [.int p1] h).bind fun q3 => (if q3.1 = 0 then some (((0 &&& 1) : Int32), (0 : Int64), q3.2.2) else ((av_x d 20 [.ref 23, .int (1000 + p1)] q3.2.2).bind fun q4 => some (((1 &&& 1) : Int32), (0 : Int64), (av_u (av_u q4.2.2 23 7 0) 23 8 0))))) else ((av_x d 20 [.ref 23, .int (p1 - 48)] h).bind fun q5 => some (((1 &&& 1) : Int32), (0 : Int64), (av_u (av_u q5.2.2 23 7 1) 23 8 0))))))) := (av_ent d 13 tX3_takeThing 3 _ h tabX3_takeThing).trans ((av_eq tX3_takeThing 3 [] 37 0 _ _ h tabX3_takeThing wfX3_takeThing rfl).trans rfl)
theorem tabX3_release : av_tab 18 = (tX3_release, 2) := rfl
theorem wfX3_release : av_wf tX3_release = true := by decide +kernel
set_option maxHeartbeats 400000 in
set_option maxRecDepth 40000 in
theorem eX3_release_r23_in (d : Nat) (h : av_M) (p1 : Int32) : av_x (d + 1) 18 [.ref 23, .int p1] h = av_xp d 18 0 [.ref 23, .int p1] [] h := av_ent d 18 tX3_release 2 _ h tabX3_release
set_option maxHeartbeats 400000 in
set_option maxRecDepth 40000 in
theorem eX3_release_r23_0 (d : Nat) (h : av_M) (a1 : Int32) : av_xp d 18 0 [.ref 23, .int a1] [] h = (if (h 23 4) ≤ 0 then some ((0 : Int32), (0 : Int64), h) else (cond (av_inb ((h 23 4) - 1) 40) (((av_x d 22 [.int (h 25 (Int32.toNatClampNeg ((h 23 4) - 1)))] h).bind fun q1 => (if q1.1 < a1 then some ((0 : Int32), (0 : Int64), q1.2.2) else (cond (av_inb ((q1.2.2 23 4) - 1) 40) (((av_x d 20 [.ref 23, .int (1000 + (q1.2.2 25 (Int32.toNatClampNeg ((q1.2.2 23 4) - 1))))] (av_u q1.2.2 23 4 ((q1.2.2 23 4) - 1))).bind fun q2 => av_xp d 18 0 [.ref 23, .int a1] [] q2.2.2)) none)))) none)) := (av_eq tX3_release 2 [0] 30 0 _ _ h tabX3_release wfX3_release rfl).trans rfl
theorem tabX3_take : av_tab 12 = (tX3_take, 2) := rfl
theorem wfX3_take : av_wf tX3_take = true := by decide +kernel
set_option maxHeartbeats 400000 in
set_option maxRecDepth 40000 in
theorem eX3_take_r23_in (d : Nat) (h : av_M) (p1 : Int32) : av_x (d + 1) 12 [.ref 23, .int p1] h = (if (h 23 8) = 0 then (if p1 < 48 then (if p1 = 41 then ((av_x d 17 [.ref 23] h).bind fun q2 => some (((q2.1 &&& 1) : Int32), (0 : Int64), q2.2.2)) else ((av_x d 15 [.ref 23, .int p1] h).bind fun q1 => some (((q1.1 &&& 1) : Int32), (0 : Int64), q1.2.2))) else (if 57 < p1 then (if p1 = 41 then ((av_x d 17 [.ref 23] h).bind fun q4 => some (((q4.1 &&& 1) : Int32), (0 : Int64), q4.2.2)) else ((av_x d 15 [.ref 23, .int p1] h).bind fun q3 => some (((q3.1 &&& 1) : Int32), (0 : Int64), q3.2.2))) else ((av_x d 14 [.ref 23, .int (p1 - 48)] h).bind fun q5 => some (((q5.1 &&& 1) : Int32), (0 : Int64), q5.2.2)))) else ((av_x d 13 [.ref 23, .int p1] h).bind fun q6 => some (((q6.1 &&& 1) : Int32), (0 : Int64), q6.2.2))) := (av_ent d 12 tX3_take 2 _ h tabX3_take).trans ((av_eq tX3_take 2 [] 17 0 _ _ h tabX3_take wfX3_take rfl).trans rfl)
theorem tabX4_write : av_tab 46 = (tX4_write, 5) := rfl
theorem wfX4_write : av_wf tX4_write = true := by decide +kernel
set_option maxHeartbeats 400000 in
set_option maxRecDepth 40000 in
theorem eX4_write_r5_r28_in (d : Nat) (h : av_M) (p2 : Int32) : av_x (d + 1) 46 [.ref 5, .ref 28, .int p2] h = (if p2 < 0 then some ((0 : Int32), (0 : Int64), h) else (if p2 ≤ (528 - 33) then av_xp d 46 19 [.ref 5, .ref 28, .int p2, .int p2, .int 0] [] h else some ((0 : Int32), (0 : Int64), h))) := (av_ent d 46 tX4_write 5 _ h tabX4_write).trans ((av_eq tX4_write 5 [19] 13 0 _ _ h tabX4_write wfX4_write rfl).trans rfl)
set_option maxHeartbeats 400000 in
set_option maxRecDepth 40000 in
theorem eX4_write_r5_r28_19 (d : Nat) (h : av_M) (a2 : Int32) (a3 : Int32) (a4 : Int32) : av_xp d 46 19 [.ref 5, .ref 28, .int a2, .int a3, .int a4] [] h = (if 7 ≤ a4 then (cond (av_inb a3 528) ((cond (av_inb (a3 + 1) 528) ((cond (av_inb (a3 + 2) 528) ((cond (av_inb (a3 + 3) 528) ((cond (av_inb (a3 + 4) 528) (some ((0 : Int32), (0 : Int64), (av_u (av_u (av_u (av_u (av_u h 28 (Int32.toNatClampNeg a3) (h 5 8)) 28 (Int32.toNatClampNeg (a3 + 1)) (h 5 9)) 28 (Int32.toNatClampNeg (a3 + 2)) (h 5 10)) 28 (Int32.toNatClampNeg (a3 + 3)) (h 5 11)) 28 (Int32.toNatClampNeg (a3 + 4)) (h 5 12)))) none)) none)) none)) none)) none) else (cond (av_inb a4 7) ((cond (av_inb a3 528) ((cond (av_inb a4 7) ((cond (av_inb (a3 + 1) 528) ((cond (av_inb a4 7) ((cond (av_inb (a3 + 2) 528) ((cond (av_inb a4 7) ((cond (av_inb (a3 + 3) 528) (av_xp d 46 19 [.ref 5, .ref 28, .int a2, .int (a3 + 4), .int (a4 + 1)] [] (av_u (av_u (av_u (av_u h 28 (Int32.toNatClampNeg a3) (h 8 (Int32.toNatClampNeg a4))) 28 (Int32.toNatClampNeg (a3 + 1)) (h 9 (Int32.toNatClampNeg a4))) 28 (Int32.toNatClampNeg (a3 + 2)) (h 10 (Int32.toNatClampNeg a4))) 28 (Int32.toNatClampNeg (a3 + 3)) (h 11 (Int32.toNatClampNeg a4)))) none)) none)) none)) none)) none)) none)) none)) none)) := (av_eq tX4_write 5 [19] 41 19 _ _ h tabX4_write wfX4_write rfl).trans rfl
set_option maxHeartbeats 400000 in
set_option maxRecDepth 40000 in
theorem eX4_passHour_r5_r19_in (d : Nat) (h : av_M) : av_x (d + 1) 43 [.ref 5, .ref 19] h = ((av_x d 44 [.ref 5] h).bind fun q1 => ((av_x d 41 [.ref 5] q1.2.2).bind fun q2 => ((av_x d 28 [.ref 5] (av_u q2.2.2 5 10 (av_min 9999 ((q1.2.2 5 10) + (av_max 0 ((q1.2.2 5 11) - q2.1)))))).bind fun q3 => av_xp d 43 42 [.ref 5, .ref 19, .int 0, .int q3.1, .int 0] [] q3.2.2))) := (av_ent d 43 tX4_passHour 5 _ h tabX4_passHour).trans ((av_eq tX4_passHour 5 [42] 24 0 _ _ h tabX4_passHour wfX4_passHour rfl).trans rfl)
set_option maxHeartbeats 400000 in
set_option maxRecDepth 40000 in
theorem eX4_passHour_r5_r19_42 (d : Nat) (h : av_M) (a2 : Int32) (a3 : Int32) (a4 : Int32) : av_xp d 43 42 [.ref 5, .ref 19, .int a2, .int a3, .int a4] [] h = (if (h 5 6) ≤ a4 then some ((0 : Int32), (0 : Int64), (av_u (av_u h 5 8 ((h 5 8) ||| a2)) 5 12 ((h 5 12) + 1))) else ((av_x d 108 [.int a3, .int a4] h).bind fun q1 => (if q1.1 = 0 then av_xp d 43 42 [.ref 5, .ref 19, .int a2, .int a3, .int (a4 + 1)] [] q1.2.2 else ((av_x d 23 [.ref 19, .ref 5, .int a4] q1.2.2).bind fun q2 => (cond (av_inb a4 7) ((if q2.1 ≤ (q2.2.2 7 (Int32.toNatClampNeg a4)) then av_xp d 43 42 [.ref 5, .ref 19, .int a2, .int a3, .int (a4 + 1)] [] q2.2.2 else av_xp d 43 42 [.ref 5, .ref 19, .int (a2 ||| (1 <<< (a4 &&& 31))), .int a3, .int (a4 + 1)] [] q2.2.2)) none))))) := (av_eq tX4_passHour 5 [42] 26 42 _ _ h tabX4_passHour wfX4_passHour rfl).trans rfl
theorem tabX6_isDigit : av_tab 106 = (tX6_isDigit, 1) := rfl
theorem wfX6_isDigit : av_wf tX6_isDigit = true := by decide +kernel
set_option maxHeartbeats 400000 in
set_option maxRecDepth 40000 in
theorem eX6_isDigit_in (d : Nat) (h : av_M) (p0 : Int32) : av_x (d + 1) 106 [.int p0] h = (if p0 < 0 then some (((0 &&& 1) : Int32), (0 : Int64), h) else (if 9 < p0 then some (((0 &&& 1) : Int32), (0 : Int64), h) else some (((1 &&& 1) : Int32), (0 : Int64), h))) := (av_ent d 106 tX6_isDigit 1 _ h tabX6_isDigit).trans ((av_eq tX6_isDigit 1 [] 9 0 _ _ h tabX6_isDigit wfX6_isDigit rfl).trans rfl)
theorem tabX4_readBack : av_tab 47 = (tX4_readBack, 5) := rfl
theorem wfX4_readBack : av_wf tX4_readBack = true := by decide +kernel
set_option maxHeartbeats 400000 in
set_option maxRecDepth 40000 in
theorem eX4_readBack_r5_r28_in (d : Nat) (h : av_M) (p2 : Int32) : av_x (d + 1) 47 [.ref 5, .ref 28, .int p2] h = (if p2 < 0 then some ((0 : Int32), (0 : Int64), h) else (if p2 ≤ (528 - 33) then av_xp d 47 19 [.ref 5, .ref 28, .int p2, .int p2, .int 0] [] h else some ((0 : Int32), (0 : Int64), h))) := (av_ent d 47 tX4_readBack 5 _ h tabX4_readBack).trans ((av_eq tX4_readBack 5 [19] 13 0 _ _ h tabX4_readBack wfX4_readBack rfl).trans rfl)
set_option maxHeartbeats 400000 in
set_option maxRecDepth 40000 in
theorem eX4_readBack_r5_r28_19 (d : Nat) (h : av_M) (a2 : Int32) (a3 : Int32) (a4 : Int32) : av_xp d 47 19 [.ref 5, .ref 28, .int a2, .int a3, .int a4] [] h = (if 7 ≤ a4 then (cond (av_inb a3 528) ((cond (av_inb (a3 + 1) 528) ((cond (av_inb (a3 + 2) 528) ((cond (av_inb (a3 + 3) 528) ((cond (av_inb (a3 + 4) 528) (some ((0 : Int32), (0 : Int64), (av_u (av_u (av_u (av_u (av_u h 5 8 (h 28 (Int32.toNatClampNeg a3))) 5 9 (h 28 (Int32.toNatClampNeg (a3 + 1)))) 5 10 (h 28 (Int32.toNatClampNeg (a3 + 2)))) 5 11 (h 28 (Int32.toNatClampNeg (a3 + 3)))) 5 12 (h 28 (Int32.toNatClampNeg (a3 + 4)))))) none)) none)) none)) none)) none) else (cond (av_inb a3 528) ((cond (av_inb a4 7) ((cond (av_inb (a3 + 1) 528) ((cond (av_inb a4 7) ((cond (av_inb (a3 + 2) 528) ((cond (av_inb a4 7) ((cond (av_inb (a3 + 3) 528) ((cond (av_inb a4 7) (av_xp d 47 19 [.ref 5, .ref 28, .int a2, .int (a3 + 4), .int (a4 + 1)] [] (av_u (av_u (av_u (av_u h 8 (Int32.toNatClampNeg a4) (h 28 (Int32.toNatClampNeg a3))) 9 (Int32.toNatClampNeg a4) (h 28 (Int32.toNatClampNeg (a3 + 1)))) 10 (Int32.toNatClampNeg a4) (h 28 (Int32.toNatClampNeg (a3 + 2)))) 11 (Int32.toNatClampNeg a4) (h 28 (Int32.toNatClampNeg (a3 + 3))))) none)) none)) none)) none)) none)) none)) none)) none)) := (av_eq tX4_readBack 5 [19] 41 19 _ _ h tabX4_readBack wfX4_readBack rfl).trans rfl
set_option maxHeartbeats 400000 in
set_option maxRecDepth 40000 in
theorem eX4_passHours_r12_r19_in (d : Nat) (h : av_M) (p2 : Int32) : av_x (d + 1) 42 [.ref 12, .ref 19, .int p2] h = av_xp d 42 2 [.ref 12, .ref 19, .int p2, .int 0] [] h := (av_ent d 42 tX4_passHours 4 _ h tabX4_passHours).trans ((av_eq tX4_passHours 4 [2] 3 0 _ _ h tabX4_passHours wfX4_passHours rfl).trans rfl)
set_option maxHeartbeats 400000 in
set_option maxRecDepth 40000 in
theorem eX4_passHours_r12_r19_2 (d : Nat) (h : av_M) (a2 : Int32) (a3 : Int32) : av_xp d 42 2 [.ref 12, .ref 19, .int a2, .int a3] [] h = (if a2 ≤ a3 then some ((0 : Int32), (0 : Int64), h) else ((av_x d 43 [.ref 12, .ref 19] h).bind fun q1 => av_xp d 42 2 [.ref 12, .ref 19, .int a2, .int (a3 + 1)] [] q1.2.2)) := (av_eq tX4_passHours 4 [2] 9 2 _ _ h tabX4_passHours wfX4_passHours rfl).trans rfl
set_option maxHeartbeats 400000 in
set_option maxRecDepth 40000 in
theorem eX4_lack_r12_in (d : Nat) (h : av_M) (p1 : Int32) : av_x (d + 1) 32 [.ref 12, .int p1] h = (cond (av_inb p1 7) ((cond (av_inb p1 7) (some (((((h 12 10) - (h 17 (Int32.toNatClampNeg p1))) - (h 18 (Int32.toNatClampNeg p1))) : Int32), (0 : Int64), h)) none)) none) := (av_ent d 32 tX4_lack 2 _ h tabX4_lack).trans ((av_eq tX4_lack 2 [] 14 0 _ _ h tabX4_lack wfX4_lack rfl).trans rfl)
theorem tabX4_payOut : av_tab 44 = (tX4_payOut, 4) := rfl
theorem wfX4_payOut : av_wf tX4_payOut = true := by decide +kernel
set_option maxHeartbeats 400000 in
set_option maxRecDepth 40000 in
theorem eX4_payOut_r12_in (d : Nat) (h : av_M) : av_x (d + 1) 44 [.ref 12] h = ((av_x d 28 [.ref 12] h).bind fun q1 => av_xp d 44 7 [.ref 12, .int q1.1, .int 0, .null] [] q1.2.2) := (av_ent d 44 tX4_payOut 4 _ h tabX4_payOut).trans ((av_eq tX4_payOut 4 [7] 6 0 _ _ h tabX4_payOut wfX4_payOut rfl).trans rfl)
set_option maxHeartbeats 400000 in
set_option maxRecDepth 40000 in
theorem eX4_payOut_r12_7 (d : Nat) (h : av_M) (a1 : Int32) (a2 : Int32) : av_xp d 44 7 [.ref 12, .int a1, .int a2, .null] [] h = (if (h 12 6) ≤ a2 then some ((0 : Int32), (0 : Int64), h) else ((av_x d 108 [.int a1, .int a2] h).bind fun q1 => (if q1.1 = 0 then av_xp d 44 7 [.ref 12, .int a1, .int (a2 + 1), .null] [] q1.2.2 else (cond (av_inb a2 7) ((cond (av_inb a2 7) ((cond (av_inb a2 7) ((cond (av_inb a2 7) ((cond (av_inb a2 7) ((cond (av_inb a2 7) (av_xp d 44 7 [.ref 12, .int a1, .int (a2 + 1), .int (av_min (q1.2.2 16 (Int32.toNatClampNeg a2)) (q1.2.2 15 (Int32.toNatClampNeg a2)))] [] (av_u (av_u q1.2.2 15 (Int32.toNatClampNeg a2) ((q1.2.2 15 (Int32.toNatClampNeg a2)) - (av_min (q1.2.2 16 (Int32.toNatClampNeg a2)) (q1.2.2 15 (Int32.toNatClampNeg a2))))) 18 (Int32.toNatClampNeg a2) (av_min 9999 ((q1.2.2 18 (Int32.toNatClampNeg a2)) + (av_min (q1.2.2 16 (Int32.toNatClampNeg a2)) (q1.2.2 15 (Int32.toNatClampNeg a2))))))) none)) none)) none)) none)) none)) none)))) := (av_eq tX4_payOut 4 [7] 41 7 _ _ h tabX4_payOut wfX4_payOut rfl).trans rfl
set_option maxHeartbeats 400000 in
set_option maxRecDepth 40000 in
theorem eX4_payOut_r12_7_2 (d : Nat) (h : av_M) (a1 : Int32) (a2 : Int32) (a3 : Int32) : av_xp d 44 7 [.ref 12, .int a1, .int a2, .int a3] [] h = (if (h 12 6) ≤ a2 then some ((0 : Int32), (0 : Int64), h) else ((av_x d 108 [.int a1, .int a2] h).bind fun q1 => (if q1.1 = 0 then av_xp d 44 7 [.ref 12, .int a1, .int (a2 + 1), .int a3] [] q1.2.2 else (cond (av_inb a2 7) ((cond (av_inb a2 7) ((cond (av_inb a2 7) ((cond (av_inb a2 7) ((cond (av_inb a2 7) ((cond (av_inb a2 7) (av_xp d 44 7 [.ref 12, .int a1, .int (a2 + 1), .int (av_min (q1.2.2 16 (Int32.toNatClampNeg a2)) (q1.2.2 15 (Int32.toNatClampNeg a2)))] [] (av_u (av_u q1.2.2 15 (Int32.toNatClampNeg a2) ((q1.2.2 15 (Int32.toNatClampNeg a2)) - (av_min (q1.2.2 16 (Int32.toNatClampNeg a2)) (q1.2.2 15 (Int32.toNatClampNeg a2))))) 18 (Int32.toNatClampNeg a2) (av_min 9999 ((q1.2.2 18 (Int32.toNatClampNeg a2)) + (av_min (q1.2.2 16 (Int32.toNatClampNeg a2)) (q1.2.2 15 (Int32.toNatClampNeg a2))))))) none)) none)) none)) none)) none)) none)))) := (av_eq tX4_payOut 4 [7] 41 7 _ _ h tabX4_payOut wfX4_payOut rfl).trans rfl
set_option maxHeartbeats 400000 in
set_option maxRecDepth 40000 in
theorem eX4_heldBack_r12_in (d : Nat) (h : av_M) : av_x (d + 1) 41 [.ref 12] h = ((av_x d 33 [.ref 12] h).bind fun q1 => ((av_x d 38 [.ref 12, .int q1.1] q1.2.2).bind fun q2 => some (((q2.1 / 5) : Int32), (0 : Int64), q2.2.2))) := (av_ent d 41 tX4_heldBack 1 _ h tabX4_heldBack).trans ((av_eq tX4_heldBack 1 [] 8 0 _ _ h tabX4_heldBack wfX4_heldBack rfl).trans rfl)
set_option maxHeartbeats 400000 in
set_option maxRecDepth 40000 in
theorem eX3_pull_r19_r12_in (d : Nat) (h : av_M) (p2 : Int32) : av_x (d + 1) 23 [.ref 19, .ref 12, .int p2] h = av_xp d 23 5 [.ref 19, .ref 12, .int p2, .int 0, .int 0, .null] [] h := (av_ent d 23 tX3_pull 6 _ h tabX3_pull).trans ((av_eq tX3_pull 6 [5, 27, 40, 80, 112, 120, 143, 147] 5 0 _ _ h tabX3_pull wfX3_pull rfl).trans rfl)
set_option maxHeartbeats 400000 in
set_option maxRecDepth 40000 in
theorem eX3_pull_r19_r12_5 (d : Nat) (h : av_M) (a2 : Int32) (a3 : Int32) (a4 : Int32) : av_xp d 23 5 [.ref 19, .ref 12, .int a2, .int a3, .int a4, .null] [] h = (if (h 19 3) ≤ a4 then ((av_x d 104 [.int (h 22 0), .int (-99), .int 99] h).bind fun q1 => some ((q1.1 : Int32), (0 : Int64), q1.2.2)) else (cond (av_inb a4 40) (av_xp d 23 27 [.ref 19, .ref 12, .int a2, .int a3, .int a4, .int ((h 20 (Int32.toNatClampNeg a4)) - 1000)] [] h) none)) := (av_eq tX3_pull 6 [5, 27, 40, 80, 112, 120, 143, 147] 13 5 _ _ h tabX3_pull wfX3_pull rfl).trans rfl
set_option maxHeartbeats 400000 in
set_option maxRecDepth 40000 in
theorem eX3_pull_r19_r12_27 (d : Nat) (h : av_M) (a2 : Int32) (a3 : Int32) (a4 : Int32) (a5 : Int32) : av_xp d 23 27 [.ref 19, .ref 12, .int a2, .int a3, .int a4, .int a5] [] h = (if a5 < 0 then av_xp d 23 40 [.ref 19, .ref 12, .int a2, .int a3, .int a4, .int a5] [] h else ((av_x d 21 [.int a5] h).bind fun q1 => (if q1.1 = 0 then av_xp d 23 80 [.ref 19, .ref 12, .int a2, .int a3, .int a4, .int a5] [] q1.2.2 else av_xp d 23 40 [.ref 19, .ref 12, .int a2, .int a3, .int a4, .int a5] [] q1.2.2))) := (av_eq tX3_pull 6 [5, 27, 40, 80, 112, 120, 143, 147] 6 27 _ _ h tabX3_pull wfX3_pull rfl).trans rfl
set_option maxHeartbeats 400000 in
set_option maxRecDepth 40000 in
theorem eX3_pull_r19_r12_40 (d : Nat) (h : av_M) (a2 : Int32) (a3 : Int32) (a4 : Int32) (a5 : Int32) : av_xp d 23 40 [.ref 19, .ref 12, .int a2, .int a3, .int a4, .int a5] [] h = (if 40 ≤ a3 then av_xp d 23 147 [.ref 19, .ref 12, .int a2, .int a3, .int a4, .int a5] [] h else (if 0 ≤ a5 then ((av_x d 24 [.int a5, .ref 12, .int a2] h).bind fun q1 => (cond (av_inb a3 40) (av_xp d 23 147 [.ref 19, .ref 12, .int a2, .int (a3 + 1), .int a4, .int a5] [] (av_u q1.2.2 22 (Int32.toNatClampNeg a3) q1.1)) none)) else (cond (av_inb a4 40) ((cond (av_inb a3 40) (av_xp d 23 147 [.ref 19, .ref 12, .int a2, .int (a3 + 1), .int a4, .int a5] [] (av_u h 22 (Int32.toNatClampNeg a3) (h 20 (Int32.toNatClampNeg a4)))) none)) none))) := (av_eq tX3_pull 6 [5, 27, 40, 80, 112, 120, 143, 147] 17 40 _ _ h tabX3_pull wfX3_pull rfl).trans rfl
set_option maxHeartbeats 400000 in
set_option maxRecDepth 40000 in
theorem eX3_pull_r19_r12_80 (d : Nat) (h : av_M) (a2 : Int32) (a3 : Int32) (a4 : Int32) (a5 : Int32) : av_xp d 23 80 [.ref 19, .ref 12, .int a2, .int a3, .int a4, .int a5] [] h = (if a5 = 256 then (if a3 ≤ 0 then av_xp d 23 147 [.ref 19, .ref 12, .int a2, .int a3, .int a4, .int a5] [] h else (cond (av_inb (a3 - 1) 40) ((cond (av_inb (a3 - 1) 40) (av_xp d 23 147 [.ref 19, .ref 12, .int a2, .int a3, .int a4, .int a5] [] (av_u h 22 (Int32.toNatClampNeg (a3 - 1)) (-(h 22 (Int32.toNatClampNeg (a3 - 1)))))) none)) none)) else av_xp d 23 112 [.ref 19, .ref 12, .int a2, .int a3, .int a4, .int a5] [] h) := (av_eq tX3_pull 6 [5, 27, 40, 80, 112, 120, 143, 147] 20 80 _ _ h tabX3_pull wfX3_pull rfl).trans rfl
set_option maxHeartbeats 400000 in
set_option maxRecDepth 40000 in
theorem eX3_pull_r19_r12_147 (d : Nat) (h : av_M) (a2 : Int32) (a3 : Int32) (a4 : Int32) (a5 : Int32) : av_xp d 23 147 [.ref 19, .ref 12, .int a2, .int a3, .int a4, .int a5] [] h = av_xp d 23 5 [.ref 19, .ref 12, .int a2, .int a3, .int (a4 + 1), .int a5] [] h := (av_eq tX3_pull 6 [5, 27, 40, 80, 112, 120, 143, 147] 3 147 _ _ h tabX3_pull wfX3_pull rfl).trans rfl
set_option maxHeartbeats 400000 in
set_option maxRecDepth 40000 in
theorem eX3_pull_r19_r12_112 (d : Nat) (h : av_M) (a2 : Int32) (a3 : Int32) (a4 : Int32) (a5 : Int32) : av_xp d 23 112 [.ref 19, .ref 12, .int a2, .int a3, .int a4, .int a5] [] h = (if a3 ≤ 1 then av_xp d 23 147 [.ref 19, .ref 12, .int a2, .int a3, .int a4, .int a5] [] h else av_xp d 23 120 [.ref 19, .ref 12, .int a2, .int (a3 + (-1)), .int a4, .int a5] [] h) := (av_eq tX3_pull 6 [5, 27, 40, 80, 112, 120, 143, 147] 5 112 _ _ h tabX3_pull wfX3_pull rfl).trans rfl
set_option maxHeartbeats 400000 in
set_option maxRecDepth 40000 in
theorem eX3_pull_r19_r12_5_2 (d : Nat) (h : av_M) (a2 : Int32) (a3 : Int32) (a4 : Int32) (a5 : Int32) : av_xp d 23 5 [.ref 19, .ref 12, .int a2, .int a3, .int a4, .int a5] [] h = (if (h 19 3) ≤ a4 then ((av_x d 104 [.int (h 22 0), .int (-99), .int 99] h).bind fun q1 => some ((q1.1 : Int32), (0 : Int64), q1.2.2)) else (cond (av_inb a4 40) (av_xp d 23 27 [.ref 19, .ref 12, .int a2, .int a3, .int a4, .int ((h 20 (Int32.toNatClampNeg a4)) - 1000)] [] h) none)) := (av_eq tX3_pull 6 [5, 27, 40, 80, 112, 120, 143, 147] 13 5 _ _ h tabX3_pull wfX3_pull rfl).trans rfl
set_option maxHeartbeats 400000 in
set_option maxRecDepth 40000 in
theorem eX3_pull_r19_r12_120 (d : Nat) (h : av_M) (a2 : Int32) (a3 : Int32) (a4 : Int32) (a5 : Int32) : av_xp d 23 120 [.ref 19, .ref 12, .int a2, .int a3, .int a4, .int a5] [] h = (cond (av_inb (a3 - 1) 40) ((cond (av_inb a3 40) (av_xp d 23 143 [.ref 19, .ref 12, .int a2, .int a3, .int a4, .int a5] [.int (h 22 (Int32.toNatClampNeg a3)), .int (h 22 (Int32.toNatClampNeg (a3 - 1))), .int a5, .int (a3 - 1), .ref 22] h) none)) none) := (av_eq tX3_pull 6 [5, 27, 40, 80, 112, 120, 143, 147] 17 120 _ _ h tabX3_pull wfX3_pull rfl).trans rfl
set_option maxHeartbeats 400000 in
set_option maxRecDepth 40000 in
theorem eX3_pull_r19_r12_143 (d : Nat) (h : av_M) (a2 : Int32) (a3 : Int32) (a4 : Int32) (a5 : Int32) (s0 : Int32) (s1 : Int32) (s2 : Int32) (s3 : Int32) : av_xp d 23 143 [.ref 19, .ref 12, .int a2, .int a3, .int a4, .int a5] [.int s0, .int s1, .int s2, .int s3, .ref 22] h = ((av_x d 25 [.int s2, .int s1, .int s0] h).bind fun q1 => (cond (av_inb s3 40) (av_xp d 23 147 [.ref 19, .ref 12, .int a2, .int a3, .int a4, .int a5] [] (av_u q1.2.2 22 (Int32.toNatClampNeg s3) q1.1)) none)) := (av_eq tX3_pull 6 [5, 27, 40, 80, 112, 120, 143, 147] 3 143 _ _ h tabX3_pull wfX3_pull rfl).trans rfl
theorem tabX6_decides : av_tab 134 = (tX6_decides, 2) := rfl
theorem wfX6_decides : av_wf tX6_decides = true := by decide +kernel
set_option maxHeartbeats 400000 in
set_option maxRecDepth 40000 in
theorem eX6_decides_r0_in (d : Nat) (h : av_M) (p1 : Int32) : av_x (d + 1) 134 [.ref 0, .int p1] h = ((av_x d 38 [.ref 5, .int p1] h).bind fun q1 => ((av_x d 28 [.ref 5] q1.2.2).bind fun q2 => ((av_x d 38 [.ref 5, .int q2.1] q2.2.2).bind fun q3 => (if (2 * q1.1) ≤ q3.1 then some (((0 &&& 1) : Int32), (0 : Int64), q3.2.2) else some (((1 &&& 1) : Int32), (0 : Int64), q3.2.2))))) := (av_ent d 134 tX6_decides 2 _ h tabX6_decides).trans ((av_eq tX6_decides 2 [] 17 0 _ _ h tabX6_decides wfX6_decides rfl).trans rfl)
theorem tabX4_asFarAlong : av_tab 36 = (tX4_asFarAlong, 4) := rfl
theorem wfX4_asFarAlong : av_wf tX4_asFarAlong = true := by decide +kernel
set_option maxHeartbeats 400000 in
set_option maxRecDepth 40000 in
theorem eX4_asFarAlong_r5_in (d : Nat) (h : av_M) (p1 : Int32) : av_x (d + 1) 36 [.ref 5, .int p1] h = av_xp d 36 4 [.ref 5, .int p1, .int 0, .int 0] [] h := (av_ent d 36 tX4_asFarAlong 4 _ h tabX4_asFarAlong).trans ((av_eq tX4_asFarAlong 4 [4] 5 0 _ _ h tabX4_asFarAlong wfX4_asFarAlong rfl).trans rfl)
set_option maxHeartbeats 400000 in
set_option maxRecDepth 40000 in
theorem eX4_asFarAlong_r5_4 (d : Nat) (h : av_M) (a1 : Int32) (a2 : Int32) (a3 : Int32) : av_xp d 36 4 [.ref 5, .int a1, .int a2, .int a3] [] h = (if (h 5 6) ≤ a3 then some ((a2 : Int32), (0 : Int64), h) else (cond (av_inb a3 7) ((if (h 10 (Int32.toNatClampNeg a3)) < a1 then av_xp d 36 4 [.ref 5, .int a1, .int a2, .int (a3 + 1)] [] h else av_xp d 36 4 [.ref 5, .int a1, .int (a2 ||| (1 <<< (a3 &&& 31))), .int (a3 + 1)] [] h)) none)) := (av_eq tX4_asFarAlong 4 [4] 19 4 _ _ h tabX4_asFarAlong wfX4_asFarAlong rfl).trans rfl
theorem tabX4_asStrong : av_tab 35 = (tX4_asStrong, 4) := rfl
theorem wfX4_asStrong : av_wf tX4_asStrong = true := by decide +kernel
set_option maxHeartbeats 400000 in
set_option maxRecDepth 40000 in
theorem eX4_asStrong_r5_in (d : Nat) (h : av_M) (p1 : Int32) : av_x (d + 1) 35 [.ref 5, .int p1] h = av_xp d 35 4 [.ref 5, .int p1, .int 0, .int 0] [] h := (av_ent d 35 tX4_asStrong 4 _ h tabX4_asStrong).trans ((av_eq tX4_asStrong 4 [4] 5 0 _ _ h tabX4_asStrong wfX4_asStrong rfl).trans rfl)
set_option maxHeartbeats 400000 in
set_option maxRecDepth 40000 in
theorem eX4_asStrong_r5_4 (d : Nat) (h : av_M) (a1 : Int32) (a2 : Int32) (a3 : Int32) : av_xp d 35 4 [.ref 5, .int a1, .int a2, .int a3] [] h = (if (h 5 6) ≤ a3 then some ((a2 : Int32), (0 : Int64), h) else (cond (av_inb a3 7) ((if (h 7 (Int32.toNatClampNeg a3)) < a1 then av_xp d 35 4 [.ref 5, .int a1, .int a2, .int (a3 + 1)] [] h else av_xp d 35 4 [.ref 5, .int a1, .int (a2 ||| (1 <<< (a3 &&& 31))), .int (a3 + 1)] [] h)) none)) := (av_eq tX4_asStrong 4 [4] 19 4 _ _ h tabX4_asStrong wfX4_asStrong rfl).trans rfl
theorem tabX6_breaks : av_tab 146 = (tX6_breaks, 3) := rfl
theorem wfX6_breaks : av_wf tX6_breaks = true := by decide +kernel
set_option maxHeartbeats 400000 in
set_option maxRecDepth 40000 in
theorem eX6_breaks_in (d : Nat) (h : av_M) (p0 : Int32) (p1 : Int32) (p2 : Int32) : av_x (d + 1) 146 [.int p0, .int p1, .int p2] h = ((av_x d 144 [.int p0] h).bind fun q1 => ((av_x d 145 [.int p0] q1.2.2).bind fun q2 => (if (q1.1 * p1) ≤ (p2 + q2.1) then some (((0 &&& 1) : Int32), (0 : Int64), q2.2.2) else some (((1 &&& 1) : Int32), (0 : Int64), q2.2.2)))) := (av_ent d 146 tX6_breaks 3 _ h tabX6_breaks).trans ((av_eq tX6_breaks 3 [] 13 0 _ _ h tabX6_breaks wfX6_breaks rfl).trans rfl)
theorem tabX6_nimberOf : av_tab 151 = (tX6_nimberOf, 5) := rfl
theorem wfX6_nimberOf : av_wf tX6_nimberOf = true := by decide +kernel
set_option maxHeartbeats 400000 in
set_option maxRecDepth 40000 in
theorem eX6_nimberOf_r0_in (d : Nat) (h : av_M) (p1 : Int32) : av_x (d + 1) 151 [.ref 0, .int p1] h = av_xp d 151 4 [.ref 0, .int p1, .int 0, .int 1, .null] [] h := (av_ent d 151 tX6_nimberOf 5 _ h tabX6_nimberOf).trans ((av_eq tX6_nimberOf 5 [4, 12, 61] 5 0 _ _ h tabX6_nimberOf wfX6_nimberOf rfl).trans rfl)
set_option maxHeartbeats 400000 in
set_option maxRecDepth 40000 in
theorem eX6_nimberOf_r0_4 (d : Nat) (h : av_M) (a1 : Int32) (a2 : Int32) (a3 : Int32) : av_xp d 151 4 [.ref 0, .int a1, .int a2, .int a3, .null] [] h = (if 2 < a3 then av_xp d 151 61 [.ref 0, .int a1, .int a2, .int 0, .int 0] [] h else av_xp d 151 12 [.ref 0, .int a1, .int a2, .int a3, .int 0] [] h) := (av_eq tX6_nimberOf 5 [4, 12, 61] 8 4 _ _ h tabX6_nimberOf wfX6_nimberOf rfl).trans rfl
set_option maxHeartbeats 400000 in
set_option maxRecDepth 40000 in
theorem eX6_nimberOf_r0_61 (d : Nat) (h : av_M) (a1 : Int32) (a2 : Int32) (a3 : Int32) (a4 : Int32) : av_xp d 151 61 [.ref 0, .int a1, .int a2, .int a3, .int a4] [] h = (if 31 ≤ a4 then some ((a3 : Int32), (0 : Int64), h) else ((av_x d 108 [.int a2, .int a3] h).bind fun q1 => (if q1.1 = 0 then some ((a3 : Int32), (0 : Int64), q1.2.2) else av_xp d 151 61 [.ref 0, .int a1, .int a2, .int (a3 + 1), .int (a4 + 1)] [] q1.2.2))) := (av_eq tX6_nimberOf 5 [4, 12, 61] 11 61 _ _ h tabX6_nimberOf wfX6_nimberOf rfl).trans rfl
set_option maxHeartbeats 400000 in
set_option maxRecDepth 40000 in
theorem eX6_nimberOf_r0_12 (d : Nat) (h : av_M) (a1 : Int32) (a2 : Int32) (a3 : Int32) (a4 : Int32) : av_xp d 151 12 [.ref 0, .int a1, .int a2, .int a3, .int a4] [] h = (if (a1 - a3) < a4 then av_xp d 151 4 [.ref 0, .int a1, .int a2, .int (a3 + 1), .int a4] [] h else (cond (av_inb a4 61) ((cond (av_inb ((a1 - a3) - a4) 61) (av_xp d 151 12 [.ref 0, .int a1, .int (a2 ||| (1 <<< (((h 43 (Int32.toNatClampNeg a4)) ^^^ (h 43 (Int32.toNatClampNeg ((a1 - a3) - a4)))) &&& 31))), .int a3, .int (a4 + 1)] [] h) none)) none)) := (av_eq tX6_nimberOf 5 [4, 12, 61] 26 12 _ _ h tabX6_nimberOf wfX6_nimberOf rfl).trans rfl
set_option maxHeartbeats 400000 in
set_option maxRecDepth 40000 in
theorem eX6_nimberOf_r0_4_2 (d : Nat) (h : av_M) (a1 : Int32) (a2 : Int32) (a3 : Int32) (a4 : Int32) : av_xp d 151 4 [.ref 0, .int a1, .int a2, .int a3, .int a4] [] h = (if 2 < a3 then av_xp d 151 61 [.ref 0, .int a1, .int a2, .int 0, .int 0] [] h else av_xp d 151 12 [.ref 0, .int a1, .int a2, .int a3, .int 0] [] h) := (av_eq tX6_nimberOf 5 [4, 12, 61] 8 4 _ _ h tabX6_nimberOf wfX6_nimberOf rfl).trans rfl
set_option maxHeartbeats 400000 in
set_option maxRecDepth 40000 in
theorem eX4_passHour_r12_r23_in (d : Nat) (h : av_M) : av_x (d + 1) 43 [.ref 12, .ref 23] h = ((av_x d 44 [.ref 12] h).bind fun q1 => ((av_x d 41 [.ref 12] q1.2.2).bind fun q2 => ((av_x d 28 [.ref 12] (av_u q2.2.2 12 10 (av_min 9999 ((q1.2.2 12 10) + (av_max 0 ((q1.2.2 12 11) - q2.1)))))).bind fun q3 => av_xp d 43 42 [.ref 12, .ref 23, .int 0, .int q3.1, .int 0] [] q3.2.2))) := (av_ent d 43 tX4_passHour 5 _ h tabX4_passHour).trans ((av_eq tX4_passHour 5 [42] 24 0 _ _ h tabX4_passHour wfX4_passHour rfl).trans rfl)
set_option maxHeartbeats 400000 in
set_option maxRecDepth 40000 in
theorem eX4_passHour_r12_r23_42 (d : Nat) (h : av_M) (a2 : Int32) (a3 : Int32) (a4 : Int32) : av_xp d 43 42 [.ref 12, .ref 23, .int a2, .int a3, .int a4] [] h = (if (h 12 6) ≤ a4 then some ((0 : Int32), (0 : Int64), (av_u (av_u h 12 8 ((h 12 8) ||| a2)) 12 12 ((h 12 12) + 1))) else ((av_x d 108 [.int a3, .int a4] h).bind fun q1 => (if q1.1 = 0 then av_xp d 43 42 [.ref 12, .ref 23, .int a2, .int a3, .int (a4 + 1)] [] q1.2.2 else ((av_x d 23 [.ref 23, .ref 12, .int a4] q1.2.2).bind fun q2 => (cond (av_inb a4 7) ((if q2.1 ≤ (q2.2.2 14 (Int32.toNatClampNeg a4)) then av_xp d 43 42 [.ref 12, .ref 23, .int a2, .int a3, .int (a4 + 1)] [] q2.2.2 else av_xp d 43 42 [.ref 12, .ref 23, .int (a2 ||| (1 <<< (a4 &&& 31))), .int a3, .int (a4 + 1)] [] q2.2.2)) none))))) := (av_eq tX4_passHour 5 [42] 26 42 _ _ h tabX4_passHour wfX4_passHour rfl).trans rfl
theorem tabX6_gain : av_tab 153 = (tX6_gain, 3) := rfl
theorem wfX6_gain : av_wf tX6_gain = true := by decide +kernel
set_option maxHeartbeats 400000 in
set_option maxRecDepth 40000 in
theorem eX6_gain_in (d : Nat) (h : av_M) (p0 : Int32) (p1 : Int32) (p2 : Int32) : av_x (d + 1) 153 [.int p0, .int p1, .int p2] h = (if p0 = p1 then some ((((p2 / 2) - p0) : Int32), (0 : Int64), h) else (if p1 ≤ p0 then some ((((p2 - p1) - ((p0 - p1) / 3)) : Int32), (0 : Int64), h) else some (((-p0) : Int32), (0 : Int64), h))) := (av_ent d 153 tX6_gain 3 _ h tabX6_gain).trans ((av_eq tX6_gain 3 [] 17 0 _ _ h tabX6_gain wfX6_gain rfl).trans rfl)
theorem tabX6_draw : av_tab 154 = (tX6_draw, 2) := rfl
theorem wfX6_draw : av_wf tX6_draw = true := by decide +kernel
set_option maxHeartbeats 400000 in
set_option maxRecDepth 40000 in
theorem eX6_draw_r0_in (d : Nat) (h : av_M) (p1 : Int32) : av_x (d + 1) 154 [.ref 0, .int p1] h = (if 1 ≤ p1 then (cond (av_nz p1) (some (((((Int32.toUInt32 (((h 0 13) * 1103515245) + 12345) >>> (Int32.toUInt32 16 &&& Int32.toUInt32 31)).toInt32) - ((Int32.toUInt32 (((h 0 13) * 1103515245) + 12345) >>> (Int32.toUInt32 16 &&& Int32.toUInt32 31)).toInt32) / p1 * p1) : Int32), (0 : Int64), (av_u h 0 13 (((h 0 13) * 1103515245) + 12345)))) none) else some ((0 : Int32), (0 : Int64), (av_u h 0 13 (((h 0 13) * 1103515245) + 12345)))) := (av_ent d 154 tX6_draw 2 _ h tabX6_draw).trans ((av_eq tX6_draw 2 [] 19 0 _ _ h tabX6_draw wfX6_draw rfl).trans rfl)
set_option maxHeartbeats 400000 in
set_option maxRecDepth 40000 in
theorem eX4_write_r5_r29_in (d : Nat) (h : av_M) (p2 : Int32) : av_x (d + 1) 46 [.ref 5, .ref 29, .int p2] h = (if p2 < 0 then some ((0 : Int32), (0 : Int64), h) else (if p2 ≤ (99 - 33) then av_xp d 46 19 [.ref 5, .ref 29, .int p2, .int p2, .int 0] [] h else some ((0 : Int32), (0 : Int64), h))) := (av_ent d 46 tX4_write 5 _ h tabX4_write).trans ((av_eq tX4_write 5 [19] 13 0 _ _ h tabX4_write wfX4_write rfl).trans rfl)
set_option maxHeartbeats 400000 in
set_option maxRecDepth 40000 in
theorem eX4_write_r5_r29_19 (d : Nat) (h : av_M) (a2 : Int32) (a3 : Int32) (a4 : Int32) : av_xp d 46 19 [.ref 5, .ref 29, .int a2, .int a3, .int a4] [] h = (if 7 ≤ a4 then (cond (av_inb a3 99) ((cond (av_inb (a3 + 1) 99) ((cond (av_inb (a3 + 2) 99) ((cond (av_inb (a3 + 3) 99) ((cond (av_inb (a3 + 4) 99) (some ((0 : Int32), (0 : Int64), (av_u (av_u (av_u (av_u (av_u h 29 (Int32.toNatClampNeg a3) (h 5 8)) 29 (Int32.toNatClampNeg (a3 + 1)) (h 5 9)) 29 (Int32.toNatClampNeg (a3 + 2)) (h 5 10)) 29 (Int32.toNatClampNeg (a3 + 3)) (h 5 11)) 29 (Int32.toNatClampNeg (a3 + 4)) (h 5 12)))) none)) none)) none)) none)) none) else (cond (av_inb a4 7) ((cond (av_inb a3 99) ((cond (av_inb a4 7) ((cond (av_inb (a3 + 1) 99) ((cond (av_inb a4 7) ((cond (av_inb (a3 + 2) 99) ((cond (av_inb a4 7) ((cond (av_inb (a3 + 3) 99) (av_xp d 46 19 [.ref 5, .ref 29, .int a2, .int (a3 + 4), .int (a4 + 1)] [] (av_u (av_u (av_u (av_u h 29 (Int32.toNatClampNeg a3) (h 8 (Int32.toNatClampNeg a4))) 29 (Int32.toNatClampNeg (a3 + 1)) (h 9 (Int32.toNatClampNeg a4))) 29 (Int32.toNatClampNeg (a3 + 2)) (h 10 (Int32.toNatClampNeg a4))) 29 (Int32.toNatClampNeg (a3 + 3)) (h 11 (Int32.toNatClampNeg a4)))) none)) none)) none)) none)) none)) none)) none)) none)) := (av_eq tX4_write 5 [19] 41 19 _ _ h tabX4_write wfX4_write rfl).trans rfl
set_option maxHeartbeats 400000 in
set_option maxRecDepth 40000 in
theorem eX4_readBack_r5_r29_in (d : Nat) (h : av_M) (p2 : Int32) : av_x (d + 1) 47 [.ref 5, .ref 29, .int p2] h = (if p2 < 0 then some ((0 : Int32), (0 : Int64), h) else (if p2 ≤ (99 - 33) then av_xp d 47 19 [.ref 5, .ref 29, .int p2, .int p2, .int 0] [] h else some ((0 : Int32), (0 : Int64), h))) := (av_ent d 47 tX4_readBack 5 _ h tabX4_readBack).trans ((av_eq tX4_readBack 5 [19] 13 0 _ _ h tabX4_readBack wfX4_readBack rfl).trans rfl)
set_option maxHeartbeats 400000 in
set_option maxRecDepth 40000 in
theorem eX4_readBack_r5_r29_19 (d : Nat) (h : av_M) (a2 : Int32) (a3 : Int32) (a4 : Int32) : av_xp d 47 19 [.ref 5, .ref 29, .int a2, .int a3, .int a4] [] h = (if 7 ≤ a4 then (cond (av_inb a3 99) ((cond (av_inb (a3 + 1) 99) ((cond (av_inb (a3 + 2) 99) ((cond (av_inb (a3 + 3) 99) ((cond (av_inb (a3 + 4) 99) (some ((0 : Int32), (0 : Int64), (av_u (av_u (av_u (av_u (av_u h 5 8 (h 29 (Int32.toNatClampNeg a3))) 5 9 (h 29 (Int32.toNatClampNeg (a3 + 1)))) 5 10 (h 29 (Int32.toNatClampNeg (a3 + 2)))) 5 11 (h 29 (Int32.toNatClampNeg (a3 + 3)))) 5 12 (h 29 (Int32.toNatClampNeg (a3 + 4)))))) none)) none)) none)) none)) none) else (cond (av_inb a3 99) ((cond (av_inb a4 7) ((cond (av_inb (a3 + 1) 99) ((cond (av_inb a4 7) ((cond (av_inb (a3 + 2) 99) ((cond (av_inb a4 7) ((cond (av_inb (a3 + 3) 99) ((cond (av_inb a4 7) (av_xp d 47 19 [.ref 5, .ref 29, .int a2, .int (a3 + 4), .int (a4 + 1)] [] (av_u (av_u (av_u (av_u h 8 (Int32.toNatClampNeg a4) (h 29 (Int32.toNatClampNeg a3))) 9 (Int32.toNatClampNeg a4) (h 29 (Int32.toNatClampNeg (a3 + 1)))) 10 (Int32.toNatClampNeg a4) (h 29 (Int32.toNatClampNeg (a3 + 2)))) 11 (Int32.toNatClampNeg a4) (h 29 (Int32.toNatClampNeg (a3 + 3))))) none)) none)) none)) none)) none)) none)) none)) none)) := (av_eq tX4_readBack 5 [19] 41 19 _ _ h tabX4_readBack wfX4_readBack rfl).trans rfl
theorem tabX3_isName : av_tab 21 = (tX3_isName, 1) := rfl
theorem wfX3_isName : av_wf tX3_isName = true := by decide +kernel
set_option maxHeartbeats 400000 in
set_option maxRecDepth 40000 in
theorem eX3_isName_in (d : Nat) (h : av_M) (p0 : Int32) : av_x (d + 1) 21 [.int p0] h = (if p0 = 99 then some (((1 &&& 1) : Int32), (0 : Int64), h) else (if p0 = 100 then some (((0 &&& 1) : Int32), (0 : Int64), h) else (if p0 = 101 then some (((0 &&& 1) : Int32), (0 : Int64), h) else (if p0 = 102 then some (((0 &&& 1) : Int32), (0 : Int64), h) else (if p0 = 103 then some (((0 &&& 1) : Int32), (0 : Int64), h) else (if p0 = 104 then some (((0 &&& 1) : Int32), (0 : Int64), h) else (if p0 = 105 then some (((0 &&& 1) : Int32), (0 : Int64), h) else (if p0 = 106 then some (((0 &&& 1) : Int32), (0 : Int64), h) else (if p0 = 107 then some (((1 &&& 1) : Int32), (0 : Int64), h) else (if p0 = 108 then some (((0 &&& 1) : Int32), (0 : Int64), h) else (if p0 = 109 then some (((0 &&& 1) : Int32), (0 : Int64), h) else (if p0 = 110 then some (((1 &&& 1) : Int32), (0 : Int64), h) else (if p0 = 111 then some (((0 &&& 1) : Int32), (0 : Int64), h) else (if p0 = 112 then some (((1 &&& 1) : Int32), (0 : Int64), h) else (if p0 = 113 then some (((0 &&& 1) : Int32), (0 : Int64), h) else (if p0 = 114 then some (((1 &&& 1) : Int32), (0 : Int64), h) else (if p0 = 115 then some (((1 &&& 1) : Int32), (0 : Int64), h) else (if p0 = 116 then some (((0 &&& 1) : Int32), (0 : Int64), h) else (if p0 = 117 then some (((0 &&& 1) : Int32), (0 : Int64), h) else (if p0 = 118 then some (((1 &&& 1) : Int32), (0 : Int64), h) else some (((0 &&& 1) : Int32), (0 : Int64), h))))))))))))))))))))) := (av_ent d 21 tX3_isName 1 _ h tabX3_isName).trans ((av_eq tX3_isName 1 [] 5 0 _ _ h tabX3_isName wfX3_isName rfl).trans rfl)
theorem tabX3_valueOf : av_tab 24 = (tX3_valueOf, 3) := rfl
theorem wfX3_valueOf : av_wf tX3_valueOf = true := by decide +kernel
set_option maxHeartbeats 400000 in
set_option maxRecDepth 40000 in
theorem eX3_valueOf_r5_in (d : Nat) (h : av_M) (p0 : Int32) (p2 : Int32) : av_x (d + 1) 24 [.int p0, .ref 5, .int p2] h = (if p0 = 99 then ((av_x d 37 [.ref 5, .int p2] h).bind fun q2 => some ((q2.1 : Int32), (0 : Int64), q2.2.2)) else (if p0 = 100 then some ((((h 5 12) - (h 5 12) / 7 * 7) : Int32), (0 : Int64), h) else (if p0 = 101 then some ((((h 5 12) - (h 5 12) / 7 * 7) : Int32), (0 : Int64), h) else (if p0 = 102 then some ((((h 5 12) - (h 5 12) / 7 * 7) : Int32), (0 : Int64), h) else (if p0 = 103 then some ((((h 5 12) - (h 5 12) / 7 * 7) : Int32), (0 : Int64), h) else (if p0 = 104 then some ((((h 5 12) - (h 5 12) / 7 * 7) : Int32), (0 : Int64), h) else (if p0 = 105 then some ((((h 5 12) - (h 5 12) / 7 * 7) : Int32), (0 : Int64), h) else (if p0 = 106 then some ((((h 5 12) - (h 5 12) / 7 * 7) : Int32), (0 : Int64), h) else (if p0 = 107 then ((av_x d 32 [.ref 5, .int p2] h).bind fun q1 => some ((q1.1 : Int32), (0 : Int64), q1.2.2)) else (if p0 = 108 then some ((((h 5 12) - (h 5 12) / 7 * 7) : Int32), (0 : Int64), h) else (if p0 = 109 then some ((((h 5 12) - (h 5 12) / 7 * 7) : Int32), (0 : Int64), h) else (if p0 = 110 then some ((((h 5 12) - (h 5 12) / 7 * 7) : Int32), (0 : Int64), h) else (if p0 = 111 then some ((((h 5 12) - (h 5 12) / 7 * 7) : Int32), (0 : Int64), h) else (if p0 = 112 then (cond (av_inb p2 7) (some (((h 10 (Int32.toNatClampNeg p2)) : Int32), (0 : Int64), h)) none) else (if p0 = 113 then some ((((h 5 12) - (h 5 12) / 7 * 7) : Int32), (0 : Int64), h) else (if p0 = 114 then (cond (av_inb p2 7) (some (((h 8 (Int32.toNatClampNeg p2)) : Int32), (0 : Int64), h)) none) else (if p0 = 115 then (cond (av_inb p2 7) (some (((h 7 (Int32.toNatClampNeg p2)) : Int32), (0 : Int64), h)) none) else (if p0 = 116 then some ((((h 5 12) - (h 5 12) / 7 * 7) : Int32), (0 : Int64), h) else (if p0 = 117 then some ((((h 5 12) - (h 5 12) / 7 * 7) : Int32), (0 : Int64), h) else (if p0 = 118 then some (((h 5 11) : Int32), (0 : Int64), h) else some ((((h 5 12) - (h 5 12) / 7 * 7) : Int32), (0 : Int64), h))))))))))))))))))))) := (av_ent d 24 tX3_valueOf 3 _ h tabX3_valueOf).trans ((av_eq tX3_valueOf 3 [] 8 0 _ _ h tabX3_valueOf wfX3_valueOf rfl).trans rfl)
theorem tabX3_join : av_tab 25 = (tX3_join, 3) := rfl
theorem wfX3_join : av_wf tX3_join = true := by decide +kernel
set_option maxHeartbeats 400000 in
set_option maxRecDepth 40000 in
theorem eX3_join_in (d : Nat) (h : av_M) (p0 : Int32) (p1 : Int32) (p2 : Int32) : av_x (d + 1) 25 [.int p0, .int p1, .int p2] h = (if p0 = 42 then some (((p1 * p2) : Int32), (0 : Int64), h) else (if p0 = 43 then some (((p1 + p2) : Int32), (0 : Int64), h) else (if p0 = 45 then some (((p1 - p2) : Int32), (0 : Int64), h) else (if p0 = 60 then (if p2 ≤ p1 then some ((0 : Int32), (0 : Int64), h) else some ((1 : Int32), (0 : Int64), h)) else (if p0 = 61 then (if p1 = p2 then some ((1 : Int32), (0 : Int64), h) else some ((0 : Int32), (0 : Int64), h)) else (if p0 = 62 then (if p1 ≤ p2 then some ((0 : Int32), (0 : Int64), h) else some ((1 : Int32), (0 : Int64), h)) else (if p2 = 0 then some ((0 : Int32), (0 : Int64), h) else (cond (av_nz p2) (some (((p1 / p2) : Int32), (0 : Int64), h)) none)))))))) := (av_ent d 25 tX3_join 3 _ h tabX3_join).trans ((av_eq tX3_join 3 [] 9 0 _ _ h tabX3_join wfX3_join rfl).trans rfl)
theorem tabX3_emit : av_tab 20 = (tX3_emit, 2) := rfl
theorem wfX3_emit : av_wf tX3_emit = true := by decide +kernel
set_option maxHeartbeats 400000 in
set_option maxRecDepth 40000 in
theorem eX3_emit_r23_in (d : Nat) (h : av_M) (p1 : Int32) : av_x (d + 1) 20 [.ref 23, .int p1] h = (if 40 ≤ (h 23 3) then some ((0 : Int32), (0 : Int64), h) else (cond (av_inb (h 23 3) 40) (some ((0 : Int32), (0 : Int64), (av_u (av_u h 24 (Int32.toNatClampNeg (h 23 3)) p1) 23 3 ((h 23 3) + 1)))) none)) := (av_ent d 20 tX3_emit 2 _ h tabX3_emit).trans ((av_eq tX3_emit 2 [] 18 0 _ _ h tabX3_emit wfX3_emit rfl).trans rfl)
theorem tabX3_open : av_tab 16 = (tX3_open, 1) := rfl
theorem wfX3_open : av_wf tX3_open = true := by decide +kernel
set_option maxHeartbeats 400000 in
set_option maxRecDepth 40000 in
theorem eX3_open_r23_in (d : Nat) (h : av_M) : av_x (d + 1) 16 [.ref 23] h = (if (h 23 5) < 4 then ((av_x d 19 [.ref 23, .int 40] (av_u (av_u h 23 5 ((h 23 5) + 1)) 23 6 ((h 23 6) &&& ((1 <<< (((h 23 5) + 1) &&& 31)) ^^^ (-1))))).bind fun q1 => some (((1 &&& 1) : Int32), (0 : Int64), q1.2.2)) else some (((0 &&& 1) : Int32), (0 : Int64), h)) := (av_ent d 16 tX3_open 1 _ h tabX3_open).trans ((av_eq tX3_open 1 [] 27 0 _ _ h tabX3_open wfX3_open rfl).trans rfl)
theorem tabX3_hold : av_tab 19 = (tX3_hold, 2) := rfl
theorem wfX3_hold : av_wf tX3_hold = true := by decide +kernel
set_option maxHeartbeats 400000 in
set_option maxRecDepth 40000 in
theorem eX3_hold_r23_in (d : Nat) (h : av_M) (p1 : Int32) : av_x (d + 1) 19 [.ref 23, .int p1] h = (if 40 ≤ (h 23 4) then some ((0 : Int32), (0 : Int64), h) else (cond (av_inb (h 23 4) 40) (some ((0 : Int32), (0 : Int64), (av_u (av_u h 25 (Int32.toNatClampNeg (h 23 4)) p1) 23 4 ((h 23 4) + 1)))) none)) := (av_ent d 19 tX3_hold 2 _ h tabX3_hold).trans ((av_eq tX3_hold 2 [] 18 0 _ _ h tabX3_hold wfX3_hold rfl).trans rfl)
theorem tabX3_bindingOf : av_tab 22 = (tX3_bindingOf, 1) := rfl
theorem wfX3_bindingOf : av_wf tX3_bindingOf = true := by decide +kernel
set_option maxHeartbeats 400000 in
set_option maxRecDepth 40000 in
theorem eX3_bindingOf_in (d : Nat) (h : av_M) (p0 : Int32) : av_x (d + 1) 22 [.int p0] h = (if p0 = 42 then some ((3 : Int32), (0 : Int64), h) else (if p0 = 43 then some ((2 : Int32), (0 : Int64), h) else (if p0 = 45 then some ((2 : Int32), (0 : Int64), h) else (if p0 = 47 then some ((3 : Int32), (0 : Int64), h) else (if p0 = 60 then some ((1 : Int32), (0 : Int64), h) else (if p0 = 61 then some ((1 : Int32), (0 : Int64), h) else (if p0 = 62 then some ((1 : Int32), (0 : Int64), h) else (if p0 = 256 then some ((4 : Int32), (0 : Int64), h) else some ((0 : Int32), (0 : Int64), h))))))))) := (av_ent d 22 tX3_bindingOf 1 _ h tabX3_bindingOf).trans ((av_eq tX3_bindingOf 1 [] 5 0 _ _ h tabX3_bindingOf wfX3_bindingOf rfl).trans rfl)
theorem tabX3_takeBetween : av_tab 15 = (tX3_takeBetween, 3) := rfl
theorem wfX3_takeBetween : av_wf tX3_takeBetween = true := by decide +kernel
set_option maxHeartbeats 400000 in
set_option maxRecDepth 40000 in
theorem eX3_takeBetween_r23_in (d : Nat) (h : av_M) (p1 : Int32) : av_x (d + 1) 15 [.ref 23, .int p1] h = ((av_x d 22 [.int p1] h).bind fun q1 => (if q1.1 < 1 then some (((0 &&& 1) : Int32), (0 : Int64), q1.2.2) else (if q1.1 ≤ 3 then (if q1.1 = 1 then ((av_x d 108 [.int (q1.2.2 23 6), .int (q1.2.2 23 5)] q1.2.2).bind fun q4 => (if q4.1 = 0 then ((av_x d 18 [.ref 23, .int q1.1] (av_u q4.2.2 23 6 ((q4.2.2 23 6) ||| (1 <<< ((q4.2.2 23 5) &&& 31))))).bind fun q5 => ((av_x d 19 [.ref 23, .int p1] q5.2.2).bind fun q6 => some (((1 &&& 1) : Int32), (0 : Int64), (av_u q6.2.2 23 8 1)))) else some (((0 &&& 1) : Int32), (0 : Int64), q4.2.2))) else ((av_x d 18 [.ref 23, .int q1.1] q1.2.2).bind fun q2 => ((av_x d 19 [.ref 23, .int p1] q2.2.2).bind fun q3 => some (((1 &&& 1) : Int32), (0 : Int64), (av_u q3.2.2 23 8 1))))) else some (((0 &&& 1) : Int32), (0 : Int64), q1.2.2)))) := (av_ent d 15 tX3_takeBetween 3 _ h tabX3_takeBetween).trans ((av_eq tX3_takeBetween 3 [] 39 0 _ _ h tabX3_takeBetween wfX3_takeBetween rfl).trans rfl)
theorem tabX3_close : av_tab 17 = (tX3_close, 1) := rfl
theorem wfX3_close : av_wf tX3_close = true := by decide +kernel
set_option maxHeartbeats 400000 in
set_option maxRecDepth 40000 in
theorem eX3_close_r23_in (d : Nat) (h : av_M) : av_x (d + 1) 17 [.ref 23] h = (if (h 23 5) = 0 then some (((0 &&& 1) : Int32), (0 : Int64), h) else ((av_x d 18 [.ref 23, .int 1] h).bind fun q1 => (if (q1.2.2 23 4) ≤ 0 then some (((1 &&& 1) : Int32), (0 : Int64), (av_u (av_u q1.2.2 23 5 ((q1.2.2 23 5) - 1)) 23 7 0)) else some (((1 &&& 1) : Int32), (0 : Int64), (av_u (av_u (av_u q1.2.2 23 4 ((q1.2.2 23 4) - 1)) 23 5 ((q1.2.2 23 5) - 1)) 23 7 0))))) := (av_ent d 17 tX3_close 1 _ h tabX3_close).trans ((av_eq tX3_close 1 [] 27 0 _ _ h tabX3_close wfX3_close rfl).trans rfl)
theorem tabX3_takeDigit : av_tab 14 = (tX3_takeDigit, 2) := rfl
theorem wfX3_takeDigit : av_wf tX3_takeDigit = true := by decide +kernel
set_option maxHeartbeats 400000 in
set_option maxRecDepth 40000 in
theorem eX3_takeDigit_r23_in (d : Nat) (h : av_M) (p1 : Int32) : av_x (d + 1) 14 [.ref 23, .int p1] h = (if (h 23 7) < 1 then some (((0 &&& 1) : Int32), (0 : Int64), h) else (if 2 < (h 23 7) then some (((0 &&& 1) : Int32), (0 : Int64), h) else (if 1 ≤ (h 23 3) then (cond (av_inb ((h 23 3) - 1) 40) ((cond (av_inb ((h 23 3) - 1) 40) (some (((1 &&& 1) : Int32), (0 : Int64), (av_u (av_u h 24 (Int32.toNatClampNeg ((h 23 3) - 1)) ((10 * (h 24 (Int32.toNatClampNeg ((h 23 3) - 1)))) + p1)) 23 7 ((h 23 7) + 1)))) none)) none) else some (((0 &&& 1) : Int32), (0 : Int64), h)))) := (av_ent d 14 tX3_takeDigit 2 _ h tabX3_takeDigit).trans ((av_eq tX3_takeDigit 2 [] 39 0 _ _ h tabX3_takeDigit wfX3_takeDigit rfl).trans rfl)
set_option maxHeartbeats 400000 in
set_option maxRecDepth 40000 in
theorem eX4_payOut_r5_in (d : Nat) (h : av_M) : av_x (d + 1) 44 [.ref 5] h = ((av_x d 28 [.ref 5] h).bind fun q1 => av_xp d 44 7 [.ref 5, .int q1.1, .int 0, .null] [] q1.2.2) := (av_ent d 44 tX4_payOut 4 _ h tabX4_payOut).trans ((av_eq tX4_payOut 4 [7] 6 0 _ _ h tabX4_payOut wfX4_payOut rfl).trans rfl)
set_option maxHeartbeats 400000 in
set_option maxRecDepth 40000 in
theorem eX4_payOut_r5_7 (d : Nat) (h : av_M) (a1 : Int32) (a2 : Int32) : av_xp d 44 7 [.ref 5, .int a1, .int a2, .null] [] h = (if (h 5 6) ≤ a2 then some ((0 : Int32), (0 : Int64), h) else ((av_x d 108 [.int a1, .int a2] h).bind fun q1 => (if q1.1 = 0 then av_xp d 44 7 [.ref 5, .int a1, .int (a2 + 1), .null] [] q1.2.2 else (cond (av_inb a2 7) ((cond (av_inb a2 7) ((cond (av_inb a2 7) ((cond (av_inb a2 7) ((cond (av_inb a2 7) ((cond (av_inb a2 7) (av_xp d 44 7 [.ref 5, .int a1, .int (a2 + 1), .int (av_min (q1.2.2 9 (Int32.toNatClampNeg a2)) (q1.2.2 8 (Int32.toNatClampNeg a2)))] [] (av_u (av_u q1.2.2 8 (Int32.toNatClampNeg a2) ((q1.2.2 8 (Int32.toNatClampNeg a2)) - (av_min (q1.2.2 9 (Int32.toNatClampNeg a2)) (q1.2.2 8 (Int32.toNatClampNeg a2))))) 11 (Int32.toNatClampNeg a2) (av_min 9999 ((q1.2.2 11 (Int32.toNatClampNeg a2)) + (av_min (q1.2.2 9 (Int32.toNatClampNeg a2)) (q1.2.2 8 (Int32.toNatClampNeg a2))))))) none)) none)) none)) none)) none)) none)))) := (av_eq tX4_payOut 4 [7] 41 7 _ _ h tabX4_payOut wfX4_payOut rfl).trans rfl
set_option maxHeartbeats 400000 in
set_option maxRecDepth 40000 in
theorem eX4_payOut_r5_7_2 (d : Nat) (h : av_M) (a1 : Int32) (a2 : Int32) (a3 : Int32) : av_xp d 44 7 [.ref 5, .int a1, .int a2, .int a3] [] h = (if (h 5 6) ≤ a2 then some ((0 : Int32), (0 : Int64), h) else ((av_x d 108 [.int a1, .int a2] h).bind fun q1 => (if q1.1 = 0 then av_xp d 44 7 [.ref 5, .int a1, .int (a2 + 1), .int a3] [] q1.2.2 else (cond (av_inb a2 7) ((cond (av_inb a2 7) ((cond (av_inb a2 7) ((cond (av_inb a2 7) ((cond (av_inb a2 7) ((cond (av_inb a2 7) (av_xp d 44 7 [.ref 5, .int a1, .int (a2 + 1), .int (av_min (q1.2.2 9 (Int32.toNatClampNeg a2)) (q1.2.2 8 (Int32.toNatClampNeg a2)))] [] (av_u (av_u q1.2.2 8 (Int32.toNatClampNeg a2) ((q1.2.2 8 (Int32.toNatClampNeg a2)) - (av_min (q1.2.2 9 (Int32.toNatClampNeg a2)) (q1.2.2 8 (Int32.toNatClampNeg a2))))) 11 (Int32.toNatClampNeg a2) (av_min 9999 ((q1.2.2 11 (Int32.toNatClampNeg a2)) + (av_min (q1.2.2 9 (Int32.toNatClampNeg a2)) (q1.2.2 8 (Int32.toNatClampNeg a2))))))) none)) none)) none)) none)) none)) none)))) := (av_eq tX4_payOut 4 [7] 41 7 _ _ h tabX4_payOut wfX4_payOut rfl).trans rfl
set_option maxHeartbeats 400000 in
set_option maxRecDepth 40000 in
theorem eX4_weight_r12_in (d : Nat) (h : av_M) (p1 : Int32) : av_x (d + 1) 38 [.ref 12, .int p1] h = av_xp d 38 4 [.ref 12, .int p1, .int 0, .int 0] [] h := (av_ent d 38 tX4_weight 4 _ h tabX4_weight).trans ((av_eq tX4_weight 4 [4] 5 0 _ _ h tabX4_weight wfX4_weight rfl).trans rfl)
set_option maxHeartbeats 400000 in
set_option maxRecDepth 40000 in
theorem eX4_weight_r12_4 (d : Nat) (h : av_M) (a1 : Int32) (a2 : Int32) (a3 : Int32) : av_xp d 38 4 [.ref 12, .int a1, .int a2, .int a3] [] h = (if (h 12 6) ≤ a3 then some ((a2 : Int32), (0 : Int64), h) else ((av_x d 108 [.int a1, .int a3] h).bind fun q1 => (if q1.1 = 0 then av_xp d 38 4 [.ref 12, .int a1, .int a2, .int (a3 + 1)] [] q1.2.2 else (cond (av_inb a3 7) (av_xp d 38 4 [.ref 12, .int a1, .int (a2 + (q1.2.2 14 (Int32.toNatClampNeg a3))), .int (a3 + 1)] [] q1.2.2) none)))) := (av_eq tX4_weight 4 [4] 18 4 _ _ h tabX4_weight wfX4_weight rfl).trans rfl
set_option maxHeartbeats 400000 in
set_option maxRecDepth 40000 in
theorem eX3_valueOf_r12_in (d : Nat) (h : av_M) (p0 : Int32) (p2 : Int32) : av_x (d + 1) 24 [.int p0, .ref 12, .int p2] h = (if p0 = 99 then ((av_x d 37 [.ref 12, .int p2] h).bind fun q2 => some ((q2.1 : Int32), (0 : Int64), q2.2.2)) else (if p0 = 100 then some ((((h 12 12) - (h 12 12) / 7 * 7) : Int32), (0 : Int64), h) else (if p0 = 101 then some ((((h 12 12) - (h 12 12) / 7 * 7) : Int32), (0 : Int64), h) else (if p0 = 102 then some ((((h 12 12) - (h 12 12) / 7 * 7) : Int32), (0 : Int64), h) else (if p0 = 103 then some ((((h 12 12) - (h 12 12) / 7 * 7) : Int32), (0 : Int64), h) else (if p0 = 104 then some ((((h 12 12) - (h 12 12) / 7 * 7) : Int32), (0 : Int64), h) else (if p0 = 105 then some ((((h 12 12) - (h 12 12) / 7 * 7) : Int32), (0 : Int64), h) else (if p0 = 106 then some ((((h 12 12) - (h 12 12) / 7 * 7) : Int32), (0 : Int64), h) else (if p0 = 107 then ((av_x d 32 [.ref 12, .int p2] h).bind fun q1 => some ((q1.1 : Int32), (0 : Int64), q1.2.2)) else (if p0 = 108 then some ((((h 12 12) - (h 12 12) / 7 * 7) : Int32), (0 : Int64), h) else (if p0 = 109 then some ((((h 12 12) - (h 12 12) / 7 * 7) : Int32), (0 : Int64), h) else (if p0 = 110 then some ((((h 12 12) - (h 12 12) / 7 * 7) : Int32), (0 : Int64), h) else (if p0 = 111 then some ((((h 12 12) - (h 12 12) / 7 * 7) : Int32), (0 : Int64), h) else (if p0 = 112 then (cond (av_inb p2 7) (some (((h 17 (Int32.toNatClampNeg p2)) : Int32), (0 : Int64), h)) none) else (if p0 = 113 then some ((((h 12 12) - (h 12 12) / 7 * 7) : Int32), (0 : Int64), h) else (if p0 = 114 then (cond (av_inb p2 7) (some (((h 15 (Int32.toNatClampNeg p2)) : Int32), (0 : Int64), h)) none) else (if p0 = 115 then (cond (av_inb p2 7) (some (((h 14 (Int32.toNatClampNeg p2)) : Int32), (0 : Int64), h)) none) else (if p0 = 116 then some ((((h 12 12) - (h 12 12) / 7 * 7) : Int32), (0 : Int64), h) else (if p0 = 117 then some ((((h 12 12) - (h 12 12) / 7 * 7) : Int32), (0 : Int64), h) else (if p0 = 118 then some (((h 12 11) : Int32), (0 : Int64), h) else some ((((h 12 12) - (h 12 12) / 7 * 7) : Int32), (0 : Int64), h))))))))))))))))))))) := (av_ent d 24 tX3_valueOf 3 _ h tabX3_valueOf).trans ((av_eq tX3_valueOf 3 [] 8 0 _ _ h tabX3_valueOf wfX3_valueOf rfl).trans rfl)
set_option maxHeartbeats 400000 in
set_option maxRecDepth 40000 in
theorem eX3_pull_r23_r12_in (d : Nat) (h : av_M) (p2 : Int32) : av_x (d + 1) 23 [.ref 23, .ref 12, .int p2] h = av_xp d 23 5 [.ref 23, .ref 12, .int p2, .int 0, .int 0, .null] [] h := (av_ent d 23 tX3_pull 6 _ h tabX3_pull).trans ((av_eq tX3_pull 6 [5, 27, 40, 80, 112, 120, 143, 147] 5 0 _ _ h tabX3_pull wfX3_pull rfl).trans rfl)
set_option maxHeartbeats 400000 in
set_option maxRecDepth 40000 in
theorem eX3_pull_r23_r12_5 (d : Nat) (h : av_M) (a2 : Int32) (a3 : Int32) (a4 : Int32) : av_xp d 23 5 [.ref 23, .ref 12, .int a2, .int a3, .int a4, .null] [] h = (if (h 23 3) ≤ a4 then ((av_x d 104 [.int (h 26 0), .int (-99), .int 99] h).bind fun q1 => some ((q1.1 : Int32), (0 : Int64), q1.2.2)) else (cond (av_inb a4 40) (av_xp d 23 27 [.ref 23, .ref 12, .int a2, .int a3, .int a4, .int ((h 24 (Int32.toNatClampNeg a4)) - 1000)] [] h) none)) := (av_eq tX3_pull 6 [5, 27, 40, 80, 112, 120, 143, 147] 13 5 _ _ h tabX3_pull wfX3_pull rfl).trans rfl
set_option maxHeartbeats 400000 in
set_option maxRecDepth 40000 in
theorem eX3_pull_r23_r12_27 (d : Nat) (h : av_M) (a2 : Int32) (a3 : Int32) (a4 : Int32) (a5 : Int32) : av_xp d 23 27 [.ref 23, .ref 12, .int a2, .int a3, .int a4, .int a5] [] h = (if a5 < 0 then av_xp d 23 40 [.ref 23, .ref 12, .int a2, .int a3, .int a4, .int a5] [] h else ((av_x d 21 [.int a5] h).bind fun q1 => (if q1.1 = 0 then av_xp d 23 80 [.ref 23, .ref 12, .int a2, .int a3, .int a4, .int a5] [] q1.2.2 else av_xp d 23 40 [.ref 23, .ref 12, .int a2, .int a3, .int a4, .int a5] [] q1.2.2))) := (av_eq tX3_pull 6 [5, 27, 40, 80, 112, 120, 143, 147] 6 27 _ _ h tabX3_pull wfX3_pull rfl).trans rfl
set_option maxHeartbeats 400000 in
set_option maxRecDepth 40000 in
theorem eX3_pull_r23_r12_40 (d : Nat) (h : av_M) (a2 : Int32) (a3 : Int32) (a4 : Int32) (a5 : Int32) : av_xp d 23 40 [.ref 23, .ref 12, .int a2, .int a3, .int a4, .int a5] [] h = (if 40 ≤ a3 then av_xp d 23 147 [.ref 23, .ref 12, .int a2, .int a3, .int a4, .int a5] [] h else (if 0 ≤ a5 then ((av_x d 24 [.int a5, .ref 12, .int a2] h).bind fun q1 => (cond (av_inb a3 40) (av_xp d 23 147 [.ref 23, .ref 12, .int a2, .int (a3 + 1), .int a4, .int a5] [] (av_u q1.2.2 26 (Int32.toNatClampNeg a3) q1.1)) none)) else (cond (av_inb a4 40) ((cond (av_inb a3 40) (av_xp d 23 147 [.ref 23, .ref 12, .int a2, .int (a3 + 1), .int a4, .int a5] [] (av_u h 26 (Int32.toNatClampNeg a3) (h 24 (Int32.toNatClampNeg a4)))) none)) none))) := (av_eq tX3_pull 6 [5, 27, 40, 80, 112, 120, 143, 147] 17 40 _ _ h tabX3_pull wfX3_pull rfl).trans rfl
set_option maxHeartbeats 400000 in
set_option maxRecDepth 40000 in
theorem eX3_pull_r23_r12_80 (d : Nat) (h : av_M) (a2 : Int32) (a3 : Int32) (a4 : Int32) (a5 : Int32) : av_xp d 23 80 [.ref 23, .ref 12, .int a2, .int a3, .int a4, .int a5] [] h = (if a5 = 256 then (if a3 ≤ 0 then av_xp d 23 147 [.ref 23, .ref 12, .int a2, .int a3, .int a4, .int a5] [] h else (cond (av_inb (a3 - 1) 40) ((cond (av_inb (a3 - 1) 40) (av_xp d 23 147 [.ref 23, .ref 12, .int a2, .int a3, .int a4, .int a5] [] (av_u h 26 (Int32.toNatClampNeg (a3 - 1)) (-(h 26 (Int32.toNatClampNeg (a3 - 1)))))) none)) none)) else av_xp d 23 112 [.ref 23, .ref 12, .int a2, .int a3, .int a4, .int a5] [] h) := (av_eq tX3_pull 6 [5, 27, 40, 80, 112, 120, 143, 147] 20 80 _ _ h tabX3_pull wfX3_pull rfl).trans rfl
set_option maxHeartbeats 400000 in
set_option maxRecDepth 40000 in
theorem eX3_pull_r23_r12_147 (d : Nat) (h : av_M) (a2 : Int32) (a3 : Int32) (a4 : Int32) (a5 : Int32) : av_xp d 23 147 [.ref 23, .ref 12, .int a2, .int a3, .int a4, .int a5] [] h = av_xp d 23 5 [.ref 23, .ref 12, .int a2, .int a3, .int (a4 + 1), .int a5] [] h := (av_eq tX3_pull 6 [5, 27, 40, 80, 112, 120, 143, 147] 3 147 _ _ h tabX3_pull wfX3_pull rfl).trans rfl
set_option maxHeartbeats 400000 in
set_option maxRecDepth 40000 in
theorem eX3_pull_r23_r12_112 (d : Nat) (h : av_M) (a2 : Int32) (a3 : Int32) (a4 : Int32) (a5 : Int32) : av_xp d 23 112 [.ref 23, .ref 12, .int a2, .int a3, .int a4, .int a5] [] h = (if a3 ≤ 1 then av_xp d 23 147 [.ref 23, .ref 12, .int a2, .int a3, .int a4, .int a5] [] h else av_xp d 23 120 [.ref 23, .ref 12, .int a2, .int (a3 + (-1)), .int a4, .int a5] [] h) := (av_eq tX3_pull 6 [5, 27, 40, 80, 112, 120, 143, 147] 5 112 _ _ h tabX3_pull wfX3_pull rfl).trans rfl
set_option maxHeartbeats 400000 in
set_option maxRecDepth 40000 in
theorem eX3_pull_r23_r12_5_2 (d : Nat) (h : av_M) (a2 : Int32) (a3 : Int32) (a4 : Int32) (a5 : Int32) : av_xp d 23 5 [.ref 23, .ref 12, .int a2, .int a3, .int a4, .int a5] [] h = (if (h 23 3) ≤ a4 then ((av_x d 104 [.int (h 26 0), .int (-99), .int 99] h).bind fun q1 => some ((q1.1 : Int32), (0 : Int64), q1.2.2)) else (cond (av_inb a4 40) (av_xp d 23 27 [.ref 23, .ref 12, .int a2, .int a3, .int a4, .int ((h 24 (Int32.toNatClampNeg a4)) - 1000)] [] h) none)) := (av_eq tX3_pull 6 [5, 27, 40, 80, 112, 120, 143, 147] 13 5 _ _ h tabX3_pull wfX3_pull rfl).trans rfl
set_option maxHeartbeats 400000 in
set_option maxRecDepth 40000 in
theorem eX3_pull_r23_r12_120 (d : Nat) (h : av_M) (a2 : Int32) (a3 : Int32) (a4 : Int32) (a5 : Int32) : av_xp d 23 120 [.ref 23, .ref 12, .int a2, .int a3, .int a4, .int a5] [] h = (cond (av_inb (a3 - 1) 40) ((cond (av_inb a3 40) (av_xp d 23 143 [.ref 23, .ref 12, .int a2, .int a3, .int a4, .int a5] [.int (h 26 (Int32.toNatClampNeg a3)), .int (h 26 (Int32.toNatClampNeg (a3 - 1))), .int a5, .int (a3 - 1), .ref 26] h) none)) none) := (av_eq tX3_pull 6 [5, 27, 40, 80, 112, 120, 143, 147] 17 120 _ _ h tabX3_pull wfX3_pull rfl).trans rfl
set_option maxHeartbeats 400000 in
set_option maxRecDepth 40000 in
theorem eX3_pull_r23_r12_143 (d : Nat) (h : av_M) (a2 : Int32) (a3 : Int32) (a4 : Int32) (a5 : Int32) (s0 : Int32) (s1 : Int32) (s2 : Int32) (s3 : Int32) : av_xp d 23 143 [.ref 23, .ref 12, .int a2, .int a3, .int a4, .int a5] [.int s0, .int s1, .int s2, .int s3, .ref 26] h = ((av_x d 25 [.int s2, .int s1, .int s0] h).bind fun q1 => (cond (av_inb s3 40) (av_xp d 23 147 [.ref 23, .ref 12, .int a2, .int a3, .int a4, .int a5] [] (av_u q1.2.2 26 (Int32.toNatClampNeg s3) q1.1)) none)) := (av_eq tX3_pull 6 [5, 27, 40, 80, 112, 120, 143, 147] 3 143 _ _ h tabX3_pull wfX3_pull rfl).trans rfl
theorem tabX4_companions : av_tab 37 = (tX4_companions, 5) := rfl
theorem wfX4_companions : av_wf tX4_companions = true := by decide +kernel
set_option maxHeartbeats 400000 in
set_option maxRecDepth 40000 in
theorem eX4_companions_r5_in (d : Nat) (h : av_M) (p1 : Int32) : av_x (d + 1) 37 [.ref 5, .int p1] h = av_xp d 37 15 [.ref 5, .int p1, .int ((h 5 8) ||| (h 5 9)), .int 0, .int 0] [] h := (av_ent d 37 tX4_companions 5 _ h tabX4_companions).trans ((av_eq tX4_companions 5 [15] 11 0 _ _ h tabX4_companions wfX4_companions rfl).trans rfl)
set_option maxHeartbeats 400000 in
set_option maxRecDepth 40000 in
theorem eX4_companions_r5_15 (d : Nat) (h : av_M) (a1 : Int32) (a2 : Int32) (a3 : Int32) (a4 : Int32) : av_xp d 37 15 [.ref 5, .int a1, .int a2, .int a3, .int a4] [] h = (if (h 5 6) ≤ a4 then some ((a3 : Int32), (0 : Int64), h) else (if a4 = a1 then av_xp d 37 15 [.ref 5, .int a1, .int a2, .int a3, .int (a4 + 1)] [] h else (cond (av_inb a4 7) ((cond (av_inb a1 7) ((if (h 6 (Int32.toNatClampNeg a4)) = (h 6 (Int32.toNatClampNeg a1)) then ((av_x d 108 [.int a2, .int a4] h).bind fun q1 => (if q1.1 = 0 then av_xp d 37 15 [.ref 5, .int a1, .int a2, .int (a3 + 1), .int (a4 + 1)] [] q1.2.2 else av_xp d 37 15 [.ref 5, .int a1, .int a2, .int a3, .int (a4 + 1)] [] q1.2.2)) else av_xp d 37 15 [.ref 5, .int a1, .int a2, .int a3, .int (a4 + 1)] [] h)) none)) none))) := (av_eq tX4_companions 5 [15] 24 15 _ _ h tabX4_companions wfX4_companions rfl).trans rfl
set_option maxHeartbeats 400000 in
set_option maxRecDepth 40000 in
theorem eX4_companions_r12_in (d : Nat) (h : av_M) (p1 : Int32) : av_x (d + 1) 37 [.ref 12, .int p1] h = av_xp d 37 15 [.ref 12, .int p1, .int ((h 12 8) ||| (h 12 9)), .int 0, .int 0] [] h := (av_ent d 37 tX4_companions 5 _ h tabX4_companions).trans ((av_eq tX4_companions 5 [15] 11 0 _ _ h tabX4_companions wfX4_companions rfl).trans rfl)
set_option maxHeartbeats 400000 in
set_option maxRecDepth 40000 in
theorem eX4_companions_r12_15 (d : Nat) (h : av_M) (a1 : Int32) (a2 : Int32) (a3 : Int32) (a4 : Int32) : av_xp d 37 15 [.ref 12, .int a1, .int a2, .int a3, .int a4] [] h = (if (h 12 6) ≤ a4 then some ((a3 : Int32), (0 : Int64), h) else (if a4 = a1 then av_xp d 37 15 [.ref 12, .int a1, .int a2, .int a3, .int (a4 + 1)] [] h else (cond (av_inb a4 7) ((cond (av_inb a1 7) ((if (h 13 (Int32.toNatClampNeg a4)) = (h 13 (Int32.toNatClampNeg a1)) then ((av_x d 108 [.int a2, .int a4] h).bind fun q1 => (if q1.1 = 0 then av_xp d 37 15 [.ref 12, .int a1, .int a2, .int (a3 + 1), .int (a4 + 1)] [] q1.2.2 else av_xp d 37 15 [.ref 12, .int a1, .int a2, .int a3, .int (a4 + 1)] [] q1.2.2)) else av_xp d 37 15 [.ref 12, .int a1, .int a2, .int a3, .int (a4 + 1)] [] h)) none)) none))) := (av_eq tX4_companions 5 [15] 24 15 _ _ h tabX4_companions wfX4_companions rfl).trans rfl
