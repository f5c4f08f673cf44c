/-! THE LAW: the segments of its helpers -/
set_option maxHeartbeats 400000 in
set_option maxRecDepth 40000 in
theorem eL_336a {β : Type} (E : Nat → List Value → av_M → Option av_R) (rt : av_R → Option β) (K : Nat → List Value → List Value → av_M → Option β) (a4 : Int32) (x5 x6 x7 : Value) (h : av_M) : av_seg E rt K tL_law [350] 13 (av_at tL_law 336) [.ref 90, .ref 0, .ref 44, .ref 76, .int a4, x5, x6, x7] [] h = (cond (av_ins (a4 + 1) (h 91 0)) ((cond (av_ins (a4 + 2) (h 91 0)) (K 350 [.ref 90, .ref 0, .ref 44, .ref 76, .int a4, x5, x6, x7] [.ref 76, .int (h 90 (Int32.toNatClampNeg (a4 + 2))), .int (h 90 (Int32.toNatClampNeg (a4 + 1))), .ref 0] h) none)) none) := rfl
set_option maxHeartbeats 400000 in
set_option maxRecDepth 40000 in
theorem eL_336b {β : Type} (E : Nat → List Value → av_M → Option av_R) (rt : av_R → Option β) (K : Nat → List Value → List Value → av_M → Option β) (a4 : Int32) (x5 x6 x7 : Value) (s0 : Int32) (h : av_M) : av_seg E rt K tL_law [355] 2 (av_at tL_law 353) [.ref 90, .ref 0, .ref 44, .ref 76, .int a4, x5, x6, x7] [.int s0] h = K 355 [.ref 90, .ref 0, .ref 44, .ref 76, .int a4, .int s0, x6, x7] [] h := rfl
set_option maxHeartbeats 400000 in
set_option maxRecDepth 40000 in
theorem eL_336c {β : Type} (E : Nat → List Value → av_M → Option av_R) (rt : av_R → Option β) (K : Nat → List Value → List Value → av_M → Option β) (a4 : Int32) (y5 : Int32) (x6 x7 : Value) (h : av_M) : av_seg E rt K tL_law [371] 13 (av_at tL_law 355) [.ref 90, .ref 0, .ref 44, .ref 76, .int a4, .int y5, x6, x7] [] h = (cond (av_ins (a4 + 1) (h 91 0)) ((cond (av_ins (a4 + 2) (h 91 0)) (((E 195 [.ref 44, .int (h 90 (Int32.toNatClampNeg (a4 + 1))), .int (h 90 (Int32.toNatClampNeg (a4 + 2)))] h).bind fun q1 => K 371 [.ref 90, .ref 0, .ref 44, .ref 76, .int a4, .int y5, x6, x7] [.int q1.1] q1.2.2)) none)) none) := rfl
set_option maxHeartbeats 400000 in
set_option maxRecDepth 40000 in
theorem eL_336d {β : Type} (E : Nat → List Value → av_M → Option av_R) (rt : av_R → Option β) (K : Nat → List Value → List Value → av_M → Option β) (a4 : Int32) (y5 : Int32) (x6 x7 : Value) (s0 : Int32) (h : av_M) : av_seg E rt K tL_law [373] 2 (av_at tL_law 371) [.ref 90, .ref 0, .ref 44, .ref 76, .int a4, .int y5, x6, x7] [.int s0] h = K 373 [.ref 90, .ref 0, .ref 44, .ref 76, .int a4, .int y5, .int s0, x7] [] h := rfl
set_option maxHeartbeats 400000 in
set_option maxRecDepth 40000 in
theorem eL_336e {β : Type} (E : Nat → List Value → av_M → Option av_R) (rt : av_R → Option β) (K : Nat → List Value → List Value → av_M → Option β) (a4 : Int32) (y5 y6 : Int32) (x7 : Value) (h : av_M) : av_seg E rt K tL_law [377] 3 (av_at tL_law 373) [.ref 90, .ref 0, .ref 44, .ref 76, .int a4, .int y5, .int y6, x7] [] h = ((E 156 [.ref 44] h).bind fun q1 => K 377 [.ref 90, .ref 0, .ref 44, .ref 76, .int a4, .int y5, .int y6, x7] [.int q1.1] q1.2.2) := rfl
set_option maxHeartbeats 400000 in
set_option maxRecDepth 40000 in
theorem eL_336f {β : Type} (E : Nat → List Value → av_M → Option av_R) (rt : av_R → Option β) (K : Nat → List Value → List Value → av_M → Option β) (a4 : Int32) (y5 y6 : Int32) (x7 : Value) (s0 : Int32) (h : av_M) : av_seg E rt K tL_law [384] 5 (av_at tL_law 377) [.ref 90, .ref 0, .ref 44, .ref 76, .int a4, .int y5, .int y6, x7] [.int s0] h = (if s0 = y5 then K 384 [.ref 90, .ref 0, .ref 44, .ref 76, .int a4, .int y5, .int y6, x7] [] h else rt (((0 &&& 1) : Int32), (0 : Int64), h)) := rfl
set_option maxHeartbeats 400000 in
set_option maxRecDepth 40000 in
theorem eL_336g {β : Type} (E : Nat → List Value → av_M → Option av_R) (rt : av_R → Option β) (K : Nat → List Value → List Value → av_M → Option β) (a4 : Int32) (y5 y6 : Int32) (x7 : Value) (h : av_M) : av_seg E rt K tL_law [389, 401] 3 (av_at tL_law 384) [.ref 90, .ref 0, .ref 44, .ref 76, .int a4, .int y5, .int y6, x7] [] h = (if y5 = 0 then K 389 [.ref 90, .ref 0, .ref 44, .ref 76, .int a4, .int y5, .int y6, x7] [] h else K 401 [.ref 90, .ref 0, .ref 44, .ref 76, .int a4, .int y5, .int y6, x7] [] h) := rfl
set_option maxHeartbeats 400000 in
set_option maxRecDepth 40000 in
theorem eL_336h {β : Type} (E : Nat → List Value → av_M → Option av_R) (rt : av_R → Option β) (K : Nat → List Value → List Value → av_M → Option β) (a4 : Int32) (y5 y6 : Int32) (x7 : Value) (h : av_M) : av_seg E rt K tL_law [392] 4 (av_at tL_law 389) [.ref 90, .ref 0, .ref 44, .ref 76, .int a4, .int y5, .int y6, x7] [] h = K 392 [.ref 90, .ref 0, .ref 44, .ref 76, .int a4, .int y5, .int y6, x7] [.long (av_jn (h 76 (2 * Int32.toNatClampNeg 0)) (h 76 (2 * Int32.toNatClampNeg 0 + 1)))] h := rfl
set_option maxHeartbeats 400000 in
set_option maxRecDepth 40000 in
theorem eL_336j {β : Type} (E : Nat → List Value → av_M → Option av_R) (rt : av_R → Option β) (K : Nat → List Value → List Value → av_M → Option β) (a4 : Int32) (y5 y6 : Int32) (x7 : Value) (s0 : Int64) (h : av_M) : av_seg E rt K tL_law [401] 7 (av_at tL_law 392) [.ref 90, .ref 0, .ref 44, .ref 76, .int a4, .int y5, .int y6, x7] [.long s0] h = (if (lg_cmp s0 (Int32.toInt64 y6)) = 0 then K 401 [.ref 90, .ref 0, .ref 44, .ref 76, .int a4, .int y5, .int y6, x7] [] h else rt (((0 &&& 1) : Int32), (0 : Int64), h)) := rfl
set_option maxHeartbeats 400000 in
set_option maxRecDepth 40000 in
theorem eL_336i {β : Type} (E : Nat → List Value → av_M → Option av_R) (rt : av_R → Option β) (K : Nat → List Value → List Value → av_M → Option β) (a4 : Int32) (y5 y6 : Int32) (x7 : Value) (h : av_M) : av_seg E rt K tL_law [1621] 2 (av_at tL_law 401) [.ref 90, .ref 0, .ref 44, .ref 76, .int a4, .int y5, .int y6, x7] [] h = K 1621 [.ref 90, .ref 0, .ref 44, .ref 76, .int a4, .int y5, .int y6, x7] [] h := rfl
set_option maxHeartbeats 400000 in
set_option maxRecDepth 40000 in
theorem eL_1566a {β : Type} (E : Nat → List Value → av_M → Option av_R) (rt : av_R → Option β) (K : Nat → List Value → List Value → av_M → Option β) (a4 : Int32) (x5 x6 x7 : Value) (h : av_M) : av_seg E rt K tL_law [1574] 8 (av_at tL_law 1566) [.ref 90, .ref 0, .ref 44, .ref 76, .int a4, x5, x6, x7] [] h = (cond (av_ins (a4 + 1) (h 91 0)) (K 1574 [.ref 90, .ref 0, .ref 44, .ref 76, .int a4, x5, x6, x7] [.ref 76, .int (h 90 (Int32.toNatClampNeg (a4 + 1))), .ref 0] h) none) := rfl
set_option maxHeartbeats 400000 in
set_option maxRecDepth 40000 in
theorem eL_1566b {β : Type} (E : Nat → List Value → av_M → Option av_R) (rt : av_R → Option β) (K : Nat → List Value → List Value → av_M → Option β) (a4 : Int32) (x5 x6 x7 : Value) (s0 : Int32) (h : av_M) : av_seg E rt K tL_law [1579] 2 (av_at tL_law 1577) [.ref 90, .ref 0, .ref 44, .ref 76, .int a4, x5, x6, x7] [.int s0] h = K 1579 [.ref 90, .ref 0, .ref 44, .ref 76, .int a4, .int s0, x6, x7] [] h := rfl
set_option maxHeartbeats 400000 in
set_option maxRecDepth 40000 in
theorem eL_1566c {β : Type} (E : Nat → List Value → av_M → Option av_R) (rt : av_R → Option β) (K : Nat → List Value → List Value → av_M → Option β) (a4 : Int32) (y5 : Int32) (x6 x7 : Value) (h : av_M) : av_seg E rt K tL_law [1589] 8 (av_at tL_law 1579) [.ref 90, .ref 0, .ref 44, .ref 76, .int a4, .int y5, x6, x7] [] h = (cond (av_ins (a4 + 1) (h 91 0)) (((E 274 [.ref 44, .int (h 90 (Int32.toNatClampNeg (a4 + 1)))] h).bind fun q1 => K 1589 [.ref 90, .ref 0, .ref 44, .ref 76, .int a4, .int y5, x6, x7] [.long q1.2.1] q1.2.2)) none) := rfl
set_option maxHeartbeats 400000 in
set_option maxRecDepth 40000 in
theorem eL_1566d {β : Type} (E : Nat → List Value → av_M → Option av_R) (rt : av_R → Option β) (K : Nat → List Value → List Value → av_M → Option β) (a4 : Int32) (y5 : Int32) (x6 x7 : Value) (s0 : Int64) (h : av_M) : av_seg E rt K tL_law [1591] 2 (av_at tL_law 1589) [.ref 90, .ref 0, .ref 44, .ref 76, .int a4, .int y5, x6, x7] [.long s0] h = K 1591 [.ref 90, .ref 0, .ref 44, .ref 76, .int a4, .int y5, .long s0, .null] [] h := rfl
set_option maxHeartbeats 400000 in
set_option maxRecDepth 40000 in
theorem eL_1566e {β : Type} (E : Nat → List Value → av_M → Option av_R) (rt : av_R → Option β) (K : Nat → List Value → List Value → av_M → Option β) (a4 : Int32) (y5 : Int32) (y6 : Int64) (h : av_M) : av_seg E rt K tL_law [1595] 3 (av_at tL_law 1591) [.ref 90, .ref 0, .ref 44, .ref 76, .int a4, .int y5, .long y6, .null] [] h = ((E 156 [.ref 44] h).bind fun q1 => K 1595 [.ref 90, .ref 0, .ref 44, .ref 76, .int a4, .int y5, .long y6, .null] [.int q1.1] q1.2.2) := rfl
set_option maxHeartbeats 400000 in
set_option maxRecDepth 40000 in
theorem eL_1566f {β : Type} (E : Nat → List Value → av_M → Option av_R) (rt : av_R → Option β) (K : Nat → List Value → List Value → av_M → Option β) (a4 : Int32) (y5 : Int32) (y6 : Int64) (s0 : Int32) (h : av_M) : av_seg E rt K tL_law [1602] 5 (av_at tL_law 1595) [.ref 90, .ref 0, .ref 44, .ref 76, .int a4, .int y5, .long y6, .null] [.int s0] h = (if s0 = y5 then K 1602 [.ref 90, .ref 0, .ref 44, .ref 76, .int a4, .int y5, .long y6, .null] [] h else rt (((0 &&& 1) : Int32), (0 : Int64), h)) := rfl
set_option maxHeartbeats 400000 in
set_option maxRecDepth 40000 in
theorem eL_1566g {β : Type} (E : Nat → List Value → av_M → Option av_R) (rt : av_R → Option β) (K : Nat → List Value → List Value → av_M → Option β) (a4 : Int32) (y5 : Int32) (y6 : Int64) (h : av_M) : av_seg E rt K tL_law [1607, 1618] 3 (av_at tL_law 1602) [.ref 90, .ref 0, .ref 44, .ref 76, .int a4, .int y5, .long y6, .null] [] h = (if y5 = 0 then K 1607 [.ref 90, .ref 0, .ref 44, .ref 76, .int a4, .int y5, .long y6, .null] [] h else K 1618 [.ref 90, .ref 0, .ref 44, .ref 76, .int a4, .int y5, .long y6, .null] [] h) := rfl
set_option maxHeartbeats 400000 in
set_option maxRecDepth 40000 in
theorem eL_1566h {β : Type} (E : Nat → List Value → av_M → Option av_R) (rt : av_R → Option β) (K : Nat → List Value → List Value → av_M → Option β) (a4 : Int32) (y5 : Int32) (y6 : Int64) (h : av_M) : av_seg E rt K tL_law [1610] 4 (av_at tL_law 1607) [.ref 90, .ref 0, .ref 44, .ref 76, .int a4, .int y5, .long y6, .null] [] h = K 1610 [.ref 90, .ref 0, .ref 44, .ref 76, .int a4, .int y5, .long y6, .null] [.long (av_jn (h 76 (2 * Int32.toNatClampNeg 0)) (h 76 (2 * Int32.toNatClampNeg 0 + 1)))] h := rfl
set_option maxHeartbeats 400000 in
set_option maxRecDepth 40000 in
theorem eL_1566j {β : Type} (E : Nat → List Value → av_M → Option av_R) (rt : av_R → Option β) (K : Nat → List Value → List Value → av_M → Option β) (a4 : Int32) (y5 : Int32) (y6 : Int64) (s0 : Int64) (h : av_M) : av_seg E rt K tL_law [1618] 6 (av_at tL_law 1610) [.ref 90, .ref 0, .ref 44, .ref 76, .int a4, .int y5, .long y6, .null] [.long s0] h = (if (lg_cmp s0 y6) = 0 then K 1618 [.ref 90, .ref 0, .ref 44, .ref 76, .int a4, .int y5, .long y6, .null] [] h else rt (((0 &&& 1) : Int32), (0 : Int64), h)) := rfl
set_option maxHeartbeats 400000 in
set_option maxRecDepth 40000 in
theorem eL_1566i {β : Type} (E : Nat → List Value → av_M → Option av_R) (rt : av_R → Option β) (K : Nat → List Value → List Value → av_M → Option β) (a4 : Int32) (y5 : Int32) (y6 : Int64) (h : av_M) : av_seg E rt K tL_law [1621] 2 (av_at tL_law 1618) [.ref 90, .ref 0, .ref 44, .ref 76, .int a4, .int y5, .long y6, .null] [] h = K 1621 [.ref 90, .ref 0, .ref 44, .ref 76, .int a4, .int y5, .long y6, .null] [] h := rfl
