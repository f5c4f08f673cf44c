/-! PURE, 48: how many bits of a long -/
def sh_ul (x : Int64) (c : Int32) : Int64 := (Int64.toUInt64 x >>> ((Int32.toInt64 c).toUInt64 &&& Int64.toUInt64 63)).toInt64
def sh_bl (x : Int64) : Int32 :=
  let i1 := x - (sh_ul x 1 &&& 6148914691236517205)
  let i2 := (i1 &&& 3689348814741910323) + (sh_ul i1 2 &&& 3689348814741910323)
  let i3 := (i2 + sh_ul i2 4) &&& 1085102592571150095
  let i4 := i3 + sh_ul i3 8
  let i5 := i4 + sh_ul i4 16
  let i6 := i5 + sh_ul i5 32
  (Int64.toInt32 i6) &&& 127
theorem c_bl (d : Nat) (x : Int64) (h : av_M) : av_x (d + 1) 276 [.long x] h = some (sh_bl x, 0, h) := by
  rw [eJ13_bitCount_95d88_in]
  rfl
theorem lN_and (a b : Nat) : lN a &&& lN b = lN (a &&& b) := by
  apply Int64.toBitVec_inj.1
  show BitVec.ofNat 64 a &&& BitVec.ofNat 64 b = BitVec.ofNat 64 (a &&& b)
  apply BitVec.eq_of_getLsbD_eq
  intro i hi
  simp [hi]
theorem lN_or (a b : Nat) : lN a ||| lN b = lN (a ||| b) := by
  apply Int64.toBitVec_inj.1
  show BitVec.ofNat 64 a ||| BitVec.ofNat 64 b = BitVec.ofNat 64 (a ||| b)
  apply BitVec.eq_of_getLsbD_eq
  intro i hi
  simp [hi]
theorem sh_u64 : ∀ k, k < 64 → (((Int32.toInt64 (nI k)).toUInt64 &&& Int64.toUInt64 63).toBitVec % 64).toNat = k := by decide +kernel
theorem lN_ush {a k : Nat} (ha : a < 2 ^ 64) (hk : k < 64) : sh_ul (lN a) (nI k) = lN (a / 2 ^ k) := by
  apply Int64.toBitVec_inj.1
  show ((lN a).toUInt64 >>> ((Int32.toInt64 (nI k)).toUInt64 &&& Int64.toUInt64 63)).toBitVec = _
  rw [UInt64.toBitVec_shiftRight]
  show BitVec.ofNat 64 a >>> ((((Int32.toInt64 (nI k)).toUInt64 &&& Int64.toUInt64 63).toBitVec % 64).toNat) = BitVec.ofNat 64 (a / 2 ^ k)
  rw [sh_u64 k hk]
  apply BitVec.eq_of_toNat_eq
  have h2 : a / 2 ^ k ≤ a := Nat.div_le_self _ _
  rw [BitVec.toNat_ushiftRight, BitVec.toNat_ofNat, BitVec.toNat_ofNat, Nat.mod_eq_of_lt ha, Nat.mod_eq_of_lt (by omega), Nat.shiftRight_eq_div_pow]
theorem sh_split (q M : Nat) {p m : Nat} (hp : p < 256) (hm : m < 256) : (256 * q + p) &&& (256 * M + m) = 256 * (q &&& M) + (p &&& m) := by
  have hpm : p &&& m < 2 ^ 8 := Nat.lt_of_le_of_lt Nat.and_le_left (by omega)
  apply Nat.eq_of_testBit_eq
  intro i
  rw [Nat.testBit_and, show 256 = 2 ^ 8 by decide, Nat.testBit_two_pow_mul_add q (by omega) i, Nat.testBit_two_pow_mul_add M (by omega) i, Nat.testBit_two_pow_mul_add (q &&& M) hpm i]
  by_cases e : i < 8
  · rw [if_pos e, if_pos e, if_pos e, Nat.testBit_and]
  · rw [if_neg e, if_neg e, if_neg e, Nat.testBit_and]
def sh_f1 (b : Nat) : Nat := b - (b / 2 &&& 85)
def sh_f2 (b : Nat) : Nat := (b &&& 51) + (b / 4 &&& 51)
def sh_f3 (b : Nat) : Nat := (b + b / 16) &&& 15
def sh_s1 (M x : Nat) : Nat := x - (x / 2 &&& M)
def sh_s2 (M x : Nat) : Nat := (x &&& M) + (x / 4 &&& M)
def sh_s3 (M x : Nat) : Nat := (x + x / 16) &&& M
theorem sh_d1 : ∀ b, b < 256 → ∀ c, c < 2 → (b / 2 + 128 * c) &&& 85 = (b / 2 &&& 85) := by decide +kernel
theorem sh_d2 : ∀ b, b < 256 → ∀ c, c < 4 → (b / 4 + 64 * c) &&& 51 = (b / 4 &&& 51) := by decide +kernel
theorem sh_d3 : ∀ b, b < 69 → ∀ c, c < 5 → (b + b / 16 + 16 * c) &&& 15 = sh_f3 b := by decide +kernel
theorem sh_d4 : ∀ b, b < 256 → sh_f1 b < 256 ∧ sh_f2 (sh_f1 b) < 69 ∧ sh_f2 (sh_f1 b) % 16 < 5 ∧ sh_f3 (sh_f2 (sh_f1 b)) = sh_cb (fun i => b.testBit i) 8 0 := by decide +kernel
theorem sh_a1 (M y : Nat) {b : Nat} (hb : b < 256) : sh_s1 (256 * M + 85) (256 * y + b) = 256 * sh_s1 M y + sh_f1 b := by
  unfold sh_s1 sh_f1
  rw [show (256 * y + b) / 2 = 256 * (y / 2) + (b / 2 + 128 * (y % 2)) by omega, sh_split _ _ (by omega) (by decide), sh_d1 b hb _ (by omega)]
  have h1 : (b / 2 &&& 85) ≤ b / 2 := Nat.and_le_left
  have h2 : (y / 2 &&& M) ≤ y / 2 := Nat.and_le_left
  generalize (b / 2 &&& 85) = u at h1 ⊢
  generalize (y / 2 &&& M) = v at h2 ⊢
  omega
theorem sh_a2 (M y : Nat) {b : Nat} (hb : b < 256) : sh_s2 (256 * M + 51) (256 * y + b) = 256 * sh_s2 M y + sh_f2 b := by
  unfold sh_s2 sh_f2
  rw [show (256 * y + b) / 4 = 256 * (y / 4) + (b / 4 + 64 * (y % 4)) by omega, sh_split y M hb (by decide), sh_split (y / 4) M (by omega) (by decide), sh_d2 b hb _ (by omega)]
  omega
theorem sh_a3 (M y : Nat) {b : Nat} (hb : b < 69) (hy : y % 16 < 5) : sh_s3 (256 * M + 15) (256 * y + b) = 256 * sh_s3 M y + sh_f3 b := by
  unfold sh_s3
  rw [show 256 * y + b + (256 * y + b) / 16 = 256 * (y + y / 16) + (b + b / 16 + 16 * (y % 16)) by omega, sh_split _ _ (by omega) (by decide), sh_d3 b hb _ hy]
def sh_p8 (b : Nat) : Nat := sh_cb (fun i => b.testBit i) 8 0
theorem sh_st {b0 b1 b2 b3 b4 : Nat} (h0 : b0 < 256) (h1 : b1 < 256) (h2 : b2 < 256) (h3 : b3 < 256) (h4 : b4 < 256) : sh_s3 1085102592571150095 (sh_s2 3689348814741910323 (sh_s1 6148914691236517205 (256 * (256 * (256 * (256 * b4 + b3) + b2) + b1) + b0))) = 256 * (256 * (256 * (256 * sh_p8 b4 + sh_p8 b3) + sh_p8 b2) + sh_p8 b1) + sh_p8 b0 := by
  obtain ⟨d0, e0, f0, g0⟩ := sh_d4 b0 h0
  obtain ⟨d1, e1, f1, g1⟩ := sh_d4 b1 h1
  obtain ⟨d2, e2, f2, g2⟩ := sh_d4 b2 h2
  obtain ⟨d3, e3, f3, g3⟩ := sh_d4 b3 h3
  obtain ⟨d4, e4, f4, g4⟩ := sh_d4 b4 h4
  rw [show 256 * (256 * (256 * (256 * b4 + b3) + b2) + b1) + b0 = 256 * (256 * (256 * (256 * (256 * 0 + b4) + b3) + b2) + b1) + b0 by omega]
  rw [show 6148914691236517205 = 256 * 24019198012642645 + 85 from rfl, sh_a1 _ _ h0, show 24019198012642645 = 256 * 93824992236885 + 85 from rfl, sh_a1 _ _ h1, show 93824992236885 = 256 * 366503875925 + 85 from rfl, sh_a1 _ _ h2, show 366503875925 = 256 * 1431655765 + 85 from rfl, sh_a1 _ _ h3, show 1431655765 = 256 * 5592405 + 85 from rfl, sh_a1 _ _ h4, show sh_s1 5592405 0 = 0 from Nat.zero_sub _]
  rw [show 3689348814741910323 = 256 * 14411518807585587 + 51 from rfl, sh_a2 _ _ d0, show 14411518807585587 = 256 * 56294995342131 + 51 from rfl, sh_a2 _ _ d1, show 56294995342131 = 256 * 219902325555 + 51 from rfl, sh_a2 _ _ d2, show 219902325555 = 256 * 858993459 + 51 from rfl, sh_a2 _ _ d3, show 858993459 = 256 * 3355443 + 51 from rfl, sh_a2 _ _ d4, show sh_s2 3355443 0 = 0 by unfold sh_s2; rw [Nat.zero_div, Nat.zero_and]]
  rw [show 1085102592571150095 = 256 * 4238682002231055 + 15 from rfl, sh_a3 _ _ e0 (by omega), show 4238682002231055 = 256 * 16557351571215 + 15 from rfl, sh_a3 _ _ e1 (by omega), show 16557351571215 = 256 * 64677154575 + 15 from rfl, sh_a3 _ _ e2 (by omega), show 64677154575 = 256 * 252645135 + 15 from rfl, sh_a3 _ _ e3 (by omega), show 252645135 = 256 * 986895 + 15 from rfl, sh_a3 _ _ e4 (by omega), show sh_s3 986895 0 = 0 by unfold sh_s3; rw [Nat.zero_div, Nat.zero_and]]
  rw [g0, g1, g2, g3, g4, Nat.mul_zero, Nat.zero_add]
  rfl
theorem sh_p8_le (b : Nat) : sh_p8 b ≤ 8 := sh_cb_le _ 8 0
theorem sh_sum5 {u0 u1 u2 u3 u4 : Nat} (p0 : u0 ≤ 8) (p1 : u1 ≤ 8) (p2 : u2 ≤ 8) (p3 : u3 ≤ 8) (p4 : u4 ≤ 8) : (256 * (256 * (256 * (256 * u4 + u3) + u2) + u1) + u0 + (256 * (256 * (256 * (256 * u4 + u3) + u2) + u1) + u0) / 256 + (256 * (256 * (256 * (256 * u4 + u3) + u2) + u1) + u0 + (256 * (256 * (256 * (256 * u4 + u3) + u2) + u1) + u0) / 256) / 65536 + (256 * (256 * (256 * (256 * u4 + u3) + u2) + u1) + u0 + (256 * (256 * (256 * (256 * u4 + u3) + u2) + u1) + u0) / 256 + (256 * (256 * (256 * (256 * u4 + u3) + u2) + u1) + u0 + (256 * (256 * (256 * (256 * u4 + u3) + u2) + u1) + u0) / 256) / 65536) / 4294967296) % 2 ^ 7 = u0 + u1 + u2 + u3 + u4 := by
  have e1 : (256 * (256 * (256 * (256 * u4 + u3) + u2) + u1) + u0) / 256 = 256 * (256 * (256 * u4 + u3) + u2) + u1 := by
    generalize 256 * (256 * (256 * u4 + u3) + u2) + u1 = z
    omega
  rw [e1]
  have e2 : 256 * (256 * (256 * (256 * u4 + u3) + u2) + u1) + u0 + (256 * (256 * (256 * u4 + u3) + u2) + u1) = 65536 * (65536 * u4 + 256 * (u3 + u4) + (u2 + u3)) + (256 * (u1 + u2) + (u0 + u1)) := by omega
  rw [e2]
  have e3 : (65536 * (65536 * u4 + 256 * (u3 + u4) + (u2 + u3)) + (256 * (u1 + u2) + (u0 + u1))) / 65536 = 65536 * u4 + 256 * (u3 + u4) + (u2 + u3) := by
    generalize 65536 * u4 + 256 * (u3 + u4) + (u2 + u3) = z
    omega
  rw [e3]
  have e4 : 65536 * (65536 * u4 + 256 * (u3 + u4) + (u2 + u3)) + (256 * (u1 + u2) + (u0 + u1)) + (65536 * u4 + 256 * (u3 + u4) + (u2 + u3)) = 4294967296 * u4 + (16777216 * (u3 + u4) + 65536 * (u2 + u3 + u4) + 256 * (u1 + u2 + u3 + u4) + (u0 + u1 + u2 + u3)) := by omega
  rw [e4]
  have e5 : (4294967296 * u4 + (16777216 * (u3 + u4) + 65536 * (u2 + u3 + u4) + 256 * (u1 + u2 + u3 + u4) + (u0 + u1 + u2 + u3))) / 4294967296 = u4 := by
    have : 16777216 * (u3 + u4) + 65536 * (u2 + u3 + u4) + 256 * (u1 + u2 + u3 + u4) + (u0 + u1 + u2 + u3) < 4294967296 := by omega
    generalize 16777216 * (u3 + u4) + 65536 * (u2 + u3 + u4) + 256 * (u1 + u2 + u3 + u4) + (u0 + u1 + u2 + u3) = z at this
    omega
  rw [e5]
  have e6 : 4294967296 * u4 + (16777216 * (u3 + u4) + 65536 * (u2 + u3 + u4) + 256 * (u1 + u2 + u3 + u4) + (u0 + u1 + u2 + u3)) + u4 = 128 * (33554432 * u4 + (131072 * (u3 + u4) + 512 * (u2 + u3 + u4) + 2 * (u1 + u2 + u3 + u4))) + (u0 + u1 + u2 + u3 + u4) := by omega
  rw [e6]
  generalize 33554432 * u4 + (131072 * (u3 + u4) + 512 * (u2 + u3 + u4) + 2 * (u1 + u2 + u3 + u4)) = z
  show _ % 128 = _
  omega
theorem sh_bl_5 {b0 b1 b2 b3 b4 : Nat} (h0 : b0 < 256) (h1 : b1 < 256) (h2 : b2 < 256) (h3 : b3 < 256) (h4 : b4 < 256) : sh_bl (lN (256 * (256 * (256 * (256 * b4 + b3) + b2) + b1) + b0)) = nI (sh_p8 b0 + sh_p8 b1 + sh_p8 b2 + sh_p8 b3 + sh_p8 b4) := by
  have hst := sh_st h0 h1 h2 h3 h4
  have hX : 256 * (256 * (256 * (256 * b4 + b3) + b2) + b1) + b0 < 2 ^ 40 := by omega
  generalize 256 * (256 * (256 * (256 * b4 + b3) + b2) + b1) + b0 = X at hst hX ⊢
  have p0 := sh_p8_le b0
  have p1 := sh_p8_le b1
  have p2 := sh_p8_le b2
  have p3 := sh_p8_le b3
  have p4 := sh_p8_le b4
  have l1 : (X / 2 ^ 1 &&& 6148914691236517205) ≤ X / 2 ^ 1 := Nat.and_le_left
  have q1 : lN X - (sh_ul (lN X) 1 &&& 6148914691236517205) = lN (sh_s1 6148914691236517205 X) := by
    rw [show (1 : Int32) = nI 1 from rfl, lN_ush (by omega) (by decide), show (6148914691236517205 : Int64) = lN 6148914691236517205 from rfl, lN_and, lN_sub (by omega)]
    rfl
  have b1' : sh_s1 6148914691236517205 X ≤ X := Nat.sub_le _ _
  have q2 : (lN (sh_s1 6148914691236517205 X) &&& 3689348814741910323) + (sh_ul (lN (sh_s1 6148914691236517205 X)) 2 &&& 3689348814741910323) = lN (sh_s2 3689348814741910323 (sh_s1 6148914691236517205 X)) := by
    rw [show (2 : Int32) = nI 2 from rfl, lN_ush (by omega) (by decide), show (3689348814741910323 : Int64) = lN 3689348814741910323 from rfl, lN_and, lN_and, lN_add]
    rfl
  have b2' : sh_s2 3689348814741910323 (sh_s1 6148914691236517205 X) ≤ X + X := by
    have u1 : (sh_s1 6148914691236517205 X &&& 3689348814741910323) ≤ sh_s1 6148914691236517205 X := Nat.and_le_left
    have u2 : (sh_s1 6148914691236517205 X / 4 &&& 3689348814741910323) ≤ sh_s1 6148914691236517205 X / 4 := Nat.and_le_left
    unfold sh_s2
    omega
  have q3 : (lN (sh_s2 3689348814741910323 (sh_s1 6148914691236517205 X)) + sh_ul (lN (sh_s2 3689348814741910323 (sh_s1 6148914691236517205 X))) 4) &&& 1085102592571150095 = lN (sh_s3 1085102592571150095 (sh_s2 3689348814741910323 (sh_s1 6148914691236517205 X))) := by
    rw [show (4 : Int32) = nI 4 from rfl, lN_ush (by omega) (by decide), show (1085102592571150095 : Int64) = lN 1085102592571150095 from rfl, lN_add, lN_and]
    rfl
  rw [hst] at q3
  generalize hY : 256 * (256 * (256 * (256 * sh_p8 b4 + sh_p8 b3) + sh_p8 b2) + sh_p8 b1) + sh_p8 b0 = Y at q3
  have bY : Y < 2 ^ 40 := by omega
  have q4 : lN Y + sh_ul (lN Y) 8 = lN (Y + Y / 256) := by
    rw [show (8 : Int32) = nI 8 from rfl, lN_ush (by omega) (by decide), lN_add]
  have q5 : lN (Y + Y / 256) + sh_ul (lN (Y + Y / 256)) 16 = lN (Y + Y / 256 + (Y + Y / 256) / 65536) := by
    rw [show (16 : Int32) = nI 16 from rfl, lN_ush (by omega) (by decide), lN_add]
  have q6 : lN (Y + Y / 256 + (Y + Y / 256) / 65536) + sh_ul (lN (Y + Y / 256 + (Y + Y / 256) / 65536)) 32 = lN (Y + Y / 256 + (Y + Y / 256) / 65536 + (Y + Y / 256 + (Y + Y / 256) / 65536) / 4294967296) := by
    rw [show (32 : Int32) = nI 32 from rfl, lN_ush (by omega) (by decide), lN_add]
  unfold sh_bl
  dsimp only
  rw [q1, q2, q3, q4, q5, q6, lN_i, show (127 : Int32) = nI 127 from rfl, nx_and]
  refine congrArg nI ?_
  rw [show 127 = 2 ^ 7 - 1 by decide, Nat.and_two_pow_sub_one_eq_mod, ← hY]
  exact sh_sum5 p0 p1 p2 p3 p4
theorem sh_cb_sh (P : Nat → Bool) (s : Nat) : ∀ t k, sh_cb P t (k + s) = sh_cb (fun i => P (i + s)) t k := by
  intro t
  induction t with
  | zero => intro k; rfl
  | succ t ih =>
    intro k
    show (match P (k + s) with
      | true => 1
      | false => 0) + sh_cb P t (k + s + 1) = (match P (k + s) with
      | true => 1
      | false => 0) + sh_cb (fun i => P (i + s)) t (k + 1)
    rw [← ih (k + 1), show k + 1 + s = k + s + 1 by omega]
theorem sh_byte8 (X j : Nat) : sh_p8 (X / 2 ^ (8 * j) % 256) = sh_cb (fun i => X.testBit i) 8 (8 * j) := by
  have e := sh_cb_sh (fun i => X.testBit i) (8 * j) 8 0
  rw [Nat.zero_add] at e
  rw [e]
  unfold sh_p8
  refine sh_cb_cong 8 0 (fun i _ hi => ?_)
  rw [show 256 = 2 ^ 8 by decide, Nat.testBit_mod_two_pow, Nat.testBit_div_two_pow, decide_eq_true (show i < 8 by omega), Bool.true_and]
theorem sh_bl_eq {X : Nat} (hX : X < 2 ^ 40) : sh_bl (lN X) = nI (sh_cb (fun i => X.testBit i) 40 0) := by
  have hx : X = 256 * (256 * (256 * (256 * (X / 2 ^ (8 * 4) % 256) + X / 2 ^ (8 * 3) % 256) + X / 2 ^ (8 * 2) % 256) + X / 2 ^ (8 * 1) % 256) + X / 2 ^ (8 * 0) % 256 := by omega
  have e : sh_bl (lN X) = _ := (congrArg (fun x => sh_bl (lN x)) hx).trans (sh_bl_5 (b0 := X / 2 ^ (8 * 0) % 256) (b1 := X / 2 ^ (8 * 1) % 256) (b2 := X / 2 ^ (8 * 2) % 256) (b3 := X / 2 ^ (8 * 3) % 256) (b4 := X / 2 ^ (8 * 4) % 256) (by omega) (by omega) (by omega) (by omega) (by omega))
  clear hx
  have y0 : sh_p8 (X / 2 ^ (8 * 0) % 256) = sh_cb (fun i => X.testBit i) 8 0 := sh_byte8 X 0
  have y1 : sh_p8 (X / 2 ^ (8 * 1) % 256) = sh_cb (fun i => X.testBit i) 8 8 := sh_byte8 X 1
  have y2 : sh_p8 (X / 2 ^ (8 * 2) % 256) = sh_cb (fun i => X.testBit i) 8 16 := sh_byte8 X 2
  have y3 : sh_p8 (X / 2 ^ (8 * 3) % 256) = sh_cb (fun i => X.testBit i) 8 24 := sh_byte8 X 3
  have y4 : sh_p8 (X / 2 ^ (8 * 4) % 256) = sh_cb (fun i => X.testBit i) 8 32 := sh_byte8 X 4
  rw [y0, y1, y2, y3, y4] at e
  rw [e]
  refine congrArg nI ?_
  have s1 : sh_cb (fun i => X.testBit i) 40 0 = sh_cb (fun i => X.testBit i) 8 0 + sh_cb (fun i => X.testBit i) 32 8 := sh_cb_split (fun i => X.testBit i) 8 32 0
  have s2 : sh_cb (fun i => X.testBit i) 32 8 = sh_cb (fun i => X.testBit i) 8 8 + sh_cb (fun i => X.testBit i) 24 16 := sh_cb_split (fun i => X.testBit i) 8 24 8
  have s3 : sh_cb (fun i => X.testBit i) 24 16 = sh_cb (fun i => X.testBit i) 8 16 + sh_cb (fun i => X.testBit i) 16 24 := sh_cb_split (fun i => X.testBit i) 8 16 16
  have s4 : sh_cb (fun i => X.testBit i) 16 24 = sh_cb (fun i => X.testBit i) 8 24 + sh_cb (fun i => X.testBit i) 8 32 := sh_cb_split (fun i => X.testBit i) 8 8 24
  rw [s1, s2, s3, s4, Nat.add_assoc, Nat.add_assoc, Nat.add_assoc]
/-- the bits of a row of answers -/
def sh_mk (P : Nat → Bool) : Nat → Nat
  | 0 => 0
  | t + 1 => match P t with
    | true => sh_mk P t + 2 ^ t
    | false => sh_mk P t
theorem sh_mk_lt (P : Nat → Bool) : ∀ t, sh_mk P t < 2 ^ t := by
  intro t
  induction t with
  | zero => exact Nat.one_pos
  | succ t ih =>
    unfold sh_mk
    rw [Nat.pow_succ]
    cases P t <;> dsimp only <;> omega
theorem sh_mk_or {X t : Nat} (h : X < 2 ^ t) : X ||| 2 ^ t = X + 2 ^ t := by
  have := Nat.two_pow_add_eq_or_of_lt h 1
  rw [Nat.mul_one] at this
  rw [Nat.or_comm, ← this, Nat.add_comm]
theorem sh_mk_bit (P : Nat → Bool) : ∀ t j, (sh_mk P t).testBit j = (decide (j < t) && P j) := by
  intro t
  induction t with
  | zero => intro j; show (0).testBit j = _; rw [Nat.zero_testBit]; rfl
  | succ t ih =>
    intro j
    unfold sh_mk
    cases hP : P t
    · dsimp only
      rw [ih j]
      by_cases e : j = t
      · subst e
        rw [hP, Bool.and_false, Bool.and_false]
      · by_cases l : j < t
        · rw [decide_eq_true l, decide_eq_true (show j < t + 1 by omega)]
        · rw [decide_eq_false l, decide_eq_false (show ¬ j < t + 1 by omega)]
    · dsimp only
      rw [← sh_mk_or (sh_mk_lt P t), Nat.testBit_or, ih j, Nat.testBit_two_pow]
      by_cases e : t = j
      · subst e
        rw [hP, decide_eq_true (show t < t + 1 by omega), decide_eq_true rfl, Bool.or_true]
        rfl
      · rw [decide_eq_false e, Bool.or_false]
        by_cases l : j < t
        · rw [decide_eq_true l, decide_eq_true (show j < t + 1 by omega)]
        · rw [decide_eq_false l, decide_eq_false (show ¬ j < t + 1 by omega)]
theorem sh_shl40 : ∀ k, k < 40 → (1 : Int64) <<< (Int32.toInt64 (nI k) &&& 63) = lN (2 ^ k) := by decide +kernel
theorem sh_bl_mk (P : Nat → Bool) : sh_bl (lN (sh_mk P 40)) = nI (sh_cb P 40 0) := by
  rw [sh_bl_eq (sh_mk_lt P 40)]
  refine congrArg nI ?_
  refine sh_cb_cong 40 0 (fun j _ hj => ?_)
  rw [sh_mk_bit, decide_eq_true (show j < 40 by omega), Bool.true_and]
theorem sh_bl_mk2 (P Q : Nat → Bool) : sh_bl (lN (sh_mk P 40) &&& lN (sh_mk Q 40)) = nI (sh_cb (fun l => P l && Q l) 40 0) := by
  rw [lN_and, sh_bl_eq (Nat.lt_of_le_of_lt Nat.and_le_left (sh_mk_lt P 40))]
  refine congrArg nI ?_
  refine sh_cb_cong 40 0 (fun j _ hj => ?_)
  rw [Nat.testBit_and, sh_mk_bit, sh_mk_bit, decide_eq_true (show j < 40 by omega), Bool.true_and, Bool.true_and]
