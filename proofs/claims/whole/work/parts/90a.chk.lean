/-! THE TABLES CHECKED: each row is the code's, each link is among the words. -/
def av_tbl : List Cond := lw_tbl.filter goodWord
theorem av_tbl_of {p : Nat} {w : Cond} (h : lw_tbl[p]? = some w) (g : goodWord w = true) : w ∈ av_tbl := List.mem_filter.mpr ⟨List.mem_of_getElem? h, g⟩
def av_word (p : Nat) (w : Cond) : Bool := decide (lw_tbl[p]? = some w) && goodWord w
theorem av_word_of {p : Nat} {w : Cond} (h : av_word p w = true) : w ∈ av_tbl := by
  simp only [av_word, Bool.and_eq_true, decide_eq_true_eq] at h
  exact av_tbl_of h.1 h.2
def av_nest : Cond → Bool
  | .fieldLinkNest _ _ _ _ _ _ => true
  | .methodLinkNest _ _ _ _ => true
  | .castable _ _ => true
  | .declares _ => true
  | _ => false
def av_nst : List Cond := lw_tbl.filter av_nest
def av_wordN (nest : Bool) (p : Nat) (w : Cond) : Bool := match nest with
  | true => decide (lw_tbl[p]? = some w) && av_nest w
  | false => av_word p w
theorem av_wordN_of {p : Nat} {w : Cond} (h : av_wordN true p w = true) : w ∈ av_nst := by
  simp only [av_wordN, Bool.and_eq_true, decide_eq_true_eq] at h
  exact List.mem_filter.mpr ⟨List.mem_of_getElem? h.1, h.2⟩
def av_fw (own idx : Nat) (nest : Bool) (c k : Nat) : Cond := match nest with
  | true => .fieldLinkNest (av_cn own) idx (av_cn c) (av_Tt c k).2.1 (av_Tt c k).2.2.1 RX6
  | false => .fieldLink (av_cn own) idx (av_cn c) (av_Tt c k).2.1 (av_Tt c k).2.2.1
def av_fchk (e : Nat × Nat × Bool × Nat × Nat × Nat) : Bool := match e with
  | (own, idx, nest, c, k, p) => av_wordN nest p (av_fw own idx nest c k) && Nat.blt k (av_nf c) && Nat.blt c 8 && decide ((av_Tt c k).1 = av_cn c)
def av_mw (own idx : Nat) (nest : Bool) (y : MethodName) : Cond := match nest with
  | true => .methodLinkNest (av_cn own) idx y RX6
  | false => .methodLink (av_cn own) idx y
def av_rk (ret : Option FieldType) (z : Nat) : Bool := match z with
  | 0 => decide (ret = none)
  | 1 => decide (ret = some .int) || decide (ret = some .boolean)
  | 2 => decide (ret = some .long)
  | _ => false
def av_cchk (e : Nat × Nat × Bool × Nat × Nat × Bool × Nat × Nat × Nat) : Bool := match e with
  | (own, idx, nest, k, p, st, n, z, o) => match av_mn k with
    | (c, y, _, _, ret, n', st', _) => av_wordN nest p (av_mw own idx nest y) && Nat.blt k 277 && (st == st') && Nat.beq n n' && Nat.beq c o && av_rk ret z
def av_py (z : Nat) : MethodName := match z with
  | 10 => Lib.Math.max.name
  | 11 => Lib.Math.min.name
  | 12 => Lib.Math.abs.name
  | 13 => ⟨"java/lang/String", "length", "()I"⟩
  | _ => ⟨"java/lang/String", "charAt", "(I)C"⟩
def av_pchk (e : Nat × Nat × Nat × Nat) : Bool := match e with
  | (own, idx, z, p) => av_word p (.methodLink (av_cn own) idx (av_py z))
def av_kchk (e : Nat × Nat × Int32 × Nat) : Bool := match e with
  | (own, idx, v, p) => av_word p (.constant (av_cn own) idx v)
def av_lchk (e : Nat × Nat × Int64 × Nat) : Bool := match e with
  | (own, idx, v, p) => av_word p (.constantLong (av_cn own) idx v)
/-- the String constants: index in the reference's file, which text -/
def av_sx : List Nat := [195, 237, 242, 244, 246, 338]
def av_so (w : Nat) : Nat := ([0, 1, 2, 3, 4, 5] : List Nat).getD w 0
/-- a row of a method of class own, code cc, that returns ret -/
def av_chk (own : Nat) (cc : ByteArray) (ret : Option FieldType) (q : av_I) : Bool := match q with
  | (pc, len, i, x, y, z, w, o, v, u, sw) => decide (decode cc pc = .ok (i, len)) && (match i with
    | .iload _ => Nat.beq len 2
    | .lload _ => Nat.beq len 2
    | .aload _ => Nat.beq len 2
    | .istore _ => Nat.beq len 2
    | .lstore _ => Nat.beq len 2
    | .iinc _ c => Nat.beq len 3 && decide (Int32.ofInt c = v)
    | .iconst c => Nat.beq len 1 && decide (Int32.ofInt c = v)
    | .bipush c => Nat.beq len 2 && decide ((Int8.ofInt c).toInt32 = v)
    | .sipush c => Nat.beq len 3 && decide ((Int16.ofInt c).toInt32 = v)
    | .lconst c => Nat.beq len 1 && decide (Int64.ofNat (c : Nat) = u)
    | .ldc idx => Nat.beq len 2 && (match z with
      | 0 => match av_kt[w]? with
        | some (a, b, c, _) => Nat.beq a own && Nat.beq b idx && decide (c = v)
        | none => false
      | _ => Nat.beq own 7 && Nat.blt w 6 && decide (av_sx[w]? = some idx) && Nat.beq x (92 + av_so w))
    | .ldc_w idx => Nat.beq len 3 && (match z with
      | 0 => match av_kt[w]? with
        | some (a, b, c, _) => Nat.beq a own && Nat.beq b idx && decide (c = v)
        | none => false
      | _ => Nat.beq own 7 && Nat.blt w 6 && decide (av_sx[w]? = some idx) && Nat.beq x (92 + av_so w))
    | .ldc2_w idx => Nat.beq len 3 && (match av_lt[w]? with
      | some (a, b, c, _) => Nat.beq a own && Nat.beq b idx && decide (c = u)
      | none => false)
    | .ifCond _ f => Nat.beq len 3 && decide ((pc : Int) + f = (x : Int))
    | .if_icmp _ f => Nat.beq len 3 && decide ((pc : Int) + f = (x : Int))
    | .goto f => Nat.beq len 3 && decide ((pc : Int) + f = (x : Int))
    | .tableswitch d lo hi offs => decide ((pc : Int) + d = (x : Int)) && decide (hi = lo + (offs.toList.length : Int) - 1) && decide (sw.map (fun s => s.1.toInt) = (List.range offs.toList.length).map (fun (k : Nat) => lo + (k : Int))) && decide (sw.map (fun s => (s.2 : Int)) = offs.toList.map (fun f => (pc : Int) + f))
    | .lookupswitch d ps => decide ((pc : Int) + d = (x : Int)) && (ps.toList.zip (ps.toList.drop 1)).all (fun (a, next) => a.1 < next.1) && decide (sw.map (fun s => (s.1.toInt, (s.2 : Int))) = ps.toList.map (fun f => (f.1, (pc : Int) + f.2)))
    | .getfield idx => Nat.beq len 3 && (match av_ft[w]? with
      | some (a, b, _, c, k, _) => Nat.beq a own && Nat.beq b idx && Nat.beq c x && Nat.beq k y
      | none => false)
    | .putfield idx => Nat.beq len 3 && (match av_ft[w]? with
      | some (a, b, _, c, k, _) => Nat.beq a own && Nat.beq b idx && Nat.beq c x && Nat.beq k y && !(av_Tt c k).2.2.2 && (match z with
        | 0 => decide (av_ty c k = .int)
        | _ => decide (av_ty c k = .boolean))
      | none => false)
    | .invokestatic idx => Nat.beq len 3 && (match z with
      | 20 => true
      | 10 => match av_pt[w]? with
        | some (a, b, c, _) => Nat.beq a own && Nat.beq b idx && Nat.beq c 10
        | none => false
      | 11 => match av_pt[w]? with
        | some (a, b, c, _) => Nat.beq a own && Nat.beq b idx && Nat.beq c 11
        | none => false
      | 12 => match av_pt[w]? with
        | some (a, b, c, _) => Nat.beq a own && Nat.beq b idx && Nat.beq c 12
        | none => false
      | z => match av_ct[w]? with
        | some (a, b, _, k, _, st, n, z', _) => Nat.beq a own && Nat.beq b idx && Nat.beq k x && st && Nat.beq n y && Nat.beq z' z
        | none => false)
    | .invokevirtual idx => Nat.beq len 3 && (match z with
      | 13 => match av_pt[w]? with
        | some (a, b, c, _) => Nat.beq a own && Nat.beq b idx && Nat.beq c 13
        | none => false
      | 14 => match av_pt[w]? with
        | some (a, b, c, _) => Nat.beq a own && Nat.beq b idx && Nat.beq c 14
        | none => false
      | z => match av_ct[w]? with
        | some (a, b, _, k, _, st, n, z', o') => Nat.beq a own && Nat.beq b idx && Nat.beq k x && !st && Nat.beq n y && Nat.beq z' z && Nat.beq o' o && Nat.blt o 8
        | none => false)
    | .ireturn => Nat.beq len 1 && (match x with
      | 0 => decide (ret = some .int)
      | _ => decide (ret = some .boolean))
    | .lreturn => Nat.beq len 1 && decide (ret = some .long)
    | .return_ => Nat.beq len 1 && decide (ret = none)
    | .new _ => true
    | .newarray _ => true
    | .invokespecial _ => true
    | _ => Nat.beq len 1)
/-- a method is as the tables say -/
def av_gd (e : av_ME) : Prop := match e with
  | (c, y, cc, nL, ret, n, st, p1, p2, p3, p4, T) => av_wf T = true ∧ T.all (av_chk c cc ret) = true ∧ Nat.ble nL 12 = true ∧ (c = 10 ∨ (Cond.code y cc nL ret ∈ av_tbl ∧ (match st with
    | true => Cond.static y ∈ av_tbl
    | false => Cond.instanceMethod y ∈ av_tbl ∧ Cond.selects (av_cn c) y y ∈ av_tbl) ∧ Cond.initialized y.cls ∈ av_tbl ∧ y.cls = av_cn c ∧ plainName y.cls = true ∧ (y.cls ≠ "java/lang/invoke/MethodHandle" ∧ y.cls ≠ "java/lang/invoke/VarHandle" ∧ (parseMethodDescriptor y.desc).map (fun d => d.parameters.length) = some n)))
theorem av_tbl_t {p : Nat} {w : Cond} (h : tables_1[p]? = some w) (g : goodWord w = true) : w ∈ av_tbl := List.mem_filter.mpr ⟨List.mem_append_right _ (List.mem_of_getElem? h), g⟩
theorem av_all2 {α : Type} {f : α → Bool} {a b : List α} (ha : a.all f = true) (hb : b.all f = true) : (a ++ b).all f = true := by
  rw [List.all_append, ha, hb]; rfl

theorem av_lays0 : u_ws RX0 TX0 5 = [292, 294, 296, 298, 300].filterMap (fun i => lw_tbl[i]?) ∧ (u_ws RX0 TX0 5).all goodWord = true := by decide +kernel
theorem av_lays1 : u_ws RX1 TX1 5 = [266, 268, 270, 272, 274].filterMap (fun i => lw_tbl[i]?) ∧ (u_ws RX1 TX1 5).all goodWord = true := by decide +kernel
theorem av_lays2 : u_ws RX2 TX2 2 = [150, 152].filterMap (fun i => lw_tbl[i]?) ∧ (u_ws RX2 TX2 2).all goodWord = true := by decide +kernel
theorem av_lays3 : u_ws RX3 TX3 9 = [235, 237, 239, 241, 243, 245, 247, 249, 251].filterMap (fun i => lw_tbl[i]?) ∧ (u_ws RX3 TX3 9).all goodWord = true := by decide +kernel
theorem av_lays4 : u_ws RX4 TX4 13 = [193, 195, 197, 199, 201, 203, 205, 207, 209, 211, 213, 215, 217].filterMap (fun i => lw_tbl[i]?) ∧ (u_ws RX4 TX4 13).all goodWord = true := by decide +kernel
theorem av_lays5 : u_ws RX5 TX5 2 = [134, 136].filterMap (fun i => lw_tbl[i]?) ∧ (u_ws RX5 TX5 2).all goodWord = true := by decide +kernel
theorem av_lays6 : u_ws RX6 TX6 14 = [317, 319, 321, 323, 325, 327, 329, 331, 333, 335, 337, 339, 341, 343].filterMap (fun i => lw_tbl[i]?) ∧ (u_ws RX6 TX6 14).all goodWord = true := by decide +kernel
theorem av_lays7 : u_ws RX7 TX7 48 = [1114, 1116, 1118, 1120, 1122, 1124, 1126, 1128, 1130, 1132, 1134, 1136, 1138, 1140, 1142, 1144, 1146, 1148, 1150, 1152, 1154, 1156, 1158, 1160, 1162, 1164, 1166, 1168, 1170, 1172, 1174, 1176, 1178, 1180, 1182, 1184, 1186, 1188, 1190, 1192, 1194, 1196, 1198, 1200, 1202, 1204, 1206, 1208].filterMap (fun i => lw_tbl[i]?) ∧ (u_ws RX7 TX7 48).all goodWord = true := by decide +kernel
theorem av_ft_ok : av_ft.all av_fchk = true := by decide +kernel
theorem av_ct_ok : av_ct.all av_cchk = true := by decide +kernel
theorem av_pt_ok : av_pt.all av_pchk = true := by decide +kernel
theorem av_kt_ok : av_kt.all av_kchk = true := by decide +kernel
theorem av_lt_ok : av_lt.all av_lchk = true := by decide +kernel
