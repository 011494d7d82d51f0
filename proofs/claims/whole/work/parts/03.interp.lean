/-! The evaluator: a frame is run over an abstract world; a reference is a place in the world. -/
abbrev xi_C : Type := vp_A ⊕ (Nat × List Value)
abbrev xi_W : Type := List xi_C
abbrev xi_L : Type := List (Option Value)
abbrev xi_R : Type := Option Value × xi_W
abbrev xi_E : Type := Jvm.ClassFile.Instr × Value × List Bool
def xi_mp (ad : Nat → Nat) (v : Value) : Value := match v with
  | .ref i => .ref (ad i)
  | w => w
def xi_cr (ad : Nat → Nat) (ca : Nat → ClassId) (i : Nat) (x : xi_C) : Nat × va_E := match x with
  | .inl a => (ad i, .inl (ca i, a))
  | .inr o => (ad i, .inr (o.1, o.2.map (xi_mp ad)))
def xi_rl (ad : Nat → Nat) (ca : Nat → ClassId) (aw : xi_W) : va_W := aw.mapIdx (xi_cr ad ca)
def xi_lg (L : xi_L) (i : Nat) : Option Value := match L[i]? with
  | some (some v) => some v
  | _ => none
def xi_kd (v : Value) : Nat := match v with
  | .int _ => 0
  | .long _ => 1
  | .ref _ => 2
  | _ => 3
def xi_pk (L : xi_L) (i : Nat) : Bool := match i with
  | 0 => true
  | j + 1 => match xi_lg L j with
    | some (.long _) => false
    | some (.double _) => false
    | _ => true
def xi_mk : List Bool → xi_L → xi_L
  | [], L => L
  | _ :: _, [] => []
  | b :: bs, x :: L => (match b with
    | true => x
    | false => none) :: xi_mk bs L
def xi_o2 (f : Int32 → Int32 → Int32) (st : List Value) : Option (List Value) := match st with
  | .int y :: .int x :: r => some (.int (f x y) :: r)
  | _ => none
def xi_o1 (f : Int32 → Value) (st : List Value) : Option (List Value) := match st with
  | .int x :: r => some (f x :: r)
  | _ => none
def xi_q1 (f : Int64 → Value) (st : List Value) : Option (List Value) := match st with
  | .long x :: r => some (f x :: r)
  | _ => none
def xi_q2 (f : Int64 → Int64 → Int64) (st : List Value) : Option (List Value) := match st with
  | .long y :: .long x :: r => some (.long (f x y) :: r)
  | _ => none
def xi_qs (f : Int64 → Int32 → Int64) (st : List Value) : Option (List Value) := match st with
  | .int y :: .long x :: r => some (.long (f x y) :: r)
  | _ => none
def xi_c1 (v : Value) : Bool := match v with
  | .long _ => false
  | .double _ => false
  | _ => true
def xi_du (st : List Value) : Option (List Value) := match st with
  | v :: r => (match xi_c1 v with
    | true => some (v :: v :: r)
    | false => none)
  | _ => none
def xi_po (st : List Value) : Option (List Value) := match st with
  | v :: r => (match xi_c1 v with
    | true => some r
    | false => none)
  | _ => none
def xi_dx (st : List Value) : Option (List Value) := match st with
  | v :: w :: r => (match xi_c1 v with
    | true => (match xi_c1 w with
      | true => some (v :: w :: v :: r)
      | false => none)
    | false => none)
  | _ => none
def xi_d2 (st : List Value) : Option (List Value) := match st with
  | v :: w :: r => (match xi_c1 v with
    | true => (match xi_c1 w with
      | true => some (v :: w :: v :: w :: r)
      | false => none)
    | false => none)
  | _ => none
/-- instructions of one byte that change the operand stack alone -/
def xi_sop (i : Jvm.ClassFile.Instr) (st : List Value) : Option (List Value) := match i with
  | .iadd => xi_o2 (fun x y => x + y) st
  | .isub => xi_o2 (fun x y => x - y) st
  | .imul => xi_o2 (fun x y => x * y) st
  | .iand => xi_o2 (fun x y => x &&& y) st
  | .ior => xi_o2 (fun x y => x ||| y) st
  | .ixor => xi_o2 (fun x y => x ^^^ y) st
  | .ishl => xi_o2 (fun x y => x <<< (y &&& 31)) st
  | .ishr => xi_o2 (fun x y => x >>> (y &&& 31)) st
  | .ineg => xi_o1 (fun x => .int (-x)) st
  | .i2l => xi_o1 (fun x => .long x.toInt64) st
  | .i2c => xi_o1 (fun x => .int (x.toUInt32 % 65536).toInt32) st
  | .l2i => xi_q1 (fun x => .int x.toInt32) st
  | .ladd => xi_q2 (fun x y => x + y) st
  | .lsub => xi_q2 (fun x y => x - y) st
  | .lmul => xi_q2 (fun x y => x * y) st
  | .land => xi_q2 (fun x y => x &&& y) st
  | .lor => xi_q2 (fun x y => x ||| y) st
  | .lushr => xi_qs (fun x y => (x.toUInt64 >>> (y.toInt64.toUInt64 &&& Int64.toUInt64 63)).toInt64) st
  | .lshl => xi_qs (fun x y => x <<< (y.toInt64 &&& 63)) st
  | .lshr => xi_qs (fun x y => x >>> (y.toInt64 &&& 63)) st
  | .dup => xi_du st
  | .pop => xi_po st
  | .dup_x1 => xi_dx st
  | .dup2 => xi_d2 st
  | _ => none
abbrev xi_K : Type := Nat → xi_L → List Value → xi_W → Option xi_R
abbrev xi_F : Type := Nat → List Value → xi_W → Option xi_R
def xi_n (v : Value) : Nat := match v with
  | .ref n => n
  | _ => 0
def xi_ld (ct : xi_K) (kd n j pc : Nat) (L : xi_L) (st : List Value) (aw : xi_W) : Option xi_R := match xi_lg L j with
  | some v => (match Nat.beq (xi_kd v) kd with
    | true => ct (pc + n) L (v :: st) aw
    | false => none)
  | none => none
def xi_s1 (ct : xi_K) (kd n j pc : Nat) (L : xi_L) (st : List Value) (aw : xi_W) : Option xi_R := match st with
  | v :: r => (match Nat.beq (xi_kd v) kd with
    | true => (match xi_pk L j with
      | true => (match Nat.blt j L.length with
        | true => ct (pc + n) (L.set j (some v)) r aw
        | false => none)
      | false => none)
    | false => none)
  | _ => none
def xi_s2 (ct : xi_K) (n j pc : Nat) (L : xi_L) (st : List Value) (aw : xi_W) : Option xi_R := match st with
  | .long y :: r => (match xi_pk L j with
    | true => (match Nat.blt (j + 1) L.length with
      | true => ct (pc + n) ((L.set j (some (.long y))).set (j + 1) none) r aw
      | false => none)
    | false => none)
  | _ => none
def xi_ic (ct : xi_K) (v : Value) (j pc : Nat) (L : xi_L) (st : List Value) (aw : xi_W) : Option xi_R := match v with
  | .int d => (match xi_lg L j with
    | some (.int y) => (match xi_pk L j with
      | true => ct (pc + 3) (L.set j (some (.int (y + d)))) st aw
      | false => none)
    | _ => none)
  | _ => none
def xi_cd (c : Jvm.ClassFile.Cond) (y z : Int32) (a b : Option xi_R) : Option xi_R := match c with
  | .eq => if y = z then a else b
  | .ne => if y = z then b else a
  | .lt => if y < z then a else b
  | .ge => if y < z then b else a
  | .gt => if z < y then a else b
  | .le => if z < y then b else a
def xi_sw (y : Int32) (kk : Int → Option xi_R) : List (Int × Int) → Int → Option xi_R
  | [], d => kk d
  | (a, t) :: r, d => if y.toInt = a then kk t else xi_sw y kk r d
def xi_gf (ct : xi_K) (ci j pc : Nat) (L : xi_L) (st : List Value) (aw : xi_W) : Option xi_R := match st with
  | .ref r :: rest => (match aw[r]? with
    | some (.inr o) => (match Nat.beq o.1 ci with
      | true => (match o.2[j]? with
        | some w => ct (pc + 3) L (w :: rest) aw
        | none => none)
      | false => none)
    | _ => none)
  | _ => none
def xi_pf (ct : xi_K) (ci j pc : Nat) (L : xi_L) (st : List Value) (aw : xi_W) : Option xi_R := match st with
  | .int y :: .ref r :: rest => (match aw[r]? with
    | some (.inr o) => (match Nat.beq o.1 ci with
      | true => (match Nat.blt j o.2.length with
        | true => ct (pc + 3) L rest (aw.set r (.inr (o.1, o.2.set j (.int y))))
        | false => none)
      | false => none)
    | _ => none)
  | _ => none
def xi_pb (ct : xi_K) (ci j pc : Nat) (L : xi_L) (st : List Value) (aw : xi_W) : Option xi_R := match st with
  | .int y :: _ => if y = 0 ∨ y = 1 then xi_pf ct ci j pc L st aw else none
  | _ => none
def xi_al (ct : xi_K) (ty pc : Nat) (L : xi_L) (st : List Value) (aw : xi_W) : Option xi_R := match st with
  | .int y :: .ref r :: rest => (match xi_sa r with
    | some q => (match Nat.beq ty 1 with
      | true => if 0 ≤ y.toInt ∧ y.toInt < (q.1 : Int) then ct (pc + 1) L (.int (q.2 y.toNatClampNeg) :: rest) aw else none
      | false => none)
    | none => (match aw[r]? with
      | some (.inl (n, .inl f)) => (match Nat.beq (xi_tn r) ty with
        | true => if 0 ≤ y.toInt ∧ y.toInt < (n : Int) then ct (pc + 1) L (.int (f y.toNatClampNeg) :: rest) aw else none
        | false => none)
      | _ => none))
  | _ => none
def xi_ll (ct : xi_K) (pc : Nat) (L : xi_L) (st : List Value) (aw : xi_W) : Option xi_R := match st with
  | .int y :: .ref r :: rest => (match aw[r]? with
    | some (.inl (n, .inr (.inl f))) => (match Nat.beq (xi_tn r) 4 with
      | true => if 0 ≤ y.toInt ∧ y.toInt < (n : Int) then ct (pc + 1) L (.long (f y.toNatClampNeg) :: rest) aw else none
      | false => none)
    | _ => none)
  | _ => none
def xi_nr (ty : Nat) (z : Int32) : Int32 := match ty with
  | 2 => vp_nar .boolean z
  | 3 => vp_nar .char z
  | _ => z
def xi_at (ct : xi_K) (ty pc : Nat) (L : xi_L) (st : List Value) (aw : xi_W) : Option xi_R := match st with
  | .int z :: .int y :: .ref r :: rest => (match aw[r]? with
    | some (.inl (n, .inl f)) => (match Nat.beq (xi_tn r) ty with
      | true => if 0 ≤ y.toInt ∧ y.toInt < (n : Int) then ct (pc + 1) L rest (aw.set r (.inl (n, .inl (upd f y.toNatClampNeg (xi_nr ty z))))) else none
      | false => none)
    | _ => none)
  | _ => none
def xi_lt (ct : xi_K) (pc : Nat) (L : xi_L) (st : List Value) (aw : xi_W) : Option xi_R := match st with
  | .long z :: .int y :: .ref r :: rest => (match aw[r]? with
    | some (.inl (n, .inr (.inl f))) => (match Nat.beq (xi_tn r) 4 with
      | true => if 0 ≤ y.toInt ∧ y.toInt < (n : Int) then ct (pc + 1) L rest (aw.set r (.inl (n, .inr (.inl (vp_updL f y.toNatClampNeg z))))) else none
      | false => none)
    | _ => none)
  | _ => none
def xi_dv (ct : xi_K) (pc : Nat) (L : xi_L) (st : List Value) (aw : xi_W) : Option xi_R := match st with
  | .int z :: .int y :: rest => if z = 0 then none else ct (pc + 1) L (.int (y / z) :: rest) aw
  | _ => none
def xi_cm (rest : List Value) : Nat := (rest.map fun v => v.category).sum
def xi_mm (ct : xi_K) (pc : Nat) (L : xi_L) (st : List Value) (aw : xi_W) : Option xi_R := match st with
  | .int z :: .int y :: rest => (match Nat.ble (xi_cm rest) 8 with
    | true => ct (pc + 3) L (.int (if y < z then z else y) :: rest) aw
    | false => none)
  | _ => none
def xi_ml (ct : xi_K) (pc : Nat) (L : xi_L) (st : List Value) (aw : xi_W) : Option xi_R := match st with
  | .long z :: .long y :: rest => (match Nat.ble (xi_cm rest) 8 with
    | true => ct (pc + 3) L (.long (if z < y then y else z) :: rest) aw
    | false => none)
  | _ => none
def xi_nl (ct : xi_K) (pc : Nat) (L : xi_L) (st : List Value) (aw : xi_W) : Option xi_R := match st with
  | .long z :: .long y :: rest => (match Nat.ble (xi_cm rest) 8 with
    | true => ct (pc + 3) L (.long (if z < y then z else y) :: rest) aw
    | false => none)
  | _ => none
def xi_cy (ct : xi_K) (pc : Nat) (L : xi_L) (st : List Value) (aw : xi_W) : Option xi_R := match st with
  | .int n :: .int dp :: .ref a :: .int sp :: .ref b :: rest => (match aw[b]? with
    | some (.inl (n0, .inl f)) => (match aw[a]? with
      | some (.inl (n1, .inl g)) => (match Nat.beq (xi_tn a) 1 with
        | true => (match Nat.beq (xi_tn b) 1 with
          | true => (match Nat.ble (xi_cm rest) 8 with
            | true => if ¬ sp < 0 ∧ ¬ dp < 0 ∧ ¬ n < 0 ∧ sp.toNatClampNeg + n.toNatClampNeg ≤ n0 ∧ dp.toNatClampNeg + n.toNatClampNeg ≤ n1 then ct (pc + 3) L rest (aw.set a (.inl (n1, .inl (va_cpy f g sp.toNatClampNeg dp.toNatClampNeg n.toNatClampNeg)))) else none
            | false => none)
          | false => none)
        | false => none)
      | _ => none)
    | _ => none)
  | _ => none
def xi_bd (o : Option xi_R) (f : xi_R → Option xi_R) : Option xi_R := match o with
  | some y => f y
  | none => none
def xi_iv (cal : xi_F) (ct : xi_K) (k ci n pc : Nat) (L : xi_L) (st : List Value) (aw : xi_W) : Option xi_R := match Nat.ble n st.length with
  | true => (match Nat.ble (xi_cm (st.drop n)) 8 with
    | true => (match (st.take n).reverse with
      | .ref b :: As => (match aw[b]? with
        | some (.inr o) => (match Nat.beq o.1 ci with
          | true => xi_bd (cal k (.ref b :: As) aw) (fun y => ct (pc + 3) L (y.1.toList ++ st.drop n) y.2)
          | false => none)
        | _ => none)
      | _ => none)
    | false => none)
  | false => none
def xi_is (cal : xi_F) (ct : xi_K) (k n pc : Nat) (L : xi_L) (st : List Value) (aw : xi_W) : Option xi_R := match Nat.ble n st.length with
  | true => (match Nat.ble (xi_cm (st.drop n)) 8 with
    | true => xi_bd (cal k (st.take n).reverse aw) (fun y => ct (pc + 3) L (y.1.toList ++ st.drop n) y.2)
    | false => none)
  | false => none
def xi_rt (kd : Nat) (st : List Value) (aw : xi_W) : Option xi_R := match st with
  | [.int y] => (match kd with
    | 0 => some (some (.int y), aw)
    | 1 => if y = 0 ∨ y = 1 then some (some (.int y), aw) else none
    | 2 => if 0 ≤ y.toInt ∧ y.toInt < 65536 then some (some (.int y), aw) else none
    | _ => none)
  | _ => none
def xi_i0 (ct : xi_K) (c : Jvm.ClassFile.Cond) (t pc : Nat) (L : xi_L) (st : List Value) (aw : xi_W) : Option xi_R := match st with
  | .int y :: r => xi_cd c y 0 (ct t L r aw) (ct (pc + 3) L r aw)
  | _ => none
def xi_i2 (ct : xi_K) (c : Jvm.ClassFile.Cond) (t pc : Nat) (L : xi_L) (st : List Value) (aw : xi_W) : Option xi_R := match st with
  | .int z :: .int y :: r => xi_cd c y z (ct t L r aw) (ct (pc + 3) L r aw)
  | _ => none
def xi_sx (ct : xi_K) (ps : List (Int × Int)) (d : Int) (L : xi_L) (st : List Value) (aw : xi_W) : Option xi_R := match st with
  | .int y :: r => xi_sw y (fun t => ct t.toNat L r aw) ps d
  | _ => none
def xi_nt (ct : xi_K) (c pc : Nat) (L : xi_L) (st : List Value) (aw : xi_W) : Option xi_R := match c with
  | 0 => xi_mm ct pc L st aw
  | 1 => xi_ml ct pc L st aw
  | 2 => xi_nl ct pc L st aw
  | 3 => xi_cy ct pc L st aw
  | _ => none
def xi_rv (st : List Value) (aw : xi_W) : Option xi_R := match st with
  | [] => some (none, aw)
  | _ => none
def xi_so (ct : xi_K) (i : Jvm.ClassFile.Instr) (pc : Nat) (L : xi_L) (st : List Value) (aw : xi_W) : Option xi_R := match xi_sop i st with
  | some st' => ct (pc + 1) L st' aw
  | none => none
def xi_in (cal : xi_F) (ct : xi_K) (i : Jvm.ClassFile.Instr) (v : Value) (pc : Nat) (L : xi_L) (st : List Value) (aw : xi_W) : Option xi_R := match i with
  | .ldc n => ct (pc + n) L (v :: st) aw
  | .iload j => xi_ld ct 0 (xi_n v) j pc L st aw
  | .lload j => xi_ld ct 1 (xi_n v) j pc L st aw
  | .aload j => xi_ld ct 2 (xi_n v) j pc L st aw
  | .istore j => xi_s1 ct 0 (xi_n v) j pc L st aw
  | .astore j => xi_s1 ct 2 (xi_n v) j pc L st aw
  | .lstore j => xi_s2 ct (xi_n v) j pc L st aw
  | .iinc j _ => xi_ic ct v j pc L st aw
  | .ifCond c _ => xi_i0 ct c (xi_n v) pc L st aw
  | .if_icmp c _ => xi_i2 ct c (xi_n v) pc L st aw
  | .goto _ => ct (xi_n v) L st aw
  | .lookupswitch d ps => xi_sx ct ps.toList d L st aw
  | .getfield ci => xi_gf ct ci (xi_n v) pc L st aw
  | .putfield ci => xi_pf ct ci (xi_n v) pc L st aw
  | .putstatic ci => xi_pb ct ci (xi_n v) pc L st aw
  | .getstatic r => ct (pc + 3) L (.ref r :: st) aw
  | .iaload => xi_al ct 1 pc L st aw
  | .baload => xi_al ct 2 pc L st aw
  | .caload => xi_al ct 3 pc L st aw
  | .laload => xi_ll ct pc L st aw
  | .iastore => xi_at ct 1 pc L st aw
  | .bastore => xi_at ct 2 pc L st aw
  | .castore => xi_at ct 3 pc L st aw
  | .lastore => xi_lt ct pc L st aw
  | .idiv => xi_dv ct pc L st aw
  | .invokedynamic c => xi_nt ct c pc L st aw
  | .invokeinterface k ci => xi_iv cal ct k ci (xi_n v) pc L st aw
  | .invokestatic k => xi_is cal ct k (xi_n v) pc L st aw
  | .ireturn => xi_rt (xi_n v) st aw
  | .return_ => xi_rv st aw
  | i => xi_so ct i pc L st aw
def xi_go (cal : xi_F) (tb : List (Option xi_E)) : Nat → xi_K
  | 0 => fun _ _ _ _ => none
  | n + 1 => fun pc L st aw => match tb[pc]? with
    | some (some q) => xi_in cal (xi_go cal tb n) q.1 q.2.1 pc (xi_mk q.2.2 L) st aw
    | _ => none
def xi_en : List Value → xi_L
  | [] => []
  | v :: r => (match xi_c1 v with
    | true => some v :: xi_en r
    | false => some v :: none :: xi_en r)
def xi_pd (n : Nat) (vs : List Value) : xi_L := xi_en vs ++ List.replicate (n - (xi_en vs).length) none
