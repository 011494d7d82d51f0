/-! A check that a table is right, and that it is enough. -/
theorem xi_and2 {a b : Bool} (h : (a && b) = true) : a = true ∧ b = true := by rwa [Bool.and_eq_true] at h
def xi_mem (h : Nat) (w : Cond) : Bool := decide (lw_tbl[h]? = some w) && goodWord w
theorem xi_mem_in {h : Nat} {w : Cond} (hm : xi_mem h w = true) : w ∈ xi_wd := by
  unfold xi_mem at hm
  rw [Bool.and_eq_true, decide_eq_true_eq] at hm
  exact List.mem_filter.mpr ⟨List.mem_of_getElem? hm.1, hm.2⟩
theorem xi_in0 : ∀ w ∈ u_ws (vwCl.getD 0 ("", xn_T0, 0)).1 xn_T0 (vwCl.getD 0 ("", xn_T0, 0)).2.2, w ∈ lw_tbl := by decide +kernel
theorem xi_gw0 : ∀ w ∈ u_ws (vwCl.getD 0 ("", xn_T0, 0)).1 xn_T0 (vwCl.getD 0 ("", xn_T0, 0)).2.2, goodWord w = true := by decide +kernel
theorem xi_in1 : ∀ w ∈ u_ws (vwCl.getD 1 ("", xn_T0, 0)).1 xn_T1 (vwCl.getD 1 ("", xn_T0, 0)).2.2, w ∈ lw_tbl := by decide +kernel
theorem xi_gw1 : ∀ w ∈ u_ws (vwCl.getD 1 ("", xn_T0, 0)).1 xn_T1 (vwCl.getD 1 ("", xn_T0, 0)).2.2, goodWord w = true := by decide +kernel
theorem xi_in2 : ∀ w ∈ u_ws (vwCl.getD 2 ("", xn_T0, 0)).1 xn_T2 (vwCl.getD 2 ("", xn_T0, 0)).2.2, w ∈ lw_tbl := by decide +kernel
theorem xi_gw2 : ∀ w ∈ u_ws (vwCl.getD 2 ("", xn_T0, 0)).1 xn_T2 (vwCl.getD 2 ("", xn_T0, 0)).2.2, goodWord w = true := by decide +kernel
theorem xi_in3 : ∀ w ∈ u_ws (vwCl.getD 3 ("", xn_T0, 0)).1 xn_T3 (vwCl.getD 3 ("", xn_T0, 0)).2.2, w ∈ lw_tbl := by decide +kernel
theorem xi_gw3 : ∀ w ∈ u_ws (vwCl.getD 3 ("", xn_T0, 0)).1 xn_T3 (vwCl.getD 3 ("", xn_T0, 0)).2.2, goodWord w = true := by decide +kernel
theorem xi_in4 : ∀ w ∈ u_ws (vwCl.getD 4 ("", xn_T0, 0)).1 xn_T4 (vwCl.getD 4 ("", xn_T0, 0)).2.2, w ∈ lw_tbl := by decide +kernel
theorem xi_gw4 : ∀ w ∈ u_ws (vwCl.getD 4 ("", xn_T0, 0)).1 xn_T4 (vwCl.getD 4 ("", xn_T0, 0)).2.2, goodWord w = true := by decide +kernel
theorem xi_in5 : ∀ w ∈ u_ws (vwCl.getD 5 ("", xn_T0, 0)).1 xn_T5 (vwCl.getD 5 ("", xn_T0, 0)).2.2, w ∈ lw_tbl := by decide +kernel
theorem xi_gw5 : ∀ w ∈ u_ws (vwCl.getD 5 ("", xn_T0, 0)).1 xn_T5 (vwCl.getD 5 ("", xn_T0, 0)).2.2, goodWord w = true := by decide +kernel
theorem xi_in6 : ∀ w ∈ u_ws (vwCl.getD 6 ("", xn_T0, 0)).1 xn_T6 (vwCl.getD 6 ("", xn_T0, 0)).2.2, w ∈ lw_tbl := by decide +kernel
theorem xi_gw6 : ∀ w ∈ u_ws (vwCl.getD 6 ("", xn_T0, 0)).1 xn_T6 (vwCl.getD 6 ("", xn_T0, 0)).2.2, goodWord w = true := by decide +kernel
theorem xi_nx0 : Cond.initialized "java/lang/Math" ∈ xi_wd := xi_mem_in (h := 69) (by decide +kernel)
theorem xi_nx1 : Cond.static Lib.Math.max.name ∈ xi_wd := xi_mem_in (h := 499) (by decide +kernel)
theorem xi_nx2 : Cond.code Lib.Math.max.name Lib.Math.max.code 2 (some .int) ∈ xi_wd := xi_mem_in (h := 500) (by decide +kernel)
theorem xi_nx3 : Cond.static Lib.MathLoose.max_long.x ∈ xi_wd := xi_mem_in (h := 496) (by decide +kernel)
theorem xi_nx4 : Cond.code Lib.MathLoose.max_long.x Lib.MathLoose.max_long.code 4 (some .long) ∈ xi_wd := xi_mem_in (h := 497) (by decide +kernel)
theorem xi_nx5 : Cond.static Lib.MathLoose.min_long.x ∈ xi_wd := xi_mem_in (h := 514) (by decide +kernel)
theorem xi_nx6 : Cond.code Lib.MathLoose.min_long.x Lib.MathLoose.min_long.code 4 (some .long) ∈ xi_wd := xi_mem_in (h := 515) (by decide +kernel)
theorem xi_nx7 : Cond.native arraycopyName ∈ xi_wd := xi_mem_in (h := 537) (by decide +kernel)
theorem xi_nx8 : Cond.static arraycopyName ∈ xi_wd := xi_mem_in (h := 536) (by decide +kernel)
theorem xi_nx9 : Cond.initialized "java/lang/System" ∈ xi_wd := xi_mem_in (h := 71) (by decide +kernel)
theorem xi_wd_good {w : Cond} (h : w ∈ xi_wd) : (w.onTables && w.keeps) = true ∨ ∃ ty, w = .arrayClass ty := good_of_word (List.mem_filter.mp h).2
theorem xi_w {p : Program} {m : MethodId} {c : Code} {s : State} {args : Array Value} {k : Nat} {w : Cond} (hC : CallFix p m c (mC k) (mL k) s args (mW k) (mO k)) (h : w ∈ xi_wd) : w.before args s = true := hC.2.2.2.2 w (List.mem_cons_of_mem _ h)
theorem xi_goodIn {k k' : Nat} (hc : Cond.code (mY k') (mC k') (mL k') (mR k') ∈ xi_wd) : GoodIn (mW k) (mW k') := by
  intro w hw
  rcases List.mem_cons.mp hw with rfl | hw
  · exact ⟨List.mem_cons_of_mem _ hc, xi_wd_good hc⟩
  · exact ⟨List.mem_cons_of_mem _ hw, xi_wd_good hw⟩
def xi_mh (k : Nat) : Nat × Nat × Nat × Nat := mH.getD k (0, 0, 0, 0)
/-- what is asked of each method once -/
def xi_FK (k : Nat) : Prop := Cond.code (mY k) (mC k) (mL k) (mR k) ∈ xi_wd ∧ (mS k = true → Cond.static (mY k) ∈ xi_wd) ∧ (mS k = false → Cond.instanceMethod (mY k) ∈ xi_wd ∧ Cond.selects (mO k) (mY k) (mY k) ∈ xi_wd) ∧ Cond.initialized (mO k) ∈ xi_wd ∧ (mO k ≠ "java/lang/invoke/MethodHandle" ∧ mO k ≠ "java/lang/invoke/VarHandle" ∧ (parseMethodDescriptor (mY k).desc).map (fun d => d.parameters.length) = some (mN k)) ∧ mL k ≤ 45 ∧ plainName (mO k) = true
theorem xi_gin {h : Nat} {w : Cond} (h1 : lw_tbl[h]? = some w) (h2 : goodWord w = true) : w ∈ xi_wd := List.mem_filter.mpr ⟨List.mem_of_getElem? h1, h2⟩
def xi_cls (ci k : Nat) : Bool := match vwCl[ci]? with
  | some q => decide (q.1 = mO k)
  | none => false
def xi_tsl (pc lo : Int) : List Int → List (Int × Int)
  | [] => []
  | a :: r => (lo, pc + a) :: xi_tsl pc (lo + 1) r
def xi_nn (l : List (Int × Int)) : Bool := l.all (fun a => decide (0 ≤ a.2))
def xi_fd (k idx ci j h : Nat) (ty : String) (fin : Bool) : Bool := match vwCl[ci]? with
  | some q => Nat.blt j q.2.2 && (decide ((q.2.1 j).1 = q.1 ∧ (ty = "" ∨ ((q.2.1 j).2.2.1 = ty ∧ (q.2.1 j).2.2.2 = fin))) && xi_mem h (.fieldLink (mO k) idx q.1 (q.2.1 j).2.1 (q.2.1 j).2.2.1))
  | none => false
def xi_pl (i : Jvm.ClassFile.Instr) : Bool := match i with
  | .iadd | .isub | .imul | .iand | .ior | .ixor | .ishl | .ishr | .ineg | .i2l | .i2c | .l2i | .ladd | .lsub | .lmul | .land | .lor | .lushr | .lshl | .lshr | .dup | .pop | .dup_x1 | .dup2 => true
  | .iaload | .baload | .caload | .laload | .iastore | .bastore | .castore | .lastore | .idiv => true
  | _ => false
def xi_df (i : Jvm.ClassFile.Instr) (len : Nat) (q : xi_E) : Bool := xi_pl i && decide (len = 1 ∧ q.1 = i)
theorem xi_df_ok {i : Jvm.ClassFile.Instr} {len : Nat} {q : xi_E} (h : xi_df i len q = true) : xi_pl i = true ∧ len = 1 ∧ q.1 = i := by
  unfold xi_df at h
  rw [Bool.and_eq_true, decide_eq_true_eq] at h
  exact h
def xi_cki (k pc : Nat) (i : Jvm.ClassFile.Instr) (len : Nat) (q : xi_E) (h : Nat) : Bool := match i with
  | .iconst z => decide (len = 1 ∧ q.1 = .ldc 1 ∧ q.2.1 = .int (Int32.ofInt z))
  | .bipush z => decide (len = 2 ∧ q.1 = .ldc 2 ∧ q.2.1 = .int (Int8.ofInt z).toInt32)
  | .sipush z => decide (len = 3 ∧ q.1 = .ldc 3 ∧ q.2.1 = .int (Int16.ofInt z).toInt32)
  | .lconst z => decide (len = 1 ∧ q.1 = .ldc 1 ∧ q.2.1 = .long (Int64.ofNat z))
  | .ldc a => (match q.2.1 with
    | .int v => decide (len = 2 ∧ q.1 = .ldc 2) && xi_mem h (.constant (mO k) a v)
    | _ => false)
  | .ldc2_w a => (match q.2.1 with
    | .long v => decide (len = 3 ∧ q.1 = .ldc 3) && xi_mem h (.constantLong (mO k) a v)
    | _ => false)
  | .iload_n f => decide (len = 1 ∧ q.1 = .iload f ∧ q.2.1 = .ref 1)
  | .iload j => decide (len = 2 ∧ q.1 = .iload j ∧ q.2.1 = .ref 2)
  | .lload_n f => decide (len = 1 ∧ q.1 = .lload f ∧ q.2.1 = .ref 1)
  | .lload j => decide (len = 2 ∧ q.1 = .lload j ∧ q.2.1 = .ref 2)
  | .aload_n f => decide (len = 1 ∧ q.1 = .aload f ∧ q.2.1 = .ref 1)
  | .aload j => decide (len = 2 ∧ q.1 = .aload j ∧ q.2.1 = .ref 2)
  | .istore_n f => decide (len = 1 ∧ q.1 = .istore f ∧ q.2.1 = .ref 1)
  | .istore j => decide (len = 2 ∧ q.1 = .istore j ∧ q.2.1 = .ref 2)
  | .lstore_n f => decide (len = 1 ∧ q.1 = .lstore f ∧ q.2.1 = .ref 1)
  | .lstore j => decide (len = 2 ∧ q.1 = .lstore j ∧ q.2.1 = .ref 2)
  | .iinc j z => decide (len = 3 ∧ q.1 = .iinc j 0 ∧ q.2.1 = .int (Int32.ofInt z))
  | .ifCond cn off => decide (len = 3 ∧ q.1 = .ifCond cn 0 ∧ (pc : Int) + off = (xi_n q.2.1 : Int))
  | .if_icmp cn off => decide (len = 3 ∧ q.1 = .if_icmp cn 0 ∧ (pc : Int) + off = (xi_n q.2.1 : Int))
  | .goto off => decide (len = 3 ∧ q.1 = .goto 0 ∧ (pc : Int) + off = (xi_n q.2.1 : Int))
  | .tableswitch d lo hi offs => (match q.1 with
    | .lookupswitch d' ps => decide (ps.toList = xi_tsl pc lo offs.toList ∧ d' = (pc : Int) + d ∧ 0 ≤ d' ∧ hi + 1 = lo + (offs.toList.length : Int)) && xi_nn ps.toList
    | _ => false)
  | .lookupswitch d ps0 => (match q.1 with
    | .lookupswitch d' ps => decide (ps.toList = ps0.toList.map (fun a => (a.1, (pc : Int) + a.2)) ∧ d' = (pc : Int) + d ∧ 0 ≤ d') && ((ps0.toList.zip (ps0.toList.drop 1)).all (fun (a, next) => a.1 < next.1) && xi_nn ps.toList)
    | _ => false)
  | .getfield a => (match q.1 with
    | .getfield ci => decide (len = 3) && xi_fd k a ci (xi_n q.2.1) h "" false
    | _ => false)
  | .putfield a => (match q.1 with
    | .putfield ci => decide (len = 3) && xi_fd k a ci (xi_n q.2.1) h "I" false
    | .putstatic ci => decide (len = 3) && xi_fd k a ci (xi_n q.2.1) h "Z" false
    | _ => false)
  | .getstatic a => (match q.1 with
    | .getstatic r => decide (len = 3 ∧ ((mO k = "TimedCompiler$Bounds" ∧ a = 67 ∧ r = 1000) ∨ (mO k = "TimedCompiler$Bounds" ∧ a = 81 ∧ r = 1001) ∨ (mO k = "TimedCompiler$Machine" ∧ a = 56 ∧ r = 1000)))
    | _ => false)
  | .invokevirtual a => (match q.1 with
    | .invokeinterface k' ci => decide (len = 3) && (xi_mem h (.methodLink (mO k) a (mY k')) && (Nat.blt k' 117 && (xi_cls ci k' && decide (mS k' = false ∧ mN k' + 1 = xi_n q.2.1))))
    | _ => false)
  | .invokestatic a => (match q.1 with
    | .invokestatic k' => decide (len = 3) && (xi_mem h (.methodLink (mO k) a (mY k')) && (Nat.blt k' 117 && decide (mO k' = mO k ∧ mS k' = true ∧ mN k' = xi_n q.2.1)))
    | .invokedynamic z => decide (len = 3) && ((decide (z = 0) && xi_mem h (.methodLink (mO k) a Lib.Math.max.name)) || ((decide (z = 1) && xi_mem h (.methodLink (mO k) a Lib.MathLoose.max_long.x)) || ((decide (z = 2) && xi_mem h (.methodLink (mO k) a Lib.MathLoose.min_long.x)) || (decide (z = 3) && xi_mem h (.methodLink (mO k) a arraycopyName)))))
    | _ => false)
  | .ireturn => decide (len = 1 ∧ q.1 = .ireturn ∧ mR k = xi_rk (xi_n q.2.1))
  | .return_ => decide (len = 1 ∧ q.1 = .return_ ∧ mR k = none)
  | i => xi_df i len q
def xi_ck (k pc : Nat) (q : xi_E) (h : Nat) : Bool := match decode (mC k) pc with
  | .ok (i, len) => xi_cki k pc i len q h
  | _ => false
def xi_ca (k : Nat) : Nat → List (Option xi_E) → List Nat → Bool
  | _, [], _ => true
  | pc, none :: r, hs => xi_ca k (pc + 1) r hs
  | _, some _ :: _, [] => false
  | pc, some q :: r, h :: hs => xi_ck k pc q h && xi_ca k (pc + 1) r hs
/-! enough -/
section XICK
variable {k pc : Nat}

theorem xi_rc_iconst {z : Int} (hd : decode (mC k) pc = .ok (.iconst z, 1)) : xi_Rc k pc 1 (.int (Int32.ofInt z)) := by
  unfold xi_Rc
  exact ⟨fun _ => rfl, fun p l e R s m args below meth c H locs Q ls rest hC kk => lv_iconst hC.1 hC.2.1 hd rfl kk⟩
theorem xi_rc_bipush {z : Int} (hd : decode (mC k) pc = .ok (.bipush z, 2)) : xi_Rc k pc 2 (.int (Int8.ofInt z).toInt32) := by
  unfold xi_Rc
  exact ⟨fun _ => rfl, fun p l e R s m args below meth c H locs Q ls rest hC kk => lv_bipush hC.1 hC.2.1 hd rfl kk⟩
theorem xi_rc_sipush {z : Int} (hd : decode (mC k) pc = .ok (.sipush z, 3)) : xi_Rc k pc 3 (.int (Int16.ofInt z).toInt32) := by
  unfold xi_Rc
  exact ⟨fun _ => rfl, fun p l e R s m args below meth c H locs Q ls rest hC kk => lv_sipush hC.1 hC.2.1 hd rfl kk⟩
theorem xi_rc_lconst {z : Fin 2} (hd : decode (mC k) pc = .ok (.lconst z, 1)) : xi_Rc k pc 1 (.long (Int64.ofNat z)) := by
  unfold xi_Rc
  exact ⟨fun _ => rfl, fun p l e R s m args below meth c H locs Q ls rest hC kk => lv_lconst hC.1 hC.2.1 hd rfl kk⟩
theorem xi_rc_ldc {a : Nat} {v : Int32} (hd : decode (mC k) pc = .ok (.ldc a, 2)) (hw : Cond.constant (mO k) a v ∈ xi_wd) : xi_Rc k pc 2 (.int v) := by
  unfold xi_Rc
  exact ⟨fun _ => rfl, fun p l e R s m args below meth c H locs Q ls rest hC kk => lv_ldc hC.1 hC.2.1 hC.2.2.2.1 (xi_w hC hw) hd kk⟩
theorem xi_rc_ldc2 {a : Nat} {v : Int64} (hd : decode (mC k) pc = .ok (.ldc2_w a, 3)) (hw : Cond.constantLong (mO k) a v ∈ xi_wd) : xi_Rc k pc 3 (.long v) := by
  unfold xi_Rc
  exact ⟨fun _ => rfl, fun p l e R s m args below meth c H locs Q ls rest hC kk => lv_ldc2 hC.1 hC.2.1 hC.2.2.2.1 (xi_w hC hw) hd kk⟩
theorem xi_rl_in {f : Fin 4} (hd : decode (mC k) pc = .ok (.iload_n f, 1)) : xi_Rl k pc 1 f 0 := by
  intro p l e R s m args below meth c H locs Q ls rest v hv hC hl kk
  cases v with
  | int y => exact lv_iload_n hC.1 hC.2.1 hd rfl hl kk
  | _ => exact absurd hv (by simp [xi_kd])
theorem xi_rl_i {j : Nat} (hd : decode (mC k) pc = .ok (.iload j, 2)) : xi_Rl k pc 2 j 0 := by
  intro p l e R s m args below meth c H locs Q ls rest v hv hC hl kk
  cases v with
  | int y => exact lv_iload hC.1 hC.2.1 hd hl kk
  | _ => exact absurd hv (by simp [xi_kd])
theorem xi_rl_ln {f : Fin 4} (hd : decode (mC k) pc = .ok (.lload_n f, 1)) : xi_Rl k pc 1 f 1 := by
  intro p l e R s m args below meth c H locs Q ls rest v hv hC hl kk
  cases v with
  | long y => exact lv_lload_n hC.1 hC.2.1 hd rfl hl kk
  | _ => exact absurd hv (by simp [xi_kd])
theorem xi_rl_l {j : Nat} (hd : decode (mC k) pc = .ok (.lload j, 2)) : xi_Rl k pc 2 j 1 := by
  intro p l e R s m args below meth c H locs Q ls rest v hv hC hl kk
  cases v with
  | long y => exact lv_lload hC.1 hC.2.1 hd hl kk
  | _ => exact absurd hv (by simp [xi_kd])
theorem xi_rl_an {f : Fin 4} (hd : decode (mC k) pc = .ok (.aload_n f, 1)) : xi_Rl k pc 1 f 2 := by
  intro p l e R s m args below meth c H locs Q ls rest v hv hC hl kk
  cases v with
  | ref y => exact lv_aload_n hC.1 hC.2.1 hd rfl hl kk
  | _ => exact absurd hv (by simp [xi_kd])
theorem xi_rl_a {j : Nat} (hd : decode (mC k) pc = .ok (.aload j, 2)) : xi_Rl k pc 2 j 2 := by
  intro p l e R s m args below meth c H locs Q ls rest v hv hC hl kk
  cases v with
  | ref y => exact lv_aload hC.1 hC.2.1 hd hl kk
  | _ => exact absurd hv (by simp [xi_kd])
theorem xi_r1_in {f : Fin 4} (hd : decode (mC k) pc = .ok (.istore_n f, 1)) : xi_R1 k pc 1 f 0 := by
  intro p l e R s m args below meth c H locs Q ls rest v lv hv hC hl hj kk
  cases v with
  | int y => exact lv_istore_n hC.1 hC.2.1 hd rfl hl hj rfl kk
  | _ => exact absurd hv (by simp [xi_kd])
theorem xi_r1_i {j : Nat} (hd : decode (mC k) pc = .ok (.istore j, 2)) : xi_R1 k pc 2 j 0 := by
  intro p l e R s m args below meth c H locs Q ls rest v lv hv hC hl hj kk
  cases v with
  | int y => exact lv_istore hC.1 hC.2.1 hd hl hj rfl kk
  | _ => exact absurd hv (by simp [xi_kd])
theorem xi_r2_n {f : Fin 4} (hd : decode (mC k) pc = .ok (.lstore_n f, 1)) : xi_R2 k pc 1 f := by
  intro p l e R s m args below meth c H locs Q ls rest y lv hC hl hj kk
  exact lv_lstore_n hC.1 hC.2.1 hd rfl hl hj rfl kk
theorem xi_r2_j {j : Nat} (hd : decode (mC k) pc = .ok (.lstore j, 2)) : xi_R2 k pc 2 j := by
  intro p l e R s m args below meth c H locs Q ls rest y lv hC hl hj kk
  exact lv_lstore hC.1 hC.2.1 hd hl hj rfl kk
theorem xi_nn_swt {y : Int32} : ∀ {l : List (Int × Int)} {d : Int}, xi_nn l = true → 0 ≤ d → 0 ≤ xi_swt y l d
  | [], _, _, hd => hd
  | (a, t) :: r, d, h, hd => by
    unfold xi_nn at h
    rw [List.all_cons, Bool.and_eq_true, decide_eq_true_eq] at h
    unfold xi_swt
    split
    · exact h.1
    · exact xi_nn_swt (l := r) h.2 hd
theorem xi_tsl_out {y : Int32} {pc : Int} : ∀ (l : List Int) (lo d : Int), y.toInt < lo ∨ lo + (l.length : Int) ≤ y.toInt → xi_swt y (xi_tsl pc lo l) d = d
  | [], _, _, _ => rfl
  | a :: r, lo, d, h => by
    unfold xi_tsl xi_swt
    rw [List.length_cons] at h
    rw [if_neg (by omega)]
    exact xi_tsl_out r (lo + 1) d (by omega)
theorem xi_tsl_in {y : Int32} {pc : Int} : ∀ (l : List Int) (lo d a : Int), ¬ y.toInt < lo → l[(y.toInt - lo).toNat]? = some a → xi_swt y (xi_tsl pc lo l) d = pc + a
  | [], _, _, _, _, h => by simp at h
  | b :: r, lo, d, a, h0, h => by
    unfold xi_tsl xi_swt
    by_cases he : y.toInt = lo
    · rw [if_pos he]
      rw [show (y.toInt - lo).toNat = 0 by omega] at h
      simp at h
      rw [h]
    · rw [if_neg he]
      rw [show (y.toInt - lo).toNat = (y.toInt - (lo + 1)).toNat + 1 by omega] at h
      exact xi_tsl_in r (lo + 1) d a (by omega) (by simpa using h)
theorem xi_rw_table {d lo hi : Int} {offs : Array Int} {len : Nat} {ps : List (Int × Int)} {d' : Int} (hd : decode (mC k) pc = .ok (.tableswitch d lo hi offs, len)) (h : ps = xi_tsl pc lo offs.toList ∧ d' = (pc : Int) + d ∧ 0 ≤ d' ∧ hi + 1 = lo + (offs.toList.length : Int)) (hn : xi_nn ps = true) : xi_Rw k pc ps d' := by
  obtain ⟨h1, h2, h3, h4⟩ := h
  intro p l e R s m args below meth c H locs Q ls rest y hC kk
  have hpos : 0 ≤ xi_swt y ps d' := xi_nn_swt hn h3
  by_cases hin : y.toInt < lo ∨ hi < y.toInt
  · have e1 : xi_swt y ps d' = (pc : Int) + d := by rw [h1, xi_tsl_out _ _ _ (by omega), h2]
    exact lv_tableOut hC.1 hC.2.1 hd hin (by rw [← e1]; omega) kk
  · have hlt : (y.toInt - lo).toNat < offs.toList.length := by omega
    have ho : offs.toList[(y.toInt - lo).toNat]? = some offs.toList[(y.toInt - lo).toNat] := List.getElem?_eq_getElem hlt
    have e1 := xi_tsl_in (pc := (pc : Int)) offs.toList lo d' _ (by omega) ho
    rw [← h1] at e1
    exact lv_tableIn hC.1 hC.2.1 hd (by omega) (by omega) (by rw [← Array.getElem?_toList]; exact ho) (by rw [← e1]; omega) kk
theorem xi_look {y : Int32} {pc : Int} : ∀ (l : List (Int × Int)) (d : Int), xi_swt y (l.map (fun a => (a.1, pc + a.2))) (pc + d) = pc + Op.lookupswitch.offset l d y.toInt
  | [], _ => by rw [Op.lookupswitch.offset_nil]; rfl
  | (a, t) :: r, d => by
    rw [List.map_cons, Op.lookupswitch.offset_cons]
    unfold xi_swt
    by_cases he : y.toInt = a
    · rw [if_pos he, if_pos (by first | exact he | exact he.symm)]
    · rw [if_neg he, if_neg (by first | exact he | exact fun q => he q.symm)]
      exact xi_look r d
theorem xi_rw_look {d : Int} {ps0 : Array (Int × Int)} {len : Nat} {ps : List (Int × Int)} {d' : Int} (hd : decode (mC k) pc = .ok (.lookupswitch d ps0, len)) (h : ps = ps0.toList.map (fun a => (a.1, (pc : Int) + a.2)) ∧ d' = (pc : Int) + d ∧ 0 ≤ d') (hs : (ps0.toList.zip (ps0.toList.drop 1)).all (fun (a, next) => a.1 < next.1) = true) (hn : xi_nn ps = true) : xi_Rw k pc ps d' := by
  obtain ⟨h1, h2, h3⟩ := h
  intro p l e R s m args below meth c H locs Q ls rest y hC kk
  have hpos : 0 ≤ xi_swt y ps d' := xi_nn_swt hn h3
  have e1 := xi_look (y := y) (pc := (pc : Int)) ps0.toList d
  rw [← h1, ← h2] at e1
  exact lv_lookup hC.1 hC.2.1 hd hs rfl (by rw [← e1]; omega) kk
theorem xi_fd_spec {idx ci j h : Nat} {ty : String} {fin : Bool} (hf : xi_fd k idx ci j h ty fin = true) : ∃ C T n, vwCl[ci]? = some (C, T, n) ∧ j < n ∧ (T j).1 = C ∧ (ty = "" ∨ ((T j).2.2.1 = ty ∧ (T j).2.2.2 = fin)) ∧ Cond.fieldLink (mO k) idx C (T j).2.1 (T j).2.2.1 ∈ xi_wd := by
  unfold xi_fd at hf
  split at hf
  · rename_i q hq
    obtain ⟨C, T, n⟩ := q
    rw [Bool.and_eq_true, Bool.and_eq_true, decide_eq_true_eq] at hf
    obtain ⟨h1, ⟨h2, h3⟩, h4⟩ := hf
    exact ⟨C, T, n, hq, Nat.le_of_ble_eq_true h1, h2, h3, xi_mem_in h4⟩
  · cases hf
/-- the fields' words of each class of the world are there -/
theorem xi_uws : ∀ (ci : Nat) (C : String) (T : u_T) (n : Nat), vwCl[ci]? = some (C, T, n) → ∀ w ∈ u_ws C T n, w ∈ xi_wd := by
  intro ci C T n h
  match ci, h with
  | 0, h =>
    cases h
    exact fun w hw => List.mem_filter.mpr ⟨xi_in0 w hw, xi_gw0 w hw⟩
  | 1, h =>
    cases h
    exact fun w hw => List.mem_filter.mpr ⟨xi_in1 w hw, xi_gw1 w hw⟩
  | 2, h =>
    cases h
    exact fun w hw => List.mem_filter.mpr ⟨xi_in2 w hw, xi_gw2 w hw⟩
  | 3, h =>
    cases h
    exact fun w hw => List.mem_filter.mpr ⟨xi_in3 w hw, xi_gw3 w hw⟩
  | 4, h =>
    cases h
    exact fun w hw => List.mem_filter.mpr ⟨xi_in4 w hw, xi_gw4 w hw⟩
  | 5, h =>
    cases h
    exact fun w hw => List.mem_filter.mpr ⟨xi_in5 w hw, xi_gw5 w hw⟩
  | 6, h =>
    cases h
    exact fun w hw => List.mem_filter.mpr ⟨xi_in6 w hw, xi_gw6 w hw⟩
  | _ + 7, h => cases h
theorem xi_names : ∀ (ci : Nat) (C : String) (T : u_T) (n : Nat), vwCl[ci]? = some (C, T, n) → (∀ a, a < n → ∀ b, b < n → a ≠ b → (T a).2.1 ≠ (T b).2.1) ∧ ∃ ty : Nat → FieldType, ∀ j, j < n → parseFieldDescriptor (T j).2.2.1 = some (ty j) := by
  intro ci C T n h
  match ci, h with
  | 0, h =>
    cases h
    exact ⟨xn_n0, xn_t0, xn_o0⟩
  | 1, h =>
    cases h
    exact ⟨xn_n1, xn_t1, xn_o1⟩
  | 2, h =>
    cases h
    exact ⟨xn_n2, xn_t2, xn_o2⟩
  | 3, h =>
    cases h
    exact ⟨xn_n3, xn_t3, xn_o3⟩
  | 4, h =>
    cases h
    exact ⟨xn_n4, xn_t4, xn_o4⟩
  | 5, h =>
    cases h
    exact ⟨xn_n5, xn_t5, xn_o5⟩
  | 6, h =>
    cases h
    exact ⟨xn_n6, xn_t6, xn_o6⟩
  | _ + 7, h => cases h
theorem xi_rf_ok {a ci j h : Nat} (hd : decode (mC k) pc = .ok (.getfield a, 3)) (hf : xi_fd k a ci j h "" false = true) : xi_Rf k pc ci j := by
  obtain ⟨C, T, n, h1, h2, h3, -, h5⟩ := xi_fd_spec hf
  intro p l e R s m args below meth c H locs Q ls rest D tys ws q0 ad fs v hC hK hP he hv kk
  exact va_get hC.1 hC.2.1 hC.2.2.2.2 (fun w hw => List.mem_cons_of_mem _ (xi_uws ci C T n h1 w hw)) hC.2.2.2.1 hK hP q0 he h1 j h2 (xi_w hC h5) (fun z hz => by rw [← h3]; exact hz) hv hd kk
theorem xi_rp_ok {a ci j h : Nat} (hd : decode (mC k) pc = .ok (.putfield a, 3)) (hf : xi_fd k a ci j h "I" false = true) : xi_Rp false k pc ci j := by
  obtain ⟨C, T, n, h1, h2, h3, h4, h5⟩ := xi_fd_spec hf
  obtain ⟨h6, h7⟩ := h4.resolve_left (by decide)
  obtain ⟨hnm, ty, hty⟩ := xi_names ci C T n h1
  intro p l e R s m args below meth c H locs Q ls rest D tys ws A H0 q0 ad fs y _ hC hK hP hD hS he hl kk
  exact va_put (ty := .int) hC.1 hC.2.1 hC.2.2.2.2 (fun w hw => List.mem_cons_of_mem _ (xi_uws ci C T n h1 w hw)) ty hty hnm hC.2.2.2.1 hK hP hD hS q0 he h1 j h2 (xi_w hC h5) (fun z hz => by rw [← h3]; exact hz) h7 (by rw [h6]; decide +kernel) rfl rfl hl hd kk
theorem xi_rb_ok {a ci j h : Nat} (hd : decode (mC k) pc = .ok (.putfield a, 3)) (hf : xi_fd k a ci j h "Z" false = true) : xi_Rp true k pc ci j := by
  obtain ⟨C, T, n, h1, h2, h3, h4, h5⟩ := xi_fd_spec hf
  obtain ⟨h6, h7⟩ := h4.resolve_left (by decide)
  obtain ⟨hnm, ty, hty⟩ := xi_names ci C T n h1
  intro p l e R s m args below meth c H locs Q ls rest D tys ws A H0 q0 ad fs y hy hC hK hP hD hS he hl kk
  have hf2 : fits .boolean (.int y) = true := by rcases hy rfl with rfl | rfl <;> rfl
  exact va_put (ty := .boolean) hC.1 hC.2.1 hC.2.2.2.2 (fun w hw => List.mem_cons_of_mem _ (xi_uws ci C T n h1 w hw)) ty hty hnm hC.2.2.2.1 hK hP hD hS q0 he h1 j h2 (xi_w hC h5) (fun z hz => by rw [← h3]; exact hz) h7 (by rw [h6]; decide +kernel) (xi_nb (hy rfl)) hf2 hl hd kk
theorem xi_rg_ok {a r : Nat} (hd : decode (mC k) pc = .ok (.getstatic a, 3)) (hf : (mO k = "TimedCompiler$Bounds" ∧ a = 67 ∧ r = 1000) ∨ (mO k = "TimedCompiler$Bounds" ∧ a = 81 ∧ r = 1001) ∨ (mO k = "TimedCompiler$Machine" ∧ a = 56 ∧ r = 1000)) : xi_Rg k pc r := by
  intro p l e R s m args below meth c H locs Q ls rest ad A hC hZ hS kk
  have hown := hC.2.2.2.1
  rcases hf with ⟨ho, rfl, rfl⟩ | ⟨ho, rfl, rfl⟩ | ⟨ho, rfl, rfl⟩
  · rw [ho] at hown
    exact va_getsN hC.1 hC.2.1 hZ.1.1 hS hown (va_Nw.use rfl hZ.2.2.1) (fun z hz => hz) hd kk
  · rw [ho] at hown
    exact va_getsN hC.1 hC.2.1 hZ.2.1.1 hS hown (va_Nw.use rfl hZ.2.2.2.1) (fun z hz => hz) hd kk
  · rw [ho] at hown
    exact va_getsN hC.1 hC.2.1 hZ.1.1 hS hown (va_Nw.use rfl hZ.2.2.2.2) (fun z hz => hz) hd kk
theorem xi_rv_ok (hF : ∀ k, k < 117 → xi_FK k) {a k' ci n h : Nat} (hd : decode (mC k) pc = .ok (.invokevirtual a, 3)) (hf : (xi_mem h (.methodLink (mO k) a (mY k')) && (Nat.blt k' 117 && (xi_cls ci k' && decide (mS k' = false ∧ mN k' + 1 = n)))) = true) : xi_Rv k pc k' ci n := by
  rw [Bool.and_eq_true, Bool.and_eq_true, Bool.and_eq_true, decide_eq_true_eq] at hf
  obtain ⟨hm, hk, hc, hs, hn⟩ := hf
  obtain ⟨f1, -, f3, f4, f5, f6, -⟩ := hF k' (Nat.le_of_ble_eq_true hk)
  obtain ⟨f7, f8⟩ := f3 hs
  refine ⟨f6, ?_, ?_⟩
  · unfold xi_cls at hc
    split at hc
    · rename_i q hq
      exact ⟨q, hq, by simpa using hc⟩
    · cases hc
  · intro p l e R s m args below meth c H locs Q ls rest rm Pc Qc free b As hC hM hrc hrs hfr hlo hp hlen hsz hcm
    have hG : GoodIn (mW k) (wsV (mO k) a (mO k') (mY k') (mW k')) := by
      unfold wsV
      intro w hw
      rcases List.mem_append.mp hw with hw | hw
      · simp only [List.mem_cons, List.not_mem_nil, or_false] at hw
        rcases hw with rfl | rfl | rfl | rfl
        · exact ⟨List.mem_cons_of_mem _ (xi_mem_in hm), xi_wd_good (xi_mem_in hm)⟩
        · exact ⟨List.mem_cons_of_mem _ f7, xi_wd_good f7⟩
        · exact ⟨List.mem_cons_of_mem _ f8, xi_wd_good f8⟩
        · exact ⟨List.mem_cons_of_mem _ f4, xi_wd_good f4⟩
      · exact xi_goodIn f1 w hw
    exact va_runV hC hM (cwV (mN k') hC.2.2.2.2 hG rfl hrc hrs ⟨rfl, f5⟩ ⟨hfr, hlo⟩) hp rfl (by omega) hsz rfl (lv_room hcm) hd ⟨Nat.zero_le _, Nat.zero_le _⟩
theorem xi_rs_ok (hF : ∀ k, k < 117 → xi_FK k) {a k' n h : Nat} (hd : decode (mC k) pc = .ok (.invokestatic a, 3)) (hf : (xi_mem h (.methodLink (mO k) a (mY k')) && (Nat.blt k' 117 && decide (mO k' = mO k ∧ mS k' = true ∧ mN k' = n))) = true) : xi_Rs k pc k' n := by
  rw [Bool.and_eq_true, Bool.and_eq_true, decide_eq_true_eq] at hf
  obtain ⟨hm, hk, ho, hs, hn⟩ := hf
  obtain ⟨f1, f2, -, f4, f5, f6, -⟩ := hF k' (Nat.le_of_ble_eq_true hk)
  have f7 := f2 hs
  refine ⟨f6, ?_⟩
  intro p l e R s m args below meth c H locs Q ls rest rm Pc Qc free As hC hM hrc hrs hfr hlo hp hlen hsz hcm
  have hG : GoodIn (mW k) (wsS (mO k) a (mY k') (mW k')) := by
    unfold wsS
    intro w hw
    rcases List.mem_append.mp hw with hw | hw
    · simp only [List.mem_cons, List.not_mem_nil, or_false] at hw
      rcases hw with rfl | rfl | rfl
      · exact ⟨List.mem_cons_of_mem _ (xi_mem_in hm), xi_wd_good (xi_mem_in hm)⟩
      · exact ⟨List.mem_cons_of_mem _ f7, xi_wd_good f7⟩
      · rw [← ho]; exact ⟨List.mem_cons_of_mem _ f4, xi_wd_good f4⟩
    · exact xi_goodIn f1 w hw
  exact va_runS hC hM (cwS (mN k') hC.2.2.2.2 hG rfl hrc hrs ⟨ho, f5⟩ ⟨hfr, hlo⟩) hp rfl (hlen.trans hn.symm) hsz rfl (lv_room hcm) hd ⟨Nat.zero_le _, Nat.zero_le _⟩
theorem xi_r0_ok {a h : Nat} (hd : decode (mC k) pc = .ok (.invokestatic a, 3)) (hm : xi_mem h (.methodLink (mO k) a Lib.Math.max.name) = true) : xi_R0 k pc := by
  intro p l e R s m args below meth c H locs Q ls rest y z hC hsz hfr hlo hcm kk
  exact va_mmax hC.1 hC.2.1 (hC.2.2.1.trans hsz.symm) hC.2.2.2.1 (xi_w hC (xi_mem_in hm)) (xi_w hC xi_nx1) (xi_w hC xi_nx0) (xi_w hC xi_nx2) hfr (by omega) (Nat.zero_le _) (Nat.zero_le _) hd kk
theorem xi_ra_ok {a h : Nat} (hd : decode (mC k) pc = .ok (.invokestatic a, 3)) (hm : xi_mem h (.methodLink (mO k) a Lib.MathLoose.max_long.x) = true) : xi_Ra k pc := by
  intro p l e R s m args below meth c H locs Q ls rest y z hC hsz hfr hlo hcm kk
  exact va_mmax_long hC.1 hC.2.1 (hC.2.2.1.trans hsz.symm) hC.2.2.2.1 (xi_w hC (xi_mem_in hm)) (xi_w hC xi_nx3) (xi_w hC xi_nx0) (xi_w hC xi_nx4) hfr (by omega) (Nat.zero_le _) (Nat.zero_le _) hd kk
theorem xi_rbb_ok {a h : Nat} (hd : decode (mC k) pc = .ok (.invokestatic a, 3)) (hm : xi_mem h (.methodLink (mO k) a Lib.MathLoose.min_long.x) = true) : xi_Rb k pc := by
  intro p l e R s m args below meth c H locs Q ls rest y z hC hsz hfr hlo hcm kk
  exact va_mmin_long hC.1 hC.2.1 (hC.2.2.1.trans hsz.symm) hC.2.2.2.1 (xi_w hC (xi_mem_in hm)) (xi_w hC xi_nx5) (xi_w hC xi_nx0) (xi_w hC xi_nx6) hfr (by omega) (Nat.zero_le _) (Nat.zero_le _) hd kk
theorem xi_ry_ok {a h : Nat} (hd : decode (mC k) pc = .ok (.invokestatic a, 3)) (hm : xi_mem h (.methodLink (mO k) a arraycopyName) = true) : xi_Ry k pc := by
  intro p l e R s m args below meth c H locs Q ls rest D tys ws A H0 q0 q1 t0 t1 a0 a c0 c1 n0 n1 f g sp dp n hC hsz hfr hlo hcm hK hP hD hS ha0 ha1 ht0 ht1 h1 h2 h3 h4 h5 kk
  exact va_copyi hC.1 hC.2.1 (hC.2.2.1.trans hsz.symm) hC.2.2.2.1 (xi_w hC (xi_mem_in hm)) (xi_w hC xi_nx7) (xi_w hC xi_nx8) (xi_w hC xi_nx9) hK hP hD hS q0 q1 t0 t1 ha0 ha1 ht0 ht1 rfl h1 h2 h3 h4 h5 (fun _ _ => rfl) hfr (Nat.le_trans (Nat.add_le_add hcm (show nativeFrameWords "java/lang/System" "arraycopy" 5 + 11 ≤ 56 by decide +kernel)) hlo) hd kk
theorem xi_cki_ok (hF : ∀ k, k < 117 → xi_FK k) {i : Jvm.ClassFile.Instr} {len h : Nat} {q : xi_E} (hd : decode (mC k) pc = .ok (i, len)) (hk : xi_cki k pc i len q h = true) : xi_ok k pc q := by
  obtain ⟨j, v, bs⟩ := q
  cases i with
  | iconst z =>
    obtain ⟨rfl, rfl, rfl⟩ := of_decide_eq_true hk
    exact xi_rc_iconst hd
  | bipush z =>
    obtain ⟨rfl, rfl, rfl⟩ := of_decide_eq_true hk
    exact xi_rc_bipush hd
  | sipush z =>
    obtain ⟨rfl, rfl, rfl⟩ := of_decide_eq_true hk
    exact xi_rc_sipush hd
  | lconst z =>
    obtain ⟨rfl, rfl, rfl⟩ := of_decide_eq_true hk
    exact xi_rc_lconst hd
  | iload_n f =>
    obtain ⟨rfl, rfl, rfl⟩ := of_decide_eq_true hk
    exact xi_rl_in hd
  | iload j =>
    obtain ⟨rfl, rfl, rfl⟩ := of_decide_eq_true hk
    exact xi_rl_i hd
  | lload_n f =>
    obtain ⟨rfl, rfl, rfl⟩ := of_decide_eq_true hk
    exact xi_rl_ln hd
  | lload j =>
    obtain ⟨rfl, rfl, rfl⟩ := of_decide_eq_true hk
    exact xi_rl_l hd
  | aload_n f =>
    obtain ⟨rfl, rfl, rfl⟩ := of_decide_eq_true hk
    exact xi_rl_an hd
  | aload j =>
    obtain ⟨rfl, rfl, rfl⟩ := of_decide_eq_true hk
    exact xi_rl_a hd
  | istore_n f =>
    obtain ⟨rfl, rfl, rfl⟩ := of_decide_eq_true hk
    exact xi_r1_in hd
  | istore j =>
    obtain ⟨rfl, rfl, rfl⟩ := of_decide_eq_true hk
    exact xi_r1_i hd
  | lstore_n f =>
    obtain ⟨rfl, rfl, rfl⟩ := of_decide_eq_true hk
    exact xi_r2_n hd
  | lstore j =>
    obtain ⟨rfl, rfl, rfl⟩ := of_decide_eq_true hk
    exact xi_r2_j hd
  | ldc a =>
    unfold xi_cki at hk
    dsimp only at hk
    split at hk
    · rw [Bool.and_eq_true, decide_eq_true_eq] at hk
      obtain ⟨⟨rfl, rfl⟩, hm⟩ := hk
      exact xi_rc_ldc hd (xi_mem_in hm)
    · cases hk
  | ldc2_w a =>
    unfold xi_cki at hk
    dsimp only at hk
    split at hk
    · rw [Bool.and_eq_true, decide_eq_true_eq] at hk
      obtain ⟨⟨rfl, rfl⟩, hm⟩ := hk
      exact xi_rc_ldc2 hd (xi_mem_in hm)
    · cases hk
  | iinc j z =>
    obtain ⟨rfl, rfl, rfl⟩ := of_decide_eq_true hk
    exact ⟨z, hd, rfl⟩
  | ifCond cn off =>
    obtain ⟨rfl, rfl, h3⟩ := of_decide_eq_true hk
    exact ⟨off, hd, h3⟩
  | if_icmp cn off =>
    obtain ⟨rfl, rfl, h3⟩ := of_decide_eq_true hk
    exact ⟨off, hd, h3⟩
  | goto off =>
    obtain ⟨rfl, rfl, h3⟩ := of_decide_eq_true hk
    exact ⟨off, hd, h3⟩
  | tableswitch d lo hi offs =>
    unfold xi_cki at hk
    dsimp only at hk
    split at hk
    · rw [Bool.and_eq_true, decide_eq_true_eq] at hk
      exact xi_rw_table hd hk.1 hk.2
    · cases hk
  | lookupswitch d ps0 =>
    unfold xi_cki at hk
    dsimp only at hk
    split at hk
    · rw [Bool.and_eq_true, Bool.and_eq_true, decide_eq_true_eq] at hk
      exact xi_rw_look hd hk.1 hk.2.1 hk.2.2
    · cases hk
  | getfield a =>
    unfold xi_cki at hk
    dsimp only at hk
    split at hk
    · rw [Bool.and_eq_true, decide_eq_true_eq] at hk
      obtain ⟨rfl, hf⟩ := hk
      exact xi_rf_ok hd hf
    · cases hk
  | putfield a =>
    unfold xi_cki at hk
    dsimp only at hk
    split at hk
    · rw [Bool.and_eq_true, decide_eq_true_eq] at hk
      obtain ⟨rfl, hf⟩ := hk
      exact xi_rp_ok hd hf
    · rw [Bool.and_eq_true, decide_eq_true_eq] at hk
      obtain ⟨rfl, hf⟩ := hk
      exact xi_rb_ok hd hf
    · cases hk
  | getstatic a =>
    unfold xi_cki at hk
    dsimp only at hk
    split at hk
    · rw [decide_eq_true_eq] at hk
      obtain ⟨rfl, hf⟩ := hk
      exact xi_rg_ok hd hf
    · cases hk
  | invokevirtual a =>
    unfold xi_cki at hk
    dsimp only at hk
    split at hk
    · rw [Bool.and_eq_true, decide_eq_true_eq] at hk
      obtain ⟨rfl, hf⟩ := hk
      exact xi_rv_ok hF hd hf
    · cases hk
  | invokestatic a =>
    unfold xi_cki at hk
    dsimp only at hk
    split at hk
    · rw [Bool.and_eq_true, decide_eq_true_eq] at hk
      obtain ⟨rfl, hf⟩ := hk
      exact xi_rs_ok hF hd hf
    · rw [Bool.and_eq_true, decide_eq_true_eq] at hk
      obtain ⟨rfl, hf⟩ := hk
      rw [Bool.or_eq_true, Bool.or_eq_true, Bool.or_eq_true, Bool.and_eq_true, Bool.and_eq_true, Bool.and_eq_true, Bool.and_eq_true, decide_eq_true_eq, decide_eq_true_eq, decide_eq_true_eq, decide_eq_true_eq] at hf
      rcases hf with ⟨rfl, hm⟩ | ⟨rfl, hm⟩ | ⟨rfl, hm⟩ | ⟨rfl, hm⟩
      · exact xi_r0_ok hd hm
      · exact xi_ra_ok hd hm
      · exact xi_rbb_ok hd hm
      · exact xi_ry_ok hd hm
    · cases hk
  | ireturn =>
    obtain ⟨rfl, rfl, h3⟩ := of_decide_eq_true hk
    exact ⟨hd, h3⟩
  | return_ =>
    obtain ⟨rfl, rfl, h3⟩ := of_decide_eq_true hk
    exact ⟨hd, h3⟩
  | _ =>
    first
    | exact absurd (show false = true from (xi_df_ok hk).1) Bool.false_ne_true
    | (obtain ⟨-, rfl, rfl⟩ := xi_df_ok hk
       exact hd)
theorem xi_ca_ok (hF : ∀ k, k < 117 → xi_FK k) : ∀ (tb : List (Option xi_E)) (hs : List Nat) (o pc : Nat) (q : xi_E), xi_ca k o tb hs = true → tb[pc]? = some (some q) → xi_ok k (o + pc) q
  | [], _, _, _, _, _, hq => by simp at hq
  | none :: r, hs, o, pc, q, h, hq => by
    cases pc with
    | zero => simp at hq
    | succ pc =>
      have := xi_ca_ok hF r hs (o + 1) pc q h (by simpa using hq)
      rw [show o + (pc + 1) = o + 1 + pc by omega]
      exact this
  | some y :: r, [], o, pc, q, h, hq => by cases h
  | some y :: r, h0 :: hs, o, pc, q, h, hq => by
    have h2 : xi_ck k o y h0 = true ∧ xi_ca k (o + 1) r hs = true := by
      have h3 : (xi_ck k o y h0 && xi_ca k (o + 1) r hs) = true := h
      rw [Bool.and_eq_true] at h3
      exact h3
    cases pc with
    | zero =>
      have : y = q := by simpa using hq
      subst this
      have h4 := h2.1
      unfold xi_ck at h4
      split at h4
      · rename_i i len hd
        exact xi_cki_ok hF hd h4
      · cases h4
    | succ pc =>
      have := xi_ca_ok hF r hs (o + 1) pc q h2.2 (by simpa using hq)
      rw [show o + (pc + 1) = o + 1 + pc by omega]
      exact this
end XICK
