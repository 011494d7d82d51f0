/-! Calls out of the law and its helpers. -/
section LH
variable {p : Program} {l : Launch} {e : Env} {R : Room} {s : State} {m : MethodId} {args : Array Value} {below : List Frame} {meth : Method} {c : Code} {D : va_G} {ad : Nat → Nat} {ca : Nat → ClassId} {A : Nat → Prop} {Q : State → Prop} {pc : Nat} {H : Heap} {locs : List Loc} {ls : Array Slot} {cells slots : Nat} {cc : ByteArray} {nL : Nat} {Ts : List Cond} {own : String}
theorem lh_good (hTw : ∀ w ∈ xi_wd, w ∈ Ts) {a k : Nat} (hm : Cond.methodLink own a (mY k) ∈ xi_wd) (hk : k < 117) (hs : mS k = false) : GoodIn Ts (wsV own a (mO k) (mY k) (mW k)) := by
  obtain ⟨f1, -, f3, f4, f5, f6, -⟩ := xo_fks k hk
  obtain ⟨f7, f8⟩ := f3 hs
  unfold wsV
  intro w hw
  rcases List.mem_append.mp hw with hw | hw
  · simp only [List.mem_cons, List.not_mem_nil, or_false] at hw
    rcases hw with rfl | rfl | rfl | rfl
    · exact ⟨hTw _ hm, xi_wd_good hm⟩
    · exact ⟨hTw _ f7, xi_wd_good f7⟩
    · exact ⟨hTw _ f8, xi_wd_good f8⟩
    · exact ⟨hTw _ f4, xi_wd_good f4⟩
  · rcases List.mem_cons.mp hw with rfl | hw
    · exact ⟨hTw _ f1, xi_wd_good f1⟩
    · exact ⟨hTw _ hw, xi_wd_good hw⟩
theorem lh_call {d k a r ci : Nat} {As rest fs : List Value} {aw : xi_W} {x : xi_R} (hC : CallFix p m c cc nL s args Ts own) (hTw : ∀ w ∈ xi_wd, w ∈ Ts) (hm : Cond.methodLink own a (mY k) ∈ xi_wd) (hk : k < 117) (hs : mS k = false) (hci : ∃ q, vwCl[ci]? = some q ∧ q.1 = mO k) (hn : As.length = mN k) (ho : aw[r]? = some (.inr (ci, fs))) (hx : xm d k (.ref r :: As) aw x)
    (hK : va_K D vwCl (xi_tyL ca) s) (hZ : xi_Z ad A s) (hA : ∀ q : Nat, s.heap.size ≤ q → A q) (hP : va_P D vwCl (xi_rl ad ca aw) H) (hD : va_D A (xi_rl ad ca aw)) (hS : va_S A s.heap H locs) (hls : ls.size = nL) (hcm : (rest.map fun v => v.category).sum ≤ 8) (hfr : d + 1 ≤ R.frames) (hlo : 64 + 64 * d ≤ R.locals) (hce : cells ≤ R.cells) (hsl : slots ≤ R.slots) (hdg : decode cc pc = .ok (.invokevirtual a, 3))
    (kk : ∀ (H1 : Heap) (locs1 : List Loc), va_P D vwCl (xi_rl ad ca x.2) H1 → va_D A (xi_rl ad ca x.2) → va_S A s.heap H1 locs1 → x.2.length = aw.length → W p l e R s m args below meth c H1 locs1 cells slots Q (F0 m (pc + 3) ls ((x.1.map (xi_mp ad)).toList ++ rest))) :
    W p l e R s m args below meth c H locs cells slots Q (F0 m pc ls ((As.map (xi_mp ad)).reverse ++ .ref (ad r) :: rest)) := by
  have hAs' := xi_A_sub hA hD hS
  obtain ⟨cq, hcq, hco⟩ := hci
  obtain ⟨-, -, -, -, f5, f6, -⟩ := xo_fks k hk
  have hrec := va_recv hK hP hcq (xi_rl_obj (ad := ad) (ca := ca) ho)
  rw [hco] at hrec
  have hpre : PreV s H (mO k) (ad r) (xi_Pc D ad ca (.ref r :: As) aw H.size) (As.map (xi_mp ad)) :=
    ⟨xi_blind _ _ _ _ _ _, hrec, fun U hU hW => ⟨rfl, by rw [hU], by rw [hU]; exact hP, va_K.moved hW.alike hK, hD.weaken (fun _ _ _ _ => trivial), xi_Z.at hZ hS hAs' hU hW⟩⟩
  have hR : va_Run p l e R s m args below meth c H locs cells slots 0 0 (F0 m pc ls ((As.map (xi_mp ad)).reverse ++ .ref (ad r) :: rest)) rest (xi_Qc D ad ca aw.length x (va_A (xi_rl ad ca aw) H.size) (Value.ref (ad r) :: As.map (xi_mp ad)).toArray) (va_A (xi_rl ad ca aw) H.size) :=
    va_runV hC (xm_sound (l := l) hx D ad ca H.size) (cwV (mN k) hC.2.2.2.2 (lh_good hTw hm hk hs) rfl rfl rfl ⟨rfl, f5⟩ ⟨hfr, by show 8 + (mL k + 11) + 64 * d ≤ R.locals; omega⟩) hpre rfl (by rw [List.length_map]; exact hn) hls rfl (lv_room hcm) hdg ⟨hce, hsl⟩
  intro T hT X
  obtain ⟨v, st₀, t, T', L1, h0, X', hL, e1, e2, ⟨⟨hv, hyl, hP1⟩, hz, hk1⟩, stp⟩ := hR T hT X
  cases hv
  rw [h0] at hz hk1
  obtain ⟨t2, a1, b1⟩ := kk T'.heap (locs ++ L1) (by rw [e1]; exact hP1) (xi_D_len hyl hD) (xi_S_call hS (by rw [e1]; exact hz) (fun q a b => by rw [e1]; exact hk1 q a b) hAs' hL) hyl T' rfl X'
  exact ⟨t2, stp t2 a1, b1⟩
theorem lh_thr {d k a r ci : Nat} {As rest fs : List Value} {aw aw' : xi_W} {cls : String} (hC : CallFix p m c cc nL s args Ts own) (hTw : ∀ w ∈ xi_wd, w ∈ Ts) (hm : Cond.methodLink own a (mY k) ∈ xi_wd) (hk : k < 117) (hs : mS k = false) (hci : ∃ q, vwCl[ci]? = some q ∧ q.1 = mO k) (hn : As.length = mN k) (ho : aw[r]? = some (.inr (ci, fs)))
    (hM : ∀ sz, vx_Met l (mY k) (mW k) (xx_rm d) (xx_Pc D ad ca (.ref r :: As) aw sz) xx_no (xx_X D ad ca aw.length cls aw' (va_A (xi_rl ad ca aw) sz)) 1 6 (va_A (xi_rl ad ca aw) sz))
    (hK : va_K D vwCl (xi_tyL ca) s) (hZ : xi_Z ad A s) (hX : xx_Z A s) (hA : ∀ q : Nat, s.heap.size ≤ q → A q) (hP : va_P D vwCl (xi_rl ad ca aw) H) (hD : va_D A (xi_rl ad ca aw)) (hS : va_S A s.heap H locs) (hls : ls.size = nL) (hcm : (rest.map fun v => v.category).sum ≤ 8) (hfr : d + 1 ≤ R.frames) (hlo : 64 + 64 * d ≤ R.locals) (hce : cells + 1 ≤ R.cells) (hsl : slots + 6 ≤ R.slots) (hdg : decode cc pc = .ok (.invokevirtual a, 3))
    (kx : ∀ (ce : Cell) (q9 : Addr) (H1 : Heap) (locs1 : List Loc), va_P D vwCl (xi_rl ad ca aw') H1 → va_D A (xi_rl ad ca aw') → va_S A s.heap H1 locs1 → aw'.length = aw.length → H1[q9]? = some ce → ce.vm = .none → s.vm.findClass cls = some ce.cls → vx_W p l e R s m args below meth c H1 locs1 (cells + 1) (slots + 6) Q (F0 m pc ls rest) q9) :
    W p l e R s m args below meth c H locs cells slots Q (F0 m pc ls ((As.map (xi_mp ad)).reverse ++ .ref (ad r) :: rest)) := by
  have hAs' := xi_A_sub hA hD hS
  obtain ⟨cq, hcq, hco⟩ := hci
  obtain ⟨-, -, -, -, f5, f6, -⟩ := xo_fks k hk
  have hrec := va_recv hK hP hcq (xi_rl_obj (ad := ad) (ca := ca) ho)
  rw [hco] at hrec
  have hpre : PreV s H (mO k) (ad r) (xx_Pc D ad ca (.ref r :: As) aw H.size) (As.map (xi_mp ad)) :=
    ⟨xx_blind _ _ _ _ _ _, hrec, fun U hU hW => ⟨rfl, by rw [hU], by rw [hU]; exact hP, va_K.moved hW.alike hK, hD.weaken (fun _ _ _ _ => trivial), xi_Z.at hZ hS hAs' hU hW, xx_Z.at hX hS hAs' hU hW⟩⟩
  refine xx_cx (vx_runV (As := As.map (xi_mp ad)) (rest := rest) hC (hM H.size) (cwV (mN k) hC.2.2.2.2 (lh_good hTw hm hk hs) rfl rfl rfl ⟨rfl, f5⟩ ⟨hfr, by show 8 + (mL k + 11) + 64 * d ≤ R.locals; omega⟩) hpre rfl (by rw [List.length_map]; exact hn) hls rfl (lv_room hcm) hdg ⟨hce, hsl⟩) hS hAs' (fun q _ h => hAs' q h) ?_
  intro E ce q9 u t H1 locs1 ht1 hvm hp hb hz hk1 hS1 hce hcv hcl
  obtain ⟨rfl, hN, hP1⟩ := hb
  exact kx ce q9 H1 locs1 (by rw [← ht1]; exact hP1) (xi_D_len hN hD) hS1 hN hce hcv hcl
end LH
/-! The law's helpers: what they answer, what is in out. -/
def lh_W (y : MethodName) (cc : ByteArray) (nL : Nat) (hh : List (Nat × Nat × Nat × Nat)) : List Cond := .codeWith y cc nL (some .int) hh :: xi_wd
def xx_nx : String → State → State → Prop := fun _ _ _ => False
def lh_pre (cc : ByteArray) (nL : Nat) (As : List Value) (P : Nat) : Prop := ∀ (p : Program) (l : Launch) (e : Env) (R : Room) (s : State) (m : MethodId) (args : Array Value) (below : List Frame) (meth : Method) (c : Code) (ad : Nat → Nat) (Q : State → Prop) (H : Heap) (locs : List Loc) (ls : Array Slot) (cells slots : Nat), p.tables.exec = Jvm.exec → c.code = cc → xi_lh ad ls nL (xi_pd nL (.ref 0 :: (As ++ [.ref 60]))) → W p l e R s m args below meth c H locs cells slots Q (F0 m P ls ((As.map (xi_mp ad)).reverse ++ [.ref (ad 0), .int 0, .ref (ad 60)])) → W p l e R s m args below meth c H locs cells slots Q (F0 m 0 ls [])
def lh_T (cc : ByteArray) (P E a : Nat) (off : Int) : Prop := decode cc P = .ok (.invokevirtual a, 3) ∧ decode cc (P + 3) = .ok (.i2l, 1) ∧ decode cc (P + 4) = .ok (.lastore, 1) ∧ decode cc (P + 5) = .ok (.goto off, 3) ∧ ((P + 5 : Nat) : Int) + off = (E : Int) ∧ decode cc E = .ok (.iconst 0, 1) ∧ decode cc (E + 1) = .ok (.ireturn, 1)
/-- out[0] -/
def lo (lv : Nat → Nat → Int64) (r : Int32) : Nat → Nat → Int64 := fun q => if q = 60 then vp_updL (lv 60) 0 r.toInt64 else lv q
theorem lo_set (iv : Nat → Int32) (av : Nat → Nat → Int32) (lv : Nat → Nat → Int64) (r : Int32) : (xs iv av lv).set 60 (.inl (1, .inr (.inl (vp_updL (lv 60) 0 r.toInt64)))) = xs iv av (lo lv r) := rfl
theorem lo_at (lv : Nat → Nat → Int64) (r : Int32) : lo lv r 60 0 = r.toInt64 := rfl
theorem lh_ret {l : Launch} {d a k P E nL : Nat} {off : Int} {y : MethodName} {cc : ByteArray} {hh : List (Nat × Nat × Nat × Nat)} {As : List Value} {iv iv1 : Nat → Int32} {av av1 : Nat → Nat → Int32} {lv lv1 : Nat → Nat → Int64} {r : Int32} (hy : y.cls = "TimedCompilerLaw") (hvs : Nat.ble (xi_en (.ref 0 :: (As ++ [.ref 60]))).length nL = true) (hpre : lh_pre cc nL As P) (hT : lh_T cc P E a off) (hm : Cond.methodLink "TimedCompilerLaw" a (mY k) ∈ xi_wd) (hk : k < 117) (hs : mS k = false) (ho : mO k = "TimedCompiler") (hn : As.length = mN k)
    (hx : xm d k (.ref 0 :: As) (xs iv av lv) (some (.int r), xs iv1 av1 lv1)) (D : va_G) (ad : Nat → Nat) (ca : Nat → ClassId) (sz : Nat) :
    vx_Met l y (lh_W y cc nL hh) (xx_rm (d + 1)) (xx_Pc D ad ca (.ref 0 :: (As ++ [.ref 60])) (xs iv av lv) sz) (xi_Qc D ad ca (xs iv av lv).length (some (.int 0), xs iv1 av1 (lo lv1 r)) (va_A (xi_rl ad ca (xs iv av lv)) sz)) xx_nx 1 6 (va_A (xi_rl ad ca (xs iv av lv)) sz) := by
  obtain ⟨t0, t3, t4, t5, tE, t6, t7⟩ := hT
  refine vx_ofWH (cc := cc) (maxL := nL) (ret := some .int) (hh := hh) (by rw [hy]; decide) rfl ?_
  intro p e s m args below meth c s₁ B hml hv
  obtain ⟨rfl, hsz, hP, hK, hD0, hZ, hX⟩ := hv
  have hts := atoms_spec (ws := lh_W y cc nL hh) B.pre
  have hown : s.vm.findClass "TimedCompilerLaw" = some m.cls := by rw [← hy]; exact findClass_of_methodNamed B.named
  subst hsz
  rw [lg_entry_eq]
  have hD := hD0.self (sz := s.heap.size)
  have hC : CallFix p m c cc nL s ((Value.ref 0 :: (As ++ [.ref 60])).map (xi_mp ad)).toArray (lh_W y cc nL hh) "TimedCompilerLaw" := ⟨B.exec, B.bytes, hml, hown, hts⟩
  have hlh := xi_lh.entry ad (.ref 0 :: (As ++ [.ref 60])) (Nat.le_of_ble_eq_true hvs)
  generalize (lg_sl ((Value.ref 0 :: (As ++ [.ref 60])).map (xi_mp ad)) ++ List.replicate (nL - (lg_sl ((Value.ref 0 :: (As ++ [.ref 60])).map (xi_mp ad))).length) Slot.unset).toArray = ls at hlh ⊢
  refine hpre p l e _ s m _ below meth c ad _ _ _ ls 0 0 B.exec B.bytes hlh ?_
  refine lh_call (d := d) (k := k) (a := a) (r := 0) (ci := 0) (As := As) (rest := [.int 0, .ref (ad 60)]) (aw := xs iv av lv) hC (fun w hw => List.mem_cons_of_mem _ hw) hm hk hs ⟨_, rfl, ho.symm⟩ hn rfl hx hK hZ (fun q hq => Or.inr hq) hP hD va_S.rf hlh.1 (Nat.le_of_ble_eq_true rfl) (by show d + 1 ≤ d + 1; omega) (by show 64 + 64 * d ≤ 64 * (d + 1); omega) (Nat.zero_le _) (Nat.zero_le _) t0 ?_
  intro H1 locs1 hP1 hD1 hS1 hN1
  refine lv_i2l B.exec B.bytes t3 rfl ?_
  obtain ⟨j0, hj0⟩ := xi_ty4 ca (r := 60) rfl
  refine va_last B.exec B.bytes hK hP1 hD1 hS1 60 j0 (xi_rl_arr (ad := ad) (ca := ca) (aw := xs iv1 av1 lv1) (r := 60) rfl) hj0 (xi_in_of (by decide)) t4 (fun H2 locs2 hP2 hD2 hS2 => ?_)
  have e1 : xi_rl ad ca (xs iv1 av1 (lo lv1 r)) = (xi_rl ad ca (xs iv1 av1 lv1)).set 60 (ad 60, .inl (ca 60, 1, .inr (.inl (vp_updL (lv1 60) 0 r.toInt64)))) := by rw [← lo_set]; exact xi_rl_set _ _ _ _ _
  have hP2 : va_P D vwCl (xi_rl ad ca (xs iv1 av1 (lo lv1 r))) H2 := by rw [e1]; exact hP2
  refine lv_goto B.exec B.bytes t5 tE ?_
  refine lv_iconst (v := 0) B.exec B.bytes t6 rfl ?_
  refine W.widen (k := 1) (n := 6) (Nat.zero_le _) (Nat.zero_le _) ?_
  exact vx_ret (W.iret (v := 0) B.exec B.bytes B.returns (fun t ht hW => ⟨⟨rfl, rfl, by rw [ht]; exact hP2⟩, hS2.F ht⟩) hS2.2.2 t7)
/-- a handler: the exception is put by, ret is answered -/
def lh_hd (cc : ByteArray) (nL h : Nat) (ret : Int32) : Prop := ∀ (p : Program) (l : Launch) (e : Env) (R : Room) (s : State) (m : MethodId) (args : Array Value) (below : List Frame) (meth : Method) (c : Code) (Q : State → Prop) (H : Heap) (locs : List Loc) (ls : Array Slot) (cells slots : Nat) (q : Addr), p.tables.exec = Jvm.exec → c.code = cc → lv_has ls nL [] → (∃ h2, decode cc h2 = .ok (.ireturn, 1) ∧ ((∀ ls', W p l e R s m args below meth c H locs cells slots Q (F0 m h2 ls' [.int ret])) → W p l e R s m args below meth c H locs cells slots Q (F0 m h ls [.ref q])))
theorem lh_exc {l : Launch} {d a k P nL : Nat} {y : MethodName} {cc : ByteArray} {hh : List (Nat × Nat × Nat × Nat)} {As : List Value} {iv iv1 : Nat → Int32} {av av1 : Nat → Nat → Int32} {lv lv1 : Nat → Nat → Int64} {ret : Int32} {cls : String} (hy : y.cls = "TimedCompilerLaw") (hvs : Nat.ble (xi_en (.ref 0 :: (As ++ [.ref 60]))).length nL = true) (hpre : lh_pre cc nL As P) (hT : decode cc P = .ok (.invokevirtual a, 3)) (hm : Cond.methodLink "TimedCompilerLaw" a (mY k) ∈ xi_wd) (hk : k < 117) (hs : mS k = false) (ho : mO k = "TimedCompiler") (hn : As.length = mN k)
    (hM : ∀ (D : va_G) (ad : Nat → Nat) (ca : Nat → ClassId) sz, vx_Met l (mY k) (mW k) (xx_rm d) (xx_Pc D ad ca (.ref 0 :: As) (xs iv av lv) sz) xx_no (xx_X D ad ca (xs iv av lv).length cls (xs iv1 av1 lv1) (va_A (xi_rl ad ca (xs iv av lv)) sz)) 1 6 (va_A (xi_rl ad ca (xs iv av lv)) sz))
    (pre : List ExceptionTableEntry) (x : ExceptionTableEntry) (suf : List ExceptionTableEntry) (hsplit : tableOf hh = pre ++ x :: suf) (hpass : ∀ z ∈ pre, cls = xx_UO ∧ z.catchType = 13 ∧ (z.catchType ≠ 0)) (hp13 : Cond.classLink "TimedCompilerLaw" 13 xx_IA ∈ xi_wd) (hxc : covers x P = true) (hx0 : x.catchType ≠ 0) (hcl : Cond.classLink "TimedCompilerLaw" x.catchType cls ∈ xi_wd) (hcB : Cond.castable cls cls ∈ xx_B) (hhd : lh_hd cc nL x.handlerPc ret)
    (D : va_G) (ad : Nat → Nat) (ca : Nat → ClassId) (sz : Nat) :
    vx_Met l y (lh_W y cc nL hh) (xx_rm (d + 1)) (xx_Pc D ad ca (.ref 0 :: (As ++ [.ref 60])) (xs iv av lv) sz) (xi_Qc D ad ca (xs iv av lv).length (some (.int ret), xs iv1 av1 lv1) (va_A (xi_rl ad ca (xs iv av lv)) sz)) xx_nx 1 6 (va_A (xi_rl ad ca (xs iv av lv)) sz) := by
  refine vx_ofWH (cc := cc) (maxL := nL) (ret := some .int) (hh := hh) (by rw [hy]; decide) rfl ?_
  intro p e s m args below meth c s₁ B hml hv
  obtain ⟨rfl, hsz, hP, hK, hD0, hZ, hX⟩ := hv
  have hts := atoms_spec (ws := lh_W y cc nL hh) B.pre
  have hown : s.vm.findClass "TimedCompilerLaw" = some m.cls := by rw [← hy]; exact findClass_of_methodNamed B.named
  have htab : c.exceptionTable.toList = tableOf hh := vx_table (x := y) B (hts _ List.mem_cons_self)
  subst hsz
  rw [lg_entry_eq]
  have hD := hD0.self (sz := s.heap.size)
  have hC : CallFix p m c cc nL s ((Value.ref 0 :: (As ++ [.ref 60])).map (xi_mp ad)).toArray (lh_W y cc nL hh) "TimedCompilerLaw" := ⟨B.exec, B.bytes, hml, hown, hts⟩
  have hlh := xi_lh.entry ad (.ref 0 :: (As ++ [.ref 60])) (Nat.le_of_ble_eq_true hvs)
  generalize (lg_sl ((Value.ref 0 :: (As ++ [.ref 60])).map (xi_mp ad)) ++ List.replicate (nL - (lg_sl ((Value.ref 0 :: (As ++ [.ref 60])).map (xi_mp ad))).length) Slot.unset).toArray = ls at hlh ⊢
  refine hpre p l e _ s m _ below meth c ad _ _ _ ls 0 0 B.exec B.bytes hlh ?_
  refine lh_thr (d := d) (k := k) (a := a) (r := 0) (ci := 0) (As := As) (rest := [.int 0, .ref (ad 60)]) (aw := xs iv av lv) hC (fun w hw => List.mem_cons_of_mem _ hw) hm hk hs ⟨_, rfl, ho.symm⟩ hn rfl (hM D ad ca) hK hZ hX (fun q hq => Or.inr hq) hP hD va_S.rf hlh.1 (Nat.le_of_ble_eq_true rfl) (by show d + 1 ≤ d + 1; omega) (by show 64 + 64 * d ≤ 64 * (d + 1); omega) (by show 0 + 1 ≤ 1; omega) (by show 0 + 6 ≤ 6; omega) hT ?_
  intro ce q9 H1 locs1 hP1 hD1 hS1 hN1 hce hcv hfc
  refine vx_catch hown pre x suf (htab.trans hsplit) (fun z hz => ?_) hxc hx0 (hts _ (List.mem_cons_of_mem _ hcl)) (va_Nw.use (xx_on _ hcB) (hX.2.2.1 _ hcB)) hce hcv hfc ?_
  · obtain ⟨h1, h2, h3⟩ := hpass z hz
    refine Or.inr ⟨h3, xx_IA, by rw [h2]; exact hts _ (List.mem_cons_of_mem _ hp13), by rw [h1]; exact hX.2.2.2⟩
  · obtain ⟨h2, hd2, hgo⟩ := hhd p l e _ s m _ below meth c _ H1 locs1 ls _ _ q9 B.exec B.bytes ⟨hlh.1, hlh.2.2.1, fun q hq => nomatch hq⟩
    exact hgo (fun ls' => vx_ret (W.iret (v := ret) B.exec B.bytes B.returns (fun t ht hW => ⟨⟨rfl, hN1, by rw [ht]; exact hP1⟩, hS1.F ht⟩) hS1.2.2 hd2))
