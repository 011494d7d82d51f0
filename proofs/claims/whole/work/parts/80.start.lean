/-! The law from its entry. -/
/-! THE CLAIM OUT OF ONE WALK OF THE LAW'S BODY. Your part is whole_start (and what it stands on); all else here is the same for every law, but numbers. -/
def R_law : String := "TimedCompilerLaw"
def lw_P (b : Addr) (xs : List Int32) (args : Array Value) (s : State) : Prop := args = #[.ref b] ∧ s.IntsAt b xs ∧ xs.length ≤ 1536 ∧ (Jvm.Cond.and given_1 narrow_1).before args s = true
def lw_Q (_ : Array Value) (s : State) (o : Outcome) (t : State) : Prop := o = .returned (some (.int 1)) ∧ Framed s o t [] 601024 7293034
def lw_Z (below : List Frame) (a : Array Value) (s : State) : State → Prop := fun t => ∃ o, t.status = .running ∧ Ended t below o ∧ lw_Q a s o t
/-- the law's own end, with 1 on the stack, nothing written that was there before, its room as the claim has it -/
theorem lw_ret {p : Program} {l : Launch} {e : Env} {s : State} {m : MethodId} {below : List Frame} {meth : Method} {c : Code} {b : Nat} (hx : p.tables.exec = Jvm.exec) (hb : c.code = code) (hr : meth.sig.returnType = ret) (hlocks : meth.locks = false) {pc : Nat} {H : Heap} {ls : Array Slot} (hdg : decode code pc = .ok (.ireturn, 1)) : W p l e room_1 s m #[Value.ref b] below meth c H [] 601024 7293034 (lw_Z below #[Value.ref b] s) (F0 m pc ls [.int 1]) := by
  intro T hT X
  obtain ⟨fs, hret, hrun, hended, hW, hframe⟩ := X.leave (v := some (.int 1)) (hlocks := hlocks) (fun h => by rw [hr] at h; cases h)
  have hmeth' : T.vm.method? m = some meth := X.method'
  refine ⟨T.setFrames fs, ?_, .returned (some (.int 1)), hrun, hended, rfl, ⟨_, rfl⟩, hW, hframe⟩
  jvm_step X.here [X.here.top, hx, hb, hdg, hmeth', hr, ret, narrow_b1]
  (try refine ⟨rfl, ?_⟩); (try refine ⟨rfl, ?_⟩)
  first | (intro acts; rw [hret _ acts rfl rfl rfl]) | rw [hret _ _ rfl rfl rfl]
  exact Steps.refl _
/-- what holds at the law's entry: the machine, the code, the tables' words (any of lw_tbl by 'hts w (by decide +kernel)'), the script of L ints xs at the cell b, what the Statement gives of the start (any of its parts by flat_of_before) -/
def lw_At (p : Program) (s : State) (m : MethodId) (meth : Method) (c : Code) (b L : Nat) (xs : Nat → Int32) : Prop :=
  p.tables.exec = Jvm.exec ∧ c.code = code ∧ meth.sig.returnType = ret ∧ c.maxLocals = 7 ∧ s.vm.findClass R_law = some m.cls ∧ (∀ w ∈ lw_tbl, w.before #[Value.ref b] s = true) ∧ va_X b L xs s s.heap ∧ b < s.heap.size ∧ meth.locks = false ∧ (Jvm.Cond.and given_1 narrow_1).before #[Value.ref b] s = true
/-! The start: the classes, the statics, the exceptions' world. -/
theorem ws_lr : LR (fun _ => 0) (fun _ _ => 0) := ⟨⟨0, fun _ => 0, ⟨rfl, Nat.zero_le _, fun i hi => absurd hi (Nat.not_lt_zero _), fun _ _ => rfl⟩, ⟨rfl, Nat.zero_le _, fun i hi => absurd hi (Nat.not_lt_zero _), fun _ _ => rfl⟩⟩, Or.inl ⟨rfl, rfl⟩, fun _ _ => rfl, fun _ _ => rfl, Or.inl ⟨rfl, rfl⟩, rfl⟩
set_option maxRecDepth 100000 in
theorem ws_inst : ∀ (ci : Nat) (C : String) (T : u_T) (n : Nat), vwCl[ci]? = some (C, T, n) → Cond.instantiable C n ∈ lw_tbl := by
  intro ci C T n h
  match ci, h with
  | 0, h => cases h; decide +kernel
  | 1, h => cases h; decide +kernel
  | 2, h => cases h; decide +kernel
  | 3, h => cases h; decide +kernel
  | 4, h => cases h; decide +kernel
  | 5, h => cases h; decide +kernel
  | 6, h => cases h; decide +kernel
  | _ + 7, h => cases h
theorem ws_K {s : State} {args : Array Value} (hts : ∀ w ∈ lw_tbl, w.before args s = true) : ∃ D : va_G, va_K D vwCl [] s := by
  have h1 : ∀ ci : Nat, ∃ x : ClassId × (Nat → Nat), ∀ q, vwCl[ci]? = some q → u_Kn s q.1 q.2.1 q.2.2 x.1 x.2 := by
    intro ci
    cases hq : vwCl[ci]? with
    | none =>
      obtain ⟨cC, iS, -⟩ := u_known hts (fun w hw => lx_tw w (xi_uws 0 _ _ _ rfl w hw)) (hts _ (ws_inst 0 _ _ _ rfl))
      exact ⟨(cC, iS), fun q h => nomatch h⟩
    | some q =>
      obtain ⟨C, T, n⟩ := q
      obtain ⟨cC, iS, hk⟩ := u_known hts (fun w hw => lx_tw w (xi_uws ci C T n hq w hw)) (hts _ (ws_inst ci C T n hq))
      exact ⟨(cC, iS), fun q h => by cases h; exact hk⟩
  refine ⟨(fun ci => (Classical.choose (h1 ci)).1, fun ci => (Classical.choose (h1 ci)).2), fun ci q hq => Classical.choose_spec (h1 ci) q hq, fun k q hk => ?_⟩
  cases k <;> cases hk
set_option maxRecDepth 100000 in
theorem ws_cost {s : State} {b : Nat} (hs : (Jvm.Cond.and given_1 narrow_1).before #[Value.ref b] s = true) (hA : ∀ a : Nat, a < s.heap.size → ¬ lxA s a) : ∃ t : Nat, (Term.static "TimedCompiler" "COST" "[I").eval #[Value.ref b] s none [] s = some (.ref t) ∧ va_T .int t 20 (fun j => .int (xi_cost j)) (lxA s) s s.heap :=
  va_Tof (by decide) (flat_of_before _ hs _ (by decide +kernel)) (va_eqt (flat_of_before _ hs _ (by decide +kernel))) (fun j hj => va_eqt (flat_of_before _ hs _ (by revert hj; revert j; decide +kernel))) hA
set_option maxRecDepth 100000 in
theorem ws_grow {s : State} {b : Nat} (hs : (Jvm.Cond.and given_1 narrow_1).before #[Value.ref b] s = true) (hA : ∀ a : Nat, a < s.heap.size → ¬ lxA s a) : ∃ t : Nat, (Term.static "TimedCompiler" "GROWTH" "[I").eval #[Value.ref b] s none [] s = some (.ref t) ∧ va_T .int t 20 (fun j => .int (xi_grow j)) (lxA s) s s.heap :=
  va_Tof (by decide) (flat_of_before _ hs _ (by decide +kernel)) (va_eqt (flat_of_before _ hs _ (by decide +kernel))) (fun j hj => va_eqt (flat_of_before _ hs _ (by revert hj; revert j; decide +kernel))) hA
set_option maxRecDepth 100000 in
theorem ws_in : Cond.laysStatic "TimedCompiler" "COST" "[I" ∈ lw_tbl ∧ Cond.laysStatic "TimedCompiler" "GROWTH" "[I" ∈ lw_tbl ∧ Cond.initialized "TimedCompiler" ∈ lw_tbl ∧ xi_nw1 ∈ lw_tbl ∧ xi_nw2 ∈ lw_tbl ∧ xi_nw3 ∈ lw_tbl := ⟨by decide +kernel, by decide +kernel, by decide +kernel, by decide +kernel, by decide +kernel, by decide +kernel⟩
theorem ws_Z {s : State} {b : Nat} (hts : ∀ w ∈ lw_tbl, w.before #[Value.ref b] s = true) (hA : ∀ a : Nat, a < s.heap.size → ¬ lxA s a) {t1 t2 : Nat} {ad : Nat → Nat} (e1 : (Term.static "TimedCompiler" "COST" "[I").eval #[Value.ref b] s none [] s = some (.ref t1)) (e2 : (Term.static "TimedCompiler" "GROWTH" "[I").eval #[Value.ref b] s none [] s = some (.ref t2)) (g1 : va_T .int t1 20 (fun j => .int (xi_cost j)) (lxA s) s s.heap) (g2 : va_T .int t2 20 (fun j => .int (xi_grow j)) (lxA s) s s.heap) (h1 : ad 1000 = t1) (h2 : ad 1001 = t2) : xi_Z ad (lxA s) s := by
  subst h1; subst h2
  exact ⟨⟨va_Zof (hts _ ws_in.1) (hts _ ws_in.2.2.1) e1 hA, g1⟩, ⟨va_Zof (hts _ ws_in.2.1) (hts _ ws_in.2.2.1) e2 hA, g2⟩, va_Nw.of rfl (hts _ ws_in.2.2.2.1), va_Nw.of rfl (hts _ ws_in.2.2.2.2.1), va_Nw.of rfl (hts _ ws_in.2.2.2.2.2)⟩
set_option maxRecDepth 100000 in
theorem ws_in2 : Cond.laysStatic Bundle.tN "UNASSIGNED_STACK" Bundle.steD ∈ lw_tbl ∧ Cond.laysStatic Bundle.tN "SUPPRESSED_SENTINEL" Bundle.listD ∈ lw_tbl ∧ Cond.initialized Bundle.tN ∈ lw_tbl ∧ (∀ w ∈ xx_B, w ∈ lw_tbl) ∧ (∀ w ∈ cn, w ∈ lw_tbl) := ⟨by decide +kernel, by decide +kernel, by decide +kernel, by decide +kernel, by decide +kernel⟩
set_option maxRecDepth 100000 in
theorem ws_X {s : State} {b : Nat} (hts : ∀ w ∈ lw_tbl, w.before #[Value.ref b] s = true) (hs : (Jvm.Cond.and given_1 narrow_1).before #[Value.ref b] s = true) (hA : ∀ a : Nat, a < s.heap.size → ¬ lxA s a) : xx_Z (lxA s) s :=
  ⟨vx_Zqof (hts _ ws_in2.1) (hts _ ws_in2.2.2.1) (flat_of_before _ hs _ (by decide +kernel)) hA, vx_Zqof (hts _ ws_in2.2.1) (hts _ ws_in2.2.2.1) (flat_of_before _ hs _ (by decide +kernel)) hA, fun w hw => va_Nw.of (xx_on w hw) (hts w (ws_in2.2.2.2.1 w hw)), va_Nc.of (args := #[Value.ref b]) (flat_of_before _ hs _ (by decide +kernel))⟩
def rlx (ad : Nat → Nat) (ca : Nat → ClassId) : Nat → xi_W → va_W
  | _, [] => []
  | n, x :: r => xi_cr ad ca n x :: rlx ad ca (n + 1) r
theorem rlx_eq (ad : Nat → Nat) (ca : Nat → ClassId) : ∀ (aw : xi_W) (n : Nat), aw.mapIdx (fun i x => xi_cr ad ca (i + n) x) = rlx ad ca n aw := by
  intro aw
  induction aw with
  | nil => intro n; rfl
  | cons x r ih =>
    intro n
    rw [List.mapIdx_cons, rlx, ← ih (n + 1), Nat.zero_add]
    have e : (fun (i : Nat) (y : xi_C) => xi_cr ad ca (i + 1 + n) y) = (fun i y => xi_cr ad ca (i + (n + 1)) y) := by
      funext i y
      rw [show i + 1 + n = i + (n + 1) by omega]
    rw [e]
theorem rlx_0 (ad : Nat → Nat) (ca : Nat → ClassId) (aw : xi_W) : xi_rl ad ca aw = rlx ad ca 0 aw := rlx_eq ad ca aw 0
/-- the world's addresses -/
def ws_ad (t1 t2 q1 q2 q3 : Nat) (u1 u2 : cS) : Nat → Nat := fun i => match i with
  | 0 => q1
  | 1 => u1.1 1
  | 2 => u1.1 2
  | 3 => u1.1 3
  | 4 => u1.1 4
  | 5 => u1.1 5
  | 6 => u1.1 6
  | 7 => u1.1 7
  | 8 => u1.1 8
  | 9 => u1.1 9
  | 10 => u1.1 10
  | 11 => u1.1 11
  | 12 => u1.1 12
  | 13 => u1.1 13
  | 14 => u1.1 14
  | 15 => u1.1 15
  | 16 => u1.1 16
  | 17 => u1.1 17
  | 18 => u1.1 18
  | 19 => u1.1 19
  | 20 => u1.1 20
  | 21 => u1.1 21
  | 22 => u1.1 22
  | 23 => u1.1 23
  | 24 => u1.1 24
  | 25 => u1.1 25
  | 26 => u1.1 26
  | 27 => q2
  | 28 => u2.1 0
  | 29 => u2.1 1
  | 30 => u2.1 2
  | 31 => u2.1 3
  | 32 => u2.1 4
  | 33 => u2.1 5
  | 34 => u2.1 6
  | 35 => u2.1 7
  | 36 => u2.1 8
  | 37 => u2.1 9
  | 38 => u2.1 10
  | 39 => u2.1 11
  | 40 => u2.1 12
  | 41 => u2.1 13
  | 42 => u2.1 14
  | 43 => u2.1 15
  | 44 => u2.1 16
  | 45 => u2.1 17
  | 46 => u2.1 18
  | 47 => u2.1 19
  | 48 => u2.1 20
  | 49 => u2.1 21
  | 50 => u2.1 22
  | 51 => u2.1 23
  | 52 => u2.1 24
  | 53 => u2.1 25
  | 54 => u2.1 26
  | 55 => u2.1 27
  | 56 => u2.1 28
  | 57 => u2.1 29
  | 58 => u2.1 30
  | 59 => u2.1 31
  | 60 => q3
  | 1000 => t1
  | _ => t2
def ws_ca (c3 : ClassId) (u1 u2 : cS) : Nat → ClassId := fun i => match i with
  | 1 => u1.2 1
  | 2 => u1.2 2
  | 3 => u1.2 3
  | 4 => u1.2 4
  | 5 => u1.2 5
  | 6 => u1.2 6
  | 7 => u1.2 7
  | 8 => u1.2 8
  | 9 => u1.2 9
  | 10 => u1.2 10
  | 11 => u1.2 11
  | 12 => u1.2 12
  | 13 => u1.2 13
  | 14 => u1.2 14
  | 15 => u1.2 15
  | 16 => u1.2 16
  | 17 => u1.2 17
  | 18 => u1.2 18
  | 19 => u1.2 19
  | 20 => u1.2 20
  | 21 => u1.2 21
  | 22 => u1.2 22
  | 23 => u1.2 23
  | 24 => u1.2 24
  | 25 => u1.2 25
  | 26 => u1.2 26
  | 28 => u2.2 0
  | 29 => u2.2 1
  | 30 => u2.2 2
  | 31 => u2.2 3
  | 32 => u2.2 4
  | 33 => u2.2 5
  | 34 => u2.2 6
  | 35 => u2.2 7
  | 36 => u2.2 8
  | 37 => u2.2 9
  | 38 => u2.2 10
  | 39 => u2.2 11
  | 40 => u2.2 12
  | 41 => u2.2 13
  | 42 => u2.2 14
  | 43 => u2.2 15
  | 44 => u2.2 16
  | 45 => u2.2 17
  | 46 => u2.2 18
  | 47 => u2.2 19
  | 48 => u2.2 20
  | 49 => u2.2 21
  | 50 => u2.2 22
  | 51 => u2.2 23
  | 52 => u2.2 24
  | 53 => u2.2 25
  | 54 => u2.2 26
  | 55 => u2.2 27
  | 56 => u2.2 28
  | 57 => u2.2 29
  | 58 => u2.2 30
  | 59 => u2.2 31
  | _ => c3
set_option maxRecDepth 100000 in
set_option maxHeartbeats 8000000 in
theorem ws_rl (t1 t2 q1 q2 q3 : Nat) (c3 : ClassId) (u1 u2 : cS) : ([] ++ wTC q1 u1 ++ wModel q2 u2) ++ [(q3, .inl (c3, ct_a .long 1))] = xi_rl (ws_ad t1 t2 q1 q2 q3 u1 u2) (ws_ca c3 u1 u2) (xs (fun _ => 0) (fun _ _ => 0) (fun _ _ => 0)) := by
  rw [rlx_0]
  rfl
set_option maxRecDepth 100000 in
set_option maxHeartbeats 8000000 in
theorem ws_ty (c3 : ClassId) (u1 u2 : cS) : ([] ++ tTC u1 ++ tModel u2) ++ [(c3, .long)] = xi_tyL (ws_ca c3 u1 u2) := rfl
set_option maxRecDepth 100000 in
theorem iTC : Cond.instantiable "TimedCompiler" 4 ∈ xi_wd ∧ Cond.instanceMethod (ct_in "TimedCompiler") ∈ xi_wd ∧ Cond.initialized "TimedCompiler" ∈ xi_wd ∧ Cond.classLink "TimedCompilerLaw" 8 "TimedCompiler" ∈ xi_wd ∧ Cond.methodLink "TimedCompilerLaw" 44 (ct_in "TimedCompiler") ∈ xi_wd := ⟨xx_wd (by decide +kernel) (by decide +kernel), xx_wd (by decide +kernel) (by decide +kernel), xx_wd (by decide +kernel) (by decide +kernel), xx_wd (by decide +kernel) (by decide +kernel), xx_wd (by decide +kernel) (by decide +kernel)⟩
set_option maxRecDepth 100000 in
theorem iModel : Cond.instantiable "TimedCompilerModel" 48 ∈ xi_wd ∧ Cond.instanceMethod (ct_in "TimedCompilerModel") ∈ xi_wd ∧ Cond.initialized "TimedCompilerModel" ∈ xi_wd ∧ Cond.classLink "TimedCompilerLaw" 45 "TimedCompilerModel" ∈ xi_wd ∧ Cond.methodLink "TimedCompilerLaw" 47 (ct_in "TimedCompilerModel") ∈ xi_wd ∧ Cond.arrayClass .long ∈ xi_wd := ⟨xx_wd (by decide +kernel) (by decide +kernel), xx_wd (by decide +kernel) (by decide +kernel), xx_wd (by decide +kernel) (by decide +kernel), xx_wd (by decide +kernel) (by decide +kernel), xx_wd (by decide +kernel) (by decide +kernel), xx_wd (by decide +kernel) (by decide +kernel)⟩
set_option maxRecDepth 100000 in
theorem vTC : ∀ k, k < 4 → defaultValue (xn_t0 k) = vp_V fTC k := by decide +kernel
set_option maxRecDepth 100000 in
theorem vModel : ∀ k, k < 48 → defaultValue (xn_t6 k) = vp_V fModel k := by decide +kernel
set_option maxRecDepth 100000 in
set_option maxHeartbeats 8000000 in
theorem whole_start {p : Program} {e : Env} {s : State} {m : MethodId} {below : List Frame} {meth : Method} {c : Code} (l : Launch) (hl : l.stackTraces = false) {b L : Nat} {f : Nat → Int32} (hL : L ≤ 1536) (C0 : lw_At p s m meth c b L f) : W p l e room_1 s m #[Value.ref b] below meth c s.heap [] 0 0 (lw_Z below #[Value.ref b] s) (entryFrame m ([Value.ref b] : List Value).toArray 7) := by
  obtain ⟨hx, hb, hr, hml, hown, hts, hX, hbl, hlocks, hgv⟩ := C0
  have hA : ∀ q : Nat, s.heap.size ≤ q → lxA s q := fun q hq => hq
  have hnA : ∀ a : Nat, a < s.heap.size → ¬ lxA s a := fun a ha hq => absurd (show s.heap.size ≤ a from hq) (Nat.not_le.mpr ha)
  obtain ⟨D, hK⟩ := ws_K hts
  obtain ⟨t1, e1, g1⟩ := ws_cost hgv hnA
  obtain ⟨t2, e2, g2⟩ := ws_grow hgv hnA
  have hN : ∀ w ∈ cn, va_Nw w s := fun w hw => va_Nw.of (cn_on w hw) (hts w (ws_in2.2.2.2.2 w hw))
  have hC : CallFix p m c code 7 s #[Value.ref b] lw_tbl "TimedCompilerLaw" := ⟨hx, hb, hml, hown, hts⟩
  have hls := lv_entry ([.ref b]) (n := 7) (Nat.le_of_ble_eq_true rfl)
  rw [lg_entry_eq]
  generalize (lg_sl ([.ref b]) ++ List.replicate (7 - (lg_sl ([.ref b])).length) Slot.unset).toArray = ls at hls ⊢
  have hls : lv_has ls 7 [(0, .ref b)] := hls
  have hP : va_P D vwCl [] s.heap := fun k q hq => by cases k <;> cases hq
  have hD : va_D (lxA s) [] := ⟨fun i j y z hy => (by cases i <;> cases hy), fun k q hq => (by cases k <;> cases hq)⟩
  have hS : va_S (lxA s) s.heap s.heap [] := va_S.rf
  refine va_new (index := 8) (ci := 0) (fs := fTC) (C := "TimedCompiler") (T := xn_T0) (N := 4) hx hb hts (fun w hw => lx_tw w (xi_uws 0 _ _ _ rfl w hw)) xn_t0 xn_o0 hown (hts _ (lx_tw _ iTC.2.2.2.1)) (hts _ (lx_tw _ iTC.1)) (hts _ (lx_tw _ iTC.2.2.1)) hK hP hD hS hA rfl vTC (by decide) (by decide) (by decide +kernel) (fun q1 H hP hD hS => ?_)
  refine lv_dup hx hb (by decide +kernel) rfl ?_
  refine ct_call (im := 44) (wr := []) (rest := [.ref q1]) hC lx_tw (cTC l) kTC iTC.2.1 iTC.2.2.1 (by decide) (Or.inr iTC.2.2.2.2) hN rfl rfl (by decide) (by decide) hA hK hP hD hS hls.1 (Nat.le_of_ble_eq_true rfl) (by decide) (by decide) (by decide +kernel) (fun u1 H locs hK hP hD hS => ?_)
  refine lv_astore_n (k := 1) (i := 1) hx hb (by decide +kernel) rfl hls (by decide) rfl (fun ls hls => ?_)
  have hls : lv_has ls 7 [(1, .ref q1), (0, .ref b)] := hls
  refine va_new (index := 45) (ci := 6) (fs := fModel) (C := "TimedCompilerModel") (T := xn_T6) (N := 48) hx hb hts (fun w hw => lx_tw w (xi_uws 6 _ _ _ rfl w hw)) xn_t6 xn_o6 hown (hts _ (lx_tw _ iModel.2.2.2.1)) (hts _ (lx_tw _ iModel.1)) (hts _ (lx_tw _ iModel.2.2.1)) hK hP hD hS hA rfl vModel (by decide) (by decide) (by decide +kernel) (fun q2 H hP hD hS => ?_)
  refine lv_dup hx hb (by decide +kernel) rfl ?_
  refine ct_call (im := 47) (wr := [] ++ wTC q1 u1) (rest := [.ref q2]) hC lx_tw (cModel l) kModel iModel.2.1 iModel.2.2.1 (by decide) (Or.inr iModel.2.2.2.2.1) hN rfl rfl (by decide) (by decide) hA hK hP hD hS hls.1 (Nat.le_of_ble_eq_true rfl) (by decide) (by decide) (by decide +kernel) (fun u2 H locs hK hP hD hS => ?_)
  refine lv_astore_n (k := 2) (i := 2) hx hb (by decide +kernel) rfl hls (by decide) rfl (fun ls hls => ?_)
  have hls : lv_has ls 7 [(2, .ref q2), (1, .ref q1), (0, .ref b)] := hls
  refine lv_iconst (n := 1) (v := 1) hx hb (by decide +kernel) rfl ?_
  refine va_newa (atype := .long) (N' := 1) hx hb (hts _ (lx_tw _ iModel.2.2.2.2.2)) rfl hK hP hD hS hA (ct_cell (t := .long) rfl 1) (by decide) (by decide) (by decide) (by decide) (by decide) (by decide +kernel) (fun q3 c3 H hK hP hD hS => ?_)
  refine lv_astore_n (k := 3) (i := 3) hx hb (by decide +kernel) rfl hls (by decide) rfl (fun ls hls => ?_)
  have hls : lv_has ls 7 [(3, .ref q3), (2, .ref q2), (1, .ref q1), (0, .ref b)] := hls
  refine lv_iconst (n := 0) (v := 0) hx hb (by decide +kernel) rfl ?_
  refine lv_istore (i := 4) hx hb (by decide +kernel) hls (by decide) rfl (fun ls hls => ?_)
  have hls : lv_has ls 7 [(4, .int 0), (3, .ref q3), (2, .ref q2), (1, .ref q1), (0, .ref b)] := hls
  have hls : lv_has ls 7 (lxB b (ws_ad t1 t2 q1 q2 q3 u1 u2) (nI (3 * 0))) := lv_sub hls [4, 3, 2, 1, 0] rfl
  rw [ws_rl t1 t2 q1 q2 q3 c3 u1 u2] at hP hD
  have hK : va_K D vwCl (xi_tyL (ws_ca c3 u1 u2)) s := by rw [← ws_ty]; exact hK
  have X : LX p s m c b L f D (ws_ad t1 t2 q1 q2 q3 u1 u2) (ws_ca c3 u1 u2) := ⟨hC, hK, ws_Z hts hnA e1 e2 g1 g2 rfl rfl, ws_X hts hgv hnA, hX, hbl⟩
  refine W.widen (k := 100 + 0) (n := 10000 + 6 * 0) (by decide) (by decide) ?_
  refine lx_loop hl hL X (fun H locs ls cells slots h1 h2 hS => ?_) (L + 1) 0 (by omega) (by omega) H locs ls _ _ _ ⟨hP, hD, hS⟩ ws_lr hls
  refine W.widen (k := 601024) (n := 7293034) h1 h2 ?_
  refine va_forget (fun q hq => hS.2.2 q hq) ?_
  refine lv_iconst (n := 1) (v := 1) hx hb (by decide +kernel) rfl ?_
  exact lw_ret hx hb hr hlocks (by decide +kernel)
set_option maxHeartbeats 4000000 in
theorem lw_walk (l : Launch) (hl : l.stackTraces = false) (b : Addr) (xs : List Int32) : MetFree l x (headSpec (Jvm.Cond.code x code maxLocals ret :: tables_1) room_1) (lw_P b xs) (fun _ _ _ _ _ => True) lw_Q := by
  refine MetFree.of_bodyS (code := code) (maxLocals := maxLocals) (ret := ret) (by decide) ?_ ?_
  · intro args s m h hn
    obtain ⟨meth, c, h1, h2, h3, h4, h5, h6, -, -⟩ := Cond.code_spec hn (atoms_spec (ws := Jvm.Cond.code x code maxLocals ret :: tables_1) h _ List.mem_cons_self)
    exact ⟨meth, c, h1, h2, h3, h4, h5, h6⟩
  · intro p e s m args below meth c s₁ B hml0 hP _
    obtain ⟨rfl, hx, hbd, hgv⟩ := hP
    obtain ⟨scr, harrAt, hlist, hof, hsmall⟩ := hx
    obtain ⟨hcb, hkn, -, -⟩ := State.arrayAt?_spec harrAt
    have hown : s.vm.findClass R_law = some m.cls := findClass_of_methodNamed B.named
    have hts0 : ∀ c ∈ (Jvm.Cond.code x code maxLocals ret :: tables_1), c.before #[Value.ref b] s = true := atoms_spec (ws := Jvm.Cond.code x code maxLocals ret :: tables_1) B.pre
    have hts : ∀ w ∈ lw_tbl, w.before #[Value.ref b] s = true := k2_hts_sels lw_privs (fun w hw => hts0 w (List.mem_cons_of_mem _ hw)) lw_privs_ok
    have hml : c.maxLocals = 7 := B.maxLocals_eq (hts0 _ List.mem_cons_self)
    have X₀ : Stand p l e room_1 s m #[Value.ref b] below meth c s₁ [] 0 0 := Stand.of_body B
    have hh0 : s₁.heap = s.heap := by rw [B.state]; rfl
    have hsz : scr.slots.size = xs.length := by rw [← Array.length_toList, hlist, List.length_map]
    have hval : ∀ j : Nat, j < xs.length → scr.slots[j]? = some (.int (xs.getD j 0)) := fun j hj => by
      rw [← Array.getElem?_toList, hlist]
      simp [hj]
    have hbl : b < s.heap.size := (Array.getElem?_eq_some_iff.mp hcb).1
    have hX : va_X b xs.length (fun j => xs.getD j 0) s s.heap := ⟨scr, hcb, hof, hkn, hsz, hval⟩
    have K : W p l e room_1 s m #[Value.ref b] below meth c s₁.heap [] 0 0 (lw_Z below #[Value.ref b] s) (entryFrame m ([Value.ref b] : List Value).toArray 7) := by
      rw [hh0]
      exact whole_start l hl hbd ⟨B.exec, B.bytes, B.returns, hml, hown, hts, hX, hbl, B.notSynchronized, hgv⟩
    obtain ⟨t, a1, o, b1, b2, b3⟩ := K s₁ rfl X₀
    exact ⟨t, o, a1, b1, b2, b3⟩
theorem lw_pre_spec {args : Array Value} {s : State} (h : (Jvm.Cond.and given_1 narrow_1).before args s = true) (hr : rest_1_c.before args s = true) : ∃ (b : Addr) (xs : List Int32), lw_P b xs args s := by
  have hs := flat_of_before _ h
  have hq := flat_of_before _ hr
  have hc : (Cond.count 1).before args s = true := hs _ (by decide +kernel)
  have harr : (Cond.arrayOf (.arg 0) .int).before args s = true := hs _ (by decide +kernel)
  have hle : (Cond.le (.length (.arg 0)) (.int 1536)).before args s = true := hs _ (by decide +kernel)
  have hlen : (Cond.isInt (.length (.arg 0))).before args s = true := hq _ (by decide +kernel)
  have hall : (Cond.all (.arg 0) (.isInt (.elem (.arg 0) (.index 0)))).before args s = true := hq _ (by decide +kernel)
  obtain ⟨b, xs, hb, hx⟩ := State.ints_of_pre rfl harr hlen hall
  have hsm : xs.length < 2 ^ 31 := hx.choose_spec.2.2.2
  have hev : (Term.length (.arg 0)).eval args s none [] s = some (.int xs.length.toInt32) := hx.length_eval hb
  have hv := Cond.le_ints hev (show (Term.int 1536).eval args s none [] s = some (.int 1536) from rfl)
  have hd : xs.length.toInt32 ≤ 1536 := by
    simpa [Cond.before, Cond.holds, hv] using hle
  have hN : xs.length ≤ 1536 := (Int32.ofNat_le_ofNat hsm (by decide)).mp (show Int32.ofNat xs.length ≤ Int32.ofNat 1536 from hd)
  exact ⟨b, xs, Cond.one_arg hc (show args[0]? = some (.ref b) from hb), hx, hN, h⟩
theorem lw_comes (l : Launch) (hl : l.stackTraces = false) : Comes l x (Jvm.Cond.code x code maxLocals ret :: tables_1) room_1 (fun tb e args s => Calls_1 tb e args s ∧ rest_1 tb e args s ∧ Pre_1 tb e args s)
    (fun _ _ args s o t => lw_Q args s o t) := by
  intro p e ha hc hk s m args below hf hfit hheap happ hpre
  obtain ⟨b, xs, hP⟩ := lw_pre_spec hpre.2.2 hpre.2.1
  obtain ⟨k, o, h1, h2, h3, hQ⟩ := lw_walk l hl b xs p e ha hc hk s m args below hf ((Spec.applies_iff_loose hf).mp happ).1 hP trivial
  exact ⟨k, o, h1, h2, h3, hQ⟩
theorem lw_frame {s t : State} {o : Outcome} {args : Array Value} (h : Framed s o t [] 601024 7293034) :
    Framed s o t (fieldLocs frame_1_writes args s ++ arrayLocs frame_1_arrays args s ++ staticLocs frame_1_statics s) 601024 7293034 := h
theorem lw_limb (L : Cond) (hL : ∀ (args : Array Value) (s t : State), L.after args s (.returned (some (.int 1))) t = true) :
    ArmFor flags0 classFile x code maxLocals ret World_1 tables_1 room_1 Calls_1 rest_1 Pre_1
      (fun tb e a s o t => postC L tb e a s o t ∧ Framed s o t (fieldLocs frame_1_writes a s ++ arrayLocs frame_1_arrays a s ++ staticLocs frame_1_statics s) 601024 7293034) := by
  intro l hfl _ _ p e ha hc hk s m args below hf hfit hheap happ hpre
  have hl : l.stackTraces = false := by unfold Launch.stackTraces; rw [hfl]; decide
  obtain ⟨k, o, h1, h2, h3, rfl, hF⟩ := lw_comes l hl p e ha hc hk s m args below hf hfit hheap happ hpre
  exact ⟨k, _, h1, h2, h3, hL args s _, lw_frame hF⟩
theorem i_vc : Claimed_1_1 ∧ Claimed_1_2 := ⟨lw_limb limb_1_1 (fun args s t => by simp [limb_1_1, Cond.after, Cond.holds, Cond.value]), lw_limb limb_1_2 (fun args s t => Cond.after_iff.mpr (by
  first | (rw [show limb_1_2 = Cond.eq .result (.int 1) from rfl, Cond.eq_ints (x := 1) (y := 1) rfl rfl]; simp; done) | (simp [limb_1_2, Cond.value, Term.eval]; done)))⟩
