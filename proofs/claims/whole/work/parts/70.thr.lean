/-! Exceptions: what they need of the world; the throwing ends of the class's methods. -/
def xx_IA : String := "java/lang/IllegalArgumentException"
def xx_UO : String := "java/lang/UnsupportedOperationException"
def xx_IS : String := "java/lang/IllegalStateException"
def xx_IO : String := "java/lang/IndexOutOfBoundsException"
def xx_up : List String := ["java/lang/RuntimeException", "java/lang/Exception"]
def xx_B : List Cond := [.declares (Bundle.init0 "java/lang/RuntimeException"), .declares (Bundle.init0 "java/lang/Exception"), .declares (Bundle.init0 Bundle.tN), .castable xx_IA xx_IA, .castable xx_UO xx_UO, .castable xx_IS xx_IS, .castable xx_IO xx_IO]
theorem xx_on : ∀ w ∈ xx_B, w.onTables = true := by decide
theorem xx_warm {s U : State} (hW : s.WarmedH U.vm) : ∀ w ∈ xx_B, va_Nw w s → va_Nw w U := by
  intro w hw h
  simp only [xx_B, List.mem_cons, List.not_mem_nil, or_false] at hw
  rcases hw with rfl | rfl | rfl | rfl | rfl | rfl | rfl
  · exact va_Nw.warmD hW h
  · exact va_Nw.warmD hW h
  · exact va_Nw.warmD hW h
  · exact va_Nw.warmC hW h
  · exact va_Nw.warmC hW h
  · exact va_Nw.warmC hW h
  · exact va_Nw.warmC hW h
def xx_Z (A : Nat → Prop) (U : State) : Prop := vx_Zq Bundle.tN "UNASSIGNED_STACK" Bundle.steD A U U.heap ∧ vx_Zq Bundle.tN "SUPPRESSED_SENTINEL" Bundle.listD A U U.heap ∧ (∀ w ∈ xx_B, va_Nw w U) ∧ va_Nc xx_UO xx_IA U
theorem xx_Z.calling {A : Nat → Prop} {U : State} {g : JFrame} {mk : MethodId} {a : Array Value} (h : xx_Z A U) : xx_Z A (U.calling g mk a) :=
  ⟨vx_Zq.moved (u := U) (U := U.calling g mk a) (Vm.Alike.refl U.vm) h.1, vx_Zq.moved (u := U) (U := U.calling g mk a) (Vm.Alike.refl U.vm) h.2.1, fun w hw => va_Nw.same (u := U) (U := U.calling g mk a) (xx_on w hw) rfl (h.2.2.1 w hw), va_Nc.moved (u := U) (U := U.calling g mk a) (Vm.Alike.refl U.vm) h.2.2.2⟩
theorem xx_Z.at {A B : Nat → Prop} {s U : State} {H : Heap} {locs : List Loc} (h : xx_Z A s) (hS : va_S A s.heap H locs) (hB : ∀ q, B q → A q) (hU : U.heap = H) (hW : s.WarmedH U.vm) : xx_Z B U := by
  subst hU
  exact ⟨((h.1.kept hS.2.1).moved hW.alike).narrow hB, ((h.2.1.kept hS.2.1).moved hW.alike).narrow hB, fun w hw => xx_warm hW w hw (h.2.2.1 w hw), h.2.2.2.moved hW.alike⟩
def xx_rm (d : Nat) : Room := { frames := d, cells := 1, slots := 6, locals := 64 * d }
def xx_Pc (D : va_G) (ad : Nat → Nat) (ca : Nat → ClassId) (vs : List Value) (aw : xi_W) (sz : Nat) : Array Value → State → Prop := va_Pc (vs.map (xi_mp ad)) (fun U => U.heap.size = sz ∧ va_P D vwCl (xi_rl ad ca aw) U.heap ∧ va_K D vwCl (xi_tyL ca) U ∧ va_D (fun _ => True) (xi_rl ad ca aw) ∧ xi_Z ad (va_A (xi_rl ad ca aw) sz) U ∧ xx_Z (va_A (xi_rl ad ca aw) sz) U)
theorem xx_blind (D : va_G) (ad : Nat → Nat) (ca : Nat → ClassId) (vs : List Value) (aw : xi_W) (sz : Nat) : FrameBlind (xx_Pc D ad ca vs aw sz) := by
  intro a U g mk q
  obtain ⟨q0, q1, qP, qK, qD, qZ, qX⟩ := q
  exact ⟨q0, q1, qP, va_K.moved (u := U) (U := U.calling g mk a) (Vm.Alike.refl U.vm) qK, qD, xi_Z.calling qZ, xx_Z.calling qX⟩
def xx_X (D : va_G) (ad : Nat → Nat) (ca : Nat → ClassId) (N : Nat) (cls : String) (aw : xi_W) (A : Nat → Prop) : String → State → State → Prop := vx_X (fun _ : Unit => True) (fun E _ t => E = cls ∧ aw.length = N ∧ va_P D vwCl (xi_rl ad ca aw) t.heap) A
def xx_no : Array Value → State → Outcome → State → Prop := fun _ _ _ _ => False
def xx_F (k stop ik ic : Nat) (cls : String) : Prop := Bundle.fit cls = true ∧ Cond.classLink (mO k) ik cls ∈ xi_wd ∧ Cond.initialized cls ∈ xi_wd ∧ (∀ w ∈ (vx_at0 (mO k) ic cls xx_up).filter goodWord, w ∈ xi_wd) ∧ (∀ w ∈ (vx_at0 (mO k) ic cls xx_up).filter (fun w => !goodWord w), w ∈ xx_B) ∧ (∀ w ∈ Cond.classLink (mO k) ik cls :: Cond.initialized cls :: vx_at0 (mO k) ic cls xx_up, vx_ot w = true) ∧
  decode (mC k) stop = .ok (.new ik, 3) ∧ decode (mC k) (stop + 3) = .ok (.dup, 1) ∧ decode (mC k) (stop + 4) = .ok (.invokespecial ic, 3) ∧ decode (mC k) (stop + 7) = .ok (.athrow, 1)
theorem xx_thr {l : Launch} (hl : l.stackTraces = false) {d k stop ik ic nL : Nat} {cls : String} {tb : List (Option xi_E)} {vs : List Value} {aw aw' : xi_W} (ht : xi_tbs[k]? = some (nL, tb)) (hvs : Nat.ble (xi_en vs).length nL = true) (hd : 5 ≤ d) (F : xx_F k stop ik ic cls) (h : xg d tb stop 0 (xi_pd nL vs) [] aw (none, aw')) (D : va_G) (ad : Nat → Nat) (ca : Nat → ClassId) (sz : Nat) :
    vx_Met l (mY k) (mW k) (xx_rm (d + 1)) (xx_Pc D ad ca vs aw sz) xx_no (xx_X D ad ca aw.length cls aw' (va_A (xi_rl ad ca aw) sz)) 1 6 (va_A (xi_rl ad ca aw) sz) := by
  obtain ⟨N, hN⟩ := h
  obtain ⟨⟨hs, hca⟩, rfl, hk, hF⟩ := xo_all k nL tb ht
  obtain ⟨F1, F2, F3, F4, F5, F6, d0, d3, d4, d7⟩ := F
  refine vx_ofW (cc := mC k) (maxL := mL k) (ret := mR k) hF.2.2.2.2.2.2 rfl ?_
  intro p e s m args below meth c s₁ B hml htab hv
  obtain ⟨rfl, hsz, hP, hK, hD0, hZ, hX⟩ := hv
  have hts := atoms_spec (ws := mW k) B.pre
  have hown : s.vm.findClass (mO k) = some m.cls := findClass_of_methodNamed B.named
  subst hsz
  rw [lg_entry_eq]
  have hD := hD0.self (sz := s.heap.size)
  have hC : CallFix p m c (mC k) (mL k) s (vs.map (xi_mp ad)).toArray (mW k) (mO k) := ⟨B.exec, B.bytes, hml, hown, hts⟩
  refine xi_gt_ok (x := (none, aw')) (N := aw.length) (d := d) (stop := stop) (tb := tb) (cal := xi_run N d) hC hK hZ (fun q hq => Or.inr hq) rfl rfl (xi_sound l N d) ?_ (fun pc q hpc => by have := xi_ca_ok xo_fks tb hs 0 pc q hca hpc; rw [Nat.zero_add] at this; exact this) N 0 (xi_pd (mL k) vs) [] aw (hN N N (Nat.le_refl _) (Nat.le_refl _)) s.heap [] _ (xi_lh.entry ad vs (Nat.le_of_ble_eq_true hvs)) hP hD va_S.rf rfl
  intro H locs ls hls hN2 hP2 hD2 hS2
  exact vx_throw0 (names := xx_up) (A := va_A (xi_rl ad ca aw) s.heap.size) B.exec B.bytes hl hown F1 (by decide) (xi_w hC F2) (xi_w hC F3) (vx_hat (fun w hw => xi_w hC (F4 w hw)) F5 (fun w hw => va_Nw.use (xx_on w hw) (hX.2.2.1 w hw))) F6 hX.1 hX.2.1 hS2 (by rw [hml]; exact hls) d0 d3 d4 d7 (fun x hx => absurd (htab x hx) id)
    (by show 2 + 3 < d + 1; omega) (by show 0 + (13 * (2 + 1) + 42) ≤ 64 * (d + 1); omega) (by show 0 + 1 ≤ 1; omega) (by show 0 + 6 ≤ 6; omega) B.notSynchronized
    (fun t hvm hz hk => ⟨(), trivial, ⟨rfl, hN2, va_P.kept hP2 (fun k q hq => hk q.1 ((hP2 k q hq).lt))⟩, ⟨Nat.le_trans hS2.1 hz, fun q h1 h2 => by rw [hk q (Nat.lt_of_lt_of_le h1 hS2.1)]; exact hS2.2.1 q h1 h2⟩⟩) hS2.2.2 (Nat.le_refl _) (Nat.le_refl _)
set_option maxRecDepth 100000 in
theorem xx_in {L : List Cond} (h : ∀ w ∈ L.filter goodWord, w ∈ lw_tbl) : ∀ w ∈ L.filter goodWord, w ∈ xi_wd := fun w hw => List.mem_filter.mpr ⟨h w hw, (List.mem_filter.mp hw).2⟩
theorem xx_wd {w : Cond} (h1 : w ∈ lw_tbl) (h2 : goodWord w = true) : w ∈ xi_wd := List.mem_filter.mpr ⟨h1, h2⟩
set_option maxRecDepth 100000 in
theorem xx_f3a : xx_F 3 10 55 57 xx_IA := ⟨by decide +kernel, xx_wd (by decide +kernel) (by decide +kernel), xx_wd (by decide +kernel) (by decide +kernel), xx_in (by decide +kernel), by decide +kernel, by decide +kernel, by decide +kernel, by decide +kernel, by decide +kernel, by decide +kernel⟩
set_option maxRecDepth 100000 in
theorem xx_f3b : xx_F 3 42 68 70 xx_UO := ⟨by decide +kernel, xx_wd (by decide +kernel) (by decide +kernel), xx_wd (by decide +kernel) (by decide +kernel), xx_in (by decide +kernel), by decide +kernel, by decide +kernel, by decide +kernel, by decide +kernel, by decide +kernel, by decide +kernel⟩
set_option maxRecDepth 100000 in
theorem xx_f9 : xx_F 9 10 105 107 xx_IO := ⟨by decide +kernel, xx_wd (by decide +kernel) (by decide +kernel), xx_wd (by decide +kernel) (by decide +kernel), xx_in (by decide +kernel), by decide +kernel, by decide +kernel, by decide +kernel, by decide +kernel, by decide +kernel, by decide +kernel⟩
set_option maxRecDepth 100000 in
theorem xx_f12 : xx_F 12 21 105 107 xx_IO := ⟨by decide +kernel, xx_wd (by decide +kernel) (by decide +kernel), xx_wd (by decide +kernel) (by decide +kernel), xx_in (by decide +kernel), by decide +kernel, by decide +kernel, by decide +kernel, by decide +kernel, by decide +kernel, by decide +kernel⟩
set_option maxRecDepth 100000 in
theorem xx_f13 : xx_F 13 10 131 133 xx_IS := ⟨by decide +kernel, xx_wd (by decide +kernel) (by decide +kernel), xx_wd (by decide +kernel) (by decide +kernel), xx_in (by decide +kernel), by decide +kernel, by decide +kernel, by decide +kernel, by decide +kernel, by decide +kernel, by decide +kernel⟩
/-- a call that only throws -/
theorem xx_cx {p : Program} {l : Launch} {e : Env} {R : Room} {s : State} {m : MethodId} {args : Array Value} {below : List Frame} {meth : Method} {c : Code} {H : Heap} {locs : List Loc} {cells slots : Nat} {Q : State → Prop} {mc ms : Nat} {free : Addr → Prop} {A0 : Nat → Prop} {H0 : Heap} {pc : Nat} {ls : Array Slot} {st0 rest : List Value} {SX : Type} {px : SX → Prop} {BX : String → SX → State → Prop} {AX : Nat → Prop} {av : Array Value}
    (hr : vx_Run p l e R s m args below meth c H locs cells slots mc ms (F0 m pc ls st0) rest (xx_no av) (vx_X px BX AX) free) (hS : va_S A0 H0 H locs) (hf : ∀ q, free q → A0 q) (hAX : ∀ q, q < H.size → AX q → A0 q)
    (kx : ∀ (E : String) (ce : Cell) (q9 : Addr) (u : SX) (t : State) (H1 : Heap) (locs1 : List Loc), t.heap = H1 → s.vm.Alike t.vm → px u → BX E u t → H.size ≤ H1.size → (∀ q : Nat, q < H.size → ¬ AX q → H1[q]? = H[q]?) → va_S A0 H0 H1 locs1 → H1[q9]? = some ce → ce.vm = .none → s.vm.findClass E = some ce.cls → vx_W p l e R s m args below meth c H1 locs1 (cells + mc) (slots + ms) Q (F0 m pc ls rest) q9) : W p l e R s m args below meth c H locs cells slots Q (F0 m pc ls st0) := by
  intro T hT X
  rcases hr T hT X with ⟨v, st₀, t, T', L, h0, X', hL, e1, e2, hF, st⟩ | ⟨q, st₀, t, T', L, E, ce, h0, X', hL, e1, e2, ⟨u, hp, hb, hF⟩, hce, hcv, hcl, st⟩
  · exact hF.elim
  · obtain ⟨k1, k2, k3⟩ := vx_keep h0 e1 hS hAX hf hL hF
    obtain ⟨t2, a1, b1⟩ := kx E ce q u t T'.heap (locs ++ L) e1.symm (by rw [← e2]; exact X'.warmed.alike) hp hb k1 k2 k3 (by rw [e1]; exact hce) hcv hcl T' rfl X'
    exact ⟨t2, st.trans a1, b1⟩
/-- the calls that need a program -/
theorem xx_thr2 {l : Launch} (hl : l.stackTraces = false) {d k nL : Nat} {tb : List (Option xi_E)} {As : List Value} {iv : Nat → Int32} {av : Nat → Nat → Int32} {lv : Nat → Nat → Int64} (ht : xi_tbs[k]? = some (nL, tb)) (hvs : Nat.ble (xi_en (.ref 0 :: As)).length nL = true) (hd : 6 ≤ d) (h4 : iv 4 = 0) (ho : mO k = "TimedCompiler") (hlk : Cond.methodLink "TimedCompiler" 79 (mY 13) ∈ xi_wd) (d0 : decode (mC k) 0 = .ok (.aload_n 0, 1)) (d1 : decode (mC k) 1 = .ok (.invokevirtual 79, 3)) (D : va_G) (ad : Nat → Nat) (ca : Nat → ClassId) (sz : Nat) :
    vx_Met l (mY k) (mW k) (xx_rm (d + 1)) (xx_Pc D ad ca (.ref 0 :: As) (xs iv av lv) sz) xx_no (xx_X D ad ca (xs iv av lv).length xx_IS (xs iv av lv) (va_A (xi_rl ad ca (xs iv av lv)) sz)) 1 6 (va_A (xi_rl ad ca (xs iv av lv)) sz) := by
  obtain ⟨⟨hs, hca⟩, rfl, hk, hF⟩ := xo_all k nL tb ht
  obtain ⟨d, rfl⟩ : ∃ d', d = d' + 1 := ⟨d - 1, by omega⟩
  have hM := fun sz => xx_thr (vs := [.ref 0]) (nL := 1) (k := 13) hl rfl rfl (show 5 ≤ d by omega) xx_f13 (xg_13 (D := d) (av := av) (lv := lv) h4) D ad ca sz
  refine vx_ofW (cc := mC k) (maxL := mL k) (ret := mR k) hF.2.2.2.2.2.2 rfl ?_
  intro p e s m args below meth c s₁ B hml htab hv
  obtain ⟨rfl, hsz, hP, hK, hD0, hZ, hX⟩ := hv
  have hts := atoms_spec (ws := mW k) B.pre
  have hown : s.vm.findClass (mO k) = some m.cls := findClass_of_methodNamed B.named
  subst hsz
  rw [lg_entry_eq]
  have hD := hD0.self (sz := s.heap.size)
  have hC : CallFix p m c (mC k) (mL k) s ((Value.ref 0 :: As).map (xi_mp ad)).toArray (mW k) (mO k) := ⟨B.exec, B.bytes, hml, hown, hts⟩
  have hlh := xi_lh.entry ad (.ref 0 :: As) (Nat.le_of_ble_eq_true hvs)
  generalize (lg_sl ((Value.ref 0 :: As).map (xi_mp ad)) ++ List.replicate (mL k - (lg_sl ((Value.ref 0 :: As).map (xi_mp ad))).length) Slot.unset).toArray = ls at hlh ⊢
  refine lv_aload_n B.exec B.bytes d0 rfl (hlh.2.2.2 0 (.ref 0) rfl) ?_
  obtain ⟨f1, -, f3, f4, f5, f6, -⟩ := xo_fks 13 (by decide)
  obtain ⟨f7, f8⟩ := f3 rfl
  have hG : GoodIn (mW k) (wsV "TimedCompiler" 79 (mO 13) (mY 13) (mW 13)) := by
    unfold wsV
    intro w hw
    rcases List.mem_append.mp hw with hw | hw
    · simp only [List.mem_cons, List.not_mem_nil, or_false] at hw
      rcases hw with rfl | rfl | rfl | rfl
      · exact ⟨List.mem_cons_of_mem _ hlk, xi_wd_good hlk⟩
      · exact ⟨List.mem_cons_of_mem _ f7, xi_wd_good f7⟩
      · exact ⟨List.mem_cons_of_mem _ f8, xi_wd_good f8⟩
      · exact ⟨List.mem_cons_of_mem _ f4, xi_wd_good f4⟩
    · exact xi_goodIn f1 w hw
  have hS : va_S (va_A (xi_rl ad ca (xs iv av lv)) s.heap.size) s.heap s.heap [] := va_S.rf
  have hrec := va_recv hK hP (ci := 0) rfl (xi_rl_obj (ad := ad) (ca := ca) (aw := xs iv av lv) (r := 0) rfl)
  have hpre : PreV s s.heap (mO 13) (ad 0) (xx_Pc D ad ca [.ref 0] (xs iv av lv) s.heap.size) [] :=
    ⟨xx_blind _ _ _ _ _ _, hrec, fun U hU hW => ⟨rfl, by rw [hU], by rw [hU]; exact hP, va_K.moved hW.alike hK, hD.weaken (fun _ _ _ _ => trivial), xi_Z.at hZ hS (fun _ h => h) hU hW, xx_Z.at hX hS (fun _ h => h) hU hW⟩⟩
  have hC2 : CallFix p m c (mC k) (mL k) s ((Value.ref 0 :: As).map (xi_mp ad)).toArray (mW k) "TimedCompiler" := by rw [← ho]; exact hC
  refine xx_cx (vx_runV (As := []) (rest := []) hC2 (hM s.heap.size) (cwV 0 hts hG rfl rfl rfl ⟨rfl, f5⟩ ⟨by show d + 1 + 1 ≤ d + 1 + 1; omega, by show 8 + (mL 13 + 11) + 64 * (d + 1) ≤ 64 * (d + 1 + 1); omega⟩) hpre rfl rfl hlh.1 rfl (lv_room (by decide)) d1 ⟨by show 0 + 1 ≤ 1; omega, by show 0 + 6 ≤ 6; omega⟩) hS (fun _ h => h) (fun _ _ h => h) ?_
  intro E ce q9 u t H1 locs1 ht1 hvm hp hb hz hk1 hS1 hce hcv hcl
  obtain ⟨hE, hN, hP1⟩ := hb
  exact vx_out (mc := 1) (ms := 6) (fun x hx => absurd (htab x hx) id) B.notSynchronized hce hcv hcl (fun t2 h2 hv2 => ⟨(), trivial, ⟨hE, rfl, by rw [h2, ← ht1]; exact hP1⟩, hS1.F h2⟩) hS1.2.2 (by omega) (by omega)
set_option maxRecDepth 100000 in
theorem xx_ml : Cond.methodLink "TimedCompiler" 79 (mY 13) ∈ xi_wd := xx_wd (by decide +kernel) (by decide +kernel)
