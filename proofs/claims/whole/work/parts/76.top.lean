/-! The constructors of Parser and TimedCompiler. -/
def cb (u : cS) (k : Nat) : cS := (fun i => u.1 (i + k), fun i => u.2 (i + k))
def fParser : List Value := [.null, .null, .null, .null]
theorem ct_d1P : decode prog_5_method_1_code 1 = .ok (.invokespecial 3, 3) := by decide +kernel
theorem ct_d1T : decode prog_1_method_1_code 1 = .ok (.invokespecial 3, 3) := by decide +kernel
def fTC : List Value := [.null, .null, .null, .null]
def wParser (h : Nat) (u : cS) : va_W := [(h, .inr (1, [.ref (u.1 0), .ref (u.1 2), .ref (u.1 9), .ref (u.1 10)]))] ++ (wText (u.1 0) (cb u 1) ++ (wCode (u.1 2) (cb u 3) ++ [(u.1 9, .inl (u.2 9, ct_a .int 5)), (u.1 10, .inl (u.2 10, ct_a .boolean 4))]))
def tParser (u : cS) : cTy := tText (cb u 1) ++ (tCode (cb u 3) ++ [(u.2 9, .int), (u.2 10, .boolean)])
def wTC (h : Nat) (u : cS) : va_W := [(h, .inr (0, [.ref (u.1 1), .ref (u.1 13), .ref (u.1 16), .ref (u.1 23)]))] ++ (wParser (u.1 1) (cb u 2) ++ (wBounds (u.1 13) (cb u 14) ++ (wCode (u.1 16) (cb u 17) ++ wMachine (u.1 23) (cb u 24))))
def tTC (u : cS) : cTy := tParser (cb u 2) ++ (tBounds (cb u 14) ++ (tCode (cb u 17) ++ tMachine (cb u 24)))
set_option maxRecDepth 100000 in
theorem vText : ∀ k, k < 3 → defaultValue (xn_t2 k) = vp_V fText k := by decide +kernel
set_option maxRecDepth 100000 in
theorem iText : Cond.instantiable "TimedCompiler$Text" 3 ∈ xi_wd ∧ Cond.instanceMethod (ct_in "TimedCompiler$Text") ∈ xi_wd ∧ Cond.initialized "TimedCompiler$Text" ∈ xi_wd := ⟨xx_wd (by decide +kernel) (by decide +kernel), xx_wd (by decide +kernel) (by decide +kernel), xx_wd (by decide +kernel) (by decide +kernel)⟩
set_option maxRecDepth 100000 in
theorem vCode : ∀ k, k < 7 → defaultValue (xn_t3 k) = vp_V fCode k := by decide +kernel
set_option maxRecDepth 100000 in
theorem iCode : Cond.instantiable "TimedCompiler$Code" 7 ∈ xi_wd ∧ Cond.instanceMethod (ct_in "TimedCompiler$Code") ∈ xi_wd ∧ Cond.initialized "TimedCompiler$Code" ∈ xi_wd := ⟨xx_wd (by decide +kernel) (by decide +kernel), xx_wd (by decide +kernel) (by decide +kernel), xx_wd (by decide +kernel) (by decide +kernel)⟩
set_option maxRecDepth 100000 in
theorem vBounds : ∀ k, k < 3 → defaultValue (xn_t4 k) = vp_V fBounds k := by decide +kernel
set_option maxRecDepth 100000 in
theorem iBounds : Cond.instantiable "TimedCompiler$Bounds" 3 ∈ xi_wd ∧ Cond.instanceMethod (ct_in "TimedCompiler$Bounds") ∈ xi_wd ∧ Cond.initialized "TimedCompiler$Bounds" ∈ xi_wd := ⟨xx_wd (by decide +kernel) (by decide +kernel), xx_wd (by decide +kernel) (by decide +kernel), xx_wd (by decide +kernel) (by decide +kernel)⟩
set_option maxRecDepth 100000 in
theorem vMachine : ∀ k, k < 9 → defaultValue (xn_t5 k) = vp_V fMachine k := by decide +kernel
set_option maxRecDepth 100000 in
theorem iMachine : Cond.instantiable "TimedCompiler$Machine" 9 ∈ xi_wd ∧ Cond.instanceMethod (ct_in "TimedCompiler$Machine") ∈ xi_wd ∧ Cond.initialized "TimedCompiler$Machine" ∈ xi_wd := ⟨xx_wd (by decide +kernel) (by decide +kernel), xx_wd (by decide +kernel) (by decide +kernel), xx_wd (by decide +kernel) (by decide +kernel)⟩
set_option maxRecDepth 100000 in
theorem vParser : ∀ k, k < 4 → defaultValue (xn_t1 k) = vp_V fParser k := by decide +kernel
set_option maxRecDepth 100000 in
theorem iParser : Cond.instantiable "TimedCompiler$Parser" 4 ∈ xi_wd ∧ Cond.instanceMethod (ct_in "TimedCompiler$Parser") ∈ xi_wd ∧ Cond.initialized "TimedCompiler$Parser" ∈ xi_wd := ⟨xx_wd (by decide +kernel) (by decide +kernel), xx_wd (by decide +kernel) (by decide +kernel), xx_wd (by decide +kernel) (by decide +kernel)⟩
set_option maxRecDepth 100000 in
theorem kParser : Cond.code (ct_in "TimedCompiler$Parser") prog_5_method_1_code 1 none ∈ xi_wd := xi_gin (h := 86) rfl rfl
set_option maxRecDepth 100000 in
theorem kTC : Cond.code (ct_in "TimedCompiler") prog_1_method_1_code 1 none ∈ xi_wd := xi_gin (h := 78) rfl rfl
set_option maxRecDepth 100000 in
set_option maxHeartbeats 4000000 in
theorem cParser (l : Launch) : ct_Con l "TimedCompiler$Parser" prog_5_method_1_code 1 fParser (ct_rm 2 11 639 32) 11 639 wParser tParser := by
  intro D h sz
  refine Met.ofW (cc := prog_5_method_1_code) (maxL := 1) (ret := none) (by decide) rfl ?_
  intro p e s m args below meth c s₁ B hml hv
  obtain ⟨rfl, hsz, hP, hK, hD0, hN⟩ := hv
  have hts := atoms_spec (ws := ct_W (ct_in "TimedCompiler$Parser") prog_5_method_1_code) B.pre
  have hown : s.vm.findClass "TimedCompiler$Parser" = some m.cls := findClass_of_methodNamed B.named
  have hin : meth.name = "<init>" := (name_of_methodNamed B.named B.method).1
  subst hsz
  have hD := hD0.self (sz := s.heap.size)
  have hA : ∀ q : Nat, s.heap.size ≤ q → va_A [(h, .inr (1, fParser))] s.heap.size q := fun q hq => Or.inr hq
  have hS : va_S (va_A [(h, .inr (1, fParser))] s.heap.size) s.heap s.heap [] := va_S.rf
  have hl := lv_entry ([.ref h]) (n := 1) (Nat.le_of_ble_eq_true rfl)
  rw [lg_entry_eq]
  generalize (lg_sl ([.ref h]) ++ List.replicate (1 - (lg_sl ([.ref h])).length) Slot.unset).toArray = ls at hl ⊢
  have hl : lv_has ls 1 [(0, .ref h)] := hl
  have hC : CallFix p m c prog_5_method_1_code 1 s [Value.ref h].toArray (ct_W (ct_in "TimedCompiler$Parser") prog_5_method_1_code) "TimedCompiler$Parser" := ⟨B.exec, B.bytes, hml, hown, hts⟩
  have hTw : ∀ w ∈ xi_wd, w ∈ ct_W (ct_in "TimedCompiler$Parser") prog_5_method_1_code := fun w hw => List.mem_cons_of_mem _ hw
  refine lv_aload_n (k := 0) (i := 0) B.exec B.bytes (by decide +kernel) rfl (lv_at hl 0 rfl) ?_
  refine W.objInit B.exec B.bytes hown (idx := 3) (hts _ (List.mem_cons_of_mem _ (xx_wd (by decide +kernel) (by decide +kernel)))) (hts _ (List.mem_cons_of_mem _ ct_oi)) (hts _ (List.mem_cons_of_mem _ ct_oc)) rfl (by rw [hml]; exact hl.1) rfl ct_d1P (Nat.le_of_ble_eq_true rfl) (Nat.le_of_ble_eq_true rfl) ?_
  refine W.eq (g2 := F0 m 4 ls []) rfl ?_
  refine ct_sub (ci := 1) (ciC := 2) (h0 := h) (j := 0) (ix := 9) (im := 11) (idx := 12) (fs := fParser) (arrs := []) (tys := []) (pc := 4) (cells := 0) (slots := 0) hC hTw rfl xn_t1 xn_o1 xn_n1 rfl xn_t2 xn_o2 vText (xx_wd (by decide +kernel) (by decide +kernel)) iText.1 (cText l) kText iText.2.1 iText.2.2 (by decide) (List.mem_of_getElem? (i := 4) rfl) hN rfl rfl (Nat.le_of_ble_eq_true rfl) (Nat.le_of_ble_eq_true rfl) hA (xx_wd (by decide +kernel) (by decide +kernel)) (by decide) rfl rfl (by decide +kernel) hin (lv_at hl 0 rfl) hl.1 rfl (by decide +kernel) (by decide +kernel) (by decide +kernel) (by decide +kernel) (by decide +kernel) hK hP hD hS (Nat.le_of_ble_eq_true rfl) (Nat.le_of_ble_eq_true rfl) (fun q0 u0 H locs hK hP hD hS => ?_)
  refine ct_sub (ci := 1) (ciC := 3) (h0 := h) (j := 1) (ix := 18) (im := 20) (idx := 21) (fs := fParser.set 0 (.ref q0)) (arrs := [] ++ wText q0 u0) (tys := [] ++ tText u0) (pc := 15) (cells := 2) (slots := 203) hC hTw rfl xn_t1 xn_o1 xn_n1 rfl xn_t3 xn_o3 vCode (xx_wd (by decide +kernel) (by decide +kernel)) iCode.1 (cCode l) kCode iCode.2.1 iCode.2.2 (by decide) (List.mem_of_getElem? (i := 5) rfl) hN rfl rfl (Nat.le_of_ble_eq_true rfl) (Nat.le_of_ble_eq_true rfl) hA (xx_wd (by decide +kernel) (by decide +kernel)) (by decide) rfl rfl (by decide +kernel) hin (lv_at hl 0 rfl) hl.1 rfl (by decide +kernel) (by decide +kernel) (by decide +kernel) (by decide +kernel) (by decide +kernel) hK hP hD hS (Nat.le_of_ble_eq_true rfl) (Nat.le_of_ble_eq_true rfl) (fun q1 u1 H locs hK hP hD hS => ?_)
  refine ct_run (b := true) (pe := 40) (ce := 11) (se := 639) (ci := 1) hC hTw rfl xn_t1 xn_o1 xn_n1 hin hA (lv_at hl 0 rfl) (Nat.le_refl _) (Nat.le_refl _) [(2, 5, .int, 25, 1), (3, 4, .boolean, 29, 1)] 26 _ _ _ H locs 9 630 (by decide +kernel) rfl hK hP hD hS rfl rfl ?_
  simp only [CT]
  intro q9 c9 q10 c10 H locs hK hP hD hS
  have hP : va_P D vwCl (wParser h (fun i => [q0, u0.1 0, q1, u1.1 0, u1.1 1, u1.1 2, u1.1 3, u1.1 4, u1.1 5, q9, q10].getD i 0, fun i => [c9, u0.2 0, c9, u1.2 0, u1.2 1, u1.2 2, u1.2 3, u1.2 4, u1.2 5, c9, c10].getD i c9)) H := hP
  have hD : va_D _ (wParser h (fun i => [q0, u0.1 0, q1, u1.1 0, u1.1 1, u1.1 2, u1.1 3, u1.1 4, u1.1 5, q9, q10].getD i 0, fun i => [c9, u0.2 0, c9, u1.2 0, u1.2 1, u1.2 2, u1.2 3, u1.2 4, u1.2 5, c9, c10].getD i c9)) := hD
  have hK : va_K D vwCl (tParser (fun i => [q0, u0.1 0, q1, u1.1 0, u1.1 1, u1.1 2, u1.1 3, u1.1 4, u1.1 5, q9, q10].getD i 0, fun i => [c9, u0.2 0, c9, u1.2 0, u1.2 1, u1.2 2, u1.2 3, u1.2 4, u1.2 5, c9, c10].getD i c9)) s := hK
  exact W.vret B.exec B.bytes B.returns (fun t ht hW => ⟨⟨_, rfl, trivial, by rw [ht]; exact hP, va_K.moved hW.alike hK, hD⟩, hS.F ht⟩) hS.2.2 (by decide +kernel)
set_option maxRecDepth 100000 in
set_option maxHeartbeats 4000000 in
theorem cTC (l : Launch) : ct_Con l "TimedCompiler" prog_1_method_1_code 0 fTC (ct_rm 3 26 1730 52) 26 1730 wTC tTC := by
  intro D h sz
  refine Met.ofW (cc := prog_1_method_1_code) (maxL := 1) (ret := none) (by decide) rfl ?_
  intro p e s m args below meth c s₁ B hml hv
  obtain ⟨rfl, hsz, hP, hK, hD0, hN⟩ := hv
  have hts := atoms_spec (ws := ct_W (ct_in "TimedCompiler") prog_1_method_1_code) B.pre
  have hown : s.vm.findClass "TimedCompiler" = some m.cls := findClass_of_methodNamed B.named
  have hin : meth.name = "<init>" := (name_of_methodNamed B.named B.method).1
  subst hsz
  have hD := hD0.self (sz := s.heap.size)
  have hA : ∀ q : Nat, s.heap.size ≤ q → va_A [(h, .inr (0, fTC))] s.heap.size q := fun q hq => Or.inr hq
  have hS : va_S (va_A [(h, .inr (0, fTC))] s.heap.size) s.heap s.heap [] := va_S.rf
  have hl := lv_entry ([.ref h]) (n := 1) (Nat.le_of_ble_eq_true rfl)
  rw [lg_entry_eq]
  generalize (lg_sl ([.ref h]) ++ List.replicate (1 - (lg_sl ([.ref h])).length) Slot.unset).toArray = ls at hl ⊢
  have hl : lv_has ls 1 [(0, .ref h)] := hl
  have hC : CallFix p m c prog_1_method_1_code 1 s [Value.ref h].toArray (ct_W (ct_in "TimedCompiler") prog_1_method_1_code) "TimedCompiler" := ⟨B.exec, B.bytes, hml, hown, hts⟩
  have hTw : ∀ w ∈ xi_wd, w ∈ ct_W (ct_in "TimedCompiler") prog_1_method_1_code := fun w hw => List.mem_cons_of_mem _ hw
  refine lv_aload_n (k := 0) (i := 0) B.exec B.bytes (by decide +kernel) rfl (lv_at hl 0 rfl) ?_
  refine W.objInit B.exec B.bytes hown (idx := 3) (hts _ (List.mem_cons_of_mem _ (xx_wd (by decide +kernel) (by decide +kernel)))) (hts _ (List.mem_cons_of_mem _ ct_oi)) (hts _ (List.mem_cons_of_mem _ ct_oc)) rfl (by rw [hml]; exact hl.1) rfl ct_d1T (Nat.le_of_ble_eq_true rfl) (Nat.le_of_ble_eq_true rfl) ?_
  refine W.eq (g2 := F0 m 4 ls []) rfl ?_
  refine ct_sub (ci := 0) (ciC := 1) (h0 := h) (j := 0) (ix := 9) (im := 11) (idx := 12) (fs := fTC) (arrs := []) (tys := []) (pc := 4) (cells := 0) (slots := 0) hC hTw rfl xn_t0 xn_o0 xn_n0 rfl xn_t1 xn_o1 vParser (xx_wd (by decide +kernel) (by decide +kernel)) iParser.1 (cParser l) kParser iParser.2.1 iParser.2.2 (by decide) (List.mem_of_getElem? (i := 0) rfl) hN rfl rfl (Nat.le_of_ble_eq_true rfl) (Nat.le_of_ble_eq_true rfl) hA (xx_wd (by decide +kernel) (by decide +kernel)) (by decide) rfl rfl (by decide +kernel) hin (lv_at hl 0 rfl) hl.1 rfl (by decide +kernel) (by decide +kernel) (by decide +kernel) (by decide +kernel) (by decide +kernel) hK hP hD hS (Nat.le_of_ble_eq_true rfl) (Nat.le_of_ble_eq_true rfl) (fun q0 u0 H locs hK hP hD hS => ?_)
  refine ct_sub (ci := 0) (ciC := 4) (h0 := h) (j := 1) (ix := 16) (im := 18) (idx := 19) (fs := fTC.set 0 (.ref q0)) (arrs := [] ++ wParser q0 u0) (tys := [] ++ tParser u0) (pc := 15) (cells := 12) (slots := 643) hC hTw rfl xn_t0 xn_o0 xn_n0 rfl xn_t4 xn_o4 vBounds (xx_wd (by decide +kernel) (by decide +kernel)) iBounds.1 (cBounds l) kBounds iBounds.2.1 iBounds.2.2 (by decide) (List.mem_of_getElem? (i := 1) rfl) hN rfl rfl (Nat.le_of_ble_eq_true rfl) (Nat.le_of_ble_eq_true rfl) hA (xx_wd (by decide +kernel) (by decide +kernel)) (by decide) rfl rfl (by decide +kernel) hin (lv_at hl 0 rfl) hl.1 rfl (by decide +kernel) (by decide +kernel) (by decide +kernel) (by decide +kernel) (by decide +kernel) hK hP hD hS (Nat.le_of_ble_eq_true rfl) (Nat.le_of_ble_eq_true rfl) (fun q1 u1 H locs hK hP hD hS => ?_)
  refine ct_sub (ci := 0) (ciC := 3) (h0 := h) (j := 2) (ix := 23) (im := 25) (idx := 26) (fs := (fTC.set 0 (.ref q0)).set 1 (.ref q1)) (arrs := [] ++ wParser q0 u0 ++ wBounds q1 u1) (tys := [] ++ tParser u0 ++ tBounds u1) (pc := 26) (cells := 15) (slots := 1048) hC hTw rfl xn_t0 xn_o0 xn_n0 rfl xn_t3 xn_o3 vCode (xx_wd (by decide +kernel) (by decide +kernel)) iCode.1 (cCode l) kCode iCode.2.1 iCode.2.2 (by decide) (List.mem_of_getElem? (i := 2) rfl) hN rfl rfl (Nat.le_of_ble_eq_true rfl) (Nat.le_of_ble_eq_true rfl) hA (xx_wd (by decide +kernel) (by decide +kernel)) (by decide) rfl rfl (by decide +kernel) hin (lv_at hl 0 rfl) hl.1 rfl (by decide +kernel) (by decide +kernel) (by decide +kernel) (by decide +kernel) (by decide +kernel) hK hP hD hS (Nat.le_of_ble_eq_true rfl) (Nat.le_of_ble_eq_true rfl) (fun q2 u2 H locs hK hP hD hS => ?_)
  refine ct_sub (ci := 0) (ciC := 5) (h0 := h) (j := 3) (ix := 30) (im := 32) (idx := 33) (fs := ((fTC.set 0 (.ref q0)).set 1 (.ref q1)).set 2 (.ref q2)) (arrs := [] ++ wParser q0 u0 ++ wBounds q1 u1 ++ wCode q2 u2) (tys := [] ++ tParser u0 ++ tBounds u1 ++ tCode u2) (pc := 37) (cells := 22) (slots := 1475) hC hTw rfl xn_t0 xn_o0 xn_n0 rfl xn_t5 xn_o5 vMachine (xx_wd (by decide +kernel) (by decide +kernel)) iMachine.1 (cMachine l) kMachine iMachine.2.1 iMachine.2.2 (by decide) (List.mem_of_getElem? (i := 3) rfl) hN rfl rfl (Nat.le_of_ble_eq_true rfl) (Nat.le_of_ble_eq_true rfl) hA (xx_wd (by decide +kernel) (by decide +kernel)) (by decide) rfl rfl (by decide +kernel) hin (lv_at hl 0 rfl) hl.1 rfl (by decide +kernel) (by decide +kernel) (by decide +kernel) (by decide +kernel) (by decide +kernel) hK hP hD hS (Nat.le_of_ble_eq_true rfl) (Nat.le_of_ble_eq_true rfl) (fun q3 u3 H locs hK hP hD hS => ?_)
  have hP : va_P D vwCl (wTC h (fun i => [q0, q0, u0.1 0, u0.1 1, u0.1 2, u0.1 3, u0.1 4, u0.1 5, u0.1 6, u0.1 7, u0.1 8, u0.1 9, u0.1 10, q1, u1.1 0, u1.1 1, q2, u2.1 0, u2.1 1, u2.1 2, u2.1 3, u2.1 4, u2.1 5, q3, u3.1 0, u3.1 1, u3.1 2].getD i 0, fun i => [u0.2 0, u0.2 0, u0.2 0, u0.2 1, u0.2 2, u0.2 3, u0.2 4, u0.2 5, u0.2 6, u0.2 7, u0.2 8, u0.2 9, u0.2 10, u0.2 0, u1.2 0, u1.2 1, u0.2 0, u2.2 0, u2.2 1, u2.2 2, u2.2 3, u2.2 4, u2.2 5, u0.2 0, u3.2 0, u3.2 1, u3.2 2].getD i (u0.2 0))) H := hP
  have hD : va_D _ (wTC h (fun i => [q0, q0, u0.1 0, u0.1 1, u0.1 2, u0.1 3, u0.1 4, u0.1 5, u0.1 6, u0.1 7, u0.1 8, u0.1 9, u0.1 10, q1, u1.1 0, u1.1 1, q2, u2.1 0, u2.1 1, u2.1 2, u2.1 3, u2.1 4, u2.1 5, q3, u3.1 0, u3.1 1, u3.1 2].getD i 0, fun i => [u0.2 0, u0.2 0, u0.2 0, u0.2 1, u0.2 2, u0.2 3, u0.2 4, u0.2 5, u0.2 6, u0.2 7, u0.2 8, u0.2 9, u0.2 10, u0.2 0, u1.2 0, u1.2 1, u0.2 0, u2.2 0, u2.2 1, u2.2 2, u2.2 3, u2.2 4, u2.2 5, u0.2 0, u3.2 0, u3.2 1, u3.2 2].getD i (u0.2 0))) := hD
  have hK : va_K D vwCl (tTC (fun i => [q0, q0, u0.1 0, u0.1 1, u0.1 2, u0.1 3, u0.1 4, u0.1 5, u0.1 6, u0.1 7, u0.1 8, u0.1 9, u0.1 10, q1, u1.1 0, u1.1 1, q2, u2.1 0, u2.1 1, u2.1 2, u2.1 3, u2.1 4, u2.1 5, q3, u3.1 0, u3.1 1, u3.1 2].getD i 0, fun i => [u0.2 0, u0.2 0, u0.2 0, u0.2 1, u0.2 2, u0.2 3, u0.2 4, u0.2 5, u0.2 6, u0.2 7, u0.2 8, u0.2 9, u0.2 10, u0.2 0, u1.2 0, u1.2 1, u0.2 0, u2.2 0, u2.2 1, u2.2 2, u2.2 3, u2.2 4, u2.2 5, u0.2 0, u3.2 0, u3.2 1, u3.2 2].getD i (u0.2 0))) s := hK
  exact W.vret B.exec B.bytes B.returns (fun t ht hW => ⟨⟨_, rfl, trivial, by rw [ht]; exact hP, va_K.moved hW.alike hK, hD⟩, hS.F ht⟩) hS.2.2 (by decide +kernel)
