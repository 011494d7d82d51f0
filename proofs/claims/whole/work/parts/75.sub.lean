/-! Constructors that make objects. -/
theorem ct_ds : (parseMethodDescriptor "()V").map (fun d => d.parameters.length) = some 0 := by decide +kernel
section CTS
variable {p : Program} {l : Launch} {e : Env} {R : Room} {s : State} {m : MethodId} {args : Array Value} {below : List Frame} {meth : Method} {c : Code} {D : va_G} {A : Nat → Prop} {Q : State → Prop} {ls : Array Slot} {cc : ByteArray} {nL : Nat} {Ts : List Cond} {own : String} {H : Heap} {locs : List Loc} {cells slots pc : Nat}
theorem ct_free {wr : va_W} {q : Nat} {x : va_E} (hD : va_D A (wr ++ [(q, x)])) (hS : va_S A s.heap H locs) (hA : ∀ q : Nat, s.heap.size ≤ q → A q) : ∀ z, va_A [(q, x)] H.size z → A z := by
  intro z hz
  rcases hz with ⟨k, y, hy⟩ | hz
  · cases k with
    | zero =>
      cases hy
      exact hD.2 wr.length (q, x) (by rw [List.getElem?_append_right (Nat.le_refl _), Nat.sub_self]; rfl)
    | succ k => cases hy
  · exact hA z (Nat.le_trans hS.1 hz)
theorem ct_one {wr : va_W} {q : Nat} {x : va_E} (hP : va_P D vwCl (wr ++ [(q, x)]) H) : va_P D vwCl [(q, x)] H := by
  intro k y hy
  cases k with
  | zero =>
    cases hy
    exact hP wr.length (q, x) (by rw [List.getElem?_append_right (Nat.le_refl _), Nat.sub_self]; rfl)
  | succ k => cases hy
theorem ct_oneD {q : Nat} {x : va_E} : va_D (fun _ => True) [(q, x)] := by
  refine ⟨fun i j y z hy hz _ => ?_, fun _ _ _ => trivial⟩
  cases i with
  | zero => cases j with
    | zero => rfl
    | succ j => cases hz
  | succ i => cases hy
/-- a constructor's call on the new object q -/
theorem ct_call {C : String} {ccC : ByteArray} {ciC mc ms im : Nat} {fsC rest : List Value} {rm : Room} {wo : Nat → cS → va_W} {ty : cS → cTy} {wr : va_W} {tys : cTy} {q : Nat} (hC : CallFix p m c cc nL s args Ts own) (hTw : ∀ w ∈ xi_wd, w ∈ Ts) (hcon : ct_Con l C ccC ciC fsC rm mc ms wo ty) (hcode : Cond.code (ct_in C) ccC 1 none ∈ xi_wd) (him : Cond.instanceMethod (ct_in C) ∈ xi_wd) (hini : Cond.initialized C ∈ xi_wd) (hne : C ≠ "java/lang/invoke/MethodHandle" ∧ C ≠ "java/lang/invoke/VarHandle")
    (hml : va_Nw (.methodLinkNest own im (ct_in C) "TimedCompiler") s ∨ Cond.methodLink own im (ct_in C) ∈ xi_wd) (hN : ∀ w ∈ cn, va_Nw w s) (hrc : rm.cells = mc) (hrs : rm.slots = ms) (hfr : rm.frames + 1 ≤ R.frames) (hlo : 8 + (1 + 11) + rm.locals ≤ R.locals) (hA : ∀ q : Nat, s.heap.size ≤ q → A q)
    (hK : va_K D vwCl tys s) (hP : va_P D vwCl (wr ++ [(q, .inr (ciC, fsC))]) H) (hD : va_D A (wr ++ [(q, .inr (ciC, fsC))])) (hS : va_S A s.heap H locs) (hls : ls.size = nL) (hcm : (rest.map fun v => v.category).sum ≤ 8) (hce : cells + mc ≤ R.cells) (hsl : slots + ms ≤ R.slots) (hdg : decode cc pc = .ok (.invokespecial im, 3))
    (kk : ∀ (u : cS) (H1 : Heap) (locs1 : List Loc), va_K D vwCl (tys ++ ty u) s → va_P D vwCl (wr ++ wo q u) H1 → va_D A (wr ++ wo q u) → va_S A s.heap H1 locs1 → W p l e R s m args below meth c H1 locs1 (cells + mc) (slots + ms) Q (F0 m (pc + 3) ls rest)) :
    W p l e R s m args below meth c H locs cells slots Q (F0 m pc ls (.ref q :: rest)) := by
  have hF := ct_free hD hS hA
  have hpre : PreS s H (ct_Pc D q H.size ciC fsC) (.ref q :: []) :=
    ⟨ct_blind _ _ _ _ _, fun U hU hW => ⟨rfl, by rw [hU], by rw [hU]; exact ct_one hP, va_K.moved hW.alike (hK.sub (tys' := []) [] rfl), ct_oneD, fun w hw => cn_warm hW w hw (hN w hw)⟩⟩
  have hrun : va_Run p l e R s m args below meth c H locs cells slots mc ms (F0 m pc ls (.ref q :: rest)) rest (ct_Q (wo q) ty D (va_A [(q, .inr (ciC, fsC))] H.size) (Value.ref q :: []).toArray) (va_A [(q, .inr (ciC, fsC))] H.size) := by
    rcases hml with hml | hml
    · exact va_runIN (As := []) hC (hcon D q H.size) ⟨va_cnB 0 hC.2.2.2.2 (ct_good hTw hcode) rfl hrc hrs hml (hC.2.2.2.2 _ (hTw _ hini)) ⟨hne.1, hne.2, ct_ds⟩ ⟨hfr, hlo⟩, rfl, hC.2.2.2.2 _ (hTw _ him)⟩ hpre rfl rfl hls rfl (lv_room hcm) hdg ⟨hce, hsl⟩
    · exact va_runI (As := []) hC (hcon D q H.size) (cwI 0 hC.2.2.2.2 (ct_good hTw hcode) rfl hrc hrs (hC.2.2.2.2 _ (hTw _ hini)) (hC.2.2.2.2 _ (hTw _ hml)) (hC.2.2.2.2 _ (hTw _ him)) rfl ⟨hne.1, hne.2, ct_ds⟩ ⟨hfr, hlo⟩) hpre rfl rfl hls rfl (lv_room hcm) hdg ⟨hce, hsl⟩
  refine va_callv hrun hS (fun z _ h => hF z h) hF (fun u t H1 locs1 ht hvm _ hB hz hk hS1 => ?_)
  obtain ⟨b1, b2, b3⟩ := hB
  rw [ht] at b1
  obtain ⟨j1, j2⟩ := ct_join hP hD hk hF b1 b3
  exact kk u H1 locs1 (hK.app (va_K.moved hvm.symm b2)) j1 j2 hS1
/-- aload_0; new; dup; invokespecial; putfield -/
theorem ct_sub {T TC : u_T} {N NC ci ciC h0 j ix im idx mc ms : Nat} {C : String} {ccC : ByteArray} {fs fsC : List Value} {rm : Room} {wo : Nat → cS → va_W} {ty : cS → cTy} {arrs : va_W} {tys : cTy} (hC : CallFix p m c cc nL s args Ts own) (hTw : ∀ w ∈ xi_wd, w ∈ Ts) (hcl : vwCl[ci]? = some (own, T, N)) (tyf : Nat → FieldType) (hty : ∀ k, k < N → parseFieldDescriptor (T k).2.2.1 = some (tyf k)) (hnm : ∀ a, a < N → ∀ b, b < N → a ≠ b → (T a).2.1 ≠ (T b).2.1)
    (hclC : vwCl[ciC]? = some (C, TC, NC)) (tyC : Nat → FieldType) (htyC : ∀ k, k < NC → parseFieldDescriptor (TC k).2.2.1 = some (tyC k)) (hfsC : ∀ k, k < NC → defaultValue (tyC k) = vp_V fsC k) (hlk : Cond.classLink own ix C ∈ xi_wd) (hinst : Cond.instantiable C NC ∈ xi_wd)
    (hcon : ct_Con l C ccC ciC fsC rm mc ms wo ty) (hcode : Cond.code (ct_in C) ccC 1 none ∈ xi_wd) (him : Cond.instanceMethod (ct_in C) ∈ xi_wd) (hini : Cond.initialized C ∈ xi_wd) (hne : C ≠ "java/lang/invoke/MethodHandle" ∧ C ≠ "java/lang/invoke/VarHandle")
    (hml : Cond.methodLinkNest own im (ct_in C) "TimedCompiler" ∈ cn) (hN : ∀ w ∈ cn, va_Nw w s) (hrc : rm.cells = mc) (hrs : rm.slots = ms) (hfr : rm.frames + 1 ≤ R.frames) (hlo : 8 + (1 + 11) + rm.locals ≤ R.locals) (hA : ∀ q : Nat, s.heap.size ≤ q → A q)
    (hfl : Cond.fieldLink own idx own (T j).2.1 (T j).2.2.1 ∈ xi_wd) (hj : j < N) (ho : (T j).1 = own) (hfin : (T j).2.2.2 = true) (hd : parseFieldDescriptor (T j).2.2.1 = some (.object C)) (hin : meth.name = "<init>") (hl : ls[0]? = some (.val (.ref h0))) (hls : ls.size = nL) (hfs : fs.length = N)
    (d0 : decode cc pc = .ok (.aload_n 0, 1)) (d1 : decode cc (pc + 1) = .ok (.new ix, 3)) (d4 : decode cc (pc + 4) = .ok (.dup, 1)) (d5 : decode cc (pc + 5) = .ok (.invokespecial im, 3)) (d8 : decode cc (pc + 8) = .ok (.putfield idx, 3))
    (hK : va_K D vwCl tys s) (hP : va_P D vwCl ((h0, .inr (ci, fs)) :: arrs) H) (hD : va_D A ((h0, .inr (ci, fs)) :: arrs)) (hS : va_S A s.heap H locs) (hce : cells + 1 + mc ≤ R.cells) (hsl : slots + NC + ms ≤ R.slots)
    (kk : ∀ (q : Nat) (u : cS) (H1 : Heap) (locs1 : List Loc), va_K D vwCl (tys ++ ty u) s → va_P D vwCl ((h0, .inr (ci, fs.set j (.ref q))) :: (arrs ++ wo q u)) H1 → va_D A ((h0, .inr (ci, fs.set j (.ref q))) :: (arrs ++ wo q u)) → va_S A s.heap H1 locs1 → W p l e R s m args below meth c H1 locs1 (cells + 1 + mc) (slots + NC + ms) Q (F0 m (pc + 11) ls [])) :
    W p l e R s m args below meth c H locs cells slots Q (F0 m pc ls []) := by
  refine lv_aload_n hC.1 hC.2.1 d0 rfl hl ?_
  refine va_new (ci := ciC) (fs := fsC) (C := C) (T := TC) (N := NC) hC.1 hC.2.1 hC.2.2.2.2 (fun w hw => hTw w (xi_uws ciC C TC NC hclC w hw)) tyC htyC hC.2.2.2.1 (hC.2.2.2.2 _ (hTw _ hlk)) (hC.2.2.2.2 _ (hTw _ hinst)) (hC.2.2.2.2 _ (hTw _ hini)) hK hP hD hS hA hclC hfsC (by omega) (by omega) d1 (fun q H1 hP1 hD1 hS1 => ?_)
  refine lv_dup hC.1 hC.2.1 d4 rfl ?_
  refine ct_call (wr := (h0, .inr (ci, fs)) :: arrs) (rest := [.ref q, .ref h0]) hC hTw hcon hcode him hini hne (Or.inl (hN _ hml)) hN hrc hrs hfr hlo hA hK hP1 hD1 hS1 hls (Nat.le_of_ble_eq_true rfl) hce hsl d5 (fun u H2 locs2 hK2 hP2 hD2 hS2 => ?_)
  exact va_putF (ref := own) (ty := .object C) hC.1 hC.2.1 hC.2.2.2.2 (fun w hw => hTw w (xi_uws ci own T N hcl w hw)) tyf hty hnm hC.2.2.2.1 hK2 hP2 hD2 hS2 0 rfl hcl j hj (hC.2.2.2.2 _ (hTw _ hfl)) (fun z hz => by rw [← ho]; rw [ho] at hz ⊢; exact hz) hfin hin ho hd rfl rfl (by omega) d8 (fun H3 locs3 hP3 hD3 hS3 => kk q u H3 locs3 hK2 hP3 hD3 hS3)
end CTS
