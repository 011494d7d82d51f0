/-! Constructors. -/
abbrev cS : Type := (Nat → Nat) × (Nat → ClassId)
abbrev ce_ : Type := Nat × Nat × ArrayType × Nat × Nat
abbrev cTy : Type := List (ClassId × FieldType)
def ct_in (C : String) : MethodName := ⟨C, "<init>", "()V"⟩
def cn : List Cond := [.methodLinkNest "TimedCompiler" 11 (ct_in "TimedCompiler$Parser") "TimedCompiler", .methodLinkNest "TimedCompiler" 18 (ct_in "TimedCompiler$Bounds") "TimedCompiler", .methodLinkNest "TimedCompiler" 25 (ct_in "TimedCompiler$Code") "TimedCompiler", .methodLinkNest "TimedCompiler" 32 (ct_in "TimedCompiler$Machine") "TimedCompiler", .methodLinkNest "TimedCompiler$Parser" 11 (ct_in "TimedCompiler$Text") "TimedCompiler", .methodLinkNest "TimedCompiler$Parser" 20 (ct_in "TimedCompiler$Code") "TimedCompiler"]
theorem cn_on : ∀ w ∈ cn, w.onTables = true := by decide
theorem cn_warm {s U : State} (hW : s.WarmedH U.vm) : ∀ w ∈ cn, va_Nw w s → va_Nw w U := by
  intro w hw h
  simp only [cn, List.mem_cons, List.not_mem_nil, or_false] at hw
  rcases hw with rfl | rfl | rfl | rfl | rfl | rfl <;> exact va_Nw.warmM hW h
def ct_a (t : ArrayType) (n : Nat) : vp_A := match t with
  | .long => (n, .inr (.inl (fun _ => 0)))
  | _ => (n, .inl (fun _ => 0))
def ct_ty (t : ArrayType) : Bool := match t with
  | .long => true
  | .int => true
  | .char => true
  | .boolean => true
  | _ => false
theorem ct_cell {t : ArrayType} (h : ct_ty t = true) (n : Nat) (cA : ClassId) : vp_cell cA (ct_a t n) = arrV cA n (fun _ => defaultValue (newarray.typeOf t)) := by
  cases t with
  | long => rfl
  | int => rfl
  | char => rfl
  | boolean => rfl
  | _ => cases h
def ct_pu (cc : ByteArray) (pc n L : Nat) : Bool := decide (¬ Int32.ofNat n < 0 ∧ (Int32.ofNat n).toNatClampNeg = n) && (decide (L = 1 ∧ decode cc pc = .ok (.iconst n, 1) ∧ Int32.ofInt n = Int32.ofNat n) || (decide (L = 2 ∧ decode cc pc = .ok (.bipush n, 2) ∧ (Int8.ofInt n).toInt32 = Int32.ofNat n) || decide (L = 3 ∧ decode cc pc = .ok (.sipush n, 3) ∧ (Int16.ofInt n).toInt32 = Int32.ofNat n)))
def ct_ck (cc : ByteArray) (own : String) (T : u_T) (N : Nat) (b : Bool) (pe : Nat) : Nat → List ce_ → Bool
  | pc, [] => decide (pc = pe)
  | pc, (j, n, t, i, L) :: r => (decide (decode cc pc = .ok (.aload_n 0, 1)) && (ct_pu cc (pc + 1) n L && (decide (decode cc (pc + 1 + L) = .ok (.newarray t, 2)) && (decide (decode cc (pc + 3 + L) = .ok (.putfield i, 3)) && (decide (j < N ∧ (T j).1 = own ∧ (T j).2.2.2 = b ∧ parseFieldDescriptor (T j).2.2.1 = some (.array (newarray.typeOf t)) ∧ n * componentBytes (newarray.typeOf t) ≤ 536870912) && (decide (Cond.fieldLink own i own (T j).2.1 (T j).2.2.1 ∈ lw_tbl) && (goodWord (.fieldLink own i own (T j).2.1 (T j).2.2.1) && (decide (Cond.arrayClass (newarray.typeOf t) ∈ lw_tbl) && ct_ty t)))))))) && ct_ck cc own T N b pe (pc + 6 + L) r
def ct_sum : List ce_ → Nat
  | [] => 0
  | (_, n, _) :: r => n + ct_sum r
def CT : List ce_ → List Value → va_W → cTy → (List Value → va_W → cTy → Prop) → Prop
  | [], fs, arrs, tys, K => K fs arrs tys
  | (j, n, t, _) :: r, fs, arrs, tys, K => ∀ (q : Nat) (cA : ClassId), CT r (fs.set j (.ref q)) (arrs ++ [(q, .inl (cA, ct_a t n))]) (tys ++ [(cA, newarray.typeOf t)]) K
theorem CT.mono {K K' : List Value → va_W → cTy → Prop} (h : ∀ a b c, K a b c → K' a b c) : ∀ (es : List ce_) (fs : List Value) (arrs : va_W) (tys : cTy), CT es fs arrs tys K → CT es fs arrs tys K'
  | [], _, _, _, k => h _ _ _ k
  | (_, _, _, _) :: r, _, _, _, k => fun q cA => CT.mono h r _ _ _ (k q cA)
section CTR
variable {p : Program} {l : Launch} {e : Env} {R : Room} {s : State} {m : MethodId} {args : Array Value} {below : List Frame} {meth : Method} {c : Code} {D : va_G} {A : Nat → Prop} {Q : State → Prop} {ls : Array Slot} {cc : ByteArray} {nL : Nat} {Ts : List Cond} {own : String}
theorem ct_run {T : u_T} {N ci pe h0 ce se : Nat} {b : Bool} (hC : CallFix p m c cc nL s args Ts own) (hTw : ∀ w ∈ xi_wd, w ∈ Ts) (hcl : vwCl[ci]? = some (own, T, N)) (tyf : Nat → FieldType) (hty : ∀ k, k < N → parseFieldDescriptor (T k).2.2.1 = some (tyf k)) (hnm : ∀ a, a < N → ∀ b, b < N → a ≠ b → (T a).2.1 ≠ (T b).2.1) (hin : meth.name = "<init>") (hA : ∀ q : Nat, s.heap.size ≤ q → A q) (hl : ls[0]? = some (.val (.ref h0))) (hce : ce ≤ R.cells) (hse : se ≤ R.slots) :
    ∀ (es : List ce_) (pc : Nat) (fs : List Value) (arrs : va_W) (tys : cTy) (H : Heap) (locs : List Loc) (cells slots : Nat), ct_ck cc own T N b pe pc es = true → fs.length = N → va_K D vwCl tys s → va_P D vwCl ((h0, .inr (ci, fs)) :: arrs) H → va_D A ((h0, .inr (ci, fs)) :: arrs) → va_S A s.heap H locs → cells + es.length = ce → slots + ct_sum es = se →
      CT es fs arrs tys (fun fs' arrs' tys' => ∀ (H1 : Heap) (locs1 : List Loc), va_K D vwCl tys' s → va_P D vwCl ((h0, .inr (ci, fs')) :: arrs') H1 → va_D A ((h0, .inr (ci, fs')) :: arrs') → va_S A s.heap H1 locs1 → W p l e R s m args below meth c H1 locs1 ce se Q (F0 m pe ls [])) →
      W p l e R s m args below meth c H locs cells slots Q (F0 m pc ls []) := by
  intro es
  induction es with
  | nil =>
    intro pc fs arrs tys H locs cells slots hk hfs hK hP hD hS h1 h2 hct
    have hpc : pc = pe := of_decide_eq_true hk
    have e1 : cells = ce := h1
    have e2 : slots = se := h2
    subst hpc; subst e1; subst e2
    exact hct H locs hK hP hD hS
  | cons q0 r ih =>
    obtain ⟨j, n, t, i, L⟩ := q0
    intro pc fs arrs tys H locs cells slots hk hfs hK hP hD hS h1 h2 hct
    rw [ct_ck, Bool.and_eq_true, Bool.and_eq_true, Bool.and_eq_true, Bool.and_eq_true, Bool.and_eq_true, Bool.and_eq_true, Bool.and_eq_true, Bool.and_eq_true, Bool.and_eq_true, decide_eq_true_eq, decide_eq_true_eq, decide_eq_true_eq, decide_eq_true_eq, decide_eq_true_eq, decide_eq_true_eq] at hk
    obtain ⟨⟨d0, hp, d1, d2, ⟨f1, f2, f3, f4, f5⟩, f6, f7, f8, f9⟩, hk⟩ := hk
    rw [ct_pu, Bool.and_eq_true, Bool.or_eq_true, Bool.or_eq_true, decide_eq_true_eq, decide_eq_true_eq, decide_eq_true_eq, decide_eq_true_eq] at hp
    obtain ⟨⟨p1, p2⟩, hp⟩ := hp
    have h1' : cells + (r.length + 1) = ce := h1
    have h2' : slots + (n + ct_sum r) = se := h2
    have harr : Cond.arrayClass (newarray.typeOf t) ∈ xi_wd := List.mem_filter.mpr ⟨f8, by cases t <;> rfl⟩
    have hfl : Cond.fieldLink own i own (T j).2.1 (T j).2.2.1 ∈ xi_wd := List.mem_filter.mpr ⟨f6, f7⟩
    have K : W p l e R s m args below meth c H locs cells slots Q (F0 m (pc + 1 + L) ls [.int (Int32.ofNat n), .ref h0]) := by
      refine va_newa hC.1 hC.2.1 (hC.2.2.2.2 _ (hTw _ harr)) rfl hK hP hD hS hA (ct_cell f9 n) p1 p2 f5 (by omega) (by omega) d1 (fun q cA H1 hK1 hP1 hD1 hS1 => ?_)
      rw [show pc + 1 + L + 2 = pc + 3 + L by omega]
      have hn : narrow (.array (newarray.typeOf t)) (.ref q) = .ref q := rfl
      have hf : fits (.array (newarray.typeOf t)) (.ref q) = true := rfl
      have kk : ∀ (H2 : Heap) (locs2 : List Loc), va_P D vwCl ((h0, .inr (ci, fs.set j (.ref q))) :: (arrs ++ [(q, .inl (cA, ct_a t n))])) H2 → va_D A ((h0, .inr (ci, fs.set j (.ref q))) :: (arrs ++ [(q, .inl (cA, ct_a t n))])) → va_S A s.heap H2 locs2 → W p l e R s m args below meth c H2 locs2 (cells + 1) (slots + n) Q (F0 m (pc + 3 + L + 3) ls []) := by
        intro H2 locs2 hP2 hD2 hS2
        rw [show pc + 3 + L + 3 = pc + 6 + L by omega]
        exact ih (pc + 6 + L) _ _ _ H2 locs2 (cells + 1) (slots + n) hk (by rw [List.length_set]; exact hfs) hK1 hP2 hD2 hS2 (by omega) (by omega) (hct q cA)
      cases b with
      | true => exact va_putF (ref := own) (ty := .array (newarray.typeOf t)) hC.1 hC.2.1 hC.2.2.2.2 (fun w hw => hTw w (xi_uws ci own T N hcl w hw)) tyf hty hnm hC.2.2.2.1 hK1 hP1 hD1 hS1 0 rfl hcl j f1 (hC.2.2.2.2 _ (hTw _ hfl)) (fun z hz => by rw [← f2]; rw [f2] at hz ⊢; exact hz) f3 hin f2 f4 hn hf (by omega) d2 kk
      | false => exact va_put (ref := own) (ty := .array (newarray.typeOf t)) hC.1 hC.2.1 hC.2.2.2.2 (fun w hw => hTw w (xi_uws ci own T N hcl w hw)) tyf hty hnm hC.2.2.2.1 hK1 hP1 hD1 hS1 0 rfl hcl j f1 (hC.2.2.2.2 _ (hTw _ hfl)) (fun z hz => by rw [← f2]; rw [f2] at hz ⊢; exact hz) f3 f4 hn hf (by omega) d2 kk
    refine lv_aload_n hC.1 hC.2.1 d0 rfl hl ?_
    rcases hp with ⟨rfl, d, e1⟩ | ⟨rfl, d, e1⟩ | ⟨rfl, d, e1⟩
    · exact lv_iconst hC.1 hC.2.1 d e1 K
    · exact lv_bipush hC.1 hC.2.1 d e1 K
    · exact lv_sipush hC.1 hC.2.1 d e1 K
end CTR
def ct_W (y : MethodName) (cc : ByteArray) : List Cond := .code y cc 1 none :: xi_wd
def ct_Pc (D : va_G) (h sz ci : Nat) (fs : List Value) : Array Value → State → Prop := va_Pc [.ref h] (fun U => U.heap.size = sz ∧ va_P D vwCl [(h, .inr (ci, fs))] U.heap ∧ va_K D vwCl [] U ∧ va_D (fun _ => True) [(h, .inr (ci, fs))] ∧ ∀ w ∈ cn, va_Nw w U)
theorem ct_blind (D : va_G) (h sz ci : Nat) (fs : List Value) : FrameBlind (ct_Pc D h sz ci fs) := by
  intro a U g mk q
  obtain ⟨q0, q1, qP, qK, qD, qN⟩ := q
  exact ⟨q0, q1, qP, va_K.moved (u := U) (U := U.calling g mk a) (Vm.Alike.refl U.vm) qK, qD, fun w hw => va_Nw.same (u := U) (U := U.calling g mk a) (cn_on w hw) rfl (qN w hw)⟩
def ct_Q (wo : cS → va_W) (ty : cS → cTy) (D : va_G) (A : Nat → Prop) : Array Value → State → Outcome → State → Prop := va_Qv (fun _ : cS => True) (fun u t => va_P D vwCl (wo u) t.heap ∧ va_K D vwCl (ty u) t ∧ va_D A (wo u)) A
def ct_Con (l : Launch) (C : String) (cc : ByteArray) (ci : Nat) (fs : List Value) (rm : Room) (mc ms : Nat) (wo : Nat → cS → va_W) (ty : cS → cTy) : Prop := ∀ (D : va_G) (h sz : Nat), Met l (ct_in C) (ct_W (ct_in C) cc) rm (ct_Pc D h sz ci fs) (ct_Q (wo h) ty D (va_A [(h, .inr (ci, fs))] sz)) mc ms (va_A [(h, .inr (ci, fs))] sz)
def ct_rm (f c s lo : Nat) : Room := { frames := f, cells := c, slots := s, locals := lo }
/-- a constructor that makes arrays only -/
theorem ct_arr {l : Launch} {C : String} {cc : ByteArray} {ci N pe i0 : Nat} {T : u_T} {b : Bool} {es : List ce_} {fs : List Value} {wo : Nat → cS → va_W} {ty : cS → cTy} (hpl : plainName C = true) (hcl : vwCl[ci]? = some (C, T, N)) (tyf : Nat → FieldType) (hty : ∀ k, k < N → parseFieldDescriptor (T k).2.2.1 = some (tyf k)) (hnm : ∀ a, a < N → ∀ b, b < N → a ≠ b → (T a).2.1 ≠ (T b).2.1) (hfs : fs.length = N)
    (hm : Cond.methodLink C i0 Lib.objectInit ∈ xi_wd) (hoi : Cond.instanceMethod Lib.objectInit ∈ xi_wd) (hoc : Cond.code Lib.objectInit ⟨#[0xb1]⟩ 1 none ∈ xi_wd) (d0 : decode cc 0 = .ok (.aload_n 0, 1)) (d1 : decode cc 1 = .ok (.invokespecial i0, 3)) (hck : ct_ck cc C T N b pe 4 es = true) (dr : decode cc pe = .ok (.return_, 1))
    (hct : ∀ h, CT es fs [] [] (fun fs' arrs' tys' => ∃ u : cS, wo h u = (h, .inr (ci, fs')) :: arrs' ∧ ty u = tys')) : ct_Con l C cc ci fs (ct_rm 1 es.length (ct_sum es) 12) es.length (ct_sum es) wo ty := by
  intro D h sz
  refine Met.ofW (cc := cc) (maxL := 1) (ret := none) hpl rfl ?_
  intro p e s m args below meth c s₁ B hml hv
  obtain ⟨rfl, hsz, hP, hK, hD0, hN⟩ := hv
  have hts := atoms_spec (ws := ct_W (ct_in C) cc) B.pre
  have hown : s.vm.findClass C = some m.cls := findClass_of_methodNamed B.named
  have hin : meth.name = "<init>" := (name_of_methodNamed B.named B.method).1
  subst hsz
  have hD := hD0.self (sz := s.heap.size)
  have hA : ∀ q : Nat, s.heap.size ≤ q → va_A [(h, .inr (ci, fs))] s.heap.size q := fun q hq => Or.inr hq
  have hS : va_S (va_A [(h, .inr (ci, fs))] s.heap.size) s.heap s.heap [] := va_S.rf
  have hl := lv_entry ([.ref h]) (n := 1) (Nat.le_of_ble_eq_true rfl)
  rw [lg_entry_eq]
  generalize (lg_sl ([.ref h]) ++ List.replicate (1 - (lg_sl ([.ref h])).length) Slot.unset).toArray = ls at hl ⊢
  have hl : lv_has ls 1 [(0, .ref h)] := hl
  have hC : CallFix p m c cc 1 s [Value.ref h].toArray (ct_W (ct_in C) cc) C := ⟨B.exec, B.bytes, hml, hown, hts⟩
  refine lv_aload_n B.exec B.bytes d0 rfl (lv_at hl 0 rfl) ?_
  refine W.objInit B.exec B.bytes hown (hts _ (List.mem_cons_of_mem _ hm)) (hts _ (List.mem_cons_of_mem _ hoi)) (hts _ (List.mem_cons_of_mem _ hoc)) rfl (by rw [hml]; exact hl.1) rfl d1 (Nat.le_of_ble_eq_true rfl) (Nat.le_of_ble_eq_true rfl) ?_
  refine W.eq (g2 := F0 m 4 ls []) rfl ?_
  refine ct_run (b := b) (pe := pe) (ce := es.length) (se := ct_sum es) hC (fun w hw => List.mem_cons_of_mem _ hw) hcl tyf hty hnm hin hA (lv_at hl 0 rfl) (Nat.le_refl _) (Nat.le_refl _) es 4 fs [] [] s.heap [] 0 0 hck hfs hK hP hD hS (Nat.zero_add _) (Nat.zero_add _) (CT.mono ?_ es fs [] [] (hct h))
  rintro fs' arrs' tys' ⟨u, hu, ht⟩ H1 locs1 hK1 hP1 hD1 hS1
  rw [← hu] at hP1 hD1
  rw [← ht] at hK1
  exact W.vret B.exec B.bytes B.returns (fun t ht hW => ⟨⟨u, rfl, trivial, by rw [ht]; exact hP1, va_K.moved hW.alike hK1, hD1⟩, hS1.F ht⟩) hS1.2.2 dr
/-- the caller's other cells, and what the callee made of its one -/
theorem ct_join {A : Nat → Prop} {D : va_G} {wr w1 : va_W} {q : Nat} {x : va_E} {H H1 : Heap} (hP : va_P D vwCl (wr ++ [(q, x)]) H) (hD : va_D A (wr ++ [(q, x)])) (hk : ∀ z : Nat, z < H.size → ¬ va_A [(q, x)] H.size z → H1[z]? = H[z]?) (hF : ∀ z, va_A [(q, x)] H.size z → A z) (hP1 : va_P D vwCl w1 H1) (hD1 : va_D (va_A [(q, x)] H.size) w1) : va_P D vwCl (wr ++ w1) H1 ∧ va_D A (wr ++ w1) := by
  have hA1 : ∀ z, va_A [(q, x)] H.size z → z = q ∨ H.size ≤ z := by
    intro z hz
    rcases hz with ⟨k, y, hy⟩ | hz
    · cases k with
      | zero => cases hy; exact Or.inl rfl
      | succ k => cases hy
    · exact Or.inr hz
  have hr : ∀ (i : Nat) (y : Nat × va_E), wr[i]? = some y → (wr ++ [(q, x)])[i]? = some y := by
    intro i y hy
    rw [List.getElem?_append_left (List.getElem?_eq_some_iff.mp hy).1]
    exact hy
  have hlast : (wr ++ [(q, x)])[wr.length]? = some (q, x) := by
    rw [List.getElem?_append_right (Nat.le_refl _), Nat.sub_self]; rfl
  have hlt : ∀ (i : Nat) (y : Nat × va_E), wr[i]? = some y → y.1 < H.size ∧ y.1 ≠ q := by
    intro i y hy
    refine ⟨(hP i y (hr i y hy)).lt, fun e => ?_⟩
    have := hD.1 i wr.length y (q, x) (hr i y hy) hlast e
    have := (List.getElem?_eq_some_iff.mp hy).1
    omega
  have hno : ∀ (i : Nat) (y : Nat × va_E), wr[i]? = some y → ¬ va_A [(q, x)] H.size y.1 := by
    intro i y hy hz
    obtain ⟨h1, h2⟩ := hlt i y hy
    rcases hA1 _ hz with h | h
    · exact h2 h
    · omega
  have hsplit : ∀ (i : Nat) (y : Nat × va_E), (wr ++ w1)[i]? = some y → wr[i]? = some y ∨ (wr.length ≤ i ∧ w1[i - wr.length]? = some y) := by
    intro i y hy
    by_cases hi : i < wr.length
    · rw [List.getElem?_append_left hi] at hy; exact Or.inl hy
    · rw [List.getElem?_append_right (by omega)] at hy; exact Or.inr ⟨by omega, hy⟩
  refine ⟨fun i y hy => ?_, fun i j y z hy hz he => ?_, fun i y hy => ?_⟩
  · rcases hsplit i y hy with h | ⟨_, h⟩
    · exact (hP i y (hr i y h)).kept (hk _ (hlt i y h).1 (hno i y h))
    · exact hP1 _ y h
  · rcases hsplit i y hy with h | ⟨h0, h⟩ <;> rcases hsplit j z hz with h' | ⟨h0', h'⟩
    · exact hD.1 i j y z (hr i y h) (hr j z h') he
    · exact absurd (by rw [he]; exact hD1.2 _ z h') (hno i y h)
    · exact absurd (by rw [← he]; exact hD1.2 _ y h) (hno j z h')
    · have := hD1.1 _ _ y z h h' he
      omega
  · rcases hsplit i y hy with h | ⟨_, h⟩
    · exact hD.2 i y (hr i y h)
    · exact hF _ (hD1.2 _ y h)
theorem ct_good {Ts : List Cond} (hTw : ∀ w ∈ xi_wd, w ∈ Ts) {y : MethodName} {cc : ByteArray} (hc : Cond.code y cc 1 none ∈ xi_wd) : GoodIn Ts (ct_W y cc) := by
  intro w hw
  rcases List.mem_cons.mp hw with rfl | hw
  · exact ⟨hTw _ hc, xi_wd_good hc⟩
  · exact ⟨hTw _ hw, xi_wd_good hw⟩
