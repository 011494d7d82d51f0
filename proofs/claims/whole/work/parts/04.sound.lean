/-! Soundness of the evaluator: what it computes, the machine does. -/
theorem xi_no {α : Type} {y : α} {P : Prop} (h : (none : Option α) = some y) : P := by cases h
theorem xi_mp_cat (ad : Nat → Nat) (v : Value) : (xi_mp ad v).category = v.category := by cases v <;> rfl
theorem xi_mp_kd (ad : Nat → Nat) (v : Value) : xi_kd (xi_mp ad v) = xi_kd v := by cases v <;> rfl
theorem xi_c1_cat {v : Value} (h : xi_c1 v = true) : v.category = 1 := by cases v <;> first | rfl | (simp [xi_c1] at h)
theorem xi_cm_mp (ad : Nat → Nat) (l : List Value) : ((l.map (xi_mp ad)).map fun v => v.category).sum = xi_cm l := by
  unfold xi_cm
  rw [List.map_map]
  congr 1
  apply List.map_congr_left
  intro v _
  exact xi_mp_cat ad v
theorem xi_rl_get (ad : Nat → Nat) (ca : Nat → ClassId) (aw : xi_W) (i : Nat) : (xi_rl ad ca aw)[i]? = (aw[i]?).map (xi_cr ad ca i) := by
  unfold xi_rl
  rw [List.getElem?_mapIdx]
theorem xi_rl_len (ad : Nat → Nat) (ca : Nat → ClassId) (aw : xi_W) : (xi_rl ad ca aw).length = aw.length := by
  unfold xi_rl
  rw [List.length_mapIdx]
theorem xi_rl_set (ad : Nat → Nat) (ca : Nat → ClassId) (aw : xi_W) (i : Nat) (y : xi_C) : xi_rl ad ca (aw.set i y) = (xi_rl ad ca aw).set i (xi_cr ad ca i y) := by
  apply List.ext_getElem?
  intro j
  rw [xi_rl_get, List.getElem?_set, List.getElem?_set, xi_rl_get, xi_rl_len]
  by_cases h : i = j
  · subst h
    by_cases h2 : i < aw.length <;> simp [h2]
  · simp [h]
theorem xi_rl_arr {ad : Nat → Nat} {ca : Nat → ClassId} {aw : xi_W} {r : Nat} {a : vp_A} (h : aw[r]? = some (.inl a)) : (xi_rl ad ca aw)[r]? = some (ad r, .inl (ca r, a)) := by
  rw [xi_rl_get, h]; rfl
theorem xi_rl_obj {ad : Nat → Nat} {ca : Nat → ClassId} {aw : xi_W} {r : Nat} {o : Nat × List Value} (h : aw[r]? = some (.inr o)) : (xi_rl ad ca aw)[r]? = some (ad r, .inr (o.1, o.2.map (xi_mp ad))) := by
  rw [xi_rl_get, h]; rfl
theorem xi_cr_fst (ad : Nat → Nat) (ca : Nat → ClassId) (i : Nat) (y : xi_C) : (xi_cr ad ca i y).1 = ad i := by cases y <;> rfl
/-- the addresses of a world are a matter of its length -/
theorem xi_D_len {A : Nat → Prop} {ad : Nat → Nat} {ca : Nat → ClassId} {aw aw' : xi_W} (hl : aw'.length = aw.length) (h : va_D A (xi_rl ad ca aw)) : va_D A (xi_rl ad ca aw') := by
  have key : ∀ (k : Nat) (q : Nat × va_E), (xi_rl ad ca aw')[k]? = some q → ∃ q0, (xi_rl ad ca aw)[k]? = some q0 ∧ q0.1 = q.1 := by
    intro k q hk
    rw [xi_rl_get] at hk
    obtain ⟨y, hy, rfl⟩ := Option.map_eq_some_iff.mp hk
    have hlt : k < aw.length := by rw [← hl]; exact (List.getElem?_eq_some_iff.mp hy).1
    refine ⟨xi_cr ad ca k aw[k], ?_, ?_⟩
    · rw [xi_rl_get, List.getElem?_eq_getElem hlt]; rfl
    · rw [xi_cr_fst, xi_cr_fst]
  refine ⟨fun i j y z hi hj hyz => ?_, fun k q hk => ?_⟩
  · obtain ⟨y0, h1, h2⟩ := key i y hi
    obtain ⟨z0, h3, h4⟩ := key j z hj
    exact h.1 i j y0 z0 h1 h3 (h2.trans (hyz.trans h4.symm))
  · obtain ⟨q0, h1, h2⟩ := key k q hk
    rw [← h2]
    exact h.2 k q0 h1
theorem xi_A_len {ad : Nat → Nat} {ca : Nat → ClassId} {aw aw' : xi_W} (hl : aw'.length = aw.length) {sz q : Nat} (h : va_A (xi_rl ad ca aw') sz q) : va_A (xi_rl ad ca aw) sz q := by
  rcases h with ⟨k, e, hk⟩ | h
  · rw [xi_rl_get] at hk
    obtain ⟨y, hy, hq⟩ := Option.map_eq_some_iff.mp hk
    have hlt : k < aw.length := by rw [← hl]; exact (List.getElem?_eq_some_iff.mp hy).1
    have h1 : ad k = q := by rw [← xi_cr_fst ad ca k y, hq]
    have h2 : (xi_rl ad ca aw)[k]? = some (xi_cr ad ca k aw[k]) := by rw [xi_rl_get, List.getElem?_eq_getElem hlt]; rfl
    refine Or.inl ⟨k, (xi_cr ad ca k aw[k]).2, ?_⟩
    rw [h2, ← h1, ← xi_cr_fst ad ca k aw[k]]
  · exact Or.inr h
/-! locals -/
def xi_lh (ad : Nat → Nat) (ls : Array Slot) (nL : Nat) (L : xi_L) : Prop := ls.size = nL ∧ L.length = nL ∧ lv_wf ls ∧ ∀ (i : Nat) (v : Value), xi_lg L i = some v → ls[i]? = some (.val (xi_mp ad v))
def xi_as (ad : Nat → Nat) (L : xi_L) : List (Nat × Value) := (List.range L.length).filterMap (fun i => (xi_lg L i).map (fun v => (i, xi_mp ad v)))
theorem xi_lg_lt {L : xi_L} {i : Nat} {v : Value} (h : xi_lg L i = some v) : i < L.length := by
  by_cases hi : i < L.length
  · exact hi
  · unfold xi_lg at h
    rw [List.getElem?_eq_none (by omega)] at h
    cases h
theorem xi_as_mem {ad : Nat → Nat} {L : xi_L} {i : Nat} {v : Value} (h : xi_lg L i = some v) : (i, xi_mp ad v) ∈ xi_as ad L := by
  unfold xi_as
  rw [List.mem_filterMap]
  exact ⟨i, List.mem_range.mpr (xi_lg_lt h), by rw [h]; rfl⟩
theorem xi_as_get {ad : Nat → Nat} {L : xi_L} {q : Nat × Value} (h : q ∈ xi_as ad L) : ∃ v, xi_lg L q.1 = some v ∧ q.2 = xi_mp ad v := by
  unfold xi_as at h
  rw [List.mem_filterMap] at h
  obtain ⟨i, -, hi⟩ := h
  obtain ⟨v, hv, rfl⟩ := Option.map_eq_some_iff.mp hi
  exact ⟨v, hv, rfl⟩
theorem xi_lh.has {ad : Nat → Nat} {ls : Array Slot} {nL : Nat} {L : xi_L} (h : xi_lh ad ls nL L) : lv_has ls nL (xi_as ad L) := by
  refine ⟨h.1, h.2.2.1, fun q hq => ?_⟩
  obtain ⟨v, h1, h2⟩ := xi_as_get hq
  rw [h2]
  exact h.2.2.2 _ _ h1
theorem xi_lg_set {L : xi_L} {j i : Nat} {y : Option Value} : xi_lg (L.set j y) i = if j = i then (if i < L.length then y else none) else xi_lg L i := by
  unfold xi_lg
  rw [List.getElem?_set]
  by_cases h : j = i
  · subst h
    by_cases h2 : j < L.length
    · simp only [h2, if_true]
      cases y <;> rfl
    · simp only [h2, if_true, if_false]
  · simp only [h, if_false]
theorem xi_lh.set1 {ad : Nat → Nat} {ls ls' : Array Slot} {nL j : Nat} {L : xi_L} {v : Value} (h : xi_lh ad ls nL L) (hp : xi_pk L j = true)
    (h' : lv_has ls' nL ((j, xi_mp ad v) :: (xi_as ad L).filter (fun q => !(q.1 == j) && !(q.1 + 1 == j && q.2.category == 2)))) : xi_lh ad ls' nL (L.set j (some v)) := by
  refine ⟨h'.1, by rw [List.length_set]; exact h.2.1, h'.2.1, fun i u hu => ?_⟩
  rw [xi_lg_set] at hu
  by_cases hji : j = i
  · subst hji
    rw [if_pos rfl] at hu
    by_cases hl : j < L.length
    · rw [if_pos hl] at hu
      cases hu
      exact h'.2.2 (j, xi_mp ad v) List.mem_cons_self
    · rw [if_neg hl] at hu
      cases hu
  · rw [if_neg hji] at hu
    refine h'.2.2 (i, xi_mp ad u) (List.mem_cons_of_mem _ (List.mem_filter.mpr ⟨xi_as_mem hu, ?_⟩))
    have h1 : (i == j) = false := by simpa using fun e => hji e.symm
    have h2 : (i + 1 == j && (xi_mp ad u).category == 2) = false := by
      by_cases hij : i + 1 = j
      · subst hij
        unfold xi_pk at hp
        dsimp only at hp
        rw [hu] at hp
        rw [xi_mp_cat]
        cases u <;> first | (simp [Value.category]; done) | (simp at hp)
      · simp [hij]
    simp only [h1, h2]
    rfl
theorem xi_lh.set2 {ad : Nat → Nat} {ls ls' : Array Slot} {nL j : Nat} {L : xi_L} {v : Value} (h : xi_lh ad ls nL L) (hp : xi_pk L j = true)
    (h' : lv_has ls' nL ((j, xi_mp ad v) :: (xi_as ad L).filter (fun q => !(q.1 == j) && (!(q.1 == j + 1) && !(q.1 + 1 == j && q.2.category == 2))))) : xi_lh ad ls' nL ((L.set j (some v)).set (j + 1) none) := by
  refine ⟨h'.1, by rw [List.length_set, List.length_set]; exact h.2.1, h'.2.1, fun i u hu => ?_⟩
  rw [xi_lg_set] at hu
  by_cases hj1 : j + 1 = i
  · rw [if_pos hj1] at hu
    split at hu <;> cases hu
  rw [if_neg hj1, xi_lg_set] at hu
  by_cases hji : j = i
  · subst hji
    rw [if_pos rfl] at hu
    by_cases hl : j < L.length
    · rw [if_pos hl] at hu
      cases hu
      exact h'.2.2 (j, xi_mp ad v) List.mem_cons_self
    · rw [if_neg hl] at hu
      cases hu
  · rw [if_neg hji] at hu
    refine h'.2.2 (i, xi_mp ad u) (List.mem_cons_of_mem _ (List.mem_filter.mpr ⟨xi_as_mem hu, ?_⟩))
    have h1 : (i == j) = false := by simpa using fun e => hji e.symm
    have h3 : (i == j + 1) = false := by simpa using fun e => hj1 e.symm
    have h2 : (i + 1 == j && (xi_mp ad u).category == 2) = false := by
      by_cases hij : i + 1 = j
      · subst hij
        unfold xi_pk at hp
        dsimp only at hp
        rw [hu] at hp
        rw [xi_mp_cat]
        cases u <;> first | (simp [Value.category]; done) | (simp at hp)
      · simp [hij]
    simp only [h1, h2, h3]
    rfl
theorem xi_mk_len : ∀ (bs : List Bool) (L : xi_L), (xi_mk bs L).length = L.length
  | [], _ => rfl
  | _ :: _, [] => rfl
  | b :: bs, y :: L => by
    show (xi_mk bs L).length + 1 = L.length + 1
    rw [xi_mk_len bs L]
theorem xi_mk_lg : ∀ (bs : List Bool) (L : xi_L) (i : Nat) (v : Value), xi_lg (xi_mk bs L) i = some v → xi_lg L i = some v
  | [], _, _, _, h => h
  | _ :: _, [], _, _, h => h
  | b :: bs, y :: L, 0, v, h => by
    cases b with
    | true => exact h
    | false => cases h
  | b :: bs, y :: L, i + 1, v, h => xi_mk_lg bs L i v h
theorem xi_lh.mask {ad : Nat → Nat} {ls : Array Slot} {nL : Nat} {L : xi_L} (h : xi_lh ad ls nL L) (bs : List Bool) : xi_lh ad ls nL (xi_mk bs L) :=
  ⟨h.1, by rw [xi_mk_len]; exact h.2.1, h.2.2.1, fun i v hv => h.2.2.2 i v (xi_mk_lg bs L i v hv)⟩
theorem xi_en_args (ad : Nat → Nat) : ∀ (vs : List Value) (o i : Nat) (v : Value), xi_lg (xi_en vs) i = some v → (o + i, xi_mp ad v) ∈ lv_args o (vs.map (xi_mp ad))
  | [], _, _, _, h => by cases h
  | w :: vs, o, i, v, h => by
    unfold xi_en at h
    show (o + i, xi_mp ad v) ∈ (o, xi_mp ad w) :: lv_args (if (xi_mp ad w).category = 2 then o + 2 else o + 1) (vs.map (xi_mp ad))
    rw [xi_mp_cat]
    cases hc : xi_c1 w with
    | true =>
      rw [hc] at h
      have h1 : w.category = 1 := xi_c1_cat hc
      rw [h1, if_neg (by decide)]
      cases i with
      | zero =>
        have : w = v := by simpa [xi_lg] using h
        subst this
        exact List.mem_cons_self
      | succ i =>
        have h2 : xi_lg (xi_en vs) i = some v := h
        have h3 := xi_en_args ad vs (o + 1) i v h2
        rw [show o + (i + 1) = o + 1 + i by omega]
        exact List.mem_cons_of_mem _ h3
    | false =>
      rw [hc] at h
      have h1 : w.category = 2 := by cases w <;> first | rfl | (simp [xi_c1] at hc)
      rw [h1, if_pos rfl]
      cases i with
      | zero =>
        have : w = v := by simpa [xi_lg] using h
        subst this
        exact List.mem_cons_self
      | succ i =>
        cases i with
        | zero => cases h
        | succ i =>
          have h2 : xi_lg (xi_en vs) i = some v := h
          have h3 := xi_en_args ad vs (o + 2) i v h2
          rw [show o + (i + 1 + 1) = o + 2 + i by omega]
          exact List.mem_cons_of_mem _ h3
theorem xi_en_len (ad : Nat → Nat) : ∀ vs : List Value, (lg_sl (vs.map (xi_mp ad))).length = (xi_en vs).length
  | [] => rfl
  | w :: vs => by
    have ih := xi_en_len ad vs
    unfold lg_sl at ih ⊢
    unfold xi_en
    rw [List.map_cons, List.flatMap_cons, List.length_append, ih, xi_mp_cat]
    cases hc : xi_c1 w with
    | true =>
      rw [xi_c1_cat hc, if_neg (by decide)]
      simp only [List.length_cons, List.length_nil]
      omega
    | false =>
      have h1 : w.category = 2 := by cases w <;> first | rfl | (simp [xi_c1] at hc)
      rw [h1, if_pos rfl]
      simp only [List.length_cons, List.length_nil]
      omega
theorem xi_lh.entry (ad : Nat → Nat) (vs : List Value) {n : Nat} (h : (xi_en vs).length ≤ n) : xi_lh ad ((lg_sl (vs.map (xi_mp ad)) ++ List.replicate (n - (lg_sl (vs.map (xi_mp ad))).length) Slot.unset).toArray) n (xi_pd n vs) := by
  have h0 := lv_entry (vs.map (xi_mp ad)) (n := n) (by rw [xi_en_len]; exact h)
  refine ⟨h0.1, by unfold xi_pd; rw [List.length_append, List.length_replicate]; omega, h0.2.1, fun i v hv => ?_⟩
  have h1 : xi_lg (xi_en vs) i = some v := by
    unfold xi_pd at hv
    unfold xi_lg at hv ⊢
    by_cases hi : i < (xi_en vs).length
    · rw [List.getElem?_append_left hi] at hv
      exact hv
    · rw [List.getElem?_append_right (by omega), List.getElem?_replicate] at hv
      split at hv
      · rename_i u hu
        split at hu <;> cases hu
      · cases hv
  have h2 := xi_en_args ad vs 0 i v h1
  rw [Nat.zero_add] at h2
  exact h0.2.2 _ h2

/-! what each entry of a table must say -/
def xi_Rc (k pc n : Nat) (v : Value) : Prop := (∀ ad : Nat → Nat, xi_mp ad v = v) ∧ ∀ (p : Program) (l : Launch) (e : Env) (R : Room) (s : State) (m : MethodId) (args : Array Value) (below : List Frame) (meth : Method) (c : Code) (H : Heap) (locs : List Loc) (Q : State → Prop) (ls : Array Slot) (rest : List Value), CallFix p m c (mC k) (mL k) s args (mW k) (mO k) → W p l e R s m args below meth c H locs 0 0 Q (F0 m (pc + n) ls (v :: rest)) → W p l e R s m args below meth c H locs 0 0 Q (F0 m pc ls rest)
def xi_Rl (k pc n j kd : Nat) : Prop := ∀ (p : Program) (l : Launch) (e : Env) (R : Room) (s : State) (m : MethodId) (args : Array Value) (below : List Frame) (meth : Method) (c : Code) (H : Heap) (locs : List Loc) (Q : State → Prop) (ls : Array Slot) (rest : List Value) (v : Value), xi_kd v = kd → CallFix p m c (mC k) (mL k) s args (mW k) (mO k) → ls[j]? = some (.val v) → W p l e R s m args below meth c H locs 0 0 Q (F0 m (pc + n) ls (v :: rest)) → W p l e R s m args below meth c H locs 0 0 Q (F0 m pc ls rest)
def xi_R1 (k pc n j kd : Nat) : Prop := ∀ (p : Program) (l : Launch) (e : Env) (R : Room) (s : State) (m : MethodId) (args : Array Value) (below : List Frame) (meth : Method) (c : Code) (H : Heap) (locs : List Loc) (Q : State → Prop) (ls : Array Slot) (rest : List Value) (v : Value) (lv : List (Nat × Value)), xi_kd v = kd → CallFix p m c (mC k) (mL k) s args (mW k) (mO k) → lv_has ls (mL k) lv → j < mL k → (∀ ls' : Array Slot, lv_has ls' (mL k) ((j, v) :: lv.filter (fun q => !(q.1 == j) && !(q.1 + 1 == j && q.2.category == 2))) → W p l e R s m args below meth c H locs 0 0 Q (F0 m (pc + n) ls' rest)) → W p l e R s m args below meth c H locs 0 0 Q (F0 m pc ls (v :: rest))
def xi_R2 (k pc n j : Nat) : Prop := ∀ (p : Program) (l : Launch) (e : Env) (R : Room) (s : State) (m : MethodId) (args : Array Value) (below : List Frame) (meth : Method) (c : Code) (H : Heap) (locs : List Loc) (Q : State → Prop) (ls : Array Slot) (rest : List Value) (y : Int64) (lv : List (Nat × Value)), CallFix p m c (mC k) (mL k) s args (mW k) (mO k) → lv_has ls (mL k) lv → j + 1 < mL k → (∀ ls' : Array Slot, lv_has ls' (mL k) ((j, .long y) :: lv.filter (fun q => !(q.1 == j) && (!(q.1 == j + 1) && !(q.1 + 1 == j && q.2.category == 2)))) → W p l e R s m args below meth c H locs 0 0 Q (F0 m (pc + n) ls' rest)) → W p l e R s m args below meth c H locs 0 0 Q (F0 m pc ls (.long y :: rest))
def xi_swt (y : Int32) : List (Int × Int) → Int → Int
  | [], d => d
  | (a, t) :: r, d => if y.toInt = a then t else xi_swt y r d
def xi_Rw (k pc : Nat) (ps : List (Int × Int)) (d : Int) : Prop := ∀ (p : Program) (l : Launch) (e : Env) (R : Room) (s : State) (m : MethodId) (args : Array Value) (below : List Frame) (meth : Method) (c : Code) (H : Heap) (locs : List Loc) (Q : State → Prop) (ls : Array Slot) (rest : List Value) (y : Int32), CallFix p m c (mC k) (mL k) s args (mW k) (mO k) → W p l e R s m args below meth c H locs 0 0 Q (F0 m (xi_swt y ps d).toNat ls rest) → W p l e R s m args below meth c H locs 0 0 Q (F0 m pc ls (.int y :: rest))
def xi_Rf (k pc ci j : Nat) : Prop := ∀ (p : Program) (l : Launch) (e : Env) (R : Room) (s : State) (m : MethodId) (args : Array Value) (below : List Frame) (meth : Method) (c : Code) (H : Heap) (locs : List Loc) (Q : State → Prop) (ls : Array Slot) (rest : List Value) (D : va_G) (tys : List (ClassId × FieldType)) (ws : va_W) (q0 a : Nat) (fs : List Value) (v : Value), CallFix p m c (mC k) (mL k) s args (mW k) (mO k) → va_K D vwCl tys s → va_P D vwCl ws H → ws[q0]? = some (a, .inr (ci, fs)) → fs[j]? = some v → W p l e R s m args below meth c H locs 0 0 Q (F0 m (pc + 3) ls (v :: rest)) → W p l e R s m args below meth c H locs 0 0 Q (F0 m pc ls (.ref a :: rest))
def xi_Rp (b : Bool) (k pc ci j : Nat) : Prop := ∀ (p : Program) (l : Launch) (e : Env) (R : Room) (s : State) (m : MethodId) (args : Array Value) (below : List Frame) (meth : Method) (c : Code) (H : Heap) (locs : List Loc) (Q : State → Prop) (ls : Array Slot) (rest : List Value) (D : va_G) (tys : List (ClassId × FieldType)) (ws : va_W) (A : Nat → Prop) (H0 : Heap) (q0 a : Nat) (fs : List Value) (y : Int32), (b = true → y = 0 ∨ y = 1) → CallFix p m c (mC k) (mL k) s args (mW k) (mO k) → va_K D vwCl tys s → va_P D vwCl ws H → va_D A ws → va_S A H0 H locs → ws[q0]? = some (a, .inr (ci, fs)) → j < fs.length →
  (∀ (H1 : Heap) (locs1 : List Loc), va_P D vwCl (ws.set q0 (a, .inr (ci, fs.set j (.int y)))) H1 → va_D A (ws.set q0 (a, .inr (ci, fs.set j (.int y)))) → va_S A H0 H1 locs1 → W p l e R s m args below meth c H1 locs1 0 0 Q (F0 m (pc + 3) ls rest)) → W p l e R s m args below meth c H locs 0 0 Q (F0 m pc ls (.int y :: .ref a :: rest))
def xi_Rg (k pc r : Nat) : Prop := ∀ (p : Program) (l : Launch) (e : Env) (R : Room) (s : State) (m : MethodId) (args : Array Value) (below : List Frame) (meth : Method) (c : Code) (H : Heap) (locs : List Loc) (Q : State → Prop) (ls : Array Slot) (rest : List Value) (ad : Nat → Nat) (A : Nat → Prop), CallFix p m c (mC k) (mL k) s args (mW k) (mO k) → xi_Z ad A s → va_S A s.heap H locs → W p l e R s m args below meth c H locs 0 0 Q (F0 m (pc + 3) ls (.ref (ad r) :: rest)) → W p l e R s m args below meth c H locs 0 0 Q (F0 m pc ls rest)
def xi_R0 (k pc : Nat) : Prop := ∀ (p : Program) (l : Launch) (e : Env) (R : Room) (s : State) (m : MethodId) (args : Array Value) (below : List Frame) (meth : Method) (c : Code) (H : Heap) (locs : List Loc) (Q : State → Prop) (ls : Array Slot) (rest : List Value) (y z : Int32), CallFix p m c (mC k) (mL k) s args (mW k) (mO k) → ls.size = mL k → 1 ≤ R.frames → 64 ≤ R.locals → (rest.map fun v => v.category).sum ≤ 8 → W p l e R s m args below meth c H locs 0 0 Q (F0 m (pc + 3) ls (.int (if y < z then z else y) :: rest)) → W p l e R s m args below meth c H locs 0 0 Q (F0 m pc ls (.int z :: .int y :: rest))
def xi_Ra (k pc : Nat) : Prop := ∀ (p : Program) (l : Launch) (e : Env) (R : Room) (s : State) (m : MethodId) (args : Array Value) (below : List Frame) (meth : Method) (c : Code) (H : Heap) (locs : List Loc) (Q : State → Prop) (ls : Array Slot) (rest : List Value) (y z : Int64), CallFix p m c (mC k) (mL k) s args (mW k) (mO k) → ls.size = mL k → 1 ≤ R.frames → 64 ≤ R.locals → (rest.map fun v => v.category).sum ≤ 8 → W p l e R s m args below meth c H locs 0 0 Q (F0 m (pc + 3) ls (.long (if z < y then y else z) :: rest)) → W p l e R s m args below meth c H locs 0 0 Q (F0 m pc ls (.long z :: .long y :: rest))
def xi_Rb (k pc : Nat) : Prop := ∀ (p : Program) (l : Launch) (e : Env) (R : Room) (s : State) (m : MethodId) (args : Array Value) (below : List Frame) (meth : Method) (c : Code) (H : Heap) (locs : List Loc) (Q : State → Prop) (ls : Array Slot) (rest : List Value) (y z : Int64), CallFix p m c (mC k) (mL k) s args (mW k) (mO k) → ls.size = mL k → 1 ≤ R.frames → 64 ≤ R.locals → (rest.map fun v => v.category).sum ≤ 8 → W p l e R s m args below meth c H locs 0 0 Q (F0 m (pc + 3) ls (.long (if z < y then z else y) :: rest)) → W p l e R s m args below meth c H locs 0 0 Q (F0 m pc ls (.long z :: .long y :: rest))
def xi_Ry (k pc : Nat) : Prop := ∀ (p : Program) (l : Launch) (e : Env) (R : Room) (s : State) (m : MethodId) (args : Array Value) (below : List Frame) (meth : Method) (c : Code) (H : Heap) (locs : List Loc) (Q : State → Prop) (ls : Array Slot) (rest : List Value) (D : va_G) (tys : List (ClassId × FieldType)) (ws : va_W) (A : Nat → Prop) (H0 : Heap) (q0 q1 t0 t1 a0 a : Nat) (c0 c1 : ClassId) (n0 n1 : Nat) (f g : Nat → Int32) (sp dp n : Int32), CallFix p m c (mC k) (mL k) s args (mW k) (mO k) → ls.size = mL k → 1 ≤ R.frames → 64 ≤ R.locals → (rest.map fun v => v.category).sum ≤ 8 → va_K D vwCl tys s → va_P D vwCl ws H → va_D A ws → va_S A H0 H locs →
  ws[q0]? = some (a0, .inl (c0, n0, .inl f)) → ws[q1]? = some (a, .inl (c1, n1, .inl g)) → tys[t0]? = some (c0, .int) → tys[t1]? = some (c1, .int) → ¬ sp < 0 → ¬ dp < 0 → ¬ n < 0 → sp.toNatClampNeg + n.toNatClampNeg ≤ n0 → dp.toNatClampNeg + n.toNatClampNeg ≤ n1 →
  (∀ (H1 : Heap) (locs1 : List Loc), va_P D vwCl (ws.set q1 (a, .inl (c1, n1, .inl (va_cpy f g sp.toNatClampNeg dp.toNatClampNeg n.toNatClampNeg)))) H1 → va_D A (ws.set q1 (a, .inl (c1, n1, .inl (va_cpy f g sp.toNatClampNeg dp.toNatClampNeg n.toNatClampNeg)))) → va_S A H0 H1 locs1 → W p l e R s m args below meth c H1 locs1 0 0 Q (F0 m (pc + 3) ls rest)) → W p l e R s m args below meth c H locs 0 0 Q (F0 m pc ls (.int n :: .int dp :: .ref a :: .int sp :: .ref a0 :: rest))
def xi_Rv (k pc k' ci n : Nat) : Prop := mL k' ≤ 45 ∧ (∃ q, vwCl[ci]? = some q ∧ q.1 = mO k') ∧ ∀ (p : Program) (l : Launch) (e : Env) (R : Room) (s : State) (m : MethodId) (args : Array Value) (below : List Frame) (meth : Method) (c : Code) (H : Heap) (locs : List Loc) (Q : State → Prop) (ls : Array Slot) (rest : List Value) (rm : Room) (Pc : Array Value → State → Prop) (Qc : Array Value → State → Outcome → State → Prop) (free : Addr → Prop) (b : Addr) (As : List Value), CallFix p m c (mC k) (mL k) s args (mW k) (mO k) → Met l (mY k') (mW k') rm Pc Qc 0 0 free → rm.cells = 0 → rm.slots = 0 → rm.frames + 1 ≤ R.frames → 8 + (mL k' + 11) + rm.locals ≤ R.locals → PreV s H (mO k') b Pc As → As.length + 1 = n → ls.size = mL k → (rest.map fun v => v.category).sum ≤ 8 →
  va_Run p l e R s m args below meth c H locs 0 0 0 0 (F0 m pc ls (As.reverse ++ .ref b :: rest)) rest (Qc (Value.ref b :: As).toArray) free
def xi_Rs (k pc k' n : Nat) : Prop := mL k' ≤ 45 ∧ ∀ (p : Program) (l : Launch) (e : Env) (R : Room) (s : State) (m : MethodId) (args : Array Value) (below : List Frame) (meth : Method) (c : Code) (H : Heap) (locs : List Loc) (Q : State → Prop) (ls : Array Slot) (rest : List Value) (rm : Room) (Pc : Array Value → State → Prop) (Qc : Array Value → State → Outcome → State → Prop) (free : Addr → Prop) (As : List Value), CallFix p m c (mC k) (mL k) s args (mW k) (mO k) → Met l (mY k') (mW k') rm Pc Qc 0 0 free → rm.cells = 0 → rm.slots = 0 → rm.frames + 1 ≤ R.frames → 8 + (mL k' + 11) + rm.locals ≤ R.locals → PreS s H Pc As → As.length = n → ls.size = mL k → (rest.map fun v => v.category).sum ≤ 8 →
  va_Run p l e R s m args below meth c H locs 0 0 0 0 (F0 m pc ls (As.reverse ++ rest)) rest (Qc As.toArray) free
def xi_rk (kd : Nat) : Option FieldType := match kd with
  | 0 => some .int
  | 1 => some .boolean
  | _ => some .char
def xi_ok (k pc : Nat) (q : xi_E) : Prop := match q.1 with
  | .ldc n => xi_Rc k pc n q.2.1
  | .iload j => xi_Rl k pc (xi_n q.2.1) j 0
  | .lload j => xi_Rl k pc (xi_n q.2.1) j 1
  | .aload j => xi_Rl k pc (xi_n q.2.1) j 2
  | .istore j => xi_R1 k pc (xi_n q.2.1) j 0
  | .astore j => xi_R1 k pc (xi_n q.2.1) j 2
  | .lstore j => xi_R2 k pc (xi_n q.2.1) j
  | .iinc j _ => ∃ z : Int, decode (mC k) pc = .ok (.iinc j z, 3) ∧ q.2.1 = .int (Int32.ofInt z)
  | .ifCond c _ => ∃ off : Int, decode (mC k) pc = .ok (.ifCond c off, 3) ∧ (pc : Int) + off = (xi_n q.2.1 : Int)
  | .if_icmp c _ => ∃ off : Int, decode (mC k) pc = .ok (.if_icmp c off, 3) ∧ (pc : Int) + off = (xi_n q.2.1 : Int)
  | .goto _ => ∃ off : Int, decode (mC k) pc = .ok (.goto off, 3) ∧ (pc : Int) + off = (xi_n q.2.1 : Int)
  | .lookupswitch d ps => xi_Rw k pc ps.toList d
  | .getfield ci => xi_Rf k pc ci (xi_n q.2.1)
  | .putfield ci => xi_Rp false k pc ci (xi_n q.2.1)
  | .putstatic ci => xi_Rp true k pc ci (xi_n q.2.1)
  | .getstatic r => xi_Rg k pc r
  | .invokedynamic c => (match c with
    | 0 => xi_R0 k pc
    | 1 => xi_Ra k pc
    | 2 => xi_Rb k pc
    | _ => xi_Ry k pc)
  | .invokeinterface k' ci => xi_Rv k pc k' ci (xi_n q.2.1)
  | .invokestatic k' => xi_Rs k pc k' (xi_n q.2.1)
  | .ireturn => decode (mC k) pc = .ok (.ireturn, 1) ∧ mR k = xi_rk (xi_n q.2.1)
  | .return_ => decode (mC k) pc = .ok (.return_, 1) ∧ mR k = none
  | i => decode (mC k) pc = .ok (i, 1)
/-! contracts -/
def xi_rm (d : Nat) : Room := { frames := d, cells := 0, slots := 0, locals := 64 * d }
def xi_Pc (D : va_G) (ad : Nat → Nat) (ca : Nat → ClassId) (vs : List Value) (aw : xi_W) (sz : Nat) : Array Value → State → Prop := va_Pc (vs.map (xi_mp ad)) (fun U => U.heap.size = sz ∧ va_P D vwCl (xi_rl ad ca aw) U.heap ∧ va_K D vwCl (xi_tyL ca) U ∧ va_D (fun _ => True) (xi_rl ad ca aw) ∧ xi_Z ad (va_A (xi_rl ad ca aw) sz) U)
def xi_Qc (D : va_G) (ad : Nat → Nat) (ca : Nat → ClassId) (N : Nat) (x : xi_R) (A : Nat → Prop) : Array Value → State → Outcome → State → Prop := fun _ st o t => (o = .returned (x.1.map (xi_mp ad)) ∧ x.2.length = N ∧ va_P D vwCl (xi_rl ad ca x.2) t.heap) ∧ va_F A st t
def xi_Con (l : Launch) (d k : Nat) (vs : List Value) (aw : xi_W) (x : xi_R) : Prop := ∀ (D : va_G) (ad : Nat → Nat) (ca : Nat → ClassId) (sz : Nat), Met l (mY k) (mW k) (xi_rm d) (xi_Pc D ad ca vs aw sz) (xi_Qc D ad ca aw.length x (va_A (xi_rl ad ca aw) sz)) 0 0 (va_A (xi_rl ad ca aw) sz)
theorem xi_blind (D : va_G) (ad : Nat → Nat) (ca : Nat → ClassId) (vs : List Value) (aw : xi_W) (sz : Nat) : FrameBlind (xi_Pc D ad ca vs aw sz) := by
  intro a U g mk q
  obtain ⟨q0, q1, qP, qK, qD, qZ⟩ := q
  exact ⟨q0, q1, qP, va_K.moved (u := U) (U := U.calling g mk a) (Vm.Alike.refl U.vm) qK, qD, xi_Z.calling qZ⟩
def xi_G (p : Program) (l : Launch) (e : Env) (R : Room) (s : State) (m : MethodId) (args : Array Value) (below : List Frame) (meth : Method) (c : Code) (D : va_G) (ad : Nat → Nat) (ca : Nat → ClassId) (A : Nat → Prop) (Q : State → Prop) (N nL : Nat) (x : xi_R) (pc : Nat) (L : xi_L) (st : List Value) (aw : xi_W) : Prop :=
  ∀ (H : Heap) (locs : List Loc) (ls : Array Slot), xi_lh ad ls nL L → va_P D vwCl (xi_rl ad ca aw) H → va_D A (xi_rl ad ca aw) → va_S A s.heap H locs → aw.length = N → W p l e R s m args below meth c H locs 0 0 Q (F0 m pc ls (st.map (xi_mp ad)))
section XISTEP
variable {p : Program} {l : Launch} {e : Env} {R : Room} {s : State} {m : MethodId} {args : Array Value} {below : List Frame} {meth : Method} {c : Code} {D : va_G} {ad : Nat → Nat} {ca : Nat → ClassId} {A : Nat → Prop} {Q : State → Prop} {x : xi_R} {ct : xi_K} {cal : xi_F} {N k pc : Nat} {L : xi_L} {st : List Value} {aw : xi_W} {H : Heap} {locs : List Loc} {ls : Array Slot}
theorem xi_o2_inv {f : Int32 → Int32 → Int32} {st' : List Value} (h : xi_o2 f st = some st') : ∃ y z r, st = .int z :: .int y :: r ∧ st' = .int (f y z) :: r := by
  unfold xi_o2 at h
  split at h
  · cases h; exact ⟨_, _, _, rfl, rfl⟩
  · cases h
theorem xi_o1_inv {f : Int32 → Value} {st' : List Value} (h : xi_o1 f st = some st') : ∃ y r, st = .int y :: r ∧ st' = f y :: r := by
  unfold xi_o1 at h
  split at h
  · cases h; exact ⟨_, _, rfl, rfl⟩
  · cases h
theorem xi_q1_inv {f : Int64 → Value} {st' : List Value} (h : xi_q1 f st = some st') : ∃ y r, st = .long y :: r ∧ st' = f y :: r := by
  unfold xi_q1 at h
  split at h
  · cases h; exact ⟨_, _, rfl, rfl⟩
  · cases h
theorem xi_q2_inv {f : Int64 → Int64 → Int64} {st' : List Value} (h : xi_q2 f st = some st') : ∃ y z r, st = .long z :: .long y :: r ∧ st' = .long (f y z) :: r := by
  unfold xi_q2 at h
  split at h
  · cases h; exact ⟨_, _, _, rfl, rfl⟩
  · cases h
theorem xi_qs_inv {f : Int64 → Int32 → Int64} {st' : List Value} (h : xi_qs f st = some st') : ∃ y z r, st = .int z :: .long y :: r ∧ st' = .long (f y z) :: r := by
  unfold xi_qs at h
  split at h
  · cases h; exact ⟨_, _, _, rfl, rfl⟩
  · cases h
theorem xi_du_inv {st' : List Value} (h : xi_du st = some st') : ∃ v r, xi_c1 v = true ∧ st = v :: r ∧ st' = v :: v :: r := by
  unfold xi_du at h
  split at h
  · split at h
    · rename_i h1
      cases h; exact ⟨_, _, h1, rfl, rfl⟩
    · cases h
  · cases h
theorem xi_po_inv {st' : List Value} (h : xi_po st = some st') : ∃ v r, xi_c1 v = true ∧ st = v :: r ∧ st' = r := by
  unfold xi_po at h
  split at h
  · split at h
    · rename_i h1
      cases h; exact ⟨_, _, h1, rfl, rfl⟩
    · cases h
  · cases h
theorem xi_dx_inv {st' : List Value} (h : xi_dx st = some st') : ∃ v w r, xi_c1 v = true ∧ xi_c1 w = true ∧ st = v :: w :: r ∧ st' = v :: w :: v :: r := by
  unfold xi_dx at h
  split at h
  · split at h
    · rename_i h1
      split at h
      · rename_i h2
        cases h; exact ⟨_, _, _, h1, h2, rfl, rfl⟩
      · cases h
    · cases h
  · cases h
theorem xi_d2_inv {st' : List Value} (h : xi_d2 st = some st') : ∃ v w r, xi_c1 v = true ∧ xi_c1 w = true ∧ st = v :: w :: r ∧ st' = v :: w :: v :: w :: r := by
  unfold xi_d2 at h
  split at h
  · split at h
    · rename_i h1
      split at h
      · rename_i h2
        cases h; exact ⟨_, _, _, h1, h2, rfl, rfl⟩
      · cases h
    · cases h
  · cases h
theorem xi_sop_ok {i : Jvm.ClassFile.Instr} {st' : List Value} {cc : ByteArray} (hx : p.tables.exec = Jvm.exec) (hb : c.code = cc) (hd : decode cc pc = .ok (i, 1)) (h : xi_sop i st = some st')
    (kk : W p l e R s m args below meth c H locs 0 0 Q (F0 m (pc + 1) ls (st'.map (xi_mp ad)))) : W p l e R s m args below meth c H locs 0 0 Q (F0 m pc ls (st.map (xi_mp ad))) := by
  cases i with
  | iadd => obtain ⟨y, z, r, rfl, rfl⟩ := xi_o2_inv h; exact lv_iadd hx hb hd kk
  | isub => obtain ⟨y, z, r, rfl, rfl⟩ := xi_o2_inv h; exact lv_isub hx hb hd kk
  | imul => obtain ⟨y, z, r, rfl, rfl⟩ := xi_o2_inv h; exact lv_imul hx hb hd kk
  | iand => obtain ⟨y, z, r, rfl, rfl⟩ := xi_o2_inv h; exact lv_iand hx hb hd kk
  | ior => obtain ⟨y, z, r, rfl, rfl⟩ := xi_o2_inv h; exact lv_ior hx hb hd kk
  | ixor => obtain ⟨y, z, r, rfl, rfl⟩ := xi_o2_inv h; exact lv_ixor hx hb hd kk
  | ishl => obtain ⟨y, z, r, rfl, rfl⟩ := xi_o2_inv h; exact lv_ishl hx hb hd kk
  | ishr => obtain ⟨y, z, r, rfl, rfl⟩ := xi_o2_inv h; exact lv_ishr hx hb hd kk
  | ineg => obtain ⟨y, r, rfl, rfl⟩ := xi_o1_inv h; exact lv_ineg hx hb hd kk
  | i2l => obtain ⟨y, r, rfl, rfl⟩ := xi_o1_inv h; exact lv_i2l hx hb hd rfl kk
  | i2c => obtain ⟨y, r, rfl, rfl⟩ := xi_o1_inv h; exact lv_i2c hx hb hd rfl kk
  | l2i => obtain ⟨y, r, rfl, rfl⟩ := xi_q1_inv h; exact lv_l2i hx hb hd rfl kk
  | ladd => obtain ⟨y, z, r, rfl, rfl⟩ := xi_q2_inv h; exact lv_ladd hx hb hd kk
  | lsub => obtain ⟨y, z, r, rfl, rfl⟩ := xi_q2_inv h; exact lv_lsub hx hb hd kk
  | lmul => obtain ⟨y, z, r, rfl, rfl⟩ := xi_q2_inv h; exact lv_lmul hx hb hd kk
  | land => obtain ⟨y, z, r, rfl, rfl⟩ := xi_q2_inv h; exact lv_land hx hb hd kk
  | lor => obtain ⟨y, z, r, rfl, rfl⟩ := xi_q2_inv h; exact lv_lor hx hb hd kk
  | lushr => obtain ⟨y, z, r, rfl, rfl⟩ := xi_qs_inv h; exact lv_lushr hx hb hd rfl kk
  | lshl => obtain ⟨y, z, r, rfl, rfl⟩ := xi_qs_inv h; exact lv_lshl hx hb hd rfl kk
  | lshr => obtain ⟨y, z, r, rfl, rfl⟩ := xi_qs_inv h; exact lv_lshr hx hb hd rfl kk
  | dup => obtain ⟨v, r, h1, rfl, rfl⟩ := xi_du_inv h; exact lv_dup hx hb hd ((xi_mp_cat ad v).trans (xi_c1_cat h1)) kk
  | pop => obtain ⟨v, r, h1, rfl, rfl⟩ := xi_po_inv h; exact lv_pop hx hb hd ((xi_mp_cat ad v).trans (xi_c1_cat h1)) kk
  | dup_x1 => obtain ⟨v, w, r, h1, h2, rfl, rfl⟩ := xi_dx_inv h; exact lv_dup_x1 hx hb hd ((xi_mp_cat ad v).trans (xi_c1_cat h1)) ((xi_mp_cat ad w).trans (xi_c1_cat h2)) kk
  | dup2 => obtain ⟨v, w, r, h1, h2, rfl, rfl⟩ := xi_d2_inv h; exact lv_dup2_11 hx hb hd ((xi_mp_cat ad v).trans (xi_c1_cat h1)) ((xi_mp_cat ad w).trans (xi_c1_cat h2)) kk
  | _ => exact xi_no (show (none : Option (List Value)) = some st' from h)
theorem xi_sd_sop {nL : Nat} {i : Jvm.ClassFile.Instr} {cc : ByteArray} (hx : p.tables.exec = Jvm.exec) (hb : c.code = cc) (hct : ∀ (pc : Nat) (L : xi_L) (st : List Value) (aw : xi_W), ct pc L st aw = some x → xi_G p l e R s m args below meth c D ad ca A Q N nL x pc L st aw) (hd : decode cc pc = .ok (i, 1)) (h : xi_so ct i pc L st aw = some x) : xi_G p l e R s m args below meth c D ad ca A Q N nL x pc L st aw := by
  unfold xi_so at h
  cases hs : xi_sop i st with
  | none => rw [hs] at h; cases h
  | some st' =>
    rw [hs] at h
    have hg := hct _ _ _ _ h
    exact fun H locs ls hl hP hD hS hN => xi_sop_ok hx hb hd hs (hg H locs ls hl hP hD hS hN)
theorem xi_sd_ld {nL kd n j : Nat} (hC : CallFix p m c (mC k) (mL k) s args (mW k) (mO k)) (hct : ∀ (pc : Nat) (L : xi_L) (st : List Value) (aw : xi_W), ct pc L st aw = some x → xi_G p l e R s m args below meth c D ad ca A Q N nL x pc L st aw) (hr : xi_Rl k pc n j kd) (h : xi_ld ct kd n j pc L st aw = some x) : xi_G p l e R s m args below meth c D ad ca A Q N nL x pc L st aw := by
  unfold xi_ld at h
  split at h
  · rename_i v hv
    split at h
    · rename_i hk
      have hg := hct _ _ _ _ h
      intro H locs ls hl hP hD hS hN
      exact hr p l e R s m args below meth c H locs Q ls _ (xi_mp ad v) (by rw [xi_mp_kd]; exact Nat.eq_of_beq_eq_true hk) hC (hl.2.2.2 j v hv) (hg H locs ls hl hP hD hS hN)
    · cases h
  · cases h
theorem xi_sd_s1 {kd n j : Nat} (hC : CallFix p m c (mC k) (mL k) s args (mW k) (mO k)) (hct : ∀ (pc : Nat) (L : xi_L) (st : List Value) (aw : xi_W), ct pc L st aw = some x → xi_G p l e R s m args below meth c D ad ca A Q N (mL k) x pc L st aw) (hr : xi_R1 k pc n j kd) (h : xi_s1 ct kd n j pc L st aw = some x) : xi_G p l e R s m args below meth c D ad ca A Q N (mL k) x pc L st aw := by
  unfold xi_s1 at h
  split at h
  · rename_i v r
    split at h
    · rename_i hk
      split at h
      · rename_i hp
        split at h
        · rename_i hlt
          have hg := hct _ _ _ _ h
          intro H locs ls hl hP hD hS hN
          refine hr p l e R s m args below meth c H locs Q ls _ (xi_mp ad v) (xi_as ad L) (by rw [xi_mp_kd]; exact Nat.eq_of_beq_eq_true hk) hC hl.has ?_ (fun ls' hl' => ?_)
          · have : j < L.length := Nat.le_of_ble_eq_true hlt
            rw [hl.2.1] at this
            exact this
          · exact hg H locs ls' (hl.set1 hp hl') hP hD hS hN
        · cases h
      · cases h
    · cases h
  · cases h
theorem xi_sd_s2 {n j : Nat} (hC : CallFix p m c (mC k) (mL k) s args (mW k) (mO k)) (hct : ∀ (pc : Nat) (L : xi_L) (st : List Value) (aw : xi_W), ct pc L st aw = some x → xi_G p l e R s m args below meth c D ad ca A Q N (mL k) x pc L st aw) (hr : xi_R2 k pc n j) (h : xi_s2 ct n j pc L st aw = some x) : xi_G p l e R s m args below meth c D ad ca A Q N (mL k) x pc L st aw := by
  unfold xi_s2 at h
  split at h
  · rename_i y r
    split at h
    · rename_i hp
      split at h
      · rename_i hlt
        have hg := hct _ _ _ _ h
        intro H locs ls hl hP hD hS hN
        refine hr p l e R s m args below meth c H locs Q ls _ y (xi_as ad L) hC hl.has ?_ (fun ls' hl' => ?_)
        · have : j + 1 < L.length := Nat.le_of_ble_eq_true hlt
          rw [hl.2.1] at this
          exact this
        · exact hg H locs ls' (hl.set2 (v := .long y) hp hl') hP hD hS hN
      · cases h
    · cases h
  · cases h
theorem xi_sd_ic {j : Nat} {v : Value} (hC : CallFix p m c (mC k) (mL k) s args (mW k) (mO k)) (hct : ∀ (pc : Nat) (L : xi_L) (st : List Value) (aw : xi_W), ct pc L st aw = some x → xi_G p l e R s m args below meth c D ad ca A Q N (mL k) x pc L st aw) (hr : ∃ z : Int, decode (mC k) pc = .ok (.iinc j z, 3) ∧ v = .int (Int32.ofInt z)) (h : xi_ic ct v j pc L st aw = some x) : xi_G p l e R s m args below meth c D ad ca A Q N (mL k) x pc L st aw := by
  obtain ⟨z, hd, rfl⟩ := hr
  unfold xi_ic at h
  dsimp only at h
  split at h
  · rename_i y hy
    split at h
    · rename_i hp
      have hg := hct _ _ _ _ h
      intro H locs ls hl hP hD hS hN
      have hmem : (j, Value.int y) ∈ xi_as ad L := xi_as_mem (ad := ad) hy
      obtain ⟨q, hq⟩ := List.getElem?_of_mem hmem
      refine lv_iinc hC.1 hC.2.1 hd hl.has hq rfl ?_ rfl (fun ls' hl' => ?_)
      · have := xi_lg_lt hy
        rw [hl.2.1] at this
        exact this
      · exact hg H locs ls' (hl.set1 (v := .int (y + Int32.ofInt z)) hp hl') hP hD hS hN
    · cases h
  · cases h
theorem xi_cd_ok {cn : Jvm.ClassFile.Cond} {y z : Int32} {a b : Option xi_R} {P : Prop} (h : xi_cd cn y z a b = some x)
    (ha : a = some x → P) (hb : b = some x → P) : P := by
  cases cn <;> (unfold xi_cd at h; dsimp only at h; split at h) <;> first | exact ha h | exact hb h
theorem xi_nle {y z : Int32} : ¬ z ≤ y ↔ y < z := Int32.not_le
theorem xi_sd_if0a {nL t : Nat} {cn : Jvm.ClassFile.Cond} {y : Int32} {r : List Value} (hC : CallFix p m c (mC k) (mL k) s args (mW k) (mO k)) (hct : ∀ (pc : Nat) (L : xi_L) (st : List Value) (aw : xi_W), ct pc L st aw = some x → xi_G p l e R s m args below meth c D ad ca A Q N nL x pc L st aw) (hr : ∃ off : Int, decode (mC k) pc = .ok (.ifCond cn off, 3) ∧ (pc : Int) + off = (t : Int)) (h : xi_cd cn y 0 (ct t L r aw) (ct (pc + 3) L r aw) = some x) : xi_G p l e R s m args below meth c D ad ca A Q N nL x pc L (.int y :: r) aw := by
  obtain ⟨off, hd, ht⟩ := hr
  intro H locs ls hl hP hD hS hN
  have kt := fun h1 => hct t L r aw h1 H locs ls hl hP hD hS hN
  have kf := fun h1 => hct (pc + 3) L r aw h1 H locs ls hl hP hD hS hN
  cases cn with
  | eq =>
    refine lv_if_eq hC.1 hC.2.1 hd ht (fun q => kt ?_) (fun q => kf ?_)
    · unfold xi_cd at h; dsimp only at h; rw [if_pos q] at h; exact h
    · unfold xi_cd at h; dsimp only at h; rw [if_neg q] at h; exact h
  | ne =>
    refine lv_if_ne hC.1 hC.2.1 hd ht (fun q => kt ?_) (fun q => kf ?_)
    · unfold xi_cd at h; dsimp only at h; rw [if_neg q] at h; exact h
    · unfold xi_cd at h; dsimp only at h; rw [if_pos q] at h; exact h
  | lt =>
    refine lv_if_lt hC.1 hC.2.1 hd ht (fun q => kt ?_) (fun q => kf ?_)
    · unfold xi_cd at h; dsimp only at h; rw [if_pos q] at h; exact h
    · unfold xi_cd at h; dsimp only at h; rw [if_neg q] at h; exact h
  | ge =>
    refine lv_if_ge hC.1 hC.2.1 hd ht (fun q => kt ?_) (fun q => kf ?_)
    · unfold xi_cd at h; dsimp only at h; rw [if_neg (Int32.not_lt.mpr q)] at h; exact h
    · unfold xi_cd at h; dsimp only at h; rw [if_pos (xi_nle.mp q)] at h; exact h
  | gt =>
    refine lv_if_gt hC.1 hC.2.1 hd ht (fun q => kt ?_) (fun q => kf ?_)
    · unfold xi_cd at h; dsimp only at h; rw [if_pos q] at h; exact h
    · unfold xi_cd at h; dsimp only at h; rw [if_neg q] at h; exact h
  | le =>
    refine lv_if_le hC.1 hC.2.1 hd ht (fun q => kt ?_) (fun q => kf ?_)
    · unfold xi_cd at h; dsimp only at h; rw [if_neg (Int32.not_lt.mpr q)] at h; exact h
    · unfold xi_cd at h; dsimp only at h; rw [if_pos (xi_nle.mp q)] at h; exact h
theorem xi_sd_if2a {nL t : Nat} {cn : Jvm.ClassFile.Cond} {y z : Int32} {r : List Value} (hC : CallFix p m c (mC k) (mL k) s args (mW k) (mO k)) (hct : ∀ (pc : Nat) (L : xi_L) (st : List Value) (aw : xi_W), ct pc L st aw = some x → xi_G p l e R s m args below meth c D ad ca A Q N nL x pc L st aw) (hr : ∃ off : Int, decode (mC k) pc = .ok (.if_icmp cn off, 3) ∧ (pc : Int) + off = (t : Int)) (h : xi_cd cn y z (ct t L r aw) (ct (pc + 3) L r aw) = some x) : xi_G p l e R s m args below meth c D ad ca A Q N nL x pc L (.int z :: .int y :: r) aw := by
  obtain ⟨off, hd, ht⟩ := hr
  intro H locs ls hl hP hD hS hN
  have kt := fun h1 => hct t L r aw h1 H locs ls hl hP hD hS hN
  have kf := fun h1 => hct (pc + 3) L r aw h1 H locs ls hl hP hD hS hN
  cases cn with
  | eq =>
    refine lv_icmp_eq hC.1 hC.2.1 hd ht (fun q => kt ?_) (fun q => kf ?_)
    · unfold xi_cd at h; dsimp only at h; rw [if_pos q] at h; exact h
    · unfold xi_cd at h; dsimp only at h; rw [if_neg q] at h; exact h
  | ne =>
    refine lv_icmp_ne hC.1 hC.2.1 hd ht (fun q => kt ?_) (fun q => kf ?_)
    · unfold xi_cd at h; dsimp only at h; rw [if_neg q] at h; exact h
    · unfold xi_cd at h; dsimp only at h; rw [if_pos q] at h; exact h
  | lt =>
    refine lv_icmp_lt hC.1 hC.2.1 hd ht (fun q => kt ?_) (fun q => kf ?_)
    · unfold xi_cd at h; dsimp only at h; rw [if_pos q] at h; exact h
    · unfold xi_cd at h; dsimp only at h; rw [if_neg q] at h; exact h
  | ge =>
    refine lv_icmp_ge hC.1 hC.2.1 hd ht (fun q => kt ?_) (fun q => kf ?_)
    · unfold xi_cd at h; dsimp only at h; rw [if_neg (Int32.not_lt.mpr q)] at h; exact h
    · unfold xi_cd at h; dsimp only at h; rw [if_pos (xi_nle.mp q)] at h; exact h
  | gt =>
    refine lv_icmp_gt hC.1 hC.2.1 hd ht (fun q => kt ?_) (fun q => kf ?_)
    · unfold xi_cd at h; dsimp only at h; rw [if_pos q] at h; exact h
    · unfold xi_cd at h; dsimp only at h; rw [if_neg q] at h; exact h
  | le =>
    refine lv_icmp_le hC.1 hC.2.1 hd ht (fun q => kt ?_) (fun q => kf ?_)
    · unfold xi_cd at h; dsimp only at h; rw [if_neg (Int32.not_lt.mpr q)] at h; exact h
    · unfold xi_cd at h; dsimp only at h; rw [if_pos (xi_nle.mp q)] at h; exact h
theorem xi_sd_i0 {nL t : Nat} {cn : Jvm.ClassFile.Cond} (hC : CallFix p m c (mC k) (mL k) s args (mW k) (mO k)) (hct : ∀ (pc : Nat) (L : xi_L) (st : List Value) (aw : xi_W), ct pc L st aw = some x → xi_G p l e R s m args below meth c D ad ca A Q N nL x pc L st aw) (hr : ∃ off : Int, decode (mC k) pc = .ok (.ifCond cn off, 3) ∧ (pc : Int) + off = (t : Int)) (h : xi_i0 ct cn t pc L st aw = some x) : xi_G p l e R s m args below meth c D ad ca A Q N nL x pc L st aw := by
  unfold xi_i0 at h
  split at h
  · exact xi_sd_if0a hC hct hr h
  · cases h
theorem xi_sd_i2 {nL t : Nat} {cn : Jvm.ClassFile.Cond} (hC : CallFix p m c (mC k) (mL k) s args (mW k) (mO k)) (hct : ∀ (pc : Nat) (L : xi_L) (st : List Value) (aw : xi_W), ct pc L st aw = some x → xi_G p l e R s m args below meth c D ad ca A Q N nL x pc L st aw) (hr : ∃ off : Int, decode (mC k) pc = .ok (.if_icmp cn off, 3) ∧ (pc : Int) + off = (t : Int)) (h : xi_i2 ct cn t pc L st aw = some x) : xi_G p l e R s m args below meth c D ad ca A Q N nL x pc L st aw := by
  unfold xi_i2 at h
  split at h
  · exact xi_sd_if2a hC hct hr h
  · cases h
theorem xi_sw_eq (y : Int32) (kk : Int → Option xi_R) : ∀ (ps : List (Int × Int)) (d : Int), xi_sw y kk ps d = kk (xi_swt y ps d)
  | [], _ => rfl
  | (a, t) :: r, d => by
    unfold xi_sw xi_swt
    by_cases h : y.toInt = a
    · rw [if_pos h, if_pos h]
    · rw [if_neg h, if_neg h]
      exact xi_sw_eq y kk r d
theorem xi_sd_sw {nL : Nat} {ps : List (Int × Int)} {d : Int} (hC : CallFix p m c (mC k) (mL k) s args (mW k) (mO k)) (hct : ∀ (pc : Nat) (L : xi_L) (st : List Value) (aw : xi_W), ct pc L st aw = some x → xi_G p l e R s m args below meth c D ad ca A Q N nL x pc L st aw) (hr : xi_Rw k pc ps d) (h : xi_sx ct ps d L st aw = some x) : xi_G p l e R s m args below meth c D ad ca A Q N nL x pc L st aw := by
  unfold xi_sx at h
  split at h
  case h_2 => cases h
  rename_i y r
  rw [xi_sw_eq] at h
  have hg := hct _ _ _ _ h
  exact fun H locs ls hl hP hD hS hN => hr p l e R s m args below meth c H locs Q ls _ y hC (hg H locs ls hl hP hD hS hN)
theorem xi_sd_gf {nL ci j : Nat} (hC : CallFix p m c (mC k) (mL k) s args (mW k) (mO k)) (hK : va_K D vwCl (xi_tyL ca) s) (hct : ∀ (pc : Nat) (L : xi_L) (st : List Value) (aw : xi_W), ct pc L st aw = some x → xi_G p l e R s m args below meth c D ad ca A Q N nL x pc L st aw) (hr : xi_Rf k pc ci j) (h : xi_gf ct ci j pc L st aw = some x) : xi_G p l e R s m args below meth c D ad ca A Q N nL x pc L st aw := by
  unfold xi_gf at h
  split at h
  · rename_i r rest
    split at h
    · rename_i o ho
      split at h
      · rename_i hc
        split at h
        · rename_i w hw
          have hg := hct _ _ _ _ h
          intro H locs ls hl hP hD hS hN
          have ho' := xi_rl_obj (ad := ad) (ca := ca) ho
          rw [Nat.eq_of_beq_eq_true hc] at ho'
          exact hr p l e R s m args below meth c H locs Q ls _ D (xi_tyL ca) (xi_rl ad ca aw) r (ad r) (o.2.map (xi_mp ad)) (xi_mp ad w) hC hK hP ho' (by rw [List.getElem?_map, hw]; rfl) (hg H locs ls hl hP hD hS hN)
        · cases h
      · cases h
    · cases h
  · cases h
theorem xi_sd_pf {nL ci j : Nat} {b : Bool} (hC : CallFix p m c (mC k) (mL k) s args (mW k) (mO k)) (hK : va_K D vwCl (xi_tyL ca) s) (hct : ∀ (pc : Nat) (L : xi_L) (st : List Value) (aw : xi_W), ct pc L st aw = some x → xi_G p l e R s m args below meth c D ad ca A Q N nL x pc L st aw) (hr : xi_Rp b k pc ci j) (hbb : b = true → ∀ y r, st = .int y :: r → y = 0 ∨ y = 1) (h : xi_pf ct ci j pc L st aw = some x) : xi_G p l e R s m args below meth c D ad ca A Q N nL x pc L st aw := by
  unfold xi_pf at h
  split at h
  · rename_i y r rest
    split at h
    · rename_i o ho
      split at h
      · rename_i hc
        split at h
        · rename_i hlt
          have hg := hct _ _ _ _ h
          intro H locs ls hl hP hD hS hN
          have ho' := xi_rl_obj (ad := ad) (ca := ca) ho
          have hce := Nat.eq_of_beq_eq_true hc
          have e1 : xi_rl ad ca (aw.set r (.inr (o.1, o.2.set j (.int y)))) = (xi_rl ad ca aw).set r (ad r, .inr (ci, (o.2.map (xi_mp ad)).set j (.int y))) := by
            rw [xi_rl_set, ← hce]
            show (xi_rl ad ca aw).set r (ad r, .inr (o.1, (o.2.set j (.int y)).map (xi_mp ad))) = _
            rw [List.map_set]
            rfl
          rw [hce] at ho'
          refine hr p l e R s m args below meth c H locs Q ls _ D (xi_tyL ca) (xi_rl ad ca aw) A s.heap r (ad r) (o.2.map (xi_mp ad)) y (fun hb => hbb hb y _ rfl) hC hK hP hD hS ho' ?_ (fun H1 locs1 hP1 hD1 hS1 => ?_)
          · have : j < o.2.length := Nat.le_of_ble_eq_true hlt
            rw [List.length_map]
            exact this
          · rw [← e1] at hP1 hD1
            exact hg H1 locs1 ls hl hP1 hD1 hS1 (by rw [List.length_set]; exact hN)
        · cases h
      · cases h
    · cases h
  · cases h
theorem xi_sd_pb {nL ci j : Nat} (hC : CallFix p m c (mC k) (mL k) s args (mW k) (mO k)) (hK : va_K D vwCl (xi_tyL ca) s) (hct : ∀ (pc : Nat) (L : xi_L) (st : List Value) (aw : xi_W), ct pc L st aw = some x → xi_G p l e R s m args below meth c D ad ca A Q N nL x pc L st aw) (hr : xi_Rp true k pc ci j) (h : xi_pb ct ci j pc L st aw = some x) : xi_G p l e R s m args below meth c D ad ca A Q N nL x pc L st aw := by
  unfold xi_pb at h
  split at h
  · rename_i y r
    split at h
    · rename_i hy
      refine xi_sd_pf hC hK hct hr (fun _ y' r' e => ?_) h
      cases e
      exact hy
    · cases h
  · cases h
theorem xi_in_of {y : Int32} {n : Nat} (h : 0 ≤ y.toInt ∧ y.toInt < (n : Int)) : vp_in y n := vp_in_iff.mpr h
theorem xi_sd_al {nL ty : Nat} (hC : CallFix p m c (mC k) (mL k) s args (mW k) (mO k)) (hK : va_K D vwCl (xi_tyL ca) s) (hZ : xi_Z ad A s) (hct : ∀ (pc : Nat) (L : xi_L) (st : List Value) (aw : xi_W), ct pc L st aw = some x → xi_G p l e R s m args below meth c D ad ca A Q N nL x pc L st aw) (hd : ty = 1 ∧ decode (mC k) pc = .ok (.iaload, 1) ∨ ty = 2 ∧ decode (mC k) pc = .ok (.baload, 1) ∨ ty = 3 ∧ decode (mC k) pc = .ok (.caload, 1)) (h : xi_al ct ty pc L st aw = some x) : xi_G p l e R s m args below meth c D ad ca A Q N nL x pc L st aw := by
  unfold xi_al at h
  split at h
  · rename_i y r rest
    split at h
    · rename_i q hq
      split at h
      · rename_i h1
        split at h
        · rename_i hin
          have hg := hct _ _ _ _ h
          intro H locs ls hl hP hD hS hN
          rcases hd with ⟨-, hd⟩ | ⟨h2, -⟩ | ⟨h2, -⟩
          · exact va_ti hC.1 hC.2.1 (xi_Z.tab hZ hq) hS (xi_in_of hin) rfl hd (hg H locs ls hl hP hD hS hN)
          · subst h2; cases h1
          · subst h2; cases h1
        · cases h
      · cases h
    · split at h
      · rename_i n f hf
        split at h
        · rename_i hty
          split at h
          · rename_i hin
            have hg := hct _ _ _ _ h
            intro H locs ls hl hP hD hS hN
            have ha := xi_rl_arr (ad := ad) (ca := ca) hf
            have htn := Nat.eq_of_beq_eq_true hty
            rcases hd with ⟨rfl, hd⟩ | ⟨rfl, hd⟩ | ⟨rfl, hd⟩
            · obtain ⟨t0, ht⟩ := xi_ty1 ca htn
              exact va_iald hC.1 hC.2.1 hK hP r t0 ha ht (xi_in_of hin) hd (hg H locs ls hl hP hD hS hN)
            · obtain ⟨t0, ht⟩ := xi_ty2 ca htn
              exact va_zald hC.1 hC.2.1 hK hP r t0 ha ht (xi_in_of hin) hd (hg H locs ls hl hP hD hS hN)
            · obtain ⟨t0, ht⟩ := xi_ty3 ca htn
              exact va_cald hC.1 hC.2.1 hK hP r t0 ha ht (xi_in_of hin) hd (hg H locs ls hl hP hD hS hN)
          · cases h
        · cases h
      · cases h
  · cases h
theorem xi_sd_ll {nL : Nat} (hC : CallFix p m c (mC k) (mL k) s args (mW k) (mO k)) (hK : va_K D vwCl (xi_tyL ca) s) (hct : ∀ (pc : Nat) (L : xi_L) (st : List Value) (aw : xi_W), ct pc L st aw = some x → xi_G p l e R s m args below meth c D ad ca A Q N nL x pc L st aw) (hd : decode (mC k) pc = .ok (.laload, 1)) (h : xi_ll ct pc L st aw = some x) : xi_G p l e R s m args below meth c D ad ca A Q N nL x pc L st aw := by
  unfold xi_ll at h
  split at h
  · rename_i y r rest
    split at h
    · rename_i n f hf
      split at h
      · rename_i hty
        split at h
        · rename_i hin
          have hg := hct _ _ _ _ h
          intro H locs ls hl hP hD hS hN
          have ha := xi_rl_arr (ad := ad) (ca := ca) hf
          obtain ⟨t0, ht⟩ := xi_ty4 ca (Nat.eq_of_beq_eq_true hty)
          exact va_lald hC.1 hC.2.1 hK hP r t0 ha ht (xi_in_of hin) hd (hg H locs ls hl hP hD hS hN)
        · cases h
      · cases h
    · cases h
  · cases h
theorem xi_sd_at {nL ty : Nat} (hC : CallFix p m c (mC k) (mL k) s args (mW k) (mO k)) (hK : va_K D vwCl (xi_tyL ca) s) (hct : ∀ (pc : Nat) (L : xi_L) (st : List Value) (aw : xi_W), ct pc L st aw = some x → xi_G p l e R s m args below meth c D ad ca A Q N nL x pc L st aw) (hd : ty = 1 ∧ decode (mC k) pc = .ok (.iastore, 1) ∨ ty = 2 ∧ decode (mC k) pc = .ok (.bastore, 1) ∨ ty = 3 ∧ decode (mC k) pc = .ok (.castore, 1)) (h : xi_at ct ty pc L st aw = some x) : xi_G p l e R s m args below meth c D ad ca A Q N nL x pc L st aw := by
  unfold xi_at at h
  split at h
  · rename_i z y r rest
    split at h
    · rename_i n f hf
      split at h
      · rename_i hty
        split at h
        · rename_i hin
          have hg := hct _ _ _ _ h
          intro H locs ls hl hP hD hS hN
          have ha := xi_rl_arr (ad := ad) (ca := ca) hf
          have htn := Nat.eq_of_beq_eq_true hty
          have e1 : xi_rl ad ca (aw.set r (.inl (n, .inl (upd f y.toNatClampNeg (xi_nr ty z))))) = (xi_rl ad ca aw).set r (ad r, .inl (ca r, n, .inl (upd f y.toNatClampNeg (xi_nr ty z)))) := xi_rl_set _ _ _ _ _
          have hk : ∀ (H1 : Heap) (locs1 : List Loc), va_P D vwCl ((xi_rl ad ca aw).set r (ad r, .inl (ca r, n, .inl (upd f y.toNatClampNeg (xi_nr ty z))))) H1 → va_D A ((xi_rl ad ca aw).set r (ad r, .inl (ca r, n, .inl (upd f y.toNatClampNeg (xi_nr ty z))))) → va_S A s.heap H1 locs1 → W p l e R s m args below meth c H1 locs1 0 0 Q (F0 m (pc + 1) ls (rest.map (xi_mp ad))) := by
            intro H1 locs1 hP1 hD1 hS1
            rw [← e1] at hP1 hD1
            exact hg H1 locs1 ls hl hP1 hD1 hS1 (by rw [List.length_set]; exact hN)
          rcases hd with ⟨rfl, hd⟩ | ⟨rfl, hd⟩ | ⟨rfl, hd⟩
          · obtain ⟨t0, ht⟩ := xi_ty1 ca htn
            exact va_iast hC.1 hC.2.1 hK hP hD hS r t0 ha ht (xi_in_of hin) hd hk
          · obtain ⟨t0, ht⟩ := xi_ty2 ca htn
            exact va_zast hC.1 hC.2.1 hK hP hD hS r t0 ha ht (xi_in_of hin) hd hk
          · obtain ⟨t0, ht⟩ := xi_ty3 ca htn
            exact va_cast hC.1 hC.2.1 hK hP hD hS r t0 ha ht (xi_in_of hin) hd hk
        · cases h
      · cases h
    · cases h
  · cases h
theorem xi_sd_lt {nL : Nat} (hC : CallFix p m c (mC k) (mL k) s args (mW k) (mO k)) (hK : va_K D vwCl (xi_tyL ca) s) (hct : ∀ (pc : Nat) (L : xi_L) (st : List Value) (aw : xi_W), ct pc L st aw = some x → xi_G p l e R s m args below meth c D ad ca A Q N nL x pc L st aw) (hd : decode (mC k) pc = .ok (.lastore, 1)) (h : xi_lt ct pc L st aw = some x) : xi_G p l e R s m args below meth c D ad ca A Q N nL x pc L st aw := by
  unfold xi_lt at h
  split at h
  · rename_i z y r rest
    split at h
    · rename_i n f hf
      split at h
      · rename_i hty
        split at h
        · rename_i hin
          have hg := hct _ _ _ _ h
          intro H locs ls hl hP hD hS hN
          have ha := xi_rl_arr (ad := ad) (ca := ca) hf
          have e1 : xi_rl ad ca (aw.set r (.inl (n, .inr (.inl (vp_updL f y.toNatClampNeg z))))) = (xi_rl ad ca aw).set r (ad r, .inl (ca r, n, .inr (.inl (vp_updL f y.toNatClampNeg z)))) := xi_rl_set _ _ _ _ _
          obtain ⟨t0, ht⟩ := xi_ty4 ca (Nat.eq_of_beq_eq_true hty)
          refine va_last hC.1 hC.2.1 hK hP hD hS r t0 ha ht (xi_in_of hin) hd (fun H1 locs1 hP1 hD1 hS1 => ?_)
          rw [← e1] at hP1 hD1
          exact hg H1 locs1 ls hl hP1 hD1 hS1 (by rw [List.length_set]; exact hN)
        · cases h
      · cases h
    · cases h
  · cases h
theorem xi_sd_dv {nL : Nat} (hC : CallFix p m c (mC k) (mL k) s args (mW k) (mO k)) (hct : ∀ (pc : Nat) (L : xi_L) (st : List Value) (aw : xi_W), ct pc L st aw = some x → xi_G p l e R s m args below meth c D ad ca A Q N nL x pc L st aw) (hd : decode (mC k) pc = .ok (.idiv, 1)) (h : xi_dv ct pc L st aw = some x) : xi_G p l e R s m args below meth c D ad ca A Q N nL x pc L st aw := by
  unfold xi_dv at h
  split at h
  · rename_i z y rest
    split at h
    · cases h
    · rename_i hz
      have hg := hct _ _ _ _ h
      exact fun H locs ls hl hP hD hS hN => lv_idiv hC.1 hC.2.1 hd hz (hg H locs ls hl hP hD hS hN)
  · cases h
theorem xi_sd_mm (hC : CallFix p m c (mC k) (mL k) s args (mW k) (mO k)) (h1 : 1 ≤ R.frames) (h64 : 64 ≤ R.locals) (hct : ∀ (pc : Nat) (L : xi_L) (st : List Value) (aw : xi_W), ct pc L st aw = some x → xi_G p l e R s m args below meth c D ad ca A Q N (mL k) x pc L st aw) (hr : xi_R0 k pc) (h : xi_mm ct pc L st aw = some x) : xi_G p l e R s m args below meth c D ad ca A Q N (mL k) x pc L st aw := by
  unfold xi_mm at h
  split at h
  · rename_i z y rest
    split at h
    · rename_i hcm
      have hg := hct _ _ _ _ h
      exact fun H locs ls hl hP hD hS hN => hr p l e R s m args below meth c H locs Q ls (rest.map (xi_mp ad)) y z hC hl.1 h1 h64 (by rw [xi_cm_mp]; exact Nat.le_of_ble_eq_true hcm) (hg H locs ls hl hP hD hS hN)
    · cases h
  · cases h
theorem xi_sd_ml (hC : CallFix p m c (mC k) (mL k) s args (mW k) (mO k)) (h1 : 1 ≤ R.frames) (h64 : 64 ≤ R.locals) (hct : ∀ (pc : Nat) (L : xi_L) (st : List Value) (aw : xi_W), ct pc L st aw = some x → xi_G p l e R s m args below meth c D ad ca A Q N (mL k) x pc L st aw) (hr : xi_Ra k pc) (h : xi_ml ct pc L st aw = some x) : xi_G p l e R s m args below meth c D ad ca A Q N (mL k) x pc L st aw := by
  unfold xi_ml at h
  split at h
  · rename_i z y rest
    split at h
    · rename_i hcm
      have hg := hct _ _ _ _ h
      exact fun H locs ls hl hP hD hS hN => hr p l e R s m args below meth c H locs Q ls (rest.map (xi_mp ad)) y z hC hl.1 h1 h64 (by rw [xi_cm_mp]; exact Nat.le_of_ble_eq_true hcm) (hg H locs ls hl hP hD hS hN)
    · cases h
  · cases h
theorem xi_sd_nl (hC : CallFix p m c (mC k) (mL k) s args (mW k) (mO k)) (h1 : 1 ≤ R.frames) (h64 : 64 ≤ R.locals) (hct : ∀ (pc : Nat) (L : xi_L) (st : List Value) (aw : xi_W), ct pc L st aw = some x → xi_G p l e R s m args below meth c D ad ca A Q N (mL k) x pc L st aw) (hr : xi_Rb k pc) (h : xi_nl ct pc L st aw = some x) : xi_G p l e R s m args below meth c D ad ca A Q N (mL k) x pc L st aw := by
  unfold xi_nl at h
  split at h
  · rename_i z y rest
    split at h
    · rename_i hcm
      have hg := hct _ _ _ _ h
      exact fun H locs ls hl hP hD hS hN => hr p l e R s m args below meth c H locs Q ls (rest.map (xi_mp ad)) y z hC hl.1 h1 h64 (by rw [xi_cm_mp]; exact Nat.le_of_ble_eq_true hcm) (hg H locs ls hl hP hD hS hN)
    · cases h
  · cases h
theorem xi_sd_cy (hC : CallFix p m c (mC k) (mL k) s args (mW k) (mO k)) (h1 : 1 ≤ R.frames) (h64 : 64 ≤ R.locals) (hK : va_K D vwCl (xi_tyL ca) s) (hct : ∀ (pc : Nat) (L : xi_L) (st : List Value) (aw : xi_W), ct pc L st aw = some x → xi_G p l e R s m args below meth c D ad ca A Q N (mL k) x pc L st aw) (hr : xi_Ry k pc) (h : xi_cy ct pc L st aw = some x) : xi_G p l e R s m args below meth c D ad ca A Q N (mL k) x pc L st aw := by
  unfold xi_cy at h
  split at h
  · rename_i n dp a sp b rest
    split at h
    · rename_i n0 f hf
      split at h
      · rename_i n1 g hg1
        split at h
        · rename_i hta
          split at h
          · rename_i htb
            split at h
            · rename_i hcm
              split at h
              · rename_i hin
                obtain ⟨q1, q2, q3, q4, q5⟩ := hin
                have hg := hct _ _ _ _ h
                intro H locs ls hl hP hD hS hN
                have e1 : xi_rl ad ca (aw.set a (.inl (n1, .inl (va_cpy f g sp.toNatClampNeg dp.toNatClampNeg n.toNatClampNeg)))) = (xi_rl ad ca aw).set a (ad a, .inl (ca a, n1, .inl (va_cpy f g sp.toNatClampNeg dp.toNatClampNeg n.toNatClampNeg))) := xi_rl_set _ _ _ _ _
                obtain ⟨t0, ht0⟩ := xi_ty1 ca (Nat.eq_of_beq_eq_true htb)
                obtain ⟨t1, ht1⟩ := xi_ty1 ca (Nat.eq_of_beq_eq_true hta)
                refine hr p l e R s m args below meth c H locs Q ls (rest.map (xi_mp ad)) D (xi_tyL ca) (xi_rl ad ca aw) A s.heap b a t0 t1 (ad b) (ad a) (ca b) (ca a) n0 n1 f g sp dp n hC hl.1 h1 h64 (by rw [xi_cm_mp]; exact Nat.le_of_ble_eq_true hcm) hK hP hD hS (xi_rl_arr hf) (xi_rl_arr hg1) ht0 ht1 q1 q2 q3 q4 q5 (fun H1 locs1 hP1 hD1 hS1 => ?_)
                rw [← e1] at hP1 hD1
                exact hg H1 locs1 ls hl hP1 hD1 hS1 (by rw [List.length_set]; exact hN)
              · cases h
            · cases h
          · cases h
        · cases h
      · cases h
    · cases h
  · cases h
theorem xi_toL (ad : Nat → Nat) (v : Option Value) (r : List Value) : (v.toList ++ r).map (xi_mp ad) = (v.map (xi_mp ad)).toList ++ r.map (xi_mp ad) := by cases v <;> rfl
theorem xi_S_call {A B : Nat → Prop} {H0 H H1 : Heap} {L1 : List Loc} (hS : va_S A H0 H locs) (hz : H.size ≤ H1.size) (hk : ∀ q : Nat, q < H.size → ¬ B q → H1[q]? = H[q]?) (hB : ∀ q, B q → A q) (hL : ∀ q ∈ L1, B q.base) : va_S A H0 H1 (locs ++ L1) :=
  ⟨Nat.le_trans hS.1 hz, fun q h1 h2 => by rw [hk q (Nat.lt_of_lt_of_le h1 hS.1) (fun z => h2 (hB q z))]; exact hS.2.1 q h1 h2, fun q hq => by
    rcases List.mem_append.mp hq with h | h
    · exact hS.2.2 q h
    · exact hB _ (hL q h)⟩
theorem xi_A_sub (hA : ∀ q : Nat, s.heap.size ≤ q → A q) (hD : va_D A (xi_rl ad ca aw)) (hS : va_S A s.heap H locs) : ∀ q, va_A (xi_rl ad ca aw) H.size q → A q := by
  intro q h
  rcases h with ⟨k, e, h⟩ | h
  · exact hD.2 k _ h
  · exact hA q (Nat.le_trans hS.1 h)
theorem xi_sd_iv {d k' ci n : Nat} (hC : CallFix p m c (mC k) (mL k) s args (mW k) (mO k)) (hK : va_K D vwCl (xi_tyL ca) s) (hZ : xi_Z ad A s) (hA : ∀ q : Nat, s.heap.size ≤ q → A q) (h1 : R.frames = d + 1) (h64 : R.locals = 64 * (d + 1)) (hcal : ∀ (k : Nat) (vs : List Value) (aw : xi_W) (y : xi_R), cal k vs aw = some y → xi_Con l d k vs aw y)
    (hct : ∀ (pc : Nat) (L : xi_L) (st : List Value) (aw : xi_W), ct pc L st aw = some x → xi_G p l e R s m args below meth c D ad ca A Q N (mL k) x pc L st aw) (hr : xi_Rv k pc k' ci n) (h : xi_iv cal ct k' ci n pc L st aw = some x) : xi_G p l e R s m args below meth c D ad ca A Q N (mL k) x pc L st aw := by
  unfold xi_iv at h
  split at h
  case h_2 => cases h
  rename_i hn
  split at h
  case h_2 => cases h
  rename_i hcm
  split at h
  case h_2 => cases h
  rename_i b As hAs
  split at h
  case h_2 => cases h
  rename_i o ho
  split at h
  case h_2 => cases h
  rename_i hci
  unfold xi_bd at h
  split at h
  case h_2 => cases h
  rename_i y hy
  have hg := hct _ _ _ _ h
  have con := hcal _ _ _ _ hy
  obtain ⟨hmL, ⟨cq, hcq, hco⟩, hrun⟩ := hr
  have hst : st = As.reverse ++ .ref b :: st.drop n := by
    have e1 : st.take n = As.reverse ++ [.ref b] := by
      have := congrArg List.reverse hAs
      rw [List.reverse_reverse, List.reverse_cons] at this
      exact this
    have e2 := (List.take_append_drop n st).symm
    rw [e1, List.append_assoc] at e2
    exact e2
  have hlen : As.length + 1 = n := by
    have := congrArg List.length hAs
    rw [List.length_reverse, List.length_take, List.length_cons] at this
    have := Nat.le_of_ble_eq_true hn
    omega
  intro H locs ls hl hP hD hS hN
  have hst2 : st.map (xi_mp ad) = (As.map (xi_mp ad)).reverse ++ .ref (ad b) :: (st.drop n).map (xi_mp ad) := by
    have := congrArg (List.map (xi_mp ad)) hst
    rw [List.map_append, List.map_cons, List.map_reverse] at this
    exact this
  rw [hst2]
  have hAs' := xi_A_sub hA hD hS
  have ho' := xi_rl_obj (ad := ad) (ca := ca) ho
  rw [Nat.eq_of_beq_eq_true hci] at ho'
  have hrec := va_recv hK hP hcq ho'
  rw [hco] at hrec
  have hpre : PreV s H (mO k') (ad b) (xi_Pc D ad ca (.ref b :: As) aw H.size) (As.map (xi_mp ad)) :=
    ⟨xi_blind _ _ _ _ _ _, hrec, fun U hU hW => ⟨rfl, by rw [hU], by rw [hU]; exact hP, va_K.moved hW.alike hK, hD.weaken (fun _ _ _ _ => trivial), xi_Z.at hZ hS hAs' hU hW⟩⟩
  have hR := hrun p l e R s m args below meth c H locs Q ls ((st.drop n).map (xi_mp ad)) (xi_rm d) _ _ _ (ad b) (As.map (xi_mp ad)) hC (con D ad ca H.size) rfl rfl (by rw [h1]; exact Nat.le_refl _) (by rw [h64]; show 8 + (mL k' + 11) + 64 * d ≤ 64 * (d + 1); omega) hpre (by rw [List.length_map]; exact hlen) hl.1 (by rw [xi_cm_mp]; exact Nat.le_of_ble_eq_true hcm)
  intro T hT X
  obtain ⟨v, st₀, t, T', L1, h0, X', hL, e1, e2, ⟨⟨hv, hyl, hP1⟩, hz, hk⟩, stp⟩ := hR T hT X
  cases hv
  rw [h0] at hz hk
  have hg2 := hg T'.heap (locs ++ L1) ls hl (by rw [e1]; exact hP1) (xi_D_len hyl hD) (xi_S_call hS (by rw [e1]; exact hz) (fun q a b => by rw [e1]; exact hk q a b) hAs' hL) (hyl.trans hN)
  rw [xi_toL] at hg2
  obtain ⟨t2, a1, b1⟩ := hg2 T' rfl X'
  exact ⟨t2, stp t2 a1, b1⟩
theorem xi_sd_is {d k' n : Nat} (hC : CallFix p m c (mC k) (mL k) s args (mW k) (mO k)) (hK : va_K D vwCl (xi_tyL ca) s) (hZ : xi_Z ad A s) (hA : ∀ q : Nat, s.heap.size ≤ q → A q) (h1 : R.frames = d + 1) (h64 : R.locals = 64 * (d + 1)) (hcal : ∀ (k : Nat) (vs : List Value) (aw : xi_W) (y : xi_R), cal k vs aw = some y → xi_Con l d k vs aw y)
    (hct : ∀ (pc : Nat) (L : xi_L) (st : List Value) (aw : xi_W), ct pc L st aw = some x → xi_G p l e R s m args below meth c D ad ca A Q N (mL k) x pc L st aw) (hr : xi_Rs k pc k' n) (h : xi_is cal ct k' n pc L st aw = some x) : xi_G p l e R s m args below meth c D ad ca A Q N (mL k) x pc L st aw := by
  unfold xi_is at h
  split at h
  case h_2 => cases h
  rename_i hn
  split at h
  case h_2 => cases h
  rename_i hcm
  unfold xi_bd at h
  split at h
  case h_2 => cases h
  rename_i y hy
  have hg := hct _ _ _ _ h
  have con := hcal _ _ _ _ hy
  obtain ⟨hmL, hrun⟩ := hr
  have hlen : (st.take n).reverse.length = n := by
    rw [List.length_reverse, List.length_take]
    have := Nat.le_of_ble_eq_true hn
    omega
  generalize hAs : (st.take n).reverse = As at con hlen hy
  have hst : st = As.reverse ++ st.drop n := by
    rw [← hAs, List.reverse_reverse, List.take_append_drop]
  intro H locs ls hl hP hD hS hN
  have hst2 : st.map (xi_mp ad) = (As.map (xi_mp ad)).reverse ++ (st.drop n).map (xi_mp ad) := by
    have := congrArg (List.map (xi_mp ad)) hst
    rw [List.map_append, List.map_reverse] at this
    exact this
  rw [hst2]
  have hAs' := xi_A_sub hA hD hS
  have hpre : PreS s H (xi_Pc D ad ca As aw H.size) (As.map (xi_mp ad)) :=
    ⟨xi_blind _ _ _ _ _ _, fun U hU hW => ⟨rfl, by rw [hU], by rw [hU]; exact hP, va_K.moved hW.alike hK, hD.weaken (fun _ _ _ _ => trivial), xi_Z.at hZ hS hAs' hU hW⟩⟩
  have hR := hrun p l e R s m args below meth c H locs Q ls ((st.drop n).map (xi_mp ad)) (xi_rm d) _ _ _ (As.map (xi_mp ad)) hC (con D ad ca H.size) rfl rfl (by rw [h1]; exact Nat.le_refl _) (by rw [h64]; show 8 + (mL k' + 11) + 64 * d ≤ 64 * (d + 1); omega) hpre (by rw [List.length_map]; exact hlen) hl.1 (by rw [xi_cm_mp]; exact Nat.le_of_ble_eq_true hcm)
  intro T hT X
  obtain ⟨v, st₀, t, T', L1, h0, X', hL, e1, e2, ⟨⟨hv, hyl, hP1⟩, hz, hk⟩, stp⟩ := hR T hT X
  cases hv
  rw [h0] at hz hk
  have hg2 := hg T'.heap (locs ++ L1) ls hl (by rw [e1]; exact hP1) (xi_D_len hyl hD) (xi_S_call hS (by rw [e1]; exact hz) (fun q a b => by rw [e1]; exact hk q a b) hAs' hL) (hyl.trans hN)
  rw [xi_toL] at hg2
  obtain ⟨t2, a1, b1⟩ := hg2 T' rfl X'
  exact ⟨t2, stp t2 a1, b1⟩
theorem xi_nb {y : Int32} (h : y = 0 ∨ y = 1) : narrow .boolean (.int y) = .int y := by
  rcases h with rfl | rfl <;> rfl
theorem xi_nc {y : Int32} (h : 0 ≤ y.toInt ∧ y.toInt < 65536) : narrow .char (.int y) = .int y := by
  obtain ⟨j, hj, rfl⟩ := vp_in_of (n := 65536) (xi_in_of h) (by decide)
  exact (pk_charN hj).1
theorem xi_sd_rt {kd : Nat} {Qc : Array Value → State → Outcome → State → Prop} (hC : CallFix p m c (mC k) (mL k) s args (mW k) (mO k)) (hlk : meth.locks = false) (hmr : meth.sig.returnType = mR k)
    (hq : ∀ (H : Heap) (locs : List Loc) (t : State), x.2.length = N → va_P D vwCl (xi_rl ad ca x.2) H → va_S A s.heap H locs → t.heap = H → s.WarmedH t.vm → Qc args s (.returned (x.1.map (xi_mp ad))) t)
    (hd : decode (mC k) pc = .ok (.ireturn, 1) ∧ mR k = xi_rk kd) (h : xi_rt kd st aw = some x) : xi_G p l e R s m args below meth c D ad ca A (MQ below Qc args s 0 0 A) N (mL k) x pc L st aw := by
  obtain ⟨hd, hk⟩ := hd
  unfold xi_rt at h
  split at h
  · rename_i y
    split at h
    · cases h
      intro H locs ls hl hP hD hS hN
      exact W.iret hC.1 hC.2.1 (hmr.trans hk) (fun t ht hW => hq H locs t hN hP hS ht hW) hS.2.2 hd
    · split at h
      · rename_i hy
        cases h
        intro H locs ls hl hP hD hS hN
        exact W.zret hC.1 hC.2.1 (hmr.trans hk) (xi_nb hy) (fun t ht hW => hq H locs t hN hP hS ht hW) hS.2.2 hd
      · cases h
    · split at h
      · rename_i hy
        cases h
        intro H locs ls hl hP hD hS hN
        exact W.zret hC.1 hC.2.1 (hmr.trans hk) (xi_nc hy) (fun t ht hW => hq H locs t hN hP hS ht hW) hS.2.2 hd
      · cases h
    · cases h
  · cases h
theorem xi_sd_rv {Qc : Array Value → State → Outcome → State → Prop} (hC : CallFix p m c (mC k) (mL k) s args (mW k) (mO k)) (hlk : meth.locks = false) (hmr : meth.sig.returnType = mR k)
    (hq : ∀ (H : Heap) (locs : List Loc) (t : State), x.2.length = N → va_P D vwCl (xi_rl ad ca x.2) H → va_S A s.heap H locs → t.heap = H → s.WarmedH t.vm → Qc args s (.returned (x.1.map (xi_mp ad))) t)
    (hd : decode (mC k) pc = .ok (.return_, 1) ∧ mR k = none) (h : xi_rv st aw = some x) : xi_G p l e R s m args below meth c D ad ca A (MQ below Qc args s 0 0 A) N (mL k) x pc L st aw := by
  obtain ⟨hd, hk⟩ := hd
  unfold xi_rv at h
  split at h
  · cases h
    intro H locs ls hl hP hD hS hN
    exact W.vret hC.1 hC.2.1 (hmr.trans hk) (fun t ht hW => hq H locs t hN hP hS ht hW) hS.2.2 hd
  · cases h
theorem xi_sd {d : Nat} {i : Jvm.ClassFile.Instr} {v : Value} {bs : List Bool} {Qc : Array Value → State → Outcome → State → Prop} (hC : CallFix p m c (mC k) (mL k) s args (mW k) (mO k)) (hlk : meth.locks = false) (hmr : meth.sig.returnType = mR k) (hK : va_K D vwCl (xi_tyL ca) s) (hZ : xi_Z ad A s) (hA : ∀ q : Nat, s.heap.size ≤ q → A q) (h1 : R.frames = d + 1) (h64 : R.locals = 64 * (d + 1)) (hcal : ∀ (k : Nat) (vs : List Value) (aw : xi_W) (y : xi_R), cal k vs aw = some y → xi_Con l d k vs aw y)
    (hq : ∀ (H : Heap) (locs : List Loc) (t : State), x.2.length = N → va_P D vwCl (xi_rl ad ca x.2) H → va_S A s.heap H locs → t.heap = H → s.WarmedH t.vm → Qc args s (.returned (x.1.map (xi_mp ad))) t)
    (hct : ∀ (pc : Nat) (L : xi_L) (st : List Value) (aw : xi_W), ct pc L st aw = some x → xi_G p l e R s m args below meth c D ad ca A (MQ below Qc args s 0 0 A) N (mL k) x pc L st aw)
    (hok : xi_ok k pc (i, v, bs)) (h : xi_in cal ct i v pc L st aw = some x) : xi_G p l e R s m args below meth c D ad ca A (MQ below Qc args s 0 0 A) N (mL k) x pc L st aw := by
  have hf1 : 1 ≤ R.frames := by omega
  have hf2 : 64 ≤ R.locals := by omega
  cases i with
  | ldc n =>
    have hg := hct _ _ _ _ h
    intro H locs ls hl hP hD hS hN
    have hg2 := hg H locs ls hl hP hD hS hN
    rw [List.map_cons, hok.1 ad] at hg2
    exact hok.2 p l e R s m args below meth c H locs _ ls _ hC hg2
  | iload j => exact xi_sd_ld hC hct hok h
  | lload j => exact xi_sd_ld hC hct hok h
  | aload j => exact xi_sd_ld hC hct hok h
  | istore j => exact xi_sd_s1 hC hct hok h
  | astore j => exact xi_sd_s1 hC hct hok h
  | lstore j => exact xi_sd_s2 hC hct hok h
  | iinc j z => exact xi_sd_ic hC hct hok h
  | ifCond cn z => exact xi_sd_i0 hC hct hok h
  | if_icmp cn z => exact xi_sd_i2 hC hct hok h
  | goto z =>
    obtain ⟨off, hd, ht⟩ := hok
    have hg := hct _ _ _ _ h
    exact fun H locs ls hl hP hD hS hN => lv_goto hC.1 hC.2.1 hd ht (hg H locs ls hl hP hD hS hN)
  | lookupswitch d ps => exact xi_sd_sw hC hct hok h
  | getfield ci => exact xi_sd_gf hC hK hct hok h
  | putfield ci => exact xi_sd_pf hC hK hct hok (fun hb => by cases hb) h
  | putstatic ci => exact xi_sd_pb hC hK hct hok h
  | getstatic r =>
    have hg := hct _ _ _ _ h
    exact fun H locs ls hl hP hD hS hN => hok p l e R s m args below meth c H locs _ ls _ ad A hC hZ hS (hg H locs ls hl hP hD hS hN)
  | iaload => exact xi_sd_al hC hK hZ hct (Or.inl ⟨rfl, hok⟩) h
  | baload => exact xi_sd_al hC hK hZ hct (Or.inr (Or.inl ⟨rfl, hok⟩)) h
  | caload => exact xi_sd_al hC hK hZ hct (Or.inr (Or.inr ⟨rfl, hok⟩)) h
  | laload => exact xi_sd_ll hC hK hct hok h
  | iastore => exact xi_sd_at hC hK hct (Or.inl ⟨rfl, hok⟩) h
  | bastore => exact xi_sd_at hC hK hct (Or.inr (Or.inl ⟨rfl, hok⟩)) h
  | castore => exact xi_sd_at hC hK hct (Or.inr (Or.inr ⟨rfl, hok⟩)) h
  | lastore => exact xi_sd_lt hC hK hct hok h
  | idiv => exact xi_sd_dv hC hct hok h
  | invokedynamic c =>
    match c, hok, h with
    | 0, hok, h => exact xi_sd_mm hC hf1 hf2 hct hok h
    | 1, hok, h => exact xi_sd_ml hC hf1 hf2 hct hok h
    | 2, hok, h => exact xi_sd_nl hC hf1 hf2 hct hok h
    | 3, hok, h => exact xi_sd_cy hC hf1 hf2 hK hct hok h
    | _ + 4, hok, h => exact xi_no (show (none : Option xi_R) = some x from h)
  | invokeinterface k' ci => exact xi_sd_iv hC hK hZ hA h1 h64 hcal hct hok h
  | invokestatic k' => exact xi_sd_is hC hK hZ hA h1 h64 hcal hct hok h
  | ireturn => exact xi_sd_rt hC hlk hmr hq hok h
  | return_ => exact xi_sd_rv hC hlk hmr hq hok h
  | _ => exact xi_sd_sop hC.1 hC.2.1 hct hok h
theorem xi_go_ok {d : Nat} {tb : List (Option xi_E)} {Qc : Array Value → State → Outcome → State → Prop} (hC : CallFix p m c (mC k) (mL k) s args (mW k) (mO k)) (hlk : meth.locks = false) (hmr : meth.sig.returnType = mR k) (hK : va_K D vwCl (xi_tyL ca) s) (hZ : xi_Z ad A s) (hA : ∀ q : Nat, s.heap.size ≤ q → A q) (h1 : R.frames = d + 1) (h64 : R.locals = 64 * (d + 1)) (hcal : ∀ (k : Nat) (vs : List Value) (aw : xi_W) (y : xi_R), cal k vs aw = some y → xi_Con l d k vs aw y)
    (hq : ∀ (H : Heap) (locs : List Loc) (t : State), x.2.length = N → va_P D vwCl (xi_rl ad ca x.2) H → va_S A s.heap H locs → t.heap = H → s.WarmedH t.vm → Qc args s (.returned (x.1.map (xi_mp ad))) t)
    (ht : ∀ (pc : Nat) (q : xi_E), tb[pc]? = some (some q) → xi_ok k pc q) : ∀ (n pc : Nat) (L : xi_L) (st : List Value) (aw : xi_W), xi_go cal tb n pc L st aw = some x → xi_G p l e R s m args below meth c D ad ca A (MQ below Qc args s 0 0 A) N (mL k) x pc L st aw := by
  intro n
  induction n with
  | zero => intro pc L st aw h; exact xi_no (show (none : Option xi_R) = some x from h)
  | succ n ih =>
    intro pc L st aw h
    rw [xi_go] at h
    dsimp only at h
    split at h
    · rename_i q hq2
      obtain ⟨i, v, bs⟩ := q
      have hg := xi_sd hC hlk hmr hK hZ hA h1 h64 hcal hq ih (ht pc _ hq2) h
      exact fun H locs ls hl hP hD hS hN => hg H locs ls (hl.mask _) hP hD hS hN
    · cases h
end XISTEP
/-- a method whose table is right: what the evaluator computes is a contract -/
theorem xi_met {l : Launch} {d k F : Nat} {cal : xi_F} {tb : List (Option xi_E)} {vs : List Value} {aw : xi_W} {x : xi_R} (hcal : ∀ (k : Nat) (vs : List Value) (aw : xi_W) (y : xi_R), cal k vs aw = some y → xi_Con l d k vs aw y)
    (ht : ∀ (pc : Nat) (q : xi_E), tb[pc]? = some (some q) → xi_ok k pc q) (hpl : plainName (mY k).cls = true) (hO : mO k = (mY k).cls) {ws' : List Cond} (hw : mW k = Cond.code (mY k) (mC k) (mL k) (mR k) :: ws')
    (hlen : (xi_en vs).length ≤ mL k) (h : xi_go cal tb F 0 (xi_pd (mL k) vs) [] aw = some x) : xi_Con l (d + 1) k vs aw x := by
  intro D ad ca sz
  refine Met.ofW (cc := mC k) (maxL := mL k) (ret := mR k) hpl hw ?_
  intro p e s m args below meth c s₁ B hml hv
  obtain ⟨rfl, hsz, hP, hK, hD0, hZ⟩ := hv
  have hts := atoms_spec (ws := mW k) B.pre
  have hown : s.vm.findClass (mO k) = some m.cls := by rw [hO]; exact findClass_of_methodNamed B.named
  subst hsz
  rw [lg_entry_eq]
  have hD := hD0.self (sz := s.heap.size)
  refine xi_go_ok (N := aw.length) (d := d) (tb := tb) (cal := cal) ⟨B.exec, B.bytes, hml, hown, hts⟩ B.notSynchronized B.returns hK hZ (fun q hq => Or.inr hq) rfl rfl hcal ?_ ht F 0 (xi_pd (mL k) vs) [] aw h s.heap [] _ (xi_lh.entry ad vs hlen) hP hD va_S.rf rfl
  intro H locs t hN hP2 hS2 hth hW
  exact ⟨⟨rfl, hN, by rw [hth]; exact hP2⟩, hS2.F hth⟩
