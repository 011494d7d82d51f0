/-! What the parsers answer is structured code. -/
theorem ht_app (a b : List In) : ∀ h, ht (a ++ b) h = (ht a h).bind (ht b) := by
  induction a with
  | nil => intro h; rfl
  | cons q a ih =>
    intro h
    show (nh q.1 h).bind (ht (a ++ b)) = ((nh q.1 h).bind (ht a)).bind (ht b)
    cases nh q.1 h with
    | none => rfl
    | some k => exact ih k
theorem sl_app {a b : List In} {e1 e2 : Nat} (h1 : SL a e1) (h2 : SL b e2) : SL (a ++ b) (e1 + e2) := by
  refine ⟨fun q hq => (List.mem_append.mp hq).elim (h1.1 q) (h2.1 q), fun h => ?_⟩
  rw [ht_app, h1.2 h]
  show ht b (h + e1) = _
  rw [h2.2, Nat.add_assoc]
theorem sl_op2 {a b : List In} {o : Nat} (h1 : SL a 1) (h2 : SL b 1) (ho : 5 ≤ o ∧ o ≤ 10) : SL (a ++ b ++ [(o, 0)]) 1 := by
  refine ⟨fun q hq => ?_, fun h => ?_⟩
  · rcases List.mem_append.mp hq with hq | hq
    · exact (sl_app h1 h2).1 q hq
    · cases List.mem_singleton.mp hq
      exact ⟨Or.inl (by dsimp only; omega), Nat.zero_lt_succ _, fun _ => Nat.zero_lt_succ _⟩
  · rw [ht_app, (sl_app h1 h2).2 h]
    show (nh o (h + (1 + 1))).bind (ht []) = _
    unfold nh
    rw [if_neg (by omega), if_neg (by omega), if_neg (by omega), if_neg (by omega), if_pos ho, if_pos (by omega)]
    show some _ = some _
    congr 1
theorem sl_op1 {a : List In} {o : Nat} (h1 : SL a 1) (ho : o = 3 ∨ o = 11) : SL (a ++ [(o, 0)]) 1 := by
  refine ⟨fun q hq => ?_, fun h => ?_⟩
  · rcases List.mem_append.mp hq with hq | hq
    · exact h1.1 q hq
    · cases List.mem_singleton.mp hq
      exact ⟨Or.inl (by dsimp only; omega), Nat.zero_lt_succ _, fun _ => Nat.zero_lt_succ _⟩
  · rw [ht_app, h1.2 h]
    show (nh o (h + 1)).bind (ht []) = _
    unfold nh
    rw [if_neg (by omega), if_pos (by omega), if_pos (by omega)]
    rfl
theorem sl_lim {a : List In} {k : Nat} (h1 : SL a 1) (hk : k ≤ 99) : SL (a ++ [(16, k)]) 1 := by
  refine ⟨fun q hq => ?_, fun h => ?_⟩
  · rcases List.mem_append.mp hq with hq | hq
    · exact h1.1 q hq
    · cases List.mem_singleton.mp hq
      exact ⟨Or.inr rfl, by dsimp only; omega, fun h => by dsimp only at h; omega⟩
  · rw [ht_app, h1.2 h]
    show (nh 16 (h + 1)).bind (ht []) = _
    unfold nh
    rw [if_neg (by omega), if_pos (by omega), if_pos (by omega)]
    rfl
theorem sl_push {k : Nat} (hk : k < 1000) : SL [(0, k)] 1 := ⟨fun q hq => by
  cases List.mem_singleton.mp hq
  exact ⟨Or.inl (by dsimp only; omega), hk, fun h => by dsimp only at h; omega⟩, fun h => rfl⟩
theorem sl_get {k : Nat} (hk : k < 6) : SL [(1, k)] 1 := ⟨fun q hq => by
  cases List.mem_singleton.mp hq
  exact ⟨Or.inl (by dsimp only; omega), by dsimp only; omega, fun _ => hk⟩, fun h => rfl⟩
/-- the ends of statements: OUT, PUT, KEEP -/
theorem sl_end1 {a : List In} {o k : Nat} (h1 : SL a 1) (ho : o = 2 ∨ o = 12) (hk : k < 6) : SL (a ++ [(o, k)]) 0 := by
  refine ⟨fun q hq => ?_, fun h => ?_⟩
  · rcases List.mem_append.mp hq with hq | hq
    · exact h1.1 q hq
    · cases List.mem_singleton.mp hq
      exact ⟨Or.inl (by dsimp only; omega), by dsimp only; omega, fun _ => hk⟩
  · rw [ht_app, h1.2 h]
    show (nh o (h + 1)).bind (ht []) = _
    unfold nh
    rw [if_neg (by omega), if_neg (by omega), if_pos (by omega), if_pos (by omega)]
    rfl
theorem sl_end2 {a b : List In} (h1 : SL a 1) (h2 : SL b 1) : SL (a ++ b ++ [(4, 0)]) 0 := by
  refine ⟨fun q hq => ?_, fun h => ?_⟩
  · rcases List.mem_append.mp hq with hq | hq
    · exact (sl_app h1 h2).1 q hq
    · cases List.mem_singleton.mp hq
      exact ⟨Or.inl (by dsimp only; omega), Nat.zero_lt_succ _, fun _ => Nat.zero_lt_succ _⟩
  · rw [ht_app, (sl_app h1 h2).2 h]
    show (nh 4 (h + (1 + 1))).bind (ht []) = _
    unfold nh
    rw [if_neg (by omega), if_neg (by omega), if_neg (by omega), if_pos rfl, if_pos (by omega)]
    rfl
def PX (P : Nat → PR) : Prop := ∀ i j c, P i = some (j, c) → SL c 1
section PXS
variable {tx : Nat → Nat}
theorem px_none : PX (fun _ => none) := fun _ _ _ h => by cases h
theorem px_unit {V U : Nat → PR} (hV : PX V) (hU : PX U) : PX (pUnit tx V U) := by
  intro i j c h
  unfold pUnit at h
  split at h
  · obtain ⟨q, hq, h2⟩ := Option.bind_eq_some_iff.mp h
    split at h2
    · cases h2
      exact hV _ _ _ hq
    · cases h2
  split at h
  · obtain ⟨q, hq, h2⟩ := Option.bind_eq_some_iff.mp h
    split at h2
    · cases h2
      exact sl_op1 (hV _ _ _ hq) (Or.inl rfl)
    · cases h2
  split at h
  · obtain ⟨q, hq, h2⟩ := Option.bind_eq_some_iff.mp h
    cases h2
    exact sl_op1 (hU _ _ _ hq) (Or.inr rfl)
  split at h
  · cases h
    exact sl_get (by omega)
  split at h
  · cases h
  · cases h
    exact sl_push (nv_lt3 (Nat.le_refl _))
theorem px_tail {P : Nat → PR} {op : Nat → Nat} (hP : PX P) (hop : ∀ c, op c ≠ 0 → 5 ≤ op c ∧ op c ≤ 10) : ∀ m i c j c', pTail tx P op m i c = some (j, c') → SL c 1 → SL c' 1
  | 0, i, c, j, c', h, hc => by cases h; exact hc
  | m + 1, i, c, j, c', h, hc => by
    unfold pTail at h
    split at h
    · cases h; exact hc
    · rename_i ho
      obtain ⟨q, hq, h2⟩ := Option.bind_eq_some_iff.mp h
      exact px_tail hP hop m _ _ j c' h2 (sl_op2 hc (hP _ _ _ hq) (hop _ ho))
theorem mop_rg : ∀ c, mop c ≠ 0 → 5 ≤ mop c ∧ mop c ≤ 10 := by
  intro c h
  unfold mop at h ⊢
  split
  · omega
  · split
    · omega
    · rename_i h1 h2; simp [h1, h2] at h
theorem aop_rg : ∀ c, aop c ≠ 0 → 5 ≤ aop c ∧ aop c ≤ 10 := by
  intro c h
  unfold aop at h ⊢
  split
  · omega
  · split
    · omega
    · rename_i h1 h2; simp [h1, h2] at h
theorem px_prod {U : Nat → PR} (hU : PX U) : PX (pProd tx U) := by
  intro i j c h
  obtain ⟨q, hq, h2⟩ := Option.bind_eq_some_iff.mp h
  exact px_tail hU mop_rg 200 _ _ _ _ h2 (hU _ _ _ hq)
theorem px_sum {U : Nat → PR} (hU : PX U) : PX (pSum tx U) := by
  intro i j c h
  obtain ⟨q, hq, h2⟩ := Option.bind_eq_some_iff.mp h
  exact px_tail (px_prod hU) aop_rg 200 _ _ _ _ h2 (px_prod hU _ _ _ hq)
theorem px_val {U : Nat → PR} (hU : PX U) : PX (pVal tx U) := by
  intro i j c h
  obtain ⟨q, hq, h2⟩ := Option.bind_eq_some_iff.mp h
  have h1 := px_sum hU _ _ _ hq
  split at h2
  · obtain ⟨t, ht, h3⟩ := Option.bind_eq_some_iff.mp h2
    cases h3
    exact sl_op2 h1 (px_sum hU _ _ _ ht) (by decide)
  · split at h2
    · obtain ⟨t, ht, h3⟩ := Option.bind_eq_some_iff.mp h2
      cases h3
      exact sl_op2 h1 (px_sum hU _ _ _ ht) (by decide)
    · cases h2
      exact h1
theorem px_pu : ∀ r, PX (pu tx r)
  | 0 => px_unit px_none px_none
  | r + 1 => px_unit (px_val (px_pu r)) (px_pu r)
def MX (P : Nat → MR) : Prop := ∀ i j c m, P i = some (j, c, m) → ∃ T D, SC c m T D
theorem mx_none : MX (fun _ => none) := fun _ _ _ _ h => by cases h
theorem mx_rest {B : Nat → MR} (hB : MX B) {pre : List In} {op k i : Nat} {c m : List In} (hp : (pre = [] ∧ op = 0) ∨ (SL pre 1 ∧ op = 16)) (h : mRest tx B pre op k = some (i, c, m)) : ∃ T D, SC c m T D := by
  unfold mRest at h
  split at h
  · cases h
  · rename_i h0
    obtain ⟨b, hb, h2⟩ := Option.bind_eq_some_iff.mp h
    obtain ⟨bi, bc, bm⟩ := b
    cases h2
    obtain ⟨T, D, hs⟩ := hB _ _ _ _ hb
    have hv := nv_lt3 (tx := tx) (i := k) (Nat.le_refl (nd tx k))
    refine ⟨_, _, SC.rules.2.2.2.2.2.1 pre op (nv tx k (nd tx k)) bc bm T D ?_ ?_ (by omega) hs⟩
    · rcases hp with ⟨rfl, rfl⟩ | ⟨h1, rfl⟩
      · exact sl_push hv
      · exact sl_lim h1 (by omega)
    · rcases hp with ⟨-, h1⟩ | ⟨-, h1⟩
      · exact Or.inl h1
      · exact Or.inr h1
theorem mx_stmt {V S I : Nat → PR} {B : Nat → MR} (hV : PX V) (hS : PX S) (hI : PX I) (hB : MX B) : MX (mStmt tx V S I B) := by
  intro i j c m h
  unfold mStmt at h
  split at h
  · obtain ⟨q, hq, h2⟩ := Option.bind_eq_some_iff.mp h
    split at h2
    · cases h2
      exact ⟨_, _, SC.rules.2.2.1 _ (sl_end1 (hV _ _ _ hq) (Or.inr rfl) (by decide))⟩
    · cases h2
  split at h
  · unfold mChoice at h
    obtain ⟨q, hq, h2⟩ := Option.bind_eq_some_iff.mp h
    obtain ⟨b, hb, h3⟩ := Option.bind_eq_some_iff.mp h2
    obtain ⟨bi, bc, bm⟩ := b
    obtain ⟨T, D, hs⟩ := hB _ _ _ _ hb
    split at h3
    · obtain ⟨t, ht, h4⟩ := Option.bind_eq_some_iff.mp h3
      obtain ⟨ti, tc, tm⟩ := t
      obtain ⟨T2, D2, hs2⟩ := hB _ _ _ _ ht
      cases h4
      exact ⟨_, _, SC.rules.2.2.2.2.1 q.2 bc bm T D tc tm T2 D2 (hV _ _ _ hq) hs hs2⟩
    · cases h3
      exact ⟨_, _, SC.rules.2.2.2.1 q.2 bc bm T D (hV _ _ _ hq) hs⟩
  split at h
  · unfold mLoop at h
    split at h
    · exact mx_rest hB (Or.inl ⟨rfl, rfl⟩) h
    · obtain ⟨q, hq, h2⟩ := Option.bind_eq_some_iff.mp h
      split at h2
      · exact mx_rest hB (Or.inr ⟨hS _ _ _ hq, rfl⟩) h2
      · cases h2
  split at h
  · obtain ⟨q, hq, h2⟩ := Option.bind_eq_some_iff.mp h
    split at h2
    · split at h2
      · obtain ⟨t, ht, h3⟩ := Option.bind_eq_some_iff.mp h2
        split at h3
        · cases h3
          exact ⟨_, _, SC.rules.2.2.1 _ (sl_end2 (hI _ _ _ hq) (hV _ _ _ ht))⟩
        · cases h3
      · cases h2
    · cases h2
  split at h
  · split at h
    · obtain ⟨t, ht, h3⟩ := Option.bind_eq_some_iff.mp h
      split at h3
      · cases h3
        exact ⟨_, _, SC.rules.2.2.1 _ (sl_end1 (hV _ _ _ ht) (Or.inl rfl) (by omega))⟩
      · cases h3
    · cases h
  split at h
  · split at h
    · cases h
      exact ⟨_, _, SC.rules.2.2.2.2.2.2 _ (by omega)⟩
    · cases h
  · cases h
theorem mx_seq {T : Nat → MR} (hT : MX T) : ∀ k i c m j c' m', mSeq tx T k i c m = some (j, c', m') → (∃ T D, SC c m T D) → ∃ T D, SC c' m' T D
  | 0, i, c, m, j, c', m', h, hs => by
    unfold mSeq at h
    split at h
    · cases h; exact hs
    · cases h
  | k + 1, i, c, m, j, c', m', h, hs => by
    unfold mSeq at h
    split at h
    · cases h; exact hs
    · obtain ⟨q, hq, h2⟩ := Option.bind_eq_some_iff.mp h
      obtain ⟨qi, qc, qm⟩ := q
      obtain ⟨T1, D1, h1⟩ := hs
      obtain ⟨T2, D2, h3⟩ := hT _ _ _ _ hq
      exact mx_seq hT k _ _ _ j c' m' h2 ⟨_, _, SC.rules.2.1 _ _ _ _ _ _ _ _ h1 h3⟩
theorem mx_block {T : Nat → MR} (hT : MX T) : MX (mBlock tx T) := by
  intro i j c m h
  unfold mBlock at h
  split at h
  · exact mx_seq hT 200 _ _ _ _ _ _ h ⟨_, _, SC.rules.1⟩
  · cases h
theorem mx_T : ∀ r, MX (mT tx r)
  | 0 => mx_stmt (px_val (px_pu 0)) (px_sum (px_pu 0)) px_none mx_none
  | r + 1 => mx_stmt (px_val (px_pu (r + 1))) (px_sum (px_pu (r + 1))) (px_val (px_pu r)) (mx_block (mx_T r))
end PXS
def m1 (tx : Nat → Nat) : Nat → MR := mBlock tx (mT tx 5)
theorem fg_m1 {tx : Nat → Nat} (i : Nat) : fg (m1 tx i) = p1 tx i := by
  unfold m1 p1
  rw [fg_block, fg_T]
/-- a block that is read has its marks, and is structured -/
theorem p1_sc {tx : Nat → Nat} {i j : Nat} {c : List In} (h : p1 tx i = some (j, c)) : ∃ m T D, m1 tx i = some (j, c, m) ∧ SC c m T D := by
  rw [← fg_m1] at h
  obtain ⟨⟨a, b, m⟩, hm, he⟩ := Option.map_eq_some_iff.mp h
  cases he
  obtain ⟨T, D, hs⟩ := mx_block (mx_T 5) _ _ _ _ hm
  exact ⟨m, T, D, hm, hs⟩
