/-! What a text is read as: values. A parser answers where it ended and the code (number, argument). -/
abbrev In : Type := Nat × Nat
abbrev PR : Type := Option (Nat × List In)
def pUnit (tx : Nat → Nat) (V U : Nat → PR) (i : Nat) : PR :=
  if tx i = 40 then (V (i + 1)).bind (fun q => if tx q.1 = 41 then some (q.1 + 1, q.2) else none)
  else if tx i = 91 then (V (i + 1)).bind (fun q => if tx q.1 = 93 then some (q.1 + 1, q.2 ++ [(3, 0)]) else none)
  else if tx i = 45 then (U (i + 1)).bind (fun q => some (q.1, q.2 ++ [(11, 0)]))
  else if 97 ≤ tx i ∧ tx i < 97 + 6 then some (i + 1, [(1, tx i - 97)])
  else if nd tx i = 0 then none else some (i + nd tx i, [(0, nv tx i (nd tx i))])
/-- the operators of a product, of a sum -/
def mop (c : Nat) : Nat := if c = 42 then 7 else if c = 47 then 8 else 0
def aop (c : Nat) : Nat := if c = 43 then 5 else if c = 45 then 6 else 0
def pTail (tx : Nat → Nat) (P : Nat → PR) (op : Nat → Nat) : Nat → Nat → List In → PR
  | 0, i, c => some (i, c)
  | m + 1, i, c => if op (tx i) = 0 then some (i, c) else (P (i + 1)).bind (fun q => pTail tx P op m q.1 (c ++ q.2 ++ [(op (tx i), 0)]))
def pProd (tx : Nat → Nat) (U : Nat → PR) (i : Nat) : PR := (U i).bind (fun q => pTail tx U mop 200 q.1 q.2)
def pSum (tx : Nat → Nat) (U : Nat → PR) (i : Nat) : PR := (pProd tx U i).bind (fun q => pTail tx (pProd tx U) aop 200 q.1 q.2)
def pVal (tx : Nat → Nat) (U : Nat → PR) (i : Nat) : PR := (pSum tx U i).bind (fun q =>
  if tx q.1 = 60 then (pSum tx U (q.1 + 1)).bind (fun t => some (t.1, q.2 ++ t.2 ++ [(9, 0)]))
  else if tx q.1 = 61 then (pSum tx U (q.1 + 1)).bind (fun t => some (t.1, q.2 ++ t.2 ++ [(10, 0)]))
  else some q)
/-- units with r levels left below them -/
def pu (tx : Nat → Nat) : Nat → Nat → PR
  | 0 => pUnit tx (fun _ => none) (fun _ => none)
  | r + 1 => pUnit tx (pVal tx (pu tx r)) (pu tx r)
/-- what a parser of values answers lies in the text, is no longer than what was read, and goes nowhere -/
def EX (op : Nat) : Prop := op < 12 ∧ op ≠ 2 ∧ op ≠ 4
theorem ex0 : EX 0 := ⟨by decide, by decide, by decide⟩
theorem ex1 : EX 1 := ⟨by decide, by decide, by decide⟩
theorem ex3 : EX 3 := ⟨by decide, by decide, by decide⟩
theorem ex9 : EX 9 := ⟨by decide, by decide, by decide⟩
theorem ex10 : EX 10 := ⟨by decide, by decide, by decide⟩
theorem ex11 : EX 11 := ⟨by decide, by decide, by decide⟩
def PB (n : Nat) (P : Nat → PR) : Prop := ∀ i j c, P i = some (j, c) → i + c.length ≤ j ∧ i < j ∧ j ≤ n ∧ ∀ q ∈ c, EX q.1 ∧ q.2 < 1000
theorem PB.none {n : Nat} : PB n (fun _ => none) := fun _ _ _ h => by cases h
section PBS
variable {tx : Nat → Nat} {n : Nat}
theorem pb_unit {V U : Nat → PR} (hn : ∀ i, tx i ≠ 0 → i < n) (hV : PB n V) (hU : PB n U) : PB n (pUnit tx V U) := by
  intro i j c h
  unfold pUnit at h
  split at h
  · rename_i e
    obtain ⟨q, hq, h2⟩ := Option.bind_eq_some_iff.mp h
    obtain ⟨a, b⟩ := q
    dsimp only at h2
    split at h2
    · rename_i e2
      cases h2
      obtain ⟨g1, g2, g3, g4⟩ := hV _ _ _ hq
      have := hn a (by rw [e2]; decide)
      exact ⟨by omega, by omega, by omega, g4⟩
    · cases h2
  split at h
  · obtain ⟨q, hq, h2⟩ := Option.bind_eq_some_iff.mp h
    obtain ⟨a, b⟩ := q
    dsimp only at h2
    split at h2
    · rename_i e2
      cases h2
      obtain ⟨g1, g2, g3, g4⟩ := hV _ _ _ hq
      have := hn a (by rw [e2]; decide)
      refine ⟨by rw [List.length_append]; dsimp only [List.length_cons, List.length_nil]; omega, by omega, by omega, fun q hq => ?_⟩
      rcases List.mem_append.mp hq with hq | hq
      · exact g4 q hq
      · cases List.mem_singleton.mp hq
        exact ⟨⟨by decide, by decide, by decide⟩, by decide⟩
    · cases h2
  split at h
  · obtain ⟨q, hq, h2⟩ := Option.bind_eq_some_iff.mp h
    obtain ⟨a, b⟩ := q
    dsimp only at h2
    cases h2
    obtain ⟨g1, g2, g3, g4⟩ := hU _ _ _ hq
    refine ⟨by rw [List.length_append]; dsimp only [List.length_cons, List.length_nil]; omega, by omega, by omega, fun q hq => ?_⟩
    rcases List.mem_append.mp hq with hq | hq
    · exact g4 q hq
    · cases List.mem_singleton.mp hq
      exact ⟨⟨by decide, by decide, by decide⟩, by decide⟩
  split at h
  · rename_i e
    cases h
    have := hn i (by omega)
    refine ⟨by dsimp only [List.length_cons, List.length_nil]; omega, by omega, by omega, fun q hq => ?_⟩
    cases List.mem_singleton.mp hq
    exact ⟨ex1, by dsimp only; omega⟩
  split at h
  · cases h
  · rename_i e
    cases h
    have h1 := dg_iff.mp (nd_dg (tx := tx) (i := i) (q := nd tx i - 1) (by omega))
    have := hn (i + (nd tx i - 1)) (by omega)
    refine ⟨by dsimp only [List.length_cons, List.length_nil]; omega, by omega, by omega, fun q hq => ?_⟩
    cases List.mem_singleton.mp hq
    exact ⟨ex0, nv_lt3 (Nat.le_refl _)⟩
theorem pb_tail {P : Nat → PR} {op : Nat → Nat} (hP : PB n P) (hop : ∀ c, op c ≠ 0 → EX (op c)) : ∀ m i c j c', pTail tx P op m i c = some (j, c') → i ≤ n → (∀ q ∈ c, EX q.1 ∧ q.2 < 1000) → i + c'.length ≤ j + c.length ∧ i ≤ j ∧ j ≤ n ∧ ∀ q ∈ c', EX q.1 ∧ q.2 < 1000
  | 0, i, c, j, c', h, hi, hc => by
    cases h
    exact ⟨Nat.le_refl _, Nat.le_refl _, hi, hc⟩
  | m + 1, i, c, j, c', h, hi, hc => by
    unfold pTail at h
    split at h
    · cases h
      exact ⟨Nat.le_refl _, Nat.le_refl _, hi, hc⟩
    · rename_i ho
      obtain ⟨q, hq, h2⟩ := Option.bind_eq_some_iff.mp h
      obtain ⟨a, b⟩ := q
      obtain ⟨g1, g2, g3, g4⟩ := hP _ _ _ hq
      have := pb_tail hP hop m a _ j c' h2 g3 (fun q hq => by
        rcases List.mem_append.mp hq with hq | hq
        · rcases List.mem_append.mp hq with hq | hq
          · exact hc q hq
          · exact g4 q hq
        · cases List.mem_singleton.mp hq
          exact ⟨hop _ ho, Nat.zero_lt_succ _⟩)
      simp only [List.length_append, List.length_cons, List.length_nil] at this
      exact ⟨by omega, by omega, this.2.2⟩
theorem mop_ex : ∀ c, mop c ≠ 0 → EX (mop c) := by
  intro c h
  unfold mop at h ⊢
  split
  · exact ⟨by decide, by decide, by decide⟩
  · split
    · exact ⟨by decide, by decide, by decide⟩
    · rename_i h1 h2; simp [h1, h2] at h
theorem aop_ex : ∀ c, aop c ≠ 0 → EX (aop c) := by
  intro c h
  unfold aop at h ⊢
  split
  · exact ⟨by decide, by decide, by decide⟩
  · split
    · exact ⟨by decide, by decide, by decide⟩
    · rename_i h1 h2; simp [h1, h2] at h
theorem pb_prod {U : Nat → PR} (hU : PB n U) : PB n (pProd tx U) := by
  intro i j c h
  obtain ⟨q, hq, h2⟩ := Option.bind_eq_some_iff.mp h
  obtain ⟨a, b⟩ := q
  obtain ⟨g1, g2, g3, g4⟩ := hU _ _ _ hq
  obtain ⟨k1, k2, k3, k4⟩ := pb_tail hU mop_ex 200 a b j c h2 g3 g4
  exact ⟨by omega, by omega, k3, k4⟩
theorem pb_sum {U : Nat → PR} (hU : PB n U) : PB n (pSum tx U) := by
  intro i j c h
  obtain ⟨q, hq, h2⟩ := Option.bind_eq_some_iff.mp h
  obtain ⟨a, b⟩ := q
  obtain ⟨g1, g2, g3, g4⟩ := pb_prod hU _ _ _ hq
  obtain ⟨k1, k2, k3, k4⟩ := pb_tail (pb_prod hU) aop_ex 200 a b j c h2 g3 g4
  exact ⟨by omega, by omega, k3, k4⟩
theorem pb_val {U : Nat → PR} (hU : PB n U) : PB n (pVal tx U) := by
  intro i j c h
  obtain ⟨q, hq, h2⟩ := Option.bind_eq_some_iff.mp h
  obtain ⟨a, b⟩ := q
  obtain ⟨g1, g2, g3, g4⟩ := pb_sum hU _ _ _ hq
  have two : ∀ (o : Nat), EX o → (pSum tx U (a + 1)).bind (fun t => some (t.1, b ++ t.2 ++ [(o, 0)])) = some (j, c) → i + c.length ≤ j ∧ i < j ∧ j ≤ n ∧ ∀ q ∈ c, EX q.1 ∧ q.2 < 1000 := by
    intro o ho h3
    obtain ⟨t, ht, h4⟩ := Option.bind_eq_some_iff.mp h3
    obtain ⟨a2, b2⟩ := t
    dsimp only at h4
    cases h4
    obtain ⟨k1, k2, k3, k4⟩ := pb_sum hU _ _ _ ht
    refine ⟨by simp only [List.length_append, List.length_cons, List.length_nil]; omega, by omega, k3, fun q hq => ?_⟩
    rcases List.mem_append.mp hq with hq | hq
    · rcases List.mem_append.mp hq with hq | hq
      · exact g4 q hq
      · exact k4 q hq
    · cases List.mem_singleton.mp hq
      exact ⟨ho, Nat.zero_lt_succ _⟩
  dsimp only at h2
  split at h2
  · exact two 9 ⟨by decide, by decide, by decide⟩ h2
  · split at h2
    · exact two 10 ⟨by decide, by decide, by decide⟩ h2
    · cases h2
      exact ⟨g1, g2, g3, g4⟩
theorem pb_pu (hn : ∀ i, tx i ≠ 0 → i < n) : ∀ r, PB n (pu tx r)
  | 0 => pb_unit hn PB.none PB.none
  | r + 1 => pb_unit hn (pb_val (pb_pu hn r)) (pb_pu hn r)
end PBS
