/-! What a text is read as: statements and blocks. The code's jumps count from the piece's own first instruction. -/
def sh (k : Nat) (c : List In) : List In := c.map (fun q => if q.1 = 13 ∨ q.1 = 14 ∨ q.1 = 15 then (q.1, q.2 + k) else q)
theorem sh_len (k : Nat) (c : List In) : (sh k c).length = c.length := by unfold sh; rw [List.length_map]
theorem sh_app (k : Nat) (a b : List In) : sh k (a ++ b) = sh k a ++ sh k b := by unfold sh; rw [List.map_append]
theorem sh_sh (j k : Nat) (c : List In) : sh j (sh k c) = sh (k + j) c := by
  unfold sh
  rw [List.map_map]
  apply List.map_congr_left
  intro q _
  dsimp only [Function.comp]
  by_cases h : q.1 = 13 ∨ q.1 = 14 ∨ q.1 = 15
  · simp [h, Nat.add_assoc]
  · simp [h]
theorem sh_0 (c : List In) : sh 0 c = c := by
  unfold sh
  conv => rhs; rw [← List.map_id c]
  apply List.map_congr_left
  intro q _
  split <;> rfl
theorem sh_ex {k : Nat} {c : List In} (h : ∀ q ∈ c, EX q.1 ∧ q.2 < 1000) : sh k c = c := by
  unfold sh
  conv => rhs; rw [← List.map_id c]
  apply List.map_congr_left
  intro q hq
  have := (h q hq).1.1
  rw [if_neg (by omega)]
  rfl
/-- # number block, # value < number block: behind the value (pre), at the number -/
def pRest (tx : Nat → Nat) (B : Nat → PR) (pre : List In) (op j : Nat) : PR :=
  if nd tx j = 0 ∨ 99 < nv tx j (nd tx j) then none else (B (j + nd tx j)).bind (fun b => some (b.1, pre ++ [(op, nv tx j (nd tx j)), (15, pre.length + 3 + b.2.length)] ++ sh (pre.length + 2) b.2 ++ [(14, pre.length + 1)]))
def pLoop (tx : Nat → Nat) (S B : Nat → PR) (i : Nat) : PR :=
  if 0 < nd tx i ∧ tx (i + nd tx i) = 123 then pRest tx B [] 0 i
  else (S i).bind (fun q => if tx q.1 = 60 then pRest tx B q.2 16 (q.1 + 1) else none)
def pChoice (tx : Nat → Nat) (V B : Nat → PR) (i : Nat) : PR := (V i).bind (fun q => (B q.1).bind (fun b =>
  if tx b.1 = 123 then (B b.1).bind (fun t => some (t.1, q.2 ++ [(13, q.2.length + 2 + b.2.length)] ++ sh (q.2.length + 1) b.2 ++ [(14, q.2.length + 2 + b.2.length + t.2.length)] ++ sh (q.2.length + 2 + b.2.length) t.2))
  else some (b.1, q.2 ++ [(13, q.2.length + 1 + b.2.length)] ++ sh (q.2.length + 1) b.2)))
def pStmt (tx : Nat → Nat) (V S I B : Nat → PR) (i : Nat) : PR :=
  if tx i = 33 then (V (i + 1)).bind (fun q => if tx q.1 = 59 then some (q.1 + 1, q.2 ++ [(12, 0)]) else none)
  else if tx i = 63 then pChoice tx V B (i + 1)
  else if tx i = 35 then pLoop tx S B (i + 1)
  else if tx i = 91 then (I (i + 1)).bind (fun q => if tx q.1 = 93 then (if tx (q.1 + 1) = 61 then (V (q.1 + 2)).bind (fun t => if tx t.1 = 59 then some (t.1 + 1, q.2 ++ t.2 ++ [(4, 0)]) else none) else none) else none)
  else if 97 ≤ tx i ∧ tx i < 97 + 6 then (if tx (i + 1) = 61 then (V (i + 2)).bind (fun t => if tx t.1 = 59 then some (t.1 + 1, t.2 ++ [(2, tx i - 97)]) else none) else none)
  else if 65 ≤ tx i ∧ tx i < 65 + 4 then (if tx (i + 1) = 59 then some (i + 2, [(17, tx i - 65)]) else none)
  else none
def pSeq (tx : Nat → Nat) (T : Nat → PR) : Nat → Nat → List In → PR
  | 0, i, c => if tx i = 125 then some (i + 1, c) else none
  | m + 1, i, c => if tx i = 125 then some (i + 1, c) else (T i).bind (fun q => pSeq tx T m q.1 (c ++ sh c.length q.2))
def pBlock (tx : Nat → Nat) (T : Nat → PR) (i : Nat) : PR := if tx i = 123 then pSeq tx T 200 (i + 1) [] else none
/-- statements of a block with r levels left below it; the block itself -/
def pT (tx : Nat → Nat) : Nat → Nat → PR
  | 0 => pStmt tx (pVal tx (pu tx 0)) (pSum tx (pu tx 0)) (fun _ => none) (fun _ => none)
  | r + 1 => pStmt tx (pVal tx (pu tx (r + 1))) (pSum tx (pu tx (r + 1))) (pVal tx (pu tx r)) (pBlock tx (pT tx r))
/-- lengths: a piece of code has no more instructions than the text has characters -/
def PL (n k : Nat) (P : Nat → PR) : Prop := ∀ i j c, P i = some (j, c) → i + c.length + k ≤ j ∧ j ≤ n
theorem PB.len {n : Nat} {P : Nat → PR} (h : PB n P) : PL n 0 P := fun i j c e => ⟨by have := h i j c e; omega, (h i j c e).2.2.1⟩
theorem PL.none {n k : Nat} : PL n k (fun _ => none) := fun _ _ _ h => by cases h
section PLS
variable {tx : Nat → Nat} {n : Nat}
theorem pl_rest {B : Nat → PR} {pre : List In} {op j i c : Nat} {c : List In} (hB : PL n 2 B) (h : pRest tx B pre op j = some (i, c)) : j + c.length ≤ i + pre.length ∧ i ≤ n := by
  unfold pRest at h
  split at h
  · cases h
  · rename_i h0
    obtain ⟨q, hq, h2⟩ := Option.bind_eq_some_iff.mp h
    obtain ⟨a, b⟩ := q
    dsimp only at h2
    cases h2
    have := hB _ _ _ hq
    simp only [List.length_append, List.length_cons, List.length_nil, sh_len]
    omega
theorem pl_loop {S B : Nat → PR} (hS : PL n 0 S) (hB : PL n 2 B) : PL n 0 (pLoop tx S B) := by
  intro i j c h
  unfold pLoop at h
  split at h
  · have := pl_rest (c := 0) hB h
    simp only [List.length_nil] at this
    omega
  · obtain ⟨q, hq, h2⟩ := Option.bind_eq_some_iff.mp h
    obtain ⟨a, b⟩ := q
    have h3 := hS _ _ _ hq
    dsimp only at h2
    split at h2
    · have := pl_rest (c := 0) hB h2
      omega
    · cases h2
theorem pl_choice {V B : Nat → PR} (hV : PL n 0 V) (hB : PL n 2 B) : PL n 0 (pChoice tx V B) := by
  intro i j c h
  obtain ⟨q, hq, h2⟩ := Option.bind_eq_some_iff.mp h
  obtain ⟨a, b⟩ := q
  obtain ⟨q2, hq2, h3⟩ := Option.bind_eq_some_iff.mp h2
  obtain ⟨a2, b2⟩ := q2
  have g1 := hV _ _ _ hq
  have g2 := hB _ _ _ hq2
  dsimp only at g1 g2 h3
  split at h3
  · obtain ⟨q3, hq3, h4⟩ := Option.bind_eq_some_iff.mp h3
    obtain ⟨a3, b3⟩ := q3
    have g3 := hB _ _ _ hq3
    dsimp only at h4
    cases h4
    simp only [List.length_append, List.length_cons, List.length_nil, sh_len]
    omega
  · cases h3
    simp only [List.length_append, List.length_cons, List.length_nil, sh_len]
    omega
theorem pl_stmt {V S I B : Nat → PR} (hn : ∀ i, tx i ≠ 0 → i < n) (hV : PL n 0 V) (hS : PL n 0 S) (hI : PL n 0 I) (hB : PL n 2 B) : PL n 1 (pStmt tx V S I B) := by
  intro i j c h
  unfold pStmt at h
  split at h
  · obtain ⟨q, hq, h2⟩ := Option.bind_eq_some_iff.mp h
    obtain ⟨a, b⟩ := q
    have g1 := hV _ _ _ hq
    dsimp only at h2
    split at h2
    · rename_i e
      cases h2
      have := hn a (by rw [e]; decide)
      simp only [List.length_append, List.length_cons, List.length_nil]
      omega
    · cases h2
  split at h
  · have := pl_choice hV hB _ _ _ h
    omega
  split at h
  · have := pl_loop hS hB _ _ _ h
    omega
  split at h
  · obtain ⟨q, hq, h2⟩ := Option.bind_eq_some_iff.mp h
    obtain ⟨a, b⟩ := q
    have g1 := hI _ _ _ hq
    dsimp only at h2
    split at h2
    · split at h2
      · obtain ⟨q2, hq2, h3⟩ := Option.bind_eq_some_iff.mp h2
        obtain ⟨a2, b2⟩ := q2
        have g2 := hV _ _ _ hq2
        dsimp only at h3
        split at h3
        · rename_i e
          cases h3
          have := hn a2 (by rw [e]; decide)
          simp only [List.length_append, List.length_cons, List.length_nil]
          omega
        · cases h3
      · cases h2
    · cases h2
  split at h
  · split at h
    · obtain ⟨q2, hq2, h3⟩ := Option.bind_eq_some_iff.mp h
      obtain ⟨a2, b2⟩ := q2
      have g2 := hV _ _ _ hq2
      dsimp only at h3
      split at h3
      · rename_i e
        cases h3
        have := hn a2 (by rw [e]; decide)
        simp only [List.length_append, List.length_cons, List.length_nil]
        omega
      · cases h3
    · cases h
  split at h
  · split at h
    · rename_i e
      cases h
      have := hn (i + 1) (by rw [e]; decide)
      simp only [List.length_cons, List.length_nil]
      omega
    · cases h
  · cases h
theorem pl_seq {T : Nat → PR} (hn : ∀ i, tx i ≠ 0 → i < n) (hT : PL n 1 T) : ∀ m i c j c', pSeq tx T m i c = some (j, c') → i + c'.length + 1 ≤ j + c.length ∧ j ≤ n
  | 0, i, c, j, c', h => by
    unfold pSeq at h
    split at h
    · rename_i e
      cases h
      have := hn i (by rw [e]; decide)
      omega
    · cases h
  | m + 1, i, c, j, c', h => by
    unfold pSeq at h
    split at h
    · rename_i e
      cases h
      have := hn i (by rw [e]; decide)
      omega
    · obtain ⟨q, hq, h2⟩ := Option.bind_eq_some_iff.mp h
      obtain ⟨a, b⟩ := q
      have g1 := hT _ _ _ hq
      have := pl_seq hn hT m a _ j c' h2
      simp only [List.length_append, sh_len] at this
      omega
theorem pl_block {T : Nat → PR} (hn : ∀ i, tx i ≠ 0 → i < n) (hT : PL n 1 T) : PL n 2 (pBlock tx T) := by
  intro i j c h
  unfold pBlock at h
  split at h
  · have := pl_seq hn hT 200 _ _ _ _ h
    simp only [List.length_nil] at this
    omega
  · cases h
theorem pl_T (hn : ∀ i, tx i ≠ 0 → i < n) : ∀ r, PL n 1 (pT tx r)
  | 0 => pl_stmt hn (pb_val (pb_pu hn 0)).len (pb_sum (pb_pu hn 0)).len PL.none PL.none
  | r + 1 => pl_stmt hn (pb_val (pb_pu hn (r + 1))).len (pb_sum (pb_pu hn (r + 1))).len (pb_val (pb_pu hn r)).len (pl_block hn (pl_T hn r))
end PLS
