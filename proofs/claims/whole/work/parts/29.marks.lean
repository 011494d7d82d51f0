/-! The same parsers with the marks of the reference beside the code (30 THEN, 31 ELSE, 32 FI, 33 ROUND, 34 DONE). -/
abbrev MR : Type := Option (Nat × List In × List In)
def fg (r : MR) : PR := r.map (fun q => (q.1, q.2.1))
def mRest (tx : Nat → Nat) (B : Nat → MR) (pre : List In) (op j : Nat) : MR :=
  if nd tx j = 0 ∨ 99 < nv tx j (nd tx j) then none else (B (j + nd tx j)).bind (fun b => some (b.1, pre ++ [(op, nv tx j (nd tx j)), (15, pre.length + 3 + b.2.1.length)] ++ sh (pre.length + 2) b.2.1 ++ [(14, pre.length + 1)], pre ++ [(op, nv tx j (nd tx j)), (33, nv tx j (nd tx j))] ++ b.2.2 ++ [(34, 0)]))
def mLoop (tx : Nat → Nat) (S : Nat → PR) (B : Nat → MR) (i : Nat) : MR :=
  if 0 < nd tx i ∧ tx (i + nd tx i) = 123 then mRest tx B [] 0 i
  else (S i).bind (fun q => if tx q.1 = 60 then mRest tx B q.2 16 (q.1 + 1) else none)
def mChoice (tx : Nat → Nat) (V : Nat → PR) (B : Nat → MR) (i : Nat) : MR := (V i).bind (fun q => (B q.1).bind (fun b =>
  if tx b.1 = 123 then (B b.1).bind (fun t => some (t.1, q.2 ++ [(13, q.2.length + 2 + b.2.1.length)] ++ sh (q.2.length + 1) b.2.1 ++ [(14, q.2.length + 2 + b.2.1.length + t.2.1.length)] ++ sh (q.2.length + 2 + b.2.1.length) t.2.1, q.2 ++ [(30, 0)] ++ b.2.2 ++ [(31, 0)] ++ t.2.2 ++ [(32, 0)]))
  else some (b.1, q.2 ++ [(13, q.2.length + 1 + b.2.1.length)] ++ sh (q.2.length + 1) b.2.1, q.2 ++ [(30, 0)] ++ b.2.2 ++ [(32, 0)])))
def mStmt (tx : Nat → Nat) (V S I : Nat → PR) (B : Nat → MR) (i : Nat) : MR :=
  if tx i = 33 then (V (i + 1)).bind (fun q => if tx q.1 = 59 then some (q.1 + 1, q.2 ++ [(12, 0)], q.2 ++ [(12, 0)]) else none)
  else if tx i = 63 then mChoice tx V B (i + 1)
  else if tx i = 35 then mLoop tx S B (i + 1)
  else if tx i = 91 then (I (i + 1)).bind (fun q => if tx q.1 = 93 then (if tx (q.1 + 1) = 61 then (V (q.1 + 2)).bind (fun t => if tx t.1 = 59 then some (t.1 + 1, q.2 ++ t.2 ++ [(4, 0)], q.2 ++ t.2 ++ [(4, 0)]) else none) else none) else none)
  else if 97 ≤ tx i ∧ tx i < 97 + 6 then (if tx (i + 1) = 61 then (V (i + 2)).bind (fun t => if tx t.1 = 59 then some (t.1 + 1, t.2 ++ [(2, tx i - 97)], t.2 ++ [(2, tx i - 97)]) else none) else none)
  else if 65 ≤ tx i ∧ tx i < 65 + 4 then (if tx (i + 1) = 59 then some (i + 2, [(17, tx i - 65)], [(17, tx i - 65)]) else none)
  else none
def mSeq (tx : Nat → Nat) (T : Nat → MR) : Nat → Nat → List In → List In → MR
  | 0, i, c, m => if tx i = 125 then some (i + 1, c, m) else none
  | k + 1, i, c, m => if tx i = 125 then some (i + 1, c, m) else (T i).bind (fun q => mSeq tx T k q.1 (c ++ sh c.length q.2.1) (m ++ q.2.2))
def mBlock (tx : Nat → Nat) (T : Nat → MR) (i : Nat) : MR := if tx i = 123 then mSeq tx T 200 (i + 1) [] [] else none
def mT (tx : Nat → Nat) : Nat → Nat → MR
  | 0 => mStmt tx (pVal tx (pu tx 0)) (pSum tx (pu tx 0)) (fun _ => none) (fun _ => none)
  | r + 1 => mStmt tx (pVal tx (pu tx (r + 1))) (pSum tx (pu tx (r + 1))) (pVal tx (pu tx r)) (mBlock tx (mT tx r))
section FGS
variable {tx : Nat → Nat} {V S I : Nat → PR} {B T : Nat → MR}
theorem fg_rest (pre : List In) (op j : Nat) : fg (mRest tx B pre op j) = pRest tx (fun i => fg (B i)) pre op j := by
  unfold mRest pRest
  split
  · rfl
  · dsimp only
    cases B (j + nd tx j) <;> rfl
theorem fg_loop (i : Nat) : fg (mLoop tx S B i) = pLoop tx S (fun i => fg (B i)) i := by
  unfold mLoop pLoop
  split
  · exact fg_rest _ _ _
  · cases S i with
    | none => rfl
    | some q =>
      simp only [Option.bind_some]
      split
      · exact fg_rest _ _ _
      · rfl
theorem fg_choice (i : Nat) : fg (mChoice tx V B i) = pChoice tx V (fun i => fg (B i)) i := by
  unfold mChoice pChoice
  cases V i with
  | none => rfl
  | some q =>
    simp only [Option.bind_some]
    cases hb : B q.1 with
    | none => rfl
    | some b =>
      simp only [Option.bind_some, fg, Option.map_some]
      split
      · cases B b.1 <;> rfl
      · rfl
theorem fg_stmt (i : Nat) : fg (mStmt tx V S I B i) = pStmt tx V S I (fun i => fg (B i)) i := by
  unfold mStmt pStmt
  split
  · cases V (i + 1) with
    | none => rfl
    | some q => simp only [Option.bind_some]; split <;> rfl
  split
  · exact fg_choice _
  split
  · exact fg_loop _
  split
  · cases I (i + 1) with
    | none => rfl
    | some q =>
      simp only [Option.bind_some]
      split
      · split
        · cases V (q.1 + 2) with
          | none => rfl
          | some t => simp only [Option.bind_some]; split <;> rfl
        · rfl
      · rfl
  split
  · split
    · cases V (i + 2) with
      | none => rfl
      | some t => simp only [Option.bind_some]; split <;> rfl
    · rfl
  split
  · split <;> rfl
  · rfl
theorem fg_seq : ∀ k i c m, fg (mSeq tx T k i c m) = pSeq tx (fun i => fg (T i)) k i c
  | 0, i, c, m => by unfold mSeq pSeq; split <;> rfl
  | k + 1, i, c, m => by
    unfold mSeq pSeq
    split
    · rfl
    · cases T i with
      | none => rfl
      | some q =>
        simp only [Option.bind_some, fg, Option.map_some]
        exact fg_seq k _ _ _
theorem fg_block (i : Nat) : fg (mBlock tx T i) = pBlock tx (fun i => fg (T i)) i := by
  unfold mBlock pBlock
  split
  · exact fg_seq _ _ _ _
  · rfl
theorem fg_T : ∀ r, (fun i => fg (mT tx r i)) = pT tx r
  | 0 => by
    funext i
    show fg (mStmt tx _ _ _ _ i) = pStmt tx _ _ _ _ i
    rw [fg_stmt]
    rfl
  | r + 1 => by
    funext i
    show fg (mStmt tx _ _ _ _ i) = pStmt tx _ _ _ _ i
    rw [fg_stmt]
    congr 1
    funext j
    rw [fg_block, fg_T r]
end FGS
/-! Structured code: its rules, TIME and DEPTH. -/
def cs1 (o : Nat) : Nat := ([1, 2, 2, 4, 4, 1, 1, 5, 20, 1, 1, 1, 6, 1, 2, 1, 2, 4, 3, 0] : List Nat).getD o 0
def cst (c : List In) : Nat := (c.map (fun q => cs1 q.1)).sum
/-- the stack's height behind an instruction without jumps, none if it wants more than is there -/
def nh (o h : Nat) : Option Nat :=
  if o = 0 ∨ o = 1 then some (h + 1)
  else if o = 3 ∨ o = 11 ∨ o = 16 then (if 1 ≤ h then some h else none)
  else if o = 2 ∨ o = 12 then (if 1 ≤ h then some (h - 1) else none)
  else if o = 4 then (if 2 ≤ h then some (h - 2) else none)
  else if 5 ≤ o ∧ o ≤ 10 then (if 2 ≤ h then some (h - 1) else none)
  else none
def ht : List In → Nat → Option Nat
  | [], h => some h
  | q :: c, h => (nh q.1 h).bind (ht c)
/-- the greatest height on the way -/
def mh : List In → Nat → Nat → Nat
  | [], _, m => m
  | q :: c, h, m => mh c ((nh q.1 h).getD 0) (max m ((nh q.1 h).getD 0))
def SL (c : List In) (e : Nat) : Prop := (∀ q ∈ c, (q.1 ≤ 12 ∨ q.1 = 16) ∧ q.2 < 1000 ∧ (q.1 = 1 ∨ q.1 = 2 → q.2 < 6)) ∧ ∀ h, ht c h = some (h + e)
abbrev QP : Type := List In → List In → ((Nat → Nat) → Nat) → ((Nat → Nat) → Nat) → Prop
def SR (P : QP) : Prop :=
  P [] [] (fun _ => 0) (fun _ => 0) ∧
  (∀ c1 m1 T1 D1 c2 m2 T2 D2, P c1 m1 T1 D1 → P c2 m2 T2 D2 → P (c1 ++ sh c1.length c2) (m1 ++ m2) (fun t => T1 t + T2 t) (fun d => max (D1 d) (D2 d))) ∧
  (∀ c, SL c 0 → P c c (fun _ => cst c) (fun _ => mh c 0 0)) ∧
  (∀ v b mb T D, SL v 1 → P b mb T D → P (v ++ [(13, v.length + 1 + b.length)] ++ sh (v.length + 1) b) (v ++ [(30, 0)] ++ mb ++ [(32, 0)]) (fun t => cst v + max 3 (1 + T t)) (fun d => max (mh v 0 0) (D d))) ∧
  (∀ v b mb T D t mt T2 D2, SL v 1 → P b mb T D → P t mt T2 D2 → P (v ++ [(13, v.length + 2 + b.length)] ++ sh (v.length + 1) b ++ [(14, v.length + 2 + b.length + t.length)] ++ sh (v.length + 2 + b.length) t) (v ++ [(30, 0)] ++ mb ++ [(31, 0)] ++ mt ++ [(32, 0)]) (fun x => cst v + max (3 + T x) (3 + T2 x)) (fun d => max (mh v 0 0) (max (D d) (D2 d)))) ∧
  (∀ p op k b mb T D, SL (p ++ [(op, k)]) 1 → (op = 0 ∨ op = 16) → k ≤ 99 → P b mb T D → P (p ++ [(op, k), (15, p.length + 3 + b.length)] ++ sh (p.length + 2) b ++ [(14, p.length + 1)]) (p ++ [(op, k), (33, k)] ++ mb ++ [(34, 0)]) (fun t => cst (p ++ [(op, k)]) + (k * (3 + T t) + 3)) (fun d => max (mh (p ++ [(op, k)]) 0 0) (if k = 0 then 0 else 1 + D d))) ∧
  (∀ p, p < 4 → P [(17, p)] [(17, p)] (fun t => 4 + t p) (fun d => 1 + d p))
/-- c is code of statements, with these marks, this TIME and this DEPTH (given those of the procedures) -/
def SC (c m : List In) (T D : (Nat → Nat) → Nat) : Prop := ∀ P : QP, SR P → P c m T D
theorem SC.rules : SR SC := by
  refine ⟨fun P h => h.1, fun c1 m1 T1 D1 c2 m2 T2 D2 h1 h2 P h => h.2.1 _ _ _ _ _ _ _ _ (h1 P h) (h2 P h), fun c hc P h => h.2.2.1 c hc, fun v b mb T D hv hb P h => h.2.2.2.1 v b mb T D hv (hb P h), fun v b mb T D t mt T2 D2 hv hb ht P h => h.2.2.2.2.1 v b mb T D t mt T2 D2 hv (hb P h) (ht P h), fun p op k b mb T D hp ho hk hb P h => h.2.2.2.2.2.1 p op k b mb T D hp ho hk (hb P h), fun p hp P h => h.2.2.2.2.2.2 p hp⟩
