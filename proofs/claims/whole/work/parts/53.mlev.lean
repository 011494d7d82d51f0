/-! How deep the marks of blocks are in one another. -/
def lev (q : In) (l : Nat) : Nat := if q.1 = 30 ∨ q.1 = 33 then l + 1 else if q.1 = 32 ∨ q.1 = 34 then l - 1 else l
def lvv : List In → Nat → Nat
  | [], l => l
  | q :: m, l => lvv m (lev q l)
def DB (B : Nat) : List In → Nat → Prop
  | [], _ => True
  | q :: m, l => lev q l ≤ B ∧ DB B m (lev q l)
theorem lvv_app : ∀ (a b : List In) l, lvv (a ++ b) l = lvv b (lvv a l)
  | [], _, _ => rfl
  | _ :: a, b, _ => lvv_app a b _
theorem db_app {B : Nat} : ∀ (a b : List In) l, DB B (a ++ b) l ↔ DB B a l ∧ DB B b (lvv a l)
  | [], _, _ => ⟨fun h => ⟨trivial, h⟩, fun h => h.2⟩
  | q :: a, b, l => by
    show (lev q l ≤ B ∧ DB B (a ++ b) (lev q l)) ↔ ((lev q l ≤ B ∧ DB B a (lev q l)) ∧ DB B b (lvv a (lev q l)))
    rw [db_app a b]
    exact ⟨fun ⟨x, y, z⟩ => ⟨⟨x, y⟩, z⟩, fun ⟨⟨x, y⟩, z⟩ => ⟨x, y, z⟩⟩
theorem lev_flat {q : In} (h : q.1 < 30) (l : Nat) : lev q l = l := by
  unfold lev
  rw [if_neg (by omega), if_neg (by omega)]
theorem lvv_flat : ∀ {c : List In}, (∀ q ∈ c, q.1 < 30) → ∀ l, lvv c l = l
  | [], _, _ => rfl
  | q :: c, h, l => by
    show lvv c (lev q l) = l
    rw [lev_flat (h q (List.mem_cons_self ..))]
    exact lvv_flat (fun x hx => h x (List.mem_cons_of_mem _ hx)) l
theorem db_flat {B : Nat} : ∀ {c : List In}, (∀ q ∈ c, q.1 < 30) → ∀ {l}, l ≤ B → DB B c l
  | [], _, _, _ => trivial
  | q :: c, h, l, hl => by
    show lev q l ≤ B ∧ DB B c (lev q l)
    rw [lev_flat (h q (List.mem_cons_self ..))]
    exact ⟨hl, db_flat (fun x hx => h x (List.mem_cons_of_mem _ hx)) hl⟩
def NST (r : Nat) (m : List In) : Prop := (∀ l, lvv m l = l) ∧ ∀ l B, l + r ≤ B → DB B m l
theorem nst_flat {r : Nat} {c : List In} (h : ∀ q ∈ c, q.1 < 30) : NST r c := ⟨lvv_flat h, fun l B hl => db_flat h (by omega)⟩
theorem nst_app {r : Nat} {a b : List In} (ha : NST r a) (hb : NST r b) : NST r (a ++ b) := ⟨fun l => by rw [lvv_app, ha.1, hb.1], fun l B hl => by
  rw [db_app, ha.1]
  exact ⟨ha.2 l B hl, hb.2 l B hl⟩⟩
theorem sl_flat {c : List In} {e : Nat} (h : SL c e) : ∀ q ∈ c, q.1 < 30 := fun q hq => by
  have := (h.1 q hq).1
  omega
theorem nst_if {r : Nat} {v mb : List In} (hv : ∀ q ∈ v, q.1 < 30) (h : NST r mb) : NST (r + 1) (v ++ [(30, 0)] ++ mb ++ [(32, 0)]) := by
  have e1 : ∀ l, lvv [(30, 0)] l = l + 1 := fun _ => rfl
  refine ⟨fun l => ?_, fun l B hl => ?_⟩
  · rw [lvv_app, lvv_app, lvv_app, lvv_flat hv, e1, h.1]
    rfl
  · simp only [db_app, lvv_app, lvv_flat hv, e1, h.1]
    exact ⟨⟨⟨db_flat hv (by omega), ⟨show l + 1 ≤ B by omega, trivial⟩⟩, h.2 _ _ (by omega)⟩, ⟨show l + 1 - 1 ≤ B by omega, trivial⟩⟩
theorem nst_ite {r : Nat} {v mb my : List In} (hv : ∀ q ∈ v, q.1 < 30) (h : NST r mb) (h2 : NST r my) : NST (r + 1) (v ++ [(30, 0)] ++ mb ++ [(31, 0)] ++ my ++ [(32, 0)]) := by
  have e1 : ∀ l, lvv [(30, 0)] l = l + 1 := fun _ => rfl
  have e2 : ∀ l, lvv [(31, 0)] l = l := fun _ => rfl
  refine ⟨fun l => ?_, fun l B hl => ?_⟩
  · rw [lvv_app, lvv_app, lvv_app, lvv_app, lvv_app, lvv_flat hv, e1, h.1, e2, h2.1]
    rfl
  · simp only [db_app, lvv_app, lvv_flat hv, e1, h.1, e2, h2.1]
    exact ⟨⟨⟨⟨⟨db_flat hv (by omega), ⟨show l + 1 ≤ B by omega, trivial⟩⟩, h.2 _ _ (by omega)⟩, ⟨show l + 1 ≤ B by omega, trivial⟩⟩, h2.2 _ _ (by omega)⟩, ⟨show l + 1 - 1 ≤ B by omega, trivial⟩⟩
theorem nst_loop {r k : Nat} {v mb : List In} (hv : ∀ q ∈ v, q.1 < 30) (h : NST r mb) : NST (r + 1) (v ++ [(33, k)] ++ mb ++ [(34, 0)]) := by
  have e1 : ∀ l, lvv [(33, k)] l = l + 1 := fun _ => rfl
  refine ⟨fun l => ?_, fun l B hl => ?_⟩
  · rw [lvv_app, lvv_app, lvv_app, lvv_flat hv, e1, h.1]
    rfl
  · simp only [db_app, lvv_app, lvv_flat hv, e1, h.1]
    exact ⟨⟨⟨db_flat hv (by omega), ⟨show l + 1 ≤ B by omega, trivial⟩⟩, h.2 _ _ (by omega)⟩, ⟨show l + 1 - 1 ≤ B by omega, trivial⟩⟩
def MDX (r : Nat) (P : Nat → MR) : Prop := ∀ i j c m, P i = some (j, c, m) → NST r m
section MDXS
variable {tx : Nat → Nat}
theorem mdx_rest {r : Nat} {B : Nat → MR} (hB : MDX r B) {pre : List In} {op k i : Nat} {c m : List In} (hp : (pre = [] ∧ op = 0) ∨ (SL pre 1 ∧ op = 16)) (h : mRest tx B pre op k = some (i, c, m)) : NST (r + 1) m := by
  unfold mRest at h
  split at h
  · cases h
  · obtain ⟨b, hb, h2⟩ := Option.bind_eq_some_iff.mp h
    obtain ⟨bi, bc, bm⟩ := b
    cases h2
    have e1 : pre ++ [(op, nv tx k (nd tx k)), (33, nv tx k (nd tx k))] ++ bm ++ [(34, 0)] = (pre ++ [(op, nv tx k (nd tx k))]) ++ [(33, nv tx k (nd tx k))] ++ bm ++ [(34, 0)] := by
      simp only [List.append_assoc, List.cons_append, List.nil_append]
    show NST (r + 1) (pre ++ [(op, nv tx k (nd tx k)), (33, nv tx k (nd tx k))] ++ bm ++ [(34, 0)])
    rw [e1]
    refine nst_loop (fun q hq => ?_) (hB _ _ _ _ hb)
    rcases List.mem_append.mp hq with hq | hq
    · rcases hp with ⟨rfl, -⟩ | ⟨h1, -⟩
      · cases hq
      · exact sl_flat h1 q hq
    · rw [List.mem_singleton.mp hq]
      rcases hp with ⟨-, rfl⟩ | ⟨-, rfl⟩
      · show (0 : Nat) < 30; decide
      · show (16 : Nat) < 30; decide
theorem mdx_stmt {r : Nat} {V S I : Nat → PR} {B : Nat → MR} (hV : PX V) (hS : PX S) (hI : PX I) (hB : MDX r B) : MDX (r + 1) (mStmt tx V S I B) := by
  intro i j c m h
  unfold mStmt at h
  split at h
  · obtain ⟨q, hq, h2⟩ := Option.bind_eq_some_iff.mp h
    split at h2
    · cases h2
      exact nst_flat (sl_flat (sl_end1 (hV _ _ _ hq) (Or.inr rfl) (by decide)))
    · cases h2
  split at h
  · unfold mChoice at h
    obtain ⟨q, hq, h2⟩ := Option.bind_eq_some_iff.mp h
    obtain ⟨b, hb, h3⟩ := Option.bind_eq_some_iff.mp h2
    obtain ⟨bi, bc, bm⟩ := b
    have hs := hB _ _ _ _ hb
    split at h3
    · obtain ⟨t, ht, h4⟩ := Option.bind_eq_some_iff.mp h3
      obtain ⟨ti, tc, tm⟩ := t
      have hs2 := hB _ _ _ _ ht
      cases h4
      exact nst_ite (sl_flat (hV _ _ _ hq)) hs hs2
    · cases h3
      exact nst_if (sl_flat (hV _ _ _ hq)) hs
  split at h
  · unfold mLoop at h
    split at h
    · exact mdx_rest hB (Or.inl ⟨rfl, rfl⟩) h
    · obtain ⟨q, hq, h2⟩ := Option.bind_eq_some_iff.mp h
      split at h2
      · exact mdx_rest hB (Or.inr ⟨hS _ _ _ hq, rfl⟩) h2
      · cases h2
  split at h
  · obtain ⟨q, hq, h2⟩ := Option.bind_eq_some_iff.mp h
    split at h2
    · split at h2
      · obtain ⟨t, ht, h3⟩ := Option.bind_eq_some_iff.mp h2
        split at h3
        · cases h3
          exact nst_flat (sl_flat (sl_end2 (hI _ _ _ hq) (hV _ _ _ ht)))
        · cases h3
      · cases h2
    · cases h2
  split at h
  · split at h
    · obtain ⟨t, ht, h3⟩ := Option.bind_eq_some_iff.mp h
      split at h3
      · cases h3
        exact nst_flat (sl_flat (sl_end1 (hV _ _ _ ht) (Or.inl rfl) (by omega)))
      · cases h3
    · cases h
  split at h
  · split at h
    · cases h
      exact nst_flat (fun q hq => by rw [List.mem_singleton.mp hq]; show (17 : Nat) < 30; decide)
    · cases h
  · cases h
theorem mdx_seq {r : Nat} {T : Nat → MR} (hT : MDX r T) : ∀ k i c m j c' m', mSeq tx T k i c m = some (j, c', m') → NST r m → NST r m'
  | 0, i, c, m, j, c', m', h, hs => by
    unfold mSeq at h
    split at h
    · cases h; exact hs
    · cases h
  | k + 1, i, c, m, j, c', m', h, hs => by
    unfold mSeq at h
    split at h
    · cases h; exact hs
    · obtain ⟨q, hq, h2⟩ := Option.bind_eq_some_iff.mp h
      obtain ⟨qi, qc, qm⟩ := q
      exact mdx_seq hT k _ _ _ j c' m' h2 (nst_app hs (hT _ _ _ _ hq))
theorem mdx_block {r : Nat} {T : Nat → MR} (hT : MDX r T) : MDX r (mBlock tx T) := by
  intro i j c m h
  unfold mBlock at h
  split at h
  · exact mdx_seq hT 200 _ _ _ _ _ _ h (nst_flat (fun q hq => by cases hq))
  · cases h
theorem mdx_T : ∀ r, MDX (r + 1) (mT tx r)
  | 0 => mdx_stmt (px_val (px_pu 0)) (px_sum (px_pu 0)) px_none (fun _ _ _ _ h => by cases h)
  | r + 1 => mdx_stmt (px_val (px_pu (r + 1))) (px_sum (px_pu (r + 1))) (px_val (px_pu r)) (mdx_block (mdx_T r))
theorem m1_nst {i j : Nat} {c m : List In} (h : m1 tx i = some (j, c, m)) : NST 6 m := mdx_block (mdx_T 5) i j c m h
end MDXS
