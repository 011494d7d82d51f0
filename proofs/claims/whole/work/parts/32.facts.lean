/-! More of structured code: its bounds, what they hang on, where it lies. -/
theorem sc_nil {c m : List In} {T D : (Nat → Nat) → Nat} (h : SC c m T D) (hc : c = []) (t : Nat → Nat) : T t = 0 ∧ D t = 0 := by
  refine h (fun c _ T D => c = [] → ∀ t, T t = 0 ∧ D t = 0) ⟨fun _ _ => ⟨rfl, rfl⟩, ?_, ?_, ?_, ?_, ?_, ?_⟩ hc t
  · intro c1 _ T1 D1 c2 _ T2 D2 h1 h2 hc t
    obtain ⟨a, b⟩ := List.append_eq_nil_iff.mp hc
    have b2 : c2 = [] := by unfold sh at b; exact List.map_eq_nil_iff.mp b
    have := h1 a t
    have := h2 b2 t
    dsimp only
    omega
  · intro c _ e t
    subst e
    exact ⟨rfl, rfl⟩
  · intro v b _ T D _ _ e
    simp at e
  · intro v b _ T D t _ T2 D2 _ _ _ e
    simp at e
  · intro p op k b _ T D _ _ _ _ e
    simp at e
  · intro p _ e
    cases e
theorem cs1_le (o : Nat) : cs1 o ≤ 20 := by
  unfold cs1
  by_cases h : o < 20
  · have : ∀ o, o < 20 → ([1, 2, 2, 4, 4, 1, 1, 5, 20, 1, 1, 1, 6, 1, 2, 1, 2, 4, 3, 0] : List Nat).getD o 0 ≤ 20 := by decide
    exact this o h
  · rw [List.getD_eq_getElem?_getD, List.getElem?_eq_none (by simp; omega)]
    decide
theorem cst_cons (q : In) (c : List In) : cst (q :: c) = cs1 q.1 + cst c := by unfold cst; rw [List.map_cons, List.sum_cons]
theorem cst_app (a b : List In) : cst (a ++ b) = cst a + cst b := by unfold cst; rw [List.map_append, List.sum_append]
theorem cst_le : ∀ c : List In, cst c ≤ 20 * c.length
  | [] => Nat.le_refl _
  | q :: c => by
    have := cst_le c
    have := cs1_le q.1
    rw [cst_cons, List.length_cons]
    omega
theorem nh_le (o h : Nat) : (nh o h).getD 0 ≤ h + 1 := by
  unfold nh
  split
  · exact Nat.le_refl _
  split
  · split <;> simp
  split
  · split <;> simp <;> omega
  split
  · split <;> simp <;> omega
  split
  · split <;> simp <;> omega
  · simp
theorem mh_le : ∀ (c : List In) h m, mh c h m ≤ max m (h + c.length)
  | [], h, m => by unfold mh; omega
  | q :: c, h, m => by
    unfold mh
    have := mh_le c ((nh q.1 h).getD 0) (max m ((nh q.1 h).getD 0))
    have := nh_le q.1 h
    rw [List.length_cons]
    omega
theorem mem_sh17 {k : Nat} {c : List In} {q : In} (hq : q ∈ c) (h : q.1 = 17) : q ∈ sh k c := by
  unfold sh
  refine List.mem_map.mpr ⟨q, hq, ?_⟩
  rw [if_neg (by omega)]
/-- DEPTH: no more than the instructions, and that of a called procedure -/
theorem sc_dep {c m : List In} {T D : (Nat → Nat) → Nat} (h : SC c m T D) {d : Nat → Nat} {M : Nat} (hd : ∀ p, p < 4 → d p ≤ M) : D d ≤ c.length + M := by
  refine h (fun c _ _ D => D d ≤ c.length + M) ⟨Nat.zero_le _, ?_, ?_, ?_, ?_, ?_, ?_⟩
  · intro c1 _ T1 D1 c2 _ T2 D2 h1 h2
    rw [List.length_append, sh_len]
    dsimp only at h1 h2 ⊢
    omega
  · intro c _
    have := mh_le c 0 0
    dsimp only
    omega
  · intro v b _ T D _ h
    have := mh_le v 0 0
    simp only [List.length_append, List.length_cons, List.length_nil, sh_len]
    omega
  · intro v b _ T D t _ T2 D2 _ h h2
    have := mh_le v 0 0
    simp only [List.length_append, List.length_cons, List.length_nil, sh_len]
    omega
  · intro p op k b _ T D _ _ _ h
    have := mh_le (p ++ [(op, k)]) 0 0
    simp only [List.length_append, List.length_cons, List.length_nil, sh_len] at this ⊢
    split <;> omega
  · intro p hp
    have := hd p hp
    dsimp only [List.length_cons, List.length_nil]
    omega
/-- two numbers that are the same, or both K or more -/
def EK (K a b : Nat) : Prop := a = b ∨ (K ≤ a ∧ K ≤ b)
theorem sc_ek {c m : List In} {T D : (Nat → Nat) → Nat} (h : SC c m T D) : ∀ K t t', (∀ q ∈ c, q.1 = 17 → EK K (t q.2) (t' q.2)) → EK K (T t) (T t') := by
  refine h (fun c _ T _ => ∀ K t t', (∀ q ∈ c, q.1 = 17 → EK K (t q.2) (t' q.2)) → EK K (T t) (T t')) ⟨fun _ _ _ _ => Or.inl rfl, ?_, ?_, ?_, ?_, ?_, ?_⟩
  · intro c1 _ T1 D1 c2 _ T2 D2 h1 h2 K t t' h
    have a := h1 K t t' (fun q hq e => h q (List.mem_append_left _ hq) e)
    have b := h2 K t t' (fun q hq e => h q (List.mem_append_right _ (mem_sh17 hq e)) e)
    unfold EK at a b ⊢
    dsimp only
    omega
  · intro c _ K t t' _
    exact Or.inl rfl
  · intro v b _ T D _ h1 K t t' h
    have a := h1 K t t' (fun q hq e => h q (List.mem_append_right _ (mem_sh17 hq e)) e)
    unfold EK at a ⊢
    dsimp only
    omega
  · intro v b _ T D y _ T2 D2 _ h1 h2 K t t' h
    have a := h1 K t t' (fun q hq e => h q (List.mem_append_left _ (List.mem_append_left _ (List.mem_append_right _ (mem_sh17 hq e)))) e)
    have b := h2 K t t' (fun q hq e => h q (List.mem_append_right _ (mem_sh17 hq e)) e)
    unfold EK at a b ⊢
    dsimp only
    omega
  · intro p op k b _ T D _ _ _ h1 K t t' h
    have a := h1 K t t' (fun q hq e => h q (List.mem_append_left _ (List.mem_append_right _ (mem_sh17 hq e))) e)
    unfold EK at a ⊢
    dsimp only
    rcases a with a | ⟨a1, a2⟩
    · rw [a]; exact Or.inl rfl
    · rcases Nat.eq_zero_or_pos k with rfl | hk
      · left; simp
      · have g1 : 3 + T t ≤ k * (3 + T t) := Nat.le_mul_of_pos_left _ hk
        have g2 : 3 + T t' ≤ k * (3 + T t') := Nat.le_mul_of_pos_left _ hk
        right
        omega
  · intro p hp K t t' h
    have a := h (17, p) (List.mem_singleton.mpr rfl) rfl
    unfold EK at a ⊢
    dsimp only at a ⊢
    omega
theorem sc_T {c m : List In} {T D : (Nat → Nat) → Nat} (h : SC c m T D) {t t' : Nat → Nat} (ht : ∀ q ∈ c, q.1 = 17 → t q.2 = t' q.2) : T t = T t' := by
  have := sc_ek h (T t + 1) t t' (fun q hq e => Or.inl (ht q hq e))
  unfold EK at this
  omega
theorem sc_D {c m : List In} {T D : (Nat → Nat) → Nat} (h : SC c m T D) : ∀ {t t' : Nat → Nat}, (∀ q ∈ c, q.1 = 17 → t q.2 = t' q.2) → D t = D t' := by
  intro t t'
  refine h (fun c _ _ D => (∀ q ∈ c, q.1 = 17 → t q.2 = t' q.2) → D t = D t') ⟨fun _ => rfl, ?_, ?_, ?_, ?_, ?_, ?_⟩
  · intro c1 _ T1 D1 c2 _ T2 D2 h1 h2 h
    have a := h1 (fun q hq e => h q (List.mem_append_left _ hq) e)
    have b := h2 (fun q hq e => h q (List.mem_append_right _ (mem_sh17 hq e)) e)
    dsimp only at a b ⊢
    rw [a, b]
  · intro c _ _
    rfl
  · intro v b _ T D _ h1 h
    have a := h1 (fun q hq e => h q (List.mem_append_right _ (mem_sh17 hq e)) e)
    dsimp only at a ⊢
    rw [a]
  · intro v b _ T D y _ T2 D2 _ h1 h2 h
    have a := h1 (fun q hq e => h q (List.mem_append_left _ (List.mem_append_left _ (List.mem_append_right _ (mem_sh17 hq e)))) e)
    have b := h2 (fun q hq e => h q (List.mem_append_right _ (mem_sh17 hq e)) e)
    dsimp only at a b ⊢
    rw [a, b]
  · intro p op k b _ T D _ _ _ h1 h
    have a := h1 (fun q hq e => h q (List.mem_append_left _ (List.mem_append_right _ (mem_sh17 hq e))) e)
    dsimp only at a ⊢
    rw [a]
  · intro p hp h
    have a := h (17, p) (List.mem_singleton.mpr rfl) rfl
    dsimp only at a ⊢
    rw [a]
/-- TIME of blocks in r others, at most -/
def BT (r : Nat) : Nat := 20005 * 100 ^ r
theorem BT_pos (r : Nat) : 20005 ≤ BT r := Nat.le_mul_of_pos_right _ (Nat.pow_pos (by decide))
theorem BT_s (r : Nat) : BT (r + 1) = 100 * BT r := by unfold BT; rw [Nat.pow_succ]; omega
def SB (r : Nat) (c m : List In) (T D : (Nat → Nat) → Nat) : Prop := SC c m T D ∧ ∀ t : Nat → Nat, (∀ p, p < 4 → t p ≤ 20001) → T t ≤ c.length * BT r
theorem sb_lin (v B : Nat) (hB : 20005 ≤ B) : 20 * v ≤ v * B := by
  rw [Nat.mul_comm v B]
  exact Nat.mul_le_mul (by omega) (Nat.le_refl _)
theorem sb_sl {r : Nat} {c : List In} (h : SL c 0) : SB r c c (fun _ => cst c) (fun _ => mh c 0 0) := ⟨SC.rules.2.2.1 c h, fun t _ => Nat.le_trans (cst_le c) (sb_lin _ _ (BT_pos r))⟩
theorem sb_nil {r : Nat} : SB r [] [] (fun _ => 0) (fun _ => 0) := ⟨SC.rules.1, fun t _ => Nat.zero_le _⟩
theorem sb_seq {r : Nat} {c1 m1 : List In} {T1 D1 : (Nat → Nat) → Nat} {c2 m2 : List In} {T2 D2 : (Nat → Nat) → Nat} (h1 : SB r c1 m1 T1 D1) (h2 : SB r c2 m2 T2 D2) : SB r (c1 ++ sh c1.length c2) (m1 ++ m2) (fun t => T1 t + T2 t) (fun d => max (D1 d) (D2 d)) :=
  ⟨SC.rules.2.1 _ _ _ _ _ _ _ _ h1.1 h2.1, fun t ht => by
    have a := h1.2 t ht
    have b := h2.2 t ht
    rw [List.length_append, sh_len, Nat.add_mul]
    dsimp only
    omega⟩
theorem sb_if {r : Nat} {v b mb : List In} {T D : (Nat → Nat) → Nat} (hv : SL v 1) (h : SB r b mb T D) : SB (r + 1) (v ++ [(13, v.length + 1 + b.length)] ++ sh (v.length + 1) b) (v ++ [(30, 0)] ++ mb ++ [(32, 0)]) (fun t => cst v + max 3 (1 + T t)) (fun d => max (mh v 0 0) (D d)) :=
  ⟨SC.rules.2.2.2.1 v b mb T D hv h.1, fun t ht => by
    have a := h.2 t ht
    have g := Nat.le_trans (cst_le v) (sb_lin _ _ (BT_pos r))
    have g2 := BT_pos r
    simp only [List.length_append, List.length_cons, List.length_nil, sh_len]
    rw [BT_s]
    have e : (v.length + (0 + 1) + b.length) * (100 * BT r) = 100 * (v.length * BT r) + 100 * BT r + 100 * (b.length * BT r) := by
      rw [Nat.add_mul, Nat.add_mul, Nat.mul_left_comm, Nat.mul_left_comm b.length]; omega
    rw [e]
    omega⟩
theorem sb_ite {r : Nat} {v b mb : List In} {T D : (Nat → Nat) → Nat} {y my : List In} {T2 D2 : (Nat → Nat) → Nat} (hv : SL v 1) (h : SB r b mb T D) (h2 : SB r y my T2 D2) : SB (r + 1) (v ++ [(13, v.length + 2 + b.length)] ++ sh (v.length + 1) b ++ [(14, v.length + 2 + b.length + y.length)] ++ sh (v.length + 2 + b.length) y) (v ++ [(30, 0)] ++ mb ++ [(31, 0)] ++ my ++ [(32, 0)]) (fun x => cst v + max (3 + T x) (3 + T2 x)) (fun d => max (mh v 0 0) (max (D d) (D2 d))) :=
  ⟨SC.rules.2.2.2.2.1 v b mb T D y my T2 D2 hv h.1 h2.1, fun t ht => by
    have a := h.2 t ht
    have a2 := h2.2 t ht
    have g := Nat.le_trans (cst_le v) (sb_lin _ _ (BT_pos r))
    have g2 := BT_pos r
    simp only [List.length_append, List.length_cons, List.length_nil, sh_len]
    rw [BT_s]
    have e : (v.length + (0 + 1) + b.length + (0 + 1) + y.length) * (100 * BT r) = 100 * (v.length * BT r) + 100 * BT r + 100 * (b.length * BT r) + 100 * BT r + 100 * (y.length * BT r) := by
      rw [Nat.add_mul, Nat.add_mul, Nat.add_mul, Nat.add_mul, Nat.mul_left_comm, Nat.mul_left_comm b.length, Nat.mul_left_comm y.length]; omega
    rw [e]
    omega⟩
theorem sb_loop {r : Nat} {p : List In} {op k : Nat} {b mb : List In} {T D : (Nat → Nat) → Nat} (hp : SL (p ++ [(op, k)]) 1) (ho : op = 0 ∨ op = 16) (hk : k ≤ 99) (h : SB r b mb T D) : SB (r + 1) (p ++ [(op, k), (15, p.length + 3 + b.length)] ++ sh (p.length + 2) b ++ [(14, p.length + 1)]) (p ++ [(op, k), (33, k)] ++ mb ++ [(34, 0)]) (fun t => cst (p ++ [(op, k)]) + (k * (3 + T t) + 3)) (fun d => max (mh (p ++ [(op, k)]) 0 0) (if k = 0 then 0 else 1 + D d)) :=
  ⟨SC.rules.2.2.2.2.2.1 p op k b mb T D hp ho hk h.1, fun t ht => by
    have a := h.2 t ht
    have g := cst_le (p ++ [(op, k)])
    have g2 := BT_pos r
    have g3 : k * (3 + T t) ≤ 99 * (3 + T t) := Nat.mul_le_mul hk (Nat.le_refl _)
    simp only [List.length_append, List.length_cons, List.length_nil, sh_len] at g ⊢
    rw [BT_s]
    have e : (p.length + (0 + 1 + 1) + b.length + (0 + 1)) * (100 * BT r) = 100 * (p.length * BT r) + 200 * BT r + 100 * (b.length * BT r) + 100 * BT r := by
      rw [Nat.add_mul, Nat.add_mul, Nat.add_mul, Nat.mul_left_comm, Nat.mul_left_comm b.length]; omega
    have g4 := sb_lin p.length (BT r) g2
    rw [e]
    omega⟩
theorem sb_call {r p : Nat} (hp : p < 4) : SB r [(17, p)] [(17, p)] (fun t => 4 + t p) (fun d => 1 + d p) :=
  ⟨SC.rules.2.2.2.2.2.2 p hp, fun t ht => by
    have := ht p hp
    have := BT_pos r
    simp only [List.length_cons, List.length_nil]
    omega⟩
def MXB (r : Nat) (P : Nat → MR) : Prop := ∀ i j c m, P i = some (j, c, m) → ∃ T D, SB r c m T D
section MXBS
variable {tx : Nat → Nat}
theorem mxb_none {r : Nat} : MXB r (fun _ => none) := fun _ _ _ _ h => by cases h
theorem mxb_rest {r : Nat} {B : Nat → MR} (hB : MXB r B) {pre : List In} {op k i : Nat} {c m : List In} (hp : (pre = [] ∧ op = 0) ∨ (SL pre 1 ∧ op = 16)) (h : mRest tx B pre op k = some (i, c, m)) : ∃ T D, SB (r + 1) c m T D := by
  unfold mRest at h
  split at h
  · cases h
  · rename_i h0
    obtain ⟨b, hb, h2⟩ := Option.bind_eq_some_iff.mp h
    obtain ⟨bi, bc, bm⟩ := b
    cases h2
    obtain ⟨T, D, hs⟩ := hB _ _ _ _ hb
    have hv := nv_lt3 (tx := tx) (i := k) (Nat.le_refl (nd tx k))
    refine ⟨_, _, sb_loop ?_ ?_ (by omega) hs⟩
    · rcases hp with ⟨rfl, rfl⟩ | ⟨h1, rfl⟩
      · exact sl_push hv
      · exact sl_lim h1 (by omega)
    · rcases hp with ⟨-, h1⟩ | ⟨-, h1⟩
      · exact Or.inl h1
      · exact Or.inr h1
theorem mxb_stmt {r : Nat} {V S I : Nat → PR} {B : Nat → MR} (hV : PX V) (hS : PX S) (hI : PX I) (hB : MXB r B) : MXB (r + 1) (mStmt tx V S I B) := by
  intro i j c m h
  unfold mStmt at h
  split at h
  · obtain ⟨q, hq, h2⟩ := Option.bind_eq_some_iff.mp h
    split at h2
    · cases h2
      exact ⟨_, _, sb_sl (sl_end1 (hV _ _ _ hq) (Or.inr rfl) (by decide))⟩
    · cases h2
  split at h
  · unfold mChoice at h
    obtain ⟨q, hq, h2⟩ := Option.bind_eq_some_iff.mp h
    obtain ⟨b, hb, h3⟩ := Option.bind_eq_some_iff.mp h2
    obtain ⟨bi, bc, bm⟩ := b
    obtain ⟨T, D, hs⟩ := hB _ _ _ _ hb
    split at h3
    · obtain ⟨t, ht, h4⟩ := Option.bind_eq_some_iff.mp h3
      obtain ⟨ti, tc, tm⟩ := t
      obtain ⟨T2, D2, hs2⟩ := hB _ _ _ _ ht
      cases h4
      exact ⟨_, _, sb_ite (hV _ _ _ hq) hs hs2⟩
    · cases h3
      exact ⟨_, _, sb_if (hV _ _ _ hq) hs⟩
  split at h
  · unfold mLoop at h
    split at h
    · exact mxb_rest hB (Or.inl ⟨rfl, rfl⟩) h
    · obtain ⟨q, hq, h2⟩ := Option.bind_eq_some_iff.mp h
      split at h2
      · exact mxb_rest hB (Or.inr ⟨hS _ _ _ hq, rfl⟩) h2
      · cases h2
  split at h
  · obtain ⟨q, hq, h2⟩ := Option.bind_eq_some_iff.mp h
    split at h2
    · split at h2
      · obtain ⟨t, ht, h3⟩ := Option.bind_eq_some_iff.mp h2
        split at h3
        · cases h3
          exact ⟨_, _, sb_sl (sl_end2 (hI _ _ _ hq) (hV _ _ _ ht))⟩
        · cases h3
      · cases h2
    · cases h2
  split at h
  · split at h
    · obtain ⟨t, ht, h3⟩ := Option.bind_eq_some_iff.mp h
      split at h3
      · cases h3
        exact ⟨_, _, sb_sl (sl_end1 (hV _ _ _ ht) (Or.inl rfl) (by omega))⟩
      · cases h3
    · cases h
  split at h
  · split at h
    · cases h
      exact ⟨_, _, sb_call (by omega)⟩
    · cases h
  · cases h
theorem mxb_seq {r : Nat} {T : Nat → MR} (hT : MXB r T) : ∀ k i c m j c' m', mSeq tx T k i c m = some (j, c', m') → (∃ T D, SB r c m T D) → ∃ T D, SB r c' m' T D
  | 0, i, c, m, j, c', m', h, hs => by
    unfold mSeq at h
    split at h
    · cases h; exact hs
    · cases h
  | k + 1, i, c, m, j, c', m', h, hs => by
    unfold mSeq at h
    split at h
    · cases h; exact hs
    · obtain ⟨q, hq, h2⟩ := Option.bind_eq_some_iff.mp h
      obtain ⟨qi, qc, qm⟩ := q
      obtain ⟨T1, D1, h1⟩ := hs
      obtain ⟨T2, D2, h3⟩ := hT _ _ _ _ hq
      exact mxb_seq hT k _ _ _ j c' m' h2 ⟨_, _, sb_seq h1 h3⟩
theorem mxb_block {r : Nat} {T : Nat → MR} (hT : MXB r T) : MXB r (mBlock tx T) := by
  intro i j c m h
  unfold mBlock at h
  split at h
  · exact mxb_seq hT 200 _ _ _ _ _ _ h ⟨_, _, sb_nil⟩
  · cases h
theorem mxb_T : ∀ r, MXB (r + 1) (mT tx r)
  | 0 => mxb_stmt (px_val (px_pu 0)) (px_sum (px_pu 0)) px_none mxb_none
  | r + 1 => mxb_stmt (px_val (px_pu (r + 1))) (px_sum (px_pu (r + 1))) (px_val (px_pu r)) (mxb_block (mxb_T r))
end MXBS
theorem p1_sb {tx : Nat → Nat} {i j : Nat} {c : List In} (h : p1 tx i = some (j, c)) : ∃ m T D, m1 tx i = some (j, c, m) ∧ SB 6 c m T D := by
  rw [← fg_m1] at h
  obtain ⟨⟨a, b, m⟩, hm, he⟩ := Option.map_eq_some_iff.mp h
  cases he
  obtain ⟨T, D, hs⟩ := mxb_block (mxb_T 5) _ _ _ _ hm
  exact ⟨m, T, D, hm, hs⟩
/-! Code from an instruction s on, its calls by where they go. -/
def LC (f : Nat → Nat) (s : Nat) (c : List In) : List In := lk f (sh s c)
theorem LC_len (f : Nat → Nat) (s : Nat) (c : List In) : (LC f s c).length = c.length := by unfold LC; rw [lk_len, sh_len]
theorem lk_app (f : Nat → Nat) (a b : List In) : lk f (a ++ b) = lk f a ++ lk f b := by unfold lk; rw [List.map_append]
theorem LC_app (f : Nat → Nat) (s : Nat) (a b : List In) : LC f s (a ++ b) = LC f s a ++ LC f s b := by unfold LC; rw [sh_app, lk_app]
theorem LC_sh (f : Nat → Nat) (s k : Nat) (c : List In) : LC f s (sh k c) = LC f (k + s) c := by unfold LC; rw [sh_sh]
theorem LC_sl {f : Nat → Nat} {s e : Nat} {c : List In} (h : SL c e) : LC f s c = c := by
  have h1 : sh s c = c := by
    unfold sh
    have : ∀ q ∈ c, (fun q : In => if q.1 = 13 ∨ q.1 = 14 ∨ q.1 = 15 then (q.1, q.2 + s) else q) q = id q := fun q hq => by
      have := (cb_sl h hq).2.2.1
      dsimp only
      rw [if_neg this]
      rfl
    rw [List.map_congr_left this, List.map_id]
  unfold LC
  rw [h1]
  unfold lk
  have : ∀ q ∈ c, lk1 f q = id q := fun q hq => by
    have := (cb_sl h hq).2.1
    unfold lk1
    rw [if_neg (by omega)]
    rfl
  rw [List.map_congr_left this, List.map_id]
theorem LC_j {f : Nat → Nat} {s o a : Nat} (h : o = 13 ∨ o = 14 ∨ o = 15) : LC f s [(o, a)] = [(o, a + s)] := by
  unfold LC sh lk
  simp only [List.map_cons, List.map_nil]
  rw [if_pos h]
  unfold lk1
  rw [if_neg (by dsimp only; omega)]
theorem LC_c {f : Nat → Nat} {s p : Nat} (h : p < 4) : LC f s [(17, p)] = [(17, f p)] := by
  unfold LC sh lk
  simp only [List.map_cons, List.map_nil]
  rw [if_neg (by omega)]
  unfold lk1
  rw [if_pos ⟨rfl, h⟩]
def AT (C : List In) (s : Nat) (l : List In) : Prop := ∀ j q, l[j]? = some q → C[s + j]? = some q
theorem AT.l {C : List In} {s : Nat} {a b : List In} (h : AT C s (a ++ b)) : AT C s a := fun j q hq => h j q (by rw [List.getElem?_append_left (List.getElem?_eq_some_iff.mp hq).1]; exact hq)
theorem AT.r {C : List In} {s : Nat} {a b : List In} (h : AT C s (a ++ b)) : AT C (s + a.length) b := fun j q hq => by
  have := h (a.length + j) q (by rw [List.getElem?_append_right (by omega), Nat.add_sub_cancel_left]; exact hq)
  rw [← Nat.add_assoc] at this
  exact this
theorem AT.h {C : List In} {s : Nat} {q : In} {l : List In} (h : AT C s (q :: l)) : C[s]? = some q := h 0 q rfl
theorem AT.t {C : List In} {s : Nat} {q : In} {l : List In} (h : AT C s (q :: l)) : AT C (s + 1) l := fun j q' hq => by
  have := h (j + 1) q' hq
  rw [Nat.add_assoc, Nat.add_comm 1 j]
  exact this
