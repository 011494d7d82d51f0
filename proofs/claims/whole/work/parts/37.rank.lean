/-! A program's units: their structure, where they lie, PLAIN (rk) and their TIMES and DEPTHS (trT, trD). -/
abbrev TD : Type := Nat → (Nat → Nat) → Nat
def UP (tx : Nat → Nat) (u : UN) (M : Nat → List In) (T E : TD) : Prop := (∃ q, u 4 = some q) ∧ ∀ p q, u p = some q → p < 5 ∧ (∃ j, m1 tx q.1 = some (j, q.2, M p)) ∧ SB 6 q.2 (M p) (T p) (E p) ∧ q.2.length ≤ 200 ∧ ∀ x ∈ q.2, x.1 = 17 → x.2 < 4 ∧ u x.2 ≠ none
theorem up_of {tx : Nat → Nat} {n : Nat} {u : UN} (hn : ∀ i, tx i ≠ 0 → i < n) (hn2 : n ≤ 200) (h : pProg tx n = some u) : ∃ M T E, UP tx u M T E := by
  obtain ⟨h4, hs⟩ := pProg_spec hn hn2 h
  have ch : ∀ p, ∃ mte : List In × ((Nat → Nat) → Nat) × ((Nat → Nat) → Nat), ∀ q, u p = some q → (∃ j, m1 tx q.1 = some (j, q.2, mte.1)) ∧ SB 6 q.2 mte.1 mte.2.1 mte.2.2 := fun p => by
    cases hup : u p with
    | none => exact ⟨([], fun _ => 0, fun _ => 0), fun q hq => by cases hq⟩
    | some q =>
      obtain ⟨-, -, ⟨j, hj⟩, -⟩ := hs p q hup
      obtain ⟨m, T, E, hm, hsb⟩ := p1_sb hj
      exact ⟨(m, T, E), fun q' hq' => by cases hq'; exact ⟨⟨j, hm⟩, hsb⟩⟩
  refine ⟨fun p => (Classical.choose (ch p)).1, fun p => (Classical.choose (ch p)).2.1, fun p => (Classical.choose (ch p)).2.2, h4, fun p q hq => ?_⟩
  obtain ⟨a1, a2, ⟨j, hj⟩, a4⟩ := hs p q hq
  obtain ⟨b1, b2⟩ := Classical.choose_spec (ch p) q hq
  have hl := pl_block hn (pl_T hn 5) _ _ _ hj
  exact ⟨a1, b1, b2, by omega, a4⟩
theorem AT.mono {a b : List In} {s : Nat} {l : List In} (h : AT a s l) : AT (a ++ b) s l := fun j q hq => by
  have := h j q hq
  rw [List.getElem?_append_left (List.getElem?_eq_some_iff.mp this).1]
  exact this
theorem AT.end {a l : List In} : AT (a ++ l) a.length l := fun j q hq => by
  rw [List.getElem?_append_right (by omega), Nat.add_sub_cancel_left]
  exact hq
theorem uPart_pre {u : UN} {p : Nat} : ∀ k, p ≤ k → ∃ b, uPart u k = uPart u p ++ b
  | 0, h => ⟨[], by have : p = 0 := by omega
                    subst this; rw [List.append_nil]⟩
  | k + 1, h => by
    by_cases hk : p = k + 1
    · subst hk; exact ⟨[], by rw [List.append_nil]⟩
    · obtain ⟨b, hb⟩ := uPart_pre (u := u) (p := p) k (by omega)
      exact ⟨b ++ sh (uPart u k).length (uCode u k), by
        show uPart u k ++ _ = _
        rw [← List.append_assoc, ← hb]⟩
/-- a unit's code lies where uAt says -/
theorem u_at {u : UN} {p : Nat} {q : Nat × List In} (hp : p < 5) (h : u p = some q) (f : Nat → Nat) : AT (lk f (uPart u 4)) (uAt u p) (LC f (uAt u p) q.2 ++ [(if p = 4 then 19 else 18, 0)]) := by
  have e1 : ∀ s, LC f s (uCode u p) = LC f s q.2 ++ [(if p = 4 then 19 else 18, 0)] := fun s => by
    unfold uCode
    rw [h]
    dsimp only
    rw [LC_app]
    congr 1
    split <;> rfl
  by_cases h4 : p = 4
  · subst h4
    obtain ⟨b, hb⟩ := uPart_pre (u := u) (p := 0) 4 (by omega)
    rw [hb, lk_app, ← e1]
    refine AT.mono ?_
    have e2 : uAt u 4 = 0 := rfl
    have e3 : LC f 0 (uCode u 4) = lk f (uPart u 0) := by
      unfold LC
      rw [sh_0]
      rfl
    rw [e2, e3]
    have := AT.end (a := []) (l := lk f (uPart u 0))
    exact this
  · obtain ⟨b, hb⟩ := uPart_pre (u := u) (p := p + 1) 4 (by omega)
    have e2 : uAt u p = (uPart u p).length := by unfold uAt; rw [if_neg h4]
    rw [hb, lk_app, ← e1]
    refine AT.mono ?_
    show AT (lk f (uPart u p ++ sh (uPart u p).length (uCode u p))) _ _
    rw [lk_app, e2]
    have := AT.end (a := lk f (uPart u p)) (l := LC f (uPart u p).length (uCode u p))
    rw [lk_len] at this
    exact this
theorem u_len {u : UN} {p : Nat} {q : Nat × List In} (hp : p < 5) (h : u p = some q) : uAt u p + q.2.length < (uPart u 4).length := by
  have := u_at hp h (fun _ => 0)
  have := this.r.h
  have := (List.getElem?_eq_some_iff.mp this).1
  rw [LC_len, lk_len] at this
  exact this
theorem u_lt {u : UN} {p r : Nat} {q : Nat × List In} (hr : r < 4) (hp : p < r) (h : u p = some q) : uAt u p + q.2.length < uAt u r := by
  obtain ⟨b, hb⟩ := uPart_pre (u := u) (p := p + 1) r (by omega)
  have e1 : uAt u r = (uPart u r).length := by unfold uAt; rw [if_neg (by omega)]
  have e2 : uAt u p = (uPart u p).length := by unfold uAt; rw [if_neg (by omega)]
  have e3 : uPart u (p + 1) = uPart u p ++ sh (uPart u p).length (uCode u p) := rfl
  rw [e1, e2, hb, e3]
  unfold uCode
  rw [h]
  simp only [List.length_append, sh_len, List.length_cons, List.length_nil]
  omega
/-! PLAIN -/
def rk (u : UN) : Nat → Nat → Prop
  | 0, _ => False
  | n + 1, p => ∃ q, u p = some q ∧ ∀ x ∈ q.2, x.1 = 17 → rk u n x.2
theorem rk_s {u : UN} : ∀ n p, rk u n p → rk u (n + 1) p
  | 0, p, h => h.elim
  | n + 1, p, h => by
    obtain ⟨q, h1, h2⟩ := h
    exact ⟨q, h1, fun x hx e => rk_s n _ (h2 x hx e)⟩
theorem rk_le {u : UN} {n m p : Nat} (h : rk u n p) (hm : n ≤ m) : rk u m p := by
  induction m with
  | zero =>
    have : n = 0 := by omega
    subst this
    exact h
  | succ m ih =>
    by_cases e : n = m + 1
    · subst e; exact h
    · exact rk_s m p (ih (by omega))
noncomputable def rb (u : UN) (n p : Nat) : Nat := @ite Nat (rk u n p) (Classical.propDecidable _) 1 0
theorem rb_1 {u : UN} {n p : Nat} (h : rk u n p) : rb u n p = 1 := by unfold rb; exact if_pos h
theorem rb_0 {u : UN} {n p : Nat} (h : ¬ rk u n p) : rb u n p = 0 := by unfold rb; exact if_neg h
theorem rb_le (u : UN) (n p : Nat) : rb u n p ≤ 1 := by
  by_cases h : rk u n p
  · rw [rb_1 h]; exact Nat.le_refl _
  · rw [rb_0 h]; omega
theorem rb_s (u : UN) (n p : Nat) : rb u n p ≤ rb u (n + 1) p := by
  by_cases h : rk u n p
  · rw [rb_1 h, rb_1 (rk_s n p h)]; exact Nat.le_refl _
  · rw [rb_0 h]; omega
theorem rb_lt {u : UN} {n p : Nat} (h : rk u (n + 1) p) (h2 : ¬ rk u n p) : rb u n p + 1 = rb u (n + 1) p := by rw [rb_1 h, rb_0 h2]
section RK
variable {u : UN}
theorem rk_stab (hc : ∀ p q, u p = some q → ∀ x ∈ q.2, x.1 = 17 → x.2 < 4) {n : Nat} (h : ∀ p, p < 4 → rk u (n + 1) p → rk u n p) : ∀ p, p < 4 → rk u (n + 2) p → rk u (n + 1) p := fun p _ hr => by
  obtain ⟨q, h1, h2⟩ := hr
  exact ⟨q, h1, fun x hx e => h _ (hc p q h1 x hx e) (h2 x hx e)⟩
theorem rk_cnt (hc : ∀ p q, u p = some q → ∀ x ∈ q.2, x.1 = 17 → x.2 < 4) : ∀ n, (∀ p, p < 4 → rk u (n + 1) p → rk u n p) ∨ n + 1 ≤ rb u (n + 1) 0 + rb u (n + 1) 1 + rb u (n + 1) 2 + rb u (n + 1) 3 := by
  have step : ∀ n, n ≤ rb u n 0 + rb u n 1 + rb u n 2 + rb u n 3 → (∀ p, p < 4 → rk u (n + 1) p → rk u n p) ∨ n + 1 ≤ rb u (n + 1) 0 + rb u (n + 1) 1 + rb u (n + 1) 2 + rb u (n + 1) 3 := by
    intro n hn
    by_cases h : ∀ p, p < 4 → rk u (n + 1) p → rk u n p
    · exact Or.inl h
    · right
      obtain ⟨p, hp⟩ := Classical.not_forall.mp h
      obtain ⟨hp4, hp2⟩ := Classical.not_imp.mp hp
      obtain ⟨h1, h2⟩ := Classical.not_imp.mp hp2
      have := rb_lt h1 h2
      have a0 := rb_s u n 0
      have a1 := rb_s u n 1
      have a2 := rb_s u n 2
      have a3 := rb_s u n 3
      have : p = 0 ∨ p = 1 ∨ p = 2 ∨ p = 3 := by omega
      rcases this with rfl | rfl | rfl | rfl <;> omega
  intro n
  induction n with
  | zero => exact step 0 (Nat.zero_le _)
  | succ n ih =>
    rcases ih with ih | ih
    · exact Or.inl (rk_stab hc ih)
    · exact step (n + 1) ih
theorem rk_4 (hc : ∀ p q, u p = some q → ∀ x ∈ q.2, x.1 = 17 → x.2 < 4) {n p : Nat} (hp : p < 4) (h : rk u n p) : rk u 4 p := by
  have s4 : ∀ p, p < 4 → rk u 5 p → rk u 4 p := by
    rcases rk_cnt hc 4 with h | h
    · exact h
    · have a0 := rb_le u 5 0
      have a1 := rb_le u 5 1
      have a2 := rb_le u 5 2
      have a3 := rb_le u 5 3
      simp only [Nat.reduceAdd] at h
      omega
  have sm : ∀ m p, p < 4 → rk u (4 + m + 1) p → rk u (4 + m) p := by
    intro m
    induction m with
    | zero => exact s4
    | succ m ih => exact rk_stab hc ih
  have dn : ∀ m p, p < 4 → rk u (4 + m) p → rk u 4 p := by
    intro m
    induction m with
    | zero => exact fun p _ h => h
    | succ m ih => exact fun p hp h => ih p hp (sm m p hp h)
  exact dn n p hp (rk_le h (by omega))
end RK
/-- TIME and DEPTH, by how deep calls are in one another -/
def trT (T : TD) : Nat → Nat → Nat
  | 0, _ => 0
  | n + 1, p => T p (trT T n) + (if p = 4 then 0 else 3)
def trD (E : TD) : Nat → Nat → Nat
  | 0, _ => 0
  | n + 1, p => E p (trD E n)
theorem tr_stab {tx : Nat → Nat} {u : UN} {M : Nat → List In} {T E : TD} (hu : UP tx u M T E) : ∀ n p, rk u n p → trT T (n + 1) p = trT T n p ∧ trD E (n + 1) p = trD E n p
  | 0, p, h => h.elim
  | n + 1, p, h => by
    obtain ⟨q, h1, h2⟩ := h
    have hs := (hu.2 p q h1).2.2.1.1
    have a := sc_T hs (t := trT T (n + 1)) (t' := trT T n) (fun x hx e => (tr_stab hu n _ (h2 x hx e)).1)
    have b := sc_D hs (t := trD E (n + 1)) (t' := trD E n) (fun x hx e => (tr_stab hu n _ (h2 x hx e)).2)
    show T p (trT T (n + 1)) + _ = T p (trT T n) + _ ∧ E p (trD E (n + 1)) = E p (trD E n)
    rw [a, b]
    exact ⟨rfl, rfl⟩
