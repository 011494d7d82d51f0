/-! The reference: arrange and compile. -/
theorem u_cover {u : UN} : ∀ k, k ≤ 4 → ∀ j, j < (uPart u k).length → ∃ p q, (p = 4 ∨ p < k) ∧ u p = some q ∧ uAt u p ≤ j ∧ j ≤ uAt u p + q.2.length
  | 0, _, j, hj => by
    have hj : j < (uCode u 4).length := hj
    unfold uCode at hj
    cases h : u 4 with
    | none => rw [h] at hj; simp at hj
    | some q =>
      rw [h] at hj
      simp only [List.length_append, List.length_cons, List.length_nil] at hj
      refine ⟨4, q, Or.inl rfl, h, ?_, ?_⟩
      · show (0 : Nat) ≤ j
        omega
      · show j ≤ 0 + q.2.length
        omega
  | k + 1, hk, j, hj => by
    have hj : j < (uPart u k ++ sh (uPart u k).length (uCode u k)).length := hj
    rw [List.length_append, sh_len] at hj
    by_cases h1 : j < (uPart u k).length
    · obtain ⟨p, q, a, b, c⟩ := u_cover k (by omega) j h1
      exact ⟨p, q, by omega, b, c⟩
    · have e1 : uAt u k = (uPart u k).length := by unfold uAt; rw [if_neg (by omega)]
      unfold uCode at hj
      cases h : u k with
      | none => rw [h] at hj; simp at hj; omega
      | some q =>
        rw [h] at hj
        simp only [List.length_append, List.length_cons, List.length_nil] at hj
        exact ⟨k, q, by omega, h, by omega, by omega⟩
def LM (av : Nat → Nat → Int32) (C : List In) : Prop := ∀ j o a, C[j]? = some (o, a) → av 51 j = nI o ∧ av 52 j = nI a
theorem nar_there {u : UN} {p : Nat} : vp_nar .boolean (if u p = none then 0 else 1) = if u p = none then 0 else 1 := by
  split
  · rfl
  · rfl
section MAR
variable {d D n : Nat} {iv : Nat → Int32} {av : Nat → Nat → Int32} {lv : Nat → Nat → Int64} {tx : Nat → Nat} {u : UN} {K Mk : List In} {F G : Nat → Nat} {M : Nat → List In} {T E : TD}
/-- unit p placed from instruction i on -/
theorem ar_in {p : Nat} {c : Nat × List In} {a2 : Int32} (hp : p < 5) (hq : u p = some c) (e34 : av 34 p = nI (F p + c.2.length + 1)) (hfl : F p + c.2.length + 1 ≤ 400) (hul : uAt u p + c.2.length + 1 ≤ 400) : ∀ w i av1, w + i = c.2.length + 1 → av1 34 = av 34 →
    ∃ av2, (∀ q, q ≠ 38 → av2 q = av1 q) ∧ (∀ j, j < F p + i ∨ F p + c.2.length < j → av2 38 j = av1 38 j) ∧ (∀ i', i ≤ i' → i' ≤ c.2.length → av2 38 (F p + i') = nI (uAt u p + i')) ∧
      ∀ x, (∀ o3 o4, xe d xt_103 109 [some (.ref 27), some (.int (nI (uAt u p + c.2.length + 1))), some (.int a2), o3, o4] [] (xs iv av2 lv) x) → xe d xt_103 81 [some (.ref 27), some (.int (nI (uAt u p + i))), some (.int a2), some (.int (nI p)), some (.int (nI (F p + i)))] [] (xs iv av1 lv) x := by
  have cp : (nI p).toNatClampNeg = p := nI_clamp (by omega)
  have hb : 0 ≤ (nI p).toInt ∧ (nI p).toInt < ((5 : Nat) : Int) := nI_bd hp (by omega)
  intro w
  induction w with
  | zero =>
    intro i av1 hi h34
    have : i = c.2.length + 1 := by omega
    subst this
    refine ⟨av1, fun _ _ => rfl, fun _ _ => rfl, fun i' h1 h2 => by omega, fun x hx => xb_103_81 hb ?_⟩
    rw [cp, h34, e34]
    exact xb_103_89 (fun g => absurd g (nI_nlt (by omega) (by omega))) (fun _ => hx _ _)
  | succ w ih =>
    intro i av1 hi h34
    have ck : (nI (F p + i)).toNatClampNeg = F p + i := nI_clamp (by omega)
    have hbk : 0 ≤ (nI (F p + i)).toInt ∧ (nI (F p + i)).toInt < ((500 : Nat) : Int) := nI_bd (by omega) (by omega)
    obtain ⟨av2, f1, f2, f3, x1⟩ := ih (i + 1) (va_up av1 38 (upd (av1 38) (F p + i) (nI (uAt u p + i)))) (by omega) h34
    refine ⟨av2, fun q hq => by rw [f1 q hq, va_up_ne' hq], fun j hj => ?_, fun i' h1 h2 => ?_, fun x hx => xb_103_81 hb ?_⟩
    · rw [f2 j (by omega)]
      show upd (av1 38) (F p + i) _ j = _
      rw [upd_ne' (by omega)]
    · by_cases h3 : i' = i
      · subst h3
        rw [f2 (F p + i') (by omega)]
        exact upd_eq'
      · exact f3 i' (by omega) h2
    · rw [cp, h34, e34]
      refine xb_103_89 (fun _ => xb_103_92 hbk (xb_103_100 ?_)) (fun g => absurd (nI_lt (by omega) (by omega)) g)
      rw [ck, nI_1, nI_1]
      exact x1 x hx
def Dn (q r : Nat) : Prop := (r = 4 ∧ 1 ≤ q) ∨ (r < 4 ∧ r + 1 < q)
def nq (u : UN) (q : Nat) : Nat := if q = 0 then 0 else (uPart u (q - 1)).length
def pq (q : Nat) : Nat := if q = 0 then 4 else q - 1
theorem nq_pq {q : Nat} (hq : q < 5) : nq u q = uAt u (pq q) := by
  unfold nq pq
  by_cases h : q = 0
  · rw [if_pos h, if_pos h]; rfl
  · rw [if_neg h, if_neg h]
    unfold uAt
    rw [if_neg (by omega)]
theorem nq_s {q : Nat} : nq u (q + 1) = nq u q + (uCode u (pq q)).length := by
  unfold nq pq
  rw [if_neg (by omega)]
  by_cases h : q = 0
  · subst h
    show (uCode u 4).length = 0 + _
    rw [if_pos rfl, Nat.zero_add]
  · rw [if_neg h, if_neg h]
    obtain ⟨k, rfl⟩ : ∃ k, q = k + 1 := ⟨q - 1, by omega⟩
    show (uPart u k ++ sh (uPart u k).length (uCode u k)).length = _
    rw [List.length_append, sh_len]
    rfl
theorem uC_some {p : Nat} {q : Nat × List In} (h : u p = some q) : (uCode u p).length = q.2.length + 1 := by
  unfold uCode
  rw [h]
  simp only [List.length_append, List.length_cons, List.length_nil]
theorem dn_s {q r : Nat} (h : Dn (q + 1) r) : Dn q r ∨ r = pq q := by
  unfold Dn pq at *
  by_cases h0 : q = 0
  · rw [if_pos h0]; omega
  · rw [if_neg h0]; omega
theorem dn_pq {q : Nat} (hq : q < 5) : ¬ Dn q (pq q) := by
  unfold Dn pq
  by_cases h0 : q = 0
  · rw [if_pos h0]; omega
  · rw [if_neg h0]; omega
/-- what is placed of unit r -/
def PD (av0 : Nat → Nat → Int32) (u : UN) (F : Nat → Nat) (av : Nat → Nat → Int32) (r : Nat) : Prop := av 53 r = (if u r = none then 0 else 1) ∧ ∀ c, u r = some c → av 54 r = nI (uAt u r) ∧ av 55 r = av0 49 r ∧ av 56 r = av0 50 r ∧ ∀ i, i ≤ c.2.length → av 38 (F r + i) = nI (uAt u r + i)
def AF (av0 av : Nat → Nat → Int32) : Prop := ∀ q, q < 38 ∨ (38 < q ∧ q < 51) ∨ 56 < q → av q = av0 q
theorem ar_units (hr : RS tx iv av u K Mk F G) (hl : (uPart u 4).length ≤ 200) : ∀ w q av1, w + q = 5 → AF av av1 → (∀ r, r < 5 → Dn q r → PD av u F av1 r) →
    ∃ av2, AF av av2 ∧ (∀ r, r < 5 → PD av u F av2 r) ∧ ∀ x, (∀ o2 o3 o4, xe d xt_103 115 [some (.ref 27), some (.int (nI (uPart u 4).length)), o2, o3, o4] [] (xs iv av2 lv) x) → ∀ o3 o4, xe d xt_103 4 [some (.ref 27), some (.int (nI (nq u q))), some (.int (nI q)), o3, o4] [] (xs iv av1 lv) x := by
  obtain ⟨hec, hMk, hru, hnc, hkl, hml⟩ := hr
  intro w
  induction w with
  | zero =>
    intro q av1 hq hf hd
    have : q = 5 := by omega
    subst this
    refine ⟨av1, hf, fun r hr => hd r hr (by unfold Dn; omega), fun x hx o3 o4 => xb_103_4 (fun g => absurd g (by decide)) (fun _ => hx _ _ _)⟩
  | succ w ih =>
    intro q av1 hq hf hd
    have hp5 : pq q < 5 := by unfold pq; split <;> omega
    have cp : (nI (pq q)).toNatClampNeg = pq q := nI_clamp (by omega)
    have hb : 0 ≤ (nI (pq q)).toInt ∧ (nI (pq q)).toInt < ((5 : Nat) : Int) := nI_bd hp5 (by omega)
    have enq := nq_pq (u := u) (show q < 5 by omega)
    have h37 : ∀ av2, AF av av2 → av2 37 (pq q) = if u (pq q) = none then 0 else 1 := fun av2 h => by rw [h 37 (by omega)]; exact hru.1 _ hp5
    have to20 : ∀ x, xe d xt_103 20 [some (.ref 27), some (.int (nI (nq u q))), some (.int (nI q)), none, none] [.int (nI (pq q))] (xs iv av1 lv) x → ∀ o3 o4, xe d xt_103 4 [some (.ref 27), some (.int (nI (nq u q))), some (.int (nI q)), o3, o4] [] (xs iv av1 lv) x := fun x hx o3 o4 => by
      refine xb_103_4 (fun _ => xb_103_9 (fun g => xb_103_13 ?_) (fun g => xb_103_17 ?_)) (fun g => absurd (show nI q < nI 5 from nI_lt (by omega) (by omega)) g)
      · have h0 : q = 0 := (nI_eq (b := 0) (by omega) (by omega)).mp g
        have : pq q = 4 := by unfold pq; rw [if_pos h0]
        rw [this] at hx
        exact hx
      · have h0 : q ≠ 0 := fun e => g (by rw [e]; rfl)
        have : pq q = q - 1 := by unfold pq; rw [if_neg h0]
        rw [show nI q - 1 = nI (q - 1) from pk_sub (b := 1) (by omega), ← this]
        exact hx
    generalize hav2 : va_up av1 53 (upd (av1 53) (pq q) (if u (pq q) = none then 0 else 1)) = av2
    have hf2 : AF av av2 := fun k hk => by subst hav2; rw [va_up_ne' (by omega)]; exact hf k hk
    have to39 : ∀ x, xe d xt_103 39 [some (.ref 27), some (.int (nI (nq u q))), some (.int (nI q)), some (.int (nI (pq q))), none] [.int (if u (pq q) = none then 0 else 1)] (xs iv av2 lv) x → ∀ o3 o4, xe d xt_103 4 [some (.ref 27), some (.int (nI (nq u q))), some (.int (nI q)), o3, o4] [] (xs iv av1 lv) x := fun x hx => to20 x (by
      refine xb_103_20 hb ?_
      rw [cp, h37 av1 hf]
      refine xb_103_32 hb ?_
      rw [cp, nar_there, hav2]
      refine xb_103_33 hb ?_
      rw [cp, h37 av2 hf2]
      exact hx)
    by_cases hn : u (pq q) = none
    · have e1 : nq u (q + 1) = nq u q := by rw [nq_s, uC_no hn, Nat.add_zero]
      obtain ⟨av3, g1, g2, g3⟩ := ih (q + 1) av2 (by omega) hf2 (fun r hr hdn => by
        rcases dn_s hdn with h | h
        · have hne : r ≠ pq q := fun e => dn_pq (show q < 5 by omega) (e ▸ h)
          have := hd r hr h
          subst hav2
          refine ⟨?_, this.2⟩
          show upd (av1 53) (pq q) _ r = _
          rw [upd_ne' hne]
          exact this.1
        · subst h
          subst hav2
          refine ⟨upd_eq', fun c hc => by rw [hn] at hc; cases hc⟩)
      refine ⟨av3, g1, g2, fun x hx => to39 x ?_⟩
      rw [if_pos hn]
      refine xb_103_39 (fun _ => xb_103_109 ?_) (fun g => absurd rfl g)
      rw [nI_1, ← e1]
      exact g3 x hx _ _
    · obtain ⟨c, hc⟩ : ∃ c, u (pq q) = some c := by
        cases h : u (pq q) with
        | none => exact absurd h hn
        | some c => exact ⟨c, rfl⟩
      have e1 : nq u (q + 1) = nq u q + (c.2.length + 1) := by rw [nq_s, uC_some hc]
      obtain ⟨-, m, -, e33, e34, hAT, -⟩ := hru.2.1 (pq q) c hc
      have hfl := at_len hAT (by rw [List.length_append]; simp)
      rw [List.length_append, sh_len] at hfl
      simp only [List.length_cons, List.length_nil] at hfl
      have hul := u_len hp5 hc
      generalize hav3 : va_up (va_up (va_up av2 54 (upd (av2 54) (pq q) (nI (nq u q)))) 55 (upd (av2 55) (pq q) (av 49 (pq q)))) 56 (upd (av2 56) (pq q) (av 50 (pq q))) = av3
      have hf3 : AF av av3 := fun k hk => by subst hav3; rw [va_up_ne' (by omega), va_up_ne' (by omega), va_up_ne' (by omega)]; exact hf2 k hk
      obtain ⟨av4, k1, k2, k3, k4⟩ := ar_in (d := d) (iv := iv) (lv := lv) (F := F) (a2 := nI q) hp5 hc e34 (by omega) (by omega) (c.2.length + 1) 0 av3 rfl (hf3 34 (by omega))
      have hf4 : AF av av4 := fun k hk => by rw [k1 k (by omega)]; exact hf3 k hk
      obtain ⟨av5, g1, g2, g3⟩ := ih (q + 1) av4 (by omega) hf4 (fun r hr hdn => by
        rcases dn_s hdn with h | h
        · have hne : r ≠ pq q := fun e => dn_pq (show q < 5 by omega) (e ▸ h)
          obtain ⟨p1, p2⟩ := hd r hr h
          refine ⟨?_, fun t ht => ?_⟩
          · rw [k1 53 (by decide), ← hav3, ← hav2]
            show upd (av1 53) (pq q) _ r = _
            rw [upd_ne' hne]
            exact p1
          · obtain ⟨s1, s2, s3, s4⟩ := p2 t ht
            rw [k1 54 (by decide), k1 55 (by decide), k1 56 (by decide), ← hav3, ← hav2]
            refine ⟨?_, ?_, ?_, fun i hi => ?_⟩
            · show upd (av1 54) (pq q) _ r = _
              rw [upd_ne' hne]; exact s1
            · show upd (av1 55) (pq q) _ r = _
              rw [upd_ne' hne]; exact s2
            · show upd (av1 56) (pq q) _ r = _
              rw [upd_ne' hne]; exact s3
            · have hdj := hru.2.2.2.2 r t (pq q) c ht hc hne
              rw [k2 (F r + i) (by omega), ← hav3, ← hav2]
              exact s4 i hi
        · subst h
          refine ⟨?_, fun t ht => ?_⟩
          · rw [k1 53 (by decide), ← hav3, ← hav2]
            exact upd_eq'
          · rw [hc] at ht
            cases ht
            rw [k1 54 (by decide), k1 55 (by decide), k1 56 (by decide), ← hav3]
            refine ⟨?_, ?_, ?_, fun i hi => k3 i (Nat.zero_le _) hi⟩
            · show upd (av2 54) (pq q) _ (pq q) = _
              rw [upd_eq', enq]
            · exact upd_eq'
            · exact upd_eq')
      refine ⟨av5, g1, g2, fun x hx => to39 x ?_⟩
      rw [if_neg hn]
      refine xb_103_39 (fun g => absurd g (by decide)) (fun _ => xb_103_42 hb (xb_103_49 hb ?_))
      rw [cp]
      have e49 : va_up av2 54 (upd (av2 54) (pq q) (nI (nq u q))) 49 (pq q) = av 49 (pq q) := by
        show av2 49 (pq q) = _
        rw [hf2 49 (by omega)]
      rw [e49]
      refine xb_103_60 hb (xb_103_61 hb ?_)
      rw [cp]
      have e50 : va_up (va_up av2 54 (upd (av2 54) (pq q) (nI (nq u q)))) 55 (upd (va_up av2 54 (upd (av2 54) (pq q) (nI (nq u q))) 55) (pq q) (av 49 (pq q))) 50 (pq q) = av 50 (pq q) := by
        show av2 50 (pq q) = _
        rw [hf2 50 (by omega)]
      rw [e50]
      refine xb_103_72 hb (xb_103_73 hb ?_)
      rw [cp]
      have e33' : av3 33 (pq q) = nI (F (pq q)) := by rw [hf3 33 (by omega)]; exact e33
      have fin : xe d xt_103 79 [some (.ref 27), some (.int (nI (nq u q))), some (.int (nI q)), some (.int (nI (pq q))), none] [.int (av3 33 (pq q))] (xs iv av3 lv) x := by
        rw [e33', enq]
        refine xb_103_79 (k4 x (fun o3 o4 => xb_103_109 ?_))
        rw [nI_1, ← Nat.add_assoc] at *
        rw [enq] at e1
        rw [← e1]
        exact g3 x hx _ _
      rw [← hav3] at fin
      exact fin
/-- the second pass: instruction by instruction -/
theorem ar_code (hu : UP tx u M T E) (hr : RS tx iv av u K Mk F G) (hl : (uPart u 4).length ≤ 200) {av0 : Nat → Nat → Int32} (hf : AF av av0) (hpd : ∀ r, r < 5 → PD av u F av0 r) : ∀ w k av1, w + k = K.length → (∀ q, q ≠ 51 → q ≠ 52 → av1 q = av0 q) → (∀ p c i, u p = some c → i ≤ c.2.length → F p + i < k → ∀ o a, (lk (uAt u) (uPart u 4))[uAt u p + i]? = some (o, a) → av1 51 (uAt u p + i) = nI o ∧ av1 52 (uAt u p + i) = nI a) →
    ∃ av2, (∀ q, q ≠ 51 → q ≠ 52 → av2 q = av0 q) ∧ LM av2 (lk (uAt u) (uPart u 4)) ∧ ∀ o1 o3 o4, xe d xt_103 122 [some (.ref 27), o1, some (.int (nI k)), o3, o4] [] (xs iv av1 lv) (none, xs iv av2 lv) := by
  obtain ⟨hec, hMk, hru, hnc, hkl, hml⟩ := hr
  have h14 : iv 14 = nI K.length := hec.1
  intro w
  induction w with
  | zero =>
    intro k av1 hk hf1 hdone
    refine ⟨av1, hf1, fun j o a hj => ?_, fun o1 o3 o4 => xb_103_122 (fun g => ?_) (fun _ => xb_103_236)⟩
    · have hjl := (List.getElem?_eq_some_iff.mp hj).1
      rw [lk_len] at hjl
      obtain ⟨p, c, -, hc, h1, h2⟩ := u_cover 4 (Nat.le_refl _) j hjl
      obtain ⟨-, m, -, -, -, hAT, -⟩ := hru.2.1 p c hc
      have hfl := at_len hAT (by rw [List.length_append]; simp)
      rw [List.length_append, sh_len] at hfl
      simp only [List.length_cons, List.length_nil] at hfl
      have := hdone p c (j - uAt u p) hc (by omega) (by omega) o a
      rw [show uAt u p + (j - uAt u p) = j by omega] at this
      exact this hj
    · rw [h14] at g
      exact absurd g (nI_nlt (by omega) (by omega))
  | succ w ih =>
    intro k av1 hk hf1 hdone
    have hkK : k < K.length := by omega
    obtain ⟨p, c, hc, h1, h2⟩ := hru.2.2.1 k hkK
    obtain ⟨hp5, m, ⟨jj, hm⟩, -, -, hAT, -⟩ := hru.2.1 p c hc
    have hcb : CB c.2 := m1_cb hm
    have hfl := at_len hAT (by rw [List.length_append]; simp)
    rw [List.length_append, sh_len] at hfl
    simp only [List.length_cons, List.length_nil] at hfl
    obtain ⟨i, rfl⟩ : ∃ i, k = F p + i := ⟨k - F p, by omega⟩
    have hul := u_len hp5 hc
    obtain ⟨d53, dpd⟩ := hpd p hp5
    obtain ⟨d54, -, -, d38⟩ := dpd c hc
    have ua := u_at hp5 hc (uAt u)
    -- what is there, and what is to be written
    have key : ∃ o a o' a', K[F p + i]? = some (o, a) ∧ (lk (uAt u) (uPart u 4))[uAt u p + i]? = some (o', a') ∧ o' = o ∧ o < 20 ∧ ((o = 17 ∧ a < 4 ∧ u a ≠ none ∧ a' = uAt u a) ∨ (o ≠ 17 ∧ (o = 13 ∨ o = 14 ∨ o = 15) ∧ ∃ b, a = F p + b ∧ b ≤ c.2.length ∧ a' = uAt u p + b) ∨ (o ≠ 17 ∧ ¬ (o = 13 ∨ o = 14 ∨ o = 15) ∧ a' = a)) := by
      by_cases hi : i < c.2.length
      · obtain ⟨⟨o, a⟩, hx⟩ : ∃ x, c.2[i]? = some x := ⟨c.2[i]'hi, List.getElem?_eq_getElem _⟩
        have hmem := List.mem_of_getElem? hx
        have hcbx := hcb _ hmem
        dsimp only at hcbx
        have g1 := hAT.l i (if o = 13 ∨ o = 14 ∨ o = 15 then (o, a + F p) else (o, a)) (by
          unfold sh
          rw [List.getElem?_map, hx]
          rfl)
        have g2 := ua.l i _ (LC_get hx)
        dsimp only at g2
        by_cases hj : o = 13 ∨ o = 14 ∨ o = 15
        · rw [if_pos hj] at g1
          rw [if_neg (by omega), if_pos hj] at g2
          exact ⟨o, a + F p, o, a + uAt u p, g1, g2, rfl, by omega, Or.inr (Or.inl ⟨by omega, hj, a, by omega, hcbx.2.2.1 hj, by omega⟩)⟩
        · rw [if_neg hj] at g1
          by_cases h17 : o = 17
          · have h3 := (hu.2 p c hc).2.2.2.2 (o, a) hmem h17
            rw [if_pos ⟨h17, h3.1⟩] at g2
            exact ⟨o, a, 17, uAt u a, g1, g2, h17.symm, by omega, Or.inl ⟨h17, h3.1, h3.2, rfl⟩⟩
          · rw [if_neg (fun q => h17 q.1), if_neg hj] at g2
            exact ⟨o, a, o, a, g1, g2, rfl, by omega, Or.inr (Or.inr ⟨h17, hj, rfl⟩)⟩
      · have : i = c.2.length := by omega
        subst this
        have g1 := hAT.r.h
        rw [sh_len] at g1
        have g2 := ua.r.h
        rw [LC_len] at g2
        have := uo_le p
        exact ⟨uo p, 0, uo p, 0, g1, g2, rfl, by omega, Or.inr (Or.inr ⟨by omega, by omega, rfl⟩)⟩
    obtain ⟨o, a, o', a', hK, hL, rfl, ho20, hcase⟩ := key
    obtain ⟨e29, e30⟩ := hec.2 _ _ _ hK
    have fa : ∀ q, q ≠ 51 → q ≠ 52 → q < 38 → av1 q = av q := fun q h3 h4 h5 => by rw [hf1 q h3 h4]; exact hf q (by omega)
    have hbk : 0 ≤ (nI (F p + i)).toInt ∧ (nI (F p + i)).toInt < ((500 : Nat) : Int) := nI_bd (by omega) (by omega)
    have ck : (nI (F p + i)).toNatClampNeg = F p + i := nI_clamp (by omega)
    have hbJ : 0 ≤ (nI (uAt u p + i)).toInt ∧ (nI (uAt u p + i)).toInt < ((200 : Nat) : Int) := nI_bd (by omega) (by omega)
    have cJ : (nI (uAt u p + i)).toNatClampNeg = uAt u p + i := nI_clamp (by omega)
    have e38 : ∀ q, q ≤ c.2.length → av1 38 (F p + q) = nI (uAt u p + q) := fun q hq => by rw [hf1 38 (by decide) (by decide)]; exact d38 q hq
    generalize hav2 : va_up av1 51 (upd (av1 51) (uAt u p + i) (nI o')) = av2
    have to184 : ∀ x, (∀ g : Int32, (g = if o' = 13 ∨ o' = 14 ∨ o' = 15 then 1 else 0) → xe d xt_103 184 [some (.ref 27), none, some (.int (nI (F p + i))), some (.int (nI o')), some (.int g)] [.int (nI (uAt u p + i)), .ref 52] (xs iv av2 lv) x) → ∀ o1 o3 o4, xe d xt_103 122 [some (.ref 27), o1, some (.int (nI (F p + i))), o3, o4] [] (xs iv av1 lv) x := fun x hx o1 o3 o4 => by
      have t160 : ∀ g : Int32, (g = if o' = 13 ∨ o' = 14 ∨ o' = 15 then 1 else 0) → ∀ o1 o4, xe d xt_103 160 [some (.ref 27), o1, some (.int (nI (F p + i))), some (.int (nI o')), o4] [.int g] (xs iv av1 lv) x := fun g hg o1 o4 => by
        refine xb_103_160 hbk ?_
        rw [ck, e38 i (by omega)]
        refine xb_103_172 hbJ ?_
        rw [cJ, hav2]
        refine xb_103_174 hbk ?_
        rw [ck]
        have : av2 38 (F p + i) = nI (uAt u p + i) := by subst hav2; exact e38 i (by omega)
        rw [this]
        exact hx g hg
      refine xb_103_122 (fun _ => xb_103_130 hbk ?_) (fun g => ?_)
      · rw [ck, fa 29 (by decide) (by decide) (by decide), e29]
        refine xb_103_136 (fun g => xb_103_155 (t160 1 ?_ _ _)) (fun g13 => xb_103_143 (fun g => xb_103_155 (t160 1 ?_ _ _)) (fun g14 => xb_103_149 (fun g => xb_103_155 (t160 1 ?_ _ _)) (fun g15 => xb_103_159 (t160 0 ?_ _ _))))
        · have := (nI_eq (b := 13) (by omega) (by omega)).mp g
          rw [if_pos (by omega)]
        · have := (nI_eq (b := 14) (by omega) (by omega)).mp g
          rw [if_pos (by omega)]
        · have := (nI_eq (b := 15) (by omega) (by omega)).mp g
          rw [if_pos (by omega)]
        · rw [if_neg]
          rintro (q | q | q)
          · exact g13 (by rw [q]; rfl)
          · exact g14 (by rw [q]; rfl)
          · exact g15 (by rw [q]; rfl)
      · rw [h14] at g
        exact absurd (nI_lt (by omega) (by omega)) g
    generalize hav3 : va_up av2 52 (upd (av2 52) (uAt u p + i) (nI a')) = av3
    have fr3 : ∀ q, q ≠ 51 → q ≠ 52 → av3 q = av0 q := fun q h3 h4 => by
      subst hav3 hav2
      rw [va_up_ne' h4, va_up_ne' h3]
      exact hf1 q h3 h4
    obtain ⟨av4, k1, k2, k3⟩ := ih (F p + i + 1) av3 (by omega) fr3 (fun p2 c2 i2 hc2 hi2 hlt o2 a2 hget => by
      subst hav3 hav2
      show upd (av1 51) (uAt u p + i) (nI o') (uAt u p2 + i2) = _ ∧ upd (av1 52) (uAt u p + i) (nI a') (uAt u p2 + i2) = _
      by_cases hJ : uAt u p2 + i2 = uAt u p + i
      · rw [hJ] at hget ⊢
        rw [hL] at hget
        cases hget
        rw [upd_eq', upd_eq']
        exact ⟨rfl, rfl⟩
      · rw [upd_ne' hJ, upd_ne' hJ]
        by_cases hlt2 : F p2 + i2 < F p + i
        · exact hdone p2 c2 i2 hc2 hi2 hlt2 o2 a2 hget
        · exfalso
          have heq : F p2 + i2 = F p + i := by omega
          by_cases hpp : p2 = p
          · subst hpp
            exact hJ (by omega)
          · rcases hru.2.2.2.2 p2 c2 p c hc2 hc hpp with h | h <;> omega)
    have next : ∀ o1 o3 o4, xe d xt_103 229 [some (.ref 27), o1, some (.int (nI (F p + i))), o3, o4] [.int (nI a'), .int (nI (uAt u p + i)), .ref 52] (xs iv av2 lv) (none, xs iv av4 lv) := fun o1 o3 o4 => by
      refine xb_103_229 hbJ ?_
      rw [cJ, hav3]
      refine xb_103_230 ?_
      rw [nI_1]
      exact k3 _ _ _
    refine ⟨av4, k1, k2, to184 _ (fun g hg => ?_)⟩
    have e30' : av2 30 (F p + i) = nI a := by subst hav2; show av1 30 _ = _; rw [fa 30 (by decide) (by decide) (by decide)]; exact e30
    rcases hcase with ⟨h17, ha4, hua, rfl⟩ | ⟨h17, hj, b, rfl, hb, rfl⟩ | ⟨h17, hj, rfl⟩
    · refine xb_103_184 (fun _ => xb_103_190 hbk ?_) (fun q => absurd (by rw [h17]; rfl) q)
      rw [ck, e30']
      refine xb_103_200 (nI_bd (by omega) (by omega)) ?_
      rw [nI_clamp (by omega)]
      have : av2 54 a = nI (uAt u a) := by
        subst hav2
        show av1 54 a = _
        rw [hf1 54 (by decide) (by decide)]
        cases hc2 : u a with
        | none => exact absurd hc2 hua
        | some t => exact ((hpd a (by omega)).2 t hc2).1
      rw [this]
      exact xb_103_201 (next _ _ _)
    · rw [if_pos hj] at hg
      subst hg
      refine xb_103_184 (fun q => absurd ((nI_eq (b := 17) (by omega) (by omega)).mp q) h17) (fun _ => xb_103_204 (fun q => absurd q (by decide)) (fun _ => xb_103_209 hbk ?_))
      rw [ck, e30']
      refine xb_103_219 (nI_bd (by omega) (by omega)) ?_
      rw [nI_clamp (by omega)]
      have : av2 38 (F p + b) = nI (uAt u p + b) := by subst hav2; exact e38 b hb
      rw [this]
      exact xb_103_220 (next _ _ _)
    · rw [if_neg hj] at hg
      subst hg
      refine xb_103_184 (fun q => absurd ((nI_eq (b := 17) (by omega) (by omega)).mp q) h17) (fun _ => xb_103_204 (fun _ => xb_103_223 hbk ?_) (fun q => absurd rfl q))
      rw [ck, e30']
      exact next _ _ _
theorem m_arrange (hD : 1 ≤ D) (hu : UP tx u M T E) (hr : RS tx iv av u K Mk F G) (hl : (uPart u 4).length ≤ 200) :
    ∃ av', AF av av' ∧ LM av' (lk (uAt u) (uPart u 4)) ∧ (∀ p, p < 5 → av' 53 p = if u p = none then 0 else 1) ∧ (∀ p c, u p = some c → av' 54 p = nI (uAt u p) ∧ av' 55 p = av 49 p ∧ av' 56 p = av 50 p) ∧ xm D 103 [.ref 27] (xs iv av lv) (none, xs (upd iv 21 (nI (uPart u 4).length)) av' lv) := by
  obtain ⟨d, rfl⟩ : ∃ d, D = d + 1 := ⟨D - 1, by omega⟩
  obtain ⟨av1, f1, pd1, x1⟩ := ar_units (d := d) (lv := lv) hr hl 5 0 av rfl (fun _ _ => rfl) (fun r _ h => by unfold Dn at h; omega)
  have hr2 : RS tx (upd iv 21 (nI (uPart u 4).length)) av u K Mk F G := hr.to rfl (fun _ _ _ => rfl)
  obtain ⟨av2, f2, lm, x2⟩ := ar_code (d := d) (lv := lv) hu hr2 hl f1 pd1 K.length 0 av1 rfl (fun _ _ _ => rfl) (fun p c i _ _ h => by omega)
  refine ⟨av2, fun q a => by rw [f2 q (by omega) (by omega)]; exact f1 q a, lm, fun p hp => by rw [f2 53 (by decide) (by decide)]; exact (pd1 p hp).1, fun p c hc => ?_, xm_of (nL := 5) rfl rfl (xb_103_0 (x1 _ (fun o2 o3 o4 => xb_103_115 (x2 _ _ _)) _ _))⟩
  have := (pd1 p (hu.2 p c hc).1).2 c hc
  rw [f2 54 (by decide) (by decide), f2 55 (by decide) (by decide), f2 56 (by decide) (by decide)]
  exact ⟨this.1, this.2.1, this.2.2.1⟩
/-- what a compile that fails leaves alone -/
def CXF (iv : Nat → Int32) (av : Nat → Nat → Int32) (iv' : Nat → Int32) (av' : Nat → Nat → Int32) : Prop := (∀ q, q < 11 ∨ q = 12 ∨ 19 < q → iv' q = iv q) ∧ ∀ q, q < 29 ∨ 50 < q → av' q = av q
theorem m_comp0 (hD : 9 ≤ D) (h : MT iv av n tx) (hp : pProg tx n = none) : ∃ iv' av', CXF iv av iv' av' ∧ iv' 11 = 1 ∧ xm D 104 [.ref 27] (xs iv av lv) (some (.int 0), xs iv' av' lv) := by
  obtain ⟨d, rfl⟩ : ∃ d, D = d + 1 := ⟨D - 1, by omega⟩
  rcases m_reads (D := d) (lv := lv) (by omega) h with ⟨u, iv1, av1, K, Mk, F, G, hu, -⟩ | ⟨-, iv1, av1, f1, x1⟩
  · rw [hp] at hu; cases hu
  · exact ⟨upd iv1 11 1, av1, ⟨fun q a => by rw [upd_ne' (by omega)]; exact f1.1 q (by omega), fun q a => f1.2 q (by omega)⟩, upd_eq', xm_of (nL := 1) rfl rfl (xb_104_0 x1 (xb_104_5 (fun _ => xb_104_8 (xb_104_31 (fun _ => xb_104_41) (fun g => absurd (by decide) g))) (fun g => absurd rfl g)))⟩
/-- what the reference has after a compile -/
def ML (iv : Nat → Int32) (av : Nat → Nat → Int32) (u : UN) (T E : TD) : Prop := iv 21 = nI (uPart u 4).length ∧ LM av (lk (uAt u) (uPart u 4)) ∧ (∀ p, p < 5 → av 53 p = if u p = none then 0 else 1) ∧ ∀ p c, u p = some c → av 54 p = nI (uAt u p) ∧ av 55 p = nI (trT T 5 p) ∧ av 56 p = nI (trD E 5 p)
theorem m_comp1 (hD : 9 ≤ D) (h : MT iv av n tx) (hp : pProg tx n = some u) (hu : UP tx u M T E) :
    (¬ ((uPart u 4).length ≤ 200 ∧ PLN u ∧ SHT u T) ∧ ∃ iv' av', CXF iv av iv' av' ∧ iv' 11 = 2 ∧ xm D 104 [.ref 27] (xs iv av lv) (some (.int 0), xs iv' av' lv)) ∨
    (((uPart u 4).length ≤ 200 ∧ PLN u ∧ SHT u T) ∧ ∃ iv' av', ((∀ q, q < 11 ∨ (22 < q ∧ q < 26) ∨ 26 < q → iv' q = iv q) ∧ ∀ q, q < 29 ∨ 56 < q → av' q = av q) ∧ (iv' 11 = 0 ∧ iv' 12 = 0 ∧ iv' 20 = 1 ∧ iv' 22 = 0 ∧ iv' 26 = 0) ∧ ML iv' av' u T E ∧ xm D 104 [.ref 27] (xs iv av lv) (some (.int (nI (uPart u 4).length)), xs iv' av' lv)) := by
  obtain ⟨d, rfl⟩ : ∃ d, D = d + 1 := ⟨D - 1, by omega⟩
  rcases m_reads (D := d) (lv := lv) (by omega) h with ⟨u', iv1, av1, K, Mk, F, G, hu', f1, x1, v1, r1, nc1⟩ | ⟨hu', -⟩
  case inr => rw [hp] at hu'; cases hu'
  rw [hp] at hu'
  cases hu'
  have rs1 := rs_of v1 r1 nc1
  obtain ⟨av2, f2, hall⟩ := m_reckonAll (D := d) (lv := lv) (by omega) hu rs1
  have F2 : ∀ q, q < 29 ∨ 50 < q → av2 q = av q := fun q a => by rw [f2 q (by omega)]; exact f1.2 q (by omega)
  rcases hall with ⟨hpl, hv, x2⟩ | ⟨hpl, x2⟩
  case inr =>
    exact Or.inl ⟨fun q => hpl q.2.1, upd iv1 11 2, av2, ⟨fun q a => by rw [upd_ne' (by omega)]; exact f1.1 q (by omega), F2⟩, upd_eq', xm_of (nL := 1) rfl rfl (xb_104_0 x1 (xb_104_5 (fun g => absurd g (by decide)) (fun _ => xb_104_12 x2 (xb_104_16 (fun _ => xb_104_26 (xb_104_31 (fun _ => xb_104_41) (fun g => absurd (by decide) g))) (fun g => absurd rfl g)))))⟩
  have rs2 : RS tx iv1 av2 u K Mk F G := rs1.to rfl (fun q _ _ => f2 q (by omega))
  have pre : ∀ x (r : Int32), xm d 102 [.ref 27] (xs iv1 av2 lv) (some (.int r), xs iv1 av2 lv) → xe d xt_104 23 [some (.ref 27)] [.int r, .ref 27] (xs iv1 av2 lv) x → xm (d + 1) 104 [.ref 27] (xs iv av lv) x := fun x r hr hx => xm_of (nL := 1) rfl rfl (xb_104_0 x1 (xb_104_5 (fun g => absurd g (by decide)) (fun _ => xb_104_12 x2 (xb_104_16 (fun g => absurd g (by decide)) (fun _ => xb_104_19 hr hx)))))
  rcases m_isShort (D := d) (lv := lv) (T := T) (by omega) rs2 (fun p hp hn => (hv p hp hn).1) with ⟨hs, x3⟩ | ⟨hs, x3⟩
  case inr =>
    exact Or.inl ⟨fun q => hs ⟨q.1, q.2.2⟩, upd iv1 11 2, av2, ⟨fun q a => by rw [upd_ne' (by omega)]; exact f1.1 q (by omega), F2⟩, upd_eq', pre _ _ x3 (xb_104_23 (fun _ => xb_104_26 (xb_104_31 (fun _ => xb_104_41) (fun g => absurd (by decide) g))) (fun g => absurd rfl g))⟩
  have rs3 : RS tx (upd iv1 11 0) av2 u K Mk F G := rs2.to rfl (fun _ _ _ => rfl)
  obtain ⟨av3, f3, lm, h53, h54, x4⟩ := m_arrange (D := d) (lv := lv) (by omega) hu rs3 hs.1
  refine Or.inr ⟨⟨hs.1, hpl, hs.2⟩, _, av3, ⟨fun q a => ?_, fun q a => by rw [f3 q (by omega)]; exact F2 q (by omega)⟩, ?_, ?_, pre _ _ x3 (xb_104_23 (fun g => absurd g (by decide)) (fun _ => xb_104_30 (xb_104_31 (fun g => absurd g (by decide)) (fun _ => xb_104_43 x4 xb_104_47))))⟩
  · rw [upd_ne' (by omega), upd_ne' (by omega), upd_ne' (by omega), upd_ne' (by omega), upd_ne' (by omega), upd_ne' (by omega)]
    exact f1.1 q (by omega)
  · exact ⟨rfl, rfl, rfl, rfl, rfl⟩
  · refine ⟨rfl, lm, h53, fun p c hc => ?_⟩
    obtain ⟨a1, a2, a3⟩ := h54 p c hc
    have hp5 := (hu.2 p c hc).1
    have hn : u p ≠ none := by rw [hc]; simp
    obtain ⟨b1, b2⟩ := hv p hp5 hn
    have := hs.2 p hp5 hn
    rw [show min (trT T 5 p) 100000 = trT T 5 p by omega] at b1
    exact ⟨a1, by rw [a2, b1], by rw [a3, b2]⟩
end MAR
