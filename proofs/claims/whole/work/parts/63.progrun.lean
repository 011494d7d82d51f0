/-! Runs of a whole program. -/
noncomputable def dW (u : UN) (n : Nat) : Nat := rb u n 0 * (uCode u 0).length + rb u n 1 * (uCode u 1).length + rb u n 2 * (uCode u 2).length + rb u n 3 * (uCode u 3).length
theorem dw_le (u : UN) (n : Nat) : dW u n ≤ (uCode u 0).length + (uCode u 1).length + (uCode u 2).length + (uCode u 3).length := by
  have h : ∀ p, rb u n p * (uCode u p).length ≤ (uCode u p).length := fun p => by
    have := Nat.mul_le_mul (rb_le u n p) (Nat.le_refl (uCode u p).length)
    rw [Nat.one_mul] at this
    exact this
  have := h 0
  have := h 1
  have := h 2
  have := h 3
  unfold dW
  omega
theorem dw_s (u : UN) (n : Nat) : dW u n ≤ dW u (n + 1) := by
  have h : ∀ p, rb u n p * (uCode u p).length ≤ rb u (n + 1) p * (uCode u p).length := fun p => Nat.mul_le_mul (rb_s u n p) (Nat.le_refl _)
  have := h 0
  have := h 1
  have := h 2
  have := h 3
  unfold dW
  omega
theorem dw_new {u : UN} {n p : Nat} (hp : p < 4) (h1 : rk u (n + 1) p) (h0 : ¬ rk u n p) : dW u n + (uCode u p).length ≤ dW u (n + 1) := by
  have h : ∀ p, rb u n p * (uCode u p).length ≤ rb u (n + 1) p * (uCode u p).length := fun p => Nat.mul_le_mul (rb_s u n p) (Nat.le_refl _)
  have e1 : rb u n p * (uCode u p).length = 0 := by rw [rb_0 h0, Nat.zero_mul]
  have e2 : rb u (n + 1) p * (uCode u p).length = (uCode u p).length := by rw [rb_1 h1, Nat.one_mul]
  have := h 0
  have := h 1
  have := h 2
  have := h 3
  unfold dW
  have : p = 0 ∨ p = 1 ∨ p = 2 ∨ p = 3 := by omega
  rcases this with rfl | rfl | rfl | rfl <;> omega
section PRN
variable {tx : Nat → Nat} {u : UN} {M : Nat → List In} {T E : TD}
theorem dep_part (hu : UP tx u M T E) {n p : Nat} {q : Nat × List In} {B : Nat} (hq : u p = some q) (hall : ∀ x ∈ q.2, x.1 = 17 → rk u n x.2) (ih : ∀ r, r < 4 → rk u n r → trD E n r ≤ B) : E p (trD E n) ≤ q.2.length + B := by
  have hsc := (hu.2 p q hq).2.2.1.1
  have e1 : E p (trD E n) = E p (fun r => rb u n r * trD E n r) := sc_D hsc (fun x hx h17 => by
    show _ = rb u n x.2 * trD E n x.2
    rw [rb_1 (hall x hx h17), Nat.one_mul])
  rw [e1]
  refine sc_dep hsc (fun r hr => ?_)
  by_cases h : rk u n r
  · rw [rb_1 h, Nat.one_mul]; exact ih r hr h
  · rw [rb_0 h, Nat.zero_mul]; exact Nat.zero_le _
theorem dep_w (hu : UP tx u M T E) : ∀ n p, p < 4 → rk u n p → trD E n p ≤ dW u n
  | 0, p, _, h => h.elim
  | n + 1, p, hp, h => by
    by_cases h0 : rk u n p
    · rw [(tr_stab hu n p h0).2]
      exact Nat.le_trans (dep_w hu n p hp h0) (dw_s u n)
    · have hn := dw_new hp h h0
      obtain ⟨q, hq, hall⟩ := h
      have := dep_part hu (B := dW u n) hq hall (fun r hr hk => dep_w hu n r hr hk)
      rw [uC_some hq] at hn
      show E p (trD E n) ≤ _
      omega
theorem cld (hu : UP tx u M T E) (hl : (uPart u 4).length ≤ 200) : ∀ n p, p < 4 → rk u n p → CLD (lk (uAt u) (uPart u 4)) (uAt u) (trT T n) (trD E n) p
  | 0, p, _, h => h.elim
  | n + 1, p, hp, h => by
    obtain ⟨q, hq, hall⟩ := h
    have hsc := (hu.2 p q hq).2.2.1.1
    have hAT := u_at (by omega) hq (uAt u)
    have hul := u_len (by omega) hq
    have rp := rp_sc (C := lk (uAt u) (uPart u 4)) (f := uAt u) (t := trT T n) (d := trD E n) (G := rk u n) (fun r hr hk => cld hu hl n r hr hk) hsc
    intro s P O oc cy hi kr hkr hB
    have hB : s.length + 1 + E p (trD E n) ≤ 199 := hB
    have hA2 := hAT.r.h
    rw [LC_len, if_neg (show ¬ p = 4 by omega)] at hA2
    have eT : trT T (n + 1) p = T p (trT T n) + 3 := by
      show T p (trT T n) + (if p = 4 then 0 else 3) = _
      rw [if_neg (by omega)]
    rw [eT]
    refine RUNS.bind (Z1 := T p (trT T n)) (Z2 := 3) (rp (uAt u p) hAT.l hall (nI kr :: s) P O oc cy hi (by rw [List.length_cons]; exact hB) (by omega)) (fun S1 cy1 hi1 hS => ?_) (Nat.le_refl _)
    obtain ⟨k1, s1, P1, O1, oc1⟩ := S1
    obtain ⟨hk, hs⟩ := hS
    have hk : k1 = uAt u p + q.2.length := hk
    have hs : s1 = nI kr :: s := hs
    subst hk hs
    have ek : (nI kr).toNatClampNeg = kr := nI_clamp (by omega)
    refine RUNS.bind (Z1 := 3) (Z2 := 0) (RUNS.one (S1 := ((nI kr).toNatClampNeg, s, P1, O1, oc1)) hA2 (by decide) (trp_0 (by decide)) rfl (by show s.length ≤ 199; omega) (fun q => by omega) (fun _ => ⟨kr, rfl, hkr⟩)) (fun S2 cy2 hi2 hS2 => ?_) (Nat.le_refl _)
    subst hS2
    exact RUNS.nil ⟨ek, rfl⟩
theorem pln_main (hu : UP tx u M T E) (hp : PLN u) {q : Nat × List In} (hq : u 4 = some q) : ∀ x ∈ q.2, x.1 = 17 → rk u 4 x.2 := fun x hx h17 => by
  have := (hu.2 4 q hq).2.2.2.2 x hx h17
  exact hp x.2 this.1 this.2
/-- a run of a program that compiles ends within its TIME -/
theorem run_ok (hu : UP tx u M T E) (hl : (uPart u 4).length ≤ 200) (hp : PLN u) (hs : SHT u T) (P O : Nat → Int32) : ∃ n S cy hi r z, GO (lk (uAt u) (uPart u 4)) 199 n (0, [], P, O, 0) 0 0 S cy hi ∧ n ≤ 20000 ∧ FIN (lk (uAt u) (uPart u 4)) S r z := by
  obtain ⟨q, hq⟩ := hu.1
  have hall := pln_main hu hp hq
  have hsc := (hu.2 4 q hq).2.2.1.1
  have hAT := u_at (by omega) hq (uAt u)
  have e4 : uAt u 4 = 0 := rfl
  rw [e4] at hAT
  have hT := hs 4 (by omega) (by rw [hq]; simp)
  have hT : T 4 (trT T 4) + 0 ≤ 20000 := hT
  have dpt := dep_part hu (B := dW u 4) hq hall (fun r hr hk => dep_w hu 4 r hr hk)
  have dwl := dw_le u 4
  have hlen := uP4 u
  rw [uC_some hq] at hlen
  have rp := rp_sc (C := lk (uAt u) (uPart u 4)) (f := uAt u) (t := trT T 4) (d := trD E 4) (G := rk u 4) (fun r hr hk => cld hu hl 4 r hr hk) hsc
  have hA2 := hAT.r.h
  rw [LC_len, Nat.zero_add] at hA2
  rcases rp 0 hAT.l hall [] P O 0 0 0 (by show 0 + E 4 (trD E 4) ≤ 199; omega) (by omega) with ⟨n, S, cy, hi, g1, g2, g3, g4, g5⟩ | ⟨n, S, r, z, cy, hi, g1, g2, g3, g4⟩
  · rw [Nat.zero_add] at g4
    refine ⟨n, S, cy, hi, 0, 0, g1, by omega, 19, 0, ?_, Or.inl ⟨rfl, trp_0 (by decide)⟩, (trp_0 (by decide)).symm, rfl⟩
    rw [g4]
    exact hA2
  · exact ⟨n, S, cy, hi, r, z, g1, by omega, g2⟩
theorem code_bd (hu : UP tx u M T E) (hl : (uPart u 4).length ≤ 200) : ∀ x ∈ lk (uAt u) (uPart u 4), x.1 < 20 ∧ x.2 < 2 ^ 20 := fun x hx => by
  obtain ⟨j, hj⟩ := List.mem_iff_getElem?.mp hx
  have hjl := (List.getElem?_eq_some_iff.mp hj).1
  rw [lk_len] at hjl
  obtain ⟨p, c, -, hc, h1, h2⟩ := u_cover 4 (Nat.le_refl _) j hjl
  have hp5 := (hu.2 p c hc).1
  have ua := u_at hp5 hc (uAt u)
  have hul := u_len hp5 hc
  obtain ⟨i, rfl⟩ : ∃ i, j = uAt u p + i := ⟨j - uAt u p, by omega⟩
  by_cases hi : i < c.2.length
  · obtain ⟨⟨o, a⟩, hx'⟩ : ∃ x, c.2[i]? = some x := ⟨c.2[i]'hi, List.getElem?_eq_getElem _⟩
    have hmem := List.mem_of_getElem? hx'
    obtain ⟨jj, hm⟩ := (hu.2 p c hc).2.1
    have hcb := m1_cb hm _ hmem
    dsimp only at hcb
    have g2 := ua.l i _ (LC_get hx')
    rw [hj] at g2
    dsimp only at g2
    have g2 := Option.some.inj g2
    by_cases h17 : o = 17 ∧ a < 4
    · rw [if_pos h17] at g2
      have hn := (hu.2 p c hc).2.2.2.2 (o, a) hmem h17.1
      obtain ⟨t, ht⟩ : ∃ t, u a = some t := by
        cases h : u a with
        | none => exact absurd h hn.2
        | some t => exact ⟨t, rfl⟩
      have := u_len (show a < 5 by omega) ht
      rw [g2]
      dsimp only
      omega
    · rw [if_neg h17] at g2
      by_cases hjm : o = 13 ∨ o = 14 ∨ o = 15
      · rw [if_pos hjm] at g2
        rw [g2]
        have := hcb.2.2.1 hjm
        dsimp only
        omega
      · rw [if_neg hjm] at g2
        rw [g2]
        have := hcb.2.2.2 hjm
        dsimp only
        omega
  · have : i = c.2.length := by omega
    subst this
    have g2 := ua.r.h
    rw [LC_len, hj] at g2
    have g2 := Option.some.inj g2
    rw [g2]
    split <;> dsimp only <;> omega
end PRN
