/-! Class Bounds: settleProcedures and settle. -/
/-- a set of the four procedures as an int -/
def msk (O : Nat → Bool) : Nat := (if O 0 = true then 1 else 0) + (if O 1 = true then 2 else 0) + (if O 2 = true then 4 else 0) + (if O 3 = true then 8 else 0)
def mk4 (a b c d : Bool) : Nat := (if a = true then 1 else 0) + (if b = true then 2 else 0) + (if c = true then 4 else 0) + (if d = true then 8 else 0)
theorem mk_bit : ∀ a b c d : Bool, ((nI (mk4 a b c d) &&& (1 <<< (nI 0 &&& 31))) = 0 ↔ a = false) ∧ ((nI (mk4 a b c d) &&& (1 <<< (nI 1 &&& 31))) = 0 ↔ b = false) ∧ ((nI (mk4 a b c d) &&& (1 <<< (nI 2 &&& 31))) = 0 ↔ c = false) ∧ ((nI (mk4 a b c d) &&& (1 <<< (nI 3 &&& 31))) = 0 ↔ d = false) := by decide +kernel
theorem mk_or : ∀ a b c d : Bool, ((nI (mk4 a b c d) ||| (1 <<< (nI 0 &&& 31))) = nI (mk4 true b c d)) ∧ ((nI (mk4 a b c d) ||| (1 <<< (nI 1 &&& 31))) = nI (mk4 a true c d)) ∧ ((nI (mk4 a b c d) ||| (1 <<< (nI 2 &&& 31))) = nI (mk4 a b true d)) ∧ ((nI (mk4 a b c d) ||| (1 <<< (nI 3 &&& 31))) = nI (mk4 a b c true)) := by decide +kernel
theorem mk_off : ∀ a b c d : Bool, ((nI (mk4 a b c d) &&& ((1 <<< (nI 0 &&& 31)) ^^^ (-1))) = nI (mk4 false b c d)) ∧ ((nI (mk4 a b c d) &&& ((1 <<< (nI 1 &&& 31)) ^^^ (-1))) = nI (mk4 a false c d)) ∧ ((nI (mk4 a b c d) &&& ((1 <<< (nI 2 &&& 31)) ^^^ (-1))) = nI (mk4 a b false d)) ∧ ((nI (mk4 a b c d) &&& ((1 <<< (nI 3 &&& 31)) ^^^ (-1))) = nI (mk4 a b c false)) := by decide +kernel
theorem mk_and : ∀ a b c d e f g h : Bool, ((nI (mk4 a b c d) &&& nI (mk4 e f g h)) = 0 ↔ (a && e) = false ∧ (b && f) = false ∧ (c && g) = false ∧ (d && h) = false) := by decide +kernel
theorem mk_0 : ∀ a b c d : Bool, (nI (mk4 a b c d) = 0 ↔ a = false ∧ b = false ∧ c = false ∧ d = false) := by decide +kernel
theorem msk_bit {O : Nat → Bool} {p : Nat} (hp : p < 4) : (nI (msk O) &&& (1 <<< (nI p &&& 31))) = 0 ↔ O p = false := by
  have := mk_bit (O 0) (O 1) (O 2) (O 3)
  have h : p = 0 ∨ p = 1 ∨ p = 2 ∨ p = 3 := by omega
  rcases h with rfl | rfl | rfl | rfl
  · exact this.1
  · exact this.2.1
  · exact this.2.2.1
  · exact this.2.2.2
theorem msk_or {O : Nat → Bool} {p : Nat} (hp : p < 4) : nI (msk O) ||| (1 <<< (nI p &&& 31)) = nI (msk (va_up O p true)) := by
  have := mk_or (O 0) (O 1) (O 2) (O 3)
  have h : p = 0 ∨ p = 1 ∨ p = 2 ∨ p = 3 := by omega
  rcases h with rfl | rfl | rfl | rfl
  · exact this.1
  · exact this.2.1
  · exact this.2.2.1
  · exact this.2.2.2
theorem msk_off {O : Nat → Bool} {p : Nat} (hp : p < 4) : nI (msk O) &&& ((1 <<< (nI p &&& 31)) ^^^ (-1)) = nI (msk (va_up O p false)) := by
  have := mk_off (O 0) (O 1) (O 2) (O 3)
  have h : p = 0 ∨ p = 1 ∨ p = 2 ∨ p = 3 := by omega
  rcases h with rfl | rfl | rfl | rfl
  · exact this.1
  · exact this.2.1
  · exact this.2.2.1
  · exact this.2.2.2
theorem msk_and {O A : Nat → Bool} : (nI (msk A) &&& nI (msk O)) = 0 ↔ ∀ p, p < 4 → A p = true → O p = false := by
  refine (mk_and (A 0) (A 1) (A 2) (A 3) (O 0) (O 1) (O 2) (O 3)).trans ⟨fun h p hp ha => ?_, fun h => ?_⟩
  · have hh : p = 0 ∨ p = 1 ∨ p = 2 ∨ p = 3 := by omega
    rcases hh with rfl | rfl | rfl | rfl
    · have := h.1; rw [ha] at this; exact this
    · have := h.2.1; rw [ha] at this; exact this
    · have := h.2.2.1; rw [ha] at this; exact this
    · have := h.2.2.2; rw [ha] at this; exact this
  · have k : ∀ p, p < 4 → (A p && O p) = false := fun p hp => by
      cases ha : A p with
      | false => rfl
      | true => exact h p hp ha
    exact ⟨k 0 (by decide), k 1 (by decide), k 2 (by decide), k 3 (by decide)⟩
theorem msk_0 {O : Nat → Bool} : nI (msk O) = 0 ↔ ∀ p, p < 4 → O p = false := by
  refine (mk_0 (O 0) (O 1) (O 2) (O 3)).trans ⟨fun h p hp => ?_, fun h => ⟨h 0 (by decide), h 1 (by decide), h 2 (by decide), h 3 (by decide)⟩⟩
  have hh : p = 0 ∨ p = 1 ∨ p = 2 ∨ p = 3 := by omega
  rcases hh with rfl | rfl | rfl | rfl
  · exact h.1
  · exact h.2.1
  · exact h.2.2.1
  · exact h.2.2.2
theorem msk_cg {O A : Nat → Bool} (h : ∀ p, p < 4 → O p = A p) : msk O = msk A := by
  unfold msk
  rw [h 0 (by decide), h 1 (by decide), h 2 (by decide), h 3 (by decide)]
/-- the procedures that c calls -/
def clb (c : List In) (p : Nat) : Bool := c.any (fun q => q.1 == 17 && q.2 == p)
theorem clb_iff {c : List In} {p : Nat} : clb c p = true ↔ (17, p) ∈ c := by
  unfold clb
  rw [List.any_eq_true]
  constructor
  · rintro ⟨⟨a, b⟩, hx, he⟩
    simp at he
    obtain ⟨rfl, rfl⟩ := he
    exact hx
  · intro h
    exact ⟨_, h, by simp⟩
theorem clb_snoc (c : List In) (x : In) (p : Nat) : clb (c ++ [x]) p = (clb c p || (x.1 == 17 && x.2 == p)) := by
  unfold clb
  rw [List.any_append]
  simp
section STL
variable {D : Nat} {C : List In} {f : Nat → Nat} {iv : Nat → Int32} {av : Nat → Nat → Int32} {lv : Nat → Nat → Int64}
theorem LC_get {f : Nat → Nat} {s : Nat} {c : List In} {j : Nat} {x : In} (h : c[j]? = some x) : (LC f s c)[j]? = some (if x.1 = 17 ∧ x.2 < 4 then (17, f x.2) else if x.1 = 13 ∨ x.1 = 14 ∨ x.1 = 15 then (x.1, x.2 + s) else x) := by
  unfold LC lk sh
  rw [List.getElem?_map, List.getElem?_map, h]
  simp only [Option.map_some]
  congr 1
  unfold lk1
  by_cases h1 : x.1 = 13 ∨ x.1 = 14 ∨ x.1 = 15
  · rw [if_pos h1, if_neg (by dsimp only; omega), if_neg (by omega)]
  · rw [if_neg h1]
theorem c_calledBy {p s : Nat} {c : List In} (hD : 2 ≤ D) (hp : p < 5) (h7 : av 7 p = nI s) (h8 : av 8 p = nI (s + c.length)) (hA : AT C s (LC f s c)) (hl : s + c.length < 200) (hdr : DR iv av C) (hcb : CB c) (hq : ∀ x ∈ c, x.1 = 17 → av 7 x.2 = nI (f x.2) ∧ ∀ r, r < x.2 → av 7 r ≠ nI (f x.2)) :
    xm D 50 [.ref 4, .int (nI p)] (xs iv av lv) (some (.int (nI (msk (clb c)))), xs iv av lv) := by
  obtain ⟨e, rfl⟩ : ∃ e, D = e + 1 := ⟨D - 1, by omega⟩
  have hbp : 0 ≤ (nI p).toInt ∧ (nI p).toInt < ((5 : Nat) : Int) := nI_bd (by omega) (by omega)
  have ep : (nI p).toNatClampNeg = p := nI_clamp (by omega)
  have loop : ∀ (b a : List In), c = a ++ b → xe e xt_50 9 [some (.ref 4), some (.int (nI p)), some (.int (nI (msk (clb a)))), some (.int (nI (s + a.length))), none] [] (xs iv av lv) (some (.int (nI (msk (clb c)))), xs iv av lv) := by
    intro b
    induction b with
    | nil =>
      intro a hc
      rw [List.append_nil] at hc
      subst hc
      refine xb_50_9 hbp ?_
      rw [ep, h8]
      exact xb_50_16 (fun h => absurd h (nI_nlt (Nat.le_refl _) (by omega))) (fun _ => xb_50_65)
    | cons x b ih =>
      intro a hc
      have hx : c[a.length]? = some x := by rw [hc, List.getElem?_append_right (Nat.le_refl _), Nat.sub_self]; rfl
      have hxm : x ∈ c := List.mem_of_getElem? hx
      have hlt : a.length < c.length := (List.getElem?_eq_some_iff.mp hx).1
      have hC := hA _ _ (LC_get hx)
      have ih2 := ih (a ++ [x]) (by rw [hc, List.append_assoc]; rfl)
      rw [List.length_append] at ih2
      have hbk : 0 ≤ (nI (s + a.length)).toInt ∧ (nI (s + a.length)).toInt < ((200 : Nat) : Int) := nI_bd (by omega) (by omega)
      have ek : (nI (s + a.length)).toNatClampNeg = s + a.length := nI_clamp (by omega)
      obtain ⟨k1, k2, -, -⟩ := hcb x hxm
      refine xb_50_9 hbp ?_
      rw [ep, h8]
      refine xb_50_16 (fun _ => xb_50_19 hbk ?_) (fun h => absurd (nI_lt (by omega) (by omega)) h)
      rw [ek]
      by_cases h17 : x.1 = 17
      · have h4 := k2 h17
        rw [if_pos ⟨h17, h4⟩] at hC
        obtain ⟨e5, e6⟩ := hdr.2 _ _ _ hC (by omega)
        obtain ⟨q1, q2⟩ := hq x hxm h17
        rw [e5]
        refine xb_50_25 (fun _ => xb_50_30 hbk ?_) (fun h => absurd rfl h)
        rw [ek, e6]
        refine xb_50_37 (c_procAt (by omega) h4 q1 q2) (xb_50_40 (xb_50_44 (fun h => absurd h (nI_m1 (by omega))) (fun _ => xb_50_52 (xb_50_59 ?_))))
        rw [msk_or h4, nI_1]
        have em : msk (va_up (clb a) x.2 true) = msk (clb (a ++ [x])) := msk_cg (fun r hr => by
          rw [clb_snoc]
          by_cases hrx : r = x.2
          · subst hrx
            rw [va_up_self, h17]
            simp
          · rw [va_up_ne' hrx]
            have : (x.2 == r) = false := by simp; omega
            rw [this, Bool.and_false, Bool.or_false])
        rw [em]
        exact ih2
      · rw [if_neg (by omega)] at hC
        have em : msk (clb (a ++ [x])) = msk (clb a) := msk_cg (fun r hr => by
          rw [clb_snoc]
          have : (x.1 == 17) = false := by simp; omega
          rw [this, Bool.false_and, Bool.or_false])
        rw [em] at ih2
        have e5 : av 5 (s + a.length) = nI x.1 := by
          split at hC
          · exact (hdr.2 _ _ _ hC (by omega)).1
          · exact (hdr.2 _ x.1 x.2 hC (by omega)).1
        rw [e5]
        refine xb_50_25 (fun h => absurd ((nI_eq (b := 17) (by omega) (by omega)).mp h) h17) (fun _ => xb_50_43 (xb_50_44 (fun _ => xb_50_59 ?_) (fun h => absurd rfl h)))
        rw [nI_1]
        exact ih2
  refine xm_of (nL := 5) rfl rfl (xb_50_0 hbp ?_)
  rw [ep, h7]
  exact xb_50_8 (loop c [] rfl)
theorem c_has {p : Nat} (hD : 1 ≤ D) (hp : p < 5) : xm D 45 [.ref 4, .int (nI p)] (xs iv av lv) (some (.int (if av 7 p = -1 then 0 else 1)), xs iv av lv) := by
  obtain ⟨e, rfl⟩ : ∃ e, D = e + 1 := ⟨D - 1, by omega⟩
  refine xm_of (nL := 2) rfl rfl (xb_45_0 (nI_bd (by omega) (by omega)) ?_)
  rw [nI_clamp (by omega)]
  by_cases h : av 7 p = -1
  · rw [if_pos h]
    exact xb_45_6 (fun _ => xb_45_14 (xb_45_15 (Or.inl rfl))) (fun g => absurd h g)
  · rw [if_neg h]
    exact xb_45_6 (fun g => absurd g h) (fun _ => xb_45_10 (xb_45_15 (Or.inr rfl)))
end STL
