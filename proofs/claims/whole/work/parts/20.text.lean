/-! The class's text: what its readers answer. tx i is the character at place i, 0 behind the end. -/
def TX (iv : Nat → Int32) (av : Nat → Nat → Int32) (n : Nat) (tx : Nat → Nat) : Prop := iv 0 = nI n ∧ n ≤ 200 ∧ (∀ i, i < n → av 3 i = nI (tx i) ∧ 33 ≤ tx i ∧ tx i ≤ 126) ∧ ∀ i, n ≤ i → tx i = 0
theorem TX.le {iv : Nat → Int32} {av : Nat → Nat → Int32} {n : Nat} {tx : Nat → Nat} (h : TX iv av n tx) (i : Nat) : tx i ≤ 126 := by
  by_cases hi : i < n
  · exact (h.2.2.1 i hi).2.2
  · rw [h.2.2.2 i (by omega)]; omega
theorem TX.lt {iv : Nat → Int32} {av : Nat → Nat → Int32} {n : Nat} {tx : Nat → Nat} (h : TX iv av n tx) {i : Nat} (hi : tx i ≠ 0) : i < n := by
  by_cases hl : i < n
  · exact hl
  · exact absurd (h.2.2.2 i (by omega)) hi
theorem TX.to {iv iv' : Nat → Int32} {av av' : Nat → Nat → Int32} {n : Nat} {tx : Nat → Nat} (h : TX iv av n tx) (h0 : iv' 0 = iv 0) (h3 : av' 3 = av 3) : TX iv' av' n tx := by
  unfold TX at h ⊢
  rw [h0, h3]
  exact h
theorem nI_bd {n N : Nat} (h : n < N) (hN : N < 2 ^ 31) : 0 ≤ (nI n).toInt ∧ (nI n).toInt < (N : Int) := by
  rw [nI_toInt (by omega)]
  omega
section TXC
variable {d : Nat} {iv : Nat → Int32} {av : Nat → Nat → Int32} {lv : Nat → Nat → Int64} {n i p c : Nat} {tx : Nat → Nat}
theorem c_letterAt (h : TX iv av n tx) (hp : p < 2 ^ 30) : xm (d + 1) 31 [.ref 2, .int (nI p)] (xs iv av lv) (some (.int (nI (tx p))), xs iv av lv) := by
  refine xm_of (nL := 2) rfl rfl ?_
  refine xb_31_0 (fun h1 => absurd h1 (nI_pos (by omega))) (fun _ => ?_)
  have hn := h.2.1
  by_cases hlt : p < n
  · refine xb_31_4 (fun _ => ?_) (fun h2 => absurd (by rw [h.1]; exact nI_lt hlt (by omega)) h2)
    refine xb_31_12 (fun _ => ?_) (fun h2 => absurd (show nI p < nI 200 from nI_lt (by omega) (by omega)) h2)
    refine xb_31_19 (nI_bd (by omega) (by omega)) ?_
    rw [nI_clamp (by omega), (h.2.2.1 p hlt).1]
    exact xb_31_25 (xb_31_29 (nI_bd (N := 65536) (by have := h.le p; omega) (by omega)))
  · refine xb_31_4 (fun h2 => absurd h2 (by rw [h.1]; exact nI_nlt (by omega) (by omega))) (fun _ => ?_)
    rw [h.2.2.2 p (by omega)]
    exact xb_31_28 (xb_31_29 (by decide))
theorem c_sees (h : TX iv av n tx) (hi : iv 1 = nI i) (hi2 : i < 2 ^ 30) (hc : c < 65536) : xm (d + 2) 34 [.ref 2, .int (nI c)] (xs iv av lv) (some (.int (if tx i = c then 1 else 0)), xs iv av lv) := by
  refine xm_of (nL := 2) rfl rfl ?_
  refine xb_34_0 (by rw [hi]; exact c_letterAt h hi2) ?_
  have hle := h.le i
  refine xb_34_8 (fun h1 => ?_) (fun h1 => ?_)
  · rw [if_pos ((nI_eq (by omega) (by omega)).mp h1)]
    exact xb_34_12 (xb_34_17 (Or.inr rfl))
  · rw [if_neg (fun q => h1 ((nI_eq (by omega) (by omega)).mpr q))]
    exact xb_34_16 (xb_34_17 (Or.inl rfl))
theorem c_takes1 (h : TX iv av n tx) (hi : iv 1 = nI i) (hi2 : i < 2 ^ 30) (hc : c < 65536) (e : tx i = c) : xm (d + 3) 35 [.ref 2, .int (nI c)] (xs iv av lv) (some (.int 1), xs (upd iv 1 (nI (i + 1))) av lv) := by
  refine xm_of (nL := 2) rfl rfl ?_
  refine xb_35_0 (c_sees h hi hi2 hc) ?_
  rw [if_pos e]
  refine xb_35_5 (fun h1 => absurd h1 (by decide)) (fun _ => ?_)
  have := @xb_35_10 (d + 2) iv av lv (some (.int (nI c)))
  rw [hi, nI_1] at this
  exact this
theorem c_takes0 (h : TX iv av n tx) (hi : iv 1 = nI i) (hi2 : i < 2 ^ 30) (hc : c < 65536) (e : tx i ≠ c) : xm (d + 3) 35 [.ref 2, .int (nI c)] (xs iv av lv) (some (.int 0), xs iv av lv) := by
  refine xm_of (nL := 2) rfl rfl ?_
  refine xb_35_0 (c_sees h hi hi2 hc) ?_
  rw [if_neg e]
  exact xb_35_5 (fun _ => xb_35_8) (fun h1 => absurd rfl h1)
/-- a letter of a row of m letters from c on -/
theorem c_one1 {m : Nat} (h : TX iv av n tx) (hi : iv 1 = nI i) (hi2 : i < 2 ^ 30) (hc : c < 128) (hm : m < 128) (e : c ≤ tx i) (e2 : tx i < c + m) : xm (d + 2) 36 [.ref 2, .int (nI c), .int (nI m)] (xs iv av lv) (some (.int (nI (tx i - c))), xs (upd iv 1 (nI (i + 1))) av lv) := by
  refine xm_of (nL := 4) rfl rfl ?_
  refine xb_36_0 (by rw [hi]; exact c_letterAt h hi2) ?_
  have hle := h.le i
  refine xb_36_8 (fun h1 => absurd h1 (by rw [pk_sub e]; exact nI_pos (by omega))) (fun _ => ?_)
  refine xb_36_15 (fun _ => ?_) (fun h1 => absurd (by rw [pk_sub e]; exact nI_lt (by omega) (by omega)) h1)
  have := @xb_36_22 (d + 1) iv av lv none (some (.int (nI m))) (nI (tx i) - nI c)
  rw [hi, nI_1, pk_sub e] at this
  rw [pk_sub e]
  exact this
theorem c_one0 {m : Nat} (h : TX iv av n tx) (hi : iv 1 = nI i) (hi2 : i < 2 ^ 30) (hc : c < 128) (hm : m < 128) (e : tx i < c ∨ c + m ≤ tx i) : xm (d + 2) 36 [.ref 2, .int (nI c), .int (nI m)] (xs iv av lv) (some (.int (-1)), xs iv av lv) := by
  refine xm_of (nL := 4) rfl rfl ?_
  refine xb_36_0 (by rw [hi]; exact c_letterAt h hi2) ?_
  have hle := h.le i
  refine xb_36_8 (fun _ => xb_36_20) (fun h1 => ?_)
  rcases e with e | e
  · exact absurd (pk_sneg (by omega) e) h1
  · refine xb_36_15 (fun h2 => absurd h2 (by rw [pk_sub (by omega)]; exact nI_nlt (by omega) (by omega))) (fun _ => xb_36_20)
end TXC
