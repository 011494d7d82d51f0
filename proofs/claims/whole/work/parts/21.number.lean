/-! Numbers in the text. -/
def dg (c : Nat) : Bool := decide (48 ≤ c ∧ c ≤ 57)
def nc (tx : Nat → Nat) (i : Nat) : Nat → Nat → Nat
  | 0, j => j
  | m + 1, j => if dg (tx (i + j)) = true then nc tx i m (j + 1) else j
/-- how many digits stand at i, at most 3 -/
def nd (tx : Nat → Nat) (i : Nat) : Nat := nc tx i 3 0
def nv (tx : Nat → Nat) (i : Nat) : Nat → Nat
  | 0 => 0
  | j + 1 => nv tx i j * 10 + (tx (i + j) - 48)
theorem dg_iff {c : Nat} : dg c = true ↔ 48 ≤ c ∧ c ≤ 57 := by
  unfold dg
  rw [decide_eq_true_eq]
theorem nc_spec (tx : Nat → Nat) (i : Nat) : ∀ m j, j ≤ nc tx i m j ∧ nc tx i m j ≤ m + j ∧ (∀ q, j ≤ q → q < nc tx i m j → dg (tx (i + q)) = true) ∧ (nc tx i m j < m + j → dg (tx (i + nc tx i m j)) = false)
  | 0, j => ⟨Nat.le_refl _, by unfold nc; omega, fun q h1 h2 => by unfold nc at h2; omega, fun h => by unfold nc at h; omega⟩
  | m + 1, j => by
    unfold nc
    split
    · rename_i hd
      obtain ⟨h1, h2, h3, h4⟩ := nc_spec tx i m (j + 1)
      refine ⟨by omega, by omega, fun q g1 g2 => ?_, fun g => h4 (by omega)⟩
      by_cases hq : q = j
      · subst hq; exact hd
      · exact h3 q (by omega) g2
    · rename_i hd
      exact ⟨Nat.le_refl _, by omega, fun q h1 h2 => by omega, fun _ => by simpa using hd⟩
theorem nd_le (tx : Nat → Nat) (i : Nat) : nd tx i ≤ 3 := (nc_spec tx i 3 0).2.1
theorem nd_dg {tx : Nat → Nat} {i q : Nat} (h : q < nd tx i) : dg (tx (i + q)) = true := (nc_spec tx i 3 0).2.2.1 q (Nat.zero_le _) h
theorem nd_end {tx : Nat → Nat} {i : Nat} (h : nd tx i < 3) : dg (tx (i + nd tx i)) = false := (nc_spec tx i 3 0).2.2.2 h
theorem nv_lt {tx : Nat → Nat} {i : Nat} : ∀ j, (∀ q, q < j → dg (tx (i + q)) = true) → nv tx i j < 10 ^ j
  | 0, _ => by show 0 < 10 ^ 0; decide
  | j + 1, h => by
    have ih := nv_lt j (fun q hq => h q (by omega))
    have h2 := dg_iff.mp (h j (by omega))
    unfold nv
    rw [Nat.pow_succ]
    omega
theorem nv_lt3 {tx : Nat → Nat} {i : Nat} {j : Nat} (hj : j ≤ nd tx i) : nv tx i j < 1000 := by
  have h1 := nv_lt (tx := tx) (i := i) j (fun q hq => nd_dg (by omega))
  have h2 : 10 ^ j ≤ 10 ^ 3 := Nat.pow_le_pow_right (by decide) (Nat.le_trans hj (nd_le tx i))
  have h3 : (10 : Nat) ^ 3 = 1000 := by decide
  omega
section NUMC
variable {d : Nat} {iv : Nat → Int32} {av : Nat → Nat → Int32} {lv : Nat → Nat → Int64} {n i p c : Nat} {tx : Nat → Nat}
theorem c_isDigit (hc : c < 65536) : xm (d + 1) 32 [.int (nI c)] (xs iv av lv) (some (.int (if dg c = true then 1 else 0)), xs iv av lv) := by
  refine xm_of (nL := 1) rfl rfl ?_
  refine xb_32_0 (fun h1 => ?_) (fun h1 => ?_)
  · have h2 := (nI_ltI (a := c) (b := 48) (by omega) (by omega)).mp h1
    rw [if_neg (fun q => by have := dg_iff.mp q; omega)]
    exact xb_32_16 (xb_32_17 (Or.inl rfl))
  · have h2 : ¬ c < 48 := fun q => h1 ((nI_ltI (a := c) (b := 48) (by omega) (by omega)).mpr q)
    refine xb_32_6 (fun h3 => ?_) (fun h3 => ?_)
    · have h4 := (nI_ltI (a := 57) (b := c) (by omega) (by omega)).mp h3
      rw [if_neg (fun q => by have := dg_iff.mp q; omega)]
      exact xb_32_16 (xb_32_17 (Or.inl rfl))
    · have h4 : ¬ 57 < c := fun q => h3 ((nI_ltI (a := 57) (b := c) (by omega) (by omega)).mpr q)
      rw [if_pos (dg_iff.mpr (by omega))]
      exact xb_32_12 (xb_32_17 (Or.inr rfl))
theorem c_atEnd (h : TX iv av n tx) (hi : iv 1 = nI i) (hi2 : i < 2 ^ 30) : xm (d + 1) 33 [.ref 2] (xs iv av lv) (some (.int (if i = n then 1 else 0)), xs iv av lv) := by
  refine xm_of (nL := 1) rfl rfl ?_
  have hn := h.2.1
  refine xb_33_0 (fun h1 => ?_) (fun h1 => ?_)
  · rw [hi, h.1] at h1
    rw [if_pos ((nI_eq (by omega) (by omega)).mp h1)]
    exact xb_33_11 (xb_33_16 (Or.inr rfl))
  · rw [hi, h.1] at h1
    rw [if_neg (fun q => h1 ((nI_eq (by omega) (by omega)).mpr q))]
    exact xb_33_15 (xb_33_16 (Or.inl rfl))
theorem c_countDigits (h : TX iv av n tx) (hi : iv 1 = nI i) (hi2 : i < 2 ^ 29) : xm (d + 2) 37 [.ref 2] (xs iv av lv) (some (.int (nI (nd tx i))), xs iv av lv) := by
  refine xm_of (nL := 2) rfl rfl ?_
  refine xb_37_0 ?_
  have loop : ∀ m j, m + j = 3 → xe (d + 1) xt_37 2 [some (.ref 2), some (.int (nI j))] [] (xs iv av lv) (some (.int (nI (nc tx i m j))), xs iv av lv) := by
    intro m
    induction m with
    | zero =>
      intro j hj
      exact xb_37_2 (fun h1 => absurd h1 (show ¬ nI j < nI 3 from nI_nlt (by omega) (by omega))) (fun _ => xb_37_29)
    | succ m ih =>
      intro j hj
      refine xb_37_2 (fun _ => ?_) (fun h1 => absurd (show nI j < nI 3 from nI_lt (by omega) (by omega)) h1)
      refine xb_37_7 (by rw [hi, nI_add]; exact c_letterAt h (by omega)) ?_
      refine xb_37_17 (c_isDigit (by have := h.le (i + j); omega)) ?_
      unfold nc
      by_cases hd : dg (tx (i + j)) = true
      · rw [if_pos hd, if_pos hd]
        refine xb_37_20 (fun h1 => absurd h1 (by decide)) (fun _ => xb_37_23 ?_)
        rw [nI_1]
        exact ih (j + 1) (by omega)
      · rw [if_neg hd, if_neg hd]
        exact xb_37_20 (fun _ => xb_37_29) (fun h1 => absurd rfl h1)
  exact loop 3 0 rfl
theorem c_seesNumberAndBlock (h : TX iv av n tx) (hi : iv 1 = nI i) (hi2 : i < 2 ^ 29) : xm (d + 3) 38 [.ref 2] (xs iv av lv) (some (.int (if 0 < nd tx i ∧ tx (i + nd tx i) = 123 then 1 else 0)), xs iv av lv) := by
  refine xm_of (nL := 2) rfl rfl ?_
  have hnd := nd_le tx i
  refine xb_38_0 (c_countDigits h hi hi2) ?_
  refine xb_38_4 (fun h1 => ?_) (fun h1 => ?_)
  · have h2 := (nI_ltI (a := 0) (b := nd tx i) (by omega) (by omega)).mp h1
    refine xb_38_9 (by rw [hi, nI_add]; exact c_letterAt h (by omega)) ?_
    have hle := h.le (i + nd tx i)
    refine xb_38_19 (fun h3 => ?_) (fun h3 => ?_)
    · have h4 := (nI_eq (b := 123) (by omega) (by omega)).mp h3
      rw [if_pos ⟨h2, h4⟩]
      exact xb_38_24 (xb_38_29 (Or.inr rfl))
    · rw [if_neg (fun q => h3 ((nI_eq (b := 123) (by omega) (by omega)).mpr q.2))]
      exact xb_38_28 (xb_38_29 (Or.inl rfl))
  · rw [if_neg (fun q => h1 ((nI_ltI (a := 0) (b := nd tx i) (by omega) (by omega)).mpr q.1))]
    exact xb_38_28 (xb_38_29 (Or.inl rfl))
theorem c_number0 (h : TX iv av n tx) (hi : iv 1 = nI i) (hi2 : i < 2 ^ 29) (e : nd tx i = 0) : xm (d + 3) 39 [.ref 2] (xs iv av lv) (some (.int (-1)), xs iv av lv) := by
  refine xm_of (nL := 4) rfl rfl ?_
  refine xb_39_0 (c_countDigits h hi hi2) ?_
  rw [e]
  exact xb_39_4 (fun _ => xb_39_9) (fun h1 => absurd rfl h1)
theorem c_number1 (h : TX iv av n tx) (hi : iv 1 = nI i) (hi2 : i < 2 ^ 29) (e : 0 < nd tx i) : xm (d + 3) 39 [.ref 2] (xs iv av lv) (some (.int (nI (nv tx i (nd tx i)))), xs (upd iv 1 (nI (i + nd tx i))) av lv) := by
  refine xm_of (nL := 4) rfl rfl ?_
  have hnd := nd_le tx i
  refine xb_39_0 (c_countDigits h hi hi2) ?_
  refine xb_39_4 (fun h1 => absurd ((nI_eq (b := 0) (by omega) (by omega)).mp h1) (by omega)) (fun _ => xb_39_11 ?_)
  have loop : ∀ m j, m + j = nd tx i → xe (d + 2) xt_39 15 [some (.ref 2), some (.int (nI (nd tx i))), some (.int (nI (nv tx i j))), some (.int (nI j))] [] (xs iv av lv) (some (.int (nI (nv tx i (nd tx i)))), xs (upd iv 1 (nI (i + nd tx i))) av lv) := by
    intro m
    induction m with
    | zero =>
      intro j hj
      have hj : j = nd tx i := by omega
      subst hj
      refine xb_39_15 (fun h1 => absurd h1 (nI_nlt (Nat.le_refl _) (by omega))) (fun _ => ?_)
      have := @xb_39_45 (d + 2) iv av lv (nI (nd tx i)) (nI (nv tx i (nd tx i))) (some (.int (nI (nd tx i))))
      rw [hi, nI_add] at this
      exact this
    | succ m ih =>
      intro j hj
      refine xb_39_15 (fun _ => ?_) (fun h1 => absurd (nI_lt (by omega) (by omega)) h1)
      refine xb_39_20 (by rw [hi, nI_add]; exact c_letterAt h (by omega)) (xb_39_34 ?_)
      have hdg := dg_iff.mp (nd_dg (tx := tx) (i := i) (q := j) (by omega))
      have e1 : nI (nv tx i j) * 10 + (nI (tx (i + j)) - 48) = nI (nv tx i (j + 1)) := by
        rw [show (10 : Int32) = nI 10 from rfl, show (48 : Int32) = nI 48 from rfl, pk_mul, pk_sub hdg.1, nI_add]
        rfl
      rw [e1, nI_1]
      exact ih (j + 1) (by omega)
  exact loop (nd tx i) 0 rfl
end NUMC
