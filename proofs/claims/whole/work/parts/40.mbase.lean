/-! The reference: its text, what it has written (K: code, Mk: marks), its stack of operators. -/
def MT (iv : Nat → Int32) (av : Nat → Nat → Int32) (n : Nat) (tx : Nat → Nat) : Prop := iv 12 = nI n ∧ n ≤ 200 ∧ (∀ i, i < n → av 28 i = nI (tx i) ∧ 33 ≤ tx i ∧ tx i ≤ 126) ∧ ∀ i, n ≤ i → tx i = 0
theorem MT.le {iv : Nat → Int32} {av : Nat → Nat → Int32} {n : Nat} {tx : Nat → Nat} (h : MT iv av n tx) (i : Nat) : tx i ≤ 126 := by
  by_cases hi : i < n
  · exact (h.2.2.1 i hi).2.2
  · rw [h.2.2.2 i (by omega)]; omega
theorem MT.lt {iv : Nat → Int32} {av : Nat → Nat → Int32} {n : Nat} {tx : Nat → Nat} (h : MT iv av n tx) {i : Nat} (hi : tx i ≠ 0) : i < n := by
  by_cases hl : i < n
  · exact hl
  · exact absurd (h.2.2.2 i (by omega)) hi
theorem MT.to {iv iv' : Nat → Int32} {av av' : Nat → Nat → Int32} {n : Nat} {tx : Nat → Nat} (h : MT iv av n tx) (h0 : iv' 12 = iv 12) (h3 : av' 28 = av 28) : MT iv' av' n tx := by
  unfold MT at h ⊢
  rw [h0, h3]
  exact h
def EC (iv : Nat → Int32) (av : Nat → Nat → Int32) (K : List In) : Prop := iv 14 = nI K.length ∧ ∀ j o a, K[j]? = some (o, a) → av 29 j = nI o ∧ av 30 j = nI a
def EN (iv : Nat → Int32) (av : Nat → Nat → Int32) (Mk : List In) : Prop := iv 15 = nI Mk.length ∧ ∀ j o a, Mk[j]? = some (o, a) → av 31 j = nI o ∧ av 32 j = nI a
def NF (iv : Nat → Int32) (av : Nat → Nat → Int32) (iv' : Nat → Int32) (av' : Nat → Nat → Int32) : Prop := (∀ q, q ≠ 14 → q ≠ 15 → iv' q = iv q) ∧ ∀ q, q < 29 ∨ 32 < q → av' q = av q
theorem NF.rf {iv : Nat → Int32} {av : Nat → Nat → Int32} : NF iv av iv av := ⟨fun _ _ _ => rfl, fun _ _ => rfl⟩
theorem NF.tr {iv iv1 iv2 : Nat → Int32} {av av1 av2 : Nat → Nat → Int32} (h : NF iv av iv1 av1) (g : NF iv1 av1 iv2 av2) : NF iv av iv2 av2 := ⟨fun q a b => (g.1 q a b).trans (h.1 q a b), fun q a => (g.2 q a).trans (h.2 q a)⟩
theorem snoc_get {K : List In} {o a : Nat} {j : Nat} {x y : Nat} (h : (K ++ [(o, a)])[j]? = some (x, y)) : K[j]? = some (x, y) ∨ (j = K.length ∧ x = o ∧ y = a) := by
  by_cases hj : j < K.length
  · rw [List.getElem?_append_left hj] at h
    exact Or.inl h
  · rw [List.getElem?_append_right (by omega)] at h
    have : j - K.length = 0 := by
      have := (List.getElem?_eq_some_iff.mp h).1
      simp at this
      omega
    rw [this] at h
    cases h
    exact Or.inr ⟨by omega, rfl, rfl⟩
def noted (o : Nat) : Bool := decide (o < 13 ∨ o = 16 ∨ o = 17 ∨ o = 18)
section MB
variable {D : Nat} {iv : Nat → Int32} {av : Nat → Nat → Int32} {lv : Nat → Nat → Int64} {n i c : Nat} {tx : Nat → Nat} {K Mk : List In}
theorem m_look (hD : 1 ≤ D) (h : MT iv av n tx) (hi : iv 13 = nI i) (hi2 : i < 2 ^ 30) : xm D 76 [.ref 27] (xs iv av lv) (some (.int (nI (tx i))), xs iv av lv) := by
  obtain ⟨e, rfl⟩ : ∃ e, D = e + 1 := ⟨D - 1, by omega⟩
  have hn := h.2.1
  refine xm_of (nL := 1) rfl rfl ?_
  by_cases hl : i < n
  · refine xb_76_0 (fun _ => xb_76_11 (by rw [hi]; exact nI_bd (by omega) (by omega)) ?_) (fun g => absurd (by rw [hi, h.1]; exact nI_lt hl (by omega)) g)
    rw [hi, nI_clamp (by omega), (h.2.2.1 i hl).1]
    exact xb_76_20 xb_76_24
  · refine xb_76_0 (fun g => absurd g (by rw [hi, h.1]; exact nI_nlt (by omega) (by omega))) (fun _ => ?_)
    rw [h.2.2.2 i (by omega)]
    exact xb_76_23 xb_76_24
theorem m_eat1 (hD : 2 ≤ D) (h : MT iv av n tx) (hi : iv 13 = nI i) (hi2 : i < 2 ^ 30) (e : tx i = c) : xm D 77 [.ref 27, .int (nI c)] (xs iv av lv) (some (.int 1), xs (upd iv 13 (nI (i + 1))) av lv) := by
  obtain ⟨d, rfl⟩ : ∃ d, D = d + 1 := ⟨D - 1, by omega⟩
  refine xm_of (nL := 2) rfl rfl (xb_77_0 (m_look (by omega) h hi hi2) (xb_77_4 (fun _ => ?_) (fun g => absurd (by rw [e]) g)))
  have := @xb_77_10 d iv av lv (some (.int (nI c)))
  rw [hi, nI_1] at this
  exact this
theorem m_eat0 (hD : 2 ≤ D) (h : MT iv av n tx) (hi : iv 13 = nI i) (hi2 : i < 2 ^ 30) (hc : c < 2 ^ 30) (e : tx i ≠ c) : xm D 77 [.ref 27, .int (nI c)] (xs iv av lv) (some (.int 0), xs iv av lv) := by
  obtain ⟨d, rfl⟩ : ∃ d, D = d + 1 := ⟨D - 1, by omega⟩
  have := h.le i
  exact xm_of (nL := 2) rfl rfl (xb_77_0 (m_look (by omega) h hi hi2) (xb_77_4 (fun g => absurd ((nI_eq (by omega) (by omega)).mp g) e) (fun _ => xb_77_8)))
theorem m_note {o a : Nat} (hD : 1 ≤ D) (h : EN iv av Mk) (hl : Mk.length < 1200) : ∃ iv' av', NF iv av iv' av' ∧ (iv' 14 = iv 14 ∧ av' 29 = av 29 ∧ av' 30 = av 30) ∧ xm D 79 [.ref 27, .int (nI o), .int (nI a)] (xs iv av lv) (none, xs iv' av' lv) ∧ EN iv' av' (Mk ++ [(o, a)]) := by
  obtain ⟨d, rfl⟩ : ∃ d, D = d + 1 := ⟨D - 1, by omega⟩
  have hbd : 0 ≤ (iv 15).toInt ∧ (iv 15).toInt < ((1200 : Nat) : Int) := by rw [h.1]; exact nI_bd (by omega) (by omega)
  have ek : (iv 15).toNatClampNeg = Mk.length := by rw [h.1]; exact nI_clamp (by omega)
  refine ⟨upd iv 15 (nI (Mk.length + 1)), va_up (va_up av 31 (upd (av 31) Mk.length (nI o))) 32 (upd (av 32) Mk.length (nI a)), ⟨fun q _ b => upd_ne' b, fun q a => by rw [va_up_ne' (by omega), va_up_ne' (by omega)]⟩, ⟨rfl, rfl, rfl⟩, ?_, ?_, fun j x y hj => ?_⟩
  · refine xm_of (nL := 3) rfl rfl (xb_79_0 hbd ?_)
    rw [ek]
    refine xb_79_10 hbd ?_
    rw [ek]
    have := @xb_79_20 d iv (va_up (va_up av 31 (upd (av 31) Mk.length (nI o))) 32 (upd (av 32) Mk.length (nI a))) lv (nI o) (nI a)
    rw [h.1, nI_1] at this
    exact this
  · show upd iv 15 _ 15 = _
    rw [upd_eq', List.length_append]
    rfl
  · show upd (av 31) Mk.length (nI o) j = _ ∧ upd (av 32) Mk.length (nI a) j = _
    rcases snoc_get hj with hj | ⟨rfl, rfl, rfl⟩
    · have := (List.getElem?_eq_some_iff.mp hj).1
      rw [upd_ne' (by omega), upd_ne' (by omega)]
      exact h.2 j x y hj
    · rw [upd_eq', upd_eq']
      exact ⟨rfl, rfl⟩
theorem m_emit {o a : Nat} (hD : 2 ≤ D) (hK : EC iv av K) (h : EN iv av Mk) (hl : K.length < 500) (hl2 : Mk.length < 1200) (ho : o < 100) : ∃ iv' av', NF iv av iv' av' ∧ xm D 80 [.ref 27, .int (nI o), .int (nI a)] (xs iv av lv) (none, xs iv' av' lv) ∧ EC iv' av' (K ++ [(o, a)]) ∧ EN iv' av' (if noted o = true then Mk ++ [(o, a)] else Mk) := by
  obtain ⟨d, rfl⟩ : ∃ d, D = d + 1 := ⟨D - 1, by omega⟩
  have hbd : 0 ≤ (iv 14).toInt ∧ (iv 14).toInt < ((500 : Nat) : Int) := by rw [hK.1]; exact nI_bd (by omega) (by omega)
  have ek : (iv 14).toNatClampNeg = K.length := by rw [hK.1]; exact nI_clamp (by omega)
  generalize hav : va_up (va_up av 29 (upd (av 29) K.length (nI o))) 30 (upd (av 30) K.length (nI a)) = av1
  generalize hiv : upd iv 14 (nI (K.length + 1)) = iv1
  have f1 : NF iv av iv1 av1 := by
    rw [← hav, ← hiv]
    exact ⟨fun q a _ => upd_ne' a, fun q a => by rw [va_up_ne' (by omega), va_up_ne' (by omega)]⟩
  have k1 : EC iv1 av1 (K ++ [(o, a)]) := by
    refine ⟨by rw [← hiv, upd_eq', List.length_append]; rfl, fun j x y hj => ?_⟩
    rw [← hav]
    show upd (av 29) K.length (nI o) j = _ ∧ upd (av 30) K.length (nI a) j = _
    rcases snoc_get hj with hj | ⟨rfl, rfl, rfl⟩
    · have := (List.getElem?_eq_some_iff.mp hj).1
      rw [upd_ne' (by omega), upd_ne' (by omega)]
      exact hK.2 j x y hj
    · rw [upd_eq', upd_eq']
      exact ⟨rfl, rfl⟩
  have n1 : EN iv1 av1 Mk := by
    rw [← hav, ← hiv]
    exact ⟨h.1, h.2⟩
  have go : ∀ x, (noted o = true → xe d xt_80 54 [some (.ref 27), some (.int (nI o)), some (.int (nI a))] [] (xs iv1 av1 lv) x) → (¬ noted o = true → xe d xt_80 60 [some (.ref 27), some (.int (nI o)), some (.int (nI a))] [] (xs iv1 av1 lv) x) → xm (d + 1) 80 [.ref 27, .int (nI o), .int (nI a)] (xs iv av lv) x := by
    intro x h1 h2
    refine xm_of (nL := 3) rfl rfl (xb_80_0 hbd ?_)
    rw [ek]
    refine xb_80_10 hbd ?_
    rw [ek]
    have e1 : upd iv 14 (iv 14 + 1) = iv1 := by rw [hK.1, nI_1]; exact hiv
    have dn : noted o = true ↔ (o < 13 ∨ o = 16 ∨ o = 17 ∨ o = 18) := by unfold noted; exact decide_eq_true_iff
    refine xb_80_20 (fun g => ?_) (fun g1 => ?_)
    · rw [e1]
      have := (nI_ltI (b := 13) (by omega) (by omega)).mp g
      show xe d xt_80 54 _ [] (xs iv1 (va_up (va_up av 29 (upd (av 29) K.length (nI o))) 30 (upd (av 30) K.length (nI a))) lv) x
      rw [hav]
      exact h1 (dn.mpr (Or.inl this))
    · rw [e1]
      show xe d xt_80 36 _ [] (xs iv1 (va_up (va_up av 29 (upd (av 29) K.length (nI o))) 30 (upd (av 30) K.length (nI a))) lv) x
      rw [hav]
      refine xb_80_36 (fun g => h1 (dn.mpr (Or.inr (Or.inl ((nI_eq (b := 16) (by omega) (by omega)).mp g))))) (fun g2 => xb_80_42 (fun g => h1 (dn.mpr (Or.inr (Or.inr (Or.inl ((nI_eq (b := 17) (by omega) (by omega)).mp g)))))) (fun g3 => xb_80_48 (fun g => h1 (dn.mpr (Or.inr (Or.inr (Or.inr ((nI_eq (b := 18) (by omega) (by omega)).mp g)))))) (fun g4 => h2 (fun q => ?_))))
      rcases dn.mp q with q | q | q | q
      · exact g1 (show nI o < nI 13 from nI_lt q (by omega))
      · exact g2 (by rw [q]; rfl)
      · exact g3 (by rw [q]; rfl)
      · exact g4 (by rw [q]; rfl)
  by_cases hn : noted o = true
  · obtain ⟨iv2, av2, f2, ⟨e1, e2, e3⟩, x2, n2⟩ := m_note (lv := lv) (D := d) (o := o) (a := a) (by omega) n1 hl2
    refine ⟨iv2, av2, f1.tr f2, go _ (fun _ => xb_80_54 x2 xb_80_60) (fun g => absurd hn g), ⟨by rw [e1]; exact k1.1, fun j x y hj => by rw [e2, e3]; exact k1.2 j x y hj⟩, ?_⟩
    rw [if_pos hn]
    exact n2
  · refine ⟨iv1, av1, f1, go _ (fun g => absurd g hn) (fun _ => xb_80_60), k1, ?_⟩
    rw [if_neg hn]
    exact n1
/-- the operators' strength and instruction -/
def st (c : Nat) : Nat := if c = 42 ∨ c = 47 then 3 else if c = 43 ∨ c = 45 then 2 else if c = 60 ∨ c = 61 then 1 else 0
def ins (c : Nat) : Nat := if c = 43 then 5 else if c = 45 then 6 else if c = 42 then 7 else if c = 47 then 8 else if c = 60 then 9 else 10
theorem st_le (c : Nat) : st c ≤ 3 := by unfold st; split; omega; split; omega; split <;> omega
theorem ins_lt (c : Nat) : 5 ≤ ins c ∧ ins c ≤ 10 := by unfold ins; split; omega; split; omega; split; omega; split; omega; split <;> omega
theorem m_str (hD : 1 ≤ D) (hc : c < 2 ^ 30) : xm D 81 [.int (nI c)] (xs iv av lv) (some (.int (nI (st c))), xs iv av lv) := by
  obtain ⟨d, rfl⟩ : ∃ d, D = d + 1 := ⟨D - 1, by omega⟩
  have ne : ∀ {k : Nat}, k < 2 ^ 30 → c ≠ k → ¬ nI c = nI k := fun hk h g => h ((nI_eq (by omega) (by omega)).mp g)
  have eq : ∀ {k : Nat}, k < 2 ^ 30 → nI c = nI k → c = k := fun hk g => (nI_eq (by omega) (by omega)).mp g
  refine xm_of (nL := 1) rfl rfl ?_
  unfold st
  refine xb_81_0 (fun g => ?_) (fun g1 => xb_81_6 (fun g => ?_) (fun g2 => ?_))
  · rw [if_pos (Or.inl (eq (k := 42) (by omega) g))]; exact xb_81_12 xb_81_49
  · rw [if_pos (Or.inr (eq (k := 47) (by omega) g))]; exact xb_81_12 xb_81_49
  rw [if_neg (fun q => q.elim (fun q => g1 (by rw [q]; rfl)) (fun q => g2 (by rw [q]; rfl)))]
  refine xb_81_16 (fun g => ?_) (fun g3 => xb_81_22 (fun g => ?_) (fun g4 => ?_))
  · rw [if_pos (Or.inl (eq (k := 43) (by omega) g))]; exact xb_81_28 xb_81_49
  · rw [if_pos (Or.inr (eq (k := 45) (by omega) g))]; exact xb_81_28 xb_81_49
  rw [if_neg (fun q => q.elim (fun q => g3 (by rw [q]; rfl)) (fun q => g4 (by rw [q]; rfl)))]
  refine xb_81_32 (fun g => ?_) (fun g5 => xb_81_38 (fun g => ?_) (fun g6 => ?_))
  · rw [if_pos (Or.inl (eq (k := 60) (by omega) g))]; exact xb_81_44 xb_81_49
  · rw [if_pos (Or.inr (eq (k := 61) (by omega) g))]; exact xb_81_44 xb_81_49
  rw [if_neg (fun q => q.elim (fun q => g5 (by rw [q]; rfl)) (fun q => g6 (by rw [q]; rfl)))]
  exact xb_81_48 xb_81_49
theorem m_ins (hD : 1 ≤ D) (hc : c < 2 ^ 30) : xm D 82 [.int (nI c)] (xs iv av lv) (some (.int (nI (ins c))), xs iv av lv) := by
  obtain ⟨d, rfl⟩ : ∃ d, D = d + 1 := ⟨D - 1, by omega⟩
  have eq : ∀ {k : Nat}, k < 2 ^ 30 → nI c = nI k → c = k := fun hk g => (nI_eq (by omega) (by omega)).mp g
  refine xm_of (nL := 1) rfl rfl ?_
  unfold ins
  refine xb_82_0 (fun g => ?_) (fun g1 => ?_)
  · rw [if_pos (eq (k := 43) (by omega) g)]; exact xb_82_6 xb_82_56
  rw [if_neg (fun q => g1 (by rw [q]; rfl))]
  refine xb_82_10 (fun g => ?_) (fun g1 => ?_)
  · rw [if_pos (eq (k := 45) (by omega) g)]; exact xb_82_16 xb_82_56
  rw [if_neg (fun q => g1 (by rw [q]; rfl))]
  refine xb_82_21 (fun g => ?_) (fun g1 => ?_)
  · rw [if_pos (eq (k := 42) (by omega) g)]; exact xb_82_27 xb_82_56
  rw [if_neg (fun q => g1 (by rw [q]; rfl))]
  refine xb_82_32 (fun g => ?_) (fun g1 => ?_)
  · rw [if_pos (eq (k := 47) (by omega) g)]; exact xb_82_38 xb_82_56
  rw [if_neg (fun q => g1 (by rw [q]; rfl))]
  refine xb_82_43 (fun g => ?_) (fun g1 => ?_)
  · rw [if_pos (eq (k := 60) (by omega) g)]; exact xb_82_49 xb_82_56
  rw [if_neg (fun q => g1 (by rw [q]; rfl))]
  exact xb_82_54 xb_82_56
end MB
