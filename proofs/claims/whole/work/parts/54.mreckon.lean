/-! The reference: reckon and shut, one mark at a time. -/
section MRK
variable {D : Nat} {iv : Nat → Int32} {av : Nat → Nat → Int32} {lv : Nat → Nat → Int64}
theorem m_cost {o : Nat} (hD : 1 ≤ D) (ho : o < 19) (h14 : o ≠ 14) : xm D 95 [.int (nI o)] (xs iv av lv) (some (.int (nI (cs1 o))), xs iv av lv) := by
  obtain ⟨d, rfl⟩ : ∃ d, D = d + 1 := ⟨D - 1, by omega⟩
  refine xm_of (nL := 1) rfl rfl ?_
  have : o = 0 ∨ o = 1 ∨ o = 2 ∨ o = 3 ∨ o = 4 ∨ o = 5 ∨ o = 6 ∨ o = 7 ∨ o = 8 ∨ o = 9 ∨ o = 10 ∨ o = 11 ∨ o = 12 ∨ o = 13 ∨ o = 15 ∨ o = 16 ∨ o = 17 ∨ o = 18 := by omega
  have f28 : ∀ {o : Nat} {x : xi_R}, o ≠ 0 → o ≠ 1 → o ≠ 2 → o ≠ 16 → o < 30 → xe d xt_95 28 [some (.int (nI o))] [] (xs iv av lv) x → xe d xt_95 0 [some (.int (nI o))] [] (xs iv av lv) x := fun {o x} a b c e h hx =>
    xb_95_0 (fun g => absurd ((nI_eq (b := 0) (by omega) (by omega)).mp g) a) (fun _ => xb_95_8 (fun g => absurd ((nI_eq (b := 1) (by omega) (by omega)).mp g) b) (fun _ => xb_95_13 (fun g => absurd ((nI_eq (b := 2) (by omega) (by omega)).mp g) c) (fun _ => xb_95_18 (fun g => absurd ((nI_eq (b := 16) (by omega) (by omega)).mp g) e) (fun _ => hx))))
  have f48 : ∀ {o : Nat} {x : xi_R}, o ≠ 0 → o ≠ 1 → o ≠ 2 → o ≠ 16 → o ≠ 3 → o ≠ 4 → o ≠ 17 → o < 30 → xe d xt_95 48 [some (.int (nI o))] [] (xs iv av lv) x → xe d xt_95 0 [some (.int (nI o))] [] (xs iv av lv) x := fun {o x} a b c e f g' k h hx =>
    f28 a b c e h (xb_95_28 (fun g => absurd ((nI_eq (b := 3) (by omega) (by omega)).mp g) f) (fun _ => xb_95_33 (fun g => absurd ((nI_eq (b := 4) (by omega) (by omega)).mp g) g') (fun _ => xb_95_38 (fun g => absurd ((nI_eq (b := 17) (by omega) (by omega)).mp g) k) (fun _ => hx))))
  have f80 : ∀ {o : Nat} {x : xi_R}, o ≠ 0 → o ≠ 1 → o ≠ 2 → o ≠ 16 → o ≠ 3 → o ≠ 4 → o ≠ 17 → o ≠ 7 → o ≠ 8 → o ≠ 12 → o < 30 → xe d xt_95 80 [some (.int (nI o))] [] (xs iv av lv) x → xe d xt_95 0 [some (.int (nI o))] [] (xs iv av lv) x := fun {o x} a b c e f g' k l m n h hx =>
    f48 a b c e f g' k h (xb_95_48 (fun g => absurd ((nI_eq (b := 7) (by omega) (by omega)).mp g) l) (fun _ => xb_95_58 (fun g => absurd ((nI_eq (b := 8) (by omega) (by omega)).mp g) m) (fun _ => xb_95_69 (fun g => absurd ((nI_eq (b := 12) (by omega) (by omega)).mp g) n) (fun _ => hx))))
  have f1 : ∀ {o : Nat}, o ≠ 0 → o ≠ 1 → o ≠ 2 → o ≠ 16 → o ≠ 3 → o ≠ 4 → o ≠ 17 → o ≠ 7 → o ≠ 8 → o ≠ 12 → o ≠ 18 → o < 30 → xe d xt_95 0 [some (.int (nI o))] [] (xs iv av lv) (some (.int 1), xs iv av lv) := fun {o} a b c e f g' k l m n r h =>
    f80 a b c e f g' k l m n h (xb_95_80 (fun g => absurd ((nI_eq (b := 18) (by omega) (by omega)).mp g) r) (fun _ => xb_95_90 xb_95_91))
  rcases this with rfl | rfl | rfl | rfl | rfl | rfl | rfl | rfl | rfl | rfl | rfl | rfl | rfl | rfl | rfl | rfl | rfl | rfl
  · exact xb_95_0 (fun _ => xb_95_4 xb_95_91) (fun g => absurd rfl g)
  · exact xb_95_0 (fun g => absurd g (by decide)) (fun _ => xb_95_8 (fun _ => xb_95_24 xb_95_91) (fun g => absurd rfl g))
  · exact xb_95_0 (fun g => absurd g (by decide)) (fun _ => xb_95_8 (fun g => absurd g (by decide)) (fun _ => xb_95_13 (fun _ => xb_95_24 xb_95_91) (fun g => absurd rfl g)))
  · exact f28 (by decide) (by decide) (by decide) (by decide) (by decide) (xb_95_28 (fun _ => xb_95_44 xb_95_91) (fun g => absurd rfl g))
  · exact f28 (by decide) (by decide) (by decide) (by decide) (by decide) (xb_95_28 (fun g => absurd g (by decide)) (fun _ => xb_95_33 (fun _ => xb_95_44 xb_95_91) (fun g => absurd rfl g)))
  · exact f1 (by decide) (by decide) (by decide) (by decide) (by decide) (by decide) (by decide) (by decide) (by decide) (by decide) (by decide) (by decide)
  · exact f1 (by decide) (by decide) (by decide) (by decide) (by decide) (by decide) (by decide) (by decide) (by decide) (by decide) (by decide) (by decide)
  · exact f48 (by decide) (by decide) (by decide) (by decide) (by decide) (by decide) (by decide) (by decide) (xb_95_48 (fun _ => xb_95_54 xb_95_91) (fun g => absurd rfl g))
  · exact f48 (by decide) (by decide) (by decide) (by decide) (by decide) (by decide) (by decide) (by decide) (xb_95_48 (fun g => absurd g (by decide)) (fun _ => xb_95_58 (fun _ => xb_95_64 xb_95_91) (fun g => absurd rfl g)))
  · exact f1 (by decide) (by decide) (by decide) (by decide) (by decide) (by decide) (by decide) (by decide) (by decide) (by decide) (by decide) (by decide)
  · exact f1 (by decide) (by decide) (by decide) (by decide) (by decide) (by decide) (by decide) (by decide) (by decide) (by decide) (by decide) (by decide)
  · exact f1 (by decide) (by decide) (by decide) (by decide) (by decide) (by decide) (by decide) (by decide) (by decide) (by decide) (by decide) (by decide)
  · exact f48 (by decide) (by decide) (by decide) (by decide) (by decide) (by decide) (by decide) (by decide) (xb_95_48 (fun g => absurd g (by decide)) (fun _ => xb_95_58 (fun g => absurd g (by decide)) (fun _ => xb_95_69 (fun _ => xb_95_75 xb_95_91) (fun g => absurd rfl g))))
  · exact f1 (by decide) (by decide) (by decide) (by decide) (by decide) (by decide) (by decide) (by decide) (by decide) (by decide) (by decide) (by decide)
  · exact f1 (by decide) (by decide) (by decide) (by decide) (by decide) (by decide) (by decide) (by decide) (by decide) (by decide) (by decide) (by decide)
  · exact xb_95_0 (fun g => absurd g (by decide)) (fun _ => xb_95_8 (fun g => absurd g (by decide)) (fun _ => xb_95_13 (fun g => absurd g (by decide)) (fun _ => xb_95_18 (fun _ => xb_95_24 xb_95_91) (fun g => absurd rfl g))))
  · exact f28 (by decide) (by decide) (by decide) (by decide) (by decide) (xb_95_28 (fun g => absurd g (by decide)) (fun _ => xb_95_33 (fun g => absurd g (by decide)) (fun _ => xb_95_38 (fun _ => xb_95_44 xb_95_91) (fun g => absurd rfl g))))
  · exact f80 (by decide) (by decide) (by decide) (by decide) (by decide) (by decide) (by decide) (by decide) (by decide) (by decide) (by decide) (xb_95_80 (fun _ => xb_95_86 xb_95_91) (fun g => absurd rfl g))
/-- what an instruction adds to the height -/
def HG (o : Nat) (r : Int32) : Prop := (∀ h h', nh o h = some h' → nI h + r = nI h') ∧ (o = 17 ∨ o = 18 → ∀ h, nI h + r = nI h)
theorem nI_a0 (h : Nat) : nI h + 0 = nI h := by rw [show (0 : Int32) = nI 0 from rfl, nI_add, Nat.add_zero]
theorem nI_am1 {h : Nat} (h1 : 1 ≤ h) : nI h + (-1) = nI (h - 1) := by
  obtain ⟨k, rfl⟩ : ∃ k, h = k + 1 := ⟨h - 1, by omega⟩
  exact pk_m1 k
theorem nI_am2 {h : Nat} (h1 : 2 ≤ h) : nI h + (-2) = nI (h - 2) := by
  obtain ⟨k, rfl⟩ : ∃ k, h = k + 2 := ⟨h - 2, by omega⟩
  show nI (k + 2) + (-2) = nI k
  rw [show (-2 : Int32) = (-1) + (-1) by decide, ← Int32.add_assoc]
  show nI (k + 1 + 1) + (-1) + (-1) = nI k
  rw [pk_m1, pk_m1]
theorem hg_1 {o : Nat} (h : o = 0 ∨ o = 1) : HG o 1 := ⟨fun k k' e => by
  unfold nh at e
  rw [if_pos h] at e
  cases e
  exact nI_1 k, fun q => by omega⟩
theorem hg_0 {o : Nat} (h : o = 3 ∨ o = 11 ∨ o = 16) : HG o 0 := ⟨fun k k' e => by
  unfold nh at e
  rw [if_neg (by omega), if_pos h] at e
  split at e
  · cases e; exact nI_a0 k
  · exact (nomatch e), fun q => by omega⟩
theorem hg_17 {o : Nat} (h : o = 17 ∨ o = 18) : HG o 0 := ⟨fun k k' e => by
  unfold nh at e
  rw [if_neg (by omega), if_neg (by omega), if_neg (by omega), if_neg (by omega), if_neg (by omega)] at e
  exact (nomatch e), fun _ k => nI_a0 k⟩
theorem hg_m2 : HG 4 (-2) := ⟨fun k k' e => by
  unfold nh at e
  rw [if_neg (by omega), if_neg (by omega), if_neg (by omega), if_pos rfl] at e
  split at e
  · cases e; exact nI_am2 (by omega)
  · exact (nomatch e), fun q => by omega⟩
theorem hg_m1 {o : Nat} (h : o = 2 ∨ o = 12 ∨ (5 ≤ o ∧ o ≤ 10)) : HG o (-1) := ⟨fun k k' e => by
  unfold nh at e
  rw [if_neg (by omega), if_neg (by omega)] at e
  by_cases h2 : o = 2 ∨ o = 12
  · rw [if_pos h2] at e
    split at e
    · cases e; exact nI_am1 (by omega)
    · cases e
  · rw [if_neg h2, if_neg (by omega), if_pos (by omega)] at e
    split at e
    · cases e; exact nI_am1 (by omega)
    · exact (nomatch e), fun q => by omega⟩
theorem m_grow {o : Nat} (hD : 1 ≤ D) (ho : o ≤ 12 ∨ o = 16 ∨ o = 17 ∨ o = 18) : ∃ r, HG o r ∧ xm D 96 [.int (nI o)] (xs iv av lv) (some (.int r), xs iv av lv) := by
  obtain ⟨d, rfl⟩ : ∃ d, D = d + 1 := ⟨D - 1, by omega⟩
  have ne : ∀ {k : Nat}, k < 2 ^ 30 → o ≠ k → ¬ nI o = nI k := fun hk q g => q ((nI_eq (by omega) (by omega)).mp g)
  by_cases h1 : o = 0 ∨ o = 1
  · refine ⟨1, hg_1 h1, xm_of (nL := 1) rfl rfl ?_⟩
    rcases h1 with rfl | rfl
    · exact xb_96_0 (fun _ => xb_96_9 xb_96_57) (fun g => absurd rfl g)
    · exact xb_96_0 (fun g => absurd g (by decide)) (fun _ => xb_96_4 (fun _ => xb_96_9 xb_96_57) (fun g => absurd rfl g))
  have g13 : ∀ x, xe d xt_96 13 [some (.int (nI o))] [] (xs iv av lv) x → xm (d + 1) 96 [.int (nI o)] (xs iv av lv) x := fun x hx => xm_of (nL := 1) rfl rfl (xb_96_0 (fun g => absurd g (ne (k := 0) (by omega) (by omega))) (fun _ => xb_96_4 (fun g => absurd g (ne (k := 1) (by omega) (by omega))) (fun _ => hx)))
  by_cases h0 : o = 3 ∨ o = 11 ∨ o = 16 ∨ o = 17 ∨ o = 18
  · refine ⟨0, ?_, g13 _ ?_⟩
    · by_cases q : o = 17 ∨ o = 18
      · exact hg_17 q
      · exact hg_0 (by omega)
    · rcases h0 with rfl | rfl | rfl | rfl | rfl
      · exact xb_96_13 (fun _ => xb_96_42 xb_96_57) (fun g => absurd rfl g)
      · exact xb_96_13 (fun g => absurd g (by decide)) (fun _ => xb_96_18 (fun _ => xb_96_42 xb_96_57) (fun g => absurd rfl g))
      · exact xb_96_13 (fun g => absurd g (by decide)) (fun _ => xb_96_18 (fun g => absurd g (by decide)) (fun _ => xb_96_24 (fun _ => xb_96_42 xb_96_57) (fun g => absurd rfl g)))
      · exact xb_96_13 (fun g => absurd g (by decide)) (fun _ => xb_96_18 (fun g => absurd g (by decide)) (fun _ => xb_96_24 (fun g => absurd g (by decide)) (fun _ => xb_96_30 (fun _ => xb_96_42 xb_96_57) (fun g => absurd rfl g))))
      · exact xb_96_13 (fun g => absurd g (by decide)) (fun _ => xb_96_18 (fun g => absurd g (by decide)) (fun _ => xb_96_24 (fun g => absurd g (by decide)) (fun _ => xb_96_30 (fun g => absurd g (by decide)) (fun _ => xb_96_36 (fun _ => xb_96_42 xb_96_57) (fun g => absurd rfl g)))))
  have g46 : ∀ x, xe d xt_96 46 [some (.int (nI o))] [] (xs iv av lv) x → xm (d + 1) 96 [.int (nI o)] (xs iv av lv) x := fun x hx => g13 x (xb_96_13 (fun g => absurd g (ne (k := 3) (by omega) (by omega))) (fun _ => xb_96_18 (fun g => absurd g (ne (k := 11) (by omega) (by omega))) (fun _ => xb_96_24 (fun g => absurd g (ne (k := 16) (by omega) (by omega))) (fun _ => xb_96_30 (fun g => absurd g (ne (k := 17) (by omega) (by omega))) (fun _ => xb_96_36 (fun g => absurd g (ne (k := 18) (by omega) (by omega))) (fun _ => hx))))))
  by_cases h4 : o = 4
  · subst h4
    exact ⟨-2, hg_m2, g46 _ (xb_96_46 (fun _ => xb_96_51 xb_96_57) (fun g => absurd rfl g))⟩
  · exact ⟨-1, hg_m1 (by omega), g46 _ (xb_96_46 (fun g => absurd g (ne (k := 4) (by omega) h4)) (fun _ => xb_96_56 xb_96_57))⟩
theorem m_cap {v : Nat} (hD : 1 ≤ D) (hv : v < 2 ^ 31) : xm D 97 [.int (nI v)] (xs iv av lv) (some (.int (nI (min v 100000))), xs iv av lv) := by
  obtain ⟨d, rfl⟩ : ∃ d, D = d + 1 := ⟨D - 1, by omega⟩
  refine xm_of (nL := 1) rfl rfl (xb_97_0 (fun g => xb_97_6 ?_) (fun g => xb_97_11 ?_))
  · have : 100000 < v := (nI_ltI (a := 100000) (by omega) hv).mp g
    rw [show min v 100000 = 100000 by omega]
    exact xb_97_12
  · have : ¬ 100000 < v := fun q => g ((nI_ltI (a := 100000) (by omega) hv).mpr q)
    rw [show min v 100000 = v by omega]
    exact xb_97_12
theorem m_gr {a b : Nat} (hD : 1 ≤ D) (ha : a < 2 ^ 31) (hb : b < 2 ^ 31) : xm D 98 [.int (nI a), .int (nI b)] (xs iv av lv) (some (.int (nI (max a b))), xs iv av lv) := by
  obtain ⟨d, rfl⟩ : ∃ d, D = d + 1 := ⟨D - 1, by omega⟩
  refine xm_of (nL := 2) rfl rfl (xb_98_0 (fun g => xb_98_5 ?_) (fun g => xb_98_9 ?_))
  · have : b < a := (nI_ltI hb ha).mp g
    rw [show max a b = a by omega]
    exact xb_98_10
  · have : ¬ b < a := fun q => g ((nI_ltI hb ha).mpr q)
    rw [show max a b = b by omega]
    exact xb_98_10
end MRK
def RX (p en : Nat) (Mk : List In) (t dd : Nat → Nat) (G : Nat → Prop) (av : Nat → Nat → Int32) : Prop := p < 5 ∧ en ≤ 1200 ∧ av 36 p = nI en ∧ (∀ j o a, Mk[j]? = some (o, a) → av 31 j = nI o ∧ av 32 j = nI a) ∧ (∀ q, q < 4 → G q → av 49 q = nI (t q) ∧ av 50 q = nI (dd q)) ∧ ∀ q, t q ≤ 100000 ∧ dd q ≤ 2000
theorem RX.to {p en : Nat} {Mk : List In} {t dd : Nat → Nat} {G : Nat → Prop} {av av' : Nat → Nat → Int32} (h : RX p en Mk t dd G av) (f : ∀ q, q < 43 ∨ 48 < q → av' q = av q) : RX p en Mk t dd G av' := by
  obtain ⟨h1, h2, h3, h4, h5, h6⟩ := h
  refine ⟨h1, h2, by rw [f 36 (by omega)]; exact h3, fun j o a hj => by rw [f 31 (by omega), f 32 (by omega)]; exact h4 j o a hj, fun q hq hg => by rw [f 49 (by omega), f 50 (by omega)]; exact h5 q hq hg, h6⟩
def RW (d p : Nat) (iv : Nat → Int32) (lv : Nat → Nat → Int64) (l h s : Nat) (av : Nat → Nat → Int32) (x : xi_R) : Prop := ∀ o5 o6 o7, xe d xt_99 26 [some (.ref 27), some (.int (nI p)), some (.int (nI l)), some (.int (nI h)), some (.int (nI s)), o5, o6, o7] [] (xs iv av lv) x
/-- what a piece at level l leaves alone -/
def FR (l : Nat) (av av' : Nat → Nat → Int32) : Prop := (∀ q, q < 43 ∨ 48 < q → av' q = av q) ∧ (∀ j, j < l → av' 43 j = av 43 j ∧ av' 44 j = av 44 j) ∧ ∀ j, j ≤ l → av' 45 j = av 45 j ∧ av' 46 j = av 46 j ∧ av' 47 j = av 47 j ∧ av' 48 j = av 48 j
theorem FR.rf {l : Nat} {av : Nat → Nat → Int32} : FR l av av := ⟨fun _ _ => rfl, fun _ _ => ⟨rfl, rfl⟩, fun _ _ => ⟨rfl, rfl, rfl, rfl⟩⟩
theorem FR.tr {l : Nat} {av av1 av2 : Nat → Nat → Int32} (h : FR l av av1) (g : FR l av1 av2) : FR l av av2 := ⟨fun q a => (g.1 q a).trans (h.1 q a), fun j a => ⟨(g.2.1 j a).1.trans (h.2.1 j a).1, (g.2.1 j a).2.trans (h.2.1 j a).2⟩, fun j a => ⟨(g.2.2 j a).1.trans (h.2.2 j a).1, (g.2.2 j a).2.1.trans (h.2.2 j a).2.1, (g.2.2 j a).2.2.1.trans (h.2.2 j a).2.2.1, (g.2.2 j a).2.2.2.trans (h.2.2 j a).2.2.2⟩⟩
/-- what is done above level l leaves alone -/
def FO (l : Nat) (av av' : Nat → Nat → Int32) : Prop := (∀ q, q < 43 ∨ 48 < q → av' q = av q) ∧ ∀ j, j ≤ l → av' 43 j = av 43 j ∧ av' 44 j = av 44 j ∧ av' 45 j = av 45 j ∧ av' 46 j = av 46 j ∧ av' 47 j = av 47 j ∧ av' 48 j = av 48 j
theorem FR.fo {l : Nat} {av av' : Nat → Nat → Int32} (h : FR (l + 1) av av') : FO l av av' := ⟨h.1, fun j a => ⟨(h.2.1 j (by omega)).1, (h.2.1 j (by omega)).2, h.2.2 j (by omega)⟩⟩
theorem FO.fr {l : Nat} {av av' : Nat → Nat → Int32} (h : FO l av av') : FR l av av' := ⟨h.1, fun j a => ⟨(h.2 j (by omega)).1, (h.2 j (by omega)).2.1⟩, fun j a => (h.2 j a).2.2⟩
theorem FO.tr {l : Nat} {av av1 av2 : Nat → Nat → Int32} (h : FO l av av1) (g : FO l av1 av2) : FO l av av2 := ⟨fun q a => (g.1 q a).trans (h.1 q a), fun j a => ⟨(g.2 j a).1.trans (h.2 j a).1, (g.2 j a).2.1.trans (h.2 j a).2.1, (g.2 j a).2.2.1.trans (h.2 j a).2.2.1, (g.2 j a).2.2.2.1.trans (h.2 j a).2.2.2.1, (g.2 j a).2.2.2.2.1.trans (h.2 j a).2.2.2.2.1, (g.2 j a).2.2.2.2.2.trans (h.2 j a).2.2.2.2.2⟩⟩
def cw (av : Nat → Nat → Int32) (l c w : Nat) : Nat → Nat → Int32 := va_up (va_up av 43 (upd (av 43) l (nI c))) 44 (upd (av 44) l (nI w))
theorem cw_fr {av : Nat → Nat → Int32} {l c w : Nat} : FR l av (cw av l c w) := by
  refine ⟨fun q a => ?_, fun j a => ?_, fun j a => ⟨rfl, rfl, rfl, rfl⟩⟩
  · unfold cw
    rw [va_up_ne' (by omega), va_up_ne' (by omega)]
  · show upd (av 43) l _ j = _ ∧ upd (av 44) l _ j = _
    rw [upd_ne' (by omega), upd_ne' (by omega)]
    exact ⟨rfl, rfl⟩
theorem cw_at {av : Nat → Nat → Int32} {l c w : Nat} : cw av l c w 43 l = nI c ∧ cw av l c w 44 l = nI w := ⟨show upd (av 43) l (nI c) l = _ from upd_eq', show upd (av 44) l (nI w) l = _ from upd_eq'⟩
section MRS
variable {d p en : Nat} {iv : Nat → Int32} {av : Nat → Nat → Int32} {lv : Nat → Nat → Int64} {Mk : List In} {t dd : Nat → Nat} {G : Nat → Prop} {x : xi_R} {l h s X Y : Nat}
theorem rw_pre {o a : Nat} (hx : RX p en Mk t dd G av) (hs : s < en) (hm : Mk[s]? = some (o, a)) (go : xe d xt_99 53 [some (.ref 27), some (.int (nI p)), some (.int (nI l)), some (.int (nI h)), some (.int (nI s)), some (.int (nI o)), none, none] [.int (nI a)] (xs iv av lv) x) : RW d p iv lv l h s av x := fun o5 o6 o7 => by
  obtain ⟨h1, h2, h3, h4, h5, h6⟩ := hx
  obtain ⟨e31, e32⟩ := h4 s o a hm
  have cp : (nI p).toNatClampNeg = p := nI_clamp (by omega)
  have cs : (nI s).toNatClampNeg = s := nI_clamp (by omega)
  refine xb_99_26 (nI_bd (by omega) (by omega)) ?_
  rw [cp, h3]
  refine xb_99_34 (fun _ => xb_99_37 (nI_bd (by omega) (by omega)) ?_) (fun g => absurd (nI_lt hs (by omega)) g)
  rw [cs, e31]
  refine xb_99_44 (nI_bd (by omega) (by omega)) ?_
  rw [cs, e32]
  exact go
theorem rw_next {h' l' : Nat} {o5 o6 o7 : Option Value} (go : RW d p iv lv l' h' (s + 1) av x) : xe d xt_99 304 [some (.ref 27), some (.int (nI p)), some (.int (nI l')), some (.int (nI h')), some (.int (nI s)), o5, o6, o7] [] (xs iv av lv) x := by
  refine xb_99_304 ?_
  rw [nI_1]
  exact go _ _ _
/-- an instruction that is no call -/
theorem rw_one {o a h' : Nat} (hd : 1 ≤ d) (hx : RX p en Mk t dd G av) (hs : s < en) (hm : Mk[s]? = some (o, a)) (ho : o ≤ 12 ∨ o = 16 ∨ o = 18) (hh : nh o h = some h' ∨ (o = 18 ∧ h' = h)) (hl : l < 10) (hX : av 43 l = nI X) (hX2 : X ≤ 100000) (hY : av 44 l = nI Y) (hY2 : Y ≤ 2000000) (hh2 : h' ≤ 2000000)
    (go : RW d p iv lv l h' (s + 1) (cw av l (min (X + cs1 o) 100000) (max Y h')) x) : RW d p iv lv l h s av x := by
  obtain ⟨r, hr, xr⟩ := m_grow (D := d) (iv := iv) (av := av) (lv := lv) (o := o) hd (by omega)
  have er : nI h + r = nI h' := by
    rcases hh with q | ⟨q, rfl⟩
    · exact hr.1 h h' q
    · exact hr.2 (Or.inr q) h'
  have xc := m_cost (D := d) (iv := iv) (av := av) (lv := lv) (o := o) hd (by omega) (by omega)
  have cl : (nI l).toNatClampNeg = l := nI_clamp (by omega)
  have hb : 0 ≤ (nI l).toInt ∧ (nI l).toInt < ((10 : Nat) : Int) := nI_bd hl (by omega)
  have hc := cs1_le o
  refine rw_pre hx hs hm (xb_99_53 (fun _ => xb_99_62 xr ?_) (fun g => absurd (show nI o < nI 30 from nI_lt (by omega) (by omega)) g))
  refine xb_99_68 (fun g => absurd ((nI_eq (b := 17) (by omega) (by omega)).mp g) (by omega)) (fun _ => xb_99_81 (xb_99_82 hb ?_))
  rw [er, cl, hX]
  refine xb_99_95 xc (xb_99_100 (fun _ => xb_99_116 ?_) (fun g => absurd rfl g))
  rw [nI_add]
  refine xb_99_117 (by rw [nI_a0]; exact m_cap hd (by omega)) (xb_99_121 hb ?_)
  rw [cl]
  refine xb_99_122 hb (xb_99_133 (fun _ => xb_99_152 ?_) (fun g => absurd rfl g))
  rw [cl]
  have e44 : va_up av 43 (upd (av 43) l (nI (min (X + cs1 o) 100000))) 44 l = nI Y := hY
  rw [e44]
  refine xb_99_153 (m_gr hd (by omega) (by omega)) (xb_99_156 hb (xb_99_157 (rw_next ?_)))
  rw [cl]
  exact go
theorem rw_call {q : Nat} (hd : 1 ≤ d) (hx : RX p en Mk t dd G av) (hs : s < en) (hm : Mk[s]? = some (17, q)) (hq : q < 4) (hG : G q) (hl : l < 10) (hX : av 43 l = nI X) (hX2 : X ≤ 100000) (hY : av 44 l = nI Y) (hY2 : Y ≤ 2000000) (hh2 : h ≤ 2000000)
    (go : RW d p iv lv l h (s + 1) (cw av l (min (X + (4 + t q)) 100000) (max Y (h + (1 + dd q)))) x) : RW d p iv lv l h s av x := by
  obtain ⟨r, hr, xr⟩ := m_grow (D := d) (iv := iv) (av := av) (lv := lv) (o := 17) hd (by omega)
  have er : nI h + r = nI h := hr.2 (Or.inl rfl) h
  have xc := m_cost (D := d) (iv := iv) (av := av) (lv := lv) (o := 17) hd (by omega) (by omega)
  have cl : (nI l).toNatClampNeg = l := nI_clamp (by omega)
  have cq : (nI q).toNatClampNeg = q := nI_clamp (by omega)
  have hb : 0 ≤ (nI l).toInt ∧ (nI l).toInt < ((10 : Nat) : Int) := nI_bd hl (by omega)
  have hbq : 0 ≤ (nI q).toInt ∧ (nI q).toInt < ((5 : Nat) : Int) := nI_bd (by omega) (by omega)
  obtain ⟨e49, e50⟩ := hx.2.2.2.2.1 q hq hG
  obtain ⟨b49, b50⟩ := hx.2.2.2.2.2 q
  refine rw_pre hx hs hm (xb_99_53 (fun _ => xb_99_62 xr ?_) (fun g => absurd (by decide) g))
  refine xb_99_68 (fun _ => xb_99_77 (xb_99_82 hb ?_)) (fun g => absurd rfl g)
  rw [er, cl, hX]
  refine xb_99_95 xc (xb_99_100 (fun g => absurd g (by decide)) (fun _ => xb_99_106 hbq ?_))
  rw [nI_add, cq, e49]
  refine xb_99_113 (xb_99_117 (by rw [nI_add]; exact m_cap hd (by have : cs1 17 = 4 := rfl; omega)) (xb_99_121 hb ?_))
  rw [cl]
  refine xb_99_122 hb (xb_99_133 (fun g => absurd g (by decide)) (fun _ => xb_99_138 hbq ?_))
  rw [cl, cq]
  have e44 : va_up av 43 (upd (av 43) l (nI (min (X + cs1 17 + t q) 100000))) 44 l = nI Y := hY
  have e50' : va_up av 43 (upd (av 43) l (nI (min (X + cs1 17 + t q) 100000))) 50 q = nI (dd q) := e50
  rw [e44, e50', nI_1]
  refine xb_99_148 ?_
  rw [nI_add]
  refine xb_99_153 (m_gr hd (by omega) (by omega)) (xb_99_156 hb (xb_99_157 (rw_next ?_)))
  rw [cl]
  have a1 : X + (4 + t q) = X + cs1 17 + t q := by
    have : cs1 17 = 4 := rfl
    omega
  have a2 : h + (1 + dd q) = h + 1 + dd q := by omega
  rw [a1, a2] at go
  exact go
def opn (av : Nat → Nat → Int32) (l h a : Nat) : Nat → Nat → Int32 := va_up (va_up (va_up (va_up av 43 (upd (av 43) l 0)) 44 (upd (av 44) l (nI h))) 47 (upd (av 47) l 0)) 48 (upd (av 48) l (nI a))
theorem opn_fo {h a : Nat} : FO l av (opn av (l + 1) h a) := by
  refine ⟨fun q a => ?_, fun j a => ?_⟩
  · unfold opn
    rw [va_up_ne' (by omega), va_up_ne' (by omega), va_up_ne' (by omega), va_up_ne' (by omega)]
  · show upd (av 43) (l + 1) _ j = _ ∧ upd (av 44) (l + 1) _ j = _ ∧ av 45 j = _ ∧ av 46 j = _ ∧ upd (av 47) (l + 1) _ j = _ ∧ upd (av 48) (l + 1) _ j = _
    rw [upd_ne' (by omega), upd_ne' (by omega), upd_ne' (by omega), upd_ne' (by omega)]
    exact ⟨rfl, rfl, rfl, rfl, rfl, rfl⟩
theorem opn_at {h a : Nat} : opn av l h a 43 l = nI 0 ∧ opn av l h a 44 l = nI h ∧ opn av l h a 47 l = 0 ∧ opn av l h a 48 l = nI a := ⟨show upd (av 43) l 0 l = _ from upd_eq', show upd (av 44) l (nI h) l = _ from upd_eq', show upd (av 47) l 0 l = _ from upd_eq', show upd (av 48) l (nI a) l = _ from upd_eq'⟩
theorem rw_opn {o a h' : Nat} (hx : RX p en Mk t dd G av) (hs : s < en) (hm : Mk[s]? = some (o, a)) (ho : (o = 30 ∧ h = h' + 1) ∨ (o = 33 ∧ h = h')) (hl : l + 1 < 10)
    (go : RW d p iv lv (l + 1) h' (s + 1) (opn av (l + 1) h' a) x) : RW d p iv lv l h s av x := by
  have cl : (nI (l + 1)).toNatClampNeg = l + 1 := nI_clamp (by omega)
  have hb : 0 ≤ (nI (l + 1)).toInt ∧ (nI (l + 1)).toInt < ((10 : Nat) : Int) := nI_bd hl (by omega)
  have tl : ∀ (s0 : Int32), nI h - s0 = nI h' → xe d xt_99 187 [some (.ref 27), some (.int (nI p)), some (.int (nI l)), none, some (.int (nI s)), none, some (.int (nI a)), none] [.int s0, .int (nI h)] (xs iv av lv) x := fun s0 e => by
    refine xb_99_187 (by rw [nI_1]; exact hb) ?_
    rw [nI_1, e, cl]
    refine xb_99_199 hb (xb_99_206 hb (xb_99_213 hb (xb_99_221 (rw_next ?_))))
    rw [cl]
    exact go
  refine rw_pre hx hs hm ?_
  rcases ho with ⟨rfl, rfl⟩ | ⟨rfl, rfl⟩
  · exact xb_99_53 (fun g => absurd g (by decide)) (fun _ => xb_99_160 (fun _ => xb_99_174 (fun _ => xb_99_182 (tl 1 (nI_pred _))) (fun g => absurd rfl g)) (fun g => absurd rfl g))
  · exact xb_99_53 (fun g => absurd g (by decide)) (fun _ => xb_99_160 (fun g => absurd g (by decide)) (fun _ => xb_99_167 (fun _ => xb_99_174 (fun g => absurd g (by decide)) (fun _ => xb_99_186 (tl 0 (pk_sub (b := 0) (Nat.zero_le _))))) (fun g => absurd rfl g)))
def els (av : Nat → Nat → Int32) (l h : Nat) : Nat → Nat → Int32 := va_up (va_up (va_up (va_up (va_up av 45 (upd (av 45) l (av 43 l))) 46 (upd (av 46) l (av 44 l))) 47 (upd (av 47) l 1)) 43 (upd (av 43) l 0)) 44 (upd (av 44) l (nI h))
theorem els_fo {h : Nat} : FO l av (els av (l + 1) h) := by
  refine ⟨fun q a => ?_, fun j a => ?_⟩
  · unfold els
    rw [va_up_ne' (by omega), va_up_ne' (by omega), va_up_ne' (by omega), va_up_ne' (by omega), va_up_ne' (by omega)]
  · show upd (av 43) (l + 1) _ j = _ ∧ upd (av 44) (l + 1) _ j = _ ∧ upd (av 45) (l + 1) _ j = _ ∧ upd (av 46) (l + 1) _ j = _ ∧ upd (av 47) (l + 1) _ j = _ ∧ av 48 j = _
    rw [upd_ne' (by omega), upd_ne' (by omega), upd_ne' (by omega), upd_ne' (by omega), upd_ne' (by omega)]
    exact ⟨rfl, rfl, rfl, rfl, rfl, rfl⟩
theorem els_at {h : Nat} : els av l h 43 l = nI 0 ∧ els av l h 44 l = nI h ∧ els av l h 45 l = av 43 l ∧ els av l h 46 l = av 44 l ∧ els av l h 47 l = 1 := ⟨show upd (av 43) l 0 l = _ from upd_eq', show upd (av 44) l (nI h) l = _ from upd_eq', show upd (av 45) l (av 43 l) l = _ from upd_eq', show upd (av 46) l (av 44 l) l = _ from upd_eq', show upd (av 47) l 1 l = _ from upd_eq'⟩
theorem rw_els {a : Nat} (hx : RX p en Mk t dd G av) (hs : s < en) (hm : Mk[s]? = some (31, a)) (hl : l < 10) (go : RW d p iv lv l h (s + 1) (els av l h) x) : RW d p iv lv l h s av x := by
  have cl : (nI l).toNatClampNeg = l := nI_clamp (by omega)
  have hb : 0 ≤ (nI l).toInt ∧ (nI l).toInt < ((10 : Nat) : Int) := nI_bd hl (by omega)
  refine rw_pre hx hs hm (xb_99_53 (fun g => absurd g (by decide)) (fun _ => xb_99_160 (fun g => absurd g (by decide)) (fun _ => xb_99_167 (fun g => absurd g (by decide)) (fun _ => xb_99_224 (fun _ => xb_99_231 hb ?_) (fun g => absurd rfl g)))))
  rw [cl]
  refine xb_99_242 hb (xb_99_243 hb ?_)
  rw [cl]
  refine xb_99_254 hb (xb_99_255 hb (xb_99_262 hb (xb_99_269 hb (xb_99_276 (rw_next ?_)))))
  rw [cl]
  exact go
/-- shut's end: what the block takes goes to the level below -/
theorem sh_tail {cc aa : Nat} (hd : 1 ≤ d) (hl : l + 1 < 10) (hX : av 43 l = nI X) (hX2 : X ≤ 100000) (hY : av 44 l = nI Y) (hY2 : Y ≤ 2000000) (hc : cc ≤ 100000000) (ha : aa ≤ 2000000) (o2 : Option Value) : xe d xt_100 102 [some (.ref 27), some (.int (nI (l + 1))), o2, some (.int (nI cc)), some (.int (nI aa))] [] (xs iv av lv) (none, xs iv (cw av l (min (X + cc) 100000) (max Y aa)) lv) := by
  have cl : (nI l).toNatClampNeg = l := nI_clamp (by omega)
  have hb : 0 ≤ (nI l).toInt ∧ (nI l).toInt < ((10 : Nat) : Int) := nI_bd (by omega) (by omega)
  refine xb_100_102 (by rw [nI_pred]; exact hb) ?_
  rw [nI_pred, cl, hX]
  refine xb_100_117 (by rw [nI_add]; exact m_cap hd (by omega)) (xb_100_122 hb ?_)
  rw [cl]
  refine xb_100_123 (by rw [nI_pred]; exact hb) ?_
  rw [nI_pred, cl]
  have e44 : va_up av 43 (upd (av 43) l (nI (min (X + cc) 100000))) 44 l = nI Y := hY
  rw [e44]
  refine xb_100_138 (m_gr hd (by omega) (by omega)) (xb_100_143 hb ?_)
  rw [cl]
  exact xb_100_144
theorem m_shut34 {k Z W : Nat} (hd : 2 ≤ d) (hl : l + 1 < 10) (hX : av 43 l = nI X) (hX2 : X ≤ 100000) (hY : av 44 l = nI Y) (hY2 : Y ≤ 2000000) (hZ : av 43 (l + 1) = nI Z) (hZ2 : Z ≤ 100000) (hW : av 44 (l + 1) = nI W) (hW2 : W ≤ 2000000) (hk : av 48 (l + 1) = nI k) (hk2 : k ≤ 99) : xm d 100 [.ref 27, .int (nI (l + 1)), .int (nI 34)] (xs iv av lv) (none, xs iv (cw av l (min (X + (k * (3 + Z) + 3)) 100000) (max Y (if k = 0 then 0 else W))) lv) := by
  obtain ⟨e, rfl⟩ : ∃ e, d = e + 1 := ⟨d - 1, by omega⟩
  have cl : (nI (l + 1)).toNatClampNeg = l + 1 := nI_clamp (by omega)
  have hb : 0 ≤ (nI (l + 1)).toInt ∧ (nI (l + 1)).toInt < ((10 : Nat) : Int) := nI_bd hl (by omega)
  have hkz : k * (3 + Z) ≤ 99 * 100003 := Nat.mul_le_mul hk2 (by omega)
  refine xm_of (nL := 5) rfl rfl (xb_100_0 hb ?_)
  rw [cl, hZ]
  refine xb_100_6 hb ?_
  rw [cl, hW]
  refine xb_100_13 (fun _ => xb_100_21 hb ?_) (fun g => absurd rfl g)
  rw [cl, hk]
  refine xb_100_27 hb ?_
  rw [cl, hk, show (3 : Int32) + nI Z = nI (3 + Z) from nI_add 3 Z, pk_mul, show nI (k * (3 + Z)) + 3 = nI (k * (3 + Z) + 3) from nI_add _ 3]
  refine xb_100_40 (fun g => xb_100_43 (xb_100_49 ?_)) (fun g => xb_100_48 (xb_100_49 ?_))
  · have : 0 < k := (nI_ltI (a := 0) (by omega) (by omega)).mp g
    rw [if_neg (by omega)]
    exact sh_tail (by omega) hl hX hX2 hY hY2 (by omega) hW2 _
  · have : ¬ 0 < k := fun q => g ((nI_ltI (a := 0) (by omega) (by omega)).mpr q)
    rw [if_pos (by omega)]
    exact sh_tail (aa := 0) (by omega) hl hX hX2 hY hY2 (by omega) (by omega) _
theorem m_shut32 {Z W : Nat} (hd : 2 ≤ d) (hl : l + 1 < 10) (hX : av 43 l = nI X) (hX2 : X ≤ 100000) (hY : av 44 l = nI Y) (hY2 : Y ≤ 2000000) (hZ : av 43 (l + 1) = nI Z) (hZ2 : Z ≤ 100000) (hW : av 44 (l + 1) = nI W) (hW2 : W ≤ 2000000) (hk : av 47 (l + 1) = 0) : xm d 100 [.ref 27, .int (nI (l + 1)), .int (nI 32)] (xs iv av lv) (none, xs iv (cw av l (min (X + max (Z + 1) 3) 100000) (max Y W)) lv) := by
  obtain ⟨e, rfl⟩ : ∃ e, d = e + 1 := ⟨d - 1, by omega⟩
  have cl : (nI (l + 1)).toNatClampNeg = l + 1 := nI_clamp (by omega)
  have hb : 0 ≤ (nI (l + 1)).toInt ∧ (nI (l + 1)).toInt < ((10 : Nat) : Int) := nI_bd hl (by omega)
  refine xm_of (nL := 5) rfl rfl (xb_100_0 hb ?_)
  rw [cl, hZ]
  refine xb_100_6 hb ?_
  rw [cl, hW]
  refine xb_100_13 (fun g => absurd g (by decide)) (fun _ => xb_100_54 hb ?_)
  rw [cl, hk]
  exact xb_100_60 (fun _ => xb_100_94 (by rw [nI_1]; exact m_gr (b := 3) (by omega) (by omega) (by omega)) (xb_100_101 (sh_tail (by omega) hl hX hX2 hY hY2 (by omega) hW2 _))) (fun g => absurd rfl g)
theorem m_shut32b {Z W Z1 W1 : Nat} (hd : 2 ≤ d) (hl : l + 1 < 10) (hX : av 43 l = nI X) (hX2 : X ≤ 100000) (hY : av 44 l = nI Y) (hY2 : Y ≤ 2000000) (hZ : av 43 (l + 1) = nI Z) (hZ2 : Z ≤ 100000) (hW : av 44 (l + 1) = nI W) (hW2 : W ≤ 2000000) (hk : av 47 (l + 1) = 1) (hZ1 : av 45 (l + 1) = nI Z1) (hZ12 : Z1 ≤ 100000) (hW1 : av 46 (l + 1) = nI W1) (hW12 : W1 ≤ 2000000) : xm d 100 [.ref 27, .int (nI (l + 1)), .int (nI 32)] (xs iv av lv) (none, xs iv (cw av l (min (X + max (Z1 + 3) (Z + 3)) 100000) (max Y (max W W1))) lv) := by
  obtain ⟨e, rfl⟩ : ∃ e, d = e + 1 := ⟨d - 1, by omega⟩
  have cl : (nI (l + 1)).toNatClampNeg = l + 1 := nI_clamp (by omega)
  have hb : 0 ≤ (nI (l + 1)).toInt ∧ (nI (l + 1)).toInt < ((10 : Nat) : Int) := nI_bd hl (by omega)
  refine xm_of (nL := 5) rfl rfl (xb_100_0 hb ?_)
  rw [cl, hZ]
  refine xb_100_6 hb ?_
  rw [cl, hW]
  refine xb_100_13 (fun g => absurd g (by decide)) (fun _ => xb_100_54 hb ?_)
  rw [cl, hk]
  refine xb_100_60 (fun g => absurd g (by decide)) (fun _ => xb_100_63 hb ?_)
  rw [cl, hZ1]
  refine xb_100_69 (by rw [show nI Z1 + 3 = nI (Z1 + 3) from nI_add _ 3, show nI Z + 3 = nI (Z + 3) from nI_add _ 3]; exact m_gr (by omega) (by omega) (by omega)) (xb_100_77 hb ?_)
  rw [cl, hW1]
  exact xb_100_86 (m_gr (by omega) (by omega) (by omega)) (xb_100_89 (sh_tail (by omega) hl hX hX2 hY hY2 (by omega) (by omega) _))
theorem rw_shut {o a h' : Nat} {av1 : Nat → Nat → Int32} (hx : RX p en Mk t dd G av) (hs : s < en) (hm : Mk[s]? = some (o, a)) (ho : (o = 34 ∧ h = h' + 1) ∨ (o = 32 ∧ h = h')) (hl : l + 1 < 10) (hsh : xm d 100 [.ref 27, .int (nI (l + 1)), .int (nI o)] (xs iv av lv) (none, xs iv av1 lv))
    (go : RW d p iv lv l h' (s + 1) av1 x) : RW d p iv lv (l + 1) h s av x := by
  have tl : ∀ (s0 : Int32), nI h - s0 = nI h' → xe d xt_99 299 [some (.ref 27), some (.int (nI p)), some (.int (nI (l + 1))), none, some (.int (nI s)), none, none, none] [.int s0, .int (nI h)] (xs iv av1 lv) x := fun s0 e => by
    refine xb_99_299 ?_
    rw [pk_m1, e]
    exact rw_next go
  refine rw_pre hx hs hm ?_
  rcases ho with ⟨rfl, rfl⟩ | ⟨rfl, rfl⟩
  · exact xb_99_53 (fun g => absurd g (by decide)) (fun _ => xb_99_160 (fun g => absurd g (by decide)) (fun _ => xb_99_167 (fun g => absurd g (by decide)) (fun _ => xb_99_224 (fun g => absurd g (by decide)) (fun _ => xb_99_279 hsh (xb_99_286 (fun _ => xb_99_294 (tl 1 (nI_pred _))) (fun g => absurd rfl g))))))
  · exact xb_99_53 (fun g => absurd g (by decide)) (fun _ => xb_99_160 (fun g => absurd g (by decide)) (fun _ => xb_99_167 (fun g => absurd g (by decide)) (fun _ => xb_99_224 (fun g => absurd g (by decide)) (fun _ => xb_99_279 hsh (xb_99_286 (fun g => absurd g (by decide)) (fun _ => xb_99_298 (tl 0 (pk_sub (b := 0) (Nat.zero_le _)))))))))
end MRS
