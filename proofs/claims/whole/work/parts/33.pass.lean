/-! Class Bounds: one instruction passed. cy: cycles, wd: words, dp: deepest. -/
def BS (iv : Nat → Int32) (av : Nat → Nat → Int32) (lv : Nat → Nat → Int64) (cy wd : Nat → Nat) (dp : Nat) : Prop := (∀ k, k ≤ 200 → lv 14 k = lN (cy k)) ∧ (∀ k, k ≤ 200 → av 15 k = nI (wd k)) ∧ iv 3 = nI dp
def BF (iv : Nat → Int32) (av : Nat → Nat → Int32) (lv : Nat → Nat → Int64) (iv' : Nat → Int32) (av' : Nat → Nat → Int32) (lv' : Nat → Nat → Int64) : Prop := (∀ q, q ≠ 3 → iv' q = iv q) ∧ (∀ q, q ≠ 15 → av' q = av q) ∧ ∀ q, q ≠ 14 → lv' q = lv q
theorem BF.rf {iv : Nat → Int32} {av : Nat → Nat → Int32} {lv : Nat → Nat → Int64} : BF iv av lv iv av lv := ⟨fun _ _ => rfl, fun _ _ => rfl, fun _ _ => rfl⟩
theorem BF.tr {iv iv1 iv2 : Nat → Int32} {av av1 av2 : Nat → Nat → Int32} {lv lv1 lv2 : Nat → Nat → Int64} (h : BF iv av lv iv1 av1 lv1) (g : BF iv1 av1 lv1 iv2 av2 lv2) : BF iv av lv iv2 av2 lv2 := ⟨fun q a => (g.1 q a).trans (h.1 q a), fun q a => (g.2.1 q a).trans (h.2.1 q a), fun q a => (g.2.2 q a).trans (h.2.2 q a)⟩
theorem lN_max {a c : Nat} (ha : a < 2 ^ 62) (hc : c < 2 ^ 62) : (if lN c < lN a then lN a else lN c) = lN (max a c) := by
  by_cases h : c < a
  · rw [if_pos ((pk_lLT (by omega) (by omega)).mpr h), Nat.max_eq_left (by omega)]
  · rw [if_neg (fun q => h ((pk_lLT (by omega) (by omega)).mp q)), Nat.max_eq_right (by omega)]
theorem nI_max {a c : Nat} (ha : a < 2 ^ 31) (hc : c < 2 ^ 31) : (if nI a < nI c then nI c else nI a) = nI (max a c) := by
  by_cases h : a < c
  · rw [if_pos (nI_lt h hc), Nat.max_eq_right (by omega)]
  · rw [if_neg (nI_nlt (by omega) ha), Nat.max_eq_left (by omega)]
theorem cost_nI : ∀ o, o < 20 → xi_cost o = nI (cs1 o) := by decide
theorem grow_nh {o h h' : Nat} (e : nh o h = some h') : nI h + xi_grow o = nI h' := by
  unfold nh at e
  have e0 : ∀ h, nI h + (0 : Int32) = nI h := fun h => nI_add h 0
  have e1 : ∀ h, 1 ≤ h → nI h + (-1 : Int32) = nI (h - 1) := fun h hh => by
    obtain ⟨k, rfl⟩ : ∃ k, h = k + 1 := ⟨h - 1, by omega⟩
    exact pk_m1 k
  have e2 : ∀ h, 2 ≤ h → nI h + (-2 : Int32) = nI (h - 2) := fun h hh => by
    have a := e1 h (by omega)
    have b := e1 (h - 1) (by omega)
    have c : (-2 : Int32) = -1 + -1 := by decide
    rw [c, ← Int32.add_assoc, a, b]
    rfl
  split at e
  · rename_i ho
    cases e
    rcases ho with rfl | rfl <;> exact nI_1 h
  split at e
  · rename_i ho
    split at e
    · cases e
      rcases ho with rfl | rfl | rfl <;> exact e0 h
    · cases e
  split at e
  · rename_i ho
    split at e
    · rename_i h1
      cases e
      rcases ho with rfl | rfl <;> exact e1 h h1
    · cases e
  split at e
  · rename_i ho
    split at e
    · rename_i h1
      cases e
      subst ho
      exact e2 h h1
    · cases e
  split at e
  · rename_i ho
    split at e
    · rename_i h1
      cases e
      have : o = 5 ∨ o = 6 ∨ o = 7 ∨ o = 8 ∨ o = 9 ∨ o = 10 := by omega
      rcases this with rfl | rfl | rfl | rfl | rfl | rfl <;> exact e1 h (by omega)
    · cases e
  · cases e
section PAS
variable {D : Nat} {iv : Nat → Int32} {av : Nat → Nat → Int32} {lv : Nat → Nat → Int64} {cy wd : Nat → Nat} {dp : Nat} {C : List In}
theorem c_reach {k c w : Nat} (hD : 1 ≤ D) (hs : BS iv av lv cy wd dp) (hk : k ≤ 200) (h1 : cy k < 2 ^ 62) (h2 : c < 2 ^ 62) (h3 : w < 2 ^ 30) (h4 : dp < 2 ^ 30) :
    ∃ iv' av' lv', BF iv av lv iv' av' lv' ∧ xm D 56 [.ref 13, .int (nI k), .long (lN c), .int (nI w)] (xs iv av lv) (none, xs iv' av' lv') ∧ BS iv' av' lv' (va_up cy k (max (cy k) c)) (va_up wd k w) (max dp w) := by
  obtain ⟨d, rfl⟩ : ∃ d, D = d + 1 := ⟨D - 1, by omega⟩
  have hbd : 0 ≤ (nI k).toInt ∧ (nI k).toInt < ((201 : Nat) : Int) := nI_bd (by omega) (by omega)
  have ek : (nI k).toNatClampNeg = k := nI_clamp (by omega)
  refine ⟨upd iv 3 (nI (max dp w)), va_up av 15 (upd (av 15) k (nI w)), va_up lv 14 (vp_updL (lv 14) k (lN (max (cy k) c))), ⟨fun q a => upd_ne' a, fun q a => va_up_ne' a, fun q a => va_up_ne' a⟩, ?_, fun j hj => ?_, fun j hj => ?_, ?_⟩
  · refine xm_of (nL := 5) rfl rfl (xb_56_0 (fun h => absurd h (nI_pos (by omega))) (fun _ => xb_56_4 (fun h => absurd h (show ¬ nI 200 < nI k from nI_nlt (by omega) (by omega))) (fun _ => xb_56_11 hbd ?_)))
    rw [ek, hs.1 k hk]
    refine xb_56_22 hbd ?_
    rw [ek, lN_max h1 h2]
    refine xb_56_27 hbd ?_
    rw [ek]
    refine xb_56_35 ?_
    rw [hs.2.2, nI_max (by omega) (by omega)]
    exact xb_56_48
  · show vp_updL (lv 14) k (lN (max (cy k) c)) j = _
    by_cases e : j = k
    · subst e
      rw [pk_uLs, va_up_self]
    · rw [pk_uLn e, va_up_ne' e]
      exact hs.1 j hj
  · show upd (av 15) k (nI w) j = _
    by_cases e : j = k
    · subst e
      rw [upd_eq', va_up_self]
    · rw [upd_ne' e, va_up_ne' e]
      exact hs.2.1 j hj
  · exact upd_eq'
theorem c_rounds {j r : Nat} (hD : 1 ≤ D) (hj : j < 200) (h : av 6 j = nI r) : xm D 54 [.ref 4, .int (nI (j + 1))] (xs iv av lv) (some (.int (nI r)), xs iv av lv) := by
  obtain ⟨d, rfl⟩ : ∃ d, D = d + 1 := ⟨D - 1, by omega⟩
  refine xm_of (nL := 2) rfl rfl (xb_54_0 (fun _ => xb_54_4 (by rw [nI_pred]; exact nI_bd (by omega) (by omega)) ?_) (fun h => absurd (show nI 0 < nI (j + 1) from nI_lt (by omega) (by omega)) h))
  rw [nI_pred, nI_clamp (by omega), h]
  exact xb_54_12 xb_54_16
theorem c_leave {j r b tg w : Nat} (hD : 2 ≤ D) (hs : BS iv av lv cy wd dp) (hj : j + 1 < 200) (h6 : av 6 j = nI r) (hr : r < 2 ^ 20) (h6' : av 6 (j + 1) = nI tg) (htg : tg ≤ 200) (hw : wd (j + 1) = w + 1) (hw2 : w < 2 ^ 30) (h1 : cy tg < 2 ^ 62) (h2 : cy (j + 1) + r * b + 3 < 2 ^ 62) (h4 : dp < 2 ^ 30) :
    ∃ iv' av' lv', BF iv av lv iv' av' lv' ∧ xm D 55 [.ref 13, .ref 4, .int (nI (j + 1)), .long (lN b)] (xs iv av lv) (none, xs iv' av' lv') ∧ BS iv' av' lv' (va_up cy tg (max (cy tg) (cy (j + 1) + r * b + 3))) (va_up wd tg w) (max dp w) := by
  obtain ⟨d, rfl⟩ : ∃ d, D = d + 1 := ⟨D - 1, by omega⟩
  obtain ⟨iv1, av1, lv1, f1, x1, s1⟩ := c_reach (D := d) (c := cy (j + 1) + r * b + 3) (by omega) hs htg h1 h2 hw2 h4
  refine ⟨iv1, av1, lv1, f1, ?_, s1⟩
  refine xm_of (nL := 7) rfl rfl (xb_55_0 (c_rounds (by omega) (by omega) h6) (xb_55_5 (nI_bd (by omega) (by omega)) ?_))
  rw [nI_clamp (by omega), h6', nI_l (by omega), lN_mul]
  refine xb_55_17 (nI_bd (by omega) (by omega)) ?_
  rw [nI_clamp (by omega), hs.1 (j + 1) (by omega)]
  refine xb_55_23 (xb_55_32 (nI_bd (by omega) (by omega)) ?_)
  have e15 : Int32.toInt64 (xi_cost (15 : Int32).toNatClampNeg) = lN 1 := by decide
  rw [nI_clamp (by omega), hs.2.1 (j + 1) (by omega), hw, e15]
  have e2 : lN (cy (j + 1)) + lN (r * b) + lN 1 + 2 = lN (cy (j + 1) + r * b + 3) := by
    rw [show (2 : Int64) = lN 2 from rfl, lN_add, lN_add, lN_add]
  rw [e2]
  exact xb_55_44 (by rw [nI_pred]; exact x1) xb_55_49
theorem c_procAt {p a : Nat} (hD : 1 ≤ D) (hp : p < 4) (h7 : av 7 p = nI a) (hn : ∀ q, q < p → av 7 q ≠ nI a) : xm D 47 [.ref 4, .int (nI a)] (xs iv av lv) (some (.int (nI p)), xs iv av lv) := by
  obtain ⟨d, rfl⟩ : ∃ d, D = d + 1 := ⟨D - 1, by omega⟩
  have loop : ∀ m k, m + k = p → xe d xt_47 2 [some (.ref 4), some (.int (nI a)), some (.int (nI k))] [] (xs iv av lv) (some (.int (nI p)), xs iv av lv) := by
    intro m
    induction m with
    | zero =>
      intro k hk
      have : k = p := by omega
      subst this
      refine xb_47_2 (fun _ => xb_47_7 (nI_bd (by omega) (by omega)) ?_) (fun h => absurd (show nI k < nI 4 from nI_lt (by omega) (by omega)) h)
      rw [nI_clamp (by omega), h7]
      exact xb_47_13 (fun _ => xb_47_17) (fun h => absurd rfl h)
    | succ m ih =>
      intro k hk
      refine xb_47_2 (fun _ => xb_47_7 (nI_bd (by omega) (by omega)) ?_) (fun h => absurd (show nI k < nI 4 from nI_lt (by omega) (by omega)) h)
      rw [nI_clamp (by omega)]
      refine xb_47_13 (fun h => absurd h (hn k (by omega))) (fun _ => xb_47_19 ?_)
      rw [nI_1]
      exact ih (k + 1) (by omega)
  exact xm_of (nL := 3) rfl rfl (xb_47_0 (loop p 0 rfl))
abbrev BSt : Type := Nat × (Nat → Nat) × (Nat → Nat) × Nat
/-- what is known of a procedure that has been measured -/
def PK (av : Nat → Nat → Int32) (f t d : Nat → Nat) (p : Nat) : Prop := av 7 p = nI (f p) ∧ (∀ q, q < p → av 7 q ≠ nI (f p)) ∧ av 9 p = nI (t p) ∧ av 10 p = nI (d p)
def PW (D : Nat) (C : List In) (f t d : Nat → Nat) (G : Nat → Prop) (S S' : BSt) : Prop := S.1 < S'.1 ∧ ∀ iv av lv, DR iv av C → (∀ p, p < 4 → G p → PK av f t d p) → BS iv av lv S.2.1 S.2.2.1 S.2.2.2 →
  ∃ iv' av' lv', BF iv av lv iv' av' lv' ∧ xm D 52 [.ref 13, .ref 4, .int (nI S.1)] (xs iv av lv) (some (.int (nI S'.1)), xs iv' av' lv') ∧ BS iv' av' lv' S'.2.1 S'.2.2.1 S'.2.2.2
theorem c_ppre {d k o a : Nat} {x : xi_R} (hdr : DR iv av C) (hs : BS iv av lv cy wd dp) (hk : k < 200) (hC : C[k]? = some (o, a)) (ho : o < 20)
    (h : xe d xt_52 (xi_swt (nI o) [(13, 80), (14, 109), (15, 149), (16, 192), (17, 182)] 192).toNat [some (.ref 13), some (.ref 4), some (.int (nI k)), some (.int (nI o)), some (.int (nI a)), some (.long (lN (cy k + cs1 o))), none, some (.int (nI (wd k) + xi_grow o))] [] (xs iv av lv) x) :
    xm (d + 1) 52 [.ref 13, .ref 4, .int (nI k)] (xs iv av lv) x := by
  have hbd : 0 ≤ (nI k).toInt ∧ (nI k).toInt < ((200 : Nat) : Int) := nI_bd (by omega) (by omega)
  have hbd1 : 0 ≤ (nI k).toInt ∧ (nI k).toInt < ((201 : Nat) : Int) := nI_bd (by omega) (by omega)
  have hbo : 0 ≤ (nI o).toInt ∧ (nI o).toInt < ((20 : Nat) : Int) := nI_bd (by omega) (by omega)
  have ek : (nI k).toNatClampNeg = k := nI_clamp (by omega)
  have eo : (nI o).toNatClampNeg = o := nI_clamp (by omega)
  obtain ⟨h5, h6⟩ := hdr.2 k o a hC hk
  have hc := cs1_le o
  refine xm_of (nL := 8) rfl rfl (xb_52_0 hbd ?_)
  rw [ek, h5]
  refine xb_52_6 hbd ?_
  rw [ek, h6]
  refine xb_52_13 hbd1 ?_
  rw [ek, hs.1 k (by omega)]
  refine xb_52_21 hbo ?_
  rw [eo, cost_nI o ho]
  refine xb_52_26 hbd1 ?_
  rw [ek, hs.2.1 k (by omega), nI_l (by omega), lN_add]
  refine xb_52_36 hbo ?_
  rw [eo]
  exact xb_52_41 h
variable {f t d : Nat → Nat} {G : Nat → Prop}
theorem sw_line : ∀ o, o < 20 → (o ≤ 12 ∨ o = 16) → xi_swt (nI o) [(13, 80), (14, 109), (15, 149), (16, 192), (17, 182)] 192 = 192 := by decide
theorem pw_line {k o a w : Nat} (hD : 2 ≤ D) (hk : k < 200) (hC : C[k]? = some (o, a)) (ho : o ≤ 12 ∨ o = 16) (hw : nh o (wd k) = some w) (h1 : cy (k + 1) < 2 ^ 62) (h2 : cy k + cs1 o < 2 ^ 62) (h3 : w < 2 ^ 30) (h4 : dp < 2 ^ 30) :
    PW D C f t d G (k, cy, wd, dp) (k + 1, va_up cy (k + 1) (max (cy (k + 1)) (cy k + cs1 o)), va_up wd (k + 1) w, max dp w) := by
  obtain ⟨e, rfl⟩ : ∃ e, D = e + 1 := ⟨D - 1, by omega⟩
  refine ⟨by dsimp only; omega, ?_⟩
  intro iv av lv hdr _ hs
  dsimp only at hs ⊢
  obtain ⟨iv1, av1, lv1, f1, x1, s1⟩ := c_reach (D := e) (k := k + 1) (c := cy k + cs1 o) (w := w) (by omega) hs (by omega) h1 h2 h3 h4
  refine ⟨iv1, av1, lv1, f1, c_ppre hdr hs hk hC (by omega) ?_, s1⟩
  rw [sw_line o (by omega) ho, grow_nh hw]
  refine xb_52_192 (by rw [nI_1]; exact x1) ?_
  rw [← nI_1 k]
  exact xb_52_203
theorem pw_zero {k a w : Nat} (hD : 2 ≤ D) (hk : k < 200) (hC : C[k]? = some (13, a)) (hw : wd k = w + 1) (ha : a ≤ 200) (h0 : cy a < 2 ^ 62) (h1 : cy (k + 1) < 2 ^ 62) (h2 : cy k + 3 < 2 ^ 62) (h3 : w < 2 ^ 30) (h4 : dp < 2 ^ 30) :
    PW D C f t d G (k, cy, wd, dp) (k + 1, va_up (va_up cy a (max (cy a) (cy k + 3))) (k + 1) (max (va_up cy a (max (cy a) (cy k + 3)) (k + 1)) (cy k + 1)), va_up (va_up wd a w) (k + 1) w, max dp w) := by
  obtain ⟨e, rfl⟩ : ∃ e, D = e + 1 := ⟨D - 1, by omega⟩
  refine ⟨by dsimp only; omega, ?_⟩
  intro iv av lv hdr _ hs
  dsimp only at hs ⊢
  obtain ⟨iv1, av1, lv1, f1, x1, s1⟩ := c_reach (D := e) (k := a) (c := cy k + 3) (w := w) (by omega) hs ha h0 h2 h3 h4
  obtain ⟨iv2, av2, lv2, f2, x2, s2⟩ := c_reach (D := e) (k := k + 1) (c := cy k + 1) (w := w) (by omega) s1 (by omega) (by
    by_cases hh : k + 1 = a
    · rw [hh, va_up_self]; omega
    · rw [va_up_ne' hh]; exact h1) (by omega) h3 (by omega)
  refine ⟨iv2, av2, lv2, f1.tr f2, c_ppre hdr hs hk hC (by omega) ?_, ?_⟩
  · show xe e xt_52 80 _ [] _ _
    have eg : nI (wd k) + xi_grow 13 = nI w := by rw [hw]; exact pk_m1 w
    rw [eg]
    refine xb_52_80 (show xm e 56 [.ref 13, .int (nI a), .long (lN (cy k + 1) + 2), .int (nI w)] _ _ from ?_) (xb_52_94 (by rw [nI_1]; exact x2) ?_)
    · rw [show (2 : Int64) = lN 2 from rfl, lN_add]; exact x1
    · rw [← nI_1 k]
      exact xb_52_105
  · have : max (max dp w) w = max dp w := by omega
    rw [this] at s2
    exact s2
theorem pw_jump {k a : Nat} (hD : 2 ≤ D) (hk : k < 200) (hC : C[k]? = some (14, a)) (hka : k < a) (ha : a ≤ 200) (h0 : cy a < 2 ^ 62) (h2 : cy k + 2 < 2 ^ 62) (h3 : wd k < 2 ^ 30) (h4 : dp < 2 ^ 30) :
    PW D C f t d G (k, cy, wd, dp) (k + 1, va_up cy a (max (cy a) (cy k + 2)), va_up wd a (wd k), max dp (wd k)) := by
  obtain ⟨e, rfl⟩ : ∃ e, D = e + 1 := ⟨D - 1, by omega⟩
  refine ⟨by dsimp only; omega, ?_⟩
  intro iv av lv hdr _ hs
  dsimp only at hs ⊢
  obtain ⟨iv1, av1, lv1, f1, x1, s1⟩ := c_reach (D := e) (k := a) (c := cy k + 2) (w := wd k) (by omega) hs ha h0 h2 h3 h4
  refine ⟨iv1, av1, lv1, f1, c_ppre hdr hs hk hC (by omega) ?_, s1⟩
  show xe e xt_52 109 _ [] _ _
  have eg : nI (wd k) + xi_grow 14 = nI (wd k) := nI_add (wd k) 0
  rw [eg]
  refine xb_52_109 (fun _ => xb_52_115 x1 (xb_52_125 ?_)) (fun h => absurd (nI_lt hka (by omega)) h)
  rw [← nI_1 k]
  exact xb_52_145
theorem pw_back {k j o r tg w b : Nat} (hD : 3 ≤ D) (hk : k < 200) (hC : C[k]? = some (14, j + 1)) (hj : j + 1 ≤ k) (hL : C[j + 1]? = some (15, tg)) (hR : C[j]? = some (o, r)) (hr : r < 2 ^ 20) (htg : tg ≤ 200) (hw : wd (j + 1) = w + 1) (hw2 : w < 2 ^ 30) (hb : cy (j + 1) + b = cy k + 2) (h1 : cy tg < 2 ^ 62) (h2 : cy (j + 1) + r * b + 3 < 2 ^ 62) (h4 : dp < 2 ^ 30) :
    PW D C f t d G (k, cy, wd, dp) (k + 1, va_up cy tg (max (cy tg) (cy (j + 1) + r * b + 3)), va_up wd tg w, max dp w) := by
  obtain ⟨e, rfl⟩ : ∃ e, D = e + 1 := ⟨D - 1, by omega⟩
  refine ⟨by dsimp only; omega, ?_⟩
  intro iv av lv hdr _ hs
  dsimp only at hs ⊢
  obtain ⟨iv1, av1, lv1, f1, x1, s1⟩ := c_leave (D := e) (b := b) (by omega) hs (by omega) (hdr.2 j o r hR (by omega)).2 hr (hdr.2 (j + 1) 15 tg hL (by omega)).2 htg hw hw2 h1 h2 h4
  refine ⟨iv1, av1, lv1, f1, c_ppre hdr hs hk hC (by omega) ?_, s1⟩
  show xe e xt_52 109 _ [] _ _
  refine xb_52_109 (fun h => absurd h (nI_nlt hj (by omega))) (fun _ => xb_52_128 (nI_bd (by omega) (by omega)) ?_)
  rw [nI_clamp (by omega), hs.1 (j + 1) (by omega)]
  refine xb_52_141 (by
    have : lN (cy k + cs1 14) - lN (cy (j + 1)) = lN b := by
      have e14 : cs1 14 = 2 := rfl
      rw [e14, lN_sub (by omega)]
      congr 1
      omega
    rw [this]
    exact x1) ?_
  rw [← nI_1 k]
  exact xb_52_145
theorem pw_loop {j o r tg : Nat} (hD : 2 ≤ D) (hk : j + 1 < 200) (hL : C[j + 1]? = some (15, tg)) (hR : C[j]? = some (o, r)) (hr : r < 2 ^ 20) (hr0 : r ≠ 0) (h1 : cy (j + 2) < 2 ^ 62) (h2 : cy (j + 1) + 1 < 2 ^ 62) (h3 : wd (j + 1) < 2 ^ 30) (h4 : dp < 2 ^ 30) :
    PW D C f t d G (j + 1, cy, wd, dp) (j + 2, va_up cy (j + 2) (max (cy (j + 2)) (cy (j + 1) + 1)), va_up wd (j + 2) (wd (j + 1)), max dp (wd (j + 1))) := by
  obtain ⟨e, rfl⟩ : ∃ e, D = e + 1 := ⟨D - 1, by omega⟩
  refine ⟨by dsimp only; omega, ?_⟩
  intro iv av lv hdr _ hs
  dsimp only at hs ⊢
  obtain ⟨iv1, av1, lv1, f1, x1, s1⟩ := c_reach (D := e) (k := j + 2) (c := cy (j + 1) + 1) (w := wd (j + 1)) (by omega) hs (by omega) h1 h2 h3 h4
  refine ⟨iv1, av1, lv1, f1, c_ppre hdr hs hk hL (by omega) ?_, s1⟩
  show xe e xt_52 149 _ [] _ _
  have eg : nI (wd (j + 1)) + xi_grow 15 = nI (wd (j + 1)) := nI_add (wd (j + 1)) 0
  rw [eg]
  refine xb_52_149 (c_rounds (by omega) (by omega) (hdr.2 j o r hR (by omega)).2) (xb_52_154 (fun h => absurd h (nI_ne0 (by omega) (by omega))) (fun _ => xb_52_167 (by rw [nI_1]; exact x1) ?_))
  rw [show nI (j + 2) = nI (j + 1) + 1 from (nI_1 (j + 1)).symm]
  exact xb_52_178
theorem pw_loop0 {j o tg w : Nat} (hD : 3 ≤ D) (hk : j + 1 < 200) (hL : C[j + 1]? = some (15, tg)) (hR : C[j]? = some (o, 0)) (htg : tg ≤ 200) (hlt : j + 1 < tg) (hw : wd (j + 1) = w + 1) (hw2 : w < 2 ^ 30) (h1 : cy tg < 2 ^ 62) (h2 : cy (j + 1) + 3 < 2 ^ 62) (h4 : dp < 2 ^ 30) :
    PW D C f t d G (j + 1, cy, wd, dp) (tg, va_up cy tg (max (cy tg) (cy (j + 1) + 3)), va_up wd tg w, max dp w) := by
  obtain ⟨e, rfl⟩ : ∃ e, D = e + 1 := ⟨D - 1, by omega⟩
  refine ⟨by dsimp only; omega, ?_⟩
  intro iv av lv hdr _ hs
  dsimp only at hs ⊢
  have h60 := (hdr.2 j o 0 hR (by omega)).2
  obtain ⟨iv1, av1, lv1, f1, x1, s1⟩ := c_leave (D := e) (b := 0) (r := 0) (by omega) hs hk h60 (by omega) (hdr.2 (j + 1) 15 tg hL (by omega)).2 htg hw hw2 h1 (by omega) h4
  refine ⟨iv1, av1, lv1, f1, c_ppre hdr hs hk hL (by omega) ?_, ?_⟩
  · show xe e xt_52 149 _ [] _ _
    exact xb_52_149 (c_rounds (by omega) (by omega) h60) (xb_52_154 (fun _ => xb_52_157 x1 xb_52_164) (fun h => absurd rfl h))
  · simpa using s1
theorem pw_call {k p : Nat} (hD : 3 ≤ D) (hk : k < 200) (hp : p < 4) (hG : G p) (hC : C[k]? = some (17, f p)) (h1 : cy (k + 1) < 2 ^ 62) (h2 : cy k + 4 + t p < 2 ^ 62) (ht : t p < 2 ^ 30) (h3 : wd k + 1 + d p < 2 ^ 30) (h4 : dp < 2 ^ 30) :
    PW D C f t d G (k, cy, wd, dp) (k + 1, va_up cy (k + 1) (max (cy (k + 1)) (cy k + (4 + t p))), va_up wd (k + 1) (wd k), max dp (wd k + (1 + d p))) := by
  obtain ⟨e, rfl⟩ : ∃ e, D = e + 1 := ⟨D - 1, by omega⟩
  obtain ⟨e, rfl⟩ : ∃ e', e = e' + 1 := ⟨e - 1, by omega⟩
  refine ⟨by dsimp only; omega, ?_⟩
  intro iv av lv hdr hg hs
  dsimp only at hs ⊢
  obtain ⟨k7, kn, k9, k10⟩ := hg p hp hG
  have hbd : 0 ≤ (nI k).toInt ∧ (nI k).toInt < ((200 : Nat) : Int) := nI_bd (by omega) (by omega)
  have hbd1 : 0 ≤ (nI k).toInt ∧ (nI k).toInt < ((201 : Nat) : Int) := nI_bd (by omega) (by omega)
  have hbp : 0 ≤ (nI p).toInt ∧ (nI p).toInt < ((5 : Nat) : Int) := nI_bd (by omega) (by omega)
  have ek : (nI k).toNatClampNeg = k := nI_clamp (by omega)
  have ep : (nI p).toNatClampNeg = p := nI_clamp (by omega)
  have s0 : BS (upd iv 3 (nI (max dp (wd k + 1 + d p)))) av lv cy wd (max dp (wd k + 1 + d p)) := ⟨hs.1, hs.2.1, upd_eq'⟩
  have f0 : BF iv av lv (upd iv 3 (nI (max dp (wd k + 1 + d p)))) av lv := ⟨fun q a => upd_ne' a, fun _ _ => rfl, fun _ _ => rfl⟩
  obtain ⟨iv1, av1, lv1, f1, x1, s1⟩ := c_reach (D := e) (k := k + 1) (c := cy k + 4 + t p) (w := wd k) (by omega) s0 (by omega) h1 h2 (by omega) (by omega)
  have e17 : Int32.toInt64 (xi_cost (17 : Int32).toNatClampNeg) = lN 4 := by decide
  have g17 : xi_grow (17 : Int32).toNatClampNeg = nI 1 := by decide
  refine ⟨iv1, av1, lv1, f0.tr f1, c_ppre hdr hs hk hC (by omega) ?_, ?_⟩
  · show xe (e + 1) xt_52 182 _ [] _ _
    refine xb_52_182 (show xm (e + 1) 53 [.ref 13, .ref 4, .int (nI k)] (xs iv av lv) (none, xs iv1 av1 lv1) from ?_) ?_
    · refine xm_of (nL := 4) rfl rfl (xb_53_0 hbd ?_)
      rw [ek, (hdr.2 k 17 (f p) hC hk).2]
      refine xb_53_7 (c_procAt (by omega) hp k7 kn) (xb_53_10 (fun h => absurd h (nI_m1 (by omega))) (fun _ => xb_53_16 hbd1 ?_))
      rw [ek, hs.2.1 k (by omega), hs.2.2]
      refine xb_53_27 ?_
      rw [g17]
      refine xb_53_33 hbp ?_
      rw [ep, k10, nI_add]
      refine xb_53_40 hbd1 ?_
      rw [ek, hs.1 k (by omega), nI_add, nI_max (by omega) (by omega), nI_1]
      refine xb_53_57 (xb_53_63 hbp ?_)
      rw [ep, k9, e17, lN_add]
      refine xb_53_71 hbd1 ?_
      rw [ek, hs.2.1 k (by omega), nI_l (by omega), lN_add]
      exact xb_53_79 x1 xb_53_82
    · rw [← nI_1 k]
      exact xb_52_188
  · have a1 : max (max dp (wd k + 1 + d p)) (wd k) = max dp (wd k + (1 + d p)) := by omega
    rw [a1, Nat.add_assoc] at s1
    exact s1
end PAS
