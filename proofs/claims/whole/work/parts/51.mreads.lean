/-! The reference: units, and a whole program read. -/
def um (p : Nat) (m : List In) : List In := if p = 4 then m else m ++ [(18, 0)]
def uo (p : Nat) : Nat := if p = 4 then 19 else 18
def RU (tx : Nat → Nat) (av : Nat → Nat → Int32) (K Mk : List In) (u : UN) (F G : Nat → Nat) : Prop :=
  (∀ p, p < 5 → av 37 p = if u p = none then 0 else 1) ∧
  (∀ p q, u p = some q → p < 5 ∧ ∃ m, (∃ j, m1 tx q.1 = some (j, q.2, m)) ∧ av 33 p = nI (F p) ∧ av 34 p = nI (F p + q.2.length + 1) ∧ AT K (F p) (sh (F p) q.2 ++ [(uo p, 0)]) ∧ av 35 p = nI (G p) ∧ av 36 p = nI (G p + (um p m).length) ∧ AT Mk (G p) (um p m) ∧ G p + (um p m).length ≤ Mk.length) ∧
  (∀ k, k < K.length → ∃ p q, u p = some q ∧ F p ≤ k ∧ k ≤ F p + q.2.length) ∧
  K.length = (uPart u 4).length ∧
  (∀ p q r t, u p = some q → u r = some t → p ≠ r → F p + q.2.length < F r ∨ F r + t.2.length < F p)
theorem at_len {C l : List In} {s : Nat} (h : AT C s l) (hl : 0 < l.length) : s + l.length ≤ C.length := by
  have h1 := h (l.length - 1) (l[l.length - 1]'(by omega)) (List.getElem?_eq_getElem _)
  have := (List.getElem?_eq_some_iff.mp h1).1
  omega
theorem uP4 (u : UN) : (uPart u 4).length = (uCode u 4).length + (uCode u 0).length + (uCode u 1).length + (uCode u 2).length + (uCode u 3).length := by
  simp only [uPart, List.length_append, sh_len]
theorem uC_no {u : UN} {p : Nat} (h : u p = none) : (uCode u p).length = 0 := by
  unfold uCode
  rw [h]
  rfl
theorem uC_up {u : UN} {p : Nat} {q : Nat × List In} : (uCode (va_up u p (some q)) p).length = q.2.length + 1 := by
  unfold uCode
  rw [va_up_self]
  simp only [List.length_append, List.length_cons, List.length_nil]
theorem uC_ne {u : UN} {p r : Nat} {q : Nat × List In} (h : r ≠ p) : (uCode (va_up u p (some q)) r).length = (uCode u r).length := by
  unfold uCode
  rw [va_up_ne' h]
theorem uP_up {u : UN} {p : Nat} {q : Nat × List In} (hp : p < 5) (h : u p = none) : (uPart (va_up u p (some q)) 4).length = (uPart u 4).length + q.2.length + 1 := by
  rw [uP4, uP4]
  have h0 := uC_no h
  have h1 := uC_up (u := u) (p := p) (q := q)
  have h2 : ∀ r, r ≠ p → (uCode (va_up u p (some q)) r).length = (uCode u r).length := fun r hr => uC_ne hr
  have : p = 0 ∨ p = 1 ∨ p = 2 ∨ p = 3 ∨ p = 4 := by omega
  rcases this with rfl | rfl | rfl | rfl | rfl
  · rw [h1, h2 1 (by decide), h2 2 (by decide), h2 3 (by decide), h2 4 (by decide), h0]; omega
  · rw [h1, h2 0 (by decide), h2 2 (by decide), h2 3 (by decide), h2 4 (by decide), h0]; omega
  · rw [h1, h2 1 (by decide), h2 0 (by decide), h2 3 (by decide), h2 4 (by decide), h0]; omega
  · rw [h1, h2 1 (by decide), h2 2 (by decide), h2 0 (by decide), h2 4 (by decide), h0]; omega
  · rw [h1, h2 1 (by decide), h2 2 (by decide), h2 3 (by decide), h2 0 (by decide), h0]; omega
theorem RU.add {tx : Nat → Nat} {av av' : Nat → Nat → Int32} {K Mk : List In} {u : UN} {F G : Nat → Nat} {p i j : Nat} {c m : List In} (h : RU tx av K Mk u F G) (hp : p < 5) (hu : u p = none) (h1 : m1 tx i = some (j, c, m)) (e37 : av' 37 = upd (av 37) p 1) (e33 : av' 33 = upd (av 33) p (nI K.length)) (e34 : av' 34 = upd (av 34) p (nI (K.length + c.length + 1))) (e35 : av' 35 = upd (av 35) p (nI Mk.length)) (e36 : av' 36 = upd (av 36) p (nI (Mk.length + (um p m).length))) : RU tx av' (K ++ (sh K.length c ++ [(uo p, 0)])) (Mk ++ um p m) (va_up u p (some (i, c))) (va_up F p K.length) (va_up G p Mk.length) := by
  obtain ⟨g1, g2, g3, g4, g5⟩ := h
  have old : ∀ r t, u r = some t → F r + t.2.length < K.length := fun r t ht => by
    obtain ⟨-, -, -, -, -, a5, -⟩ := g2 r t ht
    have := at_len a5 (by rw [List.length_append]; simp)
    rw [List.length_append, sh_len] at this
    simp only [List.length_cons, List.length_nil] at this
    omega
  refine ⟨fun r hr => ?_, fun r q hq => ?_, fun k hk => ?_, ?_, fun r q r' t hq ht hne => ?_⟩
  · rw [e37]
    by_cases hrp : r = p
    · subst hrp
      rw [upd_eq', va_up_self, if_neg (by simp)]
    · rw [upd_ne' hrp, va_up_ne' hrp]
      exact g1 r hr
  · by_cases hrp : r = p
    · subst hrp
      rw [va_up_self] at hq
      cases hq
      refine ⟨hp, m, ⟨j, h1⟩, ?_⟩
      rw [e33, e34, e35, e36, upd_eq', upd_eq', upd_eq', upd_eq', va_up_self, va_up_self]
      exact ⟨rfl, rfl, AT.end, rfl, rfl, AT.end, by rw [List.length_append]; exact Nat.le_refl _⟩
    · rw [va_up_ne' hrp] at hq
      obtain ⟨a1, m', a2, a3, a4, a5, a6, a7, a8, a9⟩ := g2 r q hq
      refine ⟨a1, m', a2, ?_⟩
      rw [e33, e34, e35, e36, upd_ne' hrp, upd_ne' hrp, upd_ne' hrp, upd_ne' hrp, va_up_ne' hrp, va_up_ne' hrp]
      exact ⟨a3, a4, a5.mono, a6, a7, a8.mono, by rw [List.length_append]; omega⟩
  · rw [List.length_append, List.length_append, sh_len] at hk
    by_cases hk2 : k < K.length
    · obtain ⟨r, q, a1, a2, a3⟩ := g3 k hk2
      have hrp : r ≠ p := fun e => by rw [e, hu] at a1; cases a1
      exact ⟨r, q, by rw [va_up_ne' hrp]; exact a1, by rw [va_up_ne' hrp]; exact a2, by rw [va_up_ne' hrp]; exact a3⟩
    · refine ⟨p, (i, c), by rw [va_up_self], by rw [va_up_self]; omega, ?_⟩
      rw [va_up_self]
      simp only [List.length_cons, List.length_nil] at hk
      show k ≤ K.length + c.length
      omega
  · rw [uP_up hp hu, List.length_append, List.length_append, sh_len, g4]
    simp only [List.length_cons, List.length_nil]
    omega
  · by_cases h1 : r = p
    · subst h1
      have h2 : r' ≠ r := fun q => hne q.symm
      rw [va_up_ne' h2] at ht
      rw [va_up_self, va_up_ne' h2]
      exact Or.inr (old r' t ht)
    · rw [va_up_ne' h1] at hq
      rw [va_up_ne' h1]
      by_cases h2 : r' = p
      · subst h2
        rw [va_up_self]
        exact Or.inl (old r q hq)
      · rw [va_up_ne' h2] at ht ⊢
        exact g5 r q r' t hq ht hne
def UF (iv : Nat → Int32) (av : Nat → Nat → Int32) (iv' : Nat → Int32) (av' : Nat → Nat → Int32) : Prop := (∀ q, q < 13 ∨ 18 < q → iv' q = iv q) ∧ ∀ q, q < 29 ∨ 42 < q ∨ q = 33 ∨ q = 35 ∨ q = 37 ∨ q = 38 → av' q = av q
theorem SF.uf {iv iv1 : Nat → Int32} {av av1 : Nat → Nat → Int32} (h : SF iv av iv1 av1) : UF iv av iv1 av1 := ⟨h.1, fun q a => h.2 q (by omega)⟩
theorem UF.tr {iv iv1 iv2 : Nat → Int32} {av av1 av2 : Nat → Nat → Int32} (h : UF iv av iv1 av1) (g : UF iv1 av1 iv2 av2) : UF iv av iv2 av2 := ⟨fun q a => (g.1 q a).trans (h.1 q a), fun q a => (g.2 q a).trans (h.2 q a)⟩
/-- what reading a program leaves alone -/
def QF (iv : Nat → Int32) (av : Nat → Nat → Int32) (iv' : Nat → Int32) (av' : Nat → Nat → Int32) : Prop := (∀ q, q < 13 ∨ 19 < q → iv' q = iv q) ∧ ∀ q, q < 29 ∨ 42 < q ∨ q = 38 → av' q = av q
theorem QF.rf {iv : Nat → Int32} {av : Nat → Nat → Int32} : QF iv av iv av := ⟨fun _ _ => rfl, fun _ _ => rfl⟩
theorem UF.qf {iv iv1 : Nat → Int32} {av av1 : Nat → Nat → Int32} (h : UF iv av iv1 av1) : QF iv av iv1 av1 := ⟨fun q a => h.1 q (by omega), fun q a => h.2 q (by omega)⟩
theorem QF.tr {iv iv1 iv2 : Nat → Int32} {av av1 av2 : Nat → Nat → Int32} (h : QF iv av iv1 av1) (g : QF iv1 av1 iv2 av2) : QF iv av iv2 av2 := ⟨fun q a => (g.1 q a).trans (h.1 q a), fun q a => (g.2 q a).trans (h.2 q a)⟩
section MRD
variable {e : Nat} {iv : Nat → Int32} {av : Nat → Nat → Int32} {lv : Nat → Nat → Int64} {n i j : Nat} {tx : Nat → Nat} {K Mk : List In} {bs : List (Nat × Nat)} {u : UN} {F G : Nat → Nat}
theorem m_close45 {p o w : Nat} (he : 4 ≤ e) (h : GS n tx iv av j K Mk ((w, 0) :: bs) 0) (hw : (w = 4 ∧ o = 19) ∨ (w = 5 ∧ o = 18)) (h19 : iv 19 = nI p) (hp : p < 5) (hk : K.length + 1 ≤ 2 * j) (hm : Mk.length + 1 ≤ 3 * j) :
    ∃ iv' av', UF iv av iv' av' ∧ xm (e + 1) 92 [.ref 27] (xs iv av lv) (some (.int 1), xs iv' av' lv) ∧ GS n tx iv' av' j (K ++ [(o, 0)]) (if noted o = true then Mk ++ [(o, 0)] else Mk) bs 0 ∧ av' 34 = upd (av 34) p (nI (K.length + 1)) ∧ av' 36 = upd (av 36) p (nI (if noted o = true then Mk ++ [(o, 0)] else Mk).length) := by
  obtain ⟨F1, v1, x1⟩ := cl_pre (e := e) (lv := lv) h
  obtain ⟨iv2, av2, f2, x2, v2⟩ := gs_emit (D := e) (lv := lv) (o := o) (a := 0) (by omega) v1 (by omega) (by omega)
  have e19 : iv2 19 = nI p := by rw [f2.1 19 (by decide) (by decide), F1.1 19 (by omega)]; exact h19
  have hb5 : 0 ≤ (iv2 19).toInt ∧ (iv2 19).toInt < ((5 : Nat) : Int) := by rw [e19]; exact nI_bd (by omega) (by omega)
  have ec : (iv2 19).toNatClampNeg = p := by rw [e19]; exact nI_clamp (by omega)
  have h14 : iv2 14 = nI (K.length + 1) := by rw [v2.2.2.1.1, List.length_append]; rfl
  have h15 := v2.2.2.2.1.1
  have tl : xe e xt_92 159 [some (.ref 27), none, none] [] (xs iv2 av2 lv) (some (.int 1), xs iv2 (va_up (va_up av2 34 (upd (av2 34) p (nI (K.length + 1)))) 36 (upd (av2 36) p (nI (if noted o = true then Mk ++ [(o, 0)] else Mk).length))) lv) := by
    refine xb_92_159 hb5 (xb_92_172 hb5 ?_)
    rw [ec, h14, h15]
    exact xb_92_185
  have v3 := v2.down (by rw [List.length_append]; exact hk) (by
    split
    · rw [List.length_append]; exact hm
    · omega)
  obtain ⟨k1, k2, k3, k4, k5, k6, k7, k8⟩ := v3
  refine ⟨iv2, va_up (va_up av2 34 (upd (av2 34) p (nI (K.length + 1)))) 36 (upd (av2 36) p (nI (if noted o = true then Mk ++ [(o, 0)] else Mk).length)), ⟨fun q a => (f2.1 q (by omega) (by omega)).trans (F1.1 q a), fun q a => ?_⟩, x1 _ ?_, ⟨k1.to rfl rfl, k2, k3, k4, k5, k6, k7, k8⟩, ?_, ?_⟩
  rotate_left
  · rcases hw with ⟨rfl, rfl⟩ | ⟨rfl, rfl⟩
    · exact xb_92_29 (fun g => absurd g (by decide)) (fun _ => xb_92_82 (fun g => absurd g (by decide)) (fun _ => xb_92_102 (fun g => absurd g (by decide)) (fun _ => xb_92_117 (fun g => absurd g (by decide)) (fun _ => xb_92_123 (fun g => absurd g (by decide)) (fun _ => xb_92_136 (fun _ => xb_92_142 (fun g => absurd g (by decide)) (fun _ => xb_92_153 (xb_92_155 x2 tl))) (fun g => absurd (by decide) g))))))
    · exact xb_92_29 (fun g => absurd g (by decide)) (fun _ => xb_92_82 (fun g => absurd g (by decide)) (fun _ => xb_92_102 (fun g => absurd g (by decide)) (fun _ => xb_92_117 (fun g => absurd g (by decide)) (fun _ => xb_92_123 (fun g => absurd g (by decide)) (fun _ => xb_92_136 (fun _ => xb_92_142 (fun _ => xb_92_148 (xb_92_155 x2 tl)) (fun g => absurd rfl g)) (fun g => absurd (by decide) g))))))
  · show upd (av2 34) p _ = _
    rw [f2.2 34 (by omega), F1.2 34 (by omega)]
  · show upd (av2 36) p _ = _
    rw [f2.2 36 (by omega), F1.2 36 (by omega)]
  · rw [va_up_ne' (by omega), va_up_ne' (by omega)]
    by_cases hq : q < 29 ∨ 42 < q ∨ (32 < q ∧ q < 39)
    · rw [f2.2 q (by omega), F1.2 q (by omega)]
    · omega
theorem m_unit {p w : Nat} (he : 7 ≤ e) (h : GS n tx iv av (i + 1) K Mk [(w, 0)] 0) (hc : tx i = 123) (hp : p < 5) (hw : w = if p = 4 then 4 else 5) (h19 : iv 19 = nI p) :
    match m1 tx i with
    | some q => ∃ iv' av', UF iv av iv' av' ∧ GS n tx iv' av' q.1 (K ++ (sh K.length q.2.1 ++ [(uo p, 0)])) (Mk ++ um p q.2.2) [] 0 ∧ av' 34 = upd (av 34) p (nI (K.length + q.2.1.length + 1)) ∧ av' 36 = upd (av 36) p (nI (Mk.length + (um p q.2.2).length)) ∧ ∀ x, RH e lv iv' av' x → RH e lv iv av x
    | none => ∃ iv' av', SF iv av iv' av' ∧ RH e lv iv av (some (.int 0), xs iv' av' lv) := by
  have hn0 : ∀ i, tx i ≠ 0 → i < n := fun _ q => h.1.lt q
  have run := bq_run (lv := lv) (bs := []) (by omega) (tl_T hn0 he 5) (mT_lt hn0 5) rfl hc h
  rw [show mBlock tx (mT tx 5) i = m1 tx i from rfl] at run
  cases hb1 : m1 tx i with
  | none =>
    rw [hb1] at run
    exact run
  | some b =>
    rw [hb1] at run
    obtain ⟨iv2, av2, j2, g1, g2, f2, v2, x2⟩ := run
    obtain ⟨F3, v3, c3, -⟩ := rh_close (lv := lv) (e := e) (by omega) v2 (by simp) g2
    have hk2 := v2.2.2.2.2.2.1
    have hm2 := v2.2.2.2.2.2.2.1
    obtain ⟨e', rfl⟩ : ∃ e', e = e' + 1 := ⟨e - 1, by omega⟩
    have hw' : (w = 4 ∧ uo p = 19) ∨ (w = 5 ∧ uo p = 18) := by
      unfold uo
      by_cases h4 : p = 4
      · rw [if_pos h4] at hw ⊢
        exact Or.inl ⟨hw, rfl⟩
      · rw [if_neg h4] at hw ⊢
        exact Or.inr ⟨hw, rfl⟩
    have h19' : upd iv2 13 (nI (j2 + 1)) 19 = nI p := by
      rw [upd_ne' (by decide), f2.1 19 (by omega)]
      exact h19
    obtain ⟨iv4, av4, f4, x4, v4, e34, e36⟩ := m_close45 (lv := lv) (e := e') (o := uo p) (p := p) (by omega) v3 hw' h19' hp (by omega) (by omega)
    have eM : (if noted (uo p) = true then (Mk ++ b.2.2) ++ [(uo p, 0)] else Mk ++ b.2.2) = Mk ++ um p b.2.2 := by
      unfold uo um
      by_cases h4 : p = 4
      · rw [if_pos h4, if_pos h4]
        rfl
      · rw [if_neg h4, if_neg h4, if_pos no12.2.2.2.2.2.2.1, List.append_assoc]
    rw [eM] at v4 e36
    refine ⟨iv4, av4, f2.uf.tr (F3.uf.tr f4), ?_, ?_, ?_, fun x hx => x2 _ (c3 _ _ _ x4 hx)⟩
    · rw [g1, ← List.append_assoc]
      exact v4
    · rw [e34, f2.2 34 (by omega), List.length_append, sh_len]
    · rw [e36, f2.2 36 (by omega), List.length_append]
theorem rh_beg {x : xi_R} {iv' : Nat → Int32} {av' : Nat → Nat → Int32} (h : GS n tx iv av i K Mk [] 0) (hru : RU tx av K Mk u F G) (h4 : u 4 = none) (hx : (xm e 93 [.ref 27] (xs iv av lv) (some (.int 1), xs iv' av' lv) ∧ RH e lv iv' av' x) ∨ (xm e 93 [.ref 27] (xs iv av lv) (some (.int 0), xs iv' av' lv) ∧ x = (some (.int 0), xs iv' av' lv))) : RH e lv iv av x := fun o1 o2 => by
  have h37 : av 37 (4 : Int32).toNatClampNeg = 0 := by
    have := hru.1 4 (by omega)
    rw [h4, if_pos rfl] at this
    exact this
  have h18 : iv 18 = 0 := h.2.2.2.2.1.1
  refine xb_94_40 ?_
  rw [h37]
  refine xb_94_46 (fun _ => xb_94_56 (fun _ => ?_) (fun g => absurd h18 g)) (fun g => absurd rfl g)
  rcases hx with ⟨x1, x2⟩ | ⟨x1, rfl⟩
  · exact xb_94_63 x1 (xb_94_67 (xb_94_90 (fun g => absurd g (by decide)) (fun _ => xb_94_97 (x2 _ _))))
  · exact xb_94_63 x1 (xb_94_67 (xb_94_90 (fun _ => xb_94_95) (fun g => absurd rfl g)))
/-- a unit that is not there yet, its block at i0 -/
theorem rh_unit {p i0 : Nat} {a2 : Int32} (he : 7 ≤ e) (h : GS n tx iv av i K Mk [] 0) (hru : RU tx av K Mk u F G) (h4 : u 4 = none) (hp : p < 5) (hup : u p = none) (hi : i ≤ i0) (hi2 : i0 ≤ 201) (ha : a2 = if p = 4 then 0 else 1)
    (go : ∀ x, xe (e - 1) xt_93 57 [some (.ref 27), none, some (.int a2)] [.int (nI i0), .ref 27] (xs (upd iv 19 (nI p)) av lv) x → xm e 93 [.ref 27] (xs iv av lv) x) :
    match m1 tx i0 with
    | some q => ∃ iv' av', QF iv av iv' av' ∧ GS n tx iv' av' q.1 (K ++ (sh K.length q.2.1 ++ [(uo p, 0)])) (Mk ++ um p q.2.2) [] 0 ∧ RU tx av' (K ++ (sh K.length q.2.1 ++ [(uo p, 0)])) (Mk ++ um p q.2.2) (va_up u p (some (i0, q.2.1))) (va_up F p K.length) (va_up G p Mk.length) ∧ ∀ x, RH e lv iv' av' x → RH e lv iv av x
    | none => ∃ iv' av', QF iv av iv' av' ∧ RH e lv iv av (some (.int 0), xs iv' av' lv) := by
  obtain ⟨k1, k2, k3, k4, k5, k6, k7, k8⟩ := h
  have h := (⟨k1, k2, k3, k4, k5, k6, k7, k8⟩ : GS n tx iv av i K Mk [] 0)
  generalize hiv1 : upd (upd iv 19 (nI p)) 13 (nI i0) = iv1
  generalize hav1 : va_up (va_up (va_up av 37 (upd (av 37) p 1)) 33 (upd (av 33) p (nI K.length))) 35 (upd (av 35) p (nI Mk.length)) = av1
  have F1 : QF iv av iv1 av1 := by
    subst hiv1 hav1
    exact ⟨fun q a => by rw [upd_ne' (by omega), upd_ne' (by omega)], fun q a => by rw [va_up_ne' (by omega), va_up_ne' (by omega), va_up_ne' (by omega)]⟩
  have v1 : GS n tx iv1 av1 i0 K Mk [] 0 := by
    subst hiv1 hav1
    exact ⟨k1.to rfl rfl, ⟨rfl, hi2⟩, k3, k4, k5, by omega, by omega, k8⟩
  have h19 : iv1 19 = nI p := by subst hiv1; rfl
  have e37 : av1 37 = upd (av 37) p 1 := by subst hav1; rfl
  have e33 : av1 33 = upd (av 33) p (nI K.length) := by subst hav1; rfl
  have e34 : av1 34 = av 34 := by subst hav1; rfl
  have e35 : av1 35 = upd (av 35) p (nI Mk.length) := by subst hav1; rfl
  have e36 : av1 36 = av 36 := by subst hav1; rfl
  have wv : ∃ w, w = if p = 4 then 4 else 5 := ⟨_, rfl⟩
  obtain ⟨w, hw⟩ := wv
  have hb5 : ∀ {iv : Nat → Int32}, iv 19 = nI p → 0 ≤ (iv 19).toInt ∧ (iv 19).toInt < ((5 : Nat) : Int) := fun q => by rw [q]; exact nI_bd (by omega) (by omega)
  have ec : ∀ {iv : Nat → Int32}, iv 19 = nI p → (iv 19).toNatClampNeg = p := fun q => by rw [q]; exact nI_clamp (by omega)
  have walk : ∀ x s, (s = 0 ∨ s = 1) → (∃ iv' av', x = (some (.int s), xs iv' av' lv)) → xm (e - 1) 88 [.ref 27, .int (nI w), .int 0] (xs iv1 av1 lv) x → xm e 93 [.ref 27] (xs iv av lv) x := fun x s hs ⟨iv', av', hx⟩ hm => by
    subst hx
    have g37 : av 37 p = 0 := by
      have := hru.1 p hp
      rw [hup, if_pos rfl] at this
      exact this
    refine go _ (xb_93_57 (hb5 rfl) ?_)
    rw [ec (iv := upd iv 19 (nI p)) rfl, g37]
    refine xb_93_69 (fun _ => xb_93_74 (hb5 rfl) (xb_93_84 (hb5 rfl) (xb_93_97 (hb5 rfl) ?_))) (fun g => absurd rfl g)
    rw [ec (iv := upd (upd iv 19 (nI p)) 13 (nI i0)) rfl]
    have g14 : upd (upd iv 19 (nI p)) 13 (nI i0) 14 = nI K.length := k3.1
    have g15 : upd (upd iv 19 (nI p)) 13 (nI i0) 15 = nI Mk.length := k4.1
    rw [g14, g15]
    have last : ∀ q, q = nI w → xe (e - 1) xt_93 120 [none, none, none] [.int q, .ref 27] (xs iv1 av1 lv) (some (.int s), xs iv' av' lv) := fun q hq => by
      subst hq
      exact xb_93_120 hm (xb_93_124 hs)
    subst hiv1 hav1
    refine xb_93_110 (fun g => xb_93_119 (last 4 ?_)) (fun g => xb_93_115 (last 5 ?_))
    · rw [ha] at g
      by_cases h4' : p = 4
      · rw [hw, if_pos h4']; rfl
      · rw [if_neg h4'] at g; exact absurd g (by decide)
    · rw [ha] at g
      by_cases h4' : p = 4
      · rw [if_pos h4'] at g; exact absurd rfl g
      · rw [hw, if_neg h4']; rfl
  by_cases hc : tx i0 = 123
  · obtain ⟨iv2, av2, f2, x2, v2⟩ := m_open1 (D := e - 1) (lv := lv) (w := w) (p := 0) (by omega) v1 hc (by simp) (by omega)
    have x3 := walk _ 1 (Or.inr rfl) ⟨_, _, rfl⟩ x2
    have mu := m_unit (lv := lv) (p := p) he v2 hc hp hw (by rw [f2.1 19 (by omega)]; exact h19)
    cases hb1 : m1 tx i0 with
    | none =>
      rw [hb1] at mu
      obtain ⟨iv', av', f, x⟩ := mu
      exact ⟨iv', av', F1.tr (f2.uf.qf.tr f.uf.qf), rh_beg h hru h4 (Or.inl ⟨x3, x⟩)⟩
    | some b =>
      rw [hb1] at mu
      obtain ⟨iv', av', f, v, g34, g36, x⟩ := mu
      refine ⟨iv', av', F1.tr (f2.uf.qf.tr f.qf), v, ?_, fun y hy => rh_beg h hru h4 (Or.inl ⟨x3, x y hy⟩)⟩
      obtain ⟨b1, b2, b3⟩ := b
      refine hru.add hp hup hb1 ?_ ?_ ?_ ?_ ?_
      · rw [f.2 37 (by omega), f2.2 37 (by omega), e37]
      · rw [f.2 33 (by omega), f2.2 33 (by omega), e33]
      · rw [g34, f2.2 34 (by omega), e34]
      · rw [f.2 35 (by omega), f2.2 35 (by omega), e35]
      · rw [g36, f2.2 36 (by omega), e36]
  · obtain ⟨iv2, f2, x2⟩ := m_open0 (D := e - 1) (lv := lv) (w := w) (p := 0) (by omega) v1 (Or.inl hc)
    have : m1 tx i0 = none := by
      unfold m1 mBlock
      rw [if_neg hc]
    rw [this]
    exact ⟨iv2, av1, F1.tr (sf13 f2).uf.qf, rh_beg h hru h4 (Or.inr ⟨walk _ 0 (Or.inl rfl) ⟨_, _, rfl⟩ x2, rfl⟩)⟩
end MRD
