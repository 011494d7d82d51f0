/-! The reference: the heads of choices and loops, and what closes a block. -/
section MBK
variable {D e : Nat} {iv : Nat → Int32} {av : Nat → Nat → Int32} {lv : Nat → Nat → Int64} {n i r : Nat} {tx : Nat → Nat} {K Mk : List In} {bs : List (Nat × Nat)} {sl : Nat}
theorem GS.nf {iv1 : Nat → Int32} (h : GS n tx iv av i K Mk bs sl) {j : Nat} (f : ∀ q, q ≠ 13 → iv1 q = iv q) (h13 : iv1 13 = nI j) (hj : i ≤ j) (hj2 : j ≤ 201) : GS n tx iv1 av j K Mk bs sl := by
  obtain ⟨h1, h2, h3, h4, h5, h6, h7, h8⟩ := h
  exact ⟨h1.to (f 12 (by decide)) rfl, ⟨h13, hj2⟩, ⟨by rw [f 14 (by decide)]; exact h3.1, h3.2⟩, ⟨by rw [f 15 (by decide)]; exact h4.1, h4.2⟩, ⟨by rw [f 18 (by decide)]; exact h5.1, h5.2⟩, by omega, by omega, h8⟩
theorem sf13 {iv1 : Nat → Int32} (f : ∀ q, q ≠ 13 → iv1 q = iv q) : SF iv av iv1 av := ⟨fun q a => f q (by omega), fun _ _ => rfl⟩
theorem m_st_if (he : 5 ≤ e) (h : GS n tx iv av i K Mk bs 0) (hr : bs.length + r = 6) (q0 : tx i = 63) :
    (∃ q, pVal tx (pu tx r) (i + 1) = some q ∧ tx q.1 = 123 ∧ bs.length < 6 ∧ ∃ iv' av', SF iv av iv' av' ∧ xm (e + 1) 91 [.ref 27] (xs iv av lv) (some (.int 1), xs iv' av' lv) ∧ GS n tx iv' av' (q.1 + 1) (K ++ q.2 ++ [(13, 0)]) (Mk ++ q.2 ++ [(30, 0)]) ((6, K.length + q.2.length) :: bs) 0) ∨
    ((∀ q, pVal tx (pu tx r) (i + 1) = some q → tx q.1 ≠ 123 ∨ bs.length = 6) ∧ ∃ iv' av', SF iv av iv' av' ∧ xm (e + 1) 91 [.ref 27] (xs iv av lv) (some (.int 0), xs iv' av' lv)) := by
  have hi : i < n := h.1.lt (by omega)
  have hn := h.1.2.1
  have g1 := h.at0 (j := i + 1) (by omega) (by omega) (by omega)
  have go : ∀ x, xe e xt_91 63 [some (.ref 27), some (.int (nI 63)), none] [] (xs (upd iv 13 (nI (i + 1))) av lv) x → xm (e + 1) 91 [.ref 27] (xs iv av lv) x := fun x hx => by
    refine xm_of (nL := 3) rfl rfl (xb_91_0 (h.lk (by omega)) ?_)
    rw [q0]
    refine xb_91_4 (fun g => absurd g (by decide)) (fun _ => ?_)
    rw [h.2.1.1, nI_1]
    exact xb_91_57 (fun _ => hx) (fun g => absurd rfl g)
  have mv := m_value (D := e) (lv := lv) (sm := false) (r := r) (by omega) g1 (by omega) (by omega) hr
  rw [if_neg (by decide)] at mv
  have e18 : upd iv 13 (nI (i + 1)) 18 = nI bs.length := h.2.2.2.2.1.1
  cases hv : pVal tx (pu tx r) (i + 1) with
  | none =>
    rw [hv] at mv
    obtain ⟨iv1, av1, f1, x1, b1⟩ := mv
    obtain ⟨iv2, av2, f2, x2, b2⟩ := gb_emit (D := e) (lv := lv) (o := 13) (a := 0) (by omega) b1 (by omega)
    obtain ⟨iv3, av3, f3, x3⟩ := gb_note (D := e) (lv := lv) (o := 30) (a := 0) (by omega) b2
    exact Or.inr ⟨fun q hq => (by cases hq), iv3, av3, SF.at.tr (f1.sf.tr (f2.sf.tr f3.sf)), go _ (xb_91_63 (by rw [e18]; exact x1) (xb_91_72 x2 (xb_91_80 x3 (xb_91_87 (fun _ => xb_91_110 (xb_91_111 (Or.inl rfl))) (fun g => absurd rfl g)))))⟩
  | some q =>
    rw [hv] at mv
    obtain ⟨iv1, av1, f1, x1, v1⟩ := mv
    obtain ⟨iv2, av2, f2, x2, v2⟩ := gs_emit (D := e) (lv := lv) (o := 13) (a := 0) (by omega) v1 (by omega) (by omega)
    rw [if_neg (by decide)] at v2
    obtain ⟨iv3, av3, f3, x3, v3⟩ := gs_note (D := e) (lv := lv) (o := 30) (a := 0) (by omega) v2 (by omega)
    have F : SF iv av iv3 av3 := SF.at.tr (f1.sf.tr (f2.sf.tr f3.sf))
    have pre : ∀ x, xe e xt_91 91 [some (.ref 27), none, some (.int 1)] [] (xs iv3 av3 lv) x → xm (e + 1) 91 [.ref 27] (xs iv av lv) x := fun x hx => go x (xb_91_63 (by rw [e18]; exact x1) (xb_91_72 x2 (xb_91_80 x3 (xb_91_87 (fun g => absurd g (by decide)) (fun _ => hx)))))
    have e14 : iv3 14 - 1 = nI (K.length + q.2.length) := by
      rw [v3.2.2.1.1]
      simp only [List.length_append, List.length_cons, List.length_nil]
      exact nI_pred _
    by_cases hok : tx q.1 = 123 ∧ bs.length < 6
    · obtain ⟨iv4, av4, f4, x4, v4⟩ := m_open1 (D := e) (lv := lv) (w := 6) (p := K.length + q.2.length) (by omega) v3 hok.1 hok.2 (by omega)
      exact Or.inl ⟨q, rfl, hok.1, hok.2, iv4, av4, F.tr f4, pre _ (xb_91_91 (by rw [e14]; exact x4) (xb_91_103 (fun g => absurd g (by decide)) (fun _ => xb_91_106 (xb_91_111 (Or.inr rfl))))), v4⟩
    · have hno : tx q.1 ≠ 123 ∨ bs.length = 6 := by have := h.2.2.2.2.1.2.1; omega
      obtain ⟨iv4, f4, x4⟩ := m_open0 (D := e) (lv := lv) (w := 6) (p := K.length + q.2.length) (by omega) v3 hno
      exact Or.inr ⟨fun q' hq' => by cases hq'; exact hno, iv4, av3, F.tr (sf13 f4), pre _ (xb_91_91 (by rw [e14]; exact x4) (xb_91_103 (fun _ => xb_91_110 (xb_91_111 (Or.inl rfl))) (fun g => absurd rfl g)))⟩
/-- a loop's head behind its value: the number k at j, and a block -/
def LO (D : Nat) (lv : Nat → Nat → Int64) (n : Nat) (tx : Nat → Nat) (iv : Nat → Int32) (av : Nat → Nat → Int32) (K Mk : List In) (bs : List (Nat × Nat)) (pre : List In) (op j : Nat) : Prop :=
  (¬ (nd tx j = 0 ∨ 99 < nv tx j (nd tx j)) ∧ tx (j + nd tx j) = 123 ∧ bs.length < 6 ∧ ∃ iv' av', SF iv av iv' av' ∧ xm D 90 [.ref 27] (xs iv av lv) (some (.int 1), xs iv' av' lv) ∧ GS n tx iv' av' (j + nd tx j + 1) (K ++ pre ++ [(op, nv tx j (nd tx j)), (15, 0)]) (Mk ++ pre ++ [(op, nv tx j (nd tx j)), (33, nv tx j (nd tx j))]) ((8, K.length + pre.length + 1) :: bs) 0) ∨
  (((nd tx j = 0 ∨ 99 < nv tx j (nd tx j)) ∨ tx (j + nd tx j) ≠ 123 ∨ bs.length = 6) ∧ ∃ iv' av', SF iv av iv' av' ∧ xm D 90 [.ref 27] (xs iv av lv) (some (.int 0), xs iv' av' lv))
theorem m_loop_rest {iv1 : Nat → Int32} {av1 : Nat → Nat → Int32} {pre : List In} {op j : Nat} (he : 4 ≤ e) (F : SF iv av iv1 av1) (hb6 : bs.length ≤ 6) (h : nd tx j ≠ 0 → GS n tx iv1 av1 (j + nd tx j) (K ++ pre ++ [(op, nv tx j (nd tx j))]) (Mk ++ pre ++ [(op, nv tx j (nd tx j))]) bs 0)
    (go : ∀ x, (∀ o1, xe e xt_90 72 [some (.ref 27), o1, some (.int (if nd tx j = 0 then -1 else nI (nv tx j (nd tx j))))] [] (xs iv1 av1 lv) x) → xm (e + 1) 90 [.ref 27] (xs iv av lv) x) : LO (e + 1) lv n tx iv av K Mk bs pre op j := by
  have hv3 := nv_lt3 (tx := tx) (i := j) (Nat.le_refl (nd tx j))
  by_cases h0 : nd tx j = 0
  · refine Or.inr ⟨Or.inl (Or.inl h0), iv1, av1, F, go _ (fun o1 => ?_)⟩
    rw [if_pos h0]
    exact xb_90_72 (fun _ => xb_90_82) (fun g => absurd (by decide) g)
  · have v1 := h h0
    rw [if_neg h0] at go
    have g72 : ∀ x, (∀ o1, xe e xt_90 76 [some (.ref 27), o1, some (.int (nI (nv tx j (nd tx j))))] [] (xs iv1 av1 lv) x) → xm (e + 1) 90 [.ref 27] (xs iv av lv) x := fun x hx => go x (fun o1 => xb_90_72 (fun g => absurd g (nI_pos (by omega))) (fun _ => hx _))
    by_cases h99 : 99 < nv tx j (nd tx j)
    · exact Or.inr ⟨Or.inl (Or.inr h99), iv1, av1, F, g72 _ (fun o1 => xb_90_76 (fun _ => xb_90_82) (fun g => absurd (show nI 99 < _ from nI_lt h99 (by omega)) g))⟩
    · obtain ⟨iv2, av2, f2, x2, v2⟩ := gs_note (D := e) (lv := lv) (o := 33) (a := nv tx j (nd tx j)) (by omega) v1 (by omega)
      obtain ⟨iv3, av3, f3, x3, v3⟩ := gs_emit (D := e) (lv := lv) (o := 15) (a := 0) (by omega) v2 (by omega) (by omega)
      rw [if_neg (by decide)] at v3
      have e14 : iv3 14 - 1 = nI (K.length + pre.length + 1) := by
        rw [v3.2.2.1.1]
        simp only [List.length_append, List.length_cons, List.length_nil]
        exact nI_pred _
      have pre2 : ∀ x, xe e xt_90 98 [some (.ref 27), none, some (.int (nI (nv tx j (nd tx j))))] [] (xs iv3 av3 lv) x → xm (e + 1) 90 [.ref 27] (xs iv av lv) x := fun x hx => g72 x (fun o1 => xb_90_76 (fun g => absurd ((nI_ltI (a := 99) (by omega) (by omega)).mp g) h99) (fun _ => xb_90_84 x2 (xb_90_91 x3 hx)))
      have F3 := F.tr (f2.sf.tr f3.sf)
      by_cases hok : tx (j + nd tx j) = 123 ∧ bs.length < 6
      · obtain ⟨iv4, av4, f4, x4, v4⟩ := m_open1 (D := e) (lv := lv) (w := 8) (p := K.length + pre.length + 1) (by omega) v3 hok.1 hok.2 (by omega)
        refine Or.inl ⟨fun q => q.elim h0 h99, hok.1, hok.2, iv4, av4, F3.tr f4, pre2 _ (xb_90_98 (by rw [e14]; exact x4) (xb_90_110 (Or.inr rfl))), ?_⟩
        have e1 : ∀ (L : List In) a b, L ++ pre ++ [a, b] = L ++ pre ++ [a] ++ [b] := fun L a b => by simp only [List.append_assoc]; rfl
        rw [e1, e1]
        exact v4
      · have hno : tx (j + nd tx j) ≠ 123 ∨ bs.length = 6 := by omega
        obtain ⟨iv4, f4, x4⟩ := m_open0 (D := e) (lv := lv) (w := 8) (p := K.length + pre.length + 1) (by omega) v3 hno
        exact Or.inr ⟨Or.inr hno, iv4, av3, F3.tr (sf13 f4), pre2 _ (xb_90_98 (by rw [e14]; exact x4) (xb_90_110 (Or.inl rfl)))⟩
theorem nd_in (hT : ∀ i, tx i ≠ 0 → i < n) {j : Nat} (h0 : nd tx j ≠ 0) : j + nd tx j ≤ n := by
  have := hT (j + (nd tx j - 1)) (by
    have := dg_iff.mp (nd_dg (tx := tx) (i := j) (q := nd tx j - 1) (by omega))
    omega)
  omega
theorem m_loop (he : 5 ≤ e) (h : GS n tx iv av i K Mk bs 0) (hr : bs.length + r = 6) (hi1 : 1 ≤ i) (hin : i ≤ 200) :
    if 0 < nd tx i ∧ tx (i + nd tx i) = 123 then LO (e + 1) lv n tx iv av K Mk bs [] 0 i
    else (∃ q, pSum tx (pu tx r) i = some q ∧ tx q.1 = 60 ∧ LO (e + 1) lv n tx iv av K Mk bs q.2 16 (q.1 + 1)) ∨ ((∀ q, pSum tx (pu tx r) i = some q → tx q.1 ≠ 60) ∧ ∃ iv' av', SF iv av iv' av' ∧ xm (e + 1) 90 [.ref 27] (xs iv av lv) (some (.int 0), xs iv' av' lv)) := by
  have hn0 : ∀ i, tx i ≠ 0 → i < n := fun _ q => h.1.lt q
  have hn := h.1.2.1
  have hb6 := h.2.2.2.2.1.2.1
  have h13 := h.2.1.1
  have hv3 := nv_lt3 (tx := tx) (i := i) (Nat.le_refl (nd tx i))
  obtain ⟨iv1, f1, e1, x1⟩ := m_digits (D := e) (lv := lv) (by omega) h.1 h13 h.2.1.2
  have h3 := nd_le tx i
  have T1 : MT iv1 av n tx := h.1.to (f1 12 (by decide)) rfl
  have lk1 := m_look (D := e) (lv := lv) (by omega) T1 e1 (by omega)
  by_cases hA : 0 < nd tx i ∧ tx (i + nd tx i) = 123
  · rw [if_pos hA]
    have hj := nd_in hn0 (j := i) (by omega)
    have v1 := h.nf (iv1 := iv1) (j := i + nd tx i) f1 e1 (by omega) (by omega)
    obtain ⟨iv2, av2, f2, x2, v2⟩ := gs_emit (D := e) (lv := lv) (o := 0) (a := nv tx i (nd tx i)) (by omega) v1 (by omega) (by omega)
    rw [if_pos (by decide)] at v2
    refine m_loop_rest (by omega) ((sf13 f1).tr f2.sf) hb6 (fun _ => ?_) (fun x hx => ?_)
    · obtain ⟨g1, g2, g3, g4, g5, g6, g7, g8⟩ := v2
      obtain ⟨k1, k2, k3, k4, k5, k6, k7, k8⟩ := h
      simp only [List.append_nil]
      simp only [List.length_append, List.length_cons, List.length_nil] at g6 g7
      exact ⟨g1, g2, g3, g4, g5, by simp only [List.length_append, List.length_cons, List.length_nil]; omega, by simp only [List.length_append, List.length_cons, List.length_nil]; omega, by omega⟩
    · rw [if_neg (by omega)] at hx
      refine xm_of (nL := 3) rfl rfl (xb_90_0 x1 ?_)
      rw [if_neg (by omega)]
      refine xb_90_9 (fun g => absurd g (nI_pos (by omega))) (fun _ => xb_90_14 lk1 ?_)
      rw [hA.2]
      exact xb_90_18 (fun _ => xb_90_23 x2 (xb_90_29 (hx _))) (fun g => absurd rfl g)
  · rw [if_neg hA]
    -- back to the beginning
    have eiv : upd iv1 13 (nI i) = iv := by
      funext q
      by_cases hq : q = 13
      · subst hq; rw [upd_eq', h13]
      · rw [upd_ne' hq]; exact f1 q hq
    have go : ∀ x, (∀ o2, xe e xt_90 32 [some (.ref 27), some (.int (nI i)), o2] [] (xs iv1 av lv) x) → xm (e + 1) 90 [.ref 27] (xs iv av lv) x := fun x hx => by
      refine xm_of (nL := 3) rfl rfl (xb_90_0 x1 ?_)
      rw [h13]
      by_cases h0 : nd tx i = 0
      · rw [if_pos h0]
        exact xb_90_9 (fun _ => hx _) (fun g => absurd (by decide) g)
      · rw [if_neg h0]
        have hle := h.1.le (i + nd tx i)
        exact xb_90_9 (fun g => absurd g (nI_pos (by omega))) (fun _ => xb_90_14 lk1 (xb_90_18 (fun g => absurd ((nI_eq (b := 123) (by omega) (by omega)).mp g) (fun q => hA ⟨by omega, q⟩)) (fun _ => hx _)))
    have mv := m_value (D := e) (lv := lv) (sm := true) (r := r) (by omega) h hi1 hin hr
    rw [if_pos rfl, if_pos rfl] at mv
    have e18 : iv1 18 = nI bs.length := by rw [f1 18 (by decide)]; exact h.2.2.2.2.1.1
    cases hv : pSum tx (pu tx r) i with
    | none =>
      rw [hv] at mv
      obtain ⟨iv2, av2, f2, x2, b2⟩ := mv
      exact Or.inr ⟨fun q hq => (by cases hq), iv2, av2, f2.sf, go _ (fun o2 => xb_90_32 (by rw [e18, eiv]; exact x2) (xb_90_46 (fun _ => xb_90_58) (fun g => absurd rfl g)))⟩
    | some q =>
      rw [hv] at mv
      obtain ⟨iv2, av2, f2, x2, v2⟩ := mv
      have go2 : ∀ x, xe e xt_90 49 [some (.ref 27), some (.int (nI i)), none] [] (xs iv2 av2 lv) x → xm (e + 1) 90 [.ref 27] (xs iv av lv) x := fun x hx => go x (fun o2 => xb_90_32 (by rw [e18, eiv]; exact x2) (xb_90_46 (fun g => absurd g (by decide)) (fun _ => hx)))
      by_cases h60 : tx q.1 = 60
      case neg => exact Or.inr ⟨fun q' hq' => by cases hq'; exact h60, iv2, av2, f2.sf, go2 _ (xb_90_49 (v2.eat0 (by omega) h60 (by decide)) (xb_90_55 (fun _ => xb_90_58) (fun g => absurd rfl g)))⟩
      obtain ⟨x3, v3, hq3⟩ := v2.eat1 (lv := lv) (D := e) (by omega) h60 (by decide) (by omega)
      obtain ⟨iv4, f4, e4, x4⟩ := m_digits (D := e) (lv := lv) (by omega) v3.1 v3.2.1.1 v3.2.1.2
      have h3' := nd_le tx (q.1 + 1)
      have hv3' := nv_lt3 (tx := tx) (i := q.1 + 1) (Nat.le_refl (nd tx (q.1 + 1)))
      -- LIMIT is written whatever was read
      have hj201 : q.1 + 1 + nd tx (q.1 + 1) ≤ 201 := by
        by_cases h0 : nd tx (q.1 + 1) = 0
        · omega
        · have := nd_in hn0 h0; omega
      have v4 := v3.nf (iv1 := iv4) (j := q.1 + 1 + nd tx (q.1 + 1)) f4 e4 (by omega) hj201
      have F4 : SF iv av iv4 av2 := (f2.sf.tr SF.at).tr (sf13 f4)
      refine Or.inl ⟨q, rfl, h60, ?_⟩
      by_cases h0 : nd tx (q.1 + 1) = 0
      · obtain ⟨iv5, av5, f5, x5, v5⟩ := gs_emit (D := e) (lv := lv) (o := 16) (a := 4294967295) (by omega) v4 (by omega) (by omega)
        refine m_loop_rest (by omega) (F4.tr f5.sf) hb6 (fun q => absurd h0 q) (fun x hx => go2 x (xb_90_49 x3 (xb_90_55 (fun g => absurd g (by decide)) (fun _ => xb_90_60 x4 ?_))))
        rw [if_pos h0] at hx ⊢
        exact xb_90_64 (show xm e 80 [.ref 27, .int 16, .int (-1)] _ _ from x5) (hx _)
      · obtain ⟨iv5, av5, f5, x5, v5⟩ := gs_emit (D := e) (lv := lv) (o := 16) (a := nv tx (q.1 + 1) (nd tx (q.1 + 1))) (by omega) v4 (by omega) (by omega)
        rw [if_pos (by decide)] at v5
        refine m_loop_rest (by omega) (F4.tr f5.sf) hb6 (fun _ => ?_) (fun x hx => go2 x (xb_90_49 x3 (xb_90_55 (fun g => absurd g (by decide)) (fun _ => xb_90_60 x4 ?_))))
        · obtain ⟨g1, g2, g3, g4, g5, g6, g7, g8⟩ := v5
          obtain ⟨k1, k2, k3, k4, k5, k6, k7, k8⟩ := v3
          simp only [List.length_append, List.length_cons, List.length_nil] at g6 g7 k6 k7
          exact ⟨g1, g2, g3, g4, g5, by simp only [List.length_append, List.length_cons, List.length_nil]; omega, by simp only [List.length_append, List.length_cons, List.length_nil]; omega, by omega⟩
        · rw [if_neg h0] at hx ⊢
          exact xb_90_64 x5 (hx _)
end MBK
