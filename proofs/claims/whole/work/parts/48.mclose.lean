/-! The reference: close, and the loop of reads. -/
theorem set_mid {α : Type} (A B : List α) (x y : α) : (A ++ x :: B).set A.length y = A ++ y :: B := by
  induction A with
  | nil => rfl
  | cons a A ih => show a :: (A ++ x :: B).set A.length y = _; rw [ih]; rfl
theorem get_mid {α : Type} (A B : List α) (x : α) : (A ++ x :: B)[A.length]? = some x := by
  rw [List.getElem?_append_right (Nat.le_refl _), Nat.sub_self]
  rfl
theorem ec_patch {iv : Nat → Int32} {av : Nat → Nat → Int32} {K : List In} {p o a v : Nat} (h : EC iv av K) (hp : K[p]? = some (o, a)) : EC iv (va_up av 30 (upd (av 30) p (nI v))) (K.set p (o, v)) := by
  refine ⟨by rw [List.length_set]; exact h.1, fun j o' a' hj => ?_⟩
  show av 29 j = _ ∧ upd (av 30) p (nI v) j = _
  rw [List.getElem?_set] at hj
  by_cases hjp : p = j
  · subst hjp
    have hl := (List.getElem?_eq_some_iff.mp hp).1
    rw [if_pos rfl, if_pos hl] at hj
    cases hj
    rw [upd_eq']
    exact ⟨(h.2 p o a hp).1, rfl⟩
  · rw [if_neg hjp] at hj
    rw [upd_ne' (fun q => hjp q.symm)]
    exact h.2 j o' a' hj
section MCL
variable {e : Nat} {iv : Nat → Int32} {av : Nat → Nat → Int32} {lv : Nat → Nat → Int64} {n j p w : Nat} {tx : Nat → Nat} {K Mk : List In} {bs : List (Nat × Nat)} {sl : Nat}
theorem gs_patch {o a v : Nat} (h : GS n tx iv av j K Mk bs sl) (hp : K[p]? = some (o, a)) : GS n tx iv (va_up av 30 (upd (av 30) p (nI v))) j (K.set p (o, v)) Mk bs sl := by
  obtain ⟨h1, h2, h3, h4, h5, h6, h7, h8⟩ := h
  exact ⟨h1.to rfl rfl, h2, ec_patch h3 hp, h4, h5, by rw [List.length_set]; exact h6, h7, h8⟩
theorem sf_patch {g : Nat → Int32} : SF iv av iv (va_up av 30 g) := ⟨fun _ _ => rfl, fun q a => va_up_ne' (by omega)⟩
theorem cl_pre (h : GS n tx iv av j K Mk ((w, p) :: bs) sl) : SF iv av (upd iv 18 (nI bs.length)) av ∧ GS n tx (upd iv 18 (nI bs.length)) av j K Mk bs sl ∧ ∀ x, xe e xt_92 29 [some (.ref 27), some (.int (nI w)), none] [.int (nI p)] (xs (upd iv 18 (nI bs.length)) av lv) x → xm (e + 1) 92 [.ref 27] (xs iv av lv) x := by
  obtain ⟨h1, h2, h3, h4, h5, h6, h7, h8⟩ := h
  have h18 : iv 18 = nI (bs.length + 1) := h5.1
  have hb : bs.length + 1 ≤ 6 := h5.2.1
  refine ⟨⟨fun q a => upd_ne' (by omega), fun _ _ => rfl⟩, ⟨h1.to rfl rfl, h2, h3, h4, ⟨upd_eq', by omega, h5.2.2.2.2⟩, h6, h7, h8⟩, fun x hx => ?_⟩
  refine xm_of (nL := 3) rfl rfl (xb_92_0 (by rw [h18, nI_pred]; exact nI_bd (by omega) (by omega)) ?_)
  rw [h18, nI_pred, nI_clamp (by omega), h5.2.2.1]
  have e18 : upd iv 18 (nI bs.length) 18 = nI bs.length := upd_eq'
  refine xb_92_19 (by rw [e18]; exact nI_bd (by omega) (by omega)) ?_
  rw [e18, nI_clamp (by omega), h5.2.2.2.1]
  exact hx
theorem GS.down (h : GS n tx iv av j K Mk bs sl) (hk : K.length ≤ 2 * j) (hm : Mk.length ≤ 3 * j) : GS n tx iv av j K Mk bs 0 := by
  obtain ⟨h1, h2, h3, h4, h5, h6, h7, h8⟩ := h
  exact ⟨h1, h2, h3, h4, h5, by omega, by omega, by omega⟩
theorem GS.k500 (h : GS n tx iv av j K Mk bs sl) {q : Nat} (hq : q < K.length) : 0 ≤ (nI q).toInt ∧ (nI q).toInt < ((500 : Nat) : Int) := by
  obtain ⟨h1, h2, h3, h4, h5, h6, h7, h8⟩ := h
  exact nI_bd (by omega) (by omega)
/-- a choice without another block, or its second block: w is 6 or 7 -/
theorem m_close67 {o a : Nat} (he : 4 ≤ e) (h : GS n tx iv av j K Mk ((w, p) :: bs) 0) (hw : (w = 6 ∧ tx j ≠ 123) ∨ w = 7) (hp : K[p]? = some (o, a)) (hk : K.length ≤ 2 * j) (hm : Mk.length + 1 ≤ 3 * j) :
    ∃ iv' av', SF iv av iv' av' ∧ xm (e + 1) 92 [.ref 27] (xs iv av lv) (some (.int 1), xs iv' av' lv) ∧ GS n tx iv' av' j (K.set p (o, K.length)) (Mk ++ [(32, 0)]) bs 0 := by
  obtain ⟨F1, v1, x1⟩ := cl_pre (e := e) (lv := lv) h
  have hpl := (List.getElem?_eq_some_iff.mp hp).1
  have h14 : upd iv 18 (nI bs.length) 14 = nI K.length := v1.2.2.1.1
  have v2 := gs_patch (v := K.length) v1 hp
  obtain ⟨iv3, av3, f3, x3, v3⟩ := gs_note (D := e) (lv := lv) (o := 32) (a := 0) (by omega) v2 (by omega)
  have hle := h.1.le j
  have hb := v1.k500 hpl
  have ep : (nI p).toNatClampNeg = p := nI_clamp (by have := v1.2.2.2.2.2.1; have := v1.2.1.2; omega)
  have end1 : ∀ o2, xe e xt_92 117 [some (.ref 27), some (.int (nI w)), o2] [] (xs (upd iv 18 (nI bs.length)) (va_up av 30 (upd (av 30) p (nI K.length))) lv) (some (.int 1), xs iv3 av3 lv) := fun o2 => by
    have h6 : ¬ nI w < 6 := fun g => by
      have := (nI_ltI (a := w) (b := 6) (by omega) (by omega)).mp g
      omega
    have last : ∀ o2, xe e xt_92 129 [some (.ref 27), some (.int (nI w)), o2] [] (xs (upd iv 18 (nI bs.length)) (va_up av 30 (upd (av 30) p (nI K.length))) lv) (some (.int 1), xs iv3 av3 lv) := fun o2 => xb_92_129 x3 (xb_92_136 (fun g => absurd g h6) (fun _ => xb_92_185))
    refine xb_92_117 (fun _ => last _) (fun g1 => xb_92_123 (fun _ => last _) (fun g2 => ?_))
    rcases hw with ⟨q, -⟩ | q
    · exact absurd (by rw [q]; rfl) g1
    · exact absurd (by rw [q]; rfl) g2
  have mid : xe e xt_92 82 [some (.ref 27), some (.int (nI w)), some (.int (nI p))] [] (xs (upd iv 18 (nI bs.length)) av lv) (some (.int 1), xs iv3 av3 lv) := by
    refine xb_92_82 (fun g => ?_) (fun _ => xb_92_102 (fun _ => xb_92_107 hb ?_) (fun g => ?_))
    · have := (nI_eq (a := w) (b := 8) (by omega) (by omega)).mp g
      omega
    · rw [ep, h14]
      exact end1 _
    · exact absurd (show nI 5 < nI w from nI_lt (by omega) (by omega)) g
  refine ⟨iv3, av3, F1.tr (sf_patch.tr f3.sf), x1 _ (xb_92_29 (fun g => xb_92_36 (v1.lk (by omega)) (xb_92_40 (fun g2 => ?_) (fun _ => mid))) (fun _ => mid)), v3.down (by rw [List.length_set]; exact hk) (by rw [List.length_append]; simp only [List.length_cons, List.length_nil]; omega)⟩
  have a1 := (nI_eq (a := w) (b := 6) (by omega) (by omega)).mp g
  have a2 := (nI_eq (b := 123) (by omega) (by omega)).mp g2
  exact absurd a2 (by omega)
/-- the first block of a choice with two -/
theorem m_close_else {o a : Nat} (he : 4 ≤ e) (h : GS n tx iv av j K Mk ((6, p) :: bs) 0) (hc : tx j = 123) (hp : K[p]? = some (o, a)) :
    ∃ iv' av', SF iv av iv' av' ∧ xm (e + 1) 92 [.ref 27] (xs iv av lv) (some (.int 1), xs iv' av' lv) ∧ GS n tx iv' av' (j + 1) ((K ++ [(14, 0)]).set p (o, K.length + 1)) (Mk ++ [(31, 0)]) ((7, K.length) :: bs) 0 := by
  obtain ⟨F1, v1, x1⟩ := cl_pre (e := e) (lv := lv) h
  have hpl := (List.getElem?_eq_some_iff.mp hp).1
  obtain ⟨iv2, av2, f2, x2, v2⟩ := gs_emit (D := e) (lv := lv) (o := 14) (a := 0) (by omega) v1 (by omega) (by omega)
  rw [if_neg (by decide)] at v2
  have h14 : iv2 14 = nI (K.length + 1) := by rw [v2.2.2.1.1, List.length_append]; rfl
  have v3 := gs_patch (p := p) (o := o) (a := a) (v := K.length + 1) v2 (by rw [List.getElem?_append_left hpl]; exact hp)
  obtain ⟨iv4, av4, f4, x4, v4⟩ := gs_note (D := e) (lv := lv) (o := 31) (a := 0) (by omega) v3 (by omega)
  have hb := h.2.2.2.2.1.2.1
  have hb2 : bs.length < 6 := by rw [List.length_cons] at hb; omega
  obtain ⟨iv5, av5, f5, x5, v5⟩ := m_open1 (D := e) (lv := lv) (w := 7) (p := K.length) (by omega) v4 hc hb2 (by omega)
  have e14 : iv4 14 - 1 = nI K.length := by
    rw [v4.2.2.1.1, List.length_set, List.length_append]
    exact nI_pred _
  have hbd := v2.k500 (q := p) (by rw [List.length_append]; omega)
  refine ⟨iv5, av5, F1.tr (f2.sf.tr (sf_patch.tr (f4.sf.tr f5))), x1 _ (xb_92_29 (fun _ => xb_92_36 (v1.lk (by omega)) ?_) (fun g => absurd rfl g)), v5⟩
  rw [hc]
  refine xb_92_40 (fun _ => xb_92_45 x2 (xb_92_52 hbd ?_)) (fun g => absurd rfl g)
  rw [nI_clamp (by have := v1.2.2.2.2.2.1; have := v1.2.1.2; omega), h14]
  exact xb_92_62 x4 (xb_92_69 (by rw [e14]; exact x5) (xb_92_81 (Or.inr rfl)))
theorem m_close8 {o a : Nat} (he : 4 ≤ e) (h : GS n tx iv av j K Mk ((8, p) :: bs) 0) (hp : K[p]? = some (o, a)) (hk : K.length + 1 ≤ 2 * j) (hm : Mk.length + 1 ≤ 3 * j) :
    ∃ iv' av', SF iv av iv' av' ∧ xm (e + 1) 92 [.ref 27] (xs iv av lv) (some (.int 1), xs iv' av' lv) ∧ GS n tx iv' av' j ((K ++ [(14, p)]).set p (o, K.length + 1)) (Mk ++ [(34, 0)]) bs 0 := by
  obtain ⟨F1, v1, x1⟩ := cl_pre (e := e) (lv := lv) h
  have hpl := (List.getElem?_eq_some_iff.mp hp).1
  obtain ⟨iv2, av2, f2, x2, v2⟩ := gs_emit (D := e) (lv := lv) (o := 14) (a := p) (by omega) v1 (by omega) (by omega)
  rw [if_neg (by decide)] at v2
  obtain ⟨iv4, av4, f4, x4, v4⟩ := gs_note (D := e) (lv := lv) (o := 34) (a := 0) (by omega) v2 (by omega)
  have h14 : iv4 14 = nI (K.length + 1) := by rw [v4.2.2.1.1, List.length_append]; rfl
  have v5 := gs_patch (p := p) (o := o) (a := a) (v := K.length + 1) v4 (by rw [List.getElem?_append_left hpl]; exact hp)
  have hbd := v2.k500 (q := p) (by rw [List.length_append]; omega)
  refine ⟨iv4, _, F1.tr (f2.sf.tr (f4.sf.tr sf_patch)), x1 _ (xb_92_29 (fun g => absurd g (by decide)) (fun _ => xb_92_82 (fun _ => xb_92_88 x2 (xb_92_95 x4 (xb_92_102 (fun _ => xb_92_107 hbd ?_) (fun g => absurd (by decide) g)))) (fun g => absurd rfl g))), v5.down (by rw [List.length_set, List.length_append]; exact hk) (by rw [List.length_append]; exact hm)⟩
  rw [nI_clamp (by have := v1.2.2.2.2.2.1; have := v1.2.1.2; omega), h14]
  exact xb_92_117 (fun g => absurd g (by decide)) (fun _ => xb_92_123 (fun g => absurd g (by decide)) (fun _ => xb_92_136 (fun g => absurd g (by decide)) (fun _ => xb_92_185)))
def RH (e : Nat) (lv : Nat → Nat → Int64) (iv : Nat → Int32) (av : Nat → Nat → Int32) (x : xi_R) : Prop := ∀ o1 o2, xe e xt_94 40 [some (.ref 27), o1, o2] [] (xs iv av lv) x
theorem rh_pre {x : xi_R} (h : GS n tx iv av j K Mk bs sl) (hb : 1 ≤ bs.length) (hx : ∀ o1 o2, xe e xt_94 70 [some (.ref 27), o1, o2] [] (xs iv av lv) x) : RH e lv iv av x := fun o1 o2 => by
  have h18 := h.2.2.2.2.1.1
  have hb6 := h.2.2.2.2.1.2.1
  have h0 : ¬ iv 18 = 0 := by rw [h18]; exact nI_ne0 (by omega) (by omega)
  have h1 : 0 < iv 18 := by rw [h18]; exact show nI 0 < _ from nI_lt (by omega) (by omega)
  exact xb_94_40 (xb_94_46 (fun _ => xb_94_56 (fun g => absurd g h0) (fun _ => hx _ _)) (fun _ => xb_94_49 (fun _ => xb_94_56 (fun g => absurd g h0) (fun _ => hx _ _)) (fun g => absurd h1 g)))
theorem rh_close (he : 2 ≤ e) (h : GS n tx iv av j K Mk bs 0) (hb : 1 ≤ bs.length) (hc : tx j = 125) : SF iv av (upd iv 13 (nI (j + 1))) av ∧ GS n tx (upd iv 13 (nI (j + 1))) av (j + 1) K Mk bs 0 ∧ (∀ iv' av' x, xm e 92 [.ref 27] (xs (upd iv 13 (nI (j + 1))) av lv) (some (.int 1), xs iv' av' lv) → RH e lv iv' av' x → RH e lv iv av x) ∧ (∀ iv' av', xm e 92 [.ref 27] (xs (upd iv 13 (nI (j + 1))) av lv) (some (.int 0), xs iv' av' lv) → RH e lv iv av (some (.int 0), xs iv' av' lv)) := by
  obtain ⟨x1, v1, -⟩ := h.eat1 (lv := lv) (D := e) he hc (by decide) (by omega)
  refine ⟨SF.at, v1, fun iv' av' x hx hr => rh_pre h hb (fun o1 o2 => xb_94_70 x1 (xb_94_76 (fun g => absurd g (by decide)) (fun _ => xb_94_79 hx (xb_94_83 (xb_94_90 (fun g => absurd g (by decide)) (fun _ => xb_94_97 (hr _ _))))))), fun iv' av' hx => rh_pre h hb (fun o1 o2 => xb_94_70 x1 (xb_94_76 (fun g => absurd g (by decide)) (fun _ => xb_94_79 hx (xb_94_83 (xb_94_90 (fun _ => xb_94_95) (fun g => absurd rfl g))))))⟩
theorem rh_s1 {iv' : Nat → Int32} {av' : Nat → Nat → Int32} {x : xi_R} (he : 2 ≤ e) (h : GS n tx iv av j K Mk bs 0) (hb : 1 ≤ bs.length) (hc : tx j ≠ 125) (hx : xm e 91 [.ref 27] (xs iv av lv) (some (.int 1), xs iv' av' lv)) (hr : RH e lv iv' av' x) : RH e lv iv av x :=
  rh_pre h hb (fun o1 o2 => xb_94_70 (h.eat0 he hc (by decide)) (xb_94_76 (fun _ => xb_94_86 hx (xb_94_90 (fun g => absurd g (by decide)) (fun _ => xb_94_97 (hr _ _)))) (fun g => absurd rfl g)))
theorem rh_s0 {iv' : Nat → Int32} {av' : Nat → Nat → Int32} (he : 2 ≤ e) (h : GS n tx iv av j K Mk bs 0) (hb : 1 ≤ bs.length) (hc : tx j ≠ 125) (hx : xm e 91 [.ref 27] (xs iv av lv) (some (.int 0), xs iv' av' lv)) : RH e lv iv av (some (.int 0), xs iv' av' lv) :=
  rh_pre h hb (fun o1 o2 => xb_94_70 (h.eat0 he hc (by decide)) (xb_94_76 (fun _ => xb_94_86 hx (xb_94_90 (fun _ => xb_94_95) (fun g => absurd rfl g))) (fun g => absurd rfl g)))
end MCL
