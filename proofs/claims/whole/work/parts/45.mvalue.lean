/-! The reference: value whole, digits, a state between statements. -/
/-- blocks that stand around (the innermost first): what, where to patch -/
def BKS (g h : Nat → Int32) : List (Nat × Nat) → Prop
  | [] => True
  | q :: r => g r.length = nI q.1 ∧ h r.length = nI q.2 ∧ BKS g h r
theorem bks_upd {g h : Nat → Int32} {k : Nat} {v w : Int32} : ∀ {r : List (Nat × Nat)}, BKS g h r → r.length ≤ k → BKS (upd g k v) (upd h k w) r
  | [], _, _ => trivial
  | q :: r, hb, hk => by
    simp only [List.length_cons] at hk
    exact ⟨by rw [upd_ne' (by omega)]; exact hb.1, by rw [upd_ne' (by omega)]; exact hb.2.1, bks_upd hb.2.2 (by omega)⟩
def GS (n : Nat) (tx : Nat → Nat) (iv : Nat → Int32) (av : Nat → Nat → Int32) (i : Nat) (K Mk : List In) (bs : List (Nat × Nat)) (sl : Nat) : Prop := MT iv av n tx ∧ (iv 13 = nI i ∧ i ≤ 201) ∧ EC iv av K ∧ EN iv av Mk ∧ (iv 18 = nI bs.length ∧ bs.length ≤ 6 ∧ BKS (av 41) (av 42) bs) ∧ K.length ≤ 2 * i + sl ∧ Mk.length ≤ 3 * i + sl ∧ sl ≤ 3
def SF (iv : Nat → Int32) (av : Nat → Nat → Int32) (iv' : Nat → Int32) (av' : Nat → Nat → Int32) : Prop := (∀ q, q < 13 ∨ 18 < q → iv' q = iv q) ∧ ∀ q, q < 29 ∨ (32 < q ∧ q < 39) ∨ 42 < q → av' q = av q
theorem SF.rf {iv : Nat → Int32} {av : Nat → Nat → Int32} : SF iv av iv av := ⟨fun _ _ => rfl, fun _ _ => rfl⟩
theorem SF.tr {iv iv1 iv2 : Nat → Int32} {av av1 av2 : Nat → Nat → Int32} (h : SF iv av iv1 av1) (g : SF iv1 av1 iv2 av2) : SF iv av iv2 av2 := ⟨fun q a => (g.1 q a).trans (h.1 q a), fun q a => (g.2 q a).trans (h.2 q a)⟩
theorem VF.sf {iv iv1 : Nat → Int32} {av av1 : Nat → Nat → Int32} (h : VF iv av iv1 av1) : SF iv av iv1 av1 := ⟨fun q a => h.1 q (by omega), fun q a => h.2 q (by omega) (by omega) (by omega)⟩
theorem NF.sf {iv iv1 : Nat → Int32} {av av1 : Nat → Nat → Int32} (h : NF iv av iv1 av1) : SF iv av iv1 av1 := h.vf.sf
theorem SF.at {iv : Nat → Int32} {av : Nat → Nat → Int32} {y : Int32} : SF iv av (upd iv 13 y) av := ⟨fun q a => upd_ne' (by omega), fun _ _ => rfl⟩
/-- what was written stays within its rows, with some more to come -/
def GB (iv : Nat → Int32) (av : Nat → Nat → Int32) : Prop := ∃ K Mk, EC iv av K ∧ EN iv av Mk ∧ K.length ≤ 420 ∧ Mk.length ≤ 820
def VB2 (iv : Nat → Int32) (av : Nat → Nat → Int32) : Prop := ∃ K Mk, EC iv av K ∧ EN iv av Mk ∧ K.length ≤ 421 ∧ Mk.length ≤ 821
section MVL
variable {D : Nat} {iv : Nat → Int32} {av : Nat → Nat → Int32} {lv : Nat → Nat → Int64} {n i : Nat} {tx : Nat → Nat} {K Mk : List In} {bs : List (Nat × Nat)} {sl : Nat}
theorem GS.at {j : Nat} (h : GS n tx iv av i K Mk bs sl) (hj : i ≤ j) (hj2 : j ≤ 201) : GS n tx (upd iv 13 (nI j)) av j K Mk bs sl := by
  obtain ⟨h1, h2, h3, h4, h5, h6, h7, h8⟩ := h
  exact ⟨h1.to rfl rfl, ⟨upd_eq', hj2⟩, h3, h4, h5, by omega, by omega, h8⟩
theorem GS.at0 {j : Nat} (h : GS n tx iv av i K Mk bs sl) (hj : i + 1 ≤ j) (hj2 : j ≤ 201) (hs : sl ≤ 2) : GS n tx (upd iv 13 (nI j)) av j K Mk bs 0 := by
  obtain ⟨h1, h2, h3, h4, h5, h6, h7, h8⟩ := h
  exact ⟨h1.to rfl rfl, ⟨upd_eq', hj2⟩, h3, h4, h5, by omega, by omega, by omega⟩
theorem GS.up {s2 : Nat} (h : GS n tx iv av i K Mk bs sl) (hs : sl ≤ s2) (hs2 : s2 ≤ 3) : GS n tx iv av i K Mk bs s2 := by
  obtain ⟨h1, h2, h3, h4, h5, h6, h7, h8⟩ := h
  exact ⟨h1, h2, h3, h4, h5, by omega, by omega, hs2⟩
theorem gs_note {o a : Nat} (hD : 1 ≤ D) (h : GS n tx iv av i K Mk bs sl) (hs : sl < 3) : ∃ iv' av', NF iv av iv' av' ∧ xm D 79 [.ref 27, .int (nI o), .int (nI a)] (xs iv av lv) (none, xs iv' av' lv) ∧ GS n tx iv' av' i K (Mk ++ [(o, a)]) bs (sl + 1) := by
  obtain ⟨h1, h2, h3, h4, h5, h6, h7, h8⟩ := h
  obtain ⟨iv', av', f, ⟨e1, e2, e3⟩, x, k2⟩ := m_note (lv := lv) (o := o) (a := a) hD h4 (by omega)
  refine ⟨iv', av', f, x, h1.to (f.1 12 (by decide) (by decide)) (f.2 28 (by decide)), ⟨by rw [f.1 13 (by decide) (by decide)]; exact h2.1, h2.2⟩, ⟨by rw [e1]; exact h3.1, fun j o a hj => by rw [e2, e3]; exact h3.2 j o a hj⟩, k2, ⟨by rw [f.1 18 (by decide) (by decide)]; exact h5.1, h5.2.1, by rw [f.2 41 (by decide), f.2 42 (by decide)]; exact h5.2.2⟩, by omega, ?_, by omega⟩
  rw [List.length_append]; simp only [List.length_cons, List.length_nil]; omega
theorem gs_emit {o a : Nat} (hD : 2 ≤ D) (h : GS n tx iv av i K Mk bs sl) (hs : sl < 3) (ho : o < 100) : ∃ iv' av', NF iv av iv' av' ∧ xm D 80 [.ref 27, .int (nI o), .int (nI a)] (xs iv av lv) (none, xs iv' av' lv) ∧ GS n tx iv' av' i (K ++ [(o, a)]) (if noted o = true then Mk ++ [(o, a)] else Mk) bs (sl + 1) := by
  obtain ⟨h1, h2, h3, h4, h5, h6, h7, h8⟩ := h
  obtain ⟨iv', av', f, x, k1, k2⟩ := m_emit (lv := lv) (o := o) (a := a) hD h3 h4 (by omega) (by omega) ho
  refine ⟨iv', av', f, x, h1.to (f.1 12 (by decide) (by decide)) (f.2 28 (by decide)), ⟨by rw [f.1 13 (by decide) (by decide)]; exact h2.1, h2.2⟩, k1, k2, ⟨by rw [f.1 18 (by decide) (by decide)]; exact h5.1, h5.2.1, by rw [f.2 41 (by decide), f.2 42 (by decide)]; exact h5.2.2⟩, ?_, ?_, by omega⟩
  · rw [List.length_append]; simp only [List.length_cons, List.length_nil]; omega
  · split
    · rw [List.length_append]; simp only [List.length_cons, List.length_nil]; omega
    · omega
theorem gb_emit {o a : Nat} (hD : 2 ≤ D) (h : GB iv av) (ho : o < 100) : ∃ iv' av', NF iv av iv' av' ∧ xm D 80 [.ref 27, .int (nI o), .int (nI a)] (xs iv av lv) (none, xs iv' av' lv) ∧ VB2 iv' av' := by
  obtain ⟨K, Mk, h1, h2, h3, h4⟩ := h
  obtain ⟨iv', av', f, x, k1, k2⟩ := m_emit (lv := lv) (o := o) (a := a) hD h1 h2 (by omega) (by omega) ho
  refine ⟨iv', av', f, x, _, _, k1, k2, ?_, ?_⟩
  · rw [List.length_append]; simp only [List.length_cons, List.length_nil]; omega
  · split
    · rw [List.length_append]; simp only [List.length_cons, List.length_nil]; omega
    · omega
theorem gb_note {o a : Nat} (hD : 1 ≤ D) (h : VB2 iv av) : ∃ iv' av', NF iv av iv' av' ∧ xm D 79 [.ref 27, .int (nI o), .int (nI a)] (xs iv av lv) (none, xs iv' av' lv) := by
  obtain ⟨K, Mk, h1, h2, h3, h4⟩ := h
  obtain ⟨iv', av', f, -, x, k2⟩ := m_note (lv := lv) (o := o) (a := a) hD h2 (by omega)
  exact ⟨iv', av', f, x⟩
theorem GS.gb (h : GS n tx iv av i K Mk bs sl) : GB iv av := by
  obtain ⟨h1, h2, h3, h4, h5, h6, h7, h8⟩ := h
  exact ⟨K, Mk, h3, h4, by omega, by omega⟩
theorem m_value {dB r : Nat} {sm : Bool} (hD : 4 ≤ D) (h : GS n tx iv av i K Mk bs sl) (hi : 1 ≤ i) (hin : i ≤ 200) (hr : dB + r = 6) :
    match (if sm = true then pSum tx (pu tx r) i else pVal tx (pu tx r) i) with
    | some q => ∃ iv' av', VF iv av iv' av' ∧ xm D 87 [.ref 27, .int (nI dB), .int (if sm = true then 1 else 0)] (xs iv av lv) (some (.int 1), xs iv' av' lv) ∧ GS n tx iv' av' q.1 (K ++ q.2) (Mk ++ q.2) bs sl
    | none => ∃ iv' av', VF iv av iv' av' ∧ xm D 87 [.ref 27, .int (nI dB), .int (if sm = true then 1 else 0)] (xs iv av lv) (some (.int 0), xs iv' av' lv) ∧ GB iv' av' := by
  obtain ⟨e, rfl⟩ : ∃ e, D = e + 1 := ⟨D - 1, by omega⟩
  have hn0 : ∀ i, tx i ≠ 0 → i < n := fun _ q => h.1.lt q
  have hbU := pb_pu (n := n) hn0 r
  obtain ⟨h1, h2, h3, h4, h5, h6, h7, h8⟩ := h
  have hn := h1.2.1
  generalize hv : (if sm = true then (1 : Int32) else 0) = b
  generalize hiv : upd (upd iv 16 0) 17 0 = iv1
  generalize hav : va_up av 40 (upd (av 40) 0 b) = av1
  have f1 : VF iv av iv1 av1 := by
    rw [← hiv, ← hav]
    exact ⟨fun q a => by rw [upd_ne' (by omega), upd_ne' (by omega)], fun q _ _ c => va_up_ne' c⟩
  have v1 : VS n tx iv1 av1 i K Mk [] (fun _ => sm) := by
    rw [← hiv, ← hav]
    refine ⟨h1.to rfl rfl, ⟨h2.1, hin⟩, h3, h4, ⟨rfl, trivial⟩, ⟨rfl, fun q hq => ?_⟩, hi, by simp only [List.length_nil]; omega, by simp only [List.length_nil]; omega⟩
    have : q = 0 := by have : brs [] = 0 := rfl; omega
    subst this
    show upd (av 40) 0 b 0 = _
    rw [upd_eq', ← hv]
  have hb01 : vp_nar .boolean b = b := by rw [← hv]; split <;> rfl
  have go : ∀ x, HD e dB lv iv1 av1 1 0 x → xm (e + 1) 87 [.ref 27, .int (nI dB), .int b] (xs iv av lv) x := fun x hx => by
    refine xm_of (nL := 8) rfl rfl (xb_87_0 ?_)
    rw [hb01]
    show xe e xt_87 17 _ [] (xs (upd (upd iv 16 0) 17 0) (va_up av 40 (upd (av 40) 0 b)) lv) x
    rw [hiv, hav]
    exact xb_87_17 (hx _ _ _ _)
  -- what comes of it, with all that is still on the stack
  have oc : OC e dB lv iv1 av1 1 0 (if sm = true then pSum tx (pu tx r) i else pVal tx (pu tx r) i) (fun iv' av' j c => ∃ cf' P c', (∀ x ∈ P, 1 ≤ st x) ∧ c = c' ++ em P ∧ VS n tx iv' av' j (K ++ c') (Mk ++ c') (P ++ []) cf' ∧ (st (tx j) = 0 ∨ (st (tx j) = 1 ∧ cf' 0 = true))) := by
    cases sm with
    | true =>
      rw [if_pos rfl]
      refine oc_imp (sl_sum (r := r) (by omega) hbU (ul_all (by omega) hn0 r) (pb_prod hbU) v1 (Nat.zero_le _) (fun c s q => by cases q) (by show dB + 0 + r = 6; omega)) (fun iv' av' q _ hQ => ?_)
      obtain ⟨cf', P, c', q1, q2, q3, q4, q5⟩ := hQ
      refine ⟨cf', P, c', fun x hx => by have := q2 x hx; omega, q3, q4, ?_⟩
      have : st (tx q.1) = 0 ∨ st (tx q.1) = 1 := by omega
      exact this.imp id (fun g => ⟨g, q1 0 (Nat.zero_le _)⟩)
    | false =>
      rw [if_neg (by decide)]
      refine oc_imp (vl_val (r := r) (by omega) hbU (ul_all (by omega) hn0 r) (pb_prod hbU) v1 (Nat.zero_le _) (fun c s q => by cases q) (by show dB + 0 + r = 6; omega) rfl) (fun iv' av' q _ hQ => ?_)
      obtain ⟨cf', P, c', q1, q2, q3, q4, q5⟩ := hQ
      exact ⟨cf', P, c', q2, q3, q4, q5⟩
  have hPB : ∀ q, (if sm = true then pSum tx (pu tx r) i else pVal tx (pu tx r) i) = some q → i + q.2.length ≤ q.1 ∧ q.1 ≤ n := fun q hq => by
    cases sm with
    | true =>
      rw [if_pos rfl] at hq
      have := pb_sum hbU i q.1 q.2 (by rw [hq])
      exact ⟨this.1, this.2.2.1⟩
    | false =>
      rw [if_neg (by decide)] at hq
      have := pb_val hbU i q.1 q.2 (by rw [hq])
      exact ⟨this.1, this.2.2.1⟩
  cases hres : (if sm = true then pSum tx (pu tx r) i else pVal tx (pu tx r) i) with
  | none =>
    rw [hres] at oc
    obtain ⟨iv', av', g1, ⟨K', Mk', b1, b2, b3, b4⟩, g3⟩ := oc
    exact ⟨iv', av', f1.tr g1, go _ g3, ⟨K', Mk', b1, b2, by omega, by omega⟩⟩
  | some q =>
    rw [hres] at oc
    obtain ⟨iv2, av2, m2, g1, ⟨cf', P, c', p1, p2, p3, p4⟩, g3, g4⟩ := oc
    obtain ⟨k1, k2⟩ := hPB q hres
    have hb0 : brs (P ++ []) = 0 := by rw [brs_P p1]; rfl
    obtain ⟨iv3, av3, f3, v3, x3⟩ := hd_end (dB := dB) (lv := lv) (m := m2) (e := e) (X := []) (by omega) (by omega) p3 (p4.imp id (fun g => ⟨g.1, by rw [hb0]; exact g.2, by rw [hb0]; decide⟩)) (fun g => by rw [hb0] at g; omega) p1 (fun c s q => by cases q)
    rw [if_pos ⟨rfl, rfl⟩] at x3
    have F := (f1.tr g1).tr f3
    refine ⟨iv3, av3, F, go _ (g4 _ x3), ?_⟩
    have e1 : ∀ L : List In, L ++ c' ++ em P = L ++ q.2 := fun L => by rw [p2, List.append_assoc]
    rw [e1, e1] at v3
    refine ⟨v3.1, ⟨v3.2.1.1, by omega⟩, v3.2.2.1, v3.2.2.2.1, ⟨by rw [F.1 18 (by decide)]; exact h5.1, h5.2.1, by rw [F.2 41 (by decide) (by decide) (by decide), F.2 42 (by decide) (by decide) (by decide)]; exact h5.2.2⟩, ?_, ?_, ?_⟩
    · rw [List.length_append]; omega
    · rw [List.length_append]; omega
    · exact h8
/-- digits() -/
theorem m_digits (hD : 2 ≤ D) (hT : MT iv av n tx) (h13 : iv 13 = nI i) (hi : i ≤ 201) : ∃ iv', (∀ q, q ≠ 13 → iv' q = iv q) ∧ iv' 13 = nI (i + nd tx i) ∧ xm D 89 [.ref 27] (xs iv av lv) (some (.int (if nd tx i = 0 then -1 else nI (nv tx i (nd tx i)))), xs iv' av lv) := by
  obtain ⟨d, rfl⟩ : ∃ d, D = d + 1 := ⟨D - 1, by omega⟩
  have hd : 1 ≤ d := by omega
  have h3 := nd_le tx i
  have loop : ∀ (m j : Nat) iv, m + j = nd tx i → MT iv av n tx → iv 13 = nI (i + j) → ∃ iv', (∀ q, q ≠ 13 → iv' q = iv q) ∧ iv' 13 = nI (i + nd tx i) ∧ ∀ x, xe d xt_89 48 [some (.ref 27), some (.int (nI (nd tx i))), some (.int (nI (nv tx i (nd tx i))))] [] (xs iv' av lv) x → xe d xt_89 4 [some (.ref 27), some (.int (nI j)), some (.int (nI (nv tx i j)))] [] (xs iv av lv) x := by
    intro m
    induction m with
    | zero =>
      intro j iv hm hT h13
      have hj : j = nd tx i := by omega
      subst hj
      refine ⟨iv, fun _ _ => rfl, h13, fun x hx => ?_⟩
      by_cases hlt : nd tx i < 3
      · have hle := hT.le (i + nd tx i)
        refine xb_89_4 (fun _ => xb_89_9 (m_look hd hT h13 (by omega)) (xb_89_13 (m_isDigit hd (by omega)) ?_)) (fun g => absurd (show nI _ < nI 3 from nI_lt hlt (by omega)) g)
        rw [if_neg (by rw [nd_end hlt]; decide)]
        exact xb_89_16 (fun _ => hx) (fun g => absurd rfl g)
      · exact xb_89_4 (fun g => absurd ((nI_ltI (b := 3) (by omega) (by omega)).mp g) hlt) (fun _ => hx)
    | succ m ih =>
      intro j iv hm hT h13
      have hdg := nd_dg (tx := tx) (i := i) (q := j) (by omega)
      have hr := dg_iff.mp hdg
      obtain ⟨iv', f, e, g⟩ := ih (j + 1) (upd iv 13 (nI (i + (j + 1)))) (by omega) (hT.to rfl rfl) upd_eq'
      refine ⟨iv', fun q hq => (f q hq).trans (upd_ne' hq), e, fun x hx => ?_⟩
      have hl := m_look (lv := lv) hd hT h13 (by omega)
      refine xb_89_4 (fun _ => xb_89_9 hl (xb_89_13 (m_isDigit hd (by omega)) ?_)) (fun q => absurd (show nI _ < nI 3 from nI_lt (by omega) (by omega)) q)
      rw [if_pos hdg]
      refine xb_89_16 (fun q => absurd q (by decide)) (fun _ => xb_89_19 hl (xb_89_27 ?_))
      rw [dig_ar hr.1, nI_1, h13, nI_1]
      exact g x hx
  obtain ⟨iv', f, e, g⟩ := loop (nd tx i) 0 iv rfl hT h13
  refine ⟨iv', f, e, xm_of (nL := 3) rfl rfl (xb_89_0 (g _ ?_))⟩
  refine xb_89_48 (fun q => ?_) (fun q => ?_)
  · rw [if_pos ((nI_eq (b := 0) (by omega) (by omega)).mp q)]
    exact xb_89_52 xb_89_57
  · rw [if_neg (fun w => q (by rw [w]; rfl))]
    exact xb_89_56 xb_89_57
/-- a block is begun -/
theorem m_open1 {w p : Nat} (hD : 3 ≤ D) (h : GS n tx iv av i K Mk bs sl) (e : tx i = 123) (hb : bs.length < 6) (hsl : sl ≤ 2) : ∃ iv' av', SF iv av iv' av' ∧ xm D 88 [.ref 27, .int (nI w), .int (nI p)] (xs iv av lv) (some (.int 1), xs iv' av' lv) ∧ GS n tx iv' av' (i + 1) K Mk ((w, p) :: bs) 0 := by
  obtain ⟨d, rfl⟩ : ∃ d, D = d + 1 := ⟨D - 1, by omega⟩
  have hi : i < n := h.1.lt (by omega)
  have hn := h.1.2.1
  have hg := h.at0 (j := i + 1) (by omega) (by omega) hsl
  have h18 : upd iv 13 (nI (i + 1)) 18 = nI bs.length := h.2.2.2.2.1.1
  refine ⟨upd (upd iv 13 (nI (i + 1))) 18 (nI (bs.length + 1)), va_up (va_up av 41 (upd (av 41) bs.length (nI w))) 42 (upd (av 42) bs.length (nI p)), ⟨fun q a => by rw [upd_ne' (by omega), upd_ne' (by omega)], fun q a => by rw [va_up_ne' (by omega), va_up_ne' (by omega)]⟩, ?_, ?_⟩
  · refine xm_of (nL := 3) rfl rfl (xb_88_0 (m_eat1 (c := 123) (by omega) h.1 h.2.1.1 (by omega) e) (xb_88_6 (fun g => absurd g (by decide)) (fun _ => xb_88_9 (fun g => ?_) (fun _ => xb_88_20 (by rw [h18]; exact nI_bd (by omega) (by omega)) ?_))))
    · rw [h18] at g
      have := (nI_eq (b := 6) (by omega) (by omega)).mp g
      omega
    · rw [h18, nI_clamp (by omega)]
      refine xb_88_30 (by rw [h18]; exact nI_bd (by omega) (by omega)) ?_
      rw [h18, nI_clamp (by omega)]
      have := @xb_88_40 d (upd iv 13 (nI (i + 1))) (va_up (va_up av 41 (upd (av 41) bs.length (nI w))) 42 (upd (av 42) bs.length (nI p))) lv (nI w) (nI p)
      rw [h18, nI_1] at this
      exact this
  · obtain ⟨h1, h2, h3, h4, h5, h6, h7, h8⟩ := hg
    refine ⟨h1.to rfl rfl, ⟨rfl, h2.2⟩, h3, h4, ⟨rfl, by rw [List.length_cons]; omega, ?_, ?_, bks_upd h5.2.2 (Nat.le_refl _)⟩, h6, h7, h8⟩
    · exact upd_eq'
    · exact upd_eq'
theorem m_open0 {w p : Nat} (hD : 3 ≤ D) (h : GS n tx iv av i K Mk bs sl) (e : tx i ≠ 123 ∨ bs.length = 6) : ∃ iv', (∀ q, q ≠ 13 → iv' q = iv q) ∧ xm D 88 [.ref 27, .int (nI w), .int (nI p)] (xs iv av lv) (some (.int 0), xs iv' av lv) := by
  obtain ⟨d, rfl⟩ : ∃ d, D = d + 1 := ⟨D - 1, by omega⟩
  have hi2 := h.2.1.2
  by_cases hc : tx i = 123
  · have h18 : upd iv 13 (nI (i + 1)) 18 = nI bs.length := h.2.2.2.2.1.1
    refine ⟨_, fun q hq => upd_ne' hq, xm_of (nL := 3) rfl rfl (xb_88_0 (m_eat1 (c := 123) (by omega) h.1 h.2.1.1 (by omega) hc) (xb_88_6 (fun g => absurd g (by decide)) (fun _ => xb_88_9 (fun g => xb_88_18) (fun g => absurd ?_ g))))⟩
    rw [h18, e.resolve_left (fun q => q hc)]
    rfl
  · exact ⟨iv, fun _ _ => rfl, xm_of (nL := 3) rfl rfl (xb_88_0 (m_eat0 (c := 123) (by omega) h.1 h.2.1.1 (by omega) (by omega) hc) (xb_88_6 (fun _ => xb_88_18) (fun g => absurd rfl g)))⟩
end MVL
