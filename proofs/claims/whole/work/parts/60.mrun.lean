/-! The reference's machine. -/
def MM (iv : Nat → Int32) (av : Nat → Nat → Int32) (S : MQt) : Prop := S.1 < 2 ^ 20 ∧ (S.2.1.length ≤ 200 ∧ SK (av 58) S.2.1) ∧ EQn 14 (av 57) S.2.2.1 ∧ EQn 32 (av 59) S.2.2.2.1 ∧ iv 26 = nI S.2.2.2.2 ∧ S.2.2.2.2 < 2 ^ 20
def YF (iv : Nat → Int32) (av : Nat → Nat → Int32) (iv' : Nat → Int32) (av' : Nat → Nat → Int32) : Prop := (∀ q, q < 23 ∨ q = 25 ∨ 26 < q → iv' q = iv q) ∧ ∀ q, q < 57 ∨ 59 < q → av' q = av q
theorem YF.rf {iv : Nat → Int32} {av : Nat → Nat → Int32} : YF iv av iv av := ⟨fun _ _ => rfl, fun _ _ => rfl⟩
theorem YF.tr {iv iv1 iv2 : Nat → Int32} {av av1 av2 : Nat → Nat → Int32} (h : YF iv av iv1 av1) (g : YF iv1 av1 iv2 av2) : YF iv av iv2 av2 := ⟨fun q a => (g.1 q a).trans (h.1 q a), fun q a => (g.2 q a).trans (h.2 q a)⟩
theorem LM.to {av av' : Nat → Nat → Int32} {C : List In} (h : LM av C) (f : ∀ q, q < 57 ∨ 59 < q → av' q = av q) : LM av' C := fun j o a hj => by rw [f 51 (by omega), f 52 (by omega)]; exact h j o a hj
section MMS
variable {D e : Nat} {iv : Nat → Int32} {av : Nat → Nat → Int32} {lv : Nat → Nat → Int64} {k oc cy hi o a y : Nat} {s r : List Int32} {P O : Nat → Int32} {t v : Int32} {S S1 : MQt} {C : List In}
theorem sk_0 {g : Nat → Int32} {s : List Int32} (h : SK g s) (hl : 0 < s.length) : g (s.length - 1) = s.getD 0 0 := by
  have := sk_get h hl
  rw [Nat.sub_zero] at this
  exact this
theorem sk_1 {g : Nat → Int32} {s : List Int32} (h : SK g s) (hl : 1 < s.length) : g (s.length - 2) = s.getD 1 0 := by
  have := sk_get h hl
  rw [show s.length - 1 - 1 = s.length - 2 by omega] at this
  exact this
theorem nI_s1 {n : Nat} (h : 1 ≤ n) : nI n - 1 = nI (n - 1) := pk_sub (b := 1) h
theorem nI_s2 {n : Nat} (h : 2 ≤ n) : nI n - 2 = nI (n - 2) := pk_sub (b := 2) h
theorem getD_none {s : List Int32} {c : Nat} (h : s.length ≤ c) : s.getD c 0 = 0 := by
  rw [List.getD_eq_getElem?_getD, List.getElem?_eq_none h]
  rfl
theorem m_trap (hD : 1 ≤ D) (h : MM iv av S) (hp : LM av C) (hC : C.length ≤ 200) (hk : C[S.1]? = some (o, a)) (ho : o < 20) : xm D 112 [.ref 27, .int (nI S.1), .int (nI S.2.1.length)] (xs iv av lv) (some (.int (nI (trp o a S.2.1))), xs iv av lv) := by
  obtain ⟨d, rfl⟩ : ∃ d, D = d + 1 := ⟨D - 1, by omega⟩
  have hl := (List.getElem?_eq_some_iff.mp hk).1
  obtain ⟨e51, e52⟩ := hp _ _ _ hk
  obtain ⟨h1, ⟨h2, h3⟩, -⟩ := h
  have ck : (nI S.1).toNatClampNeg = S.1 := nI_clamp (by omega)
  have hb : 0 ≤ (nI S.1).toInt ∧ (nI S.1).toInt < ((200 : Nat) : Int) := nI_bd (by omega) (by omega)
  have ne : ∀ {k : Nat}, k < 2 ^ 30 → o ≠ k → ¬ nI o = nI k := fun hk q g => q ((nI_eq (by omega) (by omega)).mp g)
  -- up to 42, with t and u
  have go : ∀ x, (∀ o2 o5 o6, xe d xt_112 42 [some (.ref 27), some (.int (nI S.1)), o2, some (.int (nI o)), some (.int (S.2.1.getD 0 0)), o5, o6] [.int (S.2.1.getD 1 0)] (xs iv av lv) x) → xm (d + 1) 112 [.ref 27, .int (nI S.1), .int (nI S.2.1.length)] (xs iv av lv) x := fun x hx => by
    have g23 : ∀ o4 o5 o6, xe d xt_112 23 [some (.ref 27), some (.int (nI S.1)), some (.int (nI S.2.1.length)), some (.int (nI o)), o4, o5, o6] [.int (S.2.1.getD 0 0)] (xs iv av lv) x := fun o4 o5 o6 => by
      refine xb_112_23 (fun g => ?_) (fun g => ?_)
      · have hl1 : 1 < S.2.1.length := (nI_ltI (a := 1) (by omega) (by omega)).mp g
        refine xb_112_30 (by rw [nI_s2 (by omega)]; exact nI_bd (by omega) (by omega)) ?_
        rw [nI_s2 (by omega), nI_clamp (by omega), sk_1 h3 hl1]
        exact xb_112_38 (hx _ _ _)
      · have hl1 : ¬ 1 < S.2.1.length := fun q => g ((nI_ltI (a := 1) (by omega) (by omega)).mpr q)
        have e0 : S.2.1.getD 1 0 = 0 := getD_none (by omega)
        rw [e0] at hx
        exact xb_112_41 (hx _ _ _)
    refine xm_of (nL := 7) rfl rfl (xb_112_0 hb ?_)
    rw [ck, e51]
    refine xb_112_6 (fun g => ?_) (fun g => ?_)
    · have hl0 : 0 < S.2.1.length := (nI_ltI (a := 0) (by omega) (by omega)).mp g
      refine xb_112_11 (by rw [nI_s1 (by omega)]; exact nI_bd (by omega) (by omega)) ?_
      rw [nI_s1 (by omega), nI_clamp (by omega), sk_0 h3 hl0]
      exact xb_112_19 (g23 _ _ _)
    · have hl0 : ¬ 0 < S.2.1.length := fun q => g ((nI_ltI (a := 0) (by omega) (by omega)).mpr q)
      have e0 : S.2.1.getD 0 0 = 0 := getD_none (by omega)
      rw [e0] at g23
      exact xb_112_22 (g23 _ _ _)
  refine go _ (fun o2 o5 o6 => ?_)
  unfold trp
  have g120 : ∀ o2 o5 o6 o3 o4 o1 o0, xe d xt_112 120 [o0, o1, o2, o3, o4, o5, o6] [] (xs iv av lv) (some (.int (nI 0)), xs iv av lv) := fun _ _ _ _ _ _ _ => xb_112_120 xb_112_121
  have g95 : ∀ o2 o5 o6 o3 o4 o1 o0, xe d xt_112 95 [o0, o1, o2, o3, o4, o5, o6] [] (xs iv av lv) (some (.int (nI 2)), xs iv av lv) := fun _ _ _ _ _ _ _ => xb_112_95 xb_112_121
  have g83 : ∀ (w : Int32) o2 o5, o ≠ 16 → xe d xt_112 83 [some (.ref 27), some (.int (nI S.1)), o2, some (.int (nI o)), some (.int (S.2.1.getD 0 0)), o5, some (.int w)] [] (xs iv av lv) (some (.int (nI (if isW w then 0 else 2))), xs iv av lv) := fun w o2 o5 h16 => by
    refine xb_112_83 (fun g => ?_) (fun g => xb_112_88 (fun g2 => ?_) (fun g2 => ?_))
    · rw [if_neg (fun q => q.1 g)]
      exact g95 _ _ _ _ _ _ _
    · rw [if_neg (fun q => q.2 g2)]
      exact g95 _ _ _ _ _ _ _
    · rw [if_pos ⟨g, g2⟩]
      exact xb_112_99 (fun q => absurd q (ne (k := 16) (by omega) h16)) (fun _ => g120 _ _ _ _ _ _ _)
  by_cases h8 : o = 8
  · subst h8
    rw [if_pos rfl]
    refine xb_112_42 (fun q => absurd q (by decide)) (fun _ => xb_112_54 (xb_112_56 (fun _ => xb_112_64 (fun g => ?_) (fun g => ?_)) (fun q => absurd rfl q)))
    · rw [if_pos g]
      exact xb_112_69 xb_112_121
    · rw [if_neg g]
      exact xb_112_73 (fun q => absurd q (by decide)) (fun _ => xb_112_78 (fun q => absurd q (by decide)) (fun _ => xb_112_99 (fun q => absurd q (by decide)) (fun _ => g120 _ _ _ _ _ _ _)))
  rw [if_neg h8]
  by_cases h3' : o = 3
  · subst h3'
    rw [if_pos rfl]
    exact xb_112_42 (fun q => absurd q (by decide)) (fun _ => xb_112_54 (xb_112_56 (fun q => absurd q (by decide)) (fun _ => xb_112_73 (fun _ => g83 _ _ _ (by decide)) (fun q => absurd rfl q))))
  rw [if_neg h3']
  by_cases h4 : o = 4
  · subst h4
    rw [if_pos rfl]
    exact xb_112_42 (fun _ => xb_112_49 (xb_112_56 (fun q => absurd q (by decide)) (fun _ => xb_112_73 (fun q => absurd q (by decide)) (fun _ => xb_112_78 (fun _ => g83 _ _ _ (by decide)) (fun q => absurd rfl q))))) (fun q => absurd rfl q)
  rw [if_neg h4]
  refine xb_112_42 (fun q => absurd q (ne (k := 4) (by omega) h4)) (fun _ => xb_112_54 (xb_112_56 (fun q => absurd q (ne (k := 8) (by omega) h8)) (fun _ => xb_112_73 (fun q => absurd q (ne (k := 3) (by omega) h3')) (fun _ => xb_112_78 (fun q => absurd q (ne (k := 4) (by omega) h4)) (fun _ => ?_)))))
  by_cases h16 : o = 16
  · rw [if_pos h16]
    refine xb_112_99 (fun _ => xb_112_105 hb ?_) (fun q => absurd (by rw [h16]; rfl) q)
    rw [ck, e52]
    refine xb_112_113 (fun g => ?_) (fun g => ?_)
    · rw [if_pos g]
      exact xb_112_116 xb_112_121
    · rw [if_neg g]
      exact g120 _ _ _ _ _ _ _
  · rw [if_neg h16]
    exact xb_112_99 (fun q => absurd q (ne (k := 16) (by omega) h16)) (fun _ => g120 _ _ _ _ _ _ _)
theorem m_apply (hD : 1 ≤ D) (ho : o < 20) : xm D 111 [.int (nI o), .int v, .int t] (xs iv av lv) (some (.int (opr o v t)), xs iv av lv) := by
  obtain ⟨d, rfl⟩ : ∃ d, D = d + 1 := ⟨D - 1, by omega⟩
  refine xm_of (nL := 3) rfl rfl (xb_111_0 ?_)
  rw [sw63 o ho]
  unfold opr
  by_cases h5 : o = 5
  · rw [if_pos h5, if_pos h5]; exact xb_111_36
  rw [if_neg h5, if_neg h5]
  by_cases h6 : o = 6
  · rw [if_pos h6, if_pos h6]; exact xb_111_40
  rw [if_neg h6, if_neg h6]
  by_cases h7 : o = 7
  · rw [if_pos h7, if_pos h7]; exact xb_111_44
  rw [if_neg h7, if_neg h7]
  by_cases h8 : o = 8
  · rw [if_pos h8, if_pos h8]
    refine xb_111_48 (fun g => xb_111_52 ?_) (fun g => xb_111_56 g ?_)
    · rw [if_pos g]; exact xb_111_59
    · rw [if_neg g]; exact xb_111_59
  rw [if_neg h8, if_neg h8]
  by_cases h9 : o = 9
  · rw [if_pos h9, if_pos h9]
    refine xb_111_60 (fun g => xb_111_65 ?_) (fun g => xb_111_69 ?_)
    · rw [if_pos g]; exact xb_111_70
    · rw [if_neg g]; exact xb_111_70
  rw [if_neg h9, if_neg h9]
  refine xb_111_71 (fun g => xb_111_76 ?_) (fun g => xb_111_80 ?_)
  · rw [if_pos g]; exact xb_111_81
  · rw [if_neg g]; exact xb_111_81
theorem yf58 {g : Nat → Int32} : ∀ q, q < 57 ∨ 59 < q → va_up av 58 g q = av q := fun q a => va_up_ne' (by omega)
theorem yf57 {g : Nat → Int32} : ∀ q, q < 57 ∨ 59 < q → va_up av 57 g q = av q := fun q a => va_up_ne' (by omega)
theorem mm_push (h : MM iv av (k, s, P, O, oc)) (hs : s.length < 200) {k' : Nat} (hk : k' < 2 ^ 20) : MM iv (va_up av 58 (upd (av 58) s.length v)) (k', v :: s, P, O, oc) := by
  obtain ⟨h1, ⟨h2, h3⟩, h4⟩ := h
  exact ⟨hk, ⟨hs, upd_eq', sk_upd h3 (Nat.le_refl _)⟩, h4⟩
theorem m_does (hD : 2 ≤ D) (h : MM iv av (k, s, P, O, oc)) (hp : LM av C) (hC : C.length ≤ 200) (hk : C[k]? = some (o, a)) (ho : o ≤ 12 ∨ o = 16) (hx : exi o a (k, s, P, O, oc) = some (y, S1)) (ht : trp o a s = 0) (ha : o = 1 ∨ o = 2 → a < 6) (hB : S1.2.1.length ≤ 199) (hoc : oc + 1 < 2 ^ 20) : y = cs1 o ∧ S1.1 = k + 1 ∧ ∃ iv' av', ((∀ q, q ≠ 26 → iv' q = iv q) ∧ ∀ q, q < 57 ∨ 59 < q → av' q = av q) ∧ MM iv' av' S1 ∧ xm D 113 [.ref 27, .int (nI k), .int (nI s.length)] (xs iv av lv) (some (.int (nI S1.2.1.length)), xs iv' av' lv) := by
  obtain ⟨d, rfl⟩ : ∃ d, D = d + 1 := ⟨D - 1, by omega⟩
  have hl := (List.getElem?_eq_some_iff.mp hk).1
  obtain ⟨e51, e52⟩ := hp _ _ _ hk
  have h0 := h
  obtain ⟨h1, ⟨h2, h3⟩, h4, h5, h6, h7⟩ := h
  have h2 : s.length ≤ 200 := h2
  have ck : (nI k).toNatClampNeg = k := nI_clamp (by omega)
  have hb : 0 ≤ (nI k).toInt ∧ (nI k).toInt < ((200 : Nat) : Int) := nI_bd (by omega) (by omega)
  have ne : ∀ {k : Nat}, k < 2 ^ 30 → o ≠ k → ¬ nI o = nI k := fun hk q g => q ((nI_eq (by omega) (by omega)).mp g)
  have go : ∀ x, (∀ o1 o6, xe d xt_113 50 [some (.ref 27), o1, some (.int (nI s.length)), some (.int (nI o)), some (.int (nI a)), some (.int (s.getD 0 0)), o6] [.int (s.getD 1 0)] (xs iv av lv) x) → xm (d + 1) 113 [.ref 27, .int (nI k), .int (nI s.length)] (xs iv av lv) x := fun x hx => by
    have g31 : ∀ o1 o5 o6, xe d xt_113 31 [some (.ref 27), o1, some (.int (nI s.length)), some (.int (nI o)), some (.int (nI a)), o5, o6] [.int (s.getD 0 0)] (xs iv av lv) x := fun o1 o5 o6 => by
      refine xb_113_31 (fun g => ?_) (fun g => ?_)
      · have hl1 : 1 < s.length := (nI_ltI (a := 1) (by omega) (by omega)).mp g
        refine xb_113_38 (by rw [nI_s2 (by omega)]; exact nI_bd (by omega) (by omega)) ?_
        rw [nI_s2 (by omega), nI_clamp (by omega), sk_1 h3 hl1]
        exact xb_113_46 (hx _ _)
      · have hl1 : ¬ 1 < s.length := fun q => g ((nI_ltI (a := 1) (by omega) (by omega)).mpr q)
        have e0 : s.getD 1 0 = 0 := getD_none (by omega)
        rw [e0] at hx
        exact xb_113_49 (hx _ _)
    refine xm_of (nL := 7) rfl rfl (xb_113_0 hb ?_)
    rw [ck, e51]
    refine xb_113_6 hb ?_
    rw [ck, e52]
    refine xb_113_13 (fun g => ?_) (fun g => ?_)
    · have hl0 : 0 < s.length := (nI_ltI (a := 0) (by omega) (by omega)).mp g
      refine xb_113_19 (by rw [nI_s1 (by omega)]; exact nI_bd (by omega) (by omega)) ?_
      rw [nI_s1 (by omega), nI_clamp (by omega), sk_0 h3 hl0]
      exact xb_113_27 (g31 _ _ _)
    · have hl0 : ¬ 0 < s.length := fun q => g ((nI_ltI (a := 0) (by omega) (by omega)).mpr q)
      have e0 : s.getD 0 0 = 0 := getD_none (by omega)
      rw [e0] at g31
      exact xb_113_30 (g31 _ _ _)
  by_cases o0 : o = 0
  · subst o0
    have hx : some (1, k + 1, nI a :: s, P, O, oc) = some (y, S1) := hx
    cases hx
    have hs : s.length < 200 := by have : s.length + 1 ≤ 199 := hB; omega
    refine ⟨rfl, rfl, iv, _, ⟨fun _ _ => rfl, yf58⟩, mm_push (v := nI a) h0 hs (by omega), go _ (fun o1 o6 => xb_113_50 (fun _ => xb_113_61 (fun _ => xb_113_70 (xb_113_82 (nI_bd (by omega) (by omega)) ?_)) (fun g => absurd rfl g)) (fun g => absurd rfl g))⟩
    rw [nI_clamp (by omega)]
    show xe d xt_113 83 _ _ _ (some (.int (nI (s.length + 1))), _)
    rw [← nI_1]
    exact xb_113_83
  by_cases o1 : o = 1
  · subst o1
    have hx : some (2, k + 1, P a :: s, P, O, oc) = some (y, S1) := hx
    cases hx
    have hs : s.length < 200 := by have : s.length + 1 ≤ 199 := hB; omega
    have ha6 := ha (Or.inl rfl)
    refine ⟨rfl, rfl, iv, _, ⟨fun _ _ => rfl, yf58⟩, mm_push (v := P a) h0 hs (by omega), go _ (fun o1 o6 => xb_113_50 (fun g => absurd g (by decide)) (fun _ => xb_113_56 (fun _ => xb_113_61 (fun g => absurd g (by decide)) (fun _ => xb_113_75 (nI_bd (by omega) (by omega)) (xb_113_82 (nI_bd (by omega) (by omega)) ?_))) (fun g => absurd rfl g)))⟩
    rw [nI_clamp (by omega), nI_clamp (by omega), h4 a (by omega)]
    show xe d xt_113 83 _ _ _ (some (.int (nI (s.length + 1))), _)
    rw [← nI_1]
    exact xb_113_83
  have go2 : ∀ x, (∀ o1, xe d xt_113 87 [some (.ref 27), o1, some (.int (nI s.length)), some (.int (nI o)), some (.int (nI a)), some (.int (s.getD 0 0)), some (.int (s.getD 1 0))] [] (xs iv av lv) x) → xm (d + 1) 113 [.ref 27, .int (nI k), .int (nI s.length)] (xs iv av lv) x := fun x hx => go x (fun o1' o6 => xb_113_50 (fun g => absurd g (ne (k := 0) (by omega) o0)) (fun _ => xb_113_56 (fun g => absurd g (ne (k := 1) (by omega) o1)) (fun _ => hx _)))
  unfold exi at hx
  dsimp only at hx
  rw [if_neg o0, if_neg o1, if_neg (by omega), if_neg (by omega)] at hx
  cases s with
  | nil => cases hx
  | cons t r =>
    dsimp only at hx
    have hr : r.length + 1 ≤ 200 := h2
    have er : nI (t :: r).length - 1 = nI r.length := nI_pred _
    have topw : ∀ (w : Int32) (o0' o1' o3' o4' o5' o6' : Option Value), xe d xt_113 152 [o0', o1', some (.int (nI (t :: r).length)), o3', o4', o5', o6'] [.int w, .int (nI (t :: r).length - 1), .ref 58] (xs iv av lv) (some (.int (nI (r.length + 1))), xs iv (va_up av 58 (upd (av 58) r.length w)) lv) := fun w o0' o1' o3' o4' o5' o6' => by
      rw [er]
      refine xb_113_152 (nI_bd (by omega) (by omega)) ?_
      rw [nI_clamp (by omega)]
      exact xb_113_153
    have mmw : ∀ (w : Int32), MM iv (va_up av 58 (upd (av 58) r.length w)) (k + 1, w :: r, P, O, oc) := fun w => ⟨by show k + 1 < 2 ^ 20; omega, ⟨hr, upd_eq', sk_upd h3.2 (Nat.le_refl _)⟩, h4, h5, h6, h7⟩
    by_cases o2 : o = 2
    · subst o2
      rw [if_pos rfl] at hx
      cases hx
      have ha6 := ha (Or.inr rfl)
      refine ⟨rfl, rfl, iv, _, ⟨fun _ _ => rfl, yf57⟩, ⟨by show k + 1 < 2 ^ 20; omega, ⟨by show r.length ≤ 200; omega, h3.2⟩, eqn_upd (k := a) (v := t) h4, h5, h6, h7⟩, go2 _ (fun o1 => xb_113_87 (fun g => absurd g (by decide)) (fun _ => xb_113_92 (fun g => absurd g (by decide)) (fun _ => xb_113_98 (fun g => absurd g (by decide)) (fun _ => xb_113_155 (fun _ => xb_113_160 (nI_bd (by omega) (by omega)) ?_) (fun g => absurd rfl g)))))⟩
      rw [nI_clamp (by omega)]
      show xe d xt_113 169 _ _ _ (some (.int (nI r.length)), _)
      rw [← er]
      exact xb_113_169
    rw [if_neg o2] at hx
    by_cases o3 : o = 3
    · subst o3
      rw [if_pos rfl] at hx
      cases hx
      have hw : isW t := by
        by_cases hw : isW t
        · exact hw
        · have : trp 3 a (t :: r) = if isW t then 0 else 2 := rfl
          rw [this, if_neg hw] at ht
          cases ht
      obtain ⟨j, hj, rfl⟩ := isW_n hw
      have ej : (nI j).toNatClampNeg = j := nI_clamp (by omega)
      have e6 : (6 : Int32) + nI j = nI (6 + j) := nI_add 6 j
      have hb6 : 0 ≤ ((6 : Int32) + nI j).toInt ∧ ((6 : Int32) + nI j).toInt < ((14 : Nat) : Int) := by rw [e6]; exact nI_bd (by omega) (by omega)
      refine ⟨rfl, rfl, iv, _, ⟨fun _ _ => rfl, yf58⟩, mmw _, go2 _ (fun o1 => xb_113_87 (fun _ => xb_113_104 (fun _ => xb_113_116 hb6 (xb_113_126 ?_)) (fun g => absurd rfl g)) (fun g => absurd rfl g))⟩
      show xe d xt_113 152 _ [.int (av 57 ((6 : Int32) + nI j).toNatClampNeg), _, _] _ _
      rw [e6, nI_clamp (by omega), h4 (6 + j) (by omega), ej]
      exact topw _ _ _ _ _ _ _
    rw [if_neg o3] at hx
    by_cases o11 : o = 11
    · subst o11
      rw [if_pos rfl] at hx
      cases hx
      exact ⟨rfl, rfl, iv, _, ⟨fun _ _ => rfl, yf58⟩, mmw _, go2 _ (fun o1 => xb_113_87 (fun g => absurd g (by decide)) (fun _ => xb_113_92 (fun _ => xb_113_104 (fun g => absurd g (by decide)) (fun _ => xb_113_129 (fun _ => xb_113_135 (topw _ _ _ _ _ _ _)) (fun g => absurd rfl g))) (fun g => absurd rfl g)))⟩
    rw [if_neg o11] at hx
    by_cases o12 : o = 12
    · subst o12
      rw [if_pos rfl] at hx
      cases hx
      have h6 : iv 26 = nI oc := h6
      have p1 : ∀ x, xe d xt_113 200 [some (.ref 27), none, some (.int (nI (t :: r).length)), some (.int (nI 12)), none, some (.int t), some (.int ((t :: r).getD 1 0))] [] (xs iv av lv) x → xm (d + 1) 113 [.ref 27, .int (nI k), .int (nI (t :: r).length)] (xs iv av lv) x := fun x hx => go2 x (fun o1 => xb_113_87 (fun g => absurd g (by decide)) (fun _ => xb_113_92 (fun g => absurd g (by decide)) (fun _ => xb_113_98 (fun g => absurd g (by decide)) (fun _ => xb_113_155 (fun g => absurd g (by decide)) (fun _ => xb_113_173 (fun g => absurd g (by decide)) (fun _ => xb_113_194 (fun _ => hx) (fun g => absurd rfl g)))))))
      by_cases h32 : oc < 32
      · rw [if_pos h32]
        refine ⟨rfl, rfl, upd iv 26 (iv 26 + 1), va_up av 59 (upd (av 59) oc t), ⟨fun q a => upd_ne' a, fun q a => va_up_ne' (by omega)⟩, ⟨by show k + 1 < 2 ^ 20; omega, ⟨by show r.length ≤ 200; omega, h3.2⟩, h4, eqn_upd h5, ?_, hoc⟩, p1 _ (xb_113_200 (fun _ => xb_113_209 (by rw [h6]; exact nI_bd h32 (by omega)) ?_) (fun g => ?_))⟩
        · show iv 26 + 1 = nI (oc + 1)
          rw [h6, nI_1]
        · rw [h6, nI_clamp (by omega), ← h6]
          show xe d xt_113 220 _ _ _ (some (.int (nI r.length)), _)
          rw [← er]
          exact xb_113_220
        · rw [h6] at g
          exact absurd (show nI oc < nI 32 from nI_lt h32 (by omega)) g
      · rw [if_neg h32]
        refine ⟨rfl, rfl, upd iv 26 (iv 26 + 1), av, ⟨fun q a => upd_ne' a, fun _ _ => rfl⟩, ⟨by show k + 1 < 2 ^ 20; omega, ⟨by show r.length ≤ 200; omega, h3.2⟩, h4, h5, ?_, hoc⟩, p1 _ (xb_113_200 (fun g => ?_) (fun _ => ?_))⟩
        · show iv 26 + 1 = nI (oc + 1)
          rw [h6, nI_1]
        · rw [h6] at g
          exact absurd ((nI_ltI (b := 32) (by omega) (by omega)).mp g) h32
        · show xe d xt_113 220 _ _ _ (some (.int (nI r.length)), _)
          rw [← er]
          exact xb_113_220
    rw [if_neg o12, if_neg (by omega), if_neg (by omega)] at hx
    by_cases o16 : o = 16
    · subst o16
      rw [if_pos rfl] at hx
      cases hx
      refine ⟨rfl, rfl, iv, _, ⟨fun _ _ => rfl, yf58⟩, mmw _, go2 _ (fun o1 => xb_113_87 (fun g => absurd g (by decide)) (fun _ => xb_113_92 (fun g => absurd g (by decide)) (fun _ => xb_113_98 (fun _ => xb_113_104 (fun g => absurd g (by decide)) (fun _ => xb_113_129 (fun g => absurd g (by decide)) (fun _ => xb_113_141 (fun g => xb_113_146 ?_) (fun g => xb_113_150 ?_)))) (fun g => absurd rfl g))))⟩
      · have g : t < 0 := g
        rw [if_pos g]
        exact topw _ _ _ _ _ _ _
      · have g : ¬ t < 0 := g
        rw [if_neg g]
        exact topw _ _ _ _ _ _ _
    rw [if_neg o16, if_neg (by omega)] at hx
    have p2 : ∀ x, (∀ o1 o4, xe d xt_113 173 [some (.ref 27), o1, some (.int (nI (t :: r).length)), some (.int (nI o)), o4, some (.int t), some (.int ((t :: r).getD 1 0))] [] (xs iv av lv) x) → xm (d + 1) 113 [.ref 27, .int (nI k), .int (nI (t :: r).length)] (xs iv av lv) x := fun x hx => go2 x (fun o1 => xb_113_87 (fun g => absurd g (ne (k := 3) (by omega) o3)) (fun _ => xb_113_92 (fun g => absurd g (ne (k := 11) (by omega) o11)) (fun _ => xb_113_98 (fun g => absurd g (ne (k := 16) (by omega) o16)) (fun _ => xb_113_155 (fun g => absurd g (ne (k := 2) (by omega) o2)) (fun _ => hx _ _)))))
    cases r with
    | nil => cases hx
    | cons v q =>
      dsimp only at hx
      have hq : q.length + 2 ≤ 200 := hr
      have er2 : nI (t :: v :: q).length - 2 = nI q.length := nI_s2 (n := q.length + 2) (by omega)
      by_cases o4 : o = 4
      · subst o4
        rw [if_pos rfl] at hx
        cases hx
        have hw : isW v := by
          by_cases hw : isW v
          · exact hw
          · have : trp 4 a (t :: v :: q) = if isW v then 0 else 2 := rfl
            rw [this, if_neg hw] at ht
            cases ht
        obtain ⟨j, hj, rfl⟩ := isW_n hw
        have ej : (nI j).toNatClampNeg = j := nI_clamp (by omega)
        have e6 : (6 : Int32) + nI j = nI (6 + j) := nI_add 6 j
        have hb6 : 0 ≤ ((6 : Int32) + nI j).toInt ∧ ((6 : Int32) + nI j).toInt < ((14 : Nat) : Int) := by rw [e6]; exact nI_bd (by omega) (by omega)
        refine ⟨rfl, rfl, iv, va_up av 57 (upd (av 57) (6 + j) t), ⟨fun _ _ => rfl, yf57⟩, ⟨by show k + 1 < 2 ^ 20; omega, ⟨by show q.length ≤ 200; omega, h3.2.2⟩, by rw [ej]; exact eqn_upd h4, h5, h6, h7⟩, p2 _ (fun o1 o4 => xb_113_173 (fun _ => xb_113_178 hb6 ?_) (fun g => absurd rfl g))⟩
        show xe d xt_113 190 _ _ (xs iv (va_up av 57 (upd (av 57) ((6 : Int32) + nI j).toNatClampNeg t)) lv) (some (.int (nI q.length)), _)
        rw [e6, nI_clamp (by omega), ← er2]
        exact xb_113_190
      rw [if_neg o4, if_pos (by omega)] at hx
      cases hx
      refine ⟨rfl, rfl, iv, va_up av 58 (upd (av 58) q.length (opr o v t)), ⟨fun _ _ => rfl, yf58⟩, ⟨by show k + 1 < 2 ^ 20; omega, ⟨by show q.length + 1 ≤ 200; omega, upd_eq', sk_upd h3.2.2 (Nat.le_refl _)⟩, h4, h5, h6, h7⟩, p2 _ (fun o1 o4' => xb_113_173 (fun g => absurd g (ne (k := 4) (by omega) o4)) (fun _ => xb_113_194 (fun g => absurd g (ne (k := 12) (by omega) o12)) (fun _ => xb_113_234 (m_apply (by omega) (by omega)) ?_)))⟩
      rw [er2]
      refine xb_113_249 (nI_bd (by omega) (by omega)) ?_
      rw [nI_clamp (by omega)]
      show xe d xt_113 250 _ _ _ (some (.int (nI (q.length + 1))), _)
      have : nI (t :: v :: q).length - 1 = nI (q.length + 1) := nI_pred _
      rw [← this]
      exact xb_113_250
end MMS
