/-! The reference within a value: its stack of operators (the top first). -/
def OS (g : Nat → Int32) : List Nat → Prop
  | [] => True
  | c :: r => g r.length = nI c ∧ c < 2 ^ 20 ∧ OS g r
theorem os_upd {g : Nat → Int32} {k : Nat} {v : Int32} : ∀ {r : List Nat}, OS g r → r.length ≤ k → OS (upd g k v) r
  | [], _, _ => trivial
  | c :: r, h, hk => by
    simp only [List.length_cons] at hk
    exact ⟨by rw [upd_ne' (by omega)]; exact h.1, h.2.1, os_upd h.2.2 (by omega)⟩
theorem os_tail {g : Nat → Int32} : ∀ {P X : List Nat}, OS g (P ++ X) → OS g X
  | [], _, h => h
  | _ :: _, _, h => os_tail h.2.2
def dps (l : List Nat) : Nat := (l.filter (fun c => st c == 0)).length
def brs (l : List Nat) : Nat := (l.filter (fun c => c == 40 || c == 91)).length
theorem brs_le : ∀ l, brs l ≤ dps l
  | [] => Nat.le_refl _
  | c :: l => by
    have := brs_le l
    unfold brs dps at this ⊢
    by_cases h : c = 40 ∨ c = 91
    · have e1 : (c == 40 || c == 91) = true := by simpa using h
      have e2 : (st c == 0) = true := by rcases h with rfl | rfl <;> rfl
      rw [List.filter_cons, List.filter_cons, if_pos e1, if_pos e2, List.length_cons, List.length_cons]
      omega
    · have e1 : (c == 40 || c == 91) = false := by simpa using h
      rw [List.filter_cons, List.filter_cons, if_neg (by rw [e1]; decide)]
      split
      · rw [List.length_cons]; omega
      · exact this
theorem brs_b {c : Nat} {l : List Nat} (h : c = 40 ∨ c = 91) : brs (c :: l) = brs l + 1 := by
  unfold brs
  have e1 : (c == 40 || c == 91) = true := by simpa using h
  rw [List.filter_cons, if_pos e1, List.length_cons]
theorem brs_n {c : Nat} {l : List Nat} (h : c ≠ 40) (h2 : c ≠ 91) : brs (c :: l) = brs l := by
  unfold brs
  have e1 : (c == 40 || c == 91) = false := by simp [h, h2]
  rw [List.filter_cons, if_neg (by rw [e1]; decide)]
theorem dps_0 {c : Nat} {l : List Nat} (h : st c = 0) : dps (c :: l) = dps l + 1 := by
  unfold dps
  rw [List.filter_cons, if_pos (by rw [h]; rfl), List.length_cons]
theorem dps_n {c : Nat} {l : List Nat} (h : st c ≠ 0) : dps (c :: l) = dps l := by
  unfold dps
  rw [List.filter_cons, if_neg (by simp [h])]
theorem dps_app (a b : List Nat) : dps (a ++ b) = dps a + dps b := by unfold dps; rw [List.filter_append, List.length_append]
def em (P : List Nat) : List In := P.map (fun c => (ins c, 0))
def dt : List Nat → List Nat
  | c :: r => if c = 126 then dt r else c :: r
  | [] => []
def nt : List Nat → List In
  | c :: r => if c = 126 then (11, 0) :: nt r else []
  | [] => []
theorem dt_n {c : Nat} {l : List Nat} (h : c ≠ 126) : dt (c :: l) = c :: l := by unfold dt; rw [if_neg h]
theorem nt_n {c : Nat} {l : List Nat} (h : c ≠ 126) : nt (c :: l) = [] := by unfold nt; rw [if_neg h]
theorem dt_y (l : List Nat) : dt (126 :: l) = dt l := by rw [dt]; rfl
theorem nt_y (l : List Nat) : nt (126 :: l) = (11, 0) :: nt l := by rw [nt]; rfl
theorem dt_brs : ∀ l, brs (dt l) = brs l
  | [] => rfl
  | c :: l => by
    by_cases h : c = 126
    · subst h
      rw [dt_y, dt_brs l, brs_n (by decide) (by decide)]
    · rw [dt_n h]
theorem dt_len : ∀ l, (dt l).length + (nt l).length = l.length
  | [] => rfl
  | c :: l => by
    by_cases h : c = 126
    · subst h
      rw [dt_y, nt_y, List.length_cons, List.length_cons]
      have := dt_len l
      omega
    · rw [dt_n h, nt_n h]; rfl
def VS (n : Nat) (tx : Nat → Nat) (iv : Nat → Int32) (av : Nat → Nat → Int32) (i : Nat) (K Mk : List In) (ops : List Nat) (cf : Nat → Bool) : Prop := MT iv av n tx ∧ (iv 13 = nI i ∧ i ≤ 200) ∧ EC iv av K ∧ EN iv av Mk ∧ (iv 16 = nI ops.length ∧ OS (av 39) ops) ∧ (iv 17 = nI (brs ops) ∧ ∀ q, q ≤ brs ops → av 40 q = if cf q = true then 1 else 0) ∧ ops.length + 1 ≤ i ∧ K.length + ops.length ≤ 2 * i + 4 ∧ Mk.length + ops.length ≤ 4 * i + 4
def VF (iv : Nat → Int32) (av : Nat → Nat → Int32) (iv' : Nat → Int32) (av' : Nat → Nat → Int32) : Prop := (∀ q, q < 13 ∨ 17 < q → iv' q = iv q) ∧ ∀ q, (q < 29 ∨ 32 < q) → q ≠ 39 → q ≠ 40 → av' q = av q
theorem VF.rf {iv : Nat → Int32} {av : Nat → Nat → Int32} : VF iv av iv av := ⟨fun _ _ => rfl, fun _ _ _ _ => rfl⟩
theorem VF.tr {iv iv1 iv2 : Nat → Int32} {av av1 av2 : Nat → Nat → Int32} (h : VF iv av iv1 av1) (g : VF iv1 av1 iv2 av2) : VF iv av iv2 av2 := ⟨fun q a => (g.1 q a).trans (h.1 q a), fun q a b c => (g.2 q a b c).trans (h.2 q a b c)⟩
theorem NF.vf {iv iv1 : Nat → Int32} {av av1 : Nat → Nat → Int32} (h : NF iv av iv1 av1) : VF iv av iv1 av1 := ⟨fun q a => h.1 q (by omega) (by omega), fun q a _ _ => h.2 q a⟩
section MS
variable {D : Nat} {iv : Nat → Int32} {av : Nat → Nat → Int32} {lv : Nat → Nat → Int64} {n i : Nat} {tx : Nat → Nat} {K Mk : List In} {ops : List Nat} {cf : Nat → Bool}
/-- an instruction of a value is written -/
theorem vs_emit {o a : Nat} (hD : 2 ≤ D) (h : VS n tx iv av i K Mk ops cf) (ho : o < 13) (hk : K.length + ops.length + 1 ≤ 2 * i + 4) (hm : Mk.length + ops.length + 1 ≤ 4 * i + 4) : ∃ iv' av', NF iv av iv' av' ∧ xm D 80 [.ref 27, .int (nI o), .int (nI a)] (xs iv av lv) (none, xs iv' av' lv) ∧ VS n tx iv' av' i (K ++ [(o, a)]) (Mk ++ [(o, a)]) ops cf := by
  obtain ⟨h1, h2, h3, h4, h5, h6, h7, h8, h9⟩ := h
  obtain ⟨iv', av', f, x, k1, k2⟩ := m_emit (lv := lv) (o := o) (a := a) hD h3 h4 (by omega) (by omega) (by omega)
  have hn : noted o = true := by unfold noted; exact decide_eq_true (Or.inl ho)
  rw [if_pos hn] at k2
  refine ⟨iv', av', f, x, h1.to (f.1 12 (by decide) (by decide)) (f.2 28 (by decide)), ⟨by rw [f.1 13 (by decide) (by decide)]; exact h2.1, h2.2⟩, k1, k2, ⟨by rw [f.1 16 (by decide) (by decide)]; exact h5.1, by rw [f.2 39 (by decide)]; exact h5.2⟩, ⟨by rw [f.1 17 (by decide) (by decide)]; exact h6.1, fun q hq => by rw [f.2 40 (by decide)]; exact h6.2 q hq⟩, h7, ?_, ?_⟩
  · rw [List.length_append]; simp only [List.length_cons, List.length_nil]; omega
  · rw [List.length_append]; simp only [List.length_cons, List.length_nil]; omega
/-- the top operator is taken away -/
theorem vs_pop {c : Nat} {r : List Nat} (h : VS n tx iv av i K Mk (c :: r) cf) (hc : c ≠ 40) (hc2 : c ≠ 91) : VS n tx (upd iv 16 (nI r.length)) av i K Mk r cf := by
  obtain ⟨h1, h2, h3, h4, h5, h6, h7, h8, h9⟩ := h
  simp only [List.length_cons] at h7 h8 h9
  exact ⟨h1.to rfl rfl, h2, h3, h4, ⟨upd_eq', h5.2.2.2⟩, ⟨by rw [← brs_n (l := r) hc hc2]; exact h6.1, fun q hq => h6.2 q (by rw [brs_n hc hc2]; exact hq)⟩, by omega, by omega, by omega⟩
theorem m_reduce {least : Nat} (hl : 1 ≤ least) (hl3 : least ≤ 3) (hD : 3 ≤ D) : ∀ (P X : List Nat) iv av K Mk, VS n tx iv av i K Mk (P ++ X) cf → (∀ c ∈ P, least ≤ st c) → (∀ c r, X = c :: r → st c < least) →
    ∃ iv' av', VF iv av iv' av' ∧ xm D 83 [.ref 27, .int (nI least)] (xs iv av lv) (none, xs iv' av' lv) ∧ VS n tx iv' av' i (K ++ em P) (Mk ++ em P) X cf := by
  obtain ⟨d, rfl⟩ : ∃ d, D = d + 1 := ⟨D - 1, by omega⟩
  have loop : ∀ (P X : List Nat) iv av K Mk, VS n tx iv av i K Mk (P ++ X) cf → (∀ c ∈ P, least ≤ st c) → (∀ c r, X = c :: r → st c < least) →
      ∃ iv' av', VF iv av iv' av' ∧ xe d xt_83 0 [some (.ref 27), some (.int (nI least))] [] (xs iv av lv) (none, xs iv' av' lv) ∧ VS n tx iv' av' i (K ++ em P) (Mk ++ em P) X cf := by
    intro P
    induction P with
    | nil =>
      intro X iv av K Mk h _ hX
      refine ⟨iv, av, VF.rf, ?_, by rw [show em [] = [] from rfl, List.append_nil, List.append_nil]; exact h⟩
      have hw : iv 16 = nI X.length := h.2.2.2.2.1.1
      cases X with
      | nil => exact xb_83_0 (fun g => absurd g (by rw [hw]; decide)) (fun _ => xb_83_55)
      | cons c r =>
        have hlen : r.length + 1 + 1 ≤ i := h.2.2.2.2.2.2.1
        have hi := h.2.1.2
        have hos := h.2.2.2.2.1.2
        rw [List.length_cons] at hw
        refine xb_83_0 (fun _ => xb_83_7 (by rw [hw, nI_pred]; exact nI_bd (by omega) (by omega)) ?_) (fun _ => xb_83_55)
        rw [hw, nI_pred, nI_clamp (by omega), hos.1]
        have := hX c r rfl
        exact xb_83_18 (m_str (by omega) (by have := hos.2.1; omega)) (xb_83_21 (fun _ => xb_83_55) (fun g => absurd (nI_lt this (by omega)) g))
    | cons c P ih =>
      intro X iv av K Mk h hP hX
      have hlen : (P ++ X).length + 1 + 1 ≤ i := h.2.2.2.2.2.2.1
      have hi := h.2.1.2
      have hos : av 39 (P ++ X).length = nI c ∧ c < 2 ^ 20 ∧ OS (av 39) (P ++ X) := h.2.2.2.2.1.2
      have hw : iv 16 = nI ((P ++ X).length + 1) := h.2.2.2.2.1.1
      have hs := hP c (List.mem_cons_self ..)
      have hn : c ≠ 40 ∧ c ≠ 91 := ⟨fun e => by subst e; have : st 40 = 0 := rfl; omega, fun e => by subst e; have : st 91 = 0 := rfl; omega⟩
      have h8 := h.2.2.2.2.2.2.2.1
      have h9 := h.2.2.2.2.2.2.2.2
      have hp := vs_pop (r := P ++ X) h hn.1 hn.2
      simp only [List.cons_append, List.length_cons] at h8 h9
      have hins := ins_lt c
      obtain ⟨iv1, av1, f1, x1, v1⟩ := vs_emit (lv := lv) (D := d) (o := ins c) (a := 0) (by omega) hp (by omega) (by omega) (by omega)
      obtain ⟨iv2, av2, f2, x2, v2⟩ := ih X iv1 av1 _ _ v1 (fun c hc => hP c (List.mem_cons_of_mem _ hc)) hX
      have f0 : VF iv av (upd iv 16 (nI (P ++ X).length)) av := ⟨fun q a => upd_ne' (by omega), fun _ _ _ _ => rfl⟩
      refine ⟨iv2, av2, f0.tr (f1.vf.tr f2), ?_, ?_⟩
      · have hcl := hos.2.1
        refine xb_83_0 (fun _ => xb_83_7 (by rw [hw, nI_pred]; exact nI_bd (by omega) (by omega)) ?_) (fun g => absurd (show nI 0 < iv 16 by rw [hw]; exact nI_lt (by omega) (by omega)) g)
        rw [hw, nI_pred, nI_clamp (by omega), hos.1]
        have h3 := st_le c
        refine xb_83_18 (m_str (by omega) (by omega)) (xb_83_21 (fun g => absurd g (nI_nlt hs (by omega))) (fun _ => xb_83_25 (by rw [hw, nI_pred]; exact nI_bd (by omega) (by omega)) ?_))
        rw [hw, nI_pred, nI_clamp (by omega), hos.1]
        exact xb_83_45 (m_ins (by omega) (by omega)) (xb_83_48 x1 (xb_83_52 x2))
      · have e1 : ∀ L : List In, L ++ em (c :: P) = L ++ [(ins c, 0)] ++ em P := fun L => by
          rw [List.append_assoc]; rfl
        rw [e1, e1]
        exact v2
  intro P X iv av K Mk h hP hX
  obtain ⟨iv', av', f, x, v⟩ := loop P X iv av K Mk h hP hX
  exact ⟨iv', av', f, xm_of (nL := 2) rfl rfl x, v⟩
theorem m_complete (hD : 3 ≤ D) : ∀ (ops : List Nat) iv av K Mk, VS n tx iv av i K Mk ops cf → ∃ iv' av', VF iv av iv' av' ∧ xm D 84 [.ref 27] (xs iv av lv) (none, xs iv' av' lv) ∧ VS n tx iv' av' i (K ++ nt ops) (Mk ++ nt ops) (dt ops) cf := by
  obtain ⟨d, rfl⟩ : ∃ d, D = d + 1 := ⟨D - 1, by omega⟩
  have loop : ∀ (ops : List Nat) iv av K Mk, VS n tx iv av i K Mk ops cf → ∃ iv' av', VF iv av iv' av' ∧ xe d xt_84 0 [some (.ref 27)] [] (xs iv av lv) (none, xs iv' av' lv) ∧ VS n tx iv' av' i (K ++ nt ops) (Mk ++ nt ops) (dt ops) cf := by
    intro ops
    induction ops with
    | nil =>
      intro iv av K Mk h
      have hw : iv 16 = nI 0 := h.2.2.2.2.1.1
      exact ⟨iv, av, VF.rf, xb_84_0 (fun g => absurd g (by rw [hw]; decide)) (fun _ => xb_84_43), by rw [show nt [] = [] from rfl, List.append_nil, List.append_nil]; exact h⟩
    | cons c r ih =>
      intro iv av K Mk h
      have hlen : r.length + 1 + 1 ≤ i := h.2.2.2.2.2.2.1
      have hi := h.2.1.2
      have hos := h.2.2.2.2.1.2
      have hw : iv 16 = nI (r.length + 1) := h.2.2.2.2.1.1
      have hcl := hos.2.1
      by_cases hc : c = 126
      · subst hc
        have h8 := h.2.2.2.2.2.2.2.1
        have h9 := h.2.2.2.2.2.2.2.2
        simp only [List.length_cons] at h8 h9
        obtain ⟨iv1, av1, f1, x1, v1⟩ := vs_emit (lv := lv) (D := d) (o := 11) (a := 0) (by omega) (vs_pop h (by decide) (by decide)) (by omega) (by omega) (by omega)
        obtain ⟨iv2, av2, f2, x2, v2⟩ := ih iv1 av1 _ _ v1
        have f0 : VF iv av (upd iv 16 (nI r.length)) av := ⟨fun q a => upd_ne' (by omega), fun _ _ _ _ => rfl⟩
        refine ⟨iv2, av2, f0.tr (f1.vf.tr f2), ?_, ?_⟩
        · refine xb_84_0 (fun _ => xb_84_7 (by rw [hw, nI_pred]; exact nI_bd (by omega) (by omega)) ?_) (fun g => absurd (show nI 0 < iv 16 by rw [hw]; exact nI_lt (by omega) (by omega)) g)
          rw [hw, nI_pred, nI_clamp (by omega), hos.1]
          refine xb_84_18 (fun _ => xb_84_23 ?_ (xb_84_40 x2)) (fun g => absurd rfl g)
          rw [hw, nI_pred]
          exact x1
        · rw [dt_y, nt_y]
          have e1 : ∀ L : List In, L ++ (11, 0) :: nt r = L ++ [(11, 0)] ++ nt r := fun L => by rw [List.append_assoc]; rfl
          rw [e1, e1]
          exact v2
      · refine ⟨iv, av, VF.rf, ?_, by rw [nt_n hc, dt_n hc, List.append_nil, List.append_nil]; exact h⟩
        refine xb_84_0 (fun _ => xb_84_7 (by rw [hw, nI_pred]; exact nI_bd (by omega) (by omega)) ?_) (fun _ => xb_84_43)
        rw [hw, nI_pred, nI_clamp (by omega), hos.1]
        exact xb_84_18 (fun g => absurd ((nI_eq (b := 126) (by omega) (by omega)).mp g) hc) (fun _ => xb_84_43)
  intro ops iv av K Mk h
  obtain ⟨iv', av', f, x, v⟩ := loop ops iv av K Mk h
  exact ⟨iv', av', f, xm_of (nL := 1) rfl rfl x, v⟩
theorem m_deep (hD : 2 ≤ D) (h16 : iv 16 = nI ops.length) (hos : OS (av 39) ops) (hl : ops.length ≤ 200) : xm D 85 [.ref 27] (xs iv av lv) (some (.int (nI (dps ops))), xs iv av lv) := by
  obtain ⟨d, rfl⟩ : ∃ d, D = d + 1 := ⟨D - 1, by omega⟩
  have loop : ∀ (m : Nat) (A B : List Nat), A.length = m → ops = A ++ B → xe d xt_85 4 [some (.ref 27), some (.int (nI (dps B))), some (.int (nI B.length))] [] (xs iv av lv) (some (.int (nI (dps ops))), xs iv av lv) := by
    intro m
    induction m with
    | zero =>
      intro A B hm he
      have : A = [] := List.eq_nil_of_length_eq_zero hm
      subst this
      rw [List.nil_append] at he
      subst he
      exact xb_85_4 (fun g => absurd g (by rw [h16]; exact nI_nlt (Nat.le_refl _) (by omega))) (fun _ => xb_85_38)
    | succ m ih =>
      intro A B hm he
      obtain ⟨A', c, rfl⟩ : ∃ A' c, A = A' ++ [c] := by
        rcases List.eq_nil_or_concat A with h | ⟨A', c, h⟩
        · rw [h] at hm; cases hm
        · exact ⟨A', c, by rw [h, List.concat_eq_append]⟩
      rw [List.append_assoc] at he
      have hc : av 39 B.length = nI c ∧ c < 2 ^ 20 ∧ OS (av 39) B := os_tail (P := A') (X := [c] ++ B) (by rw [← he]; exact hos)
      have hl2 : ops.length = A'.length + (1 + B.length) := by rw [he]; simp only [List.length_append, List.length_cons, List.length_nil, Nat.zero_add]
      refine xb_85_4 (fun _ => xb_85_12 (nI_bd (by omega) (by omega)) ?_) (fun g => absurd (by rw [h16]; exact nI_lt (by omega) (by omega)) g)
      rw [nI_clamp (by omega), hc.1]
      have hcl := hc.2.1
      have hst := st_le c
      have ihc := ih A' (c :: B) (by rw [List.length_append] at hm; simp only [List.length_cons, List.length_nil] at hm; omega) (by rw [he]; rfl)
      rw [List.length_cons] at ihc
      refine xb_85_19 (m_str (by omega) (by omega)) (xb_85_22 (fun g => ?_) (fun g => ?_))
      · have g0 := (nI_eq (b := 0) (by omega) (by omega)).mp g
        refine xb_85_25 (xb_85_30 ?_)
        rw [nI_1, nI_1]
        rw [dps_0 g0] at ihc
        exact ihc
      · have g0 : st c ≠ 0 := fun q => g (by rw [q]; rfl)
        refine xb_85_29 (xb_85_30 ?_)
        rw [nI_1, show nI (dps B) + 0 = nI (dps B) from nI_add _ 0]
        rw [dps_n g0] at ihc
        exact ihc
  exact xm_of (nL := 3) rfl rfl (xb_85_0 (loop ops.length ops [] rfl (by rw [List.append_nil])))
end MS
