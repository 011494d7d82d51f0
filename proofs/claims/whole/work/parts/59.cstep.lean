/-! The class's machine: one instruction, a whole run. -/
theorem sw62 : ∀ o, o < 12 → (xi_swt (nI o) [(0, 64), (1, 72), (2, 84), (3, 96), (4, 114), (5, 146), (6, 146), (7, 146), (8, 146), (9, 146), (10, 146), (11, 134)] 146).toNat = if o = 0 then 64 else if o = 1 then 72 else if o = 2 then 84 else if o = 3 then 96 else if o = 4 then 114 else if o = 11 then 134 else 146 := by decide
theorem sw64 : ∀ o, o < 20 → (xi_swt (nI o) [(12, 40), (13, 51), (14, 66), (15, 74), (16, 101), (17, 116)] 132).toNat = if o = 12 then 40 else if o = 13 then 51 else if o = 14 then 66 else if o = 15 then 74 else if o = 16 then 101 else if o = 17 then 116 else 132 := by decide
theorem cost_cs : ∀ o, o < 20 → xi_cost o = nI (cs1 o) := by decide
theorem cs1_pos : ∀ o, o < 19 → 1 ≤ cs1 o := by decide
theorem exi_y {o a y : Nat} {S S1 : MQt} (ho : o < 19) (h : exi o a S = some (y, S1)) : 1 ≤ y ∧ y ≤ 20 ∧ S1.2.2.2.2 ≤ S.2.2.2.2 + 1 := by
  obtain ⟨k, s, P, O, oc⟩ := S
  unfold exi at h
  dsimp only at h ⊢
  have c1 := cs1_pos o ho
  have c2 := cs1_le o
  by_cases o0 : o = 0
  · rw [if_pos o0] at h; cases h; dsimp only; omega
  rw [if_neg o0] at h
  by_cases o1 : o = 1
  · rw [if_pos o1] at h; cases h; dsimp only; omega
  rw [if_neg o1] at h
  by_cases o14 : o = 14
  · rw [if_pos o14] at h; cases h; dsimp only; omega
  rw [if_neg o14] at h
  by_cases o17 : o = 17
  · rw [if_pos o17] at h; cases h; dsimp only; omega
  rw [if_neg o17] at h
  cases s with
  | nil => cases h
  | cons t r =>
    dsimp only at h
    by_cases o2 : o = 2
    · rw [if_pos o2] at h; cases h; dsimp only; omega
    rw [if_neg o2] at h
    by_cases o3 : o = 3
    · rw [if_pos o3] at h; cases h; dsimp only; omega
    rw [if_neg o3] at h
    by_cases o11 : o = 11
    · rw [if_pos o11] at h; cases h; dsimp only; omega
    rw [if_neg o11] at h
    by_cases o12 : o = 12
    · rw [if_pos o12] at h; cases h; dsimp only; omega
    rw [if_neg o12] at h
    by_cases o13 : o = 13
    · rw [if_pos o13] at h
      by_cases t0 : t = 0
      · rw [if_pos t0] at h; cases h; dsimp only; omega
      · rw [if_neg t0] at h; cases h; dsimp only; omega
    rw [if_neg o13] at h
    by_cases o15 : o = 15
    · rw [if_pos o15] at h
      by_cases t0 : t = 0
      · rw [if_pos t0] at h; cases h; dsimp only; omega
      · rw [if_neg t0] at h; cases h; dsimp only; omega
    rw [if_neg o15] at h
    by_cases o16 : o = 16
    · rw [if_pos o16] at h; cases h; dsimp only; omega
    rw [if_neg o16] at h
    by_cases o18 : o = 18
    · rw [if_pos o18] at h; cases h; dsimp only; omega
    rw [if_neg o18] at h
    cases r with
    | nil => cases h
    | cons v q =>
      dsimp only at h
      by_cases o4 : o = 4
      · rw [if_pos o4] at h; cases h; dsimp only; omega
      rw [if_neg o4] at h
      by_cases o5 : 5 ≤ o ∧ o ≤ 10
      · rw [if_pos o5] at h; cases h; dsimp only; omega
      · rw [if_neg o5] at h; cases h
section CST
variable {D : Nat} {iv : Nat → Int32} {av : Nat → Nat → Int32} {lv : Nat → Nat → Int64} {k oc cy hi o a y : Nat} {s : List Int32} {P O : Nat → Int32} {S1 : MQt}
theorem c_compute (hD : 2 ≤ D) (h : CM iv av (k + 1, s, P, O, oc) cy hi) (ho : o ≤ 11) (hx : exi o a (k, s, P, O, oc) = some (y, S1)) (ht : trp o a s = 0) (ha : o = 1 ∨ o = 2 → a < 6) (hB : S1.2.1.length ≤ 199) : y = cs1 o ∧ ∃ iv' av', XF iv av iv' av' ∧ CM iv' av' S1 cy (max hi S1.2.1.length) ∧ xm D 62 [.ref 23, .int (nI o), .int (nI a)] (xs iv av lv) (none, xs iv' av' lv) := by
  obtain ⟨d, rfl⟩ : ∃ d, D = d + 1 := ⟨D - 1, by omega⟩
  have go : ∀ x, xe d xt_62 (if o = 0 then 64 else if o = 1 then 72 else if o = 2 then 84 else if o = 3 then 96 else if o = 4 then 114 else if o = 11 then 134 else 146) [some (.ref 23), some (.int (nI o)), some (.int (nI a)), none, none, none] [] (xs iv av lv) x → xm (d + 1) 62 [.ref 23, .int (nI o), .int (nI a)] (xs iv av lv) x := fun x hx => xm_of (nL := 6) rfl rfl (xb_62_0 (by rw [sw62 o (by omega)]; exact hx))
  by_cases h0 : o = 0
  · subst h0
    have hx : some (1, k + 1, nI a :: s, P, O, oc) = some (y, S1) := hx
    cases hx
    obtain ⟨iv1, av1, f1, c1, x1⟩ := c_push (D := d) (lv := lv) (v := nI a) (by omega) h (by have : s.length + 1 ≤ 199 := hB; omega)
    exact ⟨rfl, iv1, av1, f1, c1, go _ (xb_62_64 x1 (xb_62_69 xb_62_170))⟩
  by_cases h1 : o = 1
  · subst h1
    have hx : some (2, k + 1, P a :: s, P, O, oc) = some (y, S1) := hx
    cases hx
    have x0 := c_place (D := d) (lv := lv) (j := a) (by omega) h (by have := ha (Or.inl rfl); omega)
    obtain ⟨iv1, av1, f1, c1, x1⟩ := c_push (D := d) (lv := lv) (v := P a) (by omega) h (by have : s.length + 1 ≤ 199 := hB; omega)
    exact ⟨rfl, iv1, av1, f1, c1, go _ (xb_62_72 x0 (xb_62_78 x1 (xb_62_81 xb_62_170)))⟩
  cases s with
  | nil =>
    unfold exi at hx
    dsimp only at hx
    rw [if_neg h0, if_neg h1, if_neg (by omega), if_neg (by omega)] at hx
    cases hx
  | cons t r =>
    unfold exi at hx
    dsimp only at hx
    rw [if_neg h0, if_neg h1, if_neg (by omega), if_neg (by omega)] at hx
    rw [if_neg h0, if_neg h1] at go
    obtain ⟨iv1, f1, c1, x1⟩ := c_pop (D := d) (lv := lv) (by omega) h
    by_cases h2 : o = 2
    · subst h2
      rw [if_pos rfl] at hx go
      cases hx
      obtain ⟨av2, f2, c2, x2⟩ := c_store (D := d) (lv := lv) (v := t) (j := a) (by omega) c1 (by have := ha (Or.inr rfl); omega)
      exact ⟨rfl, iv1, av2, f1.tr f2, by rw [c2.mx]; exact c2, go _ (xb_62_84 x1 (xb_62_90 x2 (xb_62_93 xb_62_170)))⟩
    rw [if_neg h2] at hx go
    by_cases h3 : o = 3
    · subst h3
      rw [if_pos rfl] at hx go
      cases hx
      have hw : isW t := by
        by_cases hw : isW t
        · exact hw
        · have : trp 3 a (t :: r) = if isW t then 0 else 2 := rfl
          rw [this, if_neg hw] at ht
          cases ht
      obtain ⟨j, hj, rfl⟩ := isW_n hw
      have ej : (nI j).toNatClampNeg = j := nI_clamp (by omega)
      have x2 := c_place (D := d) (lv := lv) (j := 6 + j) (by omega) c1 (by omega)
      obtain ⟨iv3, av3, f3, c3, x3⟩ := c_push (D := d) (lv := lv) (v := P (6 + j)) (by omega) c1 (by have : r.length + 1 ≤ 199 := hB; omega)
      refine ⟨rfl, iv3, av3, f1.tr f3, ?_, go _ (xb_62_96 x1 (xb_62_104 (by rw [show (6 : Int32) + nI j = nI (6 + j) from nI_add 6 j]; exact x2) (xb_62_108 x3 (xb_62_111 xb_62_170))))⟩
      rw [ej]
      exact c3
    rw [if_neg h3] at hx go
    by_cases h11 : o = 11
    · subst h11
      rw [if_pos rfl] at hx
      rw [if_neg (by decide), if_pos rfl] at go
      cases hx
      obtain ⟨iv3, av3, f3, c3, x3⟩ := c_push (D := d) (lv := lv) (v := -t) (by omega) c1 (by have : r.length + 1 ≤ 199 := hB; omega)
      exact ⟨rfl, iv3, av3, f1.tr f3, c3, go _ (xb_62_134 x1 (xb_62_139 x3 (xb_62_143 xb_62_170)))⟩
    rw [if_neg h11, if_neg (by omega), if_neg (by omega), if_neg (by omega), if_neg (by omega), if_neg (by omega)] at hx
    cases r with
    | nil => cases hx
    | cons v q =>
      dsimp only at hx
      obtain ⟨iv2, f2, c2, x2⟩ := c_pop (D := d) (lv := lv) (by omega) c1
      by_cases h4 : o = 4
      · subst h4
        rw [if_pos rfl] at hx go
        cases hx
        have hw : isW v := by
          by_cases hw : isW v
          · exact hw
          · have : trp 4 a (t :: v :: q) = if isW v then 0 else 2 := rfl
            rw [this, if_neg hw] at ht
            cases ht
        obtain ⟨j, hj, rfl⟩ := isW_n hw
        have ej : (nI j).toNatClampNeg = j := nI_clamp (by omega)
        obtain ⟨av3, f3, c3, x3⟩ := c_store (D := d) (lv := lv) (v := t) (j := 6 + j) (by omega) c2 (by omega)
        refine ⟨rfl, iv2, av3, (f1.tr f2).tr f3, ?_, go _ (xb_62_114 x1 (xb_62_118 x2 (xb_62_126 (by rw [show (6 : Int32) + nI j = nI (6 + j) from nI_add 6 j]; exact x3) (xb_62_131 xb_62_170))))⟩
        rw [ej]
        rw [c3.mx]
        exact c3
      rw [if_neg h4, if_pos (by omega)] at hx
      rw [if_neg h4, if_neg h11] at go
      cases hx
      obtain ⟨iv3, av3, f3, c3, x3⟩ := c_push (D := d) (lv := lv) (v := opr o v t) (by omega) c2 (by have : q.length + 1 ≤ 199 := hB; omega)
      exact ⟨rfl, iv3, av3, (f1.tr f2).tr f3, c3, go _ (xb_62_146 x1 (xb_62_150 x2 (xb_62_156 (c_combine (by omega) (by omega)) (xb_62_167 x3 xb_62_170))))⟩
theorem c_steer (hD : 2 ≤ D) (h : CM iv av (k + 1, s, P, O, oc) (cy + cs1 o) hi) (ho : 12 ≤ o) (ho2 : o < 19) (hx : exi o a (k, s, P, O, oc) = some (y, S1)) (hB : S1.2.1.length ≤ 199) (ha : a < 2 ^ 20) (hcy : cy + 20 < 2 ^ 20) (hoc : oc + 1 < 2 ^ 20) (h18 : o = 18 → ∃ k, s.head? = some (nI k) ∧ k < 2 ^ 20) : ∃ iv' av', XF iv av iv' av' ∧ CM iv' av' S1 (cy + y) (max hi S1.2.1.length) ∧ xm D 64 [.ref 23, .int (nI o), .int (nI a)] (xs iv av lv) (none, xs iv' av' lv) := by
  obtain ⟨d, rfl⟩ : ∃ d, D = d + 1 := ⟨D - 1, by omega⟩
  have go : ∀ x, xe d xt_64 (if o = 12 then 40 else if o = 13 then 51 else if o = 14 then 66 else if o = 15 then 74 else if o = 16 then 101 else if o = 17 then 116 else 132) [some (.ref 23), some (.int (nI o)), some (.int (nI a)), none] [] (xs iv av lv) x → xm (d + 1) 64 [.ref 23, .int (nI o), .int (nI a)] (xs iv av lv) x := fun x hx => xm_of (nL := 4) rfl rfl (xb_64_0 (by rw [sw64 o (by omega)]; exact hx))
  by_cases h14 : o = 14
  · subst h14
    have hx : some (2, a, s, P, O, oc) = some (y, S1) := hx
    cases hx
    have c1 := h.at (k' := a) ha
    exact ⟨_, av, xf9, by rw [c1.mx]; exact c1, go _ (xb_64_66 xb_64_140)⟩
  by_cases h17 : o = 17
  · subst h17
    have hx : some (4, a, nI (k + 1) :: s, P, O, oc) = some (y, S1) := hx
    cases hx
    obtain ⟨iv1, av1, f1, c1, x1⟩ := c_push (D := d) (lv := lv) (v := nI (k + 1)) (by omega) h (by have : s.length + 1 ≤ 199 := hB; omega)
    have c2 := c1.at (k' := a) ha
    refine ⟨_, av1, f1.tr xf9, c2, go _ (xb_64_116 ?_ (xb_64_124 xb_64_140))⟩
    rw [h.1.1]
    exact x1
  cases s with
  | nil =>
    unfold exi at hx
    dsimp only at hx
    rw [if_neg (by omega), if_neg (by omega), if_neg h14, if_neg h17] at hx
    cases hx
  | cons t r =>
    unfold exi at hx
    dsimp only at hx
    rw [if_neg (by omega), if_neg (by omega), if_neg h14, if_neg h17, if_neg (by omega), if_neg (by omega), if_neg (by omega)] at hx
    obtain ⟨iv1, f1, c1, x1⟩ := c_pop (D := d) (lv := lv) (by omega) h
    by_cases h12 : o = 12
    · subst h12
      rw [if_pos rfl] at hx go
      cases hx
      obtain ⟨iv2, av2, f2, c2, x2⟩ := c_out (D := d) (lv := lv) (v := t) (by omega) c1 hoc
      exact ⟨iv2, av2, f1.tr f2, by rw [c2.mx]; exact c2, go _ (xb_64_40 x1 (xb_64_45 x2 (xb_64_48 xb_64_140)))⟩
    rw [if_neg h12] at hx go
    by_cases h13 : o = 13
    · subst h13
      rw [if_pos rfl] at hx go
      by_cases t0 : t = 0
      · rw [if_pos t0] at hx
        cases hx
        obtain ⟨f2, c2, x2⟩ := c_goto (D := d) (lv := lv) (k' := a) (by omega) c1 ha (by have : cs1 13 = 1 := rfl; omega)
        refine ⟨_, av, f1.tr f2, ?_, go _ (xb_64_51 x1 (xb_64_55 (fun _ => xb_64_58 x2 (xb_64_63 xb_64_140)) (fun g => absurd t0 g)))⟩
        rw [c2.mx]
        exact c2
      · rw [if_neg t0] at hx
        cases hx
        exact ⟨iv1, av, f1, by rw [c1.mx]; exact c1, go _ (xb_64_51 x1 (xb_64_55 (fun g => absurd g t0) (fun _ => xb_64_140)))⟩
    rw [if_neg h13] at hx go
    by_cases h15 : o = 15
    · subst h15
      rw [if_pos rfl] at hx
      rw [if_neg (by decide), if_pos rfl] at go
      by_cases t0 : t = 0
      · rw [if_pos t0] at hx
        cases hx
        obtain ⟨f2, c2, x2⟩ := c_goto (D := d) (lv := lv) (k' := a) (by omega) c1 ha (by have : cs1 15 = 1 := rfl; omega)
        refine ⟨_, av, f1.tr f2, ?_, go _ (xb_64_74 x1 (xb_64_78 (fun _ => xb_64_83 x2 (xb_64_88 xb_64_140)) (fun g => absurd t0 g)))⟩
        rw [c2.mx]
        exact c2
      · rw [if_neg t0] at hx
        cases hx
        obtain ⟨iv2, av2, f2, c2, x2⟩ := c_push (D := d) (lv := lv) (v := t - 1) (by omega) c1 (by have : r.length + 1 ≤ 199 := hB; omega)
        exact ⟨iv2, av2, f1.tr f2, c2, go _ (xb_64_74 x1 (xb_64_78 (fun g => absurd g t0) (fun _ => xb_64_91 x2 (xb_64_98 xb_64_140))))⟩
    rw [if_neg h15] at hx
    rw [if_neg h14, if_neg h15] at go
    by_cases h16 : o = 16
    · subst h16
      rw [if_pos rfl] at hx go
      cases hx
      obtain ⟨iv2, av2, f2, c2, x2⟩ := c_push (D := d) (lv := lv) (v := if t < 0 then 0 else t) (by omega) c1 (by have : r.length + 1 ≤ 199 := hB; omega)
      exact ⟨iv2, av2, f1.tr f2, c2, go _ (xb_64_101 x1 (xb_64_106 x2 (xb_64_113 xb_64_140)))⟩
    rw [if_neg h16] at hx
    rw [if_neg h16, if_neg h17] at go
    have e18 : o = 18 := by clear h18; omega
    subst e18
    rw [if_pos rfl] at hx
    cases hx
    obtain ⟨kk, hkk, hkl⟩ := h18 rfl
    have : t = nI kk := Option.some.inj hkk
    subst this
    have ek : (nI kk).toNatClampNeg = kk := nI_clamp (by omega)
    have c2 := c1.at (k' := kk) hkl
    refine ⟨_, av, f1.tr xf9, ?_, go _ (xb_64_132 x1 (xb_64_137 xb_64_140))⟩
    rw [ek]
    rw [c2.mx]
    exact c2
def PCc (iv : Nat → Int32) (av : Nat → Nat → Int32) (C : List In) : Prop := iv 4 = nI C.length ∧ C.length ≤ 200 ∧ ∀ j o a, C[j]? = some (o, a) → av 17 j = nI o ∧ av 18 j = nI a
theorem PCc.to {iv iv' : Nat → Int32} {av av' : Nat → Nat → Int32} {C : List In} (h : PCc iv av C) (f : XF iv av iv' av') : PCc iv' av' C := ⟨by rw [f.1 4 (by omega)]; exact h.1, h.2.1, fun j o a hj => by rw [f.2 17 (by omega), f.2 18 (by omega)]; exact h.2.2 j o a hj⟩
theorem c_st_pre {C : List In} {S : MQt} (h : CM iv av S cy hi) (hp : PCc iv av C) (hk : C[S.1]? = some (o, a)) (ho : o < 20) {x : xi_R} {d : Nat} (g19 : o = 19 → xe d xt_59 70 [some (.ref 23), some (.ref 16), some (.int (nI o)), some (.int (nI a)), none] [] (xs (upd iv 7 (nI (cy + cs1 o))) av lv) x) (gn : o ≠ 19 → xe d xt_59 72 [some (.ref 23), some (.ref 16), some (.int (nI o)), some (.int (nI a)), none] [] (xs (upd iv 7 (nI (cy + cs1 o))) av lv) x) : xm (d + 1) 59 [.ref 23, .ref 16] (xs iv av lv) x := by
  have hl := (List.getElem?_eq_some_iff.mp hk).1
  have h9 := h.1.1
  have h7 := h.2.2.2.2.2.1.1
  obtain ⟨p1, p2, p3⟩ := hp
  obtain ⟨e17, e18⟩ := p3 _ _ _ hk
  have ck : (nI S.1).toNatClampNeg = S.1 := nI_clamp (by omega)
  have hb : 0 ≤ (nI S.1).toInt ∧ (nI S.1).toInt < ((200 : Nat) : Int) := nI_bd (by omega) (by omega)
  refine xm_of (nL := 5) rfl rfl (xb_59_0 (fun g => ?_) (fun _ => xb_59_7 (fun _ => xb_59_18 (fun _ => xb_59_30 (by rw [h9]; exact hb) ?_) (fun g => ?_)) (fun g => ?_)))
  · rw [h9] at g
    exact absurd g (nI_pos (by omega))
  · rw [h9, ck, e17]
    refine xb_59_39 (by rw [h9]; exact hb) ?_
    rw [h9, ck, e18]
    refine xb_59_49 (nI_bd ho (by omega)) ?_
    rw [nI_clamp (by omega), cost_cs o ho]
    refine xb_59_60 (fun g => ?_) (fun g => ?_)
    · rw [h7, nI_add]
      exact g19 ((nI_eq (b := 19) (by omega) (by omega)).mp g)
    · rw [h7, nI_add]
      exact gn (fun e => g (by rw [e]; rfl))
  · rw [h9] at g
    exact absurd (show nI S.1 < nI 200 from nI_lt (by omega) (by omega)) g
  · rw [h9, p1] at g
    exact absurd (nI_lt hl (by omega)) g
theorem cm_cy {S : MQt} {cy' : Nat} (h : CM iv av S cy hi) (hc : cy' < 2 ^ 20) : XF iv av (upd iv 7 (nI cy')) av ∧ CM (upd iv 7 (nI cy')) av S cy' hi := by
  obtain ⟨h1, h2, h3, h4, h5, ⟨h6, h6'⟩, h7⟩ := h
  exact ⟨⟨fun q a => upd_ne' (by omega), fun _ _ => rfl⟩, h1, h2, h3, h4, h5, ⟨upd_eq', hc⟩, h7⟩
theorem c_step1 {C : List In} {S : MQt} (hD : 3 ≤ D) (h : CM iv av S cy hi) (hp : PCc iv av C) (hk : C[S.1]? = some (o, a)) (ho : o < 19) (ht : trp o a S.2.1 = 0) (hx : exi o a S = some (y, S1)) (hB : S1.2.1.length ≤ 199) (ha : o = 1 ∨ o = 2 → a < 6) (ha2 : a < 2 ^ 20) (h18 : o = 18 → ∃ k, S.2.1.head? = some (nI k) ∧ k < 2 ^ 20) (hcy : cy + 20 < 2 ^ 20) (hoc : S.2.2.2.2 + 1 < 2 ^ 20) : ∃ iv' av', XF iv av iv' av' ∧ CM iv' av' S1 (cy + y) (max hi S1.2.1.length) ∧ xm D 59 [.ref 23, .ref 16] (xs iv av lv) (some (.int (-1)), xs iv' av' lv) := by
  obtain ⟨d, rfl⟩ : ∃ d, D = d + 1 := ⟨D - 1, by omega⟩
  have hc20 := cs1_le o
  have hl := (List.getElem?_eq_some_iff.mp hk).1
  have hl2 := hp.2.1
  obtain ⟨f1, c1⟩ := cm_cy (cy' := cy + cs1 o) h (by omega)
  have xt := c_trap (D := d) (lv := lv) (o := o) (a := a) (by omega) c1 (by omega)
  rw [ht] at xt
  obtain ⟨k, s, P, O, oc⟩ := S
  have c2 := c1.at (k' := k + 1) (by have : k < C.length := hl; omega)
  have e9 : upd iv 7 (nI (cy + cs1 o)) 9 + 1 = nI (k + 1) := by
    show iv 9 + 1 = _
    rw [h.1.1, nI_1]
  by_cases h11 : o ≤ 11
  · obtain ⟨ey, iv3, av3, f3, c3, x3⟩ := c_compute (D := d) (lv := lv) (by omega) c2 h11 hx ht ha hB
    refine ⟨iv3, av3, (f1.tr xf9).tr f3, by rw [ey]; exact c3, c_st_pre h hp hk (by omega) (fun e => by omega) (fun _ => xb_59_72 xt (xb_59_78 (fun _ => xb_59_88 (fun g => ?_) (fun _ => ?_)) (fun g => absurd rfl g)))⟩
    · exact absurd ((nI_ltI (a := 11) (by omega) (by omega)).mp g) (by omega)
    · rw [e9]
      exact xb_59_104 x3 (xb_59_110 xb_59_119)
  · obtain ⟨iv3, av3, f3, c3, x3⟩ := c_steer (D := d) (lv := lv) (by omega) c2 (by omega) ho hx hB ha2 hcy hoc h18
    refine ⟨iv3, av3, (f1.tr xf9).tr f3, c3, c_st_pre h hp hk (by omega) (fun e => by omega) (fun _ => xb_59_72 xt (xb_59_78 (fun _ => xb_59_88 (fun _ => ?_) (fun g => ?_)) (fun g => absurd rfl g)))⟩
    · rw [e9]
      exact xb_59_113 x3 xb_59_119
    · exact absurd ((nI_ltI (a := 11) (by omega) (by omega)).mpr (by omega)) g
theorem c_step0 {C : List In} {S : MQt} (hD : 3 ≤ D) (h : CM iv av S cy hi) (hp : PCc iv av C) (hk : C[S.1]? = some (o, a)) (ho : o < 20) (ht : (o = 19 ∧ trp o a S.2.1 = 0) ∨ (o < 19 ∧ trp o a S.2.1 ≠ 0)) (hcy : cy + 20 < 2 ^ 20) : ∃ iv', XF iv av iv' av ∧ CM iv' av S (cy + cs1 o) hi ∧ xm D 59 [.ref 23, .ref 16] (xs iv av lv) (some (.int (nI (trp o a S.2.1))), xs iv' av lv) := by
  obtain ⟨d, rfl⟩ : ∃ d, D = d + 1 := ⟨D - 1, by omega⟩
  have hc20 := cs1_le o
  obtain ⟨f1, c1⟩ := cm_cy (cy' := cy + cs1 o) h (by omega)
  refine ⟨_, f1, c1, c_st_pre h hp hk ho (fun e => ?_) (fun e => ?_)⟩
  · have : trp o a S.2.1 = 0 := by omega
    rw [this]
    exact xb_59_70
  · have xt := c_trap (D := d) (lv := lv) (o := o) (a := a) (by omega) c1 (by omega)
    have hne : trp o a S.2.1 ≠ 0 := by omega
    have hle : trp o a S.2.1 < 2 ^ 31 := by
      unfold trp
      repeat' split
      all_goals omega
    exact xb_59_72 xt (xb_59_78 (fun g => absurd ((nI_eq (b := 0) hle (by omega)).mp g) hne) (fun _ => xb_59_85))
end CST
/-- the instruction at S ends the run: END, or a trap r -/
def FIN (C : List In) (S : MQt) (r z : Nat) : Prop := ∃ o a, C[S.1]? = some (o, a) ∧ ((o = 19 ∧ trp o a S.2.1 = 0) ∨ (o < 19 ∧ trp o a S.2.1 ≠ 0)) ∧ r = trp o a S.2.1 ∧ z = cs1 o
section CRN
variable {D e : Nat} {lv : Nat → Nat → Int64} {C : List In}
theorem c_go (he : 3 ≤ e) (hA : ∀ q ∈ C, q.2 < 2 ^ 20) : ∀ (n : Nat) (S : MQt) (cy hi : Nat) (S' : MQt) (cy' hi' : Nat) iv av i, GO C 199 n S cy hi S' cy' hi' → CM iv av S cy hi → PCc iv av C → n + i ≤ 20000 → cy ≤ 20 * i → S.2.2.2.2 ≤ i → cy' ≤ 20 * (i + n) ∧
    ∃ iv' av', XF iv av iv' av' ∧ CM iv' av' S' cy' hi' ∧ ∀ x, xe e xt_58 34 [some (.ref 23), some (.ref 16), some (.int (-1)), some (.int (nI (i + n)))] [] (xs iv' av' lv) x → xe e xt_58 34 [some (.ref 23), some (.ref 16), some (.int (-1)), some (.int (nI i))] [] (xs iv av lv) x
  | 0, S, cy, hi, S', cy', hi', iv, av, i, h, hm, hp, hn, hc, ho => by
    obtain ⟨rfl, rfl, rfl⟩ := h
    exact ⟨by omega, iv, av, XF.rf, hm, fun x hx => hx⟩
  | n + 1, S, cy, hi, S', cy', hi', iv, av, i, h, hm, hp, hn, hc, ho => by
    obtain ⟨o, a, y, S1, h1, h2, h3, h4, h5, h6, h8, h9⟩ := h
    have hy := exi_y h2 h4
    obtain ⟨iv1, av1, f1, c1, x1⟩ := c_step1 (D := e) (lv := lv) he hm hp h1 h2 h3 h4 h5 h6 (hA _ (List.mem_of_getElem? h1)) h8 (by omega) (by omega)
    obtain ⟨g0, iv2, av2, f2, c2, x2⟩ := c_go he hA n S1 (cy + y) _ S' cy' hi' iv1 av1 (i + 1) h9 c1 (hp.to f1) (by omega) (by omega) (by omega)
    refine ⟨by omega, iv2, av2, f1.tr f2, c2, fun x hx => xb_58_34 (fun g => ?_) (fun _ => xb_58_41 (fun _ => xb_58_46 x1 (xb_58_51 ?_)) (fun g => absurd rfl g))⟩
    · exact absurd ((nI_ltI (a := 20000) (by omega) (by omega)).mp g) (by omega)
    · rw [nI_1]
      refine x2 x ?_
      rw [show i + 1 + n = i + (n + 1) by omega]
      exact hx
theorem c_carry {iv : Nat → Int32} {av : Nat → Nat → Int32} {n cy hi r z : Nat} {S : MQt} (hD : 4 ≤ D) (hA : ∀ q ∈ C, q.1 < 20 ∧ q.2 < 2 ^ 20) (hp : PCc iv av C) (hg : GO C 199 n (0, [], av 24, av 25, 0) 0 0 S cy hi) (hn : n ≤ 20000) (hf : FIN C S r z) :
    ∃ iv' av', ((∀ q, q < 5 ∨ 10 < q → iv' q = iv q) ∧ ∀ q, q < 24 ∨ 26 < q → av' q = av q) ∧ (iv' 6 = 1 ∧ iv' 7 = nI (cy + z) ∧ iv' 8 = nI hi ∧ iv' 9 = nI S.1 ∧ iv' 10 = nI S.2.2.2.2) ∧ EQn 14 (av' 24) S.2.2.1 ∧ EQn 32 (av' 25) S.2.2.2.1 ∧ xm D 58 [.ref 23, .ref 16] (xs iv av lv) (some (.int (nI r)), xs iv' av' lv) := by
  obtain ⟨d, rfl⟩ : ∃ d, D = d + 1 := ⟨D - 1, by omega⟩
  generalize hiv1 : upd (upd (upd (upd (upd (upd iv 6 1) 5 0) 8 0) 7 0) 9 0) 10 0 = iv1
  have f0 : ∀ q, q < 5 ∨ 10 < q → iv1 q = iv q := fun q a => by
    subst hiv1
    rw [upd_ne' (by omega), upd_ne' (by omega), upd_ne' (by omega), upd_ne' (by omega), upd_ne' (by omega), upd_ne' (by omega)]
  have c0 : CM iv1 av (0, [], av 24, av 25, 0) 0 0 := by
    subst hiv1
    exact ⟨⟨rfl, by show (0 : Nat) < 2 ^ 20; omega⟩, ⟨rfl, by simp, trivial⟩, fun _ _ => rfl, fun _ _ => rfl, ⟨rfl, by show (0 : Nat) < 2 ^ 20; omega⟩, ⟨rfl, by omega⟩, rfl, by omega, by simp⟩
  have p0 : PCc iv1 av C := ⟨by rw [f0 4 (by omega)]; exact hp.1, hp.2⟩
  obtain ⟨g0, iv2, av2, f2, c2, x2⟩ := c_go (e := d) (lv := lv) (by omega) (fun q hq => (hA q hq).2) n _ _ _ _ _ _ iv1 av 0 hg c0 p0 (by omega) (by omega) (Nat.zero_le _)
  obtain ⟨o, a, k1, k2, rfl, rfl⟩ := hf
  obtain ⟨iv3, f3, c3, x3⟩ := c_step0 (D := d) (lv := lv) (by omega) c2 (p0.to f2) k1 (hA _ (List.mem_of_getElem? k1)).1 k2 (by omega)
  have e6 : iv1 6 = 1 := by subst hiv1; rfl
  have hne : ¬ nI (trp o a S.2.1) = -1 := by
    refine nI_m1 ?_
    unfold trp
    repeat' split
    all_goals omega
  refine ⟨iv3, av2, ⟨fun q a => ?_, fun q a => f2.2 q a⟩, ⟨?_, c3.2.2.2.2.2.1.1, c3.2.2.2.2.2.2.1, c3.1.1, c3.2.2.2.2.1.1⟩, c3.2.2.1, c3.2.2.2.1, xm_of (nL := 4) rfl rfl (xb_58_0 ?_)⟩
  · rw [f3.1 q (by omega), f2.1 q (by omega), f0 q a]
  · rw [f3.1 6 (by omega), f2.1 6 (by omega), e6]
  · rw [hiv1]
    refine x2 _ (xb_58_34 (fun g => ?_) (fun _ => xb_58_41 (fun _ => xb_58_46 x3 (xb_58_51 ?_)) (fun g => absurd rfl g)))
    · exact absurd ((nI_ltI (a := 20000) (by omega) (by omega)).mp g) (by omega)
    · exact xb_58_34 (fun _ => xb_58_58) (fun _ => xb_58_41 (fun g => absurd g hne) (fun _ => xb_58_58))
end CRN
