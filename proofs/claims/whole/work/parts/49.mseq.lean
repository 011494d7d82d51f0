/-! The reference: statements and blocks, whole. -/
def RO (e : Nat) (lv : Nat → Nat → Int64) (n : Nat) (tx : Nat → Nat) (iv : Nat → Int32) (av : Nat → Nat → Int32) (K Mk : List In) (bs : List (Nat × Nat)) (res : MR) : Prop := match res with
  | some q => ∃ iv' av', SF iv av iv' av' ∧ GS n tx iv' av' q.1 (K ++ sh K.length q.2.1) (Mk ++ q.2.2) bs 0 ∧ ∀ x, RH e lv iv' av' x → RH e lv iv av x
  | none => ∃ iv' av', SF iv av iv' av' ∧ RH e lv iv av (some (.int 0), xs iv' av' lv)
def TLm (e n : Nat) (tx : Nat → Nat) (r : Nat) (T : Nat → MR) : Prop := ∀ iv av lv i K Mk bs, GS n tx iv av i K Mk bs 0 → bs.length + r = 6 → 1 ≤ bs.length → tx i ≠ 125 → RO e lv n tx iv av K Mk bs (T i)
theorem sh_nj {k : Nat} {c : List In} (h : ∀ q ∈ c, ¬ (q.1 = 13 ∨ q.1 = 14 ∨ q.1 = 15)) : sh k c = c := by
  unfold sh
  have : ∀ q ∈ c, (fun q : In => if q.1 = 13 ∨ q.1 = 14 ∨ q.1 = 15 then (q.1, q.2 + k) else q) q = id q := fun q hq => by
    dsimp only
    rw [if_neg (h q hq)]
    rfl
  rw [List.map_congr_left this, List.map_id]
theorem ex_nj {c : List In} (h : ∀ q ∈ c, EX q.1 ∧ q.2 < 1000) : ∀ q ∈ c, ¬ (q.1 = 13 ∨ q.1 = 14 ∨ q.1 = 15) := fun q hq => by
  have := (h q hq).1.1
  omega
theorem sh_1 {k o a : Nat} (h : o = 13 ∨ o = 14 ∨ o = 15) : sh k [(o, a)] = [(o, a + k)] := by
  unfold sh
  simp only [List.map_cons, List.map_nil]
  rw [if_pos h]
section MSQ
variable {e : Nat} {lv : Nat → Nat → Int64} {n : Nat} {tx : Nat → Nat} {K Mk : List In} {bs : List (Nat × Nat)}
theorem ro_pre {iv iv1 : Nat → Int32} {av av1 : Nat → Nat → Int32} {res : MR} {P : Prop} (F : SF iv av iv1 av1) (hx : ∀ x, RH e lv iv1 av1 x → RH e lv iv av x) (h : ∃ iv' av', SF iv1 av1 iv' av' ∧ RH e lv iv1 av1 (some (.int 0), xs iv' av' lv)) : ∃ iv' av', SF iv av iv' av' ∧ RH e lv iv av (some (.int 0), xs iv' av' lv) := by
  obtain ⟨iv', av', f, x⟩ := h
  exact ⟨iv', av', F.tr f, hx _ x⟩
/-- a row of statements up to the block's end -/
theorem sq {T : Nat → MR} {r : Nat} (he : 6 ≤ e) (hT : TLm e n tx r T) (hpr : ∀ i q, T i = some q → i < q.1) (hr : bs.length + r = 6) (hb : 1 ≤ bs.length) {K0 M0 : List In} : ∀ (fuel : Nat) iv av i c m, GS n tx iv av i (K0 ++ sh K0.length c) (M0 ++ m) bs 0 → n ≤ fuel + i →
    match mSeq tx T fuel i c m with
    | some q => ∃ iv' av' j, q.1 = j + 1 ∧ tx j = 125 ∧ SF iv av iv' av' ∧ GS n tx iv' av' j (K0 ++ sh K0.length q.2.1) (M0 ++ q.2.2) bs 0 ∧ ∀ x, RH e lv iv' av' x → RH e lv iv av x
    | none => ∃ iv' av', SF iv av iv' av' ∧ RH e lv iv av (some (.int 0), xs iv' av' lv) := by
  intro fuel
  induction fuel with
  | zero =>
    intro iv av i c m h hn
    have h0 : tx i = 0 := h.1.2.2.2 i (by omega)
    unfold mSeq
    rw [if_neg (by omega)]
    obtain ⟨e', rfl⟩ : ∃ e', e = e' + 1 := ⟨e - 1, by omega⟩
    obtain ⟨iv', av', f, x⟩ := m_st_no (lv := lv) (e := e') (by omega) h (by omega) (by omega) (by omega) (by omega) (by omega) (by omega)
    exact ⟨iv', av', f, rh_s0 (by omega) h hb (by omega) x⟩
  | succ fuel ih =>
    intro iv av i c m h hn
    unfold mSeq
    by_cases hc : tx i = 125
    · rw [if_pos hc]
      exact ⟨iv, av, i, rfl, hc, SF.rf, h, fun _ y => y⟩
    · rw [if_neg hc]
      have ro := hT iv av lv i _ _ bs h hr hb hc
      cases ht : T i with
      | none =>
        rw [ht] at ro
        exact ro
      | some q =>
        rw [ht] at ro
        obtain ⟨iv1, av1, f1, v1, x1⟩ := ro
        have hlt := hpr i q ht
        have e1 : K0 ++ sh K0.length c ++ sh (K0 ++ sh K0.length c).length q.2.1 = K0 ++ sh K0.length (c ++ sh c.length q.2.1) := by
          rw [sh_app, sh_sh, List.length_append, sh_len, ← List.append_assoc]
          congr 2
          omega
        rw [e1, List.append_assoc] at v1
        have := ih iv1 av1 q.1 (c ++ sh c.length q.2.1) (m ++ q.2.2) v1 (by omega)
        rw [Option.bind_some]
        cases hm : mSeq tx T fuel q.1 (c ++ sh c.length q.2.1) (m ++ q.2.2) with
        | none =>
          rw [hm] at this
          obtain ⟨iv', av', f, x⟩ := this
          exact ⟨iv', av', f1.tr f, x1 _ x⟩
        | some t =>
          rw [hm] at this
          obtain ⟨iv2, av2, j, g1, g2, g3, g4, g5⟩ := this
          exact ⟨iv2, av2, j, g1, g2, f1.tr g3, g4, fun x y => x1 x (g5 x y)⟩
theorem so_ro {iv : Nat → Int32} {av : Nat → Nat → Int32} {i : Nat} {res : PR} (he : 6 ≤ e) (h : GS n tx iv av i K Mk bs 0) (hb : 1 ≤ bs.length) (hc : tx i ≠ 125) (hs : SO e lv n tx iv av K Mk bs res) (hn : ∀ q, res = some q → ∀ x ∈ q.2, ¬ (x.1 = 13 ∨ x.1 = 14 ∨ x.1 = 15)) : RO e lv n tx iv av K Mk bs (res.map (fun q => (q.1, q.2, q.2))) := by
  cases res with
  | none =>
    obtain ⟨iv', av', f, x⟩ := hs
    exact ⟨iv', av', f, rh_s0 (by omega) h hb hc x⟩
  | some q =>
    obtain ⟨iv', av', f, x, v⟩ := hs
    refine ⟨iv', av', f, ?_, fun y hy => rh_s1 (by omega) h hb hc x hy⟩
    dsimp only
    rw [sh_nj (hn q rfl)]
    exact v
/-- what the blocks of a statement are, with r levels left -/
def BQ (e n : Nat) (tx : Nat → Nat) (r : Nat) (B : Nat → MR) : Prop := (r = 0 ∧ B = fun _ => none) ∨ ∃ r' T, r = r' + 1 ∧ B = mBlock tx T ∧ TLm e n tx r' T ∧ ∀ i q, T i = some q → i < q.1
/-- a block whose { has been read: up to its } -/
theorem bq_run {r' : Nat} {T : Nat → MR} {w p : Nat} (he : 6 ≤ e) (hT : TLm e n tx r' T) (hpr : ∀ i q, T i = some q → i < q.1) (hr : bs.length + (r' + 1) = 6) {iv : Nat → Int32} {av : Nat → Nat → Int32} {i : Nat} (hc : tx i = 123) (h : GS n tx iv av (i + 1) K Mk ((w, p) :: bs) 0) :
    match mBlock tx T i with
    | some q => ∃ iv' av' j, q.1 = j + 1 ∧ tx j = 125 ∧ SF iv av iv' av' ∧ GS n tx iv' av' j (K ++ sh K.length q.2.1) (Mk ++ q.2.2) ((w, p) :: bs) 0 ∧ ∀ x, RH e lv iv' av' x → RH e lv iv av x
    | none => ∃ iv' av', SF iv av iv' av' ∧ RH e lv iv av (some (.int 0), xs iv' av' lv) := by
  unfold mBlock
  rw [if_pos hc]
  have hn := h.1.2.1
  exact sq he hT hpr (by rw [List.length_cons]; omega) (by rw [List.length_cons]; omega) 200 iv av (i + 1) [] [] (by
    rw [show sh K.length ([] : List In) = [] from rfl, List.append_nil, List.append_nil]; exact h) (by omega)
theorem tl_if {r : Nat} {B : Nat → MR} {iv : Nat → Int32} {av : Nat → Nat → Int32} {i : Nat} (he : 6 ≤ e) (hB : BQ e n tx r B) (h : GS n tx iv av i K Mk bs 0) (hr : bs.length + r = 6) (hb : 1 ≤ bs.length) (q0 : tx i = 63) : RO e lv n tx iv av K Mk bs (mChoice tx (pVal tx (pu tx r)) B (i + 1)) := by
  obtain ⟨e', rfl⟩ : ∃ e', e = e' + 1 := ⟨e - 1, by omega⟩
  have hn0 : ∀ i, tx i ≠ 0 → i < n := fun _ q => h.1.lt q
  have hn := h.1.2.1
  rcases m_st_if (lv := lv) (e := e') (by omega) h hr q0 with ⟨q, hq, h123, hlt, iv1, av1, f1, x1, v1⟩ | ⟨hno, iv1, av1, f1, x1⟩
  case inr =>
    have : mChoice tx (pVal tx (pu tx r)) B (i + 1) = none := by
      unfold mChoice
      cases hv : pVal tx (pu tx r) (i + 1) with
      | none => rfl
      | some q =>
        rw [Option.bind_some]
        have hB0 : B q.1 = none := by
          rcases hB with ⟨-, rfl⟩ | ⟨r', T, hr', rfl, -, -⟩
          · rfl
          · unfold mBlock
            rw [if_neg ((hno q hv).resolve_right (by omega))]
        rw [hB0]
        rfl
    rw [this]
    exact ⟨iv1, av1, f1, rh_s0 (by omega) h hb (by omega) x1⟩
  rcases hB with ⟨hr0, -⟩ | ⟨r', T, rfl, rfl, hT, hpr⟩
  · omega
  have hnj := ex_nj (pb_val (pb_pu hn0 (r' + 1)) _ q.1 q.2 (by rw [hq])).2.2.2
  have go : ∀ x, RH (e' + 1) lv iv1 av1 x → RH (e' + 1) lv iv av x := fun x hx => rh_s1 (by omega) h hb (by omega) x1 hx
  unfold mChoice
  rw [hq, Option.bind_some]
  have run := bq_run (lv := lv) he hT hpr hr h123 v1
  cases hb1 : mBlock tx T q.1 with
  | none =>
    rw [hb1] at run
    obtain ⟨iv', av', f, x⟩ := run
    exact ⟨iv', av', f1.tr f, go _ x⟩
  | some b =>
    rw [hb1] at run
    obtain ⟨iv2, av2, j, g1, g2, f2, v2, x2⟩ := run
    obtain ⟨F3, v3, c3, -⟩ := rh_close (lv := lv) (e := e' + 1) (by omega) v2 (by simp) g2
    have hk := v2.2.2.2.2.2.1
    have hm := v2.2.2.2.2.2.2.1
    -- the code, with ZERO at its place
    have eK : K ++ q.2 ++ [(13, 0)] ++ sh (K ++ q.2 ++ [(13, 0)]).length b.2.1 = (K ++ q.2) ++ (13, 0) :: sh (K.length + q.2.length + 1) b.2.1 := by
      rw [List.length_append, List.length_append, List.append_assoc]
      rfl
    have hz : (K ++ q.2).length = K.length + q.2.length := List.length_append
    rw [eK] at v3 hk
    have hp : ((K ++ q.2) ++ (13, 0) :: sh (K.length + q.2.length + 1) b.2.1)[K.length + q.2.length]? = some (13, 0) := by rw [← hz]; exact get_mid _ _ _
    have lK : ((K ++ q.2) ++ (13, 0) :: sh (K.length + q.2.length + 1) b.2.1).length = K.length + q.2.length + 1 + b.2.1.length := by
      rw [List.length_append, List.length_append, List.length_cons, sh_len]; omega
    rw [Option.bind_some]
    by_cases h2 : tx b.1 = 123
    · rw [if_pos h2]
      obtain ⟨iv4, av4, f4, x4, v4⟩ := m_close_else (lv := lv) (e := e') (by omega) v3 (by rw [← g1]; exact h2) hp
      rw [lK] at v4
      have eK2 : ((K ++ q.2) ++ (13, 0) :: sh (K.length + q.2.length + 1) b.2.1 ++ [(14, 0)]).set (K.length + q.2.length) (13, K.length + q.2.length + 1 + b.2.1.length + 1) = (K ++ q.2) ++ (13, K.length + q.2.length + 1 + b.2.1.length + 1) :: (sh (K.length + q.2.length + 1) b.2.1 ++ [(14, 0)]) := by
        rw [List.append_assoc, List.cons_append, ← hz]
        exact set_mid _ _ _ _
      rw [eK2] at v4
      have run2 := bq_run (lv := lv) he hT hpr hr (i := b.1) h2 (by rw [g1]; exact v4)
      cases hb2 : mBlock tx T b.1 with
      | none =>
        rw [hb2] at run2
        obtain ⟨iv', av', f, x⟩ := run2
        exact ⟨iv', av', f1.tr (f2.tr (F3.tr (f4.tr f))), go _ (x2 _ (c3 _ _ _ x4 x))⟩
      | some y =>
        rw [hb2] at run2
        obtain ⟨iv5, av5, j5, g5, g6, f5, v5, x5⟩ := run2
        obtain ⟨F6, v6, c6, -⟩ := rh_close (lv := lv) (e := e' + 1) (by omega) v5 (by simp) g6
        have hk5 := v5.2.2.2.2.2.1
        have hm5 := v5.2.2.2.2.2.2.1
        generalize hA : (K ++ q.2) ++ (13, K.length + q.2.length + 1 + b.2.1.length + 1) :: sh (K.length + q.2.length + 1) b.2.1 = A at *
        have lA : A.length = K.length + q.2.length + 1 + b.2.1.length := by
          rw [← hA, List.length_append, List.length_append, List.length_cons, sh_len]; omega
        have eK3 : (K ++ q.2) ++ (13, K.length + q.2.length + 1 + b.2.1.length + 1) :: (sh (K.length + q.2.length + 1) b.2.1 ++ [(14, 0)]) = A ++ [(14, 0)] := by
          rw [← hA]
          simp only [List.append_assoc, List.cons_append]
        rw [eK3] at v6 hk5
        have eK4 : A ++ [(14, 0)] ++ sh (A ++ [(14, 0)]).length y.2.1 = A ++ (14, 0) :: sh (A.length + 1) y.2.1 := by
          rw [List.length_append, List.append_assoc]; rfl
        rw [eK4] at v6 hk5
        obtain ⟨iv7, av7, f7, x7, v7⟩ := m_close67 (lv := lv) (e := e') (p := K.length + q.2.length + 1 + b.2.1.length) (o := 14) (a := 0) (by omega) v6 (Or.inr rfl) (by rw [← lA]; exact get_mid _ _ _) (by omega) (by omega)
        refine ⟨iv7, av7, f1.tr (f2.tr (F3.tr (f4.tr (f5.tr (F6.tr f7))))), ?_, fun x hx => go _ (x2 _ (c3 _ _ _ x4 (x5 _ (c6 _ _ _ x7 hx))))⟩
        dsimp only
        rw [g5]
        have eK5 : (A ++ (14, 0) :: sh (A.length + 1) y.2.1).set (K.length + q.2.length + 1 + b.2.1.length) (14, (A ++ (14, 0) :: sh (A.length + 1) y.2.1).length) = A ++ (14, A.length + 1 + y.2.1.length) :: sh (A.length + 1) y.2.1 := by
          rw [← lA, set_mid, List.length_append, List.length_cons, sh_len]
          congr 3
          omega
        rw [eK5] at v7
        have eK6 : K ++ sh K.length (q.2 ++ [(13, q.2.length + 2 + b.2.1.length)] ++ sh (q.2.length + 1) b.2.1 ++ [(14, q.2.length + 2 + b.2.1.length + y.2.1.length)] ++ sh (q.2.length + 2 + b.2.1.length) y.2.1) = A ++ (14, A.length + 1 + y.2.1.length) :: sh (A.length + 1) y.2.1 := by
          rw [sh_app, sh_app, sh_app, sh_app, sh_nj hnj, sh_1 (by omega), sh_1 (by omega), sh_sh, sh_sh, lA, ← hA]
          simp only [List.append_assoc, List.cons_append, List.nil_append]
          have a1 : q.2.length + 2 + b.2.1.length + K.length = K.length + q.2.length + 1 + b.2.1.length + 1 := by omega
          have a2 : q.2.length + 1 + K.length = K.length + q.2.length + 1 := by omega
          have a3 : q.2.length + 2 + b.2.1.length + y.2.1.length + K.length = K.length + q.2.length + 1 + b.2.1.length + 1 + y.2.1.length := by omega
          rw [a1, a2, a3]
        rw [eK6]
        have eM : Mk ++ (q.2 ++ [(30, 0)] ++ b.2.2 ++ [(31, 0)] ++ y.2.2 ++ [(32, 0)]) = Mk ++ q.2 ++ [(30, 0)] ++ b.2.2 ++ [(31, 0)] ++ y.2.2 ++ [(32, 0)] := by simp only [List.append_assoc]
        rw [eM]
        exact v7
    · rw [if_neg h2]
      obtain ⟨iv4, av4, f4, x4, v4⟩ := m_close67 (lv := lv) (e := e') (o := 13) (a := 0) (by omega) v3 (Or.inl ⟨rfl, by rw [← g1]; exact h2⟩) hp (by omega) (by omega)
      refine ⟨iv4, av4, f1.tr (f2.tr (F3.tr f4)), ?_, fun x hx => go _ (x2 _ (c3 _ _ _ x4 hx))⟩
      dsimp only
      rw [g1]
      have eK5 : ((K ++ q.2) ++ (13, 0) :: sh (K.length + q.2.length + 1) b.2.1).set (K.length + q.2.length) (13, ((K ++ q.2) ++ (13, 0) :: sh (K.length + q.2.length + 1) b.2.1).length) = (K ++ q.2) ++ (13, K.length + q.2.length + 1 + b.2.1.length) :: sh (K.length + q.2.length + 1) b.2.1 := by
        rw [lK, ← hz]
        exact set_mid _ _ _ _
      rw [eK5] at v4
      have eK6 : K ++ sh K.length (q.2 ++ [(13, q.2.length + 1 + b.2.1.length)] ++ sh (q.2.length + 1) b.2.1) = (K ++ q.2) ++ (13, K.length + q.2.length + 1 + b.2.1.length) :: sh (K.length + q.2.length + 1) b.2.1 := by
        rw [sh_app, sh_app, sh_nj hnj, sh_1 (by omega), sh_sh]
        simp only [List.append_assoc, List.cons_append, List.nil_append]
        have a1 : q.2.length + 1 + b.2.1.length + K.length = K.length + q.2.length + 1 + b.2.1.length := by omega
        have a2 : q.2.length + 1 + K.length = K.length + q.2.length + 1 := by omega
        rw [a1, a2]
      rw [eK6]
      have eM : Mk ++ (q.2 ++ [(30, 0)] ++ b.2.2 ++ [(32, 0)]) = Mk ++ q.2 ++ [(30, 0)] ++ b.2.2 ++ [(32, 0)] := by simp only [List.append_assoc]
      rw [eM]
      exact v4
end MSQ
