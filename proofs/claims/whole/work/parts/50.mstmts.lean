/-! The reference: loops, and every statement. -/
def NJ (c : List In) : Prop := ∀ q ∈ c, ¬ (q.1 = 13 ∨ q.1 = 14 ∨ q.1 = 15)
theorem NJ.app {a b : List In} (ha : NJ a) (hb : NJ b) : NJ (a ++ b) := fun q hq => (List.mem_append.mp hq).elim (ha q) (hb q)
theorem NJ.one {o a : Nat} (h : ¬ (o = 13 ∨ o = 14 ∨ o = 15)) : NJ [(o, a)] := fun q hq => by
  rw [List.mem_singleton.mp hq]
  exact h
section MLP
variable {e : Nat} {lv : Nat → Nat → Int64} {n : Nat} {tx : Nat → Nat} {K Mk : List In} {bs : List (Nat × Nat)}
theorem lo_ro {d r : Nat} {B : Nat → MR} {iv iv0 : Nat → Int32} {av : Nat → Nat → Int32} {pre : List In} {op j : Nat} (he : 6 ≤ e) (hB : BQ e n tx r B) (F0 : SF iv av iv0 av) (hr : bs.length + r = 6) (hpre : NJ pre) (hop : op = 0 ∨ op = 16) (hl : LO d lv n tx iv0 av K Mk bs pre op j)
    (go1 : ∀ iv' av' x, xm d 90 [.ref 27] (xs iv0 av lv) (some (.int 1), xs iv' av' lv) → RH e lv iv' av' x → RH e lv iv av x)
    (go0 : ∀ iv' av', xm d 90 [.ref 27] (xs iv0 av lv) (some (.int 0), xs iv' av' lv) → RH e lv iv av (some (.int 0), xs iv' av' lv)) : RO e lv n tx iv av K Mk bs (mRest tx B pre op j) := by
  rcases hl with ⟨hk, h123, hlt, iv1, av1, f1, x1, v1⟩ | ⟨hno, iv1, av1, f1, x1⟩
  case inr =>
    have : mRest tx B pre op j = none := by
      unfold mRest
      by_cases hk : nd tx j = 0 ∨ 99 < nv tx j (nd tx j)
      · rw [if_pos hk]
      · rw [if_neg hk]
        have hB0 : B (j + nd tx j) = none := by
          rcases hB with ⟨-, rfl⟩ | ⟨r', T, hr', rfl, -, -⟩
          · rfl
          · unfold mBlock
            rw [if_neg ((hno.resolve_left hk).resolve_right (by omega))]
        rw [hB0]
        rfl
    rw [this]
    exact ⟨iv1, av1, F0.tr f1, go0 _ _ x1⟩
  rcases hB with ⟨hr0, -⟩ | ⟨r', T, rfl, rfl, hT, hpr⟩
  · omega
  unfold mRest
  rw [if_neg hk]
  have run := bq_run (lv := lv) he hT hpr hr h123 v1
  cases hb1 : mBlock tx T (j + nd tx j) with
  | none =>
    rw [hb1] at run
    obtain ⟨iv', av', f, x⟩ := run
    exact ⟨iv', av', F0.tr (f1.tr f), go1 _ _ _ x1 x⟩
  | some b =>
    rw [hb1] at run
    obtain ⟨iv2, av2, j2, g1, g2, f2, v2, x2⟩ := run
    obtain ⟨F3, v3, c3, -⟩ := rh_close (lv := lv) (e := e) (by omega) v2 (by simp) g2
    have hk2 := v2.2.2.2.2.2.1
    have hm2 := v2.2.2.2.2.2.2.1
    generalize hkk : nv tx j (nd tx j) = k at *
    have eK : K ++ pre ++ [(op, k), (15, 0)] ++ sh (K ++ pre ++ [(op, k), (15, 0)]).length b.2.1 = (K ++ pre ++ [(op, k)]) ++ (15, 0) :: sh (K.length + pre.length + 2) b.2.1 := by
      rw [List.length_append, List.length_append]
      simp only [List.append_assoc, List.cons_append, List.nil_append, List.length_cons, List.length_nil]
    have hz : (K ++ pre ++ [(op, k)]).length = K.length + pre.length + 1 := by
      rw [List.length_append, List.length_append]; rfl
    rw [eK] at v3 hk2
    have hp : ((K ++ pre ++ [(op, k)]) ++ (15, 0) :: sh (K.length + pre.length + 2) b.2.1)[K.length + pre.length + 1]? = some (15, 0) := by rw [← hz]; exact get_mid _ _ _
    have lK : ((K ++ pre ++ [(op, k)]) ++ (15, 0) :: sh (K.length + pre.length + 2) b.2.1).length = K.length + pre.length + 2 + b.2.1.length := by
      rw [List.length_append, hz, List.length_cons, sh_len]; omega
    obtain ⟨e', rfl⟩ : ∃ e', e = e' + 1 := ⟨e - 1, by omega⟩
    obtain ⟨iv4, av4, f4, x4, v4⟩ := m_close8 (lv := lv) (e := e') (by omega) v3 hp (by omega) (by omega)
    refine ⟨iv4, av4, F0.tr (f1.tr (f2.tr (F3.tr f4))), ?_, fun x hx => go1 _ _ _ x1 (x2 _ (c3 _ _ _ x4 hx))⟩
    rw [lK] at v4
    have eK2 : ((K ++ pre ++ [(op, k)]) ++ (15, 0) :: sh (K.length + pre.length + 2) b.2.1 ++ [(14, K.length + pre.length + 1)]).set (K.length + pre.length + 1) (15, K.length + pre.length + 2 + b.2.1.length + 1) = (K ++ pre ++ [(op, k)]) ++ (15, K.length + pre.length + 2 + b.2.1.length + 1) :: (sh (K.length + pre.length + 2) b.2.1 ++ [(14, K.length + pre.length + 1)]) := by
      rw [List.append_assoc, List.cons_append, ← hz]
      exact set_mid _ _ _ _
    rw [eK2] at v4
    dsimp only
    rw [g1]
    have e2 : ([(op, k), (15, pre.length + 3 + b.2.1.length)] : List In) = [(op, k)] ++ [(15, pre.length + 3 + b.2.1.length)] := rfl
    have eK6 : K ++ sh K.length (pre ++ [(op, k), (15, pre.length + 3 + b.2.1.length)] ++ sh (pre.length + 2) b.2.1 ++ [(14, pre.length + 1)]) = (K ++ pre ++ [(op, k)]) ++ (15, K.length + pre.length + 2 + b.2.1.length + 1) :: (sh (K.length + pre.length + 2) b.2.1 ++ [(14, K.length + pre.length + 1)]) := by
      rw [e2, sh_app, sh_app, sh_app, sh_app, sh_nj hpre, sh_nj (NJ.one (o := op) (a := k) (by omega)), sh_1 (by omega), sh_1 (by omega), sh_sh]
      simp only [List.append_assoc, List.cons_append, List.nil_append]
      have a1 : pre.length + 3 + b.2.1.length + K.length = K.length + pre.length + 2 + b.2.1.length + 1 := by omega
      have a2 : pre.length + 2 + K.length = K.length + pre.length + 2 := by omega
      have a3 : pre.length + 1 + K.length = K.length + pre.length + 1 := by omega
      rw [a1, a2, a3]
    rw [eK6]
    have eM : Mk ++ (pre ++ [(op, k), (33, k)] ++ b.2.2 ++ [(34, 0)]) = Mk ++ pre ++ [(op, k), (33, k)] ++ b.2.2 ++ [(34, 0)] := by simp only [List.append_assoc]
    rw [eM]
    exact v4
theorem tl_loop {r : Nat} {B : Nat → MR} {iv : Nat → Int32} {av : Nat → Nat → Int32} {i : Nat} (he : 7 ≤ e) (hB : BQ e n tx r B) (h : GS n tx iv av i K Mk bs 0) (hr : bs.length + r = 6) (hb : 1 ≤ bs.length) (q0 : tx i = 35) : RO e lv n tx iv av K Mk bs (mLoop tx (pSum tx (pu tx r)) B (i + 1)) := by
  obtain ⟨e', rfl⟩ : ∃ e', e = e' + 2 := ⟨e - 2, by omega⟩
  have hn0 : ∀ i, tx i ≠ 0 → i < n := fun _ q => h.1.lt q
  have hn := h.1.2.1
  have hi : i < n := hn0 i (by omega)
  have g1 := h.at0 (j := i + 1) (by omega) (by omega) (by omega)
  have go : ∀ r iv' av', r = 0 ∨ r = 1 → xm (e' + 1) 90 [.ref 27] (xs (upd iv 13 (nI (i + 1))) av lv) (some (.int r), xs iv' av' lv) → xm (e' + 2) 91 [.ref 27] (xs iv av lv) (some (.int r), xs iv' av' lv) := fun r iv' av' h01 hx => by
    refine xm_of (nL := 3) rfl rfl (xb_91_0 (h.lk (by omega)) ?_)
    rw [q0]
    refine xb_91_4 (fun g => absurd g (by decide)) (fun _ => ?_)
    rw [h.2.1.1, nI_1]
    exact xb_91_57 (fun g => absurd g (by decide)) (fun _ => xb_91_112 (fun _ => xb_91_118 hx (xb_91_122 h01)) (fun g => absurd rfl g))
  have go1 : ∀ iv' av' x, xm (e' + 1) 90 [.ref 27] (xs (upd iv 13 (nI (i + 1))) av lv) (some (.int 1), xs iv' av' lv) → RH (e' + 2) lv iv' av' x → RH (e' + 2) lv iv av x := fun iv' av' x hx hy => rh_s1 (by omega) h hb (by omega) (go _ _ _ (Or.inr rfl) hx) hy
  have go0 : ∀ iv' av', xm (e' + 1) 90 [.ref 27] (xs (upd iv 13 (nI (i + 1))) av lv) (some (.int 0), xs iv' av' lv) → RH (e' + 2) lv iv av (some (.int 0), xs iv' av' lv) := fun iv' av' hx => rh_s0 (by omega) h hb (by omega) (go _ _ _ (Or.inl rfl) hx)
  have ml := m_loop (e := e') (lv := lv) (r := r) (by omega) g1 hr (by omega) (by omega)
  unfold mLoop
  by_cases hA : 0 < nd tx (i + 1) ∧ tx (i + 1 + nd tx (i + 1)) = 123
  · rw [if_pos hA] at ml ⊢
    exact lo_ro (by omega) hB SF.at hr (fun q hq => by cases hq) (Or.inl rfl) ml go1 go0
  · rw [if_neg hA] at ml ⊢
    rcases ml with ⟨q, hq, h60, hl⟩ | ⟨hno, iv', av', f, x⟩
    · rw [hq, Option.bind_some, if_pos h60]
      exact lo_ro (by omega) hB SF.at hr (ex_nj (pb_sum (pb_pu hn0 r) _ q.1 q.2 (by rw [hq])).2.2.2) (Or.inr rfl) hl go1 go0
    · have : ((pSum tx (pu tx r) (i + 1)).bind (fun q => if tx q.1 = 60 then mRest tx B q.2 16 (q.1 + 1) else none)) = none := by
        cases hv : pSum tx (pu tx r) (i + 1) with
        | none => rfl
        | some q => rw [Option.bind_some, if_neg (hno q hv)]
      rw [this]
      exact ⟨iv', av', SF.at.tr f, go0 _ _ x⟩
theorem tl_stmt {r : Nat} {B : Nat → MR} {I : Nat → PR} {iv : Nat → Int32} {av : Nat → Nat → Int32} {i : Nat} (he : 7 ≤ e) (hB : BQ e n tx r B) (hI : (r = 0 ∧ I = fun _ => none) ∨ ∃ r', r = r' + 1 ∧ I = pVal tx (pu tx r')) (h : GS n tx iv av i K Mk bs 0) (hr : bs.length + r = 6) (hb : 1 ≤ bs.length) (hc : tx i ≠ 125) : RO e lv n tx iv av K Mk bs (mStmt tx (pVal tx (pu tx r)) (pSum tx (pu tx r)) I B i) := by
  have hn0 : ∀ i, tx i ≠ 0 → i < n := fun _ q => h.1.lt q
  have njv : ∀ r i q, pVal tx (pu tx r) i = some q → NJ q.2 := fun r i q hq => ex_nj (pb_val (pb_pu hn0 r) _ q.1 q.2 (by rw [hq])).2.2.2
  obtain ⟨e', rfl⟩ : ∃ e', e = e' + 1 := ⟨e - 1, by omega⟩
  unfold mStmt
  by_cases h33 : tx i = 33
  · rw [if_pos h33]
    have := so_ro (by omega) h hb hc (m_st_out (lv := lv) (e := e') (r := r) (by omega) h hr h33) (fun q hq => by
      cases hv : pVal tx (pu tx r) (i + 1) with
      | none => rw [hv] at hq; cases hq
      | some t =>
        rw [hv, Option.bind_some] at hq
        split at hq
        · cases hq
          exact (njv _ _ _ hv).app (NJ.one (by omega))
        · cases hq)
    have e1 : ∀ (V : PR), (V.bind (fun q => if tx q.1 = 59 then some (q.1 + 1, q.2 ++ [(12, 0)]) else none)).map (fun q => (q.1, q.2, q.2)) = V.bind (fun q => if tx q.1 = 59 then some (q.1 + 1, q.2 ++ [(12, 0)], q.2 ++ [(12, 0)]) else none) := fun V => by
      cases V with
      | none => rfl
      | some q => simp only [Option.bind_some]; split <;> rfl
    rw [e1] at this
    exact this
  rw [if_neg h33]
  by_cases h63 : tx i = 63
  · rw [if_pos h63]
    exact tl_if (by omega) hB h hr hb h63
  rw [if_neg h63]
  by_cases h35 : tx i = 35
  · rw [if_pos h35]
    exact tl_loop (by omega) hB h hr hb h35
  rw [if_neg h35]
  by_cases h91 : tx i = 91
  · rw [if_pos h91]
    have hIn : ∀ q, I (i + 1) = some q → NJ q.2 := fun q hq => by
      rcases hI with ⟨-, rfl⟩ | ⟨r', -, rfl⟩
      · cases hq
      · exact njv _ _ _ hq
    have := so_ro (by omega) h hb hc (m_st_keep (lv := lv) (e := e') (r := r) (by omega) h hr h91 hI) (fun q hq => by
      cases hv : I (i + 1) with
      | none => rw [hv] at hq; cases hq
      | some t =>
        rw [hv, Option.bind_some] at hq
        split at hq
        · split at hq
          · cases hw : pVal tx (pu tx r) (t.1 + 2) with
            | none => rw [hw] at hq; cases hq
            | some s =>
              rw [hw, Option.bind_some] at hq
              split at hq
              · cases hq
                exact ((hIn _ hv).app (njv _ _ _ hw)).app (NJ.one (by omega))
              · cases hq
          · cases hq
        · cases hq)
    have e1 : ∀ (V : PR) (W : Nat → PR), (V.bind (fun q => if tx q.1 = 93 then (if tx (q.1 + 1) = 61 then (W (q.1 + 2)).bind (fun t => if tx t.1 = 59 then some (t.1 + 1, q.2 ++ t.2 ++ [(4, 0)]) else none) else none) else none)).map (fun q => (q.1, q.2, q.2)) = V.bind (fun q => if tx q.1 = 93 then (if tx (q.1 + 1) = 61 then (W (q.1 + 2)).bind (fun t => if tx t.1 = 59 then some (t.1 + 1, q.2 ++ t.2 ++ [(4, 0)], q.2 ++ t.2 ++ [(4, 0)]) else none) else none) else none) := fun V W => by
      cases V with
      | none => rfl
      | some q =>
        simp only [Option.bind_some]
        split
        · split
          · cases W (q.1 + 2) with
            | none => rfl
            | some t => simp only [Option.bind_some]; split <;> rfl
          · rfl
        · rfl
    rw [e1] at this
    exact this
  rw [if_neg h91]
  by_cases hv : 97 ≤ tx i ∧ tx i < 97 + 6
  · rw [if_pos hv]
    have := so_ro (by omega) h hb hc (m_st_put (lv := lv) (e := e') (r := r) (by omega) h hr hv) (fun q hq => by
      split at hq
      · cases hw : pVal tx (pu tx r) (i + 2) with
        | none => rw [hw] at hq; cases hq
        | some s =>
          rw [hw, Option.bind_some] at hq
          split at hq
          · cases hq
            exact (njv _ _ _ hw).app (NJ.one (by omega))
          · cases hq
      · cases hq)
    have e1 : ∀ (k : Nat) (V : PR), (if tx (i + 1) = 61 then V.bind (fun t => if tx t.1 = 59 then some (t.1 + 1, t.2 ++ [(2, k)]) else none) else none : PR).map (fun q => (q.1, q.2, q.2)) = if tx (i + 1) = 61 then V.bind (fun t => if tx t.1 = 59 then some (t.1 + 1, t.2 ++ [(2, k)], t.2 ++ [(2, k)]) else none) else none := fun k V => by
      split
      · cases V with
        | none => rfl
        | some t => simp only [Option.bind_some]; split <;> rfl
      · rfl
    rw [e1] at this
    exact this
  rw [if_neg hv]
  by_cases hp : 65 ≤ tx i ∧ tx i < 65 + 4
  · rw [if_pos hp]
    have := so_ro (by omega) h hb hc (m_st_call (lv := lv) (e := e') (by omega) h hp) (fun q hq => by
      split at hq
      · cases hq
        exact NJ.one (by omega)
      · cases hq)
    have e1 : ∀ k : Nat, (if tx (i + 1) = 59 then some (i + 2, [(17, k)]) else none : PR).map (fun q => (q.1, q.2, q.2)) = if tx (i + 1) = 59 then some (i + 2, [(17, k)], [(17, k)]) else none := fun k => by
      split <;> rfl
    rw [e1] at this
    exact this
  · rw [if_neg hp]
    exact so_ro (res := none) (by omega) h hb hc (m_st_no (lv := lv) (e := e') (by omega) h h33 h63 h35 h91 hv hp) (fun q hq => by cases hq)
theorem mT_lt (hn0 : ∀ i, tx i ≠ 0 → i < n) (r : Nat) : ∀ i q, mT tx r i = some q → i < q.1 := fun i q hq => by
  have h1 : pT tx r i = some (q.1, q.2.1) := by
    rw [← congrFun (fg_T r) i]
    show fg (mT tx r i) = _
    rw [hq]
    rfl
  have := pl_T hn0 r _ _ _ h1
  omega
/-- the reference reads a statement as mT says -/
theorem tl_T (hn0 : ∀ i, tx i ≠ 0 → i < n) (he : 7 ≤ e) : ∀ r, TLm e n tx r (mT tx r)
  | 0 => fun iv av lv i K Mk bs h hr hb hc => tl_stmt he (Or.inl ⟨rfl, rfl⟩) (Or.inl ⟨rfl, rfl⟩) h hr hb hc
  | r + 1 => fun iv av lv i K Mk bs h hr hb hc => tl_stmt he (Or.inr ⟨r, mT tx r, rfl, rfl, tl_T hn0 he r, mT_lt hn0 r⟩) (Or.inr ⟨r, rfl, rfl⟩) h hr hb hc
end MLP
