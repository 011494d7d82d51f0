/-! The reference: statements without blocks. -/
def SO (D : Nat) (lv : Nat → Nat → Int64) (n : Nat) (tx : Nat → Nat) (iv : Nat → Int32) (av : Nat → Nat → Int32) (K Mk : List In) (bs : List (Nat × Nat)) (res : PR) : Prop := match res with
  | some q => ∃ iv' av', SF iv av iv' av' ∧ xm D 91 [.ref 27] (xs iv av lv) (some (.int 1), xs iv' av' lv) ∧ GS n tx iv' av' q.1 (K ++ q.2) (Mk ++ q.2) bs 0
  | none => ∃ iv' av', SF iv av iv' av' ∧ xm D 91 [.ref 27] (xs iv av lv) (some (.int 0), xs iv' av' lv)
section MST
variable {e : Nat} {iv : Nat → Int32} {av : Nat → Nat → Int32} {lv : Nat → Nat → Int64} {n i r : Nat} {tx : Nat → Nat} {K Mk : List In} {bs : List (Nat × Nat)} {sl : Nat}
theorem GS.lk {D : Nat} (h : GS n tx iv av i K Mk bs sl) (hD : 1 ≤ D) : xm D 76 [.ref 27] (xs iv av lv) (some (.int (nI (tx i))), xs iv av lv) := m_look hD h.1 h.2.1.1 (by have := h.2.1.2; omega)
theorem GS.eat1 {D c : Nat} (h : GS n tx iv av i K Mk bs sl) (hD : 2 ≤ D) (q : tx i = c) (hc : c ≠ 0) (hs : sl ≤ 2) : xm D 77 [.ref 27, .int (nI c)] (xs iv av lv) (some (.int 1), xs (upd iv 13 (nI (i + 1))) av lv) ∧ GS n tx (upd iv 13 (nI (i + 1))) av (i + 1) K Mk bs 0 ∧ i < n := by
  have hi : i < n := h.1.lt (by omega)
  have hn := h.1.2.1
  exact ⟨m_eat1 hD h.1 h.2.1.1 (by omega) q, h.at0 (by omega) (by omega) hs, hi⟩
theorem GS.eat0 {D c : Nat} (h : GS n tx iv av i K Mk bs sl) (hD : 2 ≤ D) (q : tx i ≠ c) (hc : c < 2 ^ 20) : xm D 77 [.ref 27, .int (nI c)] (xs iv av lv) (some (.int 0), xs iv av lv) := m_eat0 hD h.1 h.2.1.1 (by have := h.2.1.2; omega) (by omega) q
theorem no12 : noted 12 = true ∧ noted 2 = true ∧ noted 4 = true ∧ noted 17 = true ∧ noted 16 = true ∧ noted 0 = true ∧ noted 18 = true ∧ noted 13 = false ∧ noted 14 = false ∧ noted 15 = false ∧ noted 19 = false := by decide
theorem m_st_out (he : 5 ≤ e) (h : GS n tx iv av i K Mk bs 0) (hr : bs.length + r = 6) (q0 : tx i = 33) : SO (e + 1) lv n tx iv av K Mk bs ((pVal tx (pu tx r) (i + 1)).bind (fun q => if tx q.1 = 59 then some (q.1 + 1, q.2 ++ [(12, 0)]) else none)) := by
  have hi : i < n := h.1.lt (by omega)
  have hn := h.1.2.1
  have g1 := h.at0 (j := i + 1) (by omega) (by omega) (by omega)
  have go : ∀ x, xe e xt_91 21 [some (.ref 27), some (.int (nI 33)), none] [] (xs (upd iv 13 (nI (i + 1))) av lv) x → xm (e + 1) 91 [.ref 27] (xs iv av lv) x := fun x hx => by
    refine xm_of (nL := 3) rfl rfl (xb_91_0 (h.lk (by omega)) ?_)
    rw [q0]
    refine xb_91_4 (fun _ => ?_) (fun g => absurd rfl g)
    rw [h.2.1.1, nI_1]
    exact hx
  have mv := m_value (D := e) (lv := lv) (sm := false) (r := r) (by omega) g1 (by omega) (by omega) hr
  rw [if_neg (by decide)] at mv
  have e18 : upd iv 13 (nI (i + 1)) 18 = nI bs.length := h.2.2.2.2.1.1
  cases hv : pVal tx (pu tx r) (i + 1) with
  | none =>
    rw [hv] at mv
    obtain ⟨iv1, av1, f1, x1, b1⟩ := mv
    obtain ⟨iv2, av2, f2, x2, b2⟩ := gb_emit (D := e) (lv := lv) (o := 12) (a := 0) (by omega) b1 (by omega)
    refine ⟨iv2, av2, SF.at.tr (f1.sf.tr f2.sf), go _ (xb_91_21 (by rw [e18]; exact x1) (xb_91_30 x2 (xb_91_38 (fun _ => xb_91_55 (xb_91_56 (Or.inl rfl))) (fun g => absurd rfl g))))⟩
  | some q =>
    rw [hv] at mv
    obtain ⟨iv1, av1, f1, x1, v1⟩ := mv
    obtain ⟨iv2, av2, f2, x2, v2⟩ := gs_emit (D := e) (lv := lv) (o := 12) (a := 0) (by omega) v1 (by omega) (by omega)
    rw [if_pos no12.1] at v2
    have F : SF iv av iv2 av2 := SF.at.tr (f1.sf.tr f2.sf)
    have pre : ∀ x, xe e xt_91 42 [some (.ref 27), none, some (.int 1)] [] (xs iv2 av2 lv) x → xm (e + 1) 91 [.ref 27] (xs iv av lv) x := fun x hx => go x (xb_91_21 (by rw [e18]; exact x1) (xb_91_30 x2 (xb_91_38 (fun g => absurd g (by decide)) (fun _ => hx))))
    rw [Option.bind_some]
    by_cases h59 : tx q.1 = 59
    · rw [if_pos h59]
      obtain ⟨x3, v3, -⟩ := v2.eat1 (lv := lv) (D := e) (by omega) h59 (by decide) (by omega)
      refine ⟨_, _, F.tr SF.at, pre _ (xb_91_42 x3 (xb_91_48 (fun g => absurd g (by decide)) (fun _ => xb_91_51 (xb_91_56 (Or.inr rfl))))), ?_⟩
      dsimp only
      rw [← List.append_assoc, ← List.append_assoc]
      exact v3
    · rw [if_neg h59]
      exact ⟨_, _, F, pre _ (xb_91_42 (v2.eat0 (by omega) h59 (by decide)) (xb_91_48 (fun _ => xb_91_55 (xb_91_56 (Or.inl rfl))) (fun g => absurd rfl g)))⟩
/-- past ! ? # -/
theorem st_123 {x : xi_R} (he : 5 ≤ e) (h : GS n tx iv av i K Mk bs 0) (h33 : tx i ≠ 33) (h63 : tx i ≠ 63) (h35 : tx i ≠ 35) (hx : xe e xt_91 123 [some (.ref 27), some (.int (nI (tx i))), none] [] (xs (upd iv 13 (nI (i + 1))) av lv) x) : xm (e + 1) 91 [.ref 27] (xs iv av lv) x := by
  have hle := h.1.le i
  have ne : ∀ {k : Nat}, k < 2 ^ 30 → tx i ≠ k → ¬ nI (tx i) = nI k := fun hk q g => q ((nI_eq (by omega) (by omega)).mp g)
  refine xm_of (nL := 3) rfl rfl (xb_91_0 (h.lk (by omega)) (xb_91_4 (fun g => absurd g (ne (k := 33) (by omega) h33)) (fun _ => ?_)))
  rw [h.2.1.1, nI_1]
  exact xb_91_57 (fun g => absurd g (ne (k := 63) (by omega) h63)) (fun _ => xb_91_112 (fun g => absurd g (ne (k := 35) (by omega) h35)) (fun _ => hx))
theorem m_st_call (he : 5 ≤ e) (h : GS n tx iv av i K Mk bs 0) (hc : 65 ≤ tx i ∧ tx i < 65 + 4) : SO (e + 1) lv n tx iv av K Mk bs (if tx (i + 1) = 59 then some (i + 2, [(17, tx i - 65)]) else none) := by
  have hi : i < n := h.1.lt (by omega)
  have hn := h.1.2.1
  have g1 := h.at0 (j := i + 1) (by omega) (by omega) (by omega)
  obtain ⟨iv2, av2, f2, x2, v2⟩ := gs_emit (D := e) (lv := lv) (o := 17) (a := tx i - 65) (by omega) g1 (by omega) (by omega)
  rw [if_pos no12.2.2.2.1] at v2
  have pre : ∀ x, xe e xt_91 145 [some (.ref 27), some (.int (nI (tx i))), none] [] (xs iv2 av2 lv) x → xm (e + 1) 91 [.ref 27] (xs iv av lv) x := fun x hx =>
    st_123 he h (by omega) (by omega) (by omega) (xb_91_123 (fun g => absurd ((nI_ltI (b := 65) (by omega) (by omega)).mp g) (by omega)) (fun _ => xb_91_129 (fun g => absurd ((nI_ltI (a := 68) (by omega) (by omega)).mp g) (by omega)) (fun _ => xb_91_135 (by rw [show nI (tx i) - 65 = nI (tx i - 65) from pk_sub (b := 65) hc.1]; exact x2) hx)))
  by_cases h59 : tx (i + 1) = 59
  · rw [if_pos h59]
    obtain ⟨x3, v3, -⟩ := v2.eat1 (lv := lv) (D := e) (by omega) h59 (by decide) (by omega)
    exact ⟨_, _, (SF.at.tr f2.sf).tr SF.at, pre _ (xb_91_145 x3 (xb_91_151 (Or.inr rfl))), v3⟩
  · rw [if_neg h59]
    exact ⟨_, _, SF.at.tr f2.sf, pre _ (xb_91_145 (v2.eat0 (by omega) h59 (by decide)) (xb_91_151 (Or.inl rfl)))⟩
theorem m_st_put (he : 5 ≤ e) (h : GS n tx iv av i K Mk bs 0) (hr : bs.length + r = 6) (hc : 97 ≤ tx i ∧ tx i < 97 + 6) : SO (e + 1) lv n tx iv av K Mk bs (if tx (i + 1) = 61 then (pVal tx (pu tx r) (i + 2)).bind (fun t => if tx t.1 = 59 then some (t.1 + 1, t.2 ++ [(2, tx i - 97)]) else none) else none) := by
  have hi : i < n := h.1.lt (by omega)
  have hn := h.1.2.1
  have hle := h.1.le i
  have g1 := h.at0 (j := i + 1) (by omega) (by omega) (by omega)
  have e97 : nI (tx i) - 97 = nI (tx i - 97) := pk_sub (b := 97) hc.1
  have pre : ∀ x, xe e xt_91 164 [some (.ref 27), some (.int (nI (tx i))), none] [] (xs (upd iv 13 (nI (i + 1))) av lv) x → xm (e + 1) 91 [.ref 27] (xs iv av lv) x := fun x hx =>
    st_123 he h (by omega) (by omega) (by omega) (xb_91_123 (fun g => absurd ((nI_ltI (b := 65) (by omega) (by omega)).mp g) (by omega)) (fun _ => xb_91_129 (fun _ => xb_91_152 (fun g => absurd ((nI_ltI (b := 97) (by omega) (by omega)).mp g) (by omega)) (fun _ => xb_91_158 (fun g => absurd ((nI_ltI (a := 102) (by omega) (by omega)).mp g) (by omega)) (fun _ => hx))) (fun g => absurd (show nI 68 < nI (tx i) from nI_lt (by omega) (by omega)) g)))
  -- it fails: PUT is written all the same
  have fail : ∀ iv1 av1, SF iv av iv1 av1 → GB iv1 av1 → (∀ x, xe e xt_91 189 [some (.ref 27), some (.int (nI (tx i))), none] [] (xs iv1 av1 lv) x → xm (e + 1) 91 [.ref 27] (xs iv av lv) x) → ∃ iv' av', SF iv av iv' av' ∧ xm (e + 1) 91 [.ref 27] (xs iv av lv) (some (.int 0), xs iv' av' lv) := by
    intro iv1 av1 F b1 p
    obtain ⟨iv2, av2, f2, x2, b2⟩ := gb_emit (D := e) (lv := lv) (o := 2) (a := tx i - 97) (by omega) b1 (by omega)
    exact ⟨iv2, av2, F.tr f2.sf, p _ (xb_91_189 (xb_91_190 (by rw [e97]; exact x2) (xb_91_200 (fun _ => xb_91_217 (xb_91_218 (Or.inl rfl))) (fun g => absurd rfl g))))⟩
  by_cases h61 : tx (i + 1) = 61
  case neg =>
    rw [if_neg h61]
    exact fail _ _ SF.at g1.gb (fun x hx => pre x (xb_91_164 (g1.eat0 (by omega) h61 (by decide)) (xb_91_170 (fun _ => hx) (fun g => absurd rfl g))))
  rw [if_pos h61]
  obtain ⟨x2, g2, hi2⟩ := g1.eat1 (lv := lv) (D := e) (by omega) h61 (by decide) (by omega)
  have mv := m_value (D := e) (lv := lv) (sm := false) (r := r) (by omega) g2 (by omega) (by omega) hr
  rw [if_neg (by decide)] at mv
  have e18 : upd (upd iv 13 (nI (i + 1))) 13 (nI (i + 1 + 1)) 18 = nI bs.length := h.2.2.2.2.1.1
  have pre2 : ∀ x, xe e xt_91 173 [some (.ref 27), some (.int (nI (tx i))), none] [] (xs (upd (upd iv 13 (nI (i + 1))) 13 (nI (i + 1 + 1))) av lv) x → xm (e + 1) 91 [.ref 27] (xs iv av lv) x := fun x hx => pre x (xb_91_164 x2 (xb_91_170 (fun g => absurd g (by decide)) (fun _ => hx)))
  cases hv : pVal tx (pu tx r) (i + 2) with
  | none =>
    rw [hv] at mv
    obtain ⟨iv1, av1, f1, x1, b1⟩ := mv
    exact fail _ _ ((SF.at.tr SF.at).tr f1.sf) b1 (fun x hx => pre2 x (xb_91_173 (by rw [e18]; exact x1) (xb_91_182 (fun _ => hx) (fun g => absurd rfl g))))
  | some q =>
    rw [hv] at mv
    obtain ⟨iv1, av1, f1, x1, v1⟩ := mv
    obtain ⟨iv3, av3, f3, x3, v3⟩ := gs_emit (D := e) (lv := lv) (o := 2) (a := tx i - 97) (by omega) v1 (by omega) (by omega)
    rw [if_pos no12.2.1] at v3
    have F : SF iv av iv3 av3 := ((SF.at.tr SF.at).tr f1.sf).tr f3.sf
    have pre3 : ∀ x, xe e xt_91 204 [some (.ref 27), some (.int (nI (tx i))), some (.int 1)] [] (xs iv3 av3 lv) x → xm (e + 1) 91 [.ref 27] (xs iv av lv) x := fun x hx => pre2 x (xb_91_173 (by rw [e18]; exact x1) (xb_91_182 (fun g => absurd g (by decide)) (fun _ => xb_91_185 (xb_91_190 (by rw [e97]; exact x3) (xb_91_200 (fun g => absurd g (by decide)) (fun _ => hx))))))
    rw [Option.bind_some]
    by_cases h59 : tx q.1 = 59
    · rw [if_pos h59]
      obtain ⟨x4, v4, -⟩ := v3.eat1 (lv := lv) (D := e) (by omega) h59 (by decide) (by omega)
      refine ⟨_, _, F.tr SF.at, pre3 _ (xb_91_204 x4 (xb_91_210 (fun g => absurd g (by decide)) (fun _ => xb_91_213 (xb_91_218 (Or.inr rfl))))), ?_⟩
      dsimp only
      rw [← List.append_assoc, ← List.append_assoc]
      exact v4
    · rw [if_neg h59]
      exact ⟨_, _, F, pre3 _ (xb_91_204 (v3.eat0 (by omega) h59 (by decide)) (xb_91_210 (fun _ => xb_91_217 (xb_91_218 (Or.inl rfl))) (fun g => absurd rfl g)))⟩
/-- [ : I reads what is in the brackets -/
theorem m_st_keep (he : 5 ≤ e) (h : GS n tx iv av i K Mk bs 0) (hr : bs.length + r = 6) (hc : tx i = 91) {I : Nat → PR} (hI : (r = 0 ∧ I = fun _ => none) ∨ ∃ r', r = r' + 1 ∧ I = pVal tx (pu tx r')) : SO (e + 1) lv n tx iv av K Mk bs ((I (i + 1)).bind (fun q => if tx q.1 = 93 then (if tx (q.1 + 1) = 61 then (pVal tx (pu tx r) (q.1 + 2)).bind (fun t => if tx t.1 = 59 then some (t.1 + 1, q.2 ++ t.2 ++ [(4, 0)]) else none) else none) else none)) := by
  have hi : i < n := h.1.lt (by omega)
  have hn := h.1.2.1
  have hle := h.1.le i
  have g1 := h.at0 (j := i + 1) (by omega) (by omega) (by omega)
  have e18 : ∀ {iv1 av1}, SF iv av iv1 av1 → True := fun _ => trivial
  have h18 := h.2.2.2.2.1.1
  have pre : ∀ x, xe e xt_91 225 [some (.ref 27), some (.int (nI (tx i))), none] [] (xs (upd iv 13 (nI (i + 1))) av lv) x → xm (e + 1) 91 [.ref 27] (xs iv av lv) x := fun x hx =>
    st_123 he h (by omega) (by omega) (by omega) (xb_91_123 (fun g => absurd ((nI_ltI (b := 65) (by omega) (by omega)).mp g) (by omega)) (fun _ => xb_91_129 (fun _ => xb_91_152 (fun _ => xb_91_219 (fun _ => hx) (fun g => absurd (by rw [hc]; rfl) g)) (fun g => absurd (show nI (tx i) < nI 97 from nI_lt (by omega) (by omega)) g)) (fun g => absurd (show nI 68 < nI (tx i) from nI_lt (by omega) (by omega)) g)))
  have fail : ∀ iv1 av1, SF iv av iv1 av1 → GB iv1 av1 → (∀ x, xe e xt_91 282 [some (.ref 27), none, none] [] (xs iv1 av1 lv) x → xm (e + 1) 91 [.ref 27] (xs iv av lv) x) → ∃ iv' av', SF iv av iv' av' ∧ xm (e + 1) 91 [.ref 27] (xs iv av lv) (some (.int 0), xs iv' av' lv) := by
    intro iv1 av1 F b1 p
    obtain ⟨iv2, av2, f2, x2, b2⟩ := gb_emit (D := e) (lv := lv) (o := 4) (a := 0) (by omega) b1 (by omega)
    exact ⟨iv2, av2, F.tr f2.sf, p _ (xb_91_282 (xb_91_283 x2 (xb_91_290 (fun _ => xb_91_307 (xb_91_308 (Or.inl rfl))) (fun g => absurd rfl g))))⟩
  have e18 : upd iv 13 (nI (i + 1)) 18 = nI bs.length := h18
  rcases hI with ⟨rfl, rfl⟩ | ⟨r', rfl, rfl⟩
  · exact fail _ _ SF.at g1.gb (fun x hx => pre x (xb_91_225 (fun g => by rw [e18] at g; have := (nI_ltI (b := 6) (by omega) (by omega)).mp g; omega) (fun _ => hx)))
  have mv := m_value (D := e) (lv := lv) (sm := false) (dB := bs.length + 1) (r := r') (by omega) g1 (by omega) (by omega) (by omega)
  rw [if_neg (by decide)] at mv
  have pre1 : ∀ x, xe e xt_91 234 [some (.ref 27), none, none] [] (xs (upd iv 13 (nI (i + 1))) av lv) x → xm (e + 1) 91 [.ref 27] (xs iv av lv) x := fun x hx => pre x (xb_91_225 (fun _ => hx) (fun g => absurd (show upd iv 13 (nI (i + 1)) 18 < nI 6 by rw [e18]; exact nI_lt (by omega) (by omega)) g))
  have e18' : upd iv 13 (nI (i + 1)) 18 + 1 = nI (bs.length + 1) := by rw [e18, nI_1]
  cases hv : pVal tx (pu tx r') (i + 1) with
  | none =>
    rw [hv] at mv
    obtain ⟨iv1, av1, f1, x1, b1⟩ := mv
    exact fail _ _ (SF.at.tr f1.sf) b1 (fun x hx => pre1 x (xb_91_234 (by rw [e18']; exact x1) (xb_91_245 (fun _ => hx) (fun g => absurd rfl g))))
  | some q =>
    rw [hv] at mv
    obtain ⟨iv1, av1, f1, x1, v1⟩ := mv
    rw [Option.bind_some]
    have F1 : SF iv av iv1 av1 := SF.at.tr f1.sf
    have pre2 : ∀ x, xe e xt_91 248 [some (.ref 27), none, none] [] (xs iv1 av1 lv) x → xm (e + 1) 91 [.ref 27] (xs iv av lv) x := fun x hx => pre1 x (xb_91_234 (by rw [e18']; exact x1) (xb_91_245 (fun g => absurd g (by decide)) (fun _ => hx)))
    by_cases h93 : tx q.1 = 93
    case neg =>
      rw [if_neg h93]
      exact fail _ _ F1 v1.gb (fun x hx => pre2 x (xb_91_248 (v1.eat0 (by omega) h93 (by decide)) (xb_91_254 (fun _ => hx) (fun g => absurd rfl g))))
    rw [if_pos h93]
    obtain ⟨x2, v2, hq2⟩ := v1.eat1 (lv := lv) (D := e) (by omega) h93 (by decide) (by omega)
    have F2 := F1.tr (SF.at (y := nI (q.1 + 1)))
    have pre3 : ∀ x, xe e xt_91 257 [some (.ref 27), none, none] [] (xs (upd iv1 13 (nI (q.1 + 1))) av1 lv) x → xm (e + 1) 91 [.ref 27] (xs iv av lv) x := fun x hx => pre2 x (xb_91_248 x2 (xb_91_254 (fun g => absurd g (by decide)) (fun _ => hx)))
    by_cases h61 : tx (q.1 + 1) = 61
    case neg =>
      rw [if_neg h61]
      exact fail _ _ F2 v2.gb (fun x hx => pre3 x (xb_91_257 (v2.eat0 (by omega) h61 (by decide)) (xb_91_263 (fun _ => hx) (fun g => absurd rfl g))))
    rw [if_pos h61]
    obtain ⟨x3, v3, hq3⟩ := v2.eat1 (lv := lv) (D := e) (by omega) h61 (by decide) (by omega)
    have F3 := F2.tr (SF.at (y := nI (q.1 + 1 + 1)))
    have mv2 := m_value (D := e) (lv := lv) (sm := false) (dB := bs.length) (r := r' + 1) (by omega) v3 (by omega) (by omega) hr
    rw [if_neg (by decide)] at mv2
    have e18c := v3.2.2.2.2.1.1
    have pre4 : ∀ x, xe e xt_91 266 [some (.ref 27), none, none] [] (xs (upd (upd iv1 13 (nI (q.1 + 1))) 13 (nI (q.1 + 1 + 1))) av1 lv) x → xm (e + 1) 91 [.ref 27] (xs iv av lv) x := fun x hx => pre3 x (xb_91_257 x3 (xb_91_263 (fun g => absurd g (by decide)) (fun _ => hx)))
    cases hv2 : pVal tx (pu tx (r' + 1)) (q.1 + 2) with
    | none =>
      rw [hv2] at mv2
      obtain ⟨iv4, av4, f4, x4, b4⟩ := mv2
      exact fail _ _ (F3.tr f4.sf) b4 (fun x hx => pre4 x (xb_91_266 (by rw [e18c]; exact x4) (xb_91_275 (fun _ => hx) (fun g => absurd rfl g))))
    | some t =>
      rw [hv2] at mv2
      obtain ⟨iv4, av4, f4, x4, v4⟩ := mv2
      obtain ⟨iv5, av5, f5, x5, v5⟩ := gs_emit (D := e) (lv := lv) (o := 4) (a := 0) (by omega) v4 (by omega) (by omega)
      rw [if_pos no12.2.2.1] at v5
      have F5 := (F3.tr f4.sf).tr f5.sf
      have pre5 : ∀ x, xe e xt_91 294 [some (.ref 27), none, some (.int 1)] [] (xs iv5 av5 lv) x → xm (e + 1) 91 [.ref 27] (xs iv av lv) x := fun x hx => pre4 x (xb_91_266 (by rw [e18c]; exact x4) (xb_91_275 (fun g => absurd g (by decide)) (fun _ => xb_91_278 (xb_91_283 x5 (xb_91_290 (fun g => absurd g (by decide)) (fun _ => hx))))))
      rw [Option.bind_some]
      by_cases h59 : tx t.1 = 59
      · rw [if_pos h59]
        obtain ⟨x6, v6, -⟩ := v5.eat1 (lv := lv) (D := e) (by omega) h59 (by decide) (by omega)
        refine ⟨_, _, F5.tr SF.at, pre5 _ (xb_91_294 x6 (xb_91_300 (fun g => absurd g (by decide)) (fun _ => xb_91_303 (xb_91_308 (Or.inr rfl))))), ?_⟩
        dsimp only
        simp only [← List.append_assoc]
        exact v6
      · rw [if_neg h59]
        exact ⟨_, _, F5, pre5 _ (xb_91_294 (v5.eat0 (by omega) h59 (by decide)) (xb_91_300 (fun _ => xb_91_307 (xb_91_308 (Or.inl rfl))) (fun g => absurd rfl g)))⟩
theorem m_st_no (he : 5 ≤ e) (h : GS n tx iv av i K Mk bs 0) (h33 : tx i ≠ 33) (h63 : tx i ≠ 63) (h35 : tx i ≠ 35) (h91 : tx i ≠ 91) (hv : ¬ (97 ≤ tx i ∧ tx i < 97 + 6)) (hp : ¬ (65 ≤ tx i ∧ tx i < 65 + 4)) : SO (e + 1) lv n tx iv av K Mk bs none := by
  have hle := h.1.le i
  have h219 : ∀ x o2, x = (some (.int 0), xs (upd iv 13 (nI (i + 1))) av lv) → xe e xt_91 219 [some (.ref 27), some (.int (nI (tx i))), o2] [] (xs (upd iv 13 (nI (i + 1))) av lv) x := fun x o2 hx => by
    subst hx
    exact xb_91_219 (fun g => absurd ((nI_eq (b := 91) (by omega) (by omega)).mp g) h91) (fun _ => xb_91_309)
  have h152 : ∀ o2, xe e xt_91 152 [some (.ref 27), some (.int (nI (tx i))), o2] [] (xs (upd iv 13 (nI (i + 1))) av lv) (some (.int 0), xs (upd iv 13 (nI (i + 1))) av lv) := fun o2 =>
    xb_91_152 (fun _ => h219 _ _ rfl) (fun g1 => xb_91_158 (fun _ => h219 _ _ rfl) (fun g2 => absurd (by
      have a1 : ¬ tx i < 97 := fun q => g1 (show nI (tx i) < nI 97 from nI_lt q (by omega))
      have a2 : ¬ 102 < tx i := fun q => g2 (show nI 102 < nI (tx i) from nI_lt q (by omega))
      omega) hv))
  refine ⟨_, _, SF.at, st_123 he h h33 h63 h35 (xb_91_123 (fun _ => h152 _) (fun g1 => xb_91_129 (fun _ => h152 _) (fun g2 => absurd ?_ hp)))⟩
  have a1 : ¬ tx i < 65 := fun q => g1 (show nI (tx i) < nI 65 from nI_lt q (by omega))
  have a2 : ¬ 68 < tx i := fun q => g2 (show nI 68 < nI (tx i) from nI_lt q (by omega))
  omega
end MST
