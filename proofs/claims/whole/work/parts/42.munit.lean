/-! The reference: unit, and the steps of value's loop. -/
section MU
variable {D : Nat} {iv : Nat → Int32} {av : Nat → Nat → Int32} {lv : Nat → Nat → Int64} {n i : Nat} {tx : Nat → Nat} {K Mk : List In} {ops : List Nat} {cf : Nat → Bool}
theorem VS.lk (h : VS n tx iv av i K Mk ops cf) (hD : 1 ≤ D) : xm D 76 [.ref 27] (xs iv av lv) (some (.int (nI (tx i))), xs iv av lv) := m_look hD h.1 h.2.1.1 (by have := h.2.1.2; omega)
theorem m_isDigit {c : Nat} (hD : 1 ≤ D) (hc : c < 2 ^ 30) : xm D 78 [.int (nI c)] (xs iv av lv) (some (.int (if dg c = true then 1 else 0)), xs iv av lv) := by
  obtain ⟨d, rfl⟩ : ∃ d, D = d + 1 := ⟨D - 1, by omega⟩
  refine xm_of (nL := 1) rfl rfl (xb_78_0 (fun g => ?_) (fun g1 => xb_78_6 (fun g => ?_) (fun g2 => ?_)))
  · have := (nI_ltI (b := 48) (by omega) (by omega)).mp g
    rw [if_neg (fun q => by have := dg_iff.mp q; omega)]
    exact xb_78_16 (xb_78_17 (Or.inl rfl))
  · have := (nI_ltI (a := 57) (by omega) (by omega)).mp g
    rw [if_neg (fun q => by have := dg_iff.mp q; omega)]
    exact xb_78_16 (xb_78_17 (Or.inl rfl))
  · have h1 : ¬ c < 48 := fun q => g1 (show nI c < nI 48 from nI_lt q (by omega))
    have h2 : ¬ 57 < c := fun q => g2 (show nI 57 < nI c from nI_lt q (by omega))
    rw [if_pos (dg_iff.mpr (by omega))]
    exact xb_78_12 (xb_78_17 (Or.inr rfl))
theorem dig_ar {v c : Nat} (hc : 48 ≤ c) : (10 : Int32) * nI v + nI c - 48 = nI (v * 10 + (c - 48)) := by
  show nI 10 * nI v + nI c - nI 48 = _
  rw [pk_mul, nI_add, pk_sub (by omega)]
  congr 1
  omega
/-- the digits of a unit -/
theorem m_digs {d : Nat} (hd : 1 ≤ d) (hi : i ≤ 200) : ∀ (m j : Nat) iv, m + j = nd tx i → MT iv av n tx → iv 13 = nI (i + j) → ∃ iv', (∀ q, q ≠ 13 → iv' q = iv q) ∧ iv' 13 = nI (i + nd tx i) ∧ ∀ x, xe d xt_86 205 [some (.ref 27), none, none, some (.int (nI (nd tx i))), some (.int (nI (nv tx i (nd tx i))))] [] (xs iv' av lv) x → ∀ o1 o2, xe d xt_86 159 [some (.ref 27), o1, o2, some (.int (nI j)), some (.int (nI (nv tx i j)))] [] (xs iv av lv) x := by
  intro m
  have h3 := nd_le tx i
  induction m with
  | zero =>
    intro j iv hm hT h13
    have hj : j = nd tx i := by omega
    subst hj
    refine ⟨iv, fun _ _ => rfl, h13, fun x hx o1 o2 => ?_⟩
    by_cases hlt : nd tx i < 3
    · have hle := hT.le (i + nd tx i)
      refine xb_86_159 (fun _ => xb_86_164 (m_look hd hT h13 (by omega)) (xb_86_168 (m_isDigit hd (by omega)) ?_)) (fun g => absurd (show nI _ < nI 3 from nI_lt hlt (by omega)) g)
      rw [if_neg (by rw [nd_end hlt]; decide)]
      exact xb_86_171 (fun _ => hx) (fun g => absurd rfl g)
    · exact xb_86_159 (fun g => absurd ((nI_ltI (b := 3) (by omega) (by omega)).mp g) hlt) (fun _ => hx)
  | succ m ih =>
    intro j iv hm hT h13
    have hdg := nd_dg (tx := tx) (i := i) (q := j) (by omega)
    have hr := dg_iff.mp hdg
    obtain ⟨iv', f, e, g⟩ := ih (j + 1) (upd iv 13 (nI (i + (j + 1)))) (by omega) (hT.to rfl rfl) upd_eq'
    refine ⟨iv', fun q hq => (f q hq).trans (upd_ne' hq), e, fun x hx o1 o2 => ?_⟩
    have hl := m_look (lv := lv) hd hT h13 (by omega)
    refine xb_86_159 (fun _ => xb_86_164 hl (xb_86_168 (m_isDigit hd (by omega)) ?_)) (fun q => absurd (show nI _ < nI 3 from nI_lt (by omega) (by omega)) q)
    rw [if_pos hdg]
    refine xb_86_171 (fun q => absurd q (by decide)) (fun _ => xb_86_174 hl (xb_86_183 ?_))
    rw [dig_ar hr.1, nI_1, h13, nI_1]
    exact g x hx none none
/-- an operator, a sign or a bracket is pushed -/
theorem vs_push {c : Nat} (h : VS n tx iv av i K Mk ops cf) (hi : i < n) (hc : c < 2 ^ 20) (hc1 : c ≠ 40) (hc2 : c ≠ 91) : VS n tx (upd (upd iv 16 (nI (ops.length + 1))) 13 (nI (i + 1))) (va_up av 39 (upd (av 39) ops.length (nI c))) (i + 1) K Mk (c :: ops) cf := by
  obtain ⟨h1, h2, h3, h4, h5, h6, h7, h8, h9⟩ := h
  have hn := h1.2.1
  refine ⟨h1.to rfl rfl, ⟨upd_eq', by omega⟩, h3, h4, ⟨?_, ?_, hc, os_upd h5.2 (Nat.le_refl _)⟩, ⟨?_, fun q hq => h6.2 q (by rw [brs_n hc1 hc2] at hq; exact hq)⟩, ?_, ?_, ?_⟩
  · show upd iv 16 _ 16 = _
    exact upd_eq'
  · show upd (av 39) ops.length (nI c) ops.length = _
    exact upd_eq'
  · rw [brs_n hc1 hc2]
    exact h6.1
  · rw [List.length_cons]; omega
  · rw [List.length_cons]; omega
  · rw [List.length_cons]; omega
theorem vs_br {c : Nat} (h : VS n tx iv av i K Mk ops cf) (hi : i < n) (hc : c = 40 ∨ c = 91) (hb : brs ops < 8) : VS n tx (upd (upd (upd iv 16 (nI (ops.length + 1))) 13 (nI (i + 1))) 17 (nI (brs ops + 1))) (va_up (va_up av 39 (upd (av 39) ops.length (nI c))) 40 (upd (av 40) (brs ops + 1) 0)) (i + 1) K Mk (c :: ops) (va_up cf (brs ops + 1) false) := by
  obtain ⟨h1, h2, h3, h4, h5, h6, h7, h8, h9⟩ := h
  have hn := h1.2.1
  refine ⟨h1.to rfl rfl, ⟨rfl, by omega⟩, h3, h4, ⟨rfl, ?_, by omega, os_upd h5.2 (Nat.le_refl _)⟩, ⟨?_, fun q hq => ?_⟩, ?_, ?_, ?_⟩
  · show upd (av 39) ops.length (nI c) ops.length = _
    exact upd_eq'
  · rw [brs_b hc]
    exact upd_eq'
  · show upd (av 40) (brs ops + 1) 0 q = _
    by_cases e : q = brs ops + 1
    · subst e
      rw [upd_eq', va_up_self]
      rfl
    · rw [upd_ne' e, va_up_ne' e]
      rw [brs_b hc] at hq
      exact h6.2 q (by omega)
  · rw [List.length_cons]; omega
  · rw [List.length_cons]; omega
  · rw [List.length_cons]; omega
theorem vf_push {v : Int32} {a b : Int32} : VF iv av (upd (upd iv 16 a) 13 b) (va_up av 39 (upd (av 39) ops.length v)) := ⟨fun q h => by rw [upd_ne' (by omega), upd_ne' (by omega)], fun q _ h _ => va_up_ne' h⟩
theorem m_unit_br {dB c : Nat} (hD : 3 ≤ D) (h : VS n tx iv av i K Mk ops cf) (hc : c = 40 ∨ c = 91) (e : tx i = c) (hdp : dB + dps ops ≤ 6) :
    ∃ iv' av', VF iv av iv' av' ∧ VS n tx iv' av' (i + 1) K Mk (c :: ops) (va_up cf (brs ops + 1) false) ∧ xm D 86 [.ref 27, .int (nI dB)] (xs iv av lv) (some (.int (if 6 < dB + (dps ops + 1) then 0 else 1)), xs iv' av' lv) := by
  obtain ⟨d, rfl⟩ : ∃ d, D = d + 1 := ⟨D - 1, by omega⟩
  have hb := brs_le ops
  have hi : i < n := h.1.lt (by omega)
  have hn := h.1.2.1
  have hlen := h.2.2.2.2.2.2.1
  have v := vs_br (c := c) h hi hc (by omega)
  have h16 := h.2.2.2.2.1.1
  have h13 := h.2.1.1
  have h17 := h.2.2.2.2.2.1.1
  refine ⟨_, _, ⟨fun q hq => ?_, fun q a b c => ?_⟩, v, ?_⟩
  · rw [upd_ne' (by omega), upd_ne' (by omega), upd_ne' (by omega)]
  · rw [va_up_ne' c, va_up_ne' b]
  have c45 : ¬ nI c = 45 := fun g => by have := (nI_eq (b := 45) (by omega) (by omega)).mp g; omega
  have st0 : st c = 0 := by rcases hc with rfl | rfl <;> rfl
  have go : ∀ x, xe d xt_86 23 [some (.ref 27), some (.int (nI dB)), some (.int (nI c)), none, none] [] (xs iv av lv) x → xm (d + 1) 86 [.ref 27, .int (nI dB)] (xs iv av lv) x := by
    intro x hx
    refine xm_of (nL := 5) rfl rfl (xb_86_0 (h.lk (by omega)) ?_)
    rw [e]
    exact xb_86_4 (fun _ => hx) (fun g1 => xb_86_11 (fun _ => hx) (fun g2 => hc.elim (fun q => absurd (by rw [q]; rfl) g1) (fun q => absurd (by rw [q]; rfl) g2)))
  refine go _ (xb_86_23 (fun g => absurd g c45) (fun _ => xb_86_42 (xb_86_43 (by rw [h16]; exact nI_bd (by omega) (by omega)) ?_)))
  rw [h16, nI_clamp (by omega)]
  refine xb_86_44 (fun g => absurd g c45) (fun _ => ?_)
  rw [h16, nI_1, h13, nI_1]
  have e17 : upd (upd iv 16 (nI (ops.length + 1))) 13 (nI (i + 1)) 17 = nI (brs ops) := h17
  refine xb_86_70 (fun _ => ?_) (fun g => absurd (show _ < nI 9 by rw [e17, nI_1]; exact nI_lt (by omega) (by omega)) g)
  rw [e17, nI_1]
  refine xb_86_93 ?_
  have e17b : upd (upd (upd iv 16 (nI (ops.length + 1))) 13 (nI (i + 1))) 17 (nI (brs ops + 1)) 17 = nI (brs ops + 1) := upd_eq'
  rw [e17b]
  refine xb_86_102 (nI_bd (by omega) (by omega)) ?_
  rw [nI_clamp (by omega)]
  refine xb_86_104 (m_deep (ops := c :: ops) (by omega) v.2.2.2.2.1.1 v.2.2.2.2.1.2 (by rw [List.length_cons]; omega)) ?_
  rw [dps_0 st0]
  refine xb_86_109 (fun g => ?_) (fun g => ?_)
  · rw [nI_add] at g
    rw [if_pos ((nI_ltI (a := 6) (by omega) (by omega)).mp g)]
    exact xb_86_115 xb_86_120
  · rw [nI_add] at g
    rw [if_neg (fun q => g (show nI 6 < _ from nI_lt q (by omega)))]
    exact xb_86_119 xb_86_120
theorem m_unit_neg {dB : Nat} (hD : 3 ≤ D) (h : VS n tx iv av i K Mk ops cf) (e : tx i = 45) (hdp : dB + dps ops ≤ 6) :
    ∃ iv' av', VF iv av iv' av' ∧ VS n tx iv' av' (i + 1) K Mk (126 :: ops) cf ∧ xm D 86 [.ref 27, .int (nI dB)] (xs iv av lv) (some (.int (if 6 < dB + (dps ops + 1) then 0 else 1)), xs iv' av' lv) := by
  obtain ⟨d, rfl⟩ : ∃ d, D = d + 1 := ⟨D - 1, by omega⟩
  have hi : i < n := h.1.lt (by omega)
  have hn := h.1.2.1
  have hlen := h.2.2.2.2.2.2.1
  have v := vs_push (c := 126) h hi (by decide) (by decide) (by decide)
  have h16 := h.2.2.2.2.1.1
  have h13 := h.2.1.1
  refine ⟨_, _, vf_push, v, ?_⟩
  refine xm_of (nL := 5) rfl rfl (xb_86_0 (h.lk (by omega)) ?_)
  rw [e]
  refine xb_86_4 (fun g => absurd g (by decide)) (fun _ => xb_86_11 (fun g => absurd g (by decide)) (fun _ => xb_86_17 (fun _ => xb_86_23 (fun _ => xb_86_37 (xb_86_43 (by rw [h16]; exact nI_bd (by omega) (by omega)) ?_)) (fun g => absurd rfl g)) (fun g => absurd rfl g)))
  rw [h16, nI_clamp (by omega)]
  refine xb_86_44 (fun _ => ?_) (fun g => absurd rfl g)
  rw [h16, nI_1, h13, nI_1]
  refine xb_86_104 (m_deep (ops := 126 :: ops) (by omega) v.2.2.2.2.1.1 v.2.2.2.2.1.2 (by rw [List.length_cons]; omega)) ?_
  rw [dps_0 (show st 126 = 0 from rfl)]
  refine xb_86_109 (fun g => ?_) (fun g => ?_)
  · rw [nI_add] at g
    rw [if_pos ((nI_ltI (a := 6) (by omega) (by omega)).mp g)]
    exact xb_86_115 xb_86_120
  · rw [nI_add] at g
    rw [if_neg (fun q => g (show nI 6 < _ from nI_lt q (by omega)))]
    exact xb_86_119 xb_86_120
theorem VS.at (h : VS n tx iv av i K Mk ops cf) {iv' : Nat → Int32} {j : Nat} (hij : i ≤ j) (hj : j ≤ 200) (f : ∀ q, q ≠ 13 → iv' q = iv q) (e : iv' 13 = nI j) : VS n tx iv' av j K Mk ops cf := by
  obtain ⟨h1, h2, h3, h4, h5, h6, h7, h8, h9⟩ := h
  exact ⟨h1.to (f 12 (by decide)) rfl, ⟨e, hj⟩, ⟨by rw [f 14 (by decide)]; exact h3.1, h3.2⟩, ⟨by rw [f 15 (by decide)]; exact h4.1, h4.2⟩, ⟨by rw [f 16 (by decide)]; exact h5.1, h5.2⟩, ⟨by rw [f 17 (by decide)]; exact h6.1, h6.2⟩, by omega, by omega, by omega⟩
/-- a unit that is a variable or a number, or none -/
theorem m_unit_end {dB : Nat} (hD : 3 ≤ D) (h : VS n tx iv av i K Mk ops cf) (e1 : tx i ≠ 40) (e2 : tx i ≠ 91) (e3 : tx i ≠ 45) (V U : Nat → PR) :
    match pUnit tx V U i with
    | some (j, c) => ∃ iv' av', VF iv av iv' av' ∧ VS n tx iv' av' j (K ++ c) (Mk ++ c) ops cf ∧ xm D 86 [.ref 27, .int (nI dB)] (xs iv av lv) (some (.int 2), xs iv' av' lv)
    | none => xm D 86 [.ref 27, .int (nI dB)] (xs iv av lv) (some (.int 0), xs iv av lv) := by
  obtain ⟨d, rfl⟩ : ∃ d, D = d + 1 := ⟨D - 1, by omega⟩
  have hle := h.1.le i
  have hn := h.1.2.1
  have h8 := h.2.2.2.2.2.2.2.1
  have h9 := h.2.2.2.2.2.2.2.2
  have h13 := h.2.1.1
  have ne : ∀ {k : Nat}, k < 2 ^ 30 → tx i ≠ k → ¬ nI (tx i) = nI k := fun hk q g => q ((nI_eq (by omega) (by omega)).mp g)
  have go : ∀ x, xe d xt_86 121 [some (.ref 27), some (.int (nI dB)), some (.int (nI (tx i))), none, none] [] (xs iv av lv) x → xm (d + 1) 86 [.ref 27, .int (nI dB)] (xs iv av lv) x := fun x hx =>
    xm_of (nL := 5) rfl rfl (xb_86_0 (h.lk (by omega)) (xb_86_4 (fun g => absurd g (ne (k := 40) (by omega) e1)) (fun _ => xb_86_11 (fun g => absurd g (ne (k := 91) (by omega) e2)) (fun _ => xb_86_17 (fun g => absurd g (ne (k := 45) (by omega) e3)) (fun _ => hx)))))
  unfold pUnit
  rw [if_neg e1, if_neg e2, if_neg e3]
  by_cases hv : 97 ≤ tx i ∧ tx i < 97 + 6
  · rw [if_pos hv]
    dsimp only
    have hi : i < n := h.1.lt (by omega)
    have va := h.at (iv' := upd iv 13 (nI (i + 1))) (j := i + 1) (by omega) (by omega) (fun q hq => upd_ne' hq) upd_eq'
    obtain ⟨iv2, av2, f2, x2, v2⟩ := vs_emit (lv := lv) (D := d) (o := 1) (a := tx i - 97) (by omega) va (by omega) (by omega) (by omega)
    refine ⟨iv2, av2, VF.tr ⟨fun q hq => upd_ne' (by omega), fun _ _ _ _ => rfl⟩ f2.vf, v2, go _ (xb_86_121 (fun g => absurd ((nI_ltI (b := 97) (by omega) (by omega)).mp g) (by omega)) (fun _ => xb_86_127 (fun g => absurd ((nI_ltI (a := 102) (by omega) (by omega)).mp g) (by omega)) (fun _ => xb_86_133 ?_ xb_86_152)))⟩
    rw [h13, nI_1, show nI (tx i) - 97 = nI (tx i - 97) from pk_sub (b := 97) hv.1]
    exact x2
  · rw [if_neg hv]
    have go2 : ∀ x, xe d xt_86 154 [some (.ref 27), none, some (.int (nI (tx i))), none, none] [] (xs iv av lv) x → xm (d + 1) 86 [.ref 27, .int (nI dB)] (xs iv av lv) x := fun x hx => go x (xb_86_121 (fun _ => hx) (fun g1 => xb_86_127 (fun _ => hx) (fun g2 => absurd (by
      have a1 : ¬ tx i < 97 := fun q => g1 (show nI (tx i) < nI 97 from nI_lt q (by omega))
      have a2 : ¬ 102 < tx i := fun q => g2 (show nI 102 < nI (tx i) from nI_lt q (by omega))
      omega) hv)))
    obtain ⟨iv1, f1, e13, x1⟩ := m_digs (d := d) (av := av) (lv := lv) (n := n) (tx := tx) (i := i) (by omega) h.2.1.2 (nd tx i) 0 iv rfl h.1 h13
    have h3 := nd_le tx i
    by_cases hz : nd tx i = 0
    · rw [if_pos hz]
      dsimp only
      rw [hz] at e13 x1
      have eiv : iv1 = iv := by
        funext q
        by_cases hq : q = 13
        · subst hq
          rw [e13, h13]
          rfl
        · exact f1 q hq
      rw [eiv] at x1
      refine go2 _ (xb_86_154 (x1 _ (xb_86_205 (fun g => absurd g (by decide)) (fun _ => xb_86_216 (fun g => absurd g (by decide)) (fun _ => xb_86_224 xb_86_225))) none none))
    · rw [if_neg hz]
      dsimp only
      have hj : i + nd tx i ≤ n := by
        have := h.1.lt (i := i + (nd tx i - 1)) (by
          have := dg_iff.mp (nd_dg (tx := tx) (i := i) (q := nd tx i - 1) (by omega))
          omega)
        omega
      have va := h.at (iv' := iv1) (j := i + nd tx i) (by omega) (by omega) f1 e13
      obtain ⟨iv2, av2, f2, x2, v2⟩ := vs_emit (lv := lv) (D := d) (o := 0) (a := nv tx i (nd tx i)) (by omega) va (by omega) (by omega) (by omega)
      have h0 : (0 : Int32) < nI (nd tx i) := show nI 0 < _ from nI_lt (by omega) (by omega)
      refine ⟨iv2, av2, VF.tr ⟨fun q hq => f1 q (by omega), fun _ _ _ _ => rfl⟩ f2.vf, v2, go2 _ (xb_86_154 (x1 _ (xb_86_205 (fun _ => xb_86_209 x2 (xb_86_216 (fun _ => xb_86_220 xb_86_225) (fun g => absurd h0 g))) (fun g => absurd h0 g)) none none))⟩
end MU
