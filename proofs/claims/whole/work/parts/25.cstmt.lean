/-! The class's parser of statements and blocks does what the parsers of part 24 say. -/
def kc (K : Nat → Bool) (c : List In) : Nat → Bool := fun p => K p || c.any (fun q => q.1 == 17 && q.2 == p)
theorem kc_app (K : Nat → Bool) (a b : List In) : kc K (a ++ b) = kc (kc K a) b := by
  funext p
  unfold kc
  rw [List.any_append, Bool.or_assoc]
theorem kc_sh (K : Nat → Bool) (k : Nat) (c : List In) : kc K (sh k c) = kc K c := by
  funext p
  unfold kc sh
  rw [List.any_map]
  congr 2
  funext q
  dsimp only [Function.comp]
  by_cases h : q.1 = 13 ∨ q.1 = 14 ∨ q.1 = 15
  · have h17 : (q.1 == 17) = false := by
      rcases h with h | h | h <;> rw [h] <;> rfl
    simp [h, h17]
  · simp [h]
theorem kc_no {K : Nat → Bool} {c : List In} (h : ∀ q ∈ c, q.1 ≠ 17) : kc K c = K := by
  funext p
  unfold kc
  have : c.any (fun q => q.1 == 17 && q.2 == p) = false := by
    rw [List.any_eq_false]
    intro q hq
    have := h q hq
    simp [this]
  rw [this, Bool.or_false]
theorem kc_ex {K : Nat → Bool} {c : List In} (h : ∀ q ∈ c, EX q.1 ∧ q.2 < 1000) : kc K c = K := kc_no (fun q hq => by have := (h q hq).1.1; omega)
theorem kc_one {K : Nat → Bool} {o a : Nat} (h : o ≠ 17) : kc K [(o, a)] = K := kc_no (fun q hq => by cases List.mem_singleton.mp hq; exact h)
/-- a piece of statements -/
def PTR (D k : Nat) (vs : List Value) (lv : Nat → Nat → Int64) (n : Nat) (tx : Nat → Nat) (iv : Nat → Int32) (av : Nat → Nat → Int32) (C : List In) (K : Nat → Bool) (res : PR) : Prop := ∃ iv' av', PF iv av iv' av' ∧
  ((∃ j c, res = some (j, c) ∧ xm D k vs (xs iv av lv) (some (.int 1), xs iv' av' lv) ∧ PS n tx iv' av' j (C ++ sh C.length c) (kc K c)) ∨ (res = none ∧ xm D k vs (xs iv av lv) (some (.int 0), xs iv' av' lv)))
def PT (D k : Nat) (vs : List Value) (n : Nat) (tx : Nat → Nat) (P : Nat → PR) : Prop := ∀ iv av lv i C K, PS n tx iv av i C K → C.length + 5 * (200 - i) < 2 ^ 29 → PTR D k vs lv n tx iv av C K (P i)
section STC
variable {D e : Nat} {iv : Nat → Int32} {av : Nat → Nat → Int32} {lv : Nat → Nat → Int64} {n i c dp : Nat} {tx : Nat → Nat} {C : List In} {K : Nat → Bool} {V S I B : Nat → PR}
/-- instruction k goes to the one that is added next -/
theorem c_aim {k o a : Nat} (hD : 1 ≤ D) (h : PS n tx iv av i C K) (hl : C.length < 2 ^ 29) (hk : C[k]? = some (o, a)) : ∃ av', PF iv av iv av' ∧ xm D 43 [.ref 4, .int (nI k)] (xs iv av lv) (none, xs iv av' lv) ∧ PS n tx iv av' i (C.set k (o, C.length)) K := by
  obtain ⟨f, rfl⟩ : ∃ f, D = f + 1 := ⟨D - 1, by omega⟩
  obtain ⟨hT, hi, hi2, ⟨hd1, hd2⟩, hK⟩ := h
  have hkl : k < C.length := (List.getElem?_eq_some_iff.mp hk).1
  have hold : ∀ (av' : Nat → Nat → Int32), av' 5 = av 5 → (∀ j, j ≠ k → av' 6 j = av 6 j) → (k < 200 → av' 6 k = nI C.length) → DR iv av' (C.set k (o, C.length)) := by
    intro av' h1 h2 h3
    refine ⟨by rw [List.length_set]; exact hd1, fun j o' a' hj hj2 => ?_⟩
    rw [h1]
    by_cases hjk : k = j
    · subst hjk
      rw [List.getElem?_set_self hkl] at hj
      cases hj
      exact ⟨(hd2 k o a hk hj2).1, h3 hj2⟩
    · rw [List.getElem?_set_ne hjk] at hj
      rw [h2 j (Ne.symm hjk)]
      exact hd2 j o' a' hj hj2
  by_cases hlt : k < 200
  · refine ⟨va_up av 6 (upd (av 6) k (iv 2)), ⟨fun _ _ _ => rfl, fun q a b _ => va_up_ne' b⟩, ?_, hT.to rfl rfl, hi, hi2, hold _ rfl (fun j hj => ?_) (fun _ => ?_), hK⟩
    · refine xm_of (nL := 2) rfl rfl (xb_43_0 (fun h1 => absurd h1 (nI_pos (by omega))) (fun _ => xb_43_4 (fun _ => xb_43_11 (nI_bd hlt (by omega)) ?_) (fun h1 => absurd (show nI k < nI 200 from nI_lt hlt (by omega)) h1)))
      rw [nI_clamp (by omega)]
      exact xb_43_21
    · exact upd_ne' (f := av 6) hj
    · show upd (av 6) k (iv 2) k = _
      rw [upd_eq', hd1]
  · refine ⟨av, PF.rf, ?_, hT, hi, hi2, hold _ rfl (fun j _ => rfl) (fun h => absurd h hlt), hK⟩
    exact xm_of (nL := 2) rfl rfl (xb_43_0 (fun h1 => absurd h1 (nI_pos (by omega))) (fun _ => xb_43_4 (fun h1 => absurd h1 (show ¬ nI k < nI 200 from nI_nlt (by omega) (by omega))) (fun _ => xb_43_21)))
theorem c_sees' (hD : 2 ≤ D) (h : PS n tx iv av i C K) (hc : c < 65536) : xm D 34 [.ref 2, .int (nI c)] (xs iv av lv) (some (.int (if tx i = c then 1 else 0)), xs iv av lv) := by
  obtain ⟨f, rfl⟩ : ∃ f, D = f + 2 := ⟨D - 2, by omega⟩
  have := h.2.2.1
  exact c_sees h.1 h.2.1 (by omega) hc
theorem c_choice (hbV : PB n V) (hlB : PL n 2 B) (hV : PE e 24 [.ref 1, .int (nI dp)] n tx V) (hB : PT e 20 [.ref 1, .int (nI (dp + 1))] n tx B) (he : 3 ≤ e) : PT (e + 1) 22 [.ref 1, .int (nI dp)] n tx (pChoice tx V B) := by
  intro iv av lv i C K hs hBd
  have hn := hs.1.2.1
  unfold pChoice
  obtain ⟨iv1, av1, f1, h⟩ := hV iv av lv i C K hs (by omega)
  rcases h with ⟨j, v, e1, x1, s1⟩ | ⟨e1, x1⟩
  case inr => exact ⟨_, _, f1, Or.inr ⟨by rw [e1]; rfl, xm_of (nL := 4) rfl rfl (xb_22_0 x1 (xb_22_5 (fun _ => xb_22_8) (fun h => absurd rfl h)))⟩⟩
  have g1 := hbV _ _ _ e1
  have l1 : (C ++ v).length = C.length + v.length := List.length_append
  obtain ⟨iv2, av2, f2, x2, s2⟩ := c_add (lv := lv) (o := 13) (a := 0) (D := e) (by omega) s1 (by omega)
  have l2 : (C ++ v ++ [(13, 0)]).length = C.length + v.length + 1 := by simp only [List.length_append, List.length_cons, List.length_nil]
  obtain ⟨iv3, av3, f3, h⟩ := hB iv2 av2 lv j (C ++ v ++ [(13, 0)]) K s2 (by omega)
  rw [e1]
  dsimp only [Option.bind_some]
  rcases h with ⟨j3, b, e3, x3, s3⟩ | ⟨e3, x3⟩
  case inr => exact ⟨_, _, (f1.tr f2).tr f3, Or.inr ⟨by rw [e3]; rfl, xm_of (nL := 4) rfl rfl (xb_22_0 x1 (xb_22_5 (fun h => absurd h (by decide)) (fun _ => xb_22_10 x2 (xb_22_20 (by rw [nI_1]; exact x3) (xb_22_28 (fun _ => xb_22_31) (fun h => absurd rfl h))))))⟩⟩
  have g3 := hlB _ _ _ e3
  rw [e3]
  dsimp only [Option.bind_some]
  have y3 := c_sees' (lv := lv) (c := 123) (D := e) (by omega) s3 (by omega)
  have hz : (C ++ v ++ [(13, 0)] ++ sh (C ++ v ++ [(13, 0)]).length b)[(C ++ v).length]? = some (13, 0) := by
    rw [List.getElem?_append_left (by omega), List.getElem?_append_right (Nat.le_refl _), Nat.sub_self]
    rfl
  by_cases h123 : tx j3 = 123
  · rw [if_pos h123] at y3 ⊢
    obtain ⟨iv4, av4, f4, x4, s4⟩ := c_add (lv := lv) (o := 14) (a := 0) (D := e) (by omega) s3 (by simp only [List.length_append, sh_len, List.length_cons, List.length_nil]; omega)
    have l4 : (C ++ v ++ [(13, 0)] ++ sh (C ++ v ++ [(13, 0)]).length b ++ [(14, 0)]).length = C.length + v.length + 2 + b.length := by
      simp only [List.length_append, sh_len, List.length_cons, List.length_nil]; omega
    obtain ⟨av5, f5, x5, s5⟩ := c_aim (lv := lv) (k := (C ++ v).length) (o := 13) (a := 0) (D := e) (by omega) s4 (by omega) (by rw [List.getElem?_append_left (by simp only [List.length_append, sh_len, List.length_cons, List.length_nil]; omega)]; exact hz)
    rw [l4] at s5
    have c5 : (C ++ v ++ [(13, 0)] ++ sh (C ++ v ++ [(13, 0)]).length b ++ [(14, 0)]).set (C ++ v).length (13, C.length + v.length + 2 + b.length) = C ++ v ++ [(13, C.length + v.length + 2 + b.length)] ++ sh (C.length + v.length + 1) b ++ [(14, 0)] := by
      rw [l2, List.append_assoc (C ++ v), List.append_assoc (C ++ v), List.set_append_right _ _ (Nat.le_refl _), Nat.sub_self]
      simp only [List.cons_append, List.nil_append, List.set_cons_zero, List.append_assoc]
    rw [c5] at s5
    have l5 : (C ++ v ++ [(13, C.length + v.length + 2 + b.length)] ++ sh (C.length + v.length + 1) b ++ [(14, 0)]).length = C.length + v.length + 2 + b.length := by
      simp only [List.length_append, sh_len, List.length_cons, List.length_nil]; omega
    obtain ⟨iv6, av6, f6, h⟩ := hB iv4 av5 lv j3 _ _ s5 (by omega)
    rcases h with ⟨j6, t, e6, x6, s6⟩ | ⟨e6, x6⟩
    case inr => exact ⟨_, _, ((((f1.tr f2).tr f3).tr f4).tr f5).tr f6, Or.inr ⟨by rw [e6]; rfl, xm_of (nL := 4) rfl rfl (xb_22_0 x1 (xb_22_5 (fun h => absurd h (by decide)) (fun _ => xb_22_10 x2 (xb_22_20 (by rw [nI_1]; exact x3) (xb_22_28 (fun h => absurd h (by decide)) (fun _ => xb_22_33 y3 (xb_22_42 (fun h => absurd h (by decide)) (fun _ => xb_22_55 x4 (xb_22_65 x5 (xb_22_74 (by rw [nI_1]; exact x6) (xb_22_81 (fun _ => xb_22_84) (fun h => absurd rfl h))))))))))))⟩⟩
    have g6 := hlB _ _ _ e6
    have hq : (C ++ v ++ [(13, C.length + v.length + 2 + b.length)] ++ sh (C.length + v.length + 1) b ++ [(14, 0)] ++ sh (C ++ v ++ [(13, C.length + v.length + 2 + b.length)] ++ sh (C.length + v.length + 1) b ++ [(14, 0)]).length t)[(C ++ v ++ [(13, 0)] ++ sh (C ++ v ++ [(13, 0)]).length b).length]? = some (14, 0) := by
      have l6 : (C ++ v ++ [(13, 0)] ++ sh (C ++ v ++ [(13, 0)]).length b).length = (C ++ v ++ [(13, C.length + v.length + 2 + b.length)] ++ sh (C.length + v.length + 1) b).length := by
        simp only [List.length_append, sh_len, List.length_cons, List.length_nil]
      rw [l6, List.getElem?_append_left (by simp only [List.length_append, sh_len, List.length_cons, List.length_nil]; omega), List.getElem?_append_right (Nat.le_refl _), Nat.sub_self]
      rfl
    obtain ⟨av7, f7, x7, s7⟩ := c_aim (lv := lv) (k := (C ++ v ++ [(13, 0)] ++ sh (C ++ v ++ [(13, 0)]).length b).length) (o := 14) (a := 0) (D := e) (by omega) s6 (by simp only [List.length_append, sh_len, List.length_cons, List.length_nil]; omega) hq
    refine ⟨_, _, (((((f1.tr f2).tr f3).tr f4).tr f5).tr f6).tr f7, Or.inl ⟨j6, _, by rw [e6]; rfl, xm_of (nL := 4) rfl rfl (xb_22_0 x1 (xb_22_5 (fun h => absurd h (by decide)) (fun _ => xb_22_10 x2 (xb_22_20 (by rw [nI_1]; exact x3) (xb_22_28 (fun h => absurd h (by decide)) (fun _ => xb_22_33 y3 (xb_22_42 (fun h => absurd h (by decide)) (fun _ => xb_22_55 x4 (xb_22_65 x5 (xb_22_74 (by rw [nI_1]; exact x6) (xb_22_81 (fun h => absurd h (by decide)) (fun _ => xb_22_86 x7 xb_22_94)))))))))))), ?_⟩⟩
    have ek : kc (kc (kc K b) t) [] = kc K (v ++ [(13, v.length + 2 + b.length)] ++ sh (v.length + 1) b ++ [(14, v.length + 2 + b.length + t.length)] ++ sh (v.length + 2 + b.length) t) := by
      rw [kc_app, kc_app, kc_app, kc_app, kc_sh, kc_sh, kc_ex g1.2.2.2, kc_one (by decide), kc_one (by decide), kc_no (c := []) (fun q hq => by cases hq)]
    rw [← ek, kc_no (c := []) (fun q hq => by cases hq)]
    have ec : (C ++ v ++ [(13, C.length + v.length + 2 + b.length)] ++ sh (C.length + v.length + 1) b ++ [(14, 0)] ++ sh (C ++ v ++ [(13, C.length + v.length + 2 + b.length)] ++ sh (C.length + v.length + 1) b ++ [(14, 0)]).length t).set (C ++ v ++ [(13, 0)] ++ sh (C ++ v ++ [(13, 0)]).length b).length (14, (C ++ v ++ [(13, C.length + v.length + 2 + b.length)] ++ sh (C.length + v.length + 1) b ++ [(14, 0)] ++ sh (C ++ v ++ [(13, C.length + v.length + 2 + b.length)] ++ sh (C.length + v.length + 1) b ++ [(14, 0)]).length t).length)
        = C ++ sh C.length (v ++ [(13, v.length + 2 + b.length)] ++ sh (v.length + 1) b ++ [(14, v.length + 2 + b.length + t.length)] ++ sh (v.length + 2 + b.length) t) := by
      have l6 : (C ++ v ++ [(13, 0)] ++ sh (C ++ v ++ [(13, 0)]).length b).length = (C ++ v ++ [(13, C.length + v.length + 2 + b.length)] ++ sh (C.length + v.length + 1) b).length := by
        simp only [List.length_append, sh_len, List.length_cons, List.length_nil]
      rw [l6, l5, List.append_assoc (C ++ v ++ [(13, C.length + v.length + 2 + b.length)] ++ sh (C.length + v.length + 1) b), List.set_append_right _ _ (Nat.le_refl _), Nat.sub_self]
      simp only [sh_app, sh_sh, List.cons_append, List.nil_append, List.set_cons_zero]
      rw [sh_ex g1.2.2.2]
      have a1 : v.length + 1 + C.length = C.length + v.length + 1 := by omega
      have a2 : v.length + 2 + b.length + C.length = C.length + v.length + 2 + b.length := by omega
      have a3 : (C ++ v ++ [(13, C.length + v.length + 2 + b.length)] ++ sh (C.length + v.length + 1) b ++ (14, 0) :: sh (C.length + v.length + 2 + b.length) t).length = v.length + 2 + b.length + t.length + C.length := by
        simp only [List.length_append, sh_len, List.length_cons, List.length_nil]; omega
      rw [a1, a2, a3]
      simp [sh, a2]
    rw [ec] at s7
    exact s7
  · rw [if_neg h123] at y3 ⊢
    obtain ⟨av5, f5, x5, s5⟩ := c_aim (lv := lv) (k := (C ++ v).length) (o := 13) (a := 0) (D := e) (by omega) s3 (by simp only [List.length_append, sh_len, List.length_cons, List.length_nil]; omega) hz
    refine ⟨_, _, ((f1.tr f2).tr f3).tr f5, Or.inl ⟨j3, _, rfl, xm_of (nL := 4) rfl rfl (xb_22_0 x1 (xb_22_5 (fun h => absurd h (by decide)) (fun _ => xb_22_10 x2 (xb_22_20 (by rw [nI_1]; exact x3) (xb_22_28 (fun h => absurd h (by decide)) (fun _ => xb_22_33 y3 (xb_22_42 (fun _ => xb_22_45 x5 xb_22_53) (fun h => absurd rfl h)))))))), ?_⟩⟩
    have ek : kc K b = kc K (v ++ [(13, v.length + 1 + b.length)] ++ sh (v.length + 1) b) := by
      rw [kc_app, kc_app, kc_sh, kc_ex g1.2.2.2, kc_one (by decide)]
    rw [← ek]
    have ec : (C ++ v ++ [(13, 0)] ++ sh (C ++ v ++ [(13, 0)]).length b).set (C ++ v).length (13, (C ++ v ++ [(13, 0)] ++ sh (C ++ v ++ [(13, 0)]).length b).length) = C ++ sh C.length (v ++ [(13, v.length + 1 + b.length)] ++ sh (v.length + 1) b) := by
      have a3 : (C ++ v ++ [(13, 0)] ++ sh (C.length + v.length + 1) b).length = v.length + 1 + b.length + C.length := by
        simp only [List.length_append, sh_len, List.length_cons, List.length_nil]; omega
      rw [l2, a3, List.append_assoc (C ++ v), List.set_append_right _ _ (Nat.le_refl _), Nat.sub_self]
      simp only [sh_app, sh_sh, List.cons_append, List.nil_append, List.set_cons_zero]
      rw [sh_ex g1.2.2.2]
      have a1 : v.length + 1 + C.length = C.length + v.length + 1 := by omega
      rw [a1]
      simp [sh]
    rw [ec] at s5
    exact s5
end STC
