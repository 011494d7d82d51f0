/-! The class's parser of values does what the parsers of part 22 say. -/
def DR (iv : Nat → Int32) (av : Nat → Nat → Int32) (C : List In) : Prop := iv 2 = nI C.length ∧ ∀ j o a, C[j]? = some (o, a) → j < 200 → av 5 j = nI o ∧ av 6 j = nI a
def CA (av : Nat → Nat → Int32) (K : Nat → Bool) : Prop := ∀ p, p < 4 → av 12 p = if K p = true then 1 else 0
def PF (iv : Nat → Int32) (av : Nat → Nat → Int32) (iv' : Nat → Int32) (av' : Nat → Nat → Int32) : Prop := (∀ q, q ≠ 1 → q ≠ 2 → iv' q = iv q) ∧ ∀ q, q ≠ 5 → q ≠ 6 → q ≠ 12 → av' q = av q
def PS (n : Nat) (tx : Nat → Nat) (iv : Nat → Int32) (av : Nat → Nat → Int32) (i : Nat) (C : List In) (K : Nat → Bool) : Prop := TX iv av n tx ∧ iv 1 = nI i ∧ i ≤ 200 ∧ DR iv av C ∧ CA av K
def PER (D k : Nat) (vs : List Value) (lv : Nat → Nat → Int64) (n : Nat) (tx : Nat → Nat) (iv : Nat → Int32) (av : Nat → Nat → Int32) (C : List In) (K : Nat → Bool) (res : PR) : Prop := ∃ iv' av', PF iv av iv' av' ∧
  ((∃ j c, res = some (j, c) ∧ xm D k vs (xs iv av lv) (some (.int 1), xs iv' av' lv) ∧ PS n tx iv' av' j (C ++ c) K) ∨ (res = none ∧ xm D k vs (xs iv av lv) (some (.int 0), xs iv' av' lv)))
def PE (D k : Nat) (vs : List Value) (n : Nat) (tx : Nat → Nat) (P : Nat → PR) : Prop := ∀ iv av lv i C K, PS n tx iv av i C K → C.length + (200 - i) < 2 ^ 29 → PER D k vs lv n tx iv av C K (P i)
theorem PF.rf {iv : Nat → Int32} {av : Nat → Nat → Int32} : PF iv av iv av := ⟨fun _ _ _ => rfl, fun _ _ _ _ => rfl⟩
theorem PF.tr {iv iv1 iv2 : Nat → Int32} {av av1 av2 : Nat → Nat → Int32} (h : PF iv av iv1 av1) (g : PF iv1 av1 iv2 av2) : PF iv av iv2 av2 := ⟨fun q a b => (g.1 q a b).trans (h.1 q a b), fun q a b c => (g.2 q a b c).trans (h.2 q a b c)⟩
theorem PF.at {iv : Nat → Int32} {av : Nat → Nat → Int32} {y : Int32} : PF iv av (upd iv 1 y) av := ⟨fun q a _ => by unfold upd; rw [if_neg a], fun _ _ _ _ => rfl⟩
section EXC
variable {D e : Nat} {iv : Nat → Int32} {av : Nat → Nat → Int32} {lv : Nat → Nat → Int64} {n i c : Nat} {tx : Nat → Nat} {C : List In} {K : Nat → Bool}
theorem PS.at (h : PS n tx iv av i C K) {j : Nat} (hj : j ≤ 200) : PS n tx (upd iv 1 (nI j)) av j C K :=
  ⟨h.1.to rfl rfl, rfl, hj, ⟨h.2.2.2.1.1, h.2.2.2.1.2⟩, h.2.2.2.2⟩
theorem take1 (hD : 3 ≤ D) (h : PS n tx iv av i C K) (hc : c < 65536) (h0 : c ≠ 0) (e : tx i = c) : xm D 35 [.ref 2, .int (nI c)] (xs iv av lv) (some (.int 1), xs (upd iv 1 (nI (i + 1))) av lv) ∧ PS n tx (upd iv 1 (nI (i + 1))) av (i + 1) C K := by
  obtain ⟨f, rfl⟩ : ∃ f, D = f + 3 := ⟨D - 3, by omega⟩
  have h1 := h.1.lt (i := i) (by rw [e]; exact h0)
  have h2 := h.1.2.1
  exact ⟨c_takes1 h.1 h.2.1 (by omega) hc e, h.at (by omega)⟩
theorem take0 (hD : 3 ≤ D) (h : PS n tx iv av i C K) (hc : c < 65536) (e : tx i ≠ c) : xm D 35 [.ref 2, .int (nI c)] (xs iv av lv) (some (.int 0), xs iv av lv) := by
  obtain ⟨f, rfl⟩ : ∃ f, D = f + 3 := ⟨D - 3, by omega⟩
  have h2 := h.2.2.1
  exact c_takes0 h.1 h.2.1 (by omega) hc e
theorem va_up_ne' {α : Type} {f : Nat → α} {k j : Nat} {v : α} (h : j ≠ k) : va_up f k v j = f j := by unfold va_up; rw [if_neg h]
theorem upd_eq' {f : Nat → Int32} {k : Nat} {v : Int32} : upd f k v k = v := by unfold upd; rw [if_pos rfl]
theorem upd_ne' {f : Nat → Int32} {k j : Nat} {v : Int32} (h : j ≠ k) : upd f k v j = f j := by unfold upd; rw [if_neg h]
theorem nI_m1 {a : Nat} (h : a < 2 ^ 31) : ¬ nI a = (-1) := fun q => by
  have h1 := congrArg Int32.toInt q
  rw [nI_toInt h] at h1
  have h2 : (-1 : Int32).toInt = -1 := by decide
  omega
/-- an instruction is added -/
theorem c_add {o a : Nat} (hD : 1 ≤ D) (h : PS n tx iv av i C K) (hl : C.length < 2 ^ 29) : ∃ iv' av', PF iv av iv' av' ∧ xm D 42 [.ref 4, .int (nI o), .int (nI a)] (xs iv av lv) (some (.int (nI C.length)), xs iv' av' lv) ∧ PS n tx iv' av' i (C ++ [(o, a)]) K := by
  obtain ⟨f, rfl⟩ : ∃ f, D = f + 1 := ⟨D - 1, by omega⟩
  obtain ⟨hT, hi, hi2, ⟨hd1, hd2⟩, hK⟩ := h
  have hold : ∀ (av' : Nat → Nat → Int32), (∀ j, j ≠ C.length → av' 5 j = av 5 j ∧ av' 6 j = av 6 j) → (C.length < 200 → av' 5 C.length = nI o ∧ av' 6 C.length = nI a) → DR (upd iv 2 (iv 2 + 1)) av' (C ++ [(o, a)]) := by
    intro av' h1 h2
    refine ⟨?_, fun j o' a' hj hj2 => ?_⟩
    · rw [upd_eq', hd1, nI_1, List.length_append]
      rfl
    · by_cases hjl : j < C.length
      · rw [List.getElem?_append_left hjl] at hj
        rw [(h1 j (by omega)).1, (h1 j (by omega)).2]
        exact hd2 j o' a' hj hj2
      · rw [List.getElem?_append_right (by omega)] at hj
        have hz : j - C.length < 1 := (List.getElem?_eq_some_iff.mp hj).1
        have hjl : j = C.length := by omega
        subst hjl
        rw [Nat.sub_self] at hj
        cases hj
        exact h2 hj2
  by_cases hlt : C.length < 200
  · refine ⟨upd iv 2 (iv 2 + 1), va_up (va_up av 5 (upd (av 5) C.length (nI o))) 6 (upd (va_up av 5 (upd (av 5) C.length (nI o)) 6) C.length (nI a)), ⟨fun q _ b => upd_ne' b, fun q a b _ => by rw [va_up_ne' b, va_up_ne' a]⟩, ?_, ?_⟩
    · refine xm_of (nL := 4) rfl rfl ?_
      refine xb_42_0 (fun _ => ?_) (fun h1 => absurd (by rw [hd1]; exact nI_lt (b := 200) hlt (by omega)) h1)
      refine xb_42_12 (by rw [hd1]; exact nI_bd hlt (by omega)) ?_
      refine xb_42_19 (by rw [hd1]; exact nI_bd hlt (by omega)) ?_
      have e1 : (iv 2).toNatClampNeg = C.length := by rw [hd1]; exact nI_clamp (by omega)
      rw [e1, ← hd1]
      exact xb_42_26
    · refine ⟨hT.to rfl rfl, hi, hi2, hold _ (fun j hj => ⟨?_, ?_⟩) (fun _ => ⟨?_, ?_⟩), hK⟩
      · show upd (av 5) C.length (nI o) j = av 5 j
        exact upd_ne' hj
      · show upd (av 6) C.length (nI a) j = av 6 j
        exact upd_ne' hj
      · exact upd_eq' (f := av 5)
      · exact upd_eq' (f := av 6)
  · refine ⟨upd iv 2 (iv 2 + 1), av, ⟨fun q _ b => upd_ne' b, fun q _ _ _ => rfl⟩, ?_, ?_⟩
    · refine xm_of (nL := 4) rfl rfl ?_
      refine xb_42_0 (fun h1 => absurd h1 (by rw [hd1]; exact nI_nlt (b := 200) (by omega) (by omega))) (fun _ => ?_)
      have := @xb_42_26 f iv av lv (some (.int (nI o))) (some (.int (nI a))) (iv 2)
      rw [← hd1]
      exact this
    · exact ⟨hT.to rfl rfl, hi, hi2, hold _ (fun j hj => ⟨rfl, rfl⟩) (fun h => absurd h hlt), hK⟩
theorem c_write {o a : Nat} (hD : 2 ≤ D) (h : PS n tx iv av i C K) (hl : C.length < 2 ^ 29) : ∃ iv' av', PF iv av iv' av' ∧ xm D 19 [.ref 1, .int (nI o), .int (nI a)] (xs iv av lv) (some (.int 1), xs iv' av' lv) ∧ PS n tx iv' av' i (C ++ [(o, a)]) K := by
  obtain ⟨f, rfl⟩ : ∃ f, D = f + 1 := ⟨D - 1, by omega⟩
  obtain ⟨iv1, av1, h1, h2, h3⟩ := c_add (lv := lv) (o := o) (a := a) (D := f) (by omega) h hl
  exact ⟨iv1, av1, h1, xm_of (nL := 3) rfl rfl (xb_19_0 h2 xb_19_9), h3⟩
theorem c_inner {dp : Nat} {V : Nat → PR} (hb : PB n V) (hV : PE e 24 [.ref 1, .int (nI dp)] n tx V) (he : 3 ≤ e) (hdp : dp ≤ 6) (hc : c < 128) (hc0 : c ≠ 0) (hs : PS n tx iv av i C K) (hB : C.length + (200 - i) < 2 ^ 29) :
    PER (e + 1) 28 [.ref 1, .int (nI c), .int (nI dp)] lv n tx iv av C K ((V i).bind (fun q => if tx q.1 = c then some (q.1 + 1, q.2) else none)) := by
  obtain ⟨iv1, av1, f1, h⟩ := hV iv av lv i C K hs hB
  have h6 : ¬ (6 : Int32) < nI dp := show ¬ nI 6 < nI dp from nI_nlt hdp (by omega)
  rcases h with ⟨j, c', e1, x1, s1⟩ | ⟨e1, x1⟩
  · by_cases hj : tx j = c
    · obtain ⟨x2, s2⟩ := take1 (lv := lv) he s1 (by omega) hc0 hj
      exact ⟨_, _, f1.tr PF.at, Or.inl ⟨j + 1, c', by rw [e1]; simp [hj], xm_of (nL := 3) rfl rfl (xb_28_0 (fun h => absurd h h6) (fun _ => xb_28_6 x1 (xb_28_11 (fun h => absurd h (by decide)) (fun _ => xb_28_14 x2 (xb_28_22 (fun h => absurd h (by decide)) (fun _ => xb_28_25 (xb_28_30 (Or.inr rfl)))))))), s2⟩⟩
    · have x2 := take0 (lv := lv) he s1 (by omega) hj
      exact ⟨_, _, f1, Or.inr ⟨by rw [e1]; simp [hj], xm_of (nL := 3) rfl rfl (xb_28_0 (fun h => absurd h h6) (fun _ => xb_28_6 x1 (xb_28_11 (fun h => absurd h (by decide)) (fun _ => xb_28_14 x2 (xb_28_22 (fun _ => xb_28_29 (xb_28_30 (Or.inl rfl))) (fun h => absurd rfl h))))))⟩⟩
  · exact ⟨_, _, f1, Or.inr ⟨by rw [e1]; rfl, xm_of (nL := 3) rfl rfl (xb_28_0 (fun h => absurd h h6) (fun _ => xb_28_6 x1 (xb_28_11 (fun _ => xb_28_29 (xb_28_30 (Or.inl rfl))) (fun h => absurd rfl h))))⟩⟩
theorem c_inner7 {dp : Nat} (hdp : 6 < dp) (hdp2 : dp < 100) : xm (e + 1) 28 [.ref 1, .int (nI c), .int (nI dp)] (xs iv av lv) (some (.int 0), xs iv av lv) :=
  xm_of (nL := 3) rfl rfl (xb_28_0 (fun _ => xb_28_29 (xb_28_30 (Or.inl rfl))) (fun h => absurd (show nI 6 < nI dp from nI_lt hdp (by omega)) h))
/-- a unit, over the values and units one deeper -/
theorem c_unit {dp : Nat} {V U : Nat → PR} (hbV : PB n V) (hbU : PB n U) (hdp : dp ≤ 6) (he : 3 ≤ e)
    (hI : ∀ c iv av lv i C K, c < 128 → c ≠ 0 → PS n tx iv av i C K → C.length + (200 - i) < 2 ^ 29 → PER e 28 [.ref 1, .int (nI c), .int (nI (dp + 1))] lv n tx iv av C K ((V i).bind (fun q => if tx q.1 = c then some (q.1 + 1, q.2) else none)))
    (hU : (dp < 6 ∧ PE e 27 [.ref 1, .int (nI (dp + 1))] n tx U) ∨ (dp = 6 ∧ U = fun _ => none)) : PE (e + 1) 27 [.ref 1, .int (nI dp)] n tx (pUnit tx V U) := by
  intro iv av lv i C K hs hB
  have hle := hs.1.le i
  have hi2 := hs.2.2.1
  have hn := hs.1.2.1
  have nx : ∀ {c}, tx i = c → c ≠ 0 → i + 1 ≤ 200 := fun h h0 => by have := hs.1.lt (i := i) (by rw [h]; exact h0); omega
  unfold pUnit
  by_cases h40 : tx i = 40
  · obtain ⟨x1, s1⟩ := take1 (lv := lv) he hs (c := 40) (by omega) (by omega) h40
    have := nx h40 (by omega)
    obtain ⟨iv2, av2, f2, h⟩ := hI 41 _ _ lv (i + 1) C K (by omega) (by omega) s1 (by omega)
    rw [if_pos h40]
    rcases h with ⟨j, c', e1, x2, s2⟩ | ⟨e1, x2⟩
    · refine ⟨_, _, PF.at.tr f2, Or.inl ⟨j, c', e1, xm_of (nL := 4) rfl rfl (xb_27_0 x1 (xb_27_9 (fun h => absurd h (by decide)) (fun _ => xb_27_12 (by rw [nI_1]; exact x2) (xb_27_21 (Or.inr rfl))))), s2⟩⟩
    · refine ⟨_, _, PF.at.tr f2, Or.inr ⟨e1, xm_of (nL := 4) rfl rfl (xb_27_0 x1 (xb_27_9 (fun h => absurd h (by decide)) (fun _ => xb_27_12 (by rw [nI_1]; exact x2) (xb_27_21 (Or.inl rfl)))))⟩⟩
  have y40 := take0 (lv := lv) he hs (c := 40) (by omega) h40
  rw [if_neg h40]
  by_cases h91 : tx i = 91
  · obtain ⟨x1, s1⟩ := take1 (lv := lv) he hs (c := 91) (by omega) (by omega) h91
    have := nx h91 (by omega)
    obtain ⟨iv2, av2, f2, h⟩ := hI 93 _ _ lv (i + 1) C K (by omega) (by omega) s1 (by omega)
    rw [if_pos h91]
    rcases h with ⟨j, c', e1, x2, s2⟩ | ⟨e1, x2⟩
    · obtain ⟨q, hq, hq2⟩ := Option.bind_eq_some_iff.mp e1
      have hbq := hbV _ _ _ hq
      have hjc : tx q.1 = 93 ∧ j = q.1 + 1 ∧ c' = q.2 := by
        split at hq2
        · rename_i h93
          cases hq2
          exact ⟨h93, rfl, rfl⟩
        · cases hq2
      obtain ⟨g1, rfl, rfl⟩ := hjc
      obtain ⟨iv3, av3, f3, x3, s3⟩ := c_write (lv := lv) (o := 3) (a := 0) (D := e) (by omega) s2 (by rw [List.length_append]; omega)
      refine ⟨_, _, (PF.at.tr f2).tr f3, Or.inl ⟨q.1 + 1, q.2 ++ [(3, 0)], by rw [hq]; simp [g1], xm_of (nL := 4) rfl rfl (xb_27_0 y40 (xb_27_9 (fun _ => xb_27_22 x1 (xb_27_31 (fun h => absurd h (by decide)) (fun _ => xb_27_34 (by rw [nI_1]; exact x2) (xb_27_43 (fun h => absurd h (by decide)) (fun _ => xb_27_46 x3 (xb_27_52 (fun h => absurd h (by decide)) (fun _ => xb_27_55 (xb_27_60 (Or.inr rfl))))))))) (fun h => absurd rfl h))), ?_⟩⟩
      rw [List.append_assoc] at s3
      exact s3
    · refine ⟨_, _, PF.at.tr f2, Or.inr ⟨?_, xm_of (nL := 4) rfl rfl (xb_27_0 y40 (xb_27_9 (fun _ => xb_27_22 x1 (xb_27_31 (fun h => absurd h (by decide)) (fun _ => xb_27_34 (by rw [nI_1]; exact x2) (xb_27_43 (fun _ => xb_27_59 (xb_27_60 (Or.inl rfl))) (fun h => absurd rfl h))))) (fun h => absurd rfl h)))⟩⟩
      cases hv : V (i + 1) with
      | none => rfl
      | some q =>
        rw [hv] at e1
        by_cases h93 : tx q.1 = 93
        · simp [h93] at e1
        · simp [h93]
  have y91 := take0 (lv := lv) he hs (c := 91) (by omega) h91
  rw [if_neg h91]
  by_cases h45 : tx i = 45
  · obtain ⟨x1, s1⟩ := take1 (lv := lv) he hs (c := 45) (by omega) (by omega) h45
    have := nx h45 (by omega)
    rw [if_pos h45]
    rcases hU with ⟨hlt, hU⟩ | ⟨h6, rfl⟩
    · obtain ⟨iv2, av2, f2, h⟩ := hU _ _ lv (i + 1) C K s1 (by omega)
      have h6 : nI dp < (6 : Int32) := show nI dp < nI 6 from nI_lt hlt (by omega)
      rcases h with ⟨j, c', e1, x2, s2⟩ | ⟨e1, x2⟩
      · have hbq := hbU _ _ _ e1
        obtain ⟨iv3, av3, f3, x3, s3⟩ := c_write (lv := lv) (o := 11) (a := 0) (D := e) (by omega) s2 (by rw [List.length_append]; omega)
        refine ⟨_, _, (PF.at.tr f2).tr f3, Or.inl ⟨j, c' ++ [(11, 0)], by rw [e1]; rfl, xm_of (nL := 4) rfl rfl (xb_27_0 y40 (xb_27_9 (fun _ => xb_27_22 y91 (xb_27_31 (fun _ => xb_27_61 x1 (xb_27_70 (fun h => absurd h (by decide)) (fun _ => xb_27_73 (fun _ => xb_27_79 (by rw [nI_1]; exact x2) (xb_27_86 (fun h => absurd h (by decide)) (fun _ => xb_27_89 x3 (xb_27_96 (fun h => absurd h (by decide)) (fun _ => xb_27_99 (xb_27_104 (Or.inr rfl))))))) (fun h => absurd h6 h)))) (fun h => absurd rfl h))) (fun h => absurd rfl h))), ?_⟩⟩
        rw [List.append_assoc] at s3
        exact s3
      · refine ⟨_, _, PF.at.tr f2, Or.inr ⟨by rw [e1]; rfl, xm_of (nL := 4) rfl rfl (xb_27_0 y40 (xb_27_9 (fun _ => xb_27_22 y91 (xb_27_31 (fun _ => xb_27_61 x1 (xb_27_70 (fun h => absurd h (by decide)) (fun _ => xb_27_73 (fun _ => xb_27_79 (by rw [nI_1]; exact x2) (xb_27_86 (fun _ => xb_27_103 (xb_27_104 (Or.inl rfl))) (fun h => absurd rfl h))) (fun h => absurd h6 h)))) (fun h => absurd rfl h))) (fun h => absurd rfl h)))⟩⟩
    · subst h6
      refine ⟨_, _, PF.at, Or.inr ⟨rfl, xm_of (nL := 4) rfl rfl (xb_27_0 y40 (xb_27_9 (fun _ => xb_27_22 y91 (xb_27_31 (fun _ => xb_27_61 x1 (xb_27_70 (fun h => absurd h (by decide)) (fun _ => xb_27_73 (fun h => absurd h (by decide)) (fun _ => xb_27_103 (xb_27_104 (Or.inl rfl)))))) (fun h => absurd rfl h))) (fun h => absurd rfl h)))⟩⟩
  have y45 := take0 (lv := lv) he hs (c := 45) (by omega) h45
  rw [if_neg h45]
  obtain ⟨g, rfl⟩ : ∃ g, e = g + 3 := ⟨e - 3, by omega⟩
  by_cases hv : 97 ≤ tx i ∧ tx i < 97 + 6
  · have x1 := c_one1 (d := g + 1) (lv := lv) (c := 97) (m := 6) hs.1 hs.2.1 (by omega) (by omega) (by omega) hv.1 hv.2
    have := nx (c := tx i) rfl (by omega)
    have s1 := hs.at (j := i + 1) this
    obtain ⟨iv3, av3, f3, x3, s3⟩ := c_write (lv := lv) (o := 1) (a := tx i - 97) (D := g + 3) (by omega) s1 (by omega)
    rw [if_pos hv]
    refine ⟨_, _, PF.at.tr f3, Or.inl ⟨i + 1, [(1, tx i - 97)], rfl, xm_of (nL := 4) rfl rfl (xb_27_0 y40 (xb_27_9 (fun _ => xb_27_22 y91 (xb_27_31 (fun _ => xb_27_61 y45 (xb_27_70 (fun _ => xb_27_105 x1 (xb_27_116 (fun h => absurd h (nI_m1 (by omega))) (fun _ => xb_27_122 x3 (xb_27_128 (Or.inr rfl))))) (fun h => absurd rfl h))) (fun h => absurd rfl h))) (fun h => absurd rfl h))), s3⟩⟩
  rw [if_neg hv]
  have y97 := c_one0 (d := g + 1) (lv := lv) (c := 97) (m := 6) hs.1 hs.2.1 (by omega) (by omega) (by omega) (by omega)
  by_cases h0 : nd tx i = 0
  · have x1 := c_number0 (d := g) (lv := lv) hs.1 hs.2.1 (by omega) h0
    rw [if_pos h0]
    refine ⟨_, _, PF.rf, Or.inr ⟨rfl, xm_of (nL := 4) rfl rfl (xb_27_0 y40 (xb_27_9 (fun _ => xb_27_22 y91 (xb_27_31 (fun _ => xb_27_61 y45 (xb_27_70 (fun _ => xb_27_105 y97 (xb_27_116 (fun _ => xb_27_129 x1 (xb_27_136 (fun _ => xb_27_155 (xb_27_156 (Or.inl rfl))) (fun h => absurd rfl h))) (fun h => absurd rfl h))) (fun h => absurd rfl h))) (fun h => absurd rfl h))) (fun h => absurd rfl h)))⟩⟩
  · have hdl := nd_le tx i
    have x1 := c_number1 (d := g) (lv := lv) hs.1 hs.2.1 (by omega) (by omega : 0 < nd tx i)
    have h1 := dg_iff.mp (nd_dg (tx := tx) (i := i) (q := nd tx i - 1) (by omega))
    have h2 := hs.1.lt (i := i + (nd tx i - 1)) (by omega)
    have s1 := hs.at (j := i + nd tx i) (by omega)
    have hv3 := nv_lt3 (tx := tx) (i := i) (Nat.le_refl (nd tx i))
    obtain ⟨iv3, av3, f3, x3, s3⟩ := c_write (lv := lv) (o := 0) (a := nv tx i (nd tx i)) (D := g + 3) (by omega) s1 (by omega)
    rw [if_neg h0]
    refine ⟨_, _, PF.at.tr f3, Or.inl ⟨i + nd tx i, [(0, nv tx i (nd tx i))], rfl, xm_of (nL := 4) rfl rfl (xb_27_0 y40 (xb_27_9 (fun _ => xb_27_22 y91 (xb_27_31 (fun _ => xb_27_61 y45 (xb_27_70 (fun _ => xb_27_105 y97 (xb_27_116 (fun _ => xb_27_129 x1 (xb_27_136 (fun h => absurd h (nI_m1 (by omega))) (fun _ => xb_27_142 x3 (xb_27_148 (fun h => absurd h (by decide)) (fun _ => xb_27_151 (xb_27_156 (Or.inr rfl))))))) (fun h => absurd rfl h))) (fun h => absurd rfl h))) (fun h => absurd rfl h))) (fun h => absurd rfl h))), s3⟩⟩
theorem c_mtail {dp : Nat} {P : Nat → PR} (hb : PB n P) (hP : PE e 27 [.ref 1, .int (nI dp)] n tx P) (he : 3 ≤ e) : ∀ m iv av lv i C K c, PS n tx iv av i (C ++ c) K → (C ++ c).length + (200 - i) < 2 ^ 29 → m ≤ 200 →
    ∃ iv' av', PF iv av iv' av' ∧ ((∃ j c', pTail tx P mop m i c = some (j, c') ∧ (∀ o3, xe e xt_26 12 [some (.ref 1), some (.int (nI dp)), some (.int (nI (200 - m))), o3] [] (xs iv av lv) (some (.int 1), xs iv' av' lv)) ∧ PS n tx iv' av' j (C ++ c') K) ∨ (pTail tx P mop m i c = none ∧ ∀ o3, xe e xt_26 12 [some (.ref 1), some (.int (nI dp)), some (.int (nI (200 - m))), o3] [] (xs iv av lv) (some (.int 0), xs iv' av' lv))) := by
  intro m
  induction m with
  | zero =>
    intro iv av lv i C K c hs hB _
    exact ⟨iv, av, PF.rf, Or.inl ⟨i, c, rfl, fun _ => xb_26_12 (fun h => absurd h (show ¬ nI 200 < nI 200 from nI_nlt (Nat.le_refl _) (by omega))) (fun _ => xb_26_88), hs⟩⟩
  | succ m ih =>
    intro iv av lv i C K c hs hB hm
    have hlt : nI (200 - (m + 1)) < (200 : Int32) := show nI _ < nI 200 from nI_lt (by omega) (by omega)
    have hi2 := hs.2.2.1
    have hn := hs.1.2.1
    -- the operator o has been taken
    have go : ∀ (o : Nat) (iv1 : Nat → Int32), mop (tx i) = o → o ≠ 0 → o < 100 → tx i ≠ 0 → iv1 = upd iv 1 (nI (i + 1)) → ∃ iv' av', PF iv av iv' av' ∧ ((∃ j c', pTail tx P mop (m + 1) i c = some (j, c') ∧ (∀ o3, xe e xt_26 54 [some (.ref 1), some (.int (nI dp)), some (.int (nI (200 - (m + 1)))), o3] [.int (nI o)] (xs iv1 av lv) (some (.int 1), xs iv' av' lv)) ∧ PS n tx iv' av' j (C ++ c') K) ∨ (pTail tx P mop (m + 1) i c = none ∧ ∀ o3, xe e xt_26 54 [some (.ref 1), some (.int (nI dp)), some (.int (nI (200 - (m + 1)))), o3] [.int (nI o)] (xs iv1 av lv) (some (.int 0), xs iv' av' lv))) := by
      intro o iv1 ho ho0 ho1 ht e1
      subst e1
      have hlt2 := hs.1.lt ht
      have s1 := hs.at (j := i + 1) (by omega)
      obtain ⟨iv2, av2, f2, h⟩ := hP _ _ lv (i + 1) (C ++ c) K s1 (by omega)
      unfold pTail
      rw [ho, if_neg ho0]
      rcases h with ⟨j, c', e1, x2, s2⟩ | ⟨e1, x2⟩
      · have hbq := hb _ _ _ e1
        obtain ⟨iv3, av3, f3, x3, s3⟩ := c_add (lv := lv) (o := o) (a := 0) (D := e) (by omega) s2 (by simp only [List.length_append] at hB ⊢; omega)
        have s4 : PS n tx iv3 av3 j (C ++ (c ++ c' ++ [(o, 0)])) K := by
          have e5 : C ++ (c ++ c' ++ [(o, 0)]) = C ++ c ++ c' ++ [(o, 0)] := by simp only [List.append_assoc]
          rw [e5]; exact s3
        obtain ⟨iv4, av4, f4, h⟩ := ih iv3 av3 lv j C K (c ++ c' ++ [(o, 0)]) s4 (by simp only [List.length_append, List.length_cons, List.length_nil] at hB ⊢; omega) (by omega)
        have e6 : nI (200 - (m + 1)) + 1 = nI (200 - m) := by rw [nI_1, show 200 - (m + 1) + 1 = 200 - m by omega]
        rcases h with ⟨j4, c4, e4, x4, s5⟩ | ⟨e4, x4⟩
        · refine ⟨iv4, av4, ((PF.at.tr f2).tr f3).tr f4, Or.inl ⟨j4, c4, by rw [e1]; exact e4, fun o3 => xb_26_54 (fun h => absurd h (nI_m1 (by omega))) (fun _ => xb_26_62 x2 (xb_26_67 (fun h => absurd h (by decide)) (fun _ => xb_26_72 x3 (xb_26_81 (by rw [e6]; exact x4 _))))), s5⟩⟩
        · refine ⟨iv4, av4, ((PF.at.tr f2).tr f3).tr f4, Or.inr ⟨by rw [e1]; exact e4, fun o3 => xb_26_54 (fun h => absurd h (nI_m1 (by omega))) (fun _ => xb_26_62 x2 (xb_26_67 (fun h => absurd h (by decide)) (fun _ => xb_26_72 x3 (xb_26_81 (by rw [e6]; exact x4 _)))))⟩⟩
      · exact ⟨iv2, av2, PF.at.tr f2, Or.inr ⟨by rw [e1]; rfl, fun o3 => xb_26_54 (fun h => absurd h (nI_m1 (by omega))) (fun _ => xb_26_62 x2 (xb_26_67 (fun _ => xb_26_70) (fun h => absurd rfl h)))⟩⟩
    by_cases ha : tx i = 42
    · obtain ⟨x1, -⟩ := take1 (lv := lv) he hs (c := 42) (by omega) (by omega) ha
      obtain ⟨iv', av', f, h⟩ := go 7 _ (by rw [ha]; rfl) (by omega) (by omega) (by omega) rfl
      refine ⟨iv', av', f, ?_⟩
      rcases h with ⟨j, c', e1, x2, s2⟩ | ⟨e1, x2⟩
      · exact Or.inl ⟨j, c', e1, fun o3 => xb_26_12 (fun _ => xb_26_19 x1 (xb_26_28 (fun h => absurd h (by decide)) (fun _ => xb_26_31 (x2 _)))) (fun h => absurd hlt h), s2⟩
      · exact Or.inr ⟨e1, fun o3 => xb_26_12 (fun _ => xb_26_19 x1 (xb_26_28 (fun h => absurd h (by decide)) (fun _ => xb_26_31 (x2 _)))) (fun h => absurd hlt h)⟩
    have y1 := take0 (lv := lv) he hs (c := 42) (by omega) ha
    by_cases hb2 : tx i = 47
    · obtain ⟨x1, -⟩ := take1 (lv := lv) he hs (c := 47) (by omega) (by omega) hb2
      obtain ⟨iv', av', f, h⟩ := go 8 _ (by rw [hb2]; rfl) (by omega) (by omega) (by omega) rfl
      refine ⟨iv', av', f, ?_⟩
      rcases h with ⟨j, c', e1, x2, s2⟩ | ⟨e1, x2⟩
      · exact Or.inl ⟨j, c', e1, fun o3 => xb_26_12 (fun _ => xb_26_19 y1 (xb_26_28 (fun _ => xb_26_36 x1 (xb_26_45 (fun h => absurd h (by decide)) (fun _ => xb_26_48 (x2 _)))) (fun h => absurd rfl h))) (fun h => absurd hlt h), s2⟩
      · exact Or.inr ⟨e1, fun o3 => xb_26_12 (fun _ => xb_26_19 y1 (xb_26_28 (fun _ => xb_26_36 x1 (xb_26_45 (fun h => absurd h (by decide)) (fun _ => xb_26_48 (x2 _)))) (fun h => absurd rfl h))) (fun h => absurd hlt h)⟩
    have y2 := take0 (lv := lv) he hs (c := 47) (by omega) hb2
    have h0 : mop (tx i) = 0 := by unfold mop; rw [if_neg ha, if_neg hb2]
    refine ⟨iv, av, PF.rf, Or.inl ⟨i, c, by unfold pTail; rw [if_pos h0], fun o3 => xb_26_12 (fun _ => xb_26_19 y1 (xb_26_28 (fun _ => xb_26_36 y2 (xb_26_45 (fun _ => xb_26_53 (xb_26_54 (fun _ => xb_26_60) (fun h => absurd rfl h))) (fun h => absurd rfl h))) (fun h => absurd rfl h))) (fun h => absurd hlt h), hs⟩⟩
theorem c_mtail_all {dp : Nat} {P : Nat → PR} (hb : PB n P) (hP : PE e 27 [.ref 1, .int (nI dp)] n tx P) (he : 3 ≤ e) : PE (e + 1) 26 [.ref 1, .int (nI dp)] n tx (fun i => (P i).bind (fun q => pTail tx P mop 200 q.1 q.2)) := by
  intro iv av lv i C K hs hB
  obtain ⟨iv1, av1, f1, h⟩ := hP iv av lv i C K hs hB
  rcases h with ⟨j, c, e1, x1, s1⟩ | ⟨e1, x1⟩
  · have hbq := hb _ _ _ e1
    have hn := s1.1.2.1
    obtain ⟨iv2, av2, f2, h⟩ := c_mtail hb hP he 200 iv1 av1 lv j C K c s1 (by rw [List.length_append]; omega) (by omega)
    dsimp only
    rw [e1]
    rcases h with ⟨j2, c2, e2, x2, s2⟩ | ⟨e2, x2⟩
    · exact ⟨iv2, av2, f1.tr f2, Or.inl ⟨j2, c2, e2, xm_of (nL := 4) rfl rfl (xb_26_0 x1 (xb_26_5 (fun h => absurd h (by decide)) (fun _ => xb_26_10 (x2 none)))), s2⟩⟩
    · exact ⟨iv2, av2, f1.tr f2, Or.inr ⟨e2, xm_of (nL := 4) rfl rfl (xb_26_0 x1 (xb_26_5 (fun h => absurd h (by decide)) (fun _ => xb_26_10 (x2 none))))⟩⟩
  · exact ⟨iv1, av1, f1, Or.inr ⟨by dsimp only; rw [e1]; rfl, xm_of (nL := 4) rfl rfl (xb_26_0 x1 (xb_26_5 (fun _ => xb_26_8) (fun h => absurd rfl h)))⟩⟩
theorem c_atail {dp : Nat} {P : Nat → PR} (hb : PB n P) (hP : PE e 26 [.ref 1, .int (nI dp)] n tx P) (he : 3 ≤ e) : ∀ m iv av lv i C K c, PS n tx iv av i (C ++ c) K → (C ++ c).length + (200 - i) < 2 ^ 29 → m ≤ 200 →
    ∃ iv' av', PF iv av iv' av' ∧ ((∃ j c', pTail tx P aop m i c = some (j, c') ∧ (∀ o3, xe e xt_25 12 [some (.ref 1), some (.int (nI dp)), some (.int (nI (200 - m))), o3] [] (xs iv av lv) (some (.int 1), xs iv' av' lv)) ∧ PS n tx iv' av' j (C ++ c') K) ∨ (pTail tx P aop m i c = none ∧ ∀ o3, xe e xt_25 12 [some (.ref 1), some (.int (nI dp)), some (.int (nI (200 - m))), o3] [] (xs iv av lv) (some (.int 0), xs iv' av' lv))) := by
  intro m
  induction m with
  | zero =>
    intro iv av lv i C K c hs hB _
    exact ⟨iv, av, PF.rf, Or.inl ⟨i, c, rfl, fun _ => xb_25_12 (fun h => absurd h (show ¬ nI 200 < nI 200 from nI_nlt (Nat.le_refl _) (by omega))) (fun _ => xb_25_87), hs⟩⟩
  | succ m ih =>
    intro iv av lv i C K c hs hB hm
    have hlt : nI (200 - (m + 1)) < (200 : Int32) := show nI _ < nI 200 from nI_lt (by omega) (by omega)
    have hi2 := hs.2.2.1
    have hn := hs.1.2.1
    -- the operator o has been taken
    have go : ∀ (o : Nat) (iv1 : Nat → Int32), aop (tx i) = o → o ≠ 0 → o < 100 → tx i ≠ 0 → iv1 = upd iv 1 (nI (i + 1)) → ∃ iv' av', PF iv av iv' av' ∧ ((∃ j c', pTail tx P aop (m + 1) i c = some (j, c') ∧ (∀ o3, xe e xt_25 53 [some (.ref 1), some (.int (nI dp)), some (.int (nI (200 - (m + 1)))), o3] [.int (nI o)] (xs iv1 av lv) (some (.int 1), xs iv' av' lv)) ∧ PS n tx iv' av' j (C ++ c') K) ∨ (pTail tx P aop (m + 1) i c = none ∧ ∀ o3, xe e xt_25 53 [some (.ref 1), some (.int (nI dp)), some (.int (nI (200 - (m + 1)))), o3] [.int (nI o)] (xs iv1 av lv) (some (.int 0), xs iv' av' lv))) := by
      intro o iv1 ho ho0 ho1 ht e1
      subst e1
      have hlt2 := hs.1.lt ht
      have s1 := hs.at (j := i + 1) (by omega)
      obtain ⟨iv2, av2, f2, h⟩ := hP _ _ lv (i + 1) (C ++ c) K s1 (by omega)
      unfold pTail
      rw [ho, if_neg ho0]
      rcases h with ⟨j, c', e1, x2, s2⟩ | ⟨e1, x2⟩
      · have hbq := hb _ _ _ e1
        obtain ⟨iv3, av3, f3, x3, s3⟩ := c_add (lv := lv) (o := o) (a := 0) (D := e) (by omega) s2 (by simp only [List.length_append] at hB ⊢; omega)
        have s4 : PS n tx iv3 av3 j (C ++ (c ++ c' ++ [(o, 0)])) K := by
          have e5 : C ++ (c ++ c' ++ [(o, 0)]) = C ++ c ++ c' ++ [(o, 0)] := by simp only [List.append_assoc]
          rw [e5]; exact s3
        obtain ⟨iv4, av4, f4, h⟩ := ih iv3 av3 lv j C K (c ++ c' ++ [(o, 0)]) s4 (by simp only [List.length_append, List.length_cons, List.length_nil] at hB ⊢; omega) (by omega)
        have e6 : nI (200 - (m + 1)) + 1 = nI (200 - m) := by rw [nI_1, show 200 - (m + 1) + 1 = 200 - m by omega]
        rcases h with ⟨j4, c4, e4, x4, s5⟩ | ⟨e4, x4⟩
        · refine ⟨iv4, av4, ((PF.at.tr f2).tr f3).tr f4, Or.inl ⟨j4, c4, by rw [e1]; exact e4, fun o3 => xb_25_53 (fun h => absurd h (nI_m1 (by omega))) (fun _ => xb_25_61 x2 (xb_25_66 (fun h => absurd h (by decide)) (fun _ => xb_25_71 x3 (xb_25_80 (by rw [e6]; exact x4 _))))), s5⟩⟩
        · refine ⟨iv4, av4, ((PF.at.tr f2).tr f3).tr f4, Or.inr ⟨by rw [e1]; exact e4, fun o3 => xb_25_53 (fun h => absurd h (nI_m1 (by omega))) (fun _ => xb_25_61 x2 (xb_25_66 (fun h => absurd h (by decide)) (fun _ => xb_25_71 x3 (xb_25_80 (by rw [e6]; exact x4 _)))))⟩⟩
      · exact ⟨iv2, av2, PF.at.tr f2, Or.inr ⟨by rw [e1]; rfl, fun o3 => xb_25_53 (fun h => absurd h (nI_m1 (by omega))) (fun _ => xb_25_61 x2 (xb_25_66 (fun _ => xb_25_69) (fun h => absurd rfl h)))⟩⟩
    by_cases ha : tx i = 43
    · obtain ⟨x1, -⟩ := take1 (lv := lv) he hs (c := 43) (by omega) (by omega) ha
      obtain ⟨iv', av', f, h⟩ := go 5 _ (by rw [ha]; rfl) (by omega) (by omega) (by omega) rfl
      refine ⟨iv', av', f, ?_⟩
      rcases h with ⟨j, c', e1, x2, s2⟩ | ⟨e1, x2⟩
      · exact Or.inl ⟨j, c', e1, fun o3 => xb_25_12 (fun _ => xb_25_19 x1 (xb_25_28 (fun h => absurd h (by decide)) (fun _ => xb_25_31 (x2 _)))) (fun h => absurd hlt h), s2⟩
      · exact Or.inr ⟨e1, fun o3 => xb_25_12 (fun _ => xb_25_19 x1 (xb_25_28 (fun h => absurd h (by decide)) (fun _ => xb_25_31 (x2 _)))) (fun h => absurd hlt h)⟩
    have y1 := take0 (lv := lv) he hs (c := 43) (by omega) ha
    by_cases hb2 : tx i = 45
    · obtain ⟨x1, -⟩ := take1 (lv := lv) he hs (c := 45) (by omega) (by omega) hb2
      obtain ⟨iv', av', f, h⟩ := go 6 _ (by rw [hb2]; rfl) (by omega) (by omega) (by omega) rfl
      refine ⟨iv', av', f, ?_⟩
      rcases h with ⟨j, c', e1, x2, s2⟩ | ⟨e1, x2⟩
      · exact Or.inl ⟨j, c', e1, fun o3 => xb_25_12 (fun _ => xb_25_19 y1 (xb_25_28 (fun _ => xb_25_35 x1 (xb_25_44 (fun h => absurd h (by decide)) (fun _ => xb_25_47 (x2 _)))) (fun h => absurd rfl h))) (fun h => absurd hlt h), s2⟩
      · exact Or.inr ⟨e1, fun o3 => xb_25_12 (fun _ => xb_25_19 y1 (xb_25_28 (fun _ => xb_25_35 x1 (xb_25_44 (fun h => absurd h (by decide)) (fun _ => xb_25_47 (x2 _)))) (fun h => absurd rfl h))) (fun h => absurd hlt h)⟩
    have y2 := take0 (lv := lv) he hs (c := 45) (by omega) hb2
    have h0 : aop (tx i) = 0 := by unfold aop; rw [if_neg ha, if_neg hb2]
    refine ⟨iv, av, PF.rf, Or.inl ⟨i, c, by unfold pTail; rw [if_pos h0], fun o3 => xb_25_12 (fun _ => xb_25_19 y1 (xb_25_28 (fun _ => xb_25_35 y2 (xb_25_44 (fun _ => xb_25_52 (xb_25_53 (fun _ => xb_25_59) (fun h => absurd rfl h))) (fun h => absurd rfl h))) (fun h => absurd rfl h))) (fun h => absurd hlt h), hs⟩⟩
theorem c_atail_all {dp : Nat} {P : Nat → PR} (hb : PB n P) (hP : PE e 26 [.ref 1, .int (nI dp)] n tx P) (he : 3 ≤ e) : PE (e + 1) 25 [.ref 1, .int (nI dp)] n tx (fun i => (P i).bind (fun q => pTail tx P aop 200 q.1 q.2)) := by
  intro iv av lv i C K hs hB
  obtain ⟨iv1, av1, f1, h⟩ := hP iv av lv i C K hs hB
  rcases h with ⟨j, c, e1, x1, s1⟩ | ⟨e1, x1⟩
  · have hbq := hb _ _ _ e1
    have hn := s1.1.2.1
    obtain ⟨iv2, av2, f2, h⟩ := c_atail hb hP he 200 iv1 av1 lv j C K c s1 (by rw [List.length_append]; omega) (by omega)
    dsimp only
    rw [e1]
    rcases h with ⟨j2, c2, e2, x2, s2⟩ | ⟨e2, x2⟩
    · exact ⟨iv2, av2, f1.tr f2, Or.inl ⟨j2, c2, e2, xm_of (nL := 4) rfl rfl (xb_25_0 x1 (xb_25_5 (fun h => absurd h (by decide)) (fun _ => xb_25_10 (x2 none)))), s2⟩⟩
    · exact ⟨iv2, av2, f1.tr f2, Or.inr ⟨e2, xm_of (nL := 4) rfl rfl (xb_25_0 x1 (xb_25_5 (fun h => absurd h (by decide)) (fun _ => xb_25_10 (x2 none))))⟩⟩
  · exact ⟨iv1, av1, f1, Or.inr ⟨by dsimp only; rw [e1]; rfl, xm_of (nL := 4) rfl rfl (xb_25_0 x1 (xb_25_5 (fun _ => xb_25_8) (fun h => absurd rfl h)))⟩⟩
theorem c_value {dp : Nat} {U : Nat → PR} (hb : PB n (pSum tx U)) (hS : PE e 25 [.ref 1, .int (nI dp)] n tx (pSum tx U)) (he : 3 ≤ e) : PE (e + 1) 24 [.ref 1, .int (nI dp)] n tx (pVal tx U) := by
  intro iv av lv i C K hs hB
  obtain ⟨iv1, av1, f1, h⟩ := hS iv av lv i C K hs hB
  unfold pVal
  rcases h with ⟨j, c, e1, x1, s1⟩ | ⟨e1, x1⟩
  · have hbq := hb _ _ _ e1
    have hn := s1.1.2.1
    rw [e1]
    dsimp only [Option.bind_some]
    by_cases h60 : tx j = 60
    · obtain ⟨y1, t1⟩ := take1 (lv := lv) he s1 (c := 60) (by omega) (by omega) h60
      have hlt := s1.1.lt (i := j) (by omega)
      obtain ⟨iv2, av2, f2, h⟩ := hS _ _ lv (j + 1) (C ++ c) K t1 (by rw [List.length_append]; omega)
      rw [if_pos h60]
      rcases h with ⟨j2, c2, e2, x2, s2⟩ | ⟨e2, x2⟩
      · have hbr := hb _ _ _ e2
        obtain ⟨iv3, av3, f3, x3, s3⟩ := c_write (lv := lv) (o := 9) (a := 0) (D := e) (by omega) s2 (by simp only [List.length_append]; omega)
        refine ⟨iv3, av3, ((f1.tr PF.at).tr f2).tr f3, Or.inl ⟨j2, c ++ c2 ++ [(9, 0)], by rw [e2]; rfl, xm_of (nL := 2) rfl rfl (xb_24_0 x1 (xb_24_5 (fun h => absurd h (by decide)) (fun _ => xb_24_10 y1 (xb_24_19 (fun h => absurd h (by decide)) (fun _ => xb_24_22 x2 (xb_24_27 (fun h => absurd h (by decide)) (fun _ => xb_24_30 x3 (xb_24_37 (fun h => absurd h (by decide)) (fun _ => xb_24_40 (xb_24_45 (Or.inr rfl))))))))))), ?_⟩⟩
        have e5 : C ++ (c ++ c2 ++ [(9, 0)]) = C ++ c ++ c2 ++ [(9, 0)] := by simp only [List.append_assoc]
        rw [e5]; exact s3
      · exact ⟨iv2, av2, (f1.tr PF.at).tr f2, Or.inr ⟨by rw [e2]; rfl, xm_of (nL := 2) rfl rfl (xb_24_0 x1 (xb_24_5 (fun h => absurd h (by decide)) (fun _ => xb_24_10 y1 (xb_24_19 (fun h => absurd h (by decide)) (fun _ => xb_24_22 x2 (xb_24_27 (fun _ => xb_24_44 (xb_24_45 (Or.inl rfl))) (fun h => absurd rfl h)))))))⟩⟩
    have y60 := take0 (lv := lv) he s1 (c := 60) (by omega) h60
    rw [if_neg h60]
    by_cases h61 : tx j = 61
    · obtain ⟨y1, t1⟩ := take1 (lv := lv) he s1 (c := 61) (by omega) (by omega) h61
      have hlt := s1.1.lt (i := j) (by omega)
      obtain ⟨iv2, av2, f2, h⟩ := hS _ _ lv (j + 1) (C ++ c) K t1 (by rw [List.length_append]; omega)
      rw [if_pos h61]
      rcases h with ⟨j2, c2, e2, x2, s2⟩ | ⟨e2, x2⟩
      · have hbr := hb _ _ _ e2
        obtain ⟨iv3, av3, f3, x3, s3⟩ := c_write (lv := lv) (o := 10) (a := 0) (D := e) (by omega) s2 (by simp only [List.length_append]; omega)
        refine ⟨iv3, av3, ((f1.tr PF.at).tr f2).tr f3, Or.inl ⟨j2, c ++ c2 ++ [(10, 0)], by rw [e2]; rfl, xm_of (nL := 2) rfl rfl (xb_24_0 x1 (xb_24_5 (fun h => absurd h (by decide)) (fun _ => xb_24_10 y60 (xb_24_19 (fun _ => xb_24_46 y1 (xb_24_55 (fun h => absurd h (by decide)) (fun _ => xb_24_58 x2 (xb_24_63 (fun h => absurd h (by decide)) (fun _ => xb_24_66 x3 (xb_24_73 (fun h => absurd h (by decide)) (fun _ => xb_24_76 (xb_24_81 (Or.inr rfl))))))))) (fun h => absurd rfl h))))), ?_⟩⟩
        have e5 : C ++ (c ++ c2 ++ [(10, 0)]) = C ++ c ++ c2 ++ [(10, 0)] := by simp only [List.append_assoc]
        rw [e5]; exact s3
      · exact ⟨iv2, av2, (f1.tr PF.at).tr f2, Or.inr ⟨by rw [e2]; rfl, xm_of (nL := 2) rfl rfl (xb_24_0 x1 (xb_24_5 (fun h => absurd h (by decide)) (fun _ => xb_24_10 y60 (xb_24_19 (fun _ => xb_24_46 y1 (xb_24_55 (fun h => absurd h (by decide)) (fun _ => xb_24_58 x2 (xb_24_63 (fun _ => xb_24_80 (xb_24_81 (Or.inl rfl))) (fun h => absurd rfl h))))) (fun h => absurd rfl h)))))⟩⟩
    have y61 := take0 (lv := lv) he s1 (c := 61) (by omega) h61
    rw [if_neg h61]
    exact ⟨iv1, av1, f1, Or.inl ⟨j, c, rfl, xm_of (nL := 2) rfl rfl (xb_24_0 x1 (xb_24_5 (fun h => absurd h (by decide)) (fun _ => xb_24_10 y60 (xb_24_19 (fun _ => xb_24_46 y61 (xb_24_55 (fun _ => xb_24_82) (fun h => absurd rfl h))) (fun h => absurd rfl h))))), s1⟩⟩
  · exact ⟨iv1, av1, f1, Or.inr ⟨by rw [e1]; rfl, xm_of (nL := 2) rfl rfl (xb_24_0 x1 (xb_24_5 (fun _ => xb_24_8) (fun h => absurd rfl h)))⟩⟩
/-- units, products, sums and values at depth dp, with r levels left -/
theorem c_units (hn : ∀ i, tx i ≠ 0 → i < n) : ∀ (r dp e : Nat), dp + r = 6 → PE (e + 5 * r + 4) 27 [.ref 1, .int (nI dp)] n tx (pu tx r) ∧ PE (e + 5 * r + 6) 25 [.ref 1, .int (nI dp)] n tx (pSum tx (pu tx r)) ∧ PE (e + 5 * r + 7) 24 [.ref 1, .int (nI dp)] n tx (pVal tx (pu tx r)) := by
  intro r
  induction r with
  | zero =>
    intro dp e h
    have hdp : dp = 6 := by omega
    subst hdp
    have hb := pb_pu hn 0
    have h1 : PE (e + 5 * 0 + 4) 27 [.ref 1, .int (nI 6)] n tx (pu tx 0) := by
      refine c_unit (e := e + 3) PB.none PB.none (by omega) (by omega) (fun c iv av lv i C K hc hc0 hs hB => ⟨iv, av, PF.rf, Or.inr ⟨rfl, c_inner7 (e := e + 2) (by omega) (by omega)⟩⟩) (Or.inr ⟨rfl, rfl⟩)
    have h2 := c_mtail_all (e := e + 4) hb h1 (by omega)
    have h3 := c_atail_all (e := e + 5) (pb_prod hb) h2 (by omega)
    exact ⟨h1, h3, c_value (e := e + 6) (pb_sum hb) h3 (by omega)⟩
  | succ r ih =>
    intro dp e h
    obtain ⟨i1, i2, i3⟩ := ih (dp + 1) e (by omega)
    obtain ⟨j1, -, -⟩ := ih (dp + 1) (e + 4) (by omega)
    have hb := pb_pu hn r
    have hb2 := pb_pu hn (r + 1)
    have h1 : PE (e + 5 * (r + 1) + 4) 27 [.ref 1, .int (nI dp)] n tx (pu tx (r + 1)) := by
      have e1 : e + 5 * (r + 1) + 4 = (e + 5 * r + 7 + 1) + 1 := by omega
      rw [e1]
      refine c_unit (e := e + 5 * r + 7 + 1) (pb_val hb) hb (by omega) (by omega) (fun c iv av lv i C K hc hc0 hs hB => c_inner (e := e + 5 * r + 7) (pb_val hb) i3 (by omega) (by omega) hc hc0 hs hB) (Or.inl ⟨by omega, ?_⟩)
      have e2 : e + 5 * r + 7 + 1 = e + 4 + 5 * r + 4 := by omega
      rw [e2]
      exact j1
    have h2 := c_mtail_all (e := e + 5 * (r + 1) + 4) hb2 h1 (by omega)
    have h3 := c_atail_all (e := e + 5 * (r + 1) + 5) (pb_prod hb2) h2 (by omega)
    exact ⟨h1, h3, c_value (e := e + 5 * (r + 1) + 6) (pb_sum hb2) h3 (by omega)⟩
end EXC
