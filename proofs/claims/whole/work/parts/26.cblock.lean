/-! The class's parser: loops, statements, blocks. -/
section BLC
variable {D e : Nat} {n dp : Nat} {tx : Nat → Nat} {V S I B T : Nat → PR}
theorem pRest_pre {pre : List In} {op j : Nat} (hop : ¬ (op = 13 ∨ op = 14 ∨ op = 15)) : pRest tx B pre op j = (pRest tx B [] op j).map (fun q => (q.1, pre ++ sh pre.length q.2)) := by
  unfold pRest
  split
  · rfl
  · cases B (j + nd tx j) with
    | none => rfl
    | some b =>
      simp only [Option.bind_some, Option.map_some, List.length_nil, List.nil_append, sh_app, sh_sh, Nat.zero_add]
      have a1 : 2 + pre.length = pre.length + 2 := by omega
      have a2 : 3 + b.2.length + pre.length = pre.length + 3 + b.2.length := by omega
      have a3 : 1 + pre.length = pre.length + 1 := by omega
      simp [sh, hop, a1, a2, a3, List.append_assoc]
theorem sh_cons (k : Nat) (q : In) (c : List In) : sh k (q :: c) = (if q.1 = 13 ∨ q.1 = 14 ∨ q.1 = 15 then (q.1, q.2 + k) else q) :: sh k c := rfl
theorem sh_nil (k : Nat) : sh k [] = [] := rfl
/-- behind the bound's value, at its number -/
theorem c_rest (hlB : PL n 2 B) (hB : PT e 20 [.ref 1, .int (nI (dp + 1))] n tx B) (he : 3 ≤ e) {iv : Nat → Int32} {av : Nat → Nat → Int32} {lv : Nat → Nat → Int64} {j op : Nat} {C : List In} {K : Nat → Bool} (hop : op = 0 ∨ op = 16) (hs : PS n tx iv av j C K) (hBd : C.length + 5 * (200 - j) < 2 ^ 29) :
    ∃ iv' av', PF iv av iv' av' ∧ ((∃ i c, pRest tx B [] op j = some (i, c) ∧ (∀ o3 o4, xe e xt_23 37 [some (.ref 1), some (.int (nI dp)), some (.int (nI op)), o3, o4] [] (xs iv av lv) (some (.int 1), xs iv' av' lv)) ∧ PS n tx iv' av' i (C ++ sh C.length c) (kc K c)) ∨
      (pRest tx B [] op j = none ∧ ∀ o3 o4, xe e xt_23 37 [some (.ref 1), some (.int (nI dp)), some (.int (nI op)), o3, o4] [] (xs iv av lv) (some (.int 0), xs iv' av' lv))) := by
  have hn := hs.1.2.1
  have hj := hs.2.2.1
  obtain ⟨g, rfl⟩ : ∃ g, e = g + 3 := ⟨e - 3, by omega⟩
  unfold pRest
  by_cases h0 : nd tx j = 0
  · have x1 := c_number0 (d := g) (lv := lv) hs.1 hs.2.1 (by omega) h0
    rw [if_pos (Or.inl h0)]
    exact ⟨iv, av, PF.rf, Or.inr ⟨rfl, fun o3 o4 => xb_23_37 x1 (xb_23_44 (fun _ => xb_23_56) (fun h => absurd rfl h))⟩⟩
  have hdl := nd_le tx j
  have x1 := c_number1 (d := g) (lv := lv) hs.1 hs.2.1 (by omega) (by omega : 0 < nd tx j)
  have h1 := dg_iff.mp (nd_dg (tx := tx) (i := j) (q := nd tx j - 1) (by omega))
  have h2 := hs.1.lt (i := j + (nd tx j - 1)) (by omega)
  have hv3 := nv_lt3 (tx := tx) (i := j) (Nat.le_refl (nd tx j))
  have s1 := hs.at (j := j + nd tx j) (by omega)
  generalize hv : nv tx j (nd tx j) = v at x1 hv3 ⊢
  by_cases h99 : 99 < v
  · rw [if_pos (Or.inr h99)]
    exact ⟨_, _, PF.at, Or.inr ⟨rfl, fun o3 o4 => xb_23_37 x1 (xb_23_44 (fun h => absurd h (nI_m1 (by omega))) (fun _ => xb_23_50 (fun _ => xb_23_56) (fun h => absurd (show nI 99 < nI v from nI_lt h99 (by omega)) h)))⟩⟩
  rw [if_neg (by omega)]
  have h99' : ¬ (99 : Int32) < nI v := show ¬ nI 99 < nI v from nI_nlt (by omega) (by omega)
  obtain ⟨iv2, av2, f2, x2, s2⟩ := c_add (lv := lv) (o := op) (a := v) (D := g + 3) (by omega) s1 (by omega)
  obtain ⟨iv3, av3, f3, x3, s3⟩ := c_add (lv := lv) (o := 15) (a := 0) (D := g + 3) (by omega) s2 (by simp only [List.length_append, List.length_cons, List.length_nil]; omega)
  have l3 : (C ++ [(op, v)] ++ [(15, 0)]).length = C.length + 2 := by simp only [List.length_append, List.length_cons, List.length_nil]
  obtain ⟨iv4, av4, f4, h⟩ := hB iv3 av3 lv (j + nd tx j) _ K s3 (by omega)
  rcases h with ⟨i4, b, e4, x4, s4⟩ | ⟨e4, x4⟩
  case inr => exact ⟨_, _, ((PF.at.tr f2).tr f3).tr f4, Or.inr ⟨by rw [e4]; rfl, fun o3 o4 => xb_23_37 x1 (xb_23_44 (fun h => absurd h (nI_m1 (by omega))) (fun _ => xb_23_50 (fun h => absurd h h99') (fun _ => xb_23_58 x2 (xb_23_67 x3 (xb_23_78 (by rw [nI_1]; exact x4) (xb_23_87 (fun _ => xb_23_90) (fun h => absurd rfl h)))))))⟩⟩
  have g4 := hlB _ _ _ e4
  have l4 : (C ++ [(op, v)] ++ [(15, 0)] ++ sh (C ++ [(op, v)] ++ [(15, 0)]).length b).length = C.length + 2 + b.length := by rw [List.length_append, l3, sh_len]
  obtain ⟨iv5, av5, f5, x5, s5⟩ := c_add (lv := lv) (o := 14) (a := (C ++ [(op, v)]).length) (D := g + 3) (by omega) s4 (by omega)
  have hz : (C ++ [(op, v)] ++ [(15, 0)] ++ sh (C ++ [(op, v)] ++ [(15, 0)]).length b ++ [(14, (C ++ [(op, v)]).length)])[(C ++ [(op, v)]).length]? = some (15, 0) := by
    rw [List.getElem?_append_left (by rw [l4]; simp only [List.length_append, List.length_cons, List.length_nil]; omega), List.getElem?_append_left (by rw [l3]; simp only [List.length_append, List.length_cons, List.length_nil]; omega), List.getElem?_append_right (Nat.le_refl _), Nat.sub_self]
    rfl
  obtain ⟨av6, f6, x6, s6⟩ := c_aim (lv := lv) (k := (C ++ [(op, v)]).length) (o := 15) (a := 0) (D := g + 3) (by omega) s5 (by rw [List.length_append, l4]; simp only [List.length_cons, List.length_nil]; omega) hz
  refine ⟨_, _, ((((PF.at.tr f2).tr f3).tr f4).tr f5).tr f6, Or.inl ⟨i4, _, by rw [e4]; rfl, fun o3 o4 => xb_23_37 x1 (xb_23_44 (fun h => absurd h (nI_m1 (by omega))) (fun _ => xb_23_50 (fun h => absurd h h99') (fun _ => xb_23_58 x2 (xb_23_67 x3 (xb_23_78 (by rw [nI_1]; exact x4) (xb_23_87 (fun h => absurd h (by decide)) (fun _ => xb_23_92 x5 (xb_23_103 x6 xb_23_113)))))))), ?_⟩⟩
  have hop17 : op ≠ 17 := by omega
  have hopj : ¬ (op = 13 ∨ op = 14 ∨ op = 15) := by omega
  have ek : kc K b = kc K ([] ++ [(op, v), (15, ([] : List In).length + 3 + b.length)] ++ sh (([] : List In).length + 2) b ++ [(14, ([] : List In).length + 1)]) := by
    rw [kc_app, kc_app, kc_sh, kc_one (by decide), List.nil_append]
    rw [show [(op, v), (15, ([] : List In).length + 3 + b.length)] = [(op, v)] ++ [(15, ([] : List In).length + 3 + b.length)] from rfl, kc_app, kc_one hop17, kc_one (by decide)]
  rw [← ek]
  have ec : (C ++ [(op, v)] ++ [(15, 0)] ++ sh (C ++ [(op, v)] ++ [(15, 0)]).length b ++ [(14, (C ++ [(op, v)]).length)]).set (C ++ [(op, v)]).length (15, (C ++ [(op, v)] ++ [(15, 0)] ++ sh (C ++ [(op, v)] ++ [(15, 0)]).length b ++ [(14, (C ++ [(op, v)]).length)]).length)
      = C ++ sh C.length ([] ++ [(op, v), (15, ([] : List In).length + 3 + b.length)] ++ sh (([] : List In).length + 2) b ++ [(14, ([] : List In).length + 1)]) := by
    have l5 : (C ++ [(op, v)] ++ [(15, 0)] ++ sh (C ++ [(op, v)] ++ [(15, 0)]).length b ++ [(14, (C ++ [(op, v)]).length)]).length = C.length + 2 + b.length + 1 := by rw [List.length_append, l4]; rfl
    rw [l5, l3, List.append_assoc (C ++ [(op, v)]), List.append_assoc (C ++ [(op, v)]), List.set_append_right _ _ (Nat.le_refl _), Nat.sub_self]
    simp only [sh_cons, sh_nil, sh_app, sh_sh, List.cons_append, List.nil_append, List.set_cons_zero, List.length_nil, Nat.zero_add, List.length_cons, List.length_append]
    have a1 : 2 + C.length = C.length + 2 := by omega
    have a2 : 3 + b.length + C.length = C.length + 2 + b.length + 1 := by omega
    have a3 : 1 + C.length = C.length + 1 := by omega
    rw [a1]
    simp [hopj, a2, a3, List.append_assoc]
  rw [ec] at s6
  exact s6
theorem c_loop (hbS : PB n S) (hlB : PL n 2 B) (hS : PE e 25 [.ref 1, .int (nI dp)] n tx S) (hB : PT e 20 [.ref 1, .int (nI (dp + 1))] n tx B) (he : 3 ≤ e) : PT (e + 1) 23 [.ref 1, .int (nI dp)] n tx (pLoop tx S B) := by
  intro iv av lv i C K hs hBd
  have hn := hs.1.2.1
  have hi := hs.2.2.1
  unfold pLoop
  have x0 : xm e 38 [.ref 2] (xs iv av lv) (some (.int (if 0 < nd tx i ∧ tx (i + nd tx i) = 123 then 1 else 0)), xs iv av lv) := by
    obtain ⟨g, rfl⟩ : ∃ g, e = g + 3 := ⟨e - 3, by omega⟩
    exact c_seesNumberAndBlock (d := g) hs.1 hs.2.1 (by omega)
  by_cases hb : 0 < nd tx i ∧ tx (i + nd tx i) = 123
  · rw [if_pos hb] at x0 ⊢
    obtain ⟨iv1, av1, f1, h⟩ := c_rest (lv := lv) hlB hB he (op := 0) (Or.inl rfl) hs hBd
    rcases h with ⟨j, c, e1, x1, s1⟩ | ⟨e1, x1⟩
    · exact ⟨_, _, f1, Or.inl ⟨j, c, e1, xm_of (nL := 5) rfl rfl (xb_23_0 x0 (xb_23_9 (fun h => absurd h (by decide)) (fun _ => x1 _ _))), s1⟩⟩
    · exact ⟨_, _, f1, Or.inr ⟨e1, xm_of (nL := 5) rfl rfl (xb_23_0 x0 (xb_23_9 (fun h => absurd h (by decide)) (fun _ => x1 _ _)))⟩⟩
  rw [if_neg hb] at x0 ⊢
  obtain ⟨iv1, av1, f1, h⟩ := hS iv av lv i C K hs (by omega)
  rcases h with ⟨j, s, e1, x1, s1⟩ | ⟨e1, x1⟩
  case inr => exact ⟨_, _, f1, Or.inr ⟨by rw [e1]; rfl, xm_of (nL := 5) rfl rfl (xb_23_0 x0 (xb_23_9 (fun _ => xb_23_12 x1 (xb_23_20 (fun _ => xb_23_35) (fun h => absurd rfl h))) (fun h => absurd rfl h)))⟩⟩
  have g1 := hbS _ _ _ e1
  rw [e1]
  dsimp only [Option.bind_some]
  by_cases h60 : tx j = 60
  · obtain ⟨x2, s2⟩ := take1 (lv := lv) he s1 (c := 60) (by omega) (by omega) h60
    have hlt := s1.1.lt (i := j) (by omega)
    rw [if_pos h60, pRest_pre (by decide)]
    obtain ⟨iv3, av3, f3, h⟩ := c_rest (lv := lv) hlB hB he (op := 16) (Or.inr rfl) s2 (by rw [List.length_append]; omega)
    rcases h with ⟨j3, c, e3, x3, s3⟩ | ⟨e3, x3⟩
    · refine ⟨_, _, (f1.tr PF.at).tr f3, Or.inl ⟨j3, s ++ sh s.length c, by rw [e3]; rfl, xm_of (nL := 5) rfl rfl (xb_23_0 x0 (xb_23_9 (fun _ => xb_23_12 x1 (xb_23_20 (fun h => absurd h (by decide)) (fun _ => xb_23_23 x2 (xb_23_32 (fun h => absurd h (by decide)) (fun _ => x3 _ _))))) (fun h => absurd rfl h))), ?_⟩⟩
      have ec : C ++ s ++ sh (C ++ s).length c = C ++ sh C.length (s ++ sh s.length c) := by
        rw [sh_app, sh_sh, sh_ex g1.2.2.2, List.length_append, List.append_assoc, Nat.add_comm s.length]
      rw [kc_app, kc_sh, kc_ex g1.2.2.2, ← ec]
      exact s3
    · exact ⟨_, _, (f1.tr PF.at).tr f3, Or.inr ⟨by rw [e3]; rfl, xm_of (nL := 5) rfl rfl (xb_23_0 x0 (xb_23_9 (fun _ => xb_23_12 x1 (xb_23_20 (fun h => absurd h (by decide)) (fun _ => xb_23_23 x2 (xb_23_32 (fun h => absurd h (by decide)) (fun _ => x3 _ _))))) (fun h => absurd rfl h)))⟩⟩
  · have y2 := take0 (lv := lv) he s1 (c := 60) (by omega) h60
    rw [if_neg h60]
    exact ⟨_, _, f1, Or.inr ⟨rfl, xm_of (nL := 5) rfl rfl (xb_23_0 x0 (xb_23_9 (fun _ => xb_23_12 x1 (xb_23_20 (fun h => absurd h (by decide)) (fun _ => xb_23_23 y2 (xb_23_32 (fun _ => xb_23_35) (fun h => absurd rfl h))))) (fun h => absurd rfl h)))⟩⟩
/-- an expression's end: the code of it stays as it is -/
theorem PS.ex {iv : Nat → Int32} {av : Nat → Nat → Int32} {i o a : Nat} {C c : List In} {K : Nat → Bool} (h : PS n tx iv av i (C ++ c ++ [(o, a)]) K) (hc : ∀ q ∈ c, EX q.1 ∧ q.2 < 1000) (ho : o < 13) : PS n tx iv av i (C ++ sh C.length (c ++ [(o, a)])) (kc K (c ++ [(o, a)])) := by
  rw [kc_app, kc_ex hc, kc_one (by omega), sh_app, sh_ex hc, ← List.append_assoc]
  have : sh C.length [(o, a)] = [(o, a)] := by
    have ho' : ¬ (o = 13 ∨ o = 14 ∨ o = 15) := by omega
    simp [sh, ho']
  rw [this]
  exact h
theorem c_stmt (hbV : PB n V) (hbS : PB n S) (hbI : PB n I) (hlB : PL n 2 B) (hV : PE e 24 [.ref 1, .int (nI dp)] n tx V) (hC : PT e 22 [.ref 1, .int (nI dp)] n tx (pChoice tx V B)) (hL : PT e 23 [.ref 1, .int (nI dp)] n tx (pLoop tx S B)) (he : 3 ≤ e)
    (hI : ∀ c iv av lv i C K, c < 128 → c ≠ 0 → PS n tx iv av i C K → C.length + (200 - i) < 2 ^ 29 → PER e 28 [.ref 1, .int (nI c), .int (nI (dp + 1))] lv n tx iv av C K ((I i).bind (fun q => if tx q.1 = c then some (q.1 + 1, q.2) else none))) : PT (e + 1) 21 [.ref 1, .int (nI dp)] n tx (pStmt tx V S I B) := by
  intro iv av lv i C K hs hBd
  have hn := hs.1.2.1
  have hi := hs.2.2.1
  have hle := hs.1.le i
  have nx : ∀ {c}, tx i = c → c ≠ 0 → i < n := fun h h0 => hs.1.lt (i := i) (by rw [h]; exact h0)
  unfold pStmt
  by_cases h33 : tx i = 33
  · have hlt := nx h33 (by omega)
    obtain ⟨x1, s1⟩ := take1 (lv := lv) he hs (c := 33) (by omega) (by omega) h33
    rw [if_pos h33]
    obtain ⟨iv2, av2, f2, h⟩ := hV _ _ lv (i + 1) C K s1 (by omega)
    rcases h with ⟨j, v, e2, x2, s2⟩ | ⟨e2, x2⟩
    case inr => exact ⟨_, _, PF.at.tr f2, Or.inr ⟨by rw [e2]; rfl, xm_of (nL := 4) rfl rfl (xb_21_0 x1 (xb_21_9 (fun h => absurd h (by decide)) (fun _ => xb_21_12 x2 (xb_21_17 (fun _ => xb_21_46 (xb_21_47 (Or.inl rfl))) (fun h => absurd rfl h)))))⟩⟩
    have g2 := hbV _ _ _ e2
    rw [e2]
    dsimp only [Option.bind_some]
    by_cases h59 : tx j = 59
    · obtain ⟨x3, s3⟩ := take1 (lv := lv) he s2 (c := 59) (by omega) (by omega) h59
      obtain ⟨iv4, av4, f4, x4, s4⟩ := c_write (lv := lv) (o := 12) (a := 0) (D := e) (by omega) s3 (by rw [List.length_append]; omega)
      rw [if_pos h59]
      exact ⟨_, _, ((PF.at.tr f2).tr PF.at).tr f4, Or.inl ⟨j + 1, v ++ [(12, 0)], rfl, xm_of (nL := 4) rfl rfl (xb_21_0 x1 (xb_21_9 (fun h => absurd h (by decide)) (fun _ => xb_21_12 x2 (xb_21_17 (fun h => absurd h (by decide)) (fun _ => xb_21_20 x3 (xb_21_29 (fun h => absurd h (by decide)) (fun _ => xb_21_32 x4 (xb_21_39 (fun h => absurd h (by decide)) (fun _ => xb_21_42 (xb_21_47 (Or.inr rfl))))))))))), s4.ex g2.2.2.2 (by omega)⟩⟩
    · have y3 := take0 (lv := lv) he s2 (c := 59) (by omega) h59
      rw [if_neg h59]
      exact ⟨_, _, PF.at.tr f2, Or.inr ⟨rfl, xm_of (nL := 4) rfl rfl (xb_21_0 x1 (xb_21_9 (fun h => absurd h (by decide)) (fun _ => xb_21_12 x2 (xb_21_17 (fun h => absurd h (by decide)) (fun _ => xb_21_20 y3 (xb_21_29 (fun _ => xb_21_46 (xb_21_47 (Or.inl rfl))) (fun h => absurd rfl h)))))))⟩⟩
  have y33 := take0 (lv := lv) he hs (c := 33) (by omega) h33
  rw [if_neg h33]
  by_cases h63 : tx i = 63
  · have hlt := nx h63 (by omega)
    obtain ⟨x1, s1⟩ := take1 (lv := lv) he hs (c := 63) (by omega) (by omega) h63
    rw [if_pos h63]
    obtain ⟨iv2, av2, f2, h⟩ := hC _ _ lv (i + 1) C K s1 (by omega)
    rcases h with ⟨j, c, e2, x2, s2⟩ | ⟨e2, x2⟩
    · exact ⟨_, _, PF.at.tr f2, Or.inl ⟨j, c, e2, xm_of (nL := 4) rfl rfl (xb_21_0 y33 (xb_21_9 (fun _ => xb_21_48 x1 (xb_21_57 (fun h => absurd h (by decide)) (fun _ => xb_21_60 x2 (xb_21_65 (Or.inr rfl))))) (fun h => absurd rfl h))), s2⟩⟩
    · exact ⟨_, _, PF.at.tr f2, Or.inr ⟨e2, xm_of (nL := 4) rfl rfl (xb_21_0 y33 (xb_21_9 (fun _ => xb_21_48 x1 (xb_21_57 (fun h => absurd h (by decide)) (fun _ => xb_21_60 x2 (xb_21_65 (Or.inl rfl))))) (fun h => absurd rfl h)))⟩⟩
  have y63 := take0 (lv := lv) he hs (c := 63) (by omega) h63
  rw [if_neg h63]
  by_cases h35 : tx i = 35
  · have hlt := nx h35 (by omega)
    obtain ⟨x1, s1⟩ := take1 (lv := lv) he hs (c := 35) (by omega) (by omega) h35
    rw [if_pos h35]
    obtain ⟨iv2, av2, f2, h⟩ := hL _ _ lv (i + 1) C K s1 (by omega)
    rcases h with ⟨j, c, e2, x2, s2⟩ | ⟨e2, x2⟩
    · exact ⟨_, _, PF.at.tr f2, Or.inl ⟨j, c, e2, xm_of (nL := 4) rfl rfl (xb_21_0 y33 (xb_21_9 (fun _ => xb_21_48 y63 (xb_21_57 (fun _ => xb_21_66 x1 (xb_21_75 (fun h => absurd h (by decide)) (fun _ => xb_21_78 x2 (xb_21_83 (Or.inr rfl))))) (fun h => absurd rfl h))) (fun h => absurd rfl h))), s2⟩⟩
    · exact ⟨_, _, PF.at.tr f2, Or.inr ⟨e2, xm_of (nL := 4) rfl rfl (xb_21_0 y33 (xb_21_9 (fun _ => xb_21_48 y63 (xb_21_57 (fun _ => xb_21_66 x1 (xb_21_75 (fun h => absurd h (by decide)) (fun _ => xb_21_78 x2 (xb_21_83 (Or.inl rfl))))) (fun h => absurd rfl h))) (fun h => absurd rfl h)))⟩⟩
  have y35 := take0 (lv := lv) he hs (c := 35) (by omega) h35
  rw [if_neg h35]
  by_cases h91 : tx i = 91
  · have hlt := nx h91 (by omega)
    obtain ⟨x1, s1⟩ := take1 (lv := lv) he hs (c := 91) (by omega) (by omega) h91
    rw [if_pos h91]
    obtain ⟨iv2, av2, f2, h⟩ := hI 93 _ _ lv (i + 1) C K (by omega) (by omega) s1 (by omega)
    have fin0 : ∀ {w}, xe e xt_21 105 [some (.ref 1), some (.int (nI dp)), none, none] [.int 0] (xs iv2 av2 lv) (some (.int 0), w) → xm e 28 [.ref 1, .int 93, .int (nI dp + 1)] (xs (upd iv 1 (nI (i + 1))) av lv) (some (.int 0), xs iv2 av2 lv) → xm (e + 1) 21 [.ref 1, .int (nI dp)] (xs iv av lv) (some (.int 0), w) := fun h1 h2 =>
      xm_of (nL := 4) rfl rfl (xb_21_0 y33 (xb_21_9 (fun _ => xb_21_48 y63 (xb_21_57 (fun _ => xb_21_66 y35 (xb_21_75 (fun _ => xb_21_84 x1 (xb_21_93 (fun h => absurd h (by decide)) (fun _ => xb_21_96 h2 h1))) (fun h => absurd rfl h))) (fun h => absurd rfl h))) (fun h => absurd rfl h)))
    have fin1 : ∀ {y w}, xe e xt_21 105 [some (.ref 1), some (.int (nI dp)), none, none] [.int 1] (xs iv2 av2 lv) (y, w) → xm e 28 [.ref 1, .int 93, .int (nI dp + 1)] (xs (upd iv 1 (nI (i + 1))) av lv) (some (.int 1), xs iv2 av2 lv) → xm (e + 1) 21 [.ref 1, .int (nI dp)] (xs iv av lv) (y, w) := fun h1 h2 =>
      xm_of (nL := 4) rfl rfl (xb_21_0 y33 (xb_21_9 (fun _ => xb_21_48 y63 (xb_21_57 (fun _ => xb_21_66 y35 (xb_21_75 (fun _ => xb_21_84 x1 (xb_21_93 (fun h => absurd h (by decide)) (fun _ => xb_21_96 h2 h1))) (fun h => absurd rfl h))) (fun h => absurd rfl h))) (fun h => absurd rfl h)))
    rcases h with ⟨j, c, e2, x2, s2⟩ | ⟨e2, x2⟩
    case inr =>
      refine ⟨_, _, PF.at.tr f2, Or.inr ⟨?_, fin0 (xb_21_105 (fun _ => xb_21_153 (xb_21_154 (Or.inl rfl))) (fun h => absurd rfl h)) (by rw [nI_1]; exact x2)⟩⟩
      cases hv : I (i + 1) with
      | none => rfl
      | some q =>
        rw [hv] at e2
        by_cases h93 : tx q.1 = 93
        · simp [h93] at e2
        · simp [h93]
    have x2 : xm e 28 [.ref 1, .int 93, .int (nI dp + 1)] (xs (upd iv 1 (nI (i + 1))) av lv) (some (.int 1), xs iv2 av2 lv) := by rw [nI_1]; exact x2
    obtain ⟨q, hq, hq2⟩ := Option.bind_eq_some_iff.mp e2
    have hjc : tx q.1 = 93 ∧ j = q.1 + 1 ∧ c = q.2 := by
      split at hq2
      · rename_i h93
        cases hq2
        exact ⟨h93, rfl, rfl⟩
      · cases hq2
    obtain ⟨h93, rfl, rfl⟩ := hjc
    have g2 := hbI _ _ _ hq
    have hlt2 := hs.1.lt (i := q.1) (by omega)
    rw [hq]
    dsimp only [Option.bind_some]
    rw [if_pos h93]
    by_cases h61 : tx (q.1 + 1) = 61
    · obtain ⟨x3, s3⟩ := take1 (lv := lv) he s2 (c := 61) (by omega) (by omega) h61
      have hlt3 := hs.1.lt (i := q.1 + 1) (by omega)
      rw [if_pos h61]
      obtain ⟨iv4, av4, f4, h⟩ := hV _ _ lv (q.1 + 2) (C ++ q.2) K s3 (by rw [List.length_append]; omega)
      rcases h with ⟨j4, v, e4, x4, s4⟩ | ⟨e4, x4⟩
      case inr => exact ⟨_, _, ((PF.at.tr f2).tr PF.at).tr f4, Or.inr ⟨by rw [e4]; rfl, fin1 (xb_21_105 (fun h => absurd h (by decide)) (fun _ => xb_21_108 x3 (xb_21_117 (fun h => absurd h (by decide)) (fun _ => xb_21_120 x4 (xb_21_125 (fun _ => xb_21_153 (xb_21_154 (Or.inl rfl))) (fun h => absurd rfl h)))))) x2⟩⟩
      have g4 := hbV _ _ _ e4
      rw [e4]
      dsimp only [Option.bind_some]
      by_cases h59 : tx j4 = 59
      · obtain ⟨x5, s5⟩ := take1 (lv := lv) he s4 (c := 59) (by omega) (by omega) h59
        obtain ⟨iv6, av6, f6, x6, s6⟩ := c_write (lv := lv) (o := 4) (a := 0) (D := e) (by omega) s5 (by simp only [List.length_append]; omega)
        rw [if_pos h59]
        refine ⟨_, _, ((((PF.at.tr f2).tr PF.at).tr f4).tr PF.at).tr f6, Or.inl ⟨j4 + 1, q.2 ++ v ++ [(4, 0)], rfl, fin1 (xb_21_105 (fun h => absurd h (by decide)) (fun _ => xb_21_108 x3 (xb_21_117 (fun h => absurd h (by decide)) (fun _ => xb_21_120 x4 (xb_21_125 (fun h => absurd h (by decide)) (fun _ => xb_21_128 x5 (xb_21_137 (fun h => absurd h (by decide)) (fun _ => xb_21_140 x6 (xb_21_146 (fun h => absurd h (by decide)) (fun _ => xb_21_149 (xb_21_154 (Or.inr rfl)))))))))))) x2, ?_⟩⟩
        rw [List.append_assoc C] at s6
        exact s6.ex (fun y hy => (List.mem_append.mp hy).elim (g2.2.2.2 y) (g4.2.2.2 y)) (by omega)
      · have y5 := take0 (lv := lv) he s4 (c := 59) (by omega) h59
        rw [if_neg h59]
        exact ⟨_, _, ((PF.at.tr f2).tr PF.at).tr f4, Or.inr ⟨rfl, fin1 (xb_21_105 (fun h => absurd h (by decide)) (fun _ => xb_21_108 x3 (xb_21_117 (fun h => absurd h (by decide)) (fun _ => xb_21_120 x4 (xb_21_125 (fun h => absurd h (by decide)) (fun _ => xb_21_128 y5 (xb_21_137 (fun _ => xb_21_153 (xb_21_154 (Or.inl rfl))) (fun h => absurd rfl h)))))))) x2⟩⟩
    · have y3 := take0 (lv := lv) he s2 (c := 61) (by omega) h61
      rw [if_neg h61]
      exact ⟨_, _, PF.at.tr f2, Or.inr ⟨rfl, fin1 (xb_21_105 (fun h => absurd h (by decide)) (fun _ => xb_21_108 y3 (xb_21_117 (fun _ => xb_21_153 (xb_21_154 (Or.inl rfl))) (fun h => absurd rfl h)))) x2⟩⟩
  have y91 := take0 (lv := lv) he hs (c := 91) (by omega) h91
  rw [if_neg h91]
  obtain ⟨g, rfl⟩ : ∃ g, e = g + 3 := ⟨e - 3, by omega⟩
  have go : ∀ {y w}, xe (g + 3) xt_21 155 [some (.ref 1), some (.int (nI dp)), none, none] [] (xs iv av lv) (y, w) → xm (g + 3 + 1) 21 [.ref 1, .int (nI dp)] (xs iv av lv) (y, w) := fun h1 =>
    xm_of (nL := 4) rfl rfl (xb_21_0 y33 (xb_21_9 (fun _ => xb_21_48 y63 (xb_21_57 (fun _ => xb_21_66 y35 (xb_21_75 (fun _ => xb_21_84 y91 (xb_21_93 (fun _ => h1) (fun h => absurd rfl h))) (fun h => absurd rfl h))) (fun h => absurd rfl h))) (fun h => absurd rfl h)))
  by_cases hv : 97 ≤ tx i ∧ tx i < 97 + 6
  · have x1 := c_one1 (d := g + 1) (lv := lv) (c := 97) (m := 6) hs.1 hs.2.1 (by omega) (by omega) (by omega) hv.1 hv.2
    have hlt := nx (c := tx i) rfl (by omega)
    have s1 := hs.at (j := i + 1) (by omega)
    rw [if_pos hv]
    by_cases h61 : tx (i + 1) = 61
    · obtain ⟨x3, s3⟩ := take1 (lv := lv) he s1 (c := 61) (by omega) (by omega) h61
      have hlt3 := hs.1.lt (i := i + 1) (by omega)
      rw [if_pos h61]
      obtain ⟨iv4, av4, f4, h⟩ := hV _ _ lv (i + 2) C K s3 (by omega)
      rcases h with ⟨j4, v, e4, x4, s4⟩ | ⟨e4, x4⟩
      case inr => exact ⟨_, _, (PF.at.tr PF.at).tr f4, Or.inr ⟨by rw [e4]; rfl, go (xb_21_155 x1 (xb_21_166 (fun h => absurd h (nI_m1 (by omega))) (fun _ => xb_21_172 x3 (xb_21_181 (fun h => absurd h (by decide)) (fun _ => xb_21_184 x4 (xb_21_189 (fun _ => xb_21_217 (xb_21_218 (Or.inl rfl))) (fun h => absurd rfl h)))))))⟩⟩
      have g4 := hbV _ _ _ e4
      rw [e4]
      dsimp only [Option.bind_some]
      by_cases h59 : tx j4 = 59
      · obtain ⟨x5, s5⟩ := take1 (lv := lv) he s4 (c := 59) (by omega) (by omega) h59
        obtain ⟨iv6, av6, f6, x6, s6⟩ := c_write (lv := lv) (o := 2) (a := tx i - 97) (D := g + 3) (by omega) s5 (by simp only [List.length_append]; omega)
        rw [if_pos h59]
        exact ⟨_, _, (((PF.at.tr PF.at).tr f4).tr PF.at).tr f6, Or.inl ⟨j4 + 1, v ++ [(2, tx i - 97)], rfl, go (xb_21_155 x1 (xb_21_166 (fun h => absurd h (nI_m1 (by omega))) (fun _ => xb_21_172 x3 (xb_21_181 (fun h => absurd h (by decide)) (fun _ => xb_21_184 x4 (xb_21_189 (fun h => absurd h (by decide)) (fun _ => xb_21_192 x5 (xb_21_201 (fun h => absurd h (by decide)) (fun _ => xb_21_204 x6 (xb_21_210 (fun h => absurd h (by decide)) (fun _ => xb_21_213 (xb_21_218 (Or.inr rfl))))))))))))), s6.ex g4.2.2.2 (by omega)⟩⟩
      · have y5 := take0 (lv := lv) he s4 (c := 59) (by omega) h59
        rw [if_neg h59]
        exact ⟨_, _, (PF.at.tr PF.at).tr f4, Or.inr ⟨rfl, go (xb_21_155 x1 (xb_21_166 (fun h => absurd h (nI_m1 (by omega))) (fun _ => xb_21_172 x3 (xb_21_181 (fun h => absurd h (by decide)) (fun _ => xb_21_184 x4 (xb_21_189 (fun h => absurd h (by decide)) (fun _ => xb_21_192 y5 (xb_21_201 (fun _ => xb_21_217 (xb_21_218 (Or.inl rfl))) (fun h => absurd rfl h)))))))))⟩⟩
    · have y3 := take0 (lv := lv) he s1 (c := 61) (by omega) h61
      rw [if_neg h61]
      exact ⟨_, _, PF.at, Or.inr ⟨rfl, go (xb_21_155 x1 (xb_21_166 (fun h => absurd h (nI_m1 (by omega))) (fun _ => xb_21_172 y3 (xb_21_181 (fun _ => xb_21_217 (xb_21_218 (Or.inl rfl))) (fun h => absurd rfl h)))))⟩⟩
  rw [if_neg hv]
  have y97 := c_one0 (d := g + 1) (lv := lv) (c := 97) (m := 6) hs.1 hs.2.1 (by omega) (by omega) (by omega) (by omega)
  by_cases hp : 65 ≤ tx i ∧ tx i < 65 + 4
  · have x1 := c_one1 (d := g + 1) (lv := lv) (c := 65) (m := 4) hs.1 hs.2.1 (by omega) (by omega) (by omega) hp.1 hp.2
    have hlt := nx (c := tx i) rfl (by omega)
    have s1 := hs.at (j := i + 1) (by omega)
    -- the call is noted
    have s2 : PS n tx (upd iv 1 (nI (i + 1))) (va_up av 12 (upd (av 12) (tx i - 65) 1)) (i + 1) C (kc K [(17, tx i - 65)]) := by
      refine ⟨s1.1.to rfl rfl, s1.2.1, s1.2.2.1, s1.2.2.2.1, fun p hp4 => ?_⟩
      show upd (av 12) (tx i - 65) 1 p = _
      unfold kc
      by_cases hpe : p = tx i - 65
      · subst hpe
        rw [upd_eq']
        simp
      · rw [upd_ne' hpe, s1.2.2.2.2 p hp4]
        have : ((tx i - 65) == p) = false := by simpa using fun h => hpe h.symm
        simp [this]
    have fp : PF (upd iv 1 (nI (i + 1))) av (upd iv 1 (nI (i + 1))) (va_up av 12 (upd (av 12) (tx i - 65) 1)) := ⟨fun _ _ _ => rfl, fun q _ _ h => va_up_ne' h⟩
    have em : (nI (tx i - 65)).toNatClampNeg = tx i - 65 := nI_clamp (by omega)
    have en : vp_nar .boolean 1 = 1 := rfl
    have go2 : ∀ {y w}, xe (g + 3) xt_21 242 [some (.ref 1), none, none, some (.int (nI (tx i - 65)))] [] (xs (upd iv 1 (nI (i + 1))) (va_up av 12 (upd (av 12) (tx i - 65) 1)) lv) (y, w) → xm (g + 3 + 1) 21 [.ref 1, .int (nI dp)] (xs iv av lv) (y, w) := fun h1 =>
      go (xb_21_155 y97 (xb_21_166 (fun _ => xb_21_219 x1 (xb_21_229 (fun h => absurd h (nI_m1 (by omega))) (fun _ => xb_21_235 (nI_bd (by omega) (by omega)) (by rw [em, en]; exact h1)))) (fun h => absurd rfl h)))
    rw [if_pos hp]
    by_cases h59 : tx (i + 1) = 59
    · obtain ⟨x5, s5⟩ := take1 (lv := lv) he s2 (c := 59) (by omega) (by omega) h59
      obtain ⟨iv6, av6, f6, x6, s6⟩ := c_write (lv := lv) (o := 17) (a := tx i - 65) (D := g + 3) (by omega) s5 (by omega)
      rw [if_pos h59]
      exact ⟨_, _, ((PF.at.tr fp).tr PF.at).tr f6, Or.inl ⟨i + 2, [(17, tx i - 65)], rfl, go2 (xb_21_242 x5 (xb_21_251 (fun h => absurd h (by decide)) (fun _ => xb_21_254 x6 (xb_21_261 (fun h => absurd h (by decide)) (fun _ => xb_21_264 (xb_21_269 (Or.inr rfl))))))), s6⟩⟩
    · have y5 := take0 (lv := lv) he s2 (c := 59) (by omega) h59
      rw [if_neg h59]
      exact ⟨_, _, PF.at.tr fp, Or.inr ⟨rfl, go2 (xb_21_242 y5 (xb_21_251 (fun _ => xb_21_268 (xb_21_269 (Or.inl rfl))) (fun h => absurd rfl h)))⟩⟩
  · rw [if_neg hp]
    have y65 := c_one0 (d := g + 1) (lv := lv) (c := 65) (m := 4) hs.1 hs.2.1 (by omega) (by omega) (by omega) (by omega)
    exact ⟨_, _, PF.rf, Or.inr ⟨rfl, go (xb_21_155 y97 (xb_21_166 (fun _ => xb_21_219 y65 (xb_21_229 (fun _ => xb_21_270) (fun h => absurd rfl h))) (fun h => absurd rfl h)))⟩⟩
/-- the statements of a block up to its brace -/
theorem c_seq (hlT : PL n 1 T) (hT : PT e 21 [.ref 1, .int (nI dp)] n tx T) (he : 3 ≤ e) : ∀ m iv av lv i C K c, PS n tx iv av i (C ++ sh C.length c) K → C.length + c.length + 5 * (200 - i) < 2 ^ 29 → m ≤ 200 →
    ∃ iv' av', PF iv av iv' av' ∧ ((∃ j c', pSeq tx T m i c = some (j, c') ∧ xe e xt_20 22 [some (.ref 1), some (.int (nI dp)), some (.int (nI (200 - m)))] [] (xs iv av lv) (some (.int 1), xs iv' av' lv) ∧ ∃ c2, c' = c ++ c2 ∧ PS n tx iv' av' j (C ++ sh C.length c') (kc K c2)) ∨ (pSeq tx T m i c = none ∧ xe e xt_20 22 [some (.ref 1), some (.int (nI dp)), some (.int (nI (200 - m)))] [] (xs iv av lv) (some (.int 0), xs iv' av' lv))) := by
  intro m
  induction m with
  | zero =>
    intro iv av lv i C K c hs hBd _
    have h200 : ¬ nI (200 - 0) < (200 : Int32) := show ¬ nI 200 < nI 200 from nI_nlt (Nat.le_refl _) (by omega)
    unfold pSeq
    by_cases h125 : tx i = 125
    · obtain ⟨x1, s1⟩ := take1 (lv := lv) he hs (c := 125) (by omega) (by omega) h125
      rw [if_pos h125]
      refine ⟨_, _, PF.at, Or.inl ⟨i + 1, c, rfl, xb_20_22 (fun h => absurd h h200) (fun _ => xb_20_57 x1 (xb_20_66 (Or.inr rfl))), [], by rw [List.append_nil], ?_⟩⟩
      rw [kc_no (c := []) (fun q hq => by cases hq)]
      exact s1
    · have y1 := take0 (lv := lv) he hs (c := 125) (by omega) h125
      rw [if_neg h125]
      exact ⟨_, _, PF.rf, Or.inr ⟨rfl, xb_20_22 (fun h => absurd h h200) (fun _ => xb_20_57 y1 (xb_20_66 (Or.inl rfl)))⟩⟩
  | succ m ih =>
    intro iv av lv i C K c hs hBd hm
    have hlt : nI (200 - (m + 1)) < (200 : Int32) := show nI _ < nI 200 from nI_lt (by omega) (by omega)
    have hi := hs.2.2.1
    have hn := hs.1.2.1
    have y0 := c_sees' (lv := lv) (c := 125) (D := e) (by omega) hs (by omega)
    unfold pSeq
    by_cases h125 : tx i = 125
    · obtain ⟨x1, s1⟩ := take1 (lv := lv) he hs (c := 125) (by omega) (by omega) h125
      rw [if_pos h125] at y0 ⊢
      refine ⟨_, _, PF.at, Or.inl ⟨i + 1, c, rfl, xb_20_22 (fun _ => xb_20_29 y0 (xb_20_38 (fun h => absurd h (by decide)) (fun _ => xb_20_57 x1 (xb_20_66 (Or.inr rfl))))) (fun h => absurd hlt h), [], by rw [List.append_nil], ?_⟩⟩
      rw [kc_no (c := []) (fun q hq => by cases hq)]
      exact s1
    rw [if_neg h125] at y0 ⊢
    obtain ⟨iv2, av2, f2, h⟩ := hT iv av lv i _ K hs (by rw [List.length_append, sh_len]; omega)
    rcases h with ⟨j, b, e2, x2, s2⟩ | ⟨e2, x2⟩
    case inr => exact ⟨_, _, f2, Or.inr ⟨by rw [e2]; rfl, xb_20_22 (fun _ => xb_20_29 y0 (xb_20_38 (fun _ => xb_20_41 x2 (xb_20_46 (fun _ => xb_20_49) (fun h => absurd rfl h))) (fun h => absurd rfl h))) (fun h => absurd hlt h)⟩⟩
    have g2 := hlT _ _ _ e2
    have ec : C ++ sh C.length c ++ sh (C ++ sh C.length c).length b = C ++ sh C.length (c ++ sh c.length b) := by
      rw [sh_app, sh_sh, List.length_append, sh_len, List.append_assoc, Nat.add_comm c.length]
    rw [ec] at s2
    obtain ⟨iv3, av3, f3, h⟩ := ih iv2 av2 lv j C (kc K b) (c ++ sh c.length b) s2 (by rw [List.length_append, sh_len]; omega) (by omega)
    have e6 : nI (200 - (m + 1)) + 1 = nI (200 - m) := by rw [nI_1, show 200 - (m + 1) + 1 = 200 - m by omega]
    rw [e2]
    dsimp only [Option.bind_some]
    rcases h with ⟨j3, c3, e3, x3, c2, hc2, s3⟩ | ⟨e3, x3⟩
    · refine ⟨_, _, f2.tr f3, Or.inl ⟨j3, c3, e3, xb_20_22 (fun _ => xb_20_29 y0 (xb_20_38 (fun _ => xb_20_41 x2 (xb_20_46 (fun h => absurd h (by decide)) (fun _ => xb_20_51 (by rw [e6]; exact x3)))) (fun h => absurd rfl h))) (fun h => absurd hlt h), sh c.length b ++ c2, by rw [hc2, List.append_assoc], ?_⟩⟩
      rw [kc_app, kc_sh]
      exact s3
    · exact ⟨_, _, f2.tr f3, Or.inr ⟨e3, xb_20_22 (fun _ => xb_20_29 y0 (xb_20_38 (fun _ => xb_20_41 x2 (xb_20_46 (fun h => absurd h (by decide)) (fun _ => xb_20_51 (by rw [e6]; exact x3)))) (fun h => absurd rfl h))) (fun h => absurd hlt h)⟩⟩
theorem c_block (hlT : PL n 1 T) (hT : PT e 21 [.ref 1, .int (nI dp)] n tx T) (he : 3 ≤ e) (hdp : dp ≤ 6) : PT (e + 1) 20 [.ref 1, .int (nI dp)] n tx (pBlock tx T) := by
  intro iv av lv i C K hs hBd
  have h6 : ¬ (6 : Int32) < nI dp := show ¬ nI 6 < nI dp from nI_nlt hdp (by omega)
  have hn := hs.1.2.1
  unfold pBlock
  by_cases h123 : tx i = 123
  · obtain ⟨x1, s1⟩ := take1 (lv := lv) he hs (c := 123) (by omega) (by omega) h123
    have hlt := hs.1.lt (i := i) (by omega)
    rw [if_pos h123]
    have s1' : PS n tx (upd iv 1 (nI (i + 1))) av (i + 1) (C ++ sh C.length []) K := by
      rw [show sh C.length [] = [] from rfl, List.append_nil]
      exact s1
    obtain ⟨iv2, av2, f2, h⟩ := c_seq hlT hT he 200 _ _ lv (i + 1) C K [] s1' (by simp only [List.length_nil]; omega) (by omega)
    rcases h with ⟨j, c, e2, x2, c2, hc2, s2⟩ | ⟨e2, x2⟩
    · rw [List.nil_append] at hc2
      subst hc2
      exact ⟨_, _, PF.at.tr f2, Or.inl ⟨j, c, e2, xm_of (nL := 3) rfl rfl (xb_20_0 (fun h => absurd h h6) (fun _ => xb_20_6 x1 (xb_20_15 (fun h => absurd h (by decide)) (fun _ => xb_20_20 x2)))), s2⟩⟩
    · exact ⟨_, _, PF.at.tr f2, Or.inr ⟨e2, xm_of (nL := 3) rfl rfl (xb_20_0 (fun h => absurd h h6) (fun _ => xb_20_6 x1 (xb_20_15 (fun h => absurd h (by decide)) (fun _ => xb_20_20 x2))))⟩⟩
  · have y1 := take0 (lv := lv) he hs (c := 123) (by omega) h123
    rw [if_neg h123]
    exact ⟨_, _, PF.rf, Or.inr ⟨rfl, xm_of (nL := 3) rfl rfl (xb_20_0 (fun h => absurd h h6) (fun _ => xb_20_6 y1 (xb_20_15 (fun _ => xb_20_18) (fun h => absurd rfl h))))⟩⟩
theorem c_block7 (hdp : 6 < dp) (hdp2 : dp < 100) : PT (e + 1) 20 [.ref 1, .int (nI dp)] n tx (fun _ => none) := fun iv av lv i C K hs hBd =>
  ⟨_, _, PF.rf, Or.inr ⟨rfl, xm_of (nL := 3) rfl rfl (xb_20_0 (fun _ => xb_20_18) (fun h => absurd (show nI 6 < nI dp from nI_lt hdp (by omega)) h))⟩⟩
/-- the blocks at depth dp, with r levels left -/
theorem c_blocks (hn : ∀ i, tx i ≠ 0 → i < n) : ∀ (r dp e : Nat), dp + r = 6 → PT (e + 8 * r + 20) 20 [.ref 1, .int (nI dp)] n tx (pBlock tx (pT tx r)) := by
  intro r
  induction r with
  | zero =>
    intro dp e h
    have hdp : dp = 6 := by omega
    subst hdp
    obtain ⟨-, u2, u3⟩ := c_units hn 0 6 (e + 10) (by omega)
    obtain ⟨-, w2, -⟩ := c_units hn 0 6 (e + 11) (by omega)
    have hb := pb_pu hn 0
    have hB : PT (e + 17) 20 [.ref 1, .int (nI (6 + 1))] n tx (fun _ => none) := c_block7 (e := e + 16) (by omega) (by omega)
    have h1 := c_choice (e := e + 17) (dp := 6) (pb_val hb) PL.none u3 hB (by omega)
    have h2 := c_loop (e := e + 17) (dp := 6) (pb_sum hb) PL.none w2 hB (by omega)
    obtain ⟨-, -, v3⟩ := c_units hn 0 6 (e + 11) (by omega)
    have h3 := c_stmt (e := e + 18) (dp := 6) (I := fun _ => none) (pb_val hb) (pb_sum hb) PB.none PL.none v3 h1 h2 (by omega) (fun c iv av lv i C K hc hc0 hs hB => ⟨iv, av, PF.rf, Or.inr ⟨rfl, c_inner7 (e := e + 17) (by omega) (by omega)⟩⟩)
    exact c_block (e := e + 19) (pl_T hn 0) h3 (by omega) (by omega)
  | succ r ih =>
    intro dp e h
    have hB := ih (dp + 1) (e + 5) (by omega)
    have hb := pb_pu hn (r + 1)
    have hb0 := pb_pu hn r
    have k1 : e + 5 + 8 * r + 20 = e + 8 * (r + 1) + 17 := by omega
    rw [k1] at hB
    have pV : ∀ D, 5 * (r + 1) + 7 ≤ D → PE D 24 [.ref 1, .int (nI dp)] n tx (pVal tx (pu tx (r + 1))) := fun D hD => by
      obtain ⟨-, -, u3⟩ := c_units hn (r + 1) dp (D - (5 * (r + 1) + 7)) (by omega)
      rw [show D - (5 * (r + 1) + 7) + 5 * (r + 1) + 7 = D by omega] at u3
      exact u3
    have pS : ∀ D, 5 * (r + 1) + 6 ≤ D → PE D 25 [.ref 1, .int (nI dp)] n tx (pSum tx (pu tx (r + 1))) := fun D hD => by
      obtain ⟨-, u2, -⟩ := c_units hn (r + 1) dp (D - (5 * (r + 1) + 6)) (by omega)
      rw [show D - (5 * (r + 1) + 6) + 5 * (r + 1) + 6 = D by omega] at u2
      exact u2
    have pI : ∀ D, 5 * r + 7 ≤ D → PE D 24 [.ref 1, .int (nI (dp + 1))] n tx (pVal tx (pu tx r)) := fun D hD => by
      obtain ⟨-, -, u3⟩ := c_units hn r (dp + 1) (D - (5 * r + 7)) (by omega)
      rw [show D - (5 * r + 7) + 5 * r + 7 = D by omega] at u3
      exact u3
    have hl := pl_block hn (pl_T hn r)
    have h1 := c_choice (e := e + 8 * (r + 1) + 17) (dp := dp) (pb_val hb) hl (pV _ (by omega)) hB (by omega)
    have h2 := c_loop (e := e + 8 * (r + 1) + 17) (dp := dp) (pb_sum hb) hl (pS _ (by omega)) hB (by omega)
    have h3 := c_stmt (e := e + 8 * (r + 1) + 18) (dp := dp) (pb_val hb) (pb_sum hb) (pb_val hb0) hl (pV _ (by omega)) h1 h2 (by omega) (fun c iv av lv i C K hc hc0 hs hB => c_inner (e := e + 8 * (r + 1) + 17) (pb_val hb0) (pI _ (by omega)) (by omega) (by omega) hc hc0 hs hB)
    exact c_block (e := e + 8 * (r + 1) + 19) (pl_T hn (r + 1)) h3 (by omega) (by omega)
end BLC
