/-! The class: compile. -/
section PRD
variable {D e d : Nat} {iv : Nat → Int32} {av : Nat → Nat → Int32} {lv : Nat → Nat → Int64} {n : Nat} {tx : Nat → Nat}
/-- the first pass; the flags stand -/
theorem c_read2 (hT : TX iv av n tx) (hD : 61 ≤ D) : ∃ iv' av', PG iv av iv' av' ∧ ((∃ u, pProg tx n = some u ∧ xm D 15 [.ref 1] (xs iv av lv) (some (.int 1), xs iv' av' lv) ∧ BL av' u ∧ ∃ K, CA av' K) ∨ (pProg tx n = none ∧ xm D 15 [.ref 1] (xs iv av lv) (some (.int 0), xs iv' av' lv))) := by
  obtain ⟨e, rfl⟩ : ∃ e, D = e + 1 := ⟨D - 1, by omega⟩
  obtain ⟨iv0, av0, f0, x0, s0, b0⟩ := c_begin (D := e) (lv := lv) (by omega) hT
  obtain ⟨iv1, av1, f1, h⟩ := c_procs (e := e) hT (by omega) 4 iv0 av0 lv 0 [] _ _ s0 (Nat.le_refl _) b0 (Nat.le_refl _) (fun p q h => by cases h)
  unfold pProg
  rcases h with ⟨j, u, K, C, e1, x1, s1, hC, b1, hu⟩ | ⟨e1, x1⟩
  case inr => exact ⟨_, _, f0.tr f1, Or.inr ⟨by rw [e1]; rfl, xm_of (nL := 3) rfl rfl (xb_15_0 x0 (xb_15_4 (x1 none)))⟩⟩
  rw [e1]
  dsimp only [Option.bind_some]
  have hj := s1.2.2.1
  have s2 : PS n tx iv1 (va_up av1 11 (upd (av1 11) 4 (nI j))) j C K := ⟨s1.1.to rfl rfl, s1.2.1, s1.2.2.1, s1.2.2.2.1, s1.2.2.2.2⟩
  have f2 : PG iv1 av1 iv1 (va_up av1 11 (upd (av1 11) 4 (nI j))) := ⟨fun _ _ _ => rfl, fun q a => va_up_ne' (by omega)⟩
  obtain ⟨iv3, av3, f3, h⟩ := c_p1 (D := e) hT (by omega) _ _ lv j C K s2 (by omega)
  have walk : ∀ x, xe e xt_15 84 [some (.ref 1), none, none] [] (xs iv1 (va_up av1 11 (upd (av1 11) 4 (nI j))) lv) x → xm (e + 1) 15 [.ref 1] (xs iv av lv) x := fun x hx => by
    refine xm_of (nL := 3) rfl rfl (xb_15_0 x0 (xb_15_4 (x1 x none (fun o1 o2 => xb_15_71 ?_))))
    rw [s1.2.1]
    exact hx
  rcases h with ⟨j3, b, e3, x3, s3⟩ | ⟨e3, x3⟩
  case inr => exact ⟨_, _, ((f0.tr f1).tr f2).tr f3.pg, Or.inr ⟨by rw [e3]; rfl, walk _ (xb_15_84 x3 (xb_15_89 (fun _ => xb_15_113 (xb_15_114 (Or.inl rfl))) (fun h => absurd rfl h)))⟩⟩
  rw [e3]
  dsimp only [Option.bind_some]
  obtain ⟨g, rfl⟩ : ∃ g, e = g + 1 := ⟨e - 1, by omega⟩
  have hj3 := s3.2.2.1
  have x4 := c_atEnd (d := g) (lv := lv) s3.1 s3.2.1 (by omega)
  have b3 : BL av3 (va_up u 4 (some (j, b))) := by
    intro p hp5
    rw [f3.2 11 (by decide) (by decide) (by decide)]
    show upd (av1 11) 4 (nI j) p = _
    by_cases hpe : p = 4
    · subst hpe
      rw [upd_eq', va_up_self]
    · rw [upd_ne' hpe, va_up_ne' hpe]
      exact b1 p hp5
  have ha : allThere (va_up u 4 (some (j, b))) (kc K b) = allThere u (kc K b) := by
    unfold allThere
    rfl
  have x5 := c_there (D := g + 1) (iv := iv3) (lv := lv) (by omega) b3 s3.2.2.2.2 (fun p q h => by
    by_cases hpe : p = 4
    · subst hpe
      rw [va_up_self] at h
      cases h
      show j < 2 ^ 20
      omega
    · rw [va_up_ne' hpe] at h
      have := hu p q h
      omega)
  rw [ha] at x5
  by_cases hn : j3 = n
  · rw [if_pos hn] at x4
    by_cases hall : allThere u (kc K b) = true
    · rw [if_pos hall] at x5
      rw [if_pos ⟨hn, hall⟩]
      exact ⟨_, _, ((f0.tr f1).tr f2).tr f3.pg, Or.inl ⟨_, rfl, walk _ (xb_15_84 x3 (xb_15_89 (fun h => absurd h (by decide)) (fun _ => xb_15_92 x4 (xb_15_99 (fun h => absurd h (by decide)) (fun _ => xb_15_102 x5 (xb_15_106 (fun h => absurd h (by decide)) (fun _ => xb_15_109 (xb_15_114 (Or.inr rfl))))))))), b3, _, s3.2.2.2.2⟩⟩
    · rw [if_neg hall] at x5
      rw [if_neg (fun h => hall h.2)]
      exact ⟨_, _, ((f0.tr f1).tr f2).tr f3.pg, Or.inr ⟨rfl, walk _ (xb_15_84 x3 (xb_15_89 (fun h => absurd h (by decide)) (fun _ => xb_15_92 x4 (xb_15_99 (fun h => absurd h (by decide)) (fun _ => xb_15_102 x5 (xb_15_106 (fun _ => xb_15_113 (xb_15_114 (Or.inl rfl))) (fun h => absurd rfl h)))))))⟩⟩
  · rw [if_neg hn] at x4
    rw [if_neg (fun h => hn h.1)]
    exact ⟨_, _, ((f0.tr f1).tr f2).tr f3.pg, Or.inr ⟨rfl, walk _ (xb_15_84 x3 (xb_15_89 (fun h => absurd h (by decide)) (fun _ => xb_15_92 x4 (xb_15_99 (fun _ => xb_15_113 (xb_15_114 (Or.inl rfl))) (fun h => absurd rfl h)))))⟩⟩
/-- what the class has after a compile -/
def CL (iv : Nat → Int32) (av : Nat → Nat → Int32) (u : UN) (T E : TD) : Prop := PCc iv av (lk (uAt u) (uPart u 4)) ∧ (∀ p, p < 5 → u p = none → av 19 p = -1) ∧ ∀ p c, u p = some c → av 19 p = nI (uAt u p) ∧ av 21 p = nI (trT T 5 p) ∧ av 22 p = nI (trD E 5 p)
theorem cpy_in {f g : Nat → Int32} {n j : Nat} {k : Int32} (hk : k.toNatClampNeg = n) (hj : j < n) : va_cpy f g (0 : Int32).toNatClampNeg (0 : Int32).toNatClampNeg k.toNatClampNeg j = f j := by
  have e0 : (0 : Int32).toNatClampNeg = 0 := by decide
  rw [e0, hk, pk_cpy_in (Nat.zero_le _) (by omega)]
  congr 1
  omega
theorem c_copy {C : List In} {u : UN} (hD : 1 ≤ D) (hdr : DR iv av C) (hC : C.length ≤ 200) : ∃ av', (∀ q, q < 17 ∨ 22 < q → av' q = av q) ∧ PCc (upd iv 4 (iv 2)) av' C ∧ (∀ j, j < 5 → av' 19 j = av 7 j ∧ av' 21 j = av 9 j ∧ av' 22 j = av 10 j) ∧ xm D 41 [.ref 16, .ref 4] (xs iv av lv) (none, xs (upd iv 4 (iv 2)) av' lv) := by
  obtain ⟨d, rfl⟩ : ∃ d, D = d + 1 := ⟨D - 1, by omega⟩
  have k200 : (200 : Int32).toNatClampNeg = 200 := by decide
  have k5 : (5 : Int32).toNatClampNeg = 5 := by decide
  refine ⟨_, fun q a => ?_, ⟨?_, hC, fun j o a hj => ?_⟩, fun j hj => ?_, xm_of (nL := 2) rfl rfl (xb_41_0 (xb_41_24 (xb_41_40 (xb_41_54 (xb_41_68 (xb_41_82 xb_41_96))))))⟩
  · rw [va_up_ne' (by omega), va_up_ne' (by omega), va_up_ne' (by omega), va_up_ne' (by omega), va_up_ne' (by omega), va_up_ne' (by omega)]
  · rw [upd_eq']
    exact hdr.1
  · have hl := (List.getElem?_eq_some_iff.mp hj).1
    obtain ⟨g1, g2⟩ := hdr.2 j o a hj (by omega)
    show va_cpy (av 5) (av 17) (0 : Int32).toNatClampNeg (0 : Int32).toNatClampNeg (200 : Int32).toNatClampNeg j = _ ∧ va_cpy (av 6) (av 18) (0 : Int32).toNatClampNeg (0 : Int32).toNatClampNeg (200 : Int32).toNatClampNeg j = _
    rw [cpy_in k200 (by omega), cpy_in k200 (by omega)]
    exact ⟨g1, g2⟩
  · show va_cpy (av 7) (av 19) (0 : Int32).toNatClampNeg (0 : Int32).toNatClampNeg (5 : Int32).toNatClampNeg j = _ ∧ va_cpy (av 9) (av 21) (0 : Int32).toNatClampNeg (0 : Int32).toNatClampNeg (5 : Int32).toNatClampNeg j = _ ∧ va_cpy (av 10) (av 22) (0 : Int32).toNatClampNeg (0 : Int32).toNatClampNeg (5 : Int32).toNatClampNeg j = _
    rw [cpy_in k5 hj, cpy_in k5 hj, cpy_in k5 hj]
    exact ⟨rfl, rfl, rfl⟩
theorem upl_le {u : UN} {M : Nat → List In} {T E : TD} (hu : UP tx u M T E) : (uPart u 4).length < 2 ^ 20 := by
  have h : ∀ p, (uCode u p).length ≤ 201 := fun p => by
    cases hp : u p with
    | none => rw [uC_no hp]; omega
    | some q => rw [uC_some hp]; have := (hu.2 p q hp).2.2.2.1; omega
  have := uPart_len h 4
  omega
/-- compile: what the passes leave, when the text is a program -/
theorem c_comp1 {u : UN} {M : Nat → List In} {T E : TD} (hT : TX iv av n tx) (hD : 63 ≤ D) (hp : pProg tx n = some u) (hu : UP tx u M T E) :
    ∃ iv1 av1 iv2 av2 iv3 av3 lv3, xm D 15 [.ref 1] (xs iv av lv) (some (.int 1), xs iv1 av1 lv) ∧ xm D 17 [.ref 1] (xs iv1 av1 lv) (none, xs iv2 av2 lv) ∧ ((∀ q, q = 0 ∨ 3 < q → iv3 q = iv q) ∧ (∀ q, q < 5 ∨ 15 < q → av3 q = av q)) ∧
      ((¬ ((uPart u 4).length ≤ 200 ∧ PLN u ∧ SHT u T) ∧ xm D 48 [.ref 13, .ref 4] (xs iv2 av2 lv) (some (.int 0), xs iv3 av3 lv3)) ∨
       (((uPart u 4).length ≤ 200 ∧ PLN u ∧ SHT u T) ∧ xm D 48 [.ref 13, .ref 4] (xs iv2 av2 lv) (some (.int 1), xs iv3 av3 lv3) ∧ DR iv3 av3 (lk (uAt u) (uPart u 4)) ∧ FL av3 u 4 ∧ ∀ p, p < 5 → u p ≠ none → av3 9 p = nI (trT T 5 p) ∧ av3 10 p = nI (trD E 5 p))) := by
  obtain ⟨iv1, av1, f1, h1⟩ := c_read2 (D := D) (lv := lv) hT (by omega)
  rcases h1 with ⟨u', hu', x1, b1, hK⟩ | ⟨hu', -⟩
  case inr => rw [hp] at hu'; cases hu'
  rw [hp] at hu'
  cases hu'
  have hT1 : TX iv1 av1 n tx := hT.to (f1.1 0 (by decide) (by decide)) (f1.2 3 (by decide))
  obtain ⟨iv2, av2, f2, x2, t2, d2, fl2, z2⟩ := c_writeProgram (D := D) (lv := lv) hT1 (by omega) hp b1 hK
  obtain ⟨iv3, av3, lv3, f3, h3⟩ := c_settle (D := D) (lv := lv) hu (by omega) ⟨d2, fl2⟩ z2 (upl_le hu)
  have fr : (∀ q, q = 0 ∨ 3 < q → iv3 q = iv q) ∧ (∀ q, q < 5 ∨ 15 < q → av3 q = av q) := ⟨fun q a => by rw [f3.1 q (by omega), f2.1 q (by omega) (by omega), f1.1 q (by omega) (by omega)], fun q a => by rw [f3.2.1 q (by omega) (by omega) (by omega), f2.2 q (by omega), f1.2 q (by omega)]⟩
  refine ⟨iv1, av1, iv2, av2, iv3, av3, lv3, x1, x2, fr, ?_⟩
  rcases h3 with ⟨a1, a2, a3, a4, x3⟩ | ⟨a1, x3⟩
  · have sw : SW iv3 av3 u := (show SW iv2 av2 u from ⟨d2, fl2⟩).mf f3
    exact Or.inr ⟨⟨a1, a2, a3⟩, x3, sw.1, sw.2, a4⟩
  · exact Or.inl ⟨a1, x3⟩
theorem c_compile {u : UN} {M : Nat → List In} {T E : TD} (hT : TX iv av n tx) (hD : 64 ≤ D) (hp : pProg tx n = some u) (hu : UP tx u M T E) (hok : (uPart u 4).length ≤ 200 ∧ PLN u ∧ SHT u T) :
    ∃ iv' av' lv', ((∀ q, 10 < q → iv' q = iv q) ∧ ∀ q, q < 5 ∨ 22 < q → av' q = av q) ∧ (iv' 0 = 0 ∧ iv' 6 = 0 ∧ iv' 10 = 0) ∧ CL iv' av' u T E ∧ xm D 3 [.ref 0] (xs iv av lv) (some (.int (nI (uPart u 4).length)), xs iv' av' lv') := by
  obtain ⟨d, rfl⟩ : ∃ d, D = d + 1 := ⟨D - 1, by omega⟩
  obtain ⟨iv1, av1, iv2, av2, iv3, av3, lv3, x1, x2, fr, h3⟩ := c_comp1 (D := d) (lv := lv) hT (by omega) hp hu
  rcases h3 with ⟨hn, -⟩ | ⟨-, x3, dr, fl, ht⟩
  · exact absurd hok hn
  have hlen : (lk (uAt u) (uPart u 4)).length = (uPart u 4).length := lk_len ..
  obtain ⟨av4, f4, pc4, c4, x4⟩ := c_copy (D := d) (lv := lv3) (u := u) (by omega) dr (by rw [hlen]; exact hok.1)
  have x5 : xm d 57 [.ref 23] (xs (upd (upd iv3 4 (iv3 2)) 0 0) av4 lv3) (none, xs (upd (upd (upd (upd iv3 4 (iv3 2)) 0 0) 6 0) 10 0) av4 lv3) := by
    obtain ⟨g, rfl⟩ : ∃ g, d = g + 1 := ⟨d - 1, by omega⟩
    exact xm_of (nL := 1) rfl rfl xb_57_0
  refine ⟨upd (upd (upd (upd iv3 4 (iv3 2)) 0 0) 6 0) 10 0, av4, lv3, ⟨fun q a => ?_, fun q a => ?_⟩, ⟨rfl, rfl, rfl⟩, ⟨⟨pc4.1, pc4.2.1, pc4.2.2⟩, fun p hp5 hn => ?_, fun p c hc => ?_⟩, ?_⟩
  · rw [upd_ne' (by omega), upd_ne' (by omega), upd_ne' (by omega), upd_ne' (by omega), fr.1 q (by omega)]
  · rw [f4 q (by omega), fr.2 q (by omega)]
  · rw [(c4 p hp5).1]
    exact fl.no hp5 hn
  · have hp5 := (hu.2 p c hc).1
    have hn : u p ≠ none := by rw [hc]; simp
    obtain ⟨g1, g2, g3⟩ := c4 p hp5
    obtain ⟨k1, k2⟩ := ht p hp5 hn
    rw [g1, g2, g3]
    exact ⟨(fl.some hp5 hc).1, k1, k2⟩
  · have e4 : (upd (upd (upd (upd iv3 4 (iv3 2)) 0 0) 6 0) 10 0) 4 = nI (uPart u 4).length := by
      show iv3 2 = _
      rw [dr.1, hlen]
    refine xm_of (nL := 1) rfl rfl (xb_3_0 x1 (xb_3_7 (fun g => absurd g (by decide)) (fun _ => xb_3_18 x2 (xb_3_25 x3 (xb_3_39 (fun g => absurd g (by decide)) (fun _ => xb_3_50 x4 (xb_3_64 x5 ?_)))))))
    rw [← e4]
    exact xb_3_82
end PRD
