/-! Programs: what the text is read as, and the class's first pass. A unit is given by where its block begins and its code. -/
abbrev UN : Type := Nat → Option (Nat × List In)
def p1 (tx : Nat → Nat) : Nat → PR := pBlock tx (pT tx 5)
def pProcs (tx : Nat → Nat) : Nat → Nat → UN → (Nat → Bool) → Option (Nat × UN × (Nat → Bool))
  | 0, i, u, K => some (i, u, K)
  | m + 1, i, u, K => if 65 ≤ tx i ∧ tx i < 65 + 4 then (if u (tx i - 65) = none then (p1 tx (i + 1)).bind (fun q => pProcs tx m q.1 (va_up u (tx i - 65) (some (i + 1, q.2))) (kc K q.2)) else none) else some (i, u, K)
def allThere (u : UN) (K : Nat → Bool) : Bool := (List.range 4).all (fun p => !(K p) || (u p).isSome)
def pProg (tx : Nat → Nat) (n : Nat) : Option UN := (pProcs tx 4 0 (fun _ => none) (fun _ => false)).bind (fun q => (p1 tx q.1).bind (fun b => if b.1 = n ∧ allThere q.2.1 (kc q.2.2 b.2) = true then some (va_up q.2.1 4 (some (q.1, b.2))) else none))
def PG (iv : Nat → Int32) (av : Nat → Nat → Int32) (iv' : Nat → Int32) (av' : Nat → Nat → Int32) : Prop := (∀ q, q ≠ 1 → q ≠ 2 → iv' q = iv q) ∧ ∀ q, q < 5 ∨ 12 < q → av' q = av q
theorem PG.rf {iv : Nat → Int32} {av : Nat → Nat → Int32} : PG iv av iv av := ⟨fun _ _ _ => rfl, fun _ _ => rfl⟩
theorem PG.tr {iv iv1 iv2 : Nat → Int32} {av av1 av2 : Nat → Nat → Int32} (h : PG iv av iv1 av1) (g : PG iv1 av1 iv2 av2) : PG iv av iv2 av2 := ⟨fun q a b => (g.1 q a b).trans (h.1 q a b), fun q a => (g.2 q a).trans (h.2 q a)⟩
theorem PF.pg {iv iv1 : Nat → Int32} {av av1 : Nat → Nat → Int32} (h : PF iv av iv1 av1) : PG iv av iv1 av1 := ⟨h.1, fun q a => h.2 q (by omega) (by omega) (by omega)⟩
def BL (av : Nat → Nat → Int32) (u : UN) : Prop := ∀ p, p < 5 → av 11 p = match u p with
  | some q => nI q.1
  | none => -1
def CLR (av av' : Nat → Nat → Int32) (k : Nat) : Prop := (∀ q, q ≠ 7 → q ≠ 8 → q ≠ 9 → q ≠ 10 → av' q = av q) ∧ ∀ j, j < k → av' 7 j = -1 ∧ av' 8 j = -1 ∧ av' 9 j = 0 ∧ av' 10 j = 0
section PRC
variable {D e d : Nat} {iv : Nat → Int32} {av : Nat → Nat → Int32} {lv : Nat → Nat → Int64} {n : Nat} {tx : Nat → Nat}
theorem c_clear (hD : 1 ≤ D) : ∃ av', CLR av av' 5 ∧ xm D 40 [.ref 4] (xs iv av lv) (none, xs (upd iv 2 0) av' lv) := by
  obtain ⟨d, rfl⟩ : ∃ d, D = d + 1 := ⟨D - 1, by omega⟩
  have loop : ∀ m k av1 iv, m + k = 5 → CLR av av1 k → ∃ av2, CLR av av2 5 ∧ xe d xt_40 7 [some (.ref 4), some (.int (nI k))] [] (xs iv av1 lv) (none, xs iv av2 lv) := by
    intro m
    induction m with
    | zero =>
      intro k av1 iv hk h
      have : k = 5 := by omega
      subst this
      exact ⟨av1, h, xb_40_7 (fun h => absurd h (by decide)) (fun _ => xb_40_46)⟩
    | succ m ih =>
      intro k av1 iv hk h
      have hb : 0 ≤ (nI k).toInt ∧ (nI k).toInt < ((5 : Nat) : Int) := nI_bd (by omega) (by omega)
      have ek : (nI k).toNatClampNeg = k := nI_clamp (by omega)
      obtain ⟨av2, h2, x2⟩ := ih (k + 1) (va_up (va_up (va_up (va_up av1 7 (upd (av1 7) k (-1))) 8 (upd (av1 8) k (-1))) 9 (upd (av1 9) k 0)) 10 (upd (av1 10) k 0)) iv (by omega) (by
        refine ⟨fun q a b c e => ?_, fun j hj => ?_⟩
        · rw [va_up_ne' e, va_up_ne' c, va_up_ne' b, va_up_ne' a]
          exact h.1 q a b c e
        · show upd (av1 7) k (-1) j = -1 ∧ upd (av1 8) k (-1) j = -1 ∧ upd (av1 9) k 0 j = 0 ∧ upd (av1 10) k 0 j = 0
          by_cases hjk : j = k
          · subst hjk
            exact ⟨upd_eq', upd_eq', upd_eq', upd_eq'⟩
          · rw [upd_ne' hjk, upd_ne' hjk, upd_ne' hjk, upd_ne' hjk]
            exact h.2 j (by omega))
      refine ⟨av2, h2, xb_40_7 (fun _ => xb_40_12 hb (xb_40_19 hb (xb_40_26 hb (xb_40_33 hb (xb_40_40 ?_))))) (fun h => absurd (show nI k < nI 5 from nI_lt (by omega) (by omega)) h)⟩
      rw [ek, nI_1]
      exact x2
  obtain ⟨av2, h2, x2⟩ := loop 5 0 av (upd iv 2 0) rfl ⟨fun _ _ _ _ _ => rfl, fun j hj => by omega⟩
  exact ⟨av2, h2, xm_of (nL := 2) rfl rfl (xb_40_0 x2)⟩
theorem c_begin (hD : 2 ≤ D) (hT : TX iv av n tx) : ∃ iv' av', PG iv av iv' av' ∧ xm D 14 [.ref 1] (xs iv av lv) (none, xs iv' av' lv) ∧ PS n tx iv' av' 0 [] (fun _ => false) ∧ BL av' (fun _ => none) := by
  obtain ⟨d, rfl⟩ : ∃ d, D = d + 1 := ⟨D - 1, by omega⟩
  obtain ⟨av1, hc, x1⟩ := c_clear (D := d) (iv := upd iv 1 0) (av := av) (lv := lv) (by omega)
  have loop2 : ∀ m k av2 iv, m + k = 4 → (∀ j, j < k → av2 12 j = 0) → ∃ av3, (∀ q, q ≠ 12 → av3 q = av2 q) ∧ (∀ j, j < 4 → av3 12 j = 0) ∧ xe d xt_14 37 [some (.ref 1), some (.int (nI k))] [] (xs iv av2 lv) (none, xs iv av3 lv) := by
    intro m
    induction m with
    | zero =>
      intro k av2 iv hk h
      have : k = 4 := by omega
      subst this
      exact ⟨av2, fun _ _ => rfl, h, xb_14_37 (fun h => absurd h (by decide)) (fun _ => xb_14_55)⟩
    | succ m ih =>
      intro k av2 iv hk h
      obtain ⟨av3, h1, h2, x3⟩ := ih (k + 1) (va_up av2 12 (upd (av2 12) k 0)) iv (by omega) (fun j hj => by
        show upd (av2 12) k 0 j = 0
        by_cases hjk : j = k
        · subst hjk; exact upd_eq'
        · rw [upd_ne' hjk]; exact h j (by omega))
      refine ⟨av3, fun q hq => by rw [h1 q hq, va_up_ne' hq], h2, xb_14_37 (fun _ => xb_14_42 (nI_bd (by omega) (by omega)) (xb_14_49 ?_)) (fun h => absurd (show nI k < nI 4 from nI_lt (by omega) (by omega)) h)⟩
      rw [nI_clamp (by omega), nI_1]
      exact x3
  have loop1 : ∀ m k av2 iv, m + k = 5 → (∀ j, j < k → av2 11 j = -1) → ∃ av3, (∀ q, q ≠ 11 → q ≠ 12 → av3 q = av2 q) ∧ (∀ j, j < 5 → av3 11 j = -1) ∧ (∀ j, j < 4 → av3 12 j = 0) ∧ xe d xt_14 17 [some (.ref 1), some (.int (nI k))] [] (xs iv av2 lv) (none, xs iv av3 lv) := by
    intro m
    induction m with
    | zero =>
      intro k av2 iv hk h
      have : k = 5 := by omega
      subst this
      obtain ⟨av3, h1, h2, x3⟩ := loop2 4 0 av2 iv rfl (fun j hj => by omega)
      exact ⟨av3, fun q _ b => h1 q b, fun j hj => by rw [h1 11 (by decide)]; exact h j hj, h2, xb_14_17 (fun h => absurd h (by decide)) (fun _ => xb_14_35 x3)⟩
    | succ m ih =>
      intro k av2 iv hk h
      obtain ⟨av3, h1, h2, h3, x3⟩ := ih (k + 1) (va_up av2 11 (upd (av2 11) k (-1))) iv (by omega) (fun j hj => by
        show upd (av2 11) k (-1) j = -1
        by_cases hjk : j = k
        · subst hjk; exact upd_eq'
        · rw [upd_ne' hjk]; exact h j (by omega))
      refine ⟨av3, fun q a b => by rw [h1 q a b, va_up_ne' a], h2, h3, xb_14_17 (fun _ => xb_14_22 (nI_bd (by omega) (by omega)) (xb_14_29 ?_)) (fun h => absurd (show nI k < nI 5 from nI_lt (by omega) (by omega)) h)⟩
      rw [nI_clamp (by omega), nI_1]
      exact x3
  obtain ⟨av3, h1, h2, h3, x3⟩ := loop1 5 0 av1 (upd (upd iv 1 0) 2 0) rfl (fun j hj => by omega)
  refine ⟨_, av3, ⟨fun q a b => by rw [upd_ne' b, upd_ne' a], fun q a => by rw [h1 q (by omega) (by omega)]; exact hc.1 q (by omega) (by omega) (by omega) (by omega)⟩, xm_of (nL := 2) rfl rfl (xb_14_0 x1 (xb_14_15 x3)), ⟨hT.to rfl (by rw [h1 3 (by decide) (by decide)]; exact hc.1 3 (by decide) (by decide) (by decide) (by decide)), rfl, by omega, ⟨rfl, fun j o a h _ => by simp at h⟩, fun p hp => by rw [h3 p hp]; rfl⟩, fun p hp => h2 p hp⟩
theorem c_there {u : UN} {K : Nat → Bool} (hD : 1 ≤ D) (hb : BL av u) (hK : CA av K) (hu : ∀ p q, u p = some q → q.1 < 2 ^ 20) : xm D 16 [.ref 1] (xs iv av lv) (some (.int (if allThere u K = true then 1 else 0)), xs iv av lv) := by
  obtain ⟨d, rfl⟩ : ∃ d, D = d + 1 := ⟨D - 1, by omega⟩
  refine xm_of (nL := 2) rfl rfl (xb_16_0 ?_)
  have loop : ∀ m k (r : Int32), m + k = 4 → ((∀ p, k ≤ p → p < 4 → K p = true → u p ≠ none) → r = 1) → ((∃ p, k ≤ p ∧ p < 4 ∧ K p = true ∧ u p = none) → r = 0) → xe d xt_16 2 [some (.ref 1), some (.int (nI k))] [] (xs iv av lv) (some (.int r), xs iv av lv) := by
    intro m
    induction m with
    | zero =>
      intro k r hk h1 _
      rw [h1 (fun p h1 h2 _ => by omega)]
      exact xb_16_2 (fun h => absurd h (show ¬ nI k < nI 4 from nI_nlt (by omega) (by omega))) (fun _ => xb_16_34)
    | succ m ih =>
      intro k r hk h1 h2
      refine xb_16_2 (fun _ => ?_) (fun h => absurd (show nI k < nI 4 from nI_lt (by omega) (by omega)) h)
      refine xb_16_7 (nI_bd (by omega) (by omega)) ?_
      rw [nI_clamp (by omega), hK k (by omega)]
      have go : (K k = true → u k ≠ none) → xe d xt_16 28 [some (.ref 1), some (.int (nI k))] [] (xs iv av lv) (some (.int r), xs iv av lv) := by
        intro h0
        refine xb_16_28 ?_
        rw [nI_1]
        refine ih (k + 1) r (by omega) (fun h => h1 (fun p a b c => ?_)) (fun ⟨p, a, b, c⟩ => h2 ⟨p, by omega, b, c⟩)
        by_cases hp : p = k
        · subst hp; exact h0 c
        · exact h p (by omega) b c
      by_cases hk1 : K k = true
      · rw [if_pos hk1]
        refine xb_16_13 (fun h => absurd h (by decide)) (fun _ => xb_16_16 (nI_bd (by omega) (by omega)) ?_)
        rw [nI_clamp (by omega), hb k (by omega)]
        cases hu1 : u k with
        | none =>
          rw [h2 ⟨k, Nat.le_refl _, by omega, hk1, hu1⟩]
          exact xb_16_22 (fun _ => xb_16_26) (fun h => absurd rfl h)
        | some q =>
          refine xb_16_22 (fun h => absurd h (nI_m1 (by have := hu k q hu1; omega))) (fun _ => go (fun _ h => by rw [hu1] at h; cases h))
      · rw [if_neg hk1]
        exact xb_16_13 (fun _ => go (fun h => absurd h hk1)) (fun h => absurd rfl h)
  refine loop 4 0 _ rfl (fun h => if_pos ?_) (fun ⟨p, _, hp, hk, hn⟩ => if_neg (fun h => ?_))
  · unfold allThere
    rw [List.all_eq_true]
    intro p hp
    have hp4 := List.mem_range.mp hp
    cases hk : K p with
    | false => rfl
    | true =>
      have := h p (Nat.zero_le _) hp4 hk
      cases hu1 : u p with
      | none => exact absurd hu1 this
      | some q => rfl
  · unfold allThere at h
    rw [List.all_eq_true] at h
    have := h p (List.mem_range.mpr hp)
    rw [hk, hn] at this
    cases this
theorem p1_len (hT : TX iv av n tx) : PL n 2 (p1 tx) := pl_block (fun _ h => hT.lt h) (pl_T (fun _ h => hT.lt h) 5)
theorem c_p1 (hT : TX iv av n tx) (hD : 60 ≤ D) : PT D 20 [.ref 1, .int 1] n tx (p1 tx) := by
  have := c_blocks (n := n) (tx := tx) (fun _ h => hT.lt h) 5 1 (D - 60) (by omega)
  rw [show D - 60 + 8 * 5 + 20 = D by omega] at this
  exact this
theorem BL.to {av av' : Nat → Nat → Int32} {u : UN} (h : BL av u) (e : av' 11 = av 11) : BL av' u := fun p hp => by rw [e]; exact h p hp
theorem c_procs (hT0 : TX iv av n tx) (he : 60 ≤ e) : ∀ m iv av lv i C K u, PS n tx iv av i C K → C.length ≤ i → BL av u → m ≤ 4 → (∀ p q, u p = some q → q.1 ≤ 200) →
    ∃ iv' av', PG iv av iv' av' ∧ ((∃ j u' K' C', pProcs tx m i u K = some (j, u', K') ∧ (∀ x o2, (∀ o1 o2, xe e xt_15 71 [some (.ref 1), o1, o2] [] (xs iv' av' lv) x) → xe e xt_15 6 [some (.ref 1), some (.int (nI (4 - m))), o2] [] (xs iv av lv) x) ∧ PS n tx iv' av' j C' K' ∧ C'.length ≤ j ∧ BL av' u' ∧ ∀ p q, u' p = some q → q.1 ≤ 200) ∨
      (pProcs tx m i u K = none ∧ ∀ o2, xe e xt_15 6 [some (.ref 1), some (.int (nI (4 - m))), o2] [] (xs iv av lv) (some (.int 0), xs iv' av' lv))) := by
  intro m
  induction m with
  | zero =>
    intro iv av lv i C K u hs hC hb _ hu
    exact ⟨iv, av, PG.rf, Or.inl ⟨i, u, K, C, rfl, fun x o2 h => xb_15_6 (fun h => absurd h (by decide)) (fun _ => h _ _), hs, hC, hb, hu⟩⟩
  | succ m ih =>
    intro iv av lv i C K u hs hC hb hm hu
    have hlt : nI (4 - (m + 1)) < (4 : Int32) := show nI _ < nI 4 from nI_lt (by omega) (by omega)
    have hi := hs.2.2.1
    have hn := hs.1.2.1
    obtain ⟨g, rfl⟩ : ∃ g, e = g + 2 := ⟨e - 2, by omega⟩
    unfold pProcs
    by_cases hp : 65 ≤ tx i ∧ tx i < 65 + 4
    · have x1 := c_one1 (d := g) (lv := lv) (c := 65) (m := 4) hs.1 hs.2.1 (by omega) (by omega) (by omega) hp.1 hp.2
      have hin := hs.1.lt (i := i) (by omega)
      have s1 := hs.at (j := i + 1) (by omega)
      have eb : (nI (tx i - 65)).toNatClampNeg = tx i - 65 := nI_clamp (by omega)
      have hbd : 0 ≤ (nI (tx i - 65)).toInt ∧ (nI (tx i - 65)).toInt < ((5 : Nat) : Int) := nI_bd (by omega) (by omega)
      have bv := hb (tx i - 65) (by omega)
      rw [if_pos hp]
      cases hu1 : u (tx i - 65) with
      | some q =>
        rw [hu1] at bv
        rw [if_neg (by simp)]
        refine ⟨upd iv 1 (nI (i + 1)), av, PF.at.pg, Or.inr ⟨rfl, fun o2 => xb_15_6 (fun _ => xb_15_11 x1 (xb_15_21 (fun h => absurd h (nI_m1 (by omega))) (fun _ => xb_15_30 hbd ?_))) (fun h => absurd hlt h)⟩⟩
        rw [eb, bv]
        exact xb_15_36 (fun h => absurd h (nI_m1 (by have := hu _ _ hu1; omega))) (fun _ => xb_15_40)
      | none =>
        rw [hu1] at bv
        rw [if_pos rfl]
        -- the block's place is noted
        have s2 : PS n tx (upd iv 1 (nI (i + 1))) (va_up av 11 (upd (av 11) (tx i - 65) (nI (i + 1)))) (i + 1) C K := ⟨s1.1.to rfl rfl, s1.2.1, s1.2.2.1, s1.2.2.2.1, s1.2.2.2.2⟩
        obtain ⟨iv3, av3, f3, h⟩ := c_p1 (D := g + 2) hT0 he _ _ lv (i + 1) C K s2 (by omega)
        have fp : PG iv av (upd iv 1 (nI (i + 1))) (va_up av 11 (upd (av 11) (tx i - 65) (nI (i + 1)))) := ⟨fun q a _ => upd_ne' a, fun q a => va_up_ne' (by omega)⟩
        rcases h with ⟨j, c, e3, x3, s3⟩ | ⟨e3, x3⟩
        case inr =>
          refine ⟨_, _, fp.tr f3.pg, Or.inr ⟨by rw [e3]; rfl, fun o2 => xb_15_6 (fun _ => xb_15_11 x1 (xb_15_21 (fun h => absurd h (nI_m1 (by omega))) (fun _ => xb_15_30 hbd ?_))) (fun h => absurd hlt h)⟩⟩
          rw [eb, bv]
          refine xb_15_36 (fun _ => xb_15_42 hbd ?_) (fun h => absurd rfl h)
          rw [eb]
          exact xb_15_55 x3 (xb_15_60 (fun _ => xb_15_63) (fun h => absurd rfl h))
        have g3 := p1_len hT0 _ _ _ e3
        have b3 : BL av3 (va_up u (tx i - 65) (some (i + 1, c))) := by
          intro p hp5
          rw [f3.2 11 (by decide) (by decide) (by decide)]
          show upd (av 11) (tx i - 65) (nI (i + 1)) p = _
          by_cases hpe : p = tx i - 65
          · subst hpe
            rw [upd_eq', va_up_self]
          · rw [upd_ne' hpe, va_up_ne' hpe]
            exact hb p hp5
        obtain ⟨iv4, av4, f4, h⟩ := ih iv3 av3 lv j _ _ _ s3 (by rw [List.length_append, sh_len]; omega) b3 (by omega) (fun p q h => by
          by_cases hpe : p = tx i - 65
          · subst hpe
            rw [va_up_self] at h
            cases h
            show i + 1 ≤ 200
            omega
          · rw [va_up_ne' hpe] at h
            exact hu p q h)
        have e6 : nI (4 - (m + 1)) + 1 = nI (4 - m) := by rw [nI_1, show 4 - (m + 1) + 1 = 4 - m by omega]
        have walk : ∀ x o2, xe (g + 2) xt_15 6 [some (.ref 1), some (.int (nI (4 - m))), none] [] (xs iv3 av3 lv) x → xe (g + 2) xt_15 6 [some (.ref 1), some (.int (nI (4 - (m + 1)))), o2] [] (xs iv av lv) x := fun x o2 hx => by
          refine xb_15_6 (fun _ => xb_15_11 x1 (xb_15_21 (fun h => absurd h (nI_m1 (by omega))) (fun _ => xb_15_30 hbd ?_))) (fun h => absurd hlt h)
          rw [eb, bv]
          refine xb_15_36 (fun _ => xb_15_42 hbd ?_) (fun h => absurd rfl h)
          rw [eb]
          refine xb_15_55 x3 (xb_15_60 (fun h => absurd h (by decide)) (fun _ => xb_15_65 ?_))
          rw [e6]
          exact hx
        rw [e3]
        rcases h with ⟨j4, u4, K4, C4, e4, x4, s4, h4, b4, hu4⟩ | ⟨e4, x4⟩
        · exact ⟨iv4, av4, (fp.tr f3.pg).tr f4, Or.inl ⟨j4, u4, K4, C4, e4, fun x o2 hx => walk x o2 (x4 x none hx), s4, h4, b4, hu4⟩⟩
        · exact ⟨iv4, av4, (fp.tr f3.pg).tr f4, Or.inr ⟨e4, fun o2 => walk _ o2 (x4 none)⟩⟩
    · have y1 := c_one0 (d := g) (lv := lv) (c := 65) (m := 4) hs.1 hs.2.1 (by omega) (by omega) (by omega) (by omega)
      rw [if_neg hp]
      exact ⟨iv, av, PG.rf, Or.inl ⟨i, u, K, C, rfl, fun x o2 h => xb_15_6 (fun _ => xb_15_11 y1 (xb_15_21 (fun _ => xb_15_27 (h _ _)) (fun h => absurd rfl h))) (fun h => absurd hlt h), hs, hC, hb, hu⟩⟩
/-- the first pass -/
theorem c_readProgram (hT : TX iv av n tx) (hD : 61 ≤ D) : ∃ iv' av', PG iv av iv' av' ∧ ((∃ u, pProg tx n = some u ∧ xm D 15 [.ref 1] (xs iv av lv) (some (.int 1), xs iv' av' lv) ∧ BL av' u) ∨ (pProg tx n = none ∧ xm D 15 [.ref 1] (xs iv av lv) (some (.int 0), xs iv' av' lv))) := by
  obtain ⟨e, rfl⟩ : ∃ e, D = e + 1 := ⟨D - 1, by omega⟩
  obtain ⟨iv0, av0, f0, x0, s0, b0⟩ := c_begin (D := e) (lv := lv) (by omega) hT
  obtain ⟨iv1, av1, f1, h⟩ := c_procs (e := e) hT (by omega) 4 iv0 av0 lv 0 [] _ _ s0 (Nat.le_refl _) b0 (Nat.le_refl _) (fun p q h => by cases h)
  unfold pProg
  rcases h with ⟨j, u, K, C, e1, x1, s1, hC, b1, hu⟩ | ⟨e1, x1⟩
  case inr => exact ⟨_, _, f0.tr f1, Or.inr ⟨by rw [e1]; rfl, xm_of (nL := 3) rfl rfl (xb_15_0 x0 (xb_15_4 (x1 none)))⟩⟩
  rw [e1]
  dsimp only [Option.bind_some]
  have hj := s1.2.2.1
  have s2 : PS n tx iv1 (va_up av1 11 (upd (av1 11) 4 (nI j))) j C K := ⟨s1.1.to rfl rfl, s1.2.1, s1.2.2.1, s1.2.2.2.1, s1.2.2.2.2⟩
  have f2 : PG iv1 av1 iv1 (va_up av1 11 (upd (av1 11) 4 (nI j))) := ⟨fun _ _ _ => rfl, fun q a => va_up_ne' (by omega)⟩
  obtain ⟨iv3, av3, f3, h⟩ := c_p1 (D := e) hT (by omega) _ _ lv j C K s2 (by omega)
  have walk : ∀ x, xe e xt_15 84 [some (.ref 1), none, none] [] (xs iv1 (va_up av1 11 (upd (av1 11) 4 (nI j))) lv) x → xm (e + 1) 15 [.ref 1] (xs iv av lv) x := fun x hx => by
    refine xm_of (nL := 3) rfl rfl (xb_15_0 x0 (xb_15_4 (x1 x none (fun o1 o2 => xb_15_71 ?_))))
    rw [s1.2.1]
    exact hx
  rcases h with ⟨j3, b, e3, x3, s3⟩ | ⟨e3, x3⟩
  case inr => exact ⟨_, _, ((f0.tr f1).tr f2).tr f3.pg, Or.inr ⟨by rw [e3]; rfl, walk _ (xb_15_84 x3 (xb_15_89 (fun _ => xb_15_113 (xb_15_114 (Or.inl rfl))) (fun h => absurd rfl h)))⟩⟩
  rw [e3]
  dsimp only [Option.bind_some]
  obtain ⟨g, rfl⟩ : ∃ g, e = g + 1 := ⟨e - 1, by omega⟩
  have hj3 := s3.2.2.1
  have x4 := c_atEnd (d := g) (lv := lv) s3.1 s3.2.1 (by omega)
  have b3 : BL av3 (va_up u 4 (some (j, b))) := by
    intro p hp5
    rw [f3.2 11 (by decide) (by decide) (by decide)]
    show upd (av1 11) 4 (nI j) p = _
    by_cases hpe : p = 4
    · subst hpe
      rw [upd_eq', va_up_self]
    · rw [upd_ne' hpe, va_up_ne' hpe]
      exact b1 p hp5
  have ha : allThere (va_up u 4 (some (j, b))) (kc K b) = allThere u (kc K b) := by
    unfold allThere
    rfl
  have x5 := c_there (D := g + 1) (iv := iv3) (lv := lv) (by omega) b3 s3.2.2.2.2 (fun p q h => by
    by_cases hpe : p = 4
    · subst hpe
      rw [va_up_self] at h
      cases h
      show j < 2 ^ 20
      omega
    · rw [va_up_ne' hpe] at h
      have := hu p q h
      omega)
  rw [ha] at x5
  by_cases hn : j3 = n
  · rw [if_pos hn] at x4
    by_cases hall : allThere u (kc K b) = true
    · rw [if_pos hall] at x5
      rw [if_pos ⟨hn, hall⟩]
      exact ⟨_, _, ((f0.tr f1).tr f2).tr f3.pg, Or.inl ⟨_, rfl, walk _ (xb_15_84 x3 (xb_15_89 (fun h => absurd h (by decide)) (fun _ => xb_15_92 x4 (xb_15_99 (fun h => absurd h (by decide)) (fun _ => xb_15_102 x5 (xb_15_106 (fun h => absurd h (by decide)) (fun _ => xb_15_109 (xb_15_114 (Or.inr rfl))))))))), b3⟩⟩
    · rw [if_neg hall] at x5
      rw [if_neg (fun h => hall h.2)]
      exact ⟨_, _, ((f0.tr f1).tr f2).tr f3.pg, Or.inr ⟨rfl, walk _ (xb_15_84 x3 (xb_15_89 (fun h => absurd h (by decide)) (fun _ => xb_15_92 x4 (xb_15_99 (fun h => absurd h (by decide)) (fun _ => xb_15_102 x5 (xb_15_106 (fun _ => xb_15_113 (xb_15_114 (Or.inl rfl))) (fun h => absurd rfl h)))))))⟩⟩
  · rw [if_neg hn] at x4
    rw [if_neg (fun h => hn h.1)]
    exact ⟨_, _, ((f0.tr f1).tr f2).tr f3.pg, Or.inr ⟨rfl, walk _ (xb_15_84 x3 (xb_15_89 (fun h => absurd h (by decide)) (fun _ => xb_15_92 x4 (xb_15_99 (fun _ => xb_15_113 (xb_15_114 (Or.inl rfl))) (fun h => absurd rfl h)))))⟩⟩
end PRC
