/-! The class's second pass, whole. -/
/-- numbers and arguments of structured code -/
def CB (c : List In) : Prop := ∀ q ∈ c, q.1 ≤ 17 ∧ (q.1 = 17 → q.2 < 4) ∧ (q.1 = 13 ∨ q.1 = 14 ∨ q.1 = 15 → q.2 ≤ c.length) ∧ (¬ (q.1 = 13 ∨ q.1 = 14 ∨ q.1 = 15) → q.2 < 1000)
theorem cb_sl {c : List In} {e : Nat} (h : SL c e) {q : In} (hq : q ∈ c) : q.1 ≤ 17 ∧ q.1 ≠ 17 ∧ ¬ (q.1 = 13 ∨ q.1 = 14 ∨ q.1 = 15) ∧ q.2 < 1000 := by
  have := h.1 q hq
  omega
theorem cb_sh {c : List In} {k L : Nat} (h : CB c) (hL : k + c.length ≤ L) {q : In} (hq : q ∈ sh k c) : q.1 ≤ 17 ∧ (q.1 = 17 → q.2 < 4) ∧ (q.1 = 13 ∨ q.1 = 14 ∨ q.1 = 15 → q.2 ≤ L) ∧ (¬ (q.1 = 13 ∨ q.1 = 14 ∨ q.1 = 15) → q.2 < 1000) := by
  unfold sh at hq
  obtain ⟨y, hy, rfl⟩ := List.mem_map.mp hq
  obtain ⟨h1, h2, h3, h4⟩ := h y hy
  split
  · rename_i hj
    refine ⟨h1, fun h => ?_, fun _ => ?_, fun h => absurd hj h⟩
    · dsimp only at h; omega
    · have := h3 hj
      dsimp only
      omega
  · rename_i hj
    exact ⟨h1, h2, fun h => absurd h hj, h4⟩
theorem sc_cb {c m : List In} {T D : (Nat → Nat) → Nat} (h : SC c m T D) : CB c := by
  refine h (fun c _ _ _ => CB c) ⟨(fun q hq => absurd hq List.not_mem_nil), ?_, ?_, ?_, ?_, ?_, ?_⟩
  · intro c1 _ _ _ c2 _ _ _ h1 h2 q hq
    rw [List.length_append, sh_len]
    rcases List.mem_append.mp hq with hq | hq
    · obtain ⟨a, b, c, d⟩ := h1 q hq
      exact ⟨a, b, fun h => by have := c h; omega, d⟩
    · exact cb_sh h2 (Nat.le_refl _) hq
  · intro c hc q hq
    obtain ⟨a, b, c, d⟩ := cb_sl hc hq
    exact ⟨a, fun h => absurd h b, fun h => absurd h c, fun _ => d⟩
  · intro v b _ _ _ hv hb q hq
    simp only [List.length_append, List.length_cons, List.length_nil, sh_len]
    rcases List.mem_append.mp hq with hq | hq
    · rcases List.mem_append.mp hq with hq | hq
      · obtain ⟨a, b, c, d⟩ := cb_sl hv hq
        exact ⟨a, fun h => absurd h b, fun h => absurd h c, fun _ => d⟩
      · cases List.mem_singleton.mp hq
        exact ⟨by dsimp only; omega, fun h => by dsimp only at h; omega, fun _ => by dsimp only; omega, fun h => absurd (Or.inl rfl) h⟩
    · exact cb_sh hb (by omega) hq
  · intro v b _ _ _ t _ _ _ hv hb ht q hq
    simp only [List.length_append, List.length_cons, List.length_nil, sh_len]
    rcases List.mem_append.mp hq with hq | hq
    · rcases List.mem_append.mp hq with hq | hq
      · rcases List.mem_append.mp hq with hq | hq
        · rcases List.mem_append.mp hq with hq | hq
          · obtain ⟨a, b, c, d⟩ := cb_sl hv hq
            exact ⟨a, fun h => absurd h b, fun h => absurd h c, fun _ => d⟩
          · cases List.mem_singleton.mp hq
            exact ⟨by dsimp only; omega, fun h => by dsimp only at h; omega, fun _ => by dsimp only; omega, fun h => absurd (Or.inl rfl) h⟩
        · exact cb_sh hb (by omega) hq
      · cases List.mem_singleton.mp hq
        exact ⟨by dsimp only; omega, fun h => by dsimp only at h; omega, fun _ => by dsimp only; omega, fun h => absurd (Or.inr (Or.inl rfl)) h⟩
    · exact cb_sh ht (by omega) hq
  · intro p op k b _ _ _ hp ho hk hb q hq
    simp only [List.length_append, List.length_cons, List.length_nil, sh_len]
    rcases List.mem_append.mp hq with hq | hq
    · rcases List.mem_append.mp hq with hq | hq
      · rcases List.mem_append.mp hq with hq | hq
        · obtain ⟨a, b, c, d⟩ := cb_sl hp (List.mem_append_left _ hq)
          exact ⟨a, fun h => absurd h b, fun h => absurd h c, fun _ => d⟩
        · rcases List.mem_cons.mp hq with rfl | hq
          · obtain ⟨a, b, c, d⟩ := cb_sl hp (List.mem_append_right _ (List.mem_singleton.mpr rfl))
            exact ⟨a, fun h => absurd h b, fun h => absurd h c, fun _ => d⟩
          · cases List.mem_singleton.mp hq
            exact ⟨by dsimp only; omega, fun h => by dsimp only at h; omega, fun _ => by dsimp only; omega, fun h => absurd (Or.inr (Or.inr rfl)) h⟩
      · exact cb_sh hb (by omega) hq
    · cases List.mem_singleton.mp hq
      exact ⟨by dsimp only; omega, fun h => by dsimp only at h; omega, fun _ => by dsimp only; omega, fun h => absurd (Or.inr (Or.inl rfl)) h⟩
  · intro p hp q hq
    cases List.mem_singleton.mp hq
    exact ⟨by dsimp only; omega, fun _ => hp, fun h => by dsimp only at h; omega, fun _ => by dsimp only; omega⟩
/-- what is known of the units of a program -/
def UI (tx : Nat → Nat) (u : UN) (K : Nat → Bool) : Prop := ∀ p q, u p = some q → p < 5 ∧ q.1 ≤ 200 ∧ (∃ j, p1 tx q.1 = some (j, q.2)) ∧ ∀ x ∈ q.2, x.1 = 17 → K x.2 = true
theorem kc_of {K : Nat → Bool} {c : List In} {p : Nat} (h : K p = true) : kc K c p = true := by unfold kc; rw [h]; rfl
theorem kc_in {K : Nat → Bool} {c : List In} {x : In} (hx : x ∈ c) (h : x.1 = 17) : kc K c x.2 = true := by
  unfold kc
  have : c.any (fun q => q.1 == 17 && q.2 == x.2) = true := List.any_eq_true.mpr ⟨x, hx, by simp [h]⟩
  rw [this, Bool.or_true]
theorem UI.step {tx : Nat → Nat} {u : UN} {K : Nat → Bool} {p i j : Nat} {c : List In} (h : UI tx u K) (hp : p < 5) (hi : i ≤ 200) (hc : p1 tx i = some (j, c)) : UI tx (va_up u p (some (i, c))) (kc K c) := by
  intro p' q hq
  by_cases he : p' = p
  · subst he
    rw [va_up_self] at hq
    cases hq
    exact ⟨hp, hi, ⟨j, hc⟩, fun x hx h17 => kc_in hx h17⟩
  · rw [va_up_ne' he] at hq
    obtain ⟨a, b, c', d⟩ := h p' q hq
    exact ⟨a, b, c', fun x hx h17 => kc_of (d x hx h17)⟩
theorem procs_ui {tx : Nat → Nat} (hn : ∀ i, tx i ≠ 0 → i < 200) : ∀ m i u K j u' K', pProcs tx m i u K = some (j, u', K') → UI tx u K → (∀ p, 4 ≤ p → u p = none) → UI tx u' K' ∧ ∀ p, 4 ≤ p → u' p = none
  | 0, i, u, K, j, u', K', h, hu, h4 => by cases h; exact ⟨hu, h4⟩
  | m + 1, i, u, K, j, u', K', h, hu, h4 => by
    unfold pProcs at h
    split at h
    · rename_i hp
      split at h
      · obtain ⟨q, hq, h2⟩ := Option.bind_eq_some_iff.mp h
        have := hn i (by omega)
        exact procs_ui hn m _ _ _ j u' K' h2 (hu.step (by omega) (by omega) hq) (fun p hp4 => by rw [va_up_ne' (by omega)]; exact h4 p hp4)
      · cases h
    · cases h; exact ⟨hu, h4⟩
theorem pProg_spec {tx : Nat → Nat} {n : Nat} {u : UN} (hn : ∀ i, tx i ≠ 0 → i < n) (hn2 : n ≤ 200) (h : pProg tx n = some u) : (∃ q, u 4 = some q) ∧ ∀ p q, u p = some q → p < 5 ∧ q.1 ≤ 200 ∧ (∃ j, p1 tx q.1 = some (j, q.2)) ∧ ∀ x ∈ q.2, x.1 = 17 → x.2 < 4 ∧ u x.2 ≠ none := by
  unfold pProg at h
  obtain ⟨⟨i, u0, K⟩, h1, h2⟩ := Option.bind_eq_some_iff.mp h
  obtain ⟨⟨j, b⟩, h3, h4⟩ := Option.bind_eq_some_iff.mp h2
  obtain ⟨g1, g2⟩ := procs_ui (fun i hi => by have := hn i hi; omega) 4 0 _ _ _ _ _ h1 (fun p q h => by cases h) (fun _ _ => rfl)
  dsimp only at h3 h4
  split at h4
  · rename_i hc
    cases h4
    have hi : i ≤ 200 := by
      have hb : tx i ≠ 0 := by
        intro h0
        unfold p1 pBlock at h3
        rw [h0, if_neg (by decide)] at h3
        cases h3
      have := hn i hb
      omega
    have g3 := g1.step (p := 4) (by omega) hi h3
    refine ⟨⟨_, va_up_self _ _ _⟩, fun p q hq => ?_⟩
    obtain ⟨a1, a2, a3, a4⟩ := g3 p q hq
    refine ⟨a1, a2, a3, fun x hx h17 => ?_⟩
    obtain ⟨j2, hj2⟩ := a3
    obtain ⟨_, _, _, _, hsc⟩ := p1_sc hj2
    have h4 := (sc_cb hsc x hx).2.1 h17
    refine ⟨h4, fun hnone => ?_⟩
    rw [va_up_ne' (by omega)] at hnone
    have hall := hc.2
    unfold allThere at hall
    have := List.all_eq_true.mp hall x.2 (List.mem_range.mpr h4)
    rw [a4 x hx h17, hnone] at this
    cases this
  · cases h4
def FL (av : Nat → Nat → Int32) (u : UN) (k : Nat) : Prop := ∀ p, p < 5 → (match u p with
  | some q => if p = 4 ∨ p < k then av 7 p = nI (uAt u p) ∧ av 8 p = nI (uAt u p + q.2.length) else av 7 p = -1 ∧ av 8 p = -1
  | none => av 7 p = -1 ∧ av 8 p = -1)
theorem uCode_len {tx : Nat → Nat} {n : Nat} {u : UN} (hT : ∀ i, tx i ≠ 0 → i < n) (hn : n ≤ 200) (hu : ∀ p q, u p = some q → ∃ j, p1 tx q.1 = some (j, q.2)) (p : Nat) : (uCode u p).length ≤ 201 := by
  unfold uCode
  cases h : u p with
  | none => simp
  | some q =>
    obtain ⟨j, hj⟩ := hu p q h
    have := pl_block hT (pl_T hT 5) _ _ _ hj
    simp only [List.length_append, List.length_cons, List.length_nil]
    omega
theorem uPart_len {u : UN} (h : ∀ p, (uCode u p).length ≤ 201) : ∀ k, (uPart u k).length ≤ 201 * (k + 1)
  | 0 => h 4
  | k + 1 => by
    have := uPart_len h k
    have h2 := h k
    unfold uPart
    rw [List.length_append, sh_len]
    omega
section CPR
variable {D : Nat} {iv : Nat → Int32} {av : Nat → Nat → Int32} {lv : Nat → Nat → Int64} {n : Nat} {tx : Nat → Nat} {u : UN}
theorem c_writeProgram (hT : TX iv av n tx) (hD : 62 ≤ D) (hu : pProg tx n = some u) (hb : BL av u) (hK0 : ∃ K, CA av K) : ∃ iv' av', PG iv av iv' av' ∧ xm D 17 [.ref 1] (xs iv av lv) (none, xs iv' av' lv) ∧ TX iv' av' n tx ∧ DR iv' av' (lk (uAt u) (uPart u 4)) ∧ FL av' u 4 ∧ ∀ j, j < 5 → av' 9 j = 0 ∧ av' 10 j = 0 := by
  obtain ⟨e, rfl⟩ : ∃ e, D = e + 1 := ⟨D - 1, by omega⟩
  obtain ⟨K0, hK0⟩ := hK0
  have hn := hT.2.1
  obtain ⟨⟨q4, hq4⟩, hspec⟩ := pProg_spec (fun _ h => hT.lt h) hn hu
  have hlen := uPart_len (uCode_len (fun _ h => hT.lt h) hn (fun p q h => (hspec p q h).2.2.1))
  obtain ⟨av1, hc, x1⟩ := c_clear (D := e) (iv := iv) (av := av) (lv := lv) (by omega)
  have hT1 : TX (upd iv 2 0) av1 n tx := hT.to rfl (hc.1 3 (by decide) (by decide) (by decide) (by decide))
  have b1 : BL av1 u := hb.to (hc.1 11 (by decide) (by decide) (by decide) (by decide))
  have k1 : CA av1 K0 := fun p hp => by rw [hc.1 12 (by decide) (by decide) (by decide) (by decide)]; exact hK0 p hp
  -- the last block
  obtain ⟨-, i4, ⟨j4, hj4⟩, -⟩ := hspec 4 q4 hq4
  have v4 := b1 4 (by decide)
  rw [hq4] at v4
  obtain ⟨iv2, av2, K2, f2, x2, t2, d2, k2, e7, e8⟩ := c_writeUnit (lv := lv) (D := e) (p := 4) (o := 19) (C := []) (K := K0) hT1 (by omega) (by decide) i4 v4 hj4 ⟨rfl, fun j o a h _ => by simp at h⟩ k1 (by decide) (Or.inr rfl)
  have p0 : uPart u 0 = [] ++ sh ([] : List In).length (q4.2 ++ [(19, 0)]) := by
    show uCode u 4 = _
    unfold uCode
    rw [hq4, List.nil_append, List.length_nil, sh_0]
    rfl
  rw [← p0] at d2
  have fl2 : FL av2 u 0 := by
    intro p hp
    by_cases hp4 : p = 4
    · subst hp4
      rw [hq4]
      dsimp only
      rw [if_pos (Or.inl rfl), e7, e8, upd_eq', upd_eq']
      simp [uAt]
    · have h7 : av2 7 p = -1 := by rw [e7, upd_ne' hp4]; exact (hc.2 p hp).1
      have h8 : av2 8 p = -1 := by rw [e8, upd_ne' hp4]; exact (hc.2 p hp).2.1
      cases hup : u p with
      | none => exact ⟨h7, h8⟩
      | some q =>
        dsimp only
        rw [if_neg (by omega)]
        exact ⟨h7, h8⟩
  have b2 : BL av2 u := b1.to (f2.2 11 (by omega))
  have z2 : ∀ j, j < 5 → av2 9 j = 0 ∧ av2 10 j = 0 := fun j hj => by
    rw [f2.2 9 (by omega), f2.2 10 (by omega)]
    exact (hc.2 j hj).2.2
  -- the procedures
  have loop : ∀ m k iv2 av2 K2, m + k = 4 → TX iv2 av2 n tx → DR iv2 av2 (uPart u k) → CA av2 K2 → FL av2 u k → BL av2 u → ∃ iv3 av3, PH iv2 av2 iv3 av3 ∧ TX iv3 av3 n tx ∧ DR iv3 av3 (uPart u 4) ∧ FL av3 u 4 ∧ ∀ x, (∀ o1, xe e xt_17 44 [some (.ref 1), o1] [] (xs iv3 av3 lv) x) → xe e xt_17 16 [some (.ref 1), some (.int (nI k))] [] (xs iv2 av2 lv) x := by
    intro m
    induction m with
    | zero =>
      intro k iv2 av2 K2 hk ht hd hK hf hb
      have : k = 4 := by omega
      subst this
      exact ⟨iv2, av2, PH.rf, ht, hd, hf, fun x hx => xb_17_16 (fun h => absurd h (by decide)) (fun _ => hx _)⟩
    | succ m ih =>
      intro k iv2 av2 K2 hk ht hd hK hf hb
      have hk4 : nI k < (4 : Int32) := show nI k < nI 4 from nI_lt (by omega) (by omega)
      have hbd : 0 ≤ (nI k).toInt ∧ (nI k).toInt < ((5 : Nat) : Int) := nI_bd (by omega) (by omega)
      have ek : (nI k).toNatClampNeg = k := nI_clamp (by omega)
      have bv := hb k (by omega)
      cases huk : u k with
      | none =>
        rw [huk] at bv
        have pk : uPart u (k + 1) = uPart u k := by
          show uPart u k ++ sh _ (uCode u k) = _
          unfold uCode
          rw [huk]
          exact List.append_nil _
        have fk : FL av2 u (k + 1) := by
          intro p hp
          have := hf p hp
          by_cases hpk : p = k
          · subst hpk
            rw [huk] at this ⊢
            exact this
          · cases hup : u p with
            | none => rw [hup] at this; exact this
            | some q =>
              rw [hup] at this
              dsimp only at this ⊢
              by_cases hc : p = 4 ∨ p < k
              · rw [if_pos hc] at this
                rw [if_pos (by omega)]
                exact this
              · rw [if_neg hc] at this
                rw [if_neg (by omega)]
                exact this
        obtain ⟨iv3, av3, g1, g2, g3, g4, g5⟩ := ih (k + 1) iv2 av2 K2 (by omega) ht (by rw [pk]; exact hd) hK fk hb
        refine ⟨iv3, av3, g1, g2, g3, g4, fun x hx => xb_17_16 (fun _ => xb_17_21 hbd ?_) (fun h => absurd hk4 h)⟩
        rw [ek, bv]
        refine xb_17_27 (fun _ => xb_17_38 ?_) (fun h => absurd rfl h)
        rw [nI_1]
        exact g5 x hx
      | some q =>
        rw [huk] at bv
        obtain ⟨-, iq, ⟨jq, hjq⟩, -⟩ := hspec k q huk
        have hl := hlen k
        obtain ⟨iv4, av4, K4, f4, x4, t4, d4, k4, e7, e8⟩ := c_writeUnit (lv := lv) (D := e) (p := k) (o := 18) (C := uPart u k) (K := K2) ht (by omega) (by omega) iq bv hjq hd hK (by omega) (Or.inl rfl)
        have pk : uPart u (k + 1) = uPart u k ++ sh (uPart u k).length (q.2 ++ [(18, 0)]) := by
          show uPart u k ++ sh _ (uCode u k) = _
          unfold uCode
          rw [huk]
          dsimp only
          rw [if_neg (by omega)]
        rw [← pk] at d4
        have fk : FL av4 u (k + 1) := by
          intro p hp
          have := hf p hp
          by_cases hpk : p = k
          · subst hpk
            rw [huk]
            dsimp only
            rw [if_pos (by omega), e7, e8, upd_eq', upd_eq']
            have : uAt u p = (uPart u p).length := by unfold uAt; rw [if_neg (by omega)]
            rw [this]
            exact ⟨rfl, rfl⟩
          · rw [e7, e8, upd_ne' hpk, upd_ne' hpk]
            cases hup : u p with
            | none => rw [hup] at this; exact this
            | some q =>
              rw [hup] at this
              dsimp only at this ⊢
              by_cases hc : p = 4 ∨ p < k
              · rw [if_pos hc] at this
                rw [if_pos (by omega)]
                exact this
              · rw [if_neg hc] at this
                rw [if_neg (by omega)]
                exact this
        obtain ⟨iv3, av3, g1, g2, g3, g4, g5⟩ := ih (k + 1) iv4 av4 K4 (by omega) t4 d4 k4 fk (hb.to (f4.2 11 (by omega)))
        refine ⟨iv3, av3, f4.tr g1, g2, g3, g4, fun x hx => xb_17_16 (fun _ => xb_17_21 hbd ?_) (fun h => absurd hk4 h)⟩
        rw [ek, bv]
        refine xb_17_27 (fun h => absurd h (nI_m1 (by omega))) (fun _ => xb_17_31 x4 (xb_17_38 ?_))
        rw [nI_1]
        exact g5 x hx
  obtain ⟨iv3, av3, f3, t3, d3, fl3, x3⟩ := loop 4 0 iv2 av2 K2 rfl t2 d2 k2 fl2 b2
  -- the calls
  have hl4 := hlen 4
  have allc : ∀ x ∈ uPart u 4, x.1 < 20 ∧ x.2 < 2000 ∧ (x.1 = 17 → x.2 < 4 ∧ u x.2 ≠ none) := by
    have unit : ∀ p, ∀ x ∈ uCode u p, x.1 < 20 ∧ x.2 < 1000 ∧ (x.1 = 17 → x.2 < 4 ∧ u x.2 ≠ none) := by
      intro p x hx
      unfold uCode at hx
      cases hup : u p with
      | none => rw [hup] at hx; cases hx
      | some q =>
        rw [hup] at hx
        dsimp only at hx
        obtain ⟨-, -, ⟨jq, hjq⟩, hcall⟩ := hspec p q hup
        rcases List.mem_append.mp hx with hx | hx
        · obtain ⟨_, _, _, _, hsc⟩ := p1_sc hjq
          obtain ⟨a, b, c, d⟩ := sc_cb hsc x hx
          have hl := pl_block (fun _ h => hT.lt h) (pl_T (fun _ h => hT.lt h) 5) _ _ _ hjq
          refine ⟨by omega, ?_, fun h17 => hcall x hx h17⟩
          by_cases hj : x.1 = 13 ∨ x.1 = 14 ∨ x.1 = 15
          · have := c hj; omega
          · exact d hj
        · cases List.mem_singleton.mp hx
          dsimp only
          split <;> exact ⟨by decide, by decide, fun h => absurd h (by decide)⟩
    have shf : ∀ p k, k ≤ 805 → ∀ x ∈ sh k (uCode u p), x.1 < 20 ∧ x.2 < 2000 ∧ (x.1 = 17 → x.2 < 4 ∧ u x.2 ≠ none) := by
      intro p k hk x hx
      unfold sh at hx
      obtain ⟨y, hy, rfl⟩ := List.mem_map.mp hx
      obtain ⟨a, b, c⟩ := unit p y hy
      split
      · rename_i hj
        exact ⟨a, by dsimp only; omega, fun h => by dsimp only at h; omega⟩
      · exact ⟨a, by omega, c⟩
    have pt : ∀ k, k ≤ 4 → ∀ x ∈ uPart u k, x.1 < 20 ∧ x.2 < 2000 ∧ (x.1 = 17 → x.2 < 4 ∧ u x.2 ≠ none) := by
      intro k
      induction k with
      | zero =>
        intro _ x hx
        obtain ⟨a, b, c⟩ := unit 4 x hx
        exact ⟨a, by omega, c⟩
      | succ k ih =>
        intro hk x hx
        have := hlen k
        rcases List.mem_append.mp hx with hx | hx
        · exact ih (by omega) x hx
        · exact shf k _ (by omega) x hx
    exact pt 4 (Nat.le_refl _)
  obtain ⟨av4, f4, x4, d4⟩ := c_linkCalls (lv := lv) (D := e) (f := uAt u) (by omega) d3 (by omega) (fun q hq => by have := allc q hq; omega) (fun q hq h17 hlt => by
    have hne := ((allc q hq).2.2 h17).2
    have := fl3 q.2 (by omega)
    cases hup : u q.2 with
    | none => exact absurd hup hne
    | some y =>
      rw [hup] at this
      dsimp only at this
      rw [if_pos (by omega)] at this
      exact this.1)
  have c1 : PG iv av (upd iv 2 0) av1 := ⟨fun q _ b => upd_ne' b, fun q a => hc.1 q (by omega) (by omega) (by omega) (by omega)⟩
  have c2 : PG (upd iv 2 0) av1 iv2 av2 := ⟨f2.1, fun q a => f2.2 q (by omega)⟩
  have c3 : PG iv2 av2 iv3 av3 := ⟨f3.1, fun q a => f3.2 q (by omega)⟩
  have c4 : PG iv3 av3 iv3 av4 := ⟨fun _ _ _ => rfl, fun q a => f4 q (by omega)⟩
  refine ⟨iv3, av4, ((c1.tr c2).tr c3).tr c4, xm_of (nL := 2) rfl rfl (xb_17_0 x1 (xb_17_7 x2 (xb_17_14 (x3 _ (fun o1 => xb_17_44 x4 xb_17_51))))), t3.to rfl (f4 3 (by decide)), d4, fun p hp => ?_, fun j hj => ?_⟩
  · rw [f4 7 (by decide), f4 8 (by decide)]
    exact fl3 p hp
  · rw [f4 9 (by decide), f4 10 (by decide), f3.2 9 (by omega), f3.2 10 (by omega)]
    exact z2 j hj
end CPR
