/-! The reference: reckon of a unit, reckonAll, isShort. -/
theorem mn3 (a C : Nat) : min (min a C + 3) C = min (a + 3) C := by omega
section MRU
variable {d D p : Nat} {iv : Nat → Int32} {av : Nat → Nat → Int32} {lv : Nat → Nat → Int64} {Mk : List In} {t dd : Nat → Nat} {G : Nat → Prop}
theorem rw_exit {en l h : Nat} (hx : RX p en Mk t dd G av) : RW d p iv lv l h en av (none, xs iv (va_up (va_up av 49 (upd (av 49) p (av 43 0))) 50 (upd (av 50) p (av 44 0))) lv) := fun o5 o6 o7 => by
  obtain ⟨h1, h2, h3, -⟩ := hx
  have cp : (nI p).toNatClampNeg = p := nI_clamp (by omega)
  have hb : 0 ≤ (nI p).toInt ∧ (nI p).toInt < ((5 : Nat) : Int) := nI_bd h1 (by omega)
  refine xb_99_26 hb ?_
  rw [cp, h3]
  refine xb_99_34 (fun g => absurd g (nI_nlt (Nat.le_refl _) (by omega))) (fun _ => xb_99_310 (xb_99_321 hb ?_))
  rw [cp]
  refine xb_99_322 (xb_99_333 hb ?_)
  rw [cp]
  exact xb_99_334
theorem m_reckon {g : Nat} {c m : List In} {T E : (Nat → Nat) → Nat} (hD : 3 ≤ D) (hsc : SC c m T E) (hns : NST 6 m) (hp : p < 5) (h35 : av 35 p = nI g) (h36 : av 36 p = nI (g + (um p m).length)) (hA : AT Mk g (um p m)) (hen : g + (um p m).length ≤ 1200) (hMk : ∀ j o a, Mk[j]? = some (o, a) → av 31 j = nI o ∧ av 32 j = nI a) (hc : c.length ≤ 800000) (hG : ∀ q ∈ c, q.1 = 17 → av 49 q.2 = nI (t q.2) ∧ av 50 q.2 = nI (dd q.2)) (ht : ∀ q, t q ≤ 100000 ∧ dd q ≤ 2000) :
    ∃ av', (∀ q, q < 43 ∨ 50 < q → av' q = av q) ∧ av' 49 = upd (av 49) p (nI (min (T t + (if p = 4 then 0 else 3)) 100000)) ∧ av' 50 = upd (av 50) p (nI (E dd)) ∧ xm D 99 [.ref 27, .int (nI p)] (xs iv av lv) (none, xs iv av' lv) := by
  obtain ⟨d, rfl⟩ : ∃ d, D = d + 1 := ⟨D - 1, by omega⟩
  have cp : (nI p).toNatClampNeg = p := nI_clamp (by omega)
  have hb : 0 ≤ (nI p).toInt ∧ (nI p).toInt < ((5 : Nat) : Int) := nI_bd hp (by omega)
  have c0 : (0 : Int32).toNatClampNeg = 0 := by decide
  have f0 : ∀ q, q < 43 ∨ 48 < q → cw av 0 0 0 q = av q := (cw_fr (av := av) (l := 0) (c := 0) (w := 0)).1
  have hx0 : RX p (g + (um p m).length) Mk t dd (fun q => av 49 q = nI (t q) ∧ av 50 q = nI (dd q)) av := ⟨hp, hen, h36, hMk, fun q _ hq => hq, ht⟩
  have hx := hx0.to f0
  have go : ∀ x, RW d p iv lv 0 0 g (cw av 0 0 0) x → xm (d + 1) 99 [.ref 27, .int (nI p)] (xs iv av lv) x := fun x hx' => by
    refine xm_of (nL := 8) rfl rfl (xb_99_0 (xb_99_11 (xb_99_18 hb ?_)))
    rw [cp, c0]
    have e35 : va_up (va_up av 43 (upd (av 43) 0 0)) 44 (upd (va_up av 43 (upd (av 43) 0 0) 44) 0 0) 35 p = nI g := h35
    rw [e35]
    exact xb_99_24 (hx' _ _ _)
  have hml : AT Mk g m := by
    unfold um at hA
    split at hA
    · exact hA
    · exact hA.l
  have hul : m.length ≤ (um p m).length := by
    unfold um
    split
    · exact Nat.le_refl _
    · rw [List.length_append]; omega
  have dp := sc_dep hsc (d := dd) (M := 2000) (fun q _ => (ht q).2)
  obtain ⟨av1, f1, a1, b1, x1⟩ := (wq_sc (d := d) (p := p) (en := g + (um p m).length) (iv := iv) (lv := lv) (Mk := Mk) (t := t) (dd := dd) (G := fun q => av 49 q = nI (t q) ∧ av 50 q = nI (dd q)) (by omega) (fun q => (ht q).2) hsc).2.2 g 0 0 0 0 (cw av 0 0 0) hx hml (hns.2 0 9 (by omega)) (by omega) (by omega) hG (by omega) cw_at.1 (by omega) cw_at.2 (by omega) (by omega)
  rw [Nat.zero_add] at a1 b1
  rw [Nat.max_eq_right (Nat.zero_le _)] at b1
  have hx1 := hx.to f1.1
  by_cases h4 : p = 4
  · have e1 : um p m = m := by unfold um; rw [if_pos h4]
    rw [e1] at hx1
    refine ⟨_, ?_, ?_, ?_, go _ (x1 _ (rw_exit hx1))⟩
    · intro q hq
      rw [va_up_ne' (by omega), va_up_ne' (by omega), f1.1 q (by omega), f0 q (by omega)]
    · show upd (av1 49) p (av1 43 0) = _
      rw [f1.1 49 (by omega), f0 49 (by omega), a1, if_pos h4]
      rfl
    · show upd (av1 50) p (av1 44 0) = _
      rw [f1.1 50 (by omega), f0 50 (by omega), b1]
  · have e1 : um p m = m ++ [(18, 0)] := by unfold um; rw [if_neg h4]
    have e2 : (um p m).length = m.length + 1 := by rw [e1, List.length_append]; rfl
    have hA2 : Mk[g + m.length]? = some (18, 0) := by rw [e1] at hA; exact hA.r.h
    have f2 := cw_fr (av := av1) (l := 0) (c := min (min (T t) 100000 + cs1 18) 100000) (w := max (E dd) 0)
    obtain ⟨k1, k2⟩ := cw_at (av := av1) (l := 0) (c := min (min (T t) 100000 + cs1 18) 100000) (w := max (E dd) 0)
    have hx2 := hx1.to f2.1
    rw [e2] at hx1 hx2
    refine ⟨_, ?_, ?_, ?_, go _ (x1 _ (rw_one (by omega) hx1 (by omega) hA2 (by omega) (Or.inr ⟨rfl, rfl⟩) (by omega) a1 (by omega) b1 (by omega) (by omega) (by rw [Nat.add_assoc]; exact rw_exit hx2)))⟩
    · intro q hq
      rw [va_up_ne' (by omega), va_up_ne' (by omega), f2.1 q (by omega), f1.1 q (by omega), f0 q (by omega)]
    · show upd (cw av1 0 _ _ 49) p (cw av1 0 _ _ 43 0) = _
      rw [k1, f2.1 49 (by omega), f1.1 49 (by omega), f0 49 (by omega), if_neg h4]
      have : cs1 18 = 3 := rfl
      rw [this]
      congr 2
      exact mn3 _ _
    · show upd (cw av1 0 _ _ 50) p (cw av1 0 _ _ 44 0) = _
      rw [k2, f2.1 50 (by omega), f1.1 50 (by omega), f0 50 (by omega)]
      rw [Nat.max_eq_left (Nat.zero_le _)]
end MRU
def mk5 (a b c d e : Bool) : Nat := mk4 a b c d + (if e = true then 16 else 0)
def msk5 (O : Nat → Bool) : Nat := mk5 (O 0) (O 1) (O 2) (O 3) (O 4)
theorem mk5_bit : ∀ a b c d e : Bool, (((nI (mk5 a b c d e) >>> (nI 0 &&& 31)) &&& 1) = if a = true then 1 else 0) ∧ (((nI (mk5 a b c d e) >>> (nI 1 &&& 31)) &&& 1) = if b = true then 1 else 0) ∧ (((nI (mk5 a b c d e) >>> (nI 2 &&& 31)) &&& 1) = if c = true then 1 else 0) ∧ (((nI (mk5 a b c d e) >>> (nI 3 &&& 31)) &&& 1) = if d = true then 1 else 0) ∧ (((nI (mk5 a b c d e) >>> (nI 4 &&& 31)) &&& 1) = if e = true then 1 else 0) := by decide +kernel
theorem mk5_or : ∀ a b c d e : Bool, ((nI (mk5 a b c d e) ||| (1 <<< (nI 0 &&& 31))) = nI (mk5 true b c d e)) ∧ ((nI (mk5 a b c d e) ||| (1 <<< (nI 1 &&& 31))) = nI (mk5 a true c d e)) ∧ ((nI (mk5 a b c d e) ||| (1 <<< (nI 2 &&& 31))) = nI (mk5 a b true d e)) ∧ ((nI (mk5 a b c d e) ||| (1 <<< (nI 3 &&& 31))) = nI (mk5 a b c true e)) ∧ ((nI (mk5 a b c d e) ||| (1 <<< (nI 4 &&& 31))) = nI (mk5 a b c d true)) := by decide +kernel
theorem msk5_bit {O : Nat → Bool} {p : Nat} (hp : p < 5) : ((nI (msk5 O) >>> (nI p &&& 31)) &&& 1) = if O p = true then 1 else 0 := by
  obtain ⟨h0, h1, h2, h3, h4⟩ := mk5_bit (O 0) (O 1) (O 2) (O 3) (O 4)
  have : p = 0 ∨ p = 1 ∨ p = 2 ∨ p = 3 ∨ p = 4 := by omega
  rcases this with rfl | rfl | rfl | rfl | rfl
  · exact h0
  · exact h1
  · exact h2
  · exact h3
  · exact h4
theorem msk5_or {O : Nat → Bool} {p : Nat} (hp : p < 5) : (nI (msk5 O) ||| (1 <<< (nI p &&& 31))) = nI (msk5 (va_up O p true)) := by
  obtain ⟨h0, h1, h2, h3, h4⟩ := mk5_or (O 0) (O 1) (O 2) (O 3) (O 4)
  have : p = 0 ∨ p = 1 ∨ p = 2 ∨ p = 3 ∨ p = 4 := by omega
  rcases this with rfl | rfl | rfl | rfl | rfl
  · exact h0
  · exact h1
  · exact h2
  · exact h3
  · exact h4
/-- the reference has read the program u -/
def RS (tx : Nat → Nat) (iv : Nat → Int32) (av : Nat → Nat → Int32) (u : UN) (K Mk : List In) (F G : Nat → Nat) : Prop := EC iv av K ∧ (∀ j o a, Mk[j]? = some (o, a) → av 31 j = nI o ∧ av 32 j = nI a) ∧ RU tx av K Mk u F G ∧ NC K ∧ K.length ≤ 400 ∧ Mk.length ≤ 600
theorem RS.to {tx : Nat → Nat} {iv iv' : Nat → Int32} {av av' : Nat → Nat → Int32} {u : UN} {K Mk : List In} {F G : Nat → Nat} (h : RS tx iv av u K Mk F G) (e14 : iv' 14 = iv 14) (f : ∀ q, 28 < q → q < 38 → av' q = av q) : RS tx iv' av' u K Mk F G := by
  obtain ⟨h1, h2, h3, h4⟩ := h
  refine ⟨⟨by rw [e14]; exact h1.1, fun j o a hj => by rw [f 29 (by omega) (by omega), f 30 (by omega) (by omega)]; exact h1.2 j o a hj⟩, fun j o a hj => by rw [f 31 (by omega) (by omega), f 32 (by omega) (by omega)]; exact h2 j o a hj, ⟨fun p hp => by rw [f 37 (by omega) (by omega)]; exact h3.1 p hp, fun p q hq => ?_, h3.2.2⟩, h4⟩
  rw [f 33 (by omega) (by omega), f 34 (by omega) (by omega), f 35 (by omega) (by omega), f 36 (by omega) (by omega)]
  exact h3.2.1 p q hq
theorem rs_of {n : Nat} {tx : Nat → Nat} {iv : Nat → Int32} {av : Nat → Nat → Int32} {u : UN} {K Mk : List In} {F G : Nat → Nat} (h : GS n tx iv av n K Mk [] 0) (hr : RU tx av K Mk u F G) (hc : NC K) : RS tx iv av u K Mk F G := by
  obtain ⟨h1, h2, h3, h4, h5, h6, h7, h8⟩ := h
  have := h1.2.1
  exact ⟨h3, h4.2, hr, hc, by omega, by omega⟩
section MRA
variable {d D n : Nat} {iv : Nat → Int32} {lv : Nat → Nat → Int64} {tx : Nat → Nat} {u : UN} {K Mk : List In} {F G : Nat → Nat} {M : Nat → List In} {T E : TD}
/-- done so far: O, and the values of what is done -/
def RI (u : UN) (T E : TD) (av : Nat → Nat → Int32) (O : Nat → Bool) : Prop := ∀ p, p < 5 → O p = true → (∃ m, rk u m p) ∧ av 49 p = nI (min (trT T 5 p) 100000) ∧ av 50 p = nI (trD E 5 p)
theorem up_calls (hu : UP tx u M T E) : ∀ p q, u p = some q → ∀ x ∈ q.2, x.1 = 17 → x.2 < 4 := fun p q h x hx e => ((hu.2 p q h).2.2.2.2 x hx e).1
theorem m_turn {av : Nat → Nat → Int32} {O : Nat → Bool} {p : Nat} {a2 : Int32} (hd : 3 ≤ d) (hu : UP tx u M T E) (hr : RS tx iv av u K Mk F G) (hi : RI u T E av O) (hp : p < 5) :
    ∃ O' av', (∀ q, q < 43 ∨ 50 < q → av' q = av q) ∧ RI u T E av' O' ∧ (∀ r, O r = true → O' r = true) ∧ (∀ q, u p = some q → (∀ x ∈ q.2, x.1 = 17 → O x.2 = true) → O' p = true) ∧ (∀ r, r ≠ p → O' r = O r) ∧
      ∀ x, (∀ o4 o5, xe d xt_101 11 [some (.ref 27), some (.int (nI (msk5 O'))), some (.int a2), some (.int (nI (p + 1))), o4, o5] [] (xs iv av' lv) x) → ∀ o4 o5, xe d xt_101 11 [some (.ref 27), some (.int (nI (msk5 O))), some (.int a2), some (.int (nI p)), o4, o5] [] (xs iv av lv) x := by
  obtain ⟨hec, hMk, hru, hnc, hkl, hml⟩ := hr
  have cp : (nI p).toNatClampNeg = p := nI_clamp (by omega)
  have hb : 0 ≤ (nI p).toInt ∧ (nI p).toInt < ((5 : Nat) : Int) := nI_bd hp (by omega)
  have h37 := hru.1 p hp
  -- not ready
  have no : ∀ x, (∀ o4 o5, xe d xt_101 11 [some (.ref 27), some (.int (nI (msk5 O))), some (.int a2), some (.int (nI (p + 1))), o4, o5] [] (xs iv av lv) x) → ∀ o5, xe d xt_101 104 [some (.ref 27), some (.int (nI (msk5 O))), some (.int a2), some (.int (nI p)), some (.int 0), o5] [] (xs iv av lv) x := fun x hx o5 =>
    xb_101_104 (fun _ => xb_101_120 (by rw [nI_1]; exact hx _ _)) (fun g => absurd rfl g)
  have head : ∀ x (s0 : Int32), (s0 = if u p ≠ none ∧ O p = false then 1 else 0) → xe d xt_101 38 [some (.ref 27), some (.int (nI (msk5 O))), some (.int a2), some (.int (nI p)), none, none] [.int s0] (xs iv av lv) x → ∀ o4 o5, xe d xt_101 11 [some (.ref 27), some (.int (nI (msk5 O))), some (.int a2), some (.int (nI p)), o4, o5] [] (xs iv av lv) x := fun x s0 hs hx o4 o5 => by
    refine xb_101_11 (fun _ => xb_101_16 hb ?_) (fun g => absurd (show nI p < nI 5 from nI_lt hp (by omega)) g)
    rw [cp, h37]
    by_cases hn : u p = none
    · rw [if_neg (fun q => q.1 hn)] at hs
      subst hs
      rw [if_pos hn]
      exact xb_101_22 (fun _ => xb_101_37 hx) (fun g => absurd rfl g)
    · rw [if_neg hn]
      refine xb_101_22 (fun g => absurd g (by decide)) (fun _ => ?_)
      cases hO : O p with
      | true =>
        rw [if_neg (fun q => by rw [hO] at q; cases q.2)] at hs
        subst hs
        refine xb_101_25 (fun g => ?_) (fun _ => xb_101_37 hx)
        rw [msk5_bit hp, if_pos hO] at g
        exact absurd g (by decide)
      | false =>
        rw [if_pos ⟨hn, hO⟩] at hs
        subst hs
        refine xb_101_25 (fun _ => xb_101_33 hx) (fun g => ?_)
        rw [msk5_bit hp, if_neg (by rw [hO]; decide)] at g
        exact absurd rfl g
  by_cases hcand : u p ≠ none ∧ O p = false
  case neg =>
    refine ⟨O, av, fun _ _ => rfl, hi, fun _ h => h, fun q hq _ => ?_, fun _ _ => rfl, fun x hx o4 o5 => head x 0 (by rw [if_neg hcand]) (xb_101_38 hb (xb_101_46 (xb_101_48 (fun _ => no x hx _) (fun g => absurd rfl g)))) o4 o5⟩
    cases hO : O p with
    | true => rfl
    | false => exact absurd ⟨by rw [hq]; simp, hO⟩ hcand
  obtain ⟨hn, hO⟩ := hcand
  obtain ⟨q, hq⟩ : ∃ q, u p = some q := by
    cases h : u p with
    | none => exact absurd h hn
    | some q => exact ⟨q, rfl⟩
  obtain ⟨-, m, ⟨j, hm⟩, e33, e34, hAT, e35, e36, hAM, hgl⟩ := hru.2.1 p q hq
  have hfl := at_len hAT (by rw [List.length_append]; simp)
  rw [List.length_append, sh_len] at hfl
  simp only [List.length_cons, List.length_nil] at hfl
  have hc4 := up_calls hu p q hq
  -- the loop over its instructions
  have chk : ∀ w k, w + k = F p + q.2.length + 1 → F p ≤ k →
      ((∀ j x, k ≤ j → j < F p + q.2.length + 1 → K[j]? = some x → x.1 = 17 → O x.2 = true) ∧ ∀ x, (∀ o5, xe d xt_101 104 [some (.ref 27), some (.int (nI (msk5 O))), some (.int a2), some (.int (nI p)), some (.int 1), o5] [] (xs iv av lv) x) → xe d xt_101 48 [some (.ref 27), some (.int (nI (msk5 O))), some (.int a2), some (.int (nI p)), some (.int 1), some (.int (nI k))] [] (xs iv av lv) x) ∨
      (¬ (∀ j x, k ≤ j → j < F p + q.2.length + 1 → K[j]? = some x → x.1 = 17 → O x.2 = true) ∧ ∀ x, (∀ o5, xe d xt_101 104 [some (.ref 27), some (.int (nI (msk5 O))), some (.int a2), some (.int (nI p)), some (.int 0), o5] [] (xs iv av lv) x) → xe d xt_101 48 [some (.ref 27), some (.int (nI (msk5 O))), some (.int a2), some (.int (nI p)), some (.int 1), some (.int (nI k))] [] (xs iv av lv) x) := by
    intro w
    induction w with
    | zero =>
      intro k hk hk2
      refine Or.inl ⟨fun j x h1 h2 => by omega, fun x hx => xb_101_48 (fun g => absurd g (by decide)) (fun _ => xb_101_53 hb ?_)⟩
      rw [cp, e34]
      exact xb_101_61 (fun g => absurd g (nI_nlt (by omega) (by omega))) (fun _ => hx _)
    | succ w ih =>
      intro k hk hk2
      have hkK : k < K.length := by omega
      obtain ⟨⟨o, a⟩, hx⟩ : ∃ x, K[k]? = some x := ⟨K[k]'hkK, List.getElem?_eq_getElem _⟩
      have hmm := hnc _ (List.mem_of_getElem? hx)
      dsimp only at hmm
      obtain ⟨e29, e30⟩ := hec.2 k o a hx
      have hbk : 0 ≤ (nI k).toInt ∧ (nI k).toInt < ((500 : Nat) : Int) := nI_bd (by omega) (by omega)
      have ck : (nI k).toNatClampNeg = k := nI_clamp (by omega)
      have pre : ∀ x, xe d xt_101 71 [some (.ref 27), some (.int (nI (msk5 O))), some (.int a2), some (.int (nI p)), none, some (.int (nI k))] [.int (nI o)] (xs iv av lv) x → xe d xt_101 48 [some (.ref 27), some (.int (nI (msk5 O))), some (.int a2), some (.int (nI p)), some (.int 1), some (.int (nI k))] [] (xs iv av lv) x := fun x hx => by
        refine xb_101_48 (fun g => absurd g (by decide)) (fun _ => xb_101_53 hb ?_)
        rw [cp, e34]
        refine xb_101_61 (fun _ => xb_101_64 hbk ?_) (fun g => absurd (nI_lt (by omega) (by omega)) g)
        rw [ck, e29]
        exact hx
      by_cases hg : o = 17 → O a = true
      · have good : ∀ x, xe d xt_101 48 [some (.ref 27), some (.int (nI (msk5 O))), some (.int a2), some (.int (nI p)), some (.int 1), some (.int (nI (k + 1)))] [] (xs iv av lv) x → xe d xt_101 48 [some (.ref 27), some (.int (nI (msk5 O))), some (.int a2), some (.int (nI p)), some (.int 1), some (.int (nI k))] [] (xs iv av lv) x := fun x hx => by
          refine pre x (xb_101_71 (fun g => xb_101_76 hbk ?_) (fun _ => xb_101_91 (xb_101_96 (by rw [nI_1]; exact hx))))
          have h17 : o = 17 := (nI_eq (b := 17) (by omega) (by omega)).mp g
          rw [ck, e30]
          refine xb_101_84 (fun _ => xb_101_91 (xb_101_96 (by rw [nI_1]; exact hx))) (fun g => ?_)
          rw [msk5_bit (by have := hmm.2 h17; omega), if_pos (hg h17)] at g
          exact absurd rfl g
        rcases ih (k + 1) (by omega) (by omega) with ⟨p1, p2⟩ | ⟨p1, p2⟩
        · refine Or.inl ⟨fun j x h1 h2 hxj => ?_, fun x hx => good x (p2 x hx)⟩
          by_cases hjk : j = k
          · subst hjk
            rw [hx] at hxj
            cases hxj
            exact hg
          · exact p1 j x (by omega) h2 hxj
        · exact Or.inr ⟨fun q => p1 (fun j x hj => q j x (by omega)), fun x hx => good x (p2 x hx)⟩
      · obtain ⟨h17, hO2⟩ := Classical.not_imp.mp hg
        refine Or.inr ⟨fun q => hO2 (q k (o, a) (Nat.le_refl _) (by omega) hx h17), fun x hx' => pre x (xb_101_71 (fun g => xb_101_76 hbk ?_) (fun g => absurd (by rw [h17]; rfl) g))⟩
        rw [ck, e30]
        refine xb_101_84 (fun g => ?_) (fun _ => xb_101_95 (xb_101_96 (xb_101_48 (fun _ => hx' _) (fun g => absurd rfl g))))
        rw [msk5_bit (by have := hmm.2 h17; omega), if_neg hO2] at g
        exact absurd g (by decide)
  have start : ∀ x, xe d xt_101 48 [some (.ref 27), some (.int (nI (msk5 O))), some (.int a2), some (.int (nI p)), some (.int 1), some (.int (nI (F p)))] [] (xs iv av lv) x → ∀ o4 o5, xe d xt_101 11 [some (.ref 27), some (.int (nI (msk5 O))), some (.int a2), some (.int (nI p)), o4, o5] [] (xs iv av lv) x := fun x hx => head x 1 (by rw [if_pos ⟨hn, hO⟩]) (xb_101_38 hb (by
    rw [cp, e33]
    exact xb_101_46 hx))
  have inK : ∀ x ∈ q.2, x.1 = 17 → ∃ j, F p ≤ j ∧ j < F p + q.2.length + 1 ∧ K[j]? = some x := fun x hx h17 => by
    obtain ⟨i, hi'⟩ := List.mem_iff_getElem?.mp (mem_sh17 (k := F p) hx h17)
    have := (List.getElem?_eq_some_iff.mp hi').1
    rw [sh_len] at this
    exact ⟨F p + i, by omega, by omega, hAT.l i x hi'⟩
  rcases chk (q.2.length + 1) (F p) (by omega) (Nat.le_refl _) with ⟨p1, p2⟩ | ⟨p1, p2⟩
  case inr =>
    refine ⟨O, av, fun _ _ => rfl, hi, fun _ h => h, fun q' hq' hall => ?_, fun _ _ => rfl, fun x hx => start x (p2 x (no x hx))⟩
    rw [hq] at hq'
    cases hq'
    refine absurd (fun j x h1 h2 hx h17 => ?_) p1
    have hx2 : (sh (F p) q.2 ++ [(uo p, 0)])[j - F p]? = some x := by
      have hl : j - F p < (sh (F p) q.2 ++ [(uo p, 0)]).length := by rw [List.length_append, sh_len]; simp only [List.length_cons, List.length_nil]; omega
      have h3 := hAT (j - F p) _ (List.getElem?_eq_getElem hl)
      rw [show F p + (j - F p) = j by omega, hx] at h3
      rw [List.getElem?_eq_getElem hl, ← Option.some.inj h3]
    rcases List.mem_append.mp (List.mem_of_getElem? hx2) with hmem | hmem
    · obtain ⟨y, hy, he⟩ := List.mem_map.mp hmem
      by_cases hj : y.1 = 13 ∨ y.1 = 14 ∨ y.1 = 15
      · rw [if_pos hj] at he
        rw [← he] at h17
        dsimp only at h17
        omega
      · rw [if_neg hj] at he
        subst he
        exact hall _ hy h17
    · rw [List.mem_singleton.mp hmem] at h17
      have := uo_le p
      dsimp only at h17
      omega
  -- reckoned
  have hO4 : ∀ x ∈ q.2, x.1 = 17 → O x.2 = true := fun x hx h17 => by
    obtain ⟨j, h1, h2, h3⟩ := inK x hx h17
    exact p1 j x h1 h2 h3 h17
  have hMp : m = M p := by
    obtain ⟨j2, hj2⟩ := (hu.2 p q hq).2.1
    rw [hm] at hj2
    cases hj2
    rfl
  have hsc := (hu.2 p q hq).2.2.1.1
  have hql := (hu.2 p q hq).2.2.2.1
  have hcalls : ∀ r q, u r = some q → ∀ x ∈ q.2, x.1 = 17 → x.2 < 4 := fun r q hq => up_calls hu r q hq
  have rk4 : ∀ x ∈ q.2, x.1 = 17 → rk u 4 x.2 := fun x hx h17 => by
    obtain ⟨⟨k, hk⟩, -⟩ := hi x.2 (by have := hc4 x hx h17; omega) (hO4 x hx h17)
    exact rk_4 hcalls (hc4 x hx h17) hk
  have ndep : ∀ x ∈ q.2, x.1 = 17 → trD E 5 x.2 ≤ 1000 := fun x hx h17 => dep_le hu 5 x.2 ((hu.2 p q hq).2.2.2.2 x hx h17).2
  have hGG : ∀ x ∈ q.2, x.1 = 17 → av 49 x.2 = nI (min (trT T 5 x.2) 100000) ∧ av 50 x.2 = nI (min (trD E 5 x.2) 2000) := fun x hx h17 => by
    obtain ⟨-, g1, g2⟩ := hi x.2 (by have := hc4 x hx h17; omega) (hO4 x hx h17)
    have := ndep x hx h17
    rw [show min (trD E 5 x.2) 2000 = trD E 5 x.2 by omega]
    exact ⟨g1, g2⟩
  rw [hMp] at hm e36 hAM
  have hmlen : G p + (um p (M p)).length ≤ 1200 := by rw [hMp] at hgl; omega
  obtain ⟨av', f', g49, g50, xr⟩ := m_reckon (D := d) (iv := iv) (lv := lv) (t := fun r => min (trT T 5 r) 100000) (dd := fun r => min (trD E 5 r) 2000) hd hsc (m1_nst hm) hp e35 e36 hAM hmlen hMk (by omega) hGG (fun r => ⟨by omega, by omega⟩)
  have eT : min (T p (fun r => min (trT T 5 r) 100000) + (if p = 4 then 0 else 3)) 100000 = min (trT T 5 p) 100000 := by
    have := sc_ek hsc 100000 (fun r => min (trT T 5 r) 100000) (trT T 4) (fun x hx h17 => by
      rw [(tr_stab hu 4 x.2 (rk4 x hx h17)).1]
      unfold EK
      omega)
    show _ = min (T p (trT T 4) + (if p = 4 then 0 else 3)) 100000
    unfold EK at this
    omega
  have eE : E p (fun r => min (trD E 5 r) 2000) = trD E 5 p := by
    refine sc_D hsc (t' := trD E 4) (fun x hx h17 => ?_)
    have := ndep x hx h17
    rw [show min (trD E 5 x.2) 2000 = trD E 5 x.2 by omega]
    exact (tr_stab hu 4 x.2 (rk4 x hx h17)).2
  rw [eT] at g49
  rw [eE] at g50
  refine ⟨va_up O p true, av', f', fun r hr hOr => ?_, fun r hOr => ?_, fun _ _ _ => by rw [va_up_self], fun r hr => va_up_ne' hr, fun x hx => start x (p2 x (fun o5 => xb_101_104 (fun g => absurd g (by decide)) (fun _ => xb_101_109 xr (xb_101_114 (xb_101_120 ?_)))))⟩
  · rw [g49, g50]
    by_cases hrp : r = p
    · subst hrp
      exact ⟨⟨5, q, hq, rk4⟩, upd_eq', upd_eq'⟩
    · rw [va_up_ne' hrp] at hOr
      rw [upd_ne' hrp, upd_ne' hrp]
      exact hi r hr hOr
  · by_cases hrp : r = p
    · subst hrp; rw [va_up_self]
    · rw [va_up_ne' hrp]; exact hOr
  · rw [nI_1, msk5_or hp]
    exact hx _ _
/-- one round -/
theorem m_round {av : Nat → Nat → Int32} {O : Nat → Bool} {a2 : Int32} (hd : 3 ≤ d) (hu : UP tx u M T E) : ∀ w p av O, w + p = 5 → RS tx iv av u K Mk F G → RI u T E av O →
    ∃ O' av', (∀ q, q < 43 ∨ 50 < q → av' q = av q) ∧ RI u T E av' O' ∧ (∀ r, O r = true → O' r = true) ∧ (∀ r q, p ≤ r → r < 5 → u r = some q → (∀ x ∈ q.2, x.1 = 17 → O x.2 = true) → O' r = true) ∧
      ∀ x, (∀ o3 o4 o5, xe d xt_101 4 [some (.ref 27), some (.int (nI (msk5 O'))), some (.int (a2 + 1)), o3, o4, o5] [] (xs iv av' lv) x) → ∀ o4 o5, xe d xt_101 11 [some (.ref 27), some (.int (nI (msk5 O))), some (.int a2), some (.int (nI p)), o4, o5] [] (xs iv av lv) x := by
  intro w
  induction w with
  | zero =>
    intro p av O hw hr hi
    have : p = 5 := by omega
    subst this
    exact ⟨O, av, fun _ _ => rfl, hi, fun _ h => h, fun r q h1 h2 => by omega, fun x hx o4 o5 => xb_101_11 (fun g => absurd g (by decide)) (fun _ => xb_101_126 (hx _ _ _))⟩
  | succ w ih =>
    intro p av O hw hr hi
    obtain ⟨O1, av1, f1, i1, m1', d1, s1, x1⟩ := m_turn (lv := lv) (a2 := a2) hd hu hr hi (show p < 5 by omega)
    obtain ⟨O2, av2, f2, i2, m2, d2, x2⟩ := ih (p + 1) av1 O1 (by omega) (hr.to rfl (fun q _ _ => f1 q (by omega))) i1
    refine ⟨O2, av2, fun q a => (f2 q a).trans (f1 q a), i2, fun r h => m2 r (m1' r h), fun r q h1 h2 hq hall => ?_, fun x hx => x1 x (x2 x hx)⟩
    by_cases hrp : r = p
    · subst hrp
      exact m2 r (d1 q hq hall)
    · exact d2 r q (by omega) h2 hq (fun y hy h17 => m1' _ (hall y hy h17))
theorem m_rounds (hd : 3 ≤ d) (hu : UP tx u M T E) : ∀ w k av O, w + k = 5 → RS tx iv av u K Mk F G → RI u T E av O → (∀ r, r < 5 → rk u k r → O r = true) →
    ∃ O' av', (∀ q, q < 43 ∨ 50 < q → av' q = av q) ∧ RI u T E av' O' ∧ (∀ r, r < 5 → rk u 5 r → O' r = true) ∧
      ∀ x, (∀ o2 o3 o4 o5, xe d xt_101 132 [some (.ref 27), some (.int (nI (msk5 O'))), o2, o3, o4, o5] [] (xs iv av' lv) x) → ∀ o3 o4 o5, xe d xt_101 4 [some (.ref 27), some (.int (nI (msk5 O))), some (.int (nI k)), o3, o4, o5] [] (xs iv av lv) x := by
  intro w
  induction w with
  | zero =>
    intro k av O hw hr hi hO
    have : k = 5 := by omega
    subst this
    exact ⟨O, av, fun _ _ => rfl, hi, hO, fun x hx o3 o4 o5 => xb_101_4 (fun g => absurd g (by decide)) (fun _ => hx _ _ _ _)⟩
  | succ w ih =>
    intro k av O hw hr hi hO
    obtain ⟨O1, av1, f1, i1, m1', d1, x1⟩ := m_round (lv := lv) (a2 := nI k) (av := av) (O := O) hd hu 5 0 av O rfl hr hi
    obtain ⟨O2, av2, f2, i2, d2, x2⟩ := ih (k + 1) av1 O1 (by omega) (hr.to rfl (fun q _ _ => f1 q (by omega))) i1 (fun r hr5 hrk => by
      obtain ⟨q, hq, hall⟩ := hrk
      exact d1 r q (Nat.zero_le _) hr5 hq (fun x hx h17 => hO x.2 (by have := up_calls hu r q hq x hx h17; omega) (hall x hx h17)))
    refine ⟨O2, av2, fun q a => (f2 q a).trans (f1 q a), i2, d2, fun x hx o3 o4 o5 => xb_101_4 (fun _ => xb_101_9 (x1 x (fun o3 o4 o5 => ?_) _ _)) (fun g => absurd (show nI k < nI 5 from nI_lt (by omega) (by omega)) g)⟩
    rw [nI_1]
    exact x2 x hx _ _ _
theorem m_reckonAll {av : Nat → Nat → Int32} (hD : 4 ≤ D) (hu : UP tx u M T E) (hr : RS tx iv av u K Mk F G) :
    ∃ av', (∀ q, q < 43 ∨ 50 < q → av' q = av q) ∧ ((PLN u ∧ (∀ p, p < 5 → u p ≠ none → av' 49 p = nI (min (trT T 5 p) 100000) ∧ av' 50 p = nI (trD E 5 p)) ∧ xm D 101 [.ref 27] (xs iv av lv) (some (.int 1), xs iv av' lv)) ∨ (¬ PLN u ∧ xm D 101 [.ref 27] (xs iv av lv) (some (.int 0), xs iv av' lv))) := by
  obtain ⟨d, rfl⟩ : ∃ d, D = d + 1 := ⟨D - 1, by omega⟩
  obtain ⟨O, av1, f1, i1, d1, x1⟩ := m_rounds (d := d) (lv := lv) (by omega) hu 5 0 av (fun _ => false) rfl hr (fun p _ h => by cases h) (fun r _ h => h.elim)
  refine ⟨av1, f1, ?_⟩
  have go : ∀ x, (∀ o4 o5, xe d xt_101 136 [some (.ref 27), some (.int (nI (msk5 O))), some (.int 1), some (.int (nI 0)), o4, o5] [] (xs iv av1 lv) x) → xm (d + 1) 101 [.ref 27] (xs iv av lv) x := fun x hx => xm_of (nL := 6) rfl rfl (xb_101_0 (x1 x (fun o2 o3 o4 o5 => xb_101_132 (hx _ _)) _ _ _))
  have h37 : ∀ p, p < 5 → av1 37 p = if u p = none then 0 else 1 := fun p hp => by rw [f1 37 (by omega)]; exact hr.2.2.1.1 p hp
  have fin0 : ∀ w k, w + k = 5 → ∀ o4 o5, xe d xt_101 136 [some (.ref 27), some (.int (nI (msk5 O))), some (.int 0), some (.int (nI k)), o4, o5] [] (xs iv av1 lv) (some (.int 0), xs iv av1 lv) := by
    intro w
    induction w with
    | zero =>
      intro k hk o4 o5
      have : k = 5 := by omega
      subst this
      exact xb_101_136 (fun g => absurd g (by decide)) (fun _ => xb_101_175 (Or.inl rfl))
    | succ w ih =>
      intro k hk o4 o5
      refine xb_101_136 (fun _ => xb_101_141 (fun _ => xb_101_167 (xb_101_168 ?_)) (fun g => absurd rfl g)) (fun g => absurd (show nI k < nI 5 from nI_lt (by omega) (by omega)) g)
      rw [nI_1]
      exact ih (k + 1) (by omega) _ _
  have fin1 : ∀ w k, w + k = 5 → ((∀ p, k ≤ p → p < 5 → u p ≠ none → O p = true) ∧ ∀ o4 o5, xe d xt_101 136 [some (.ref 27), some (.int (nI (msk5 O))), some (.int 1), some (.int (nI k)), o4, o5] [] (xs iv av1 lv) (some (.int 1), xs iv av1 lv)) ∨ (¬ (∀ p, k ≤ p → p < 5 → u p ≠ none → O p = true) ∧ ∀ o4 o5, xe d xt_101 136 [some (.ref 27), some (.int (nI (msk5 O))), some (.int 1), some (.int (nI k)), o4, o5] [] (xs iv av1 lv) (some (.int 0), xs iv av1 lv)) := by
    intro w
    induction w with
    | zero =>
      intro k hk
      have : k = 5 := by omega
      subst this
      exact Or.inl ⟨fun p h1 h2 => by omega, fun o4 o5 => xb_101_136 (fun g => absurd g (by decide)) (fun _ => xb_101_175 (Or.inr rfl))⟩
    | succ w ih =>
      intro k hk
      have ck : (nI k).toNatClampNeg = k := nI_clamp (by omega)
      have hb : 0 ≤ (nI k).toInt ∧ (nI k).toInt < ((5 : Nat) : Int) := nI_bd (by omega) (by omega)
      have pre : ∀ x, xe d xt_101 151 [some (.ref 27), some (.int (nI (msk5 O))), none, some (.int (nI k)), none, none] [.int (if u k = none then 0 else 1)] (xs iv av1 lv) x → ∀ o4 o5, xe d xt_101 136 [some (.ref 27), some (.int (nI (msk5 O))), some (.int 1), some (.int (nI k)), o4, o5] [] (xs iv av1 lv) x := fun x hx o4 o5 => by
        refine xb_101_136 (fun _ => xb_101_141 (fun g => absurd g (by decide)) (fun _ => xb_101_145 hb ?_)) (fun g => absurd (show nI k < nI 5 from nI_lt (by omega) (by omega)) g)
        rw [ck, h37 k (by omega)]
        exact hx
      by_cases hg : u k ≠ none → O k = true
      · have good : ∀ x, (∀ o4 o5, xe d xt_101 136 [some (.ref 27), some (.int (nI (msk5 O))), some (.int 1), some (.int (nI (k + 1))), o4, o5] [] (xs iv av1 lv) x) → ∀ o4 o5, xe d xt_101 136 [some (.ref 27), some (.int (nI (msk5 O))), some (.int 1), some (.int (nI k)), o4, o5] [] (xs iv av1 lv) x := fun x hx => pre x (by
          by_cases hn : u k = none
          · rw [if_pos hn]
            exact xb_101_151 (fun _ => xb_101_163 (xb_101_168 (by rw [nI_1]; exact hx _ _))) (fun g => absurd rfl g)
          · rw [if_neg hn]
            refine xb_101_151 (fun g => absurd g (by decide)) (fun _ => xb_101_154 (fun _ => xb_101_163 (xb_101_168 (by rw [nI_1]; exact hx _ _))) (fun g => ?_))
            rw [msk5_bit (by omega), if_pos (hg hn)] at g
            exact absurd rfl g)
        rcases ih (k + 1) (by omega) with ⟨p1, p2⟩ | ⟨p1, p2⟩
        · refine Or.inl ⟨fun p h1 h2 hn => ?_, good _ p2⟩
          by_cases hpk : p = k
          · subst hpk; exact hg hn
          · exact p1 p (by omega) h2 hn
        · exact Or.inr ⟨fun q => p1 (fun p h1 => q p (by omega)), good _ p2⟩
      · obtain ⟨hn, hO⟩ := Classical.not_imp.mp hg
        refine Or.inr ⟨fun q => hO (q k (Nat.le_refl _) (by omega) hn), pre _ ?_⟩
        rw [if_neg hn]
        refine xb_101_151 (fun g => absurd g (by decide)) (fun _ => xb_101_154 (fun g => ?_) (fun _ => xb_101_167 (xb_101_168 (by rw [nI_1]; exact fin0 w (k + 1) (by omega) _ _))))
        rw [msk5_bit (by omega), if_neg hO] at g
        exact absurd g (by decide)
  have hcalls : ∀ r q, u r = some q → ∀ x ∈ q.2, x.1 = 17 → x.2 < 4 := fun r q hq => up_calls hu r q hq
  have all_iff : (∀ p, 0 ≤ p → p < 5 → u p ≠ none → O p = true) ↔ PLN u := by
    constructor
    · intro h p hp hn
      obtain ⟨⟨m, hm⟩, -⟩ := i1 p (by omega) (h p (Nat.zero_le _) (by omega) hn)
      exact rk_4 hcalls hp hm
    · intro h p _ hp hn
      refine d1 p hp ?_
      by_cases h4 : p = 4
      · subst h4
        cases hq : u 4 with
        | none => exact absurd hq hn
        | some q =>
          refine ⟨q, hq, fun x hx h17 => ?_⟩
          have := (hu.2 4 q hq).2.2.2.2 x hx h17
          exact h x.2 this.1 this.2
      · exact rk_le (h p (by omega) hn) (by omega)
  rcases fin1 5 0 rfl with ⟨p1, p2⟩ | ⟨p1, p2⟩
  · exact Or.inl ⟨all_iff.mp p1, fun p hp hn => (i1 p hp (p1 p (Nat.zero_le _) hp hn)).2, go _ p2⟩
  · exact Or.inr ⟨fun q => p1 (all_iff.mpr q), go _ p2⟩
theorem m_isShort {av : Nat → Nat → Int32} (hD : 1 ≤ D) (hr : RS tx iv av u K Mk F G) (hv : ∀ p, p < 5 → u p ≠ none → av 49 p = nI (min (trT T 5 p) 100000)) :
    (((uPart u 4).length ≤ 200 ∧ SHT u T) ∧ xm D 102 [.ref 27] (xs iv av lv) (some (.int 1), xs iv av lv)) ∨ (¬ ((uPart u 4).length ≤ 200 ∧ SHT u T) ∧ xm D 102 [.ref 27] (xs iv av lv) (some (.int 0), xs iv av lv)) := by
  obtain ⟨d, rfl⟩ : ∃ d, D = d + 1 := ⟨D - 1, by omega⟩
  obtain ⟨hec, hMk, hru, hnc, hkl, hml⟩ := hr
  have h14 : iv 14 = nI (uPart u 4).length := by rw [hec.1, hru.2.2.2.1]
  have hul : (uPart u 4).length ≤ 400 := by rw [← hru.2.2.2.1]; exact hkl
  have fin0 : ∀ w k, w + k = 5 → xe d xt_102 18 [some (.ref 27), some (.int 0), some (.int (nI k))] [] (xs iv av lv) (some (.int 0), xs iv av lv) := by
    intro w
    induction w with
    | zero =>
      intro k hk
      have : k = 5 := by omega
      subst this
      exact xb_102_18 (fun g => absurd g (by decide)) (fun _ => xb_102_60 (Or.inl rfl))
    | succ w ih =>
      intro k hk
      refine xb_102_18 (fun _ => xb_102_23 (fun _ => xb_102_52 (xb_102_53 ?_)) (fun g => absurd rfl g)) (fun g => absurd (show nI k < nI 5 from nI_lt (by omega) (by omega)) g)
      rw [nI_1]
      exact ih (k + 1) (by omega)
  have fin1 : ∀ w k, w + k = 5 → ((∀ p, k ≤ p → p < 5 → u p ≠ none → trT T 5 p ≤ 20000) ∧ xe d xt_102 18 [some (.ref 27), some (.int 1), some (.int (nI k))] [] (xs iv av lv) (some (.int 1), xs iv av lv)) ∨ (¬ (∀ p, k ≤ p → p < 5 → u p ≠ none → trT T 5 p ≤ 20000) ∧ xe d xt_102 18 [some (.ref 27), some (.int 1), some (.int (nI k))] [] (xs iv av lv) (some (.int 0), xs iv av lv)) := by
    intro w
    induction w with
    | zero =>
      intro k hk
      have : k = 5 := by omega
      subst this
      exact Or.inl ⟨fun p h1 h2 => by omega, xb_102_18 (fun g => absurd g (by decide)) (fun _ => xb_102_60 (Or.inr rfl))⟩
    | succ w ih =>
      intro k hk
      have ck : (nI k).toNatClampNeg = k := nI_clamp (by omega)
      have hb : 0 ≤ (nI k).toInt ∧ (nI k).toInt < ((5 : Nat) : Int) := nI_bd (by omega) (by omega)
      have pre : ∀ x, xe d xt_102 33 [some (.ref 27), none, some (.int (nI k))] [.int (if u k = none then 0 else 1)] (xs iv av lv) x → xe d xt_102 18 [some (.ref 27), some (.int 1), some (.int (nI k))] [] (xs iv av lv) x := fun x hx => by
        refine xb_102_18 (fun _ => xb_102_23 (fun g => absurd g (by decide)) (fun _ => xb_102_27 hb ?_)) (fun g => absurd (show nI k < nI 5 from nI_lt (by omega) (by omega)) g)
        rw [ck, hru.1 k (by omega)]
        exact hx
      have pre2 : u k ≠ none → ∀ x, xe d xt_102 42 [some (.ref 27), none, some (.int (nI k))] [.int (nI (min (trT T 5 k) 100000))] (xs iv av lv) x → xe d xt_102 18 [some (.ref 27), some (.int 1), some (.int (nI k))] [] (xs iv av lv) x := fun hn x hx => pre x (by
        rw [if_neg hn]
        refine xb_102_33 (fun g => absurd g (by decide)) (fun _ => xb_102_36 hb ?_)
        rw [ck, hv k (by omega) hn]
        exact hx)
      by_cases hg : u k ≠ none → trT T 5 k ≤ 20000
      · have good : ∀ x, xe d xt_102 18 [some (.ref 27), some (.int 1), some (.int (nI (k + 1)))] [] (xs iv av lv) x → xe d xt_102 18 [some (.ref 27), some (.int 1), some (.int (nI k))] [] (xs iv av lv) x := fun x hx => by
          by_cases hn : u k = none
          · refine pre x ?_
            rw [if_pos hn]
            exact xb_102_33 (fun _ => xb_102_48 (xb_102_53 (by rw [nI_1]; exact hx))) (fun g => absurd rfl g)
          · refine pre2 hn x (xb_102_42 (fun g => ?_) (fun _ => xb_102_48 (xb_102_53 (by rw [nI_1]; exact hx))))
            have a1 := (nI_ltI (a := 20000) (by omega) (by omega)).mp g
            have a2 := hg hn
            omega
        rcases ih (k + 1) (by omega) with ⟨p1, p2⟩ | ⟨p1, p2⟩
        · refine Or.inl ⟨fun p h1 h2 hn => ?_, good _ p2⟩
          by_cases hpk : p = k
          · subst hpk; exact hg hn
          · exact p1 p (by omega) h2 hn
        · exact Or.inr ⟨fun q => p1 (fun p h1 => q p (by omega)), good _ p2⟩
      · obtain ⟨hn, hO⟩ := Classical.not_imp.mp hg
        refine Or.inr ⟨fun q => hO (q k (Nat.le_refl _) (by omega) hn), pre2 hn _ (xb_102_42 (fun _ => xb_102_52 (xb_102_53 (by rw [nI_1]; exact fin0 w (k + 1) (by omega)))) (fun g => ?_))⟩
        exact absurd ((nI_ltI (a := 20000) (by omega) (by omega)).mpr (by omega)) g
  by_cases h200 : (uPart u 4).length ≤ 200
  · have go : ∀ x, xe d xt_102 18 [some (.ref 27), some (.int 1), some (.int (nI 0))] [] (xs iv av lv) x → xm (d + 1) 102 [.ref 27] (xs iv av lv) x := fun x hx => xm_of (nL := 3) rfl rfl (xb_102_0 (fun g => by
      rw [h14] at g
      have := (nI_ltI (a := 200) (by omega) (by omega)).mp g
      omega) (fun _ => xb_102_10 (xb_102_15 hx)))
    rcases fin1 5 0 rfl with ⟨p1, p2⟩ | ⟨p1, p2⟩
    · exact Or.inl ⟨⟨h200, fun p hp hn => p1 p (Nat.zero_le _) hp hn⟩, go _ p2⟩
    · exact Or.inr ⟨fun q => p1 (fun p _ hp hn => q.2 p hp hn), go _ p2⟩
  · refine Or.inr ⟨fun q => h200 q.1, xm_of (nL := 3) rfl rfl (xb_102_0 (fun _ => xb_102_14 (xb_102_15 (fin0 5 0 rfl))) (fun g => ?_))⟩
    rw [h14] at g
    exact absurd ((nI_ltI (a := 200) (by omega) (by omega)).mpr (by omega)) g
end MRA
