/-! The class's second pass: the code of a program, units one behind another: the last block, then A to D. -/
/-- the code that a unit's block begins at i has, with its ending -/
def uCode (u : UN) (p : Nat) : List In := match u p with
  | some q => q.2 ++ [(if p = 4 then 19 else 18, 0)]
  | none => []
/-- the code up to procedure k: the last block's first; jumps from the program's first instruction, calls still by their procedure's number -/
def uPart (u : UN) : Nat → List In
  | 0 => uCode u 4
  | p + 1 => uPart u p ++ sh (uPart u p).length (uCode u p)
/-- where unit p's first instruction is -/
def uAt (u : UN) (p : Nat) : Nat := if p = 4 then 0 else (uPart u p).length
def PH (iv : Nat → Int32) (av : Nat → Nat → Int32) (iv' : Nat → Int32) (av' : Nat → Nat → Int32) : Prop := (∀ q, q ≠ 1 → q ≠ 2 → iv' q = iv q) ∧ ∀ q, q < 5 ∨ 12 < q ∨ q = 11 ∨ q = 9 ∨ q = 10 → av' q = av q
theorem PH.tr {iv iv1 iv2 : Nat → Int32} {av av1 av2 : Nat → Nat → Int32} (h : PH iv av iv1 av1) (g : PH iv1 av1 iv2 av2) : PH iv av iv2 av2 := ⟨fun q a b => (g.1 q a b).trans (h.1 q a b), fun q a => (g.2 q a).trans (h.2 q a)⟩
theorem PH.rf {iv : Nat → Int32} {av : Nat → Nat → Int32} : PH iv av iv av := ⟨fun _ _ _ => rfl, fun _ _ => rfl⟩
theorem PF.ph {iv iv1 : Nat → Int32} {av av1 : Nat → Nat → Int32} (h : PF iv av iv1 av1) : PH iv av iv1 av1 := ⟨h.1, fun q a => h.2 q (by omega) (by omega) (by omega)⟩
section WRC
variable {D e : Nat} {n : Nat} {tx : Nat → Nat}
theorem c_writeUnit {iv : Nat → Int32} {av : Nat → Nat → Int32} {lv : Nat → Nat → Int64} {p i0 j o : Nat} {c C : List In} {K : Nat → Bool} (hT : TX iv av n tx) (hD : 61 ≤ D) (hp : p < 5) (hi0 : i0 ≤ 200) (hb : av 11 p = nI i0) (hc : p1 tx i0 = some (j, c)) (hdr : DR iv av C) (hK : CA av K) (hC : C.length < 1000) (ho : o = 18 ∨ o = 19) :
    ∃ iv' av' K', PH iv av iv' av' ∧ xm D 18 [.ref 1, .int (nI p), .int (nI o)] (xs iv av lv) (none, xs iv' av' lv) ∧ TX iv' av' n tx ∧ DR iv' av' (C ++ sh C.length (c ++ [(o, 0)])) ∧ CA av' K' ∧ av' 7 = upd (av 7) p (nI C.length) ∧ av' 8 = upd (av 8) p (nI (C.length + c.length)) := by
  obtain ⟨e, rfl⟩ : ∃ e, D = e + 1 := ⟨D - 1, by omega⟩
  have hbd : 0 ≤ (nI p).toInt ∧ (nI p).toInt < ((5 : Nat) : Int) := nI_bd (by omega) (by omega)
  have ep : (nI p).toNatClampNeg = p := nI_clamp (by omega)
  have s1 : PS n tx (upd iv 1 (nI i0)) (va_up av 7 (upd (av 7) p (nI C.length))) i0 C K := ⟨hT.to rfl rfl, rfl, hi0, ⟨hdr.1, hdr.2⟩, hK⟩
  have f1 : PH iv av (upd iv 1 (nI i0)) (va_up av 7 (upd (av 7) p (nI C.length))) := ⟨fun q a _ => upd_ne' a, fun q a => va_up_ne' (by omega)⟩
  obtain ⟨iv2, av2, f2, h⟩ := c_p1 (D := e) hT (by omega) _ _ lv i0 C K s1 (by omega)
  rcases h with ⟨j2, c2, e2, x2, s2⟩ | ⟨e2, x2⟩
  case inr => rw [hc] at e2; cases e2
  rw [hc] at e2
  cases e2
  have g2 := p1_len hT _ _ _ hc
  have hn := hT.2.1
  obtain ⟨iv3, av3, f3, x3, s3⟩ := c_add (lv := lv) (o := o) (a := 0) (D := e) (by omega) s2 (by rw [List.length_append, sh_len]; omega)
  have e8 : av3 8 = av 8 := by
    rw [f3.2 8 (by decide) (by decide) (by decide), f2.2 8 (by decide) (by decide) (by decide)]
    rfl
  have e7 : av3 7 = upd (av 7) p (nI C.length) := by
    rw [f3.2 7 (by decide) (by decide) (by decide), f2.2 7 (by decide) (by decide) (by decide)]
    rfl
  refine ⟨iv3, va_up av3 8 (upd (av3 8) p (nI (C ++ sh C.length c).length)), kc K c, (f1.tr (f2.ph.tr f3.ph)).tr ⟨fun _ _ _ => rfl, fun q a => va_up_ne' (by omega)⟩, ?_, s3.1.to rfl rfl, ?_, s3.2.2.2.2, ?_, ?_⟩
  · refine xm_of (nL := 3) rfl rfl (xb_18_0 hbd ?_)
    rw [ep, hb]
    refine xb_18_10 hbd ?_
    rw [ep, hdr.1]
    refine xb_18_29 x2 (xb_18_34 x3 (xb_18_52 hbd ?_))
    rw [ep]
    exact xb_18_53
  · have e1 : C ++ sh C.length (c ++ [(o, 0)]) = C ++ sh C.length c ++ [(o, 0)] := by
      have ho' : ¬ (o = 13 ∨ o = 14 ∨ o = 15) := by omega
      rw [sh_app, ← List.append_assoc]
      simp [sh, ho']
    rw [e1]
    exact ⟨s3.2.2.2.1.1, s3.2.2.2.1.2⟩
  · show av3 7 = _
    exact e7
  · show upd (av3 8) p (nI (C ++ sh C.length c).length) = _
    rw [e8, List.length_append, sh_len]
/-- calls by their procedure's first instruction -/
def lk1 (f : Nat → Nat) (q : In) : In := if q.1 = 17 ∧ q.2 < 4 then (17, f q.2) else q
def lk (f : Nat → Nat) (c : List In) : List In := c.map (lk1 f)
theorem lk_len (f : Nat → Nat) (c : List In) : (lk f c).length = c.length := by unfold lk; rw [List.length_map]
theorem c_linkCalls {iv : Nat → Int32} {av : Nat → Nat → Int32} {lv : Nat → Nat → Int64} {C : List In} {f : Nat → Nat} (hD : 1 ≤ D) (hdr : DR iv av C) (hC : C.length < 2 ^ 20) (hb : ∀ q ∈ C, q.1 < 2 ^ 20 ∧ q.2 < 2 ^ 20) (hf : ∀ q ∈ C, q.1 = 17 → q.2 < 4 → av 7 q.2 = nI (f q.2)) :
    ∃ av', (∀ q, q ≠ 6 → av' q = av q) ∧ xm D 46 [.ref 4] (xs iv av lv) (none, xs iv av' lv) ∧ DR iv av' (lk f C) := by
  obtain ⟨d, rfl⟩ : ∃ d, D = d + 1 := ⟨D - 1, by omega⟩
  have loop : ∀ m k av1, m + k = 200 → (∀ q, q ≠ 6 → av1 q = av q) → (∀ j o a, C[j]? = some (o, a) → j < 200 → av1 6 j = if j < k then nI (lk1 f (o, a)).2 else nI a) →
      ∃ av2, (∀ q, q ≠ 6 → av2 q = av q) ∧ (∀ j o a, C[j]? = some (o, a) → j < 200 → av2 6 j = nI (lk1 f (o, a)).2) ∧ ∀ o2, xe d xt_46 2 [some (.ref 4), some (.int (nI k)), o2] [] (xs iv av1 lv) (none, xs iv av2 lv) := by
    intro m
    induction m with
    | zero =>
      intro k av1 hk h1 h2
      have : k = 200 := by omega
      subst this
      refine ⟨av1, h1, fun j o a hj hj2 => by rw [h2 j o a hj hj2, if_pos hj2], fun o2 => xb_46_2 (fun _ => xb_46_10 (fun h => absurd h (by decide)) (fun _ => xb_46_62)) (fun _ => xb_46_62)⟩
    | succ m ih =>
      intro k av1 hk h1 h2
      have hk200 : nI k < (200 : Int32) := show nI k < nI 200 from nI_lt (by omega) (by omega)
      by_cases hkl : k < C.length
      · obtain ⟨⟨o, a⟩, hoa⟩ : ∃ q, C[k]? = some q := ⟨C[k], List.getElem?_eq_getElem hkl⟩
        have hmem := List.mem_of_getElem? hoa
        obtain ⟨b1, b2⟩ := hb _ hmem
        dsimp only at b1 b2
        have e5 : av1 5 k = nI o := by rw [h1 5 (by decide)]; exact (hdr.2 k o a hoa (by omega)).1
        have e6 : av1 6 k = nI a := by rw [h2 k o a hoa (by omega), if_neg (by omega)]
        have ek : (nI k).toNatClampNeg = k := nI_clamp (by omega)
        have hbd : 0 ≤ (nI k).toInt ∧ (nI k).toInt < ((200 : Nat) : Int) := nI_bd (by omega) (by omega)
        have hsz : nI k < iv 2 := by rw [hdr.1]; exact nI_lt hkl (by omega)
        -- what comes behind, whatever was written
        have go : ∀ av2, (∀ q, q ≠ 6 → av2 q = av q) → (∀ j, j ≠ k → av2 6 j = av1 6 j) → av2 6 k = nI (lk1 f (o, a)).2 → (∀ x, (∀ o1, xe d xt_46 2 [some (.ref 4), some (.int (nI (k + 1))), o1] [] (xs iv av2 lv) x) → ∀ o2, xe d xt_46 2 [some (.ref 4), some (.int (nI k)), o2] [] (xs iv av1 lv) x) → ∃ av2, (∀ q, q ≠ 6 → av2 q = av q) ∧ (∀ j o a, C[j]? = some (o, a) → j < 200 → av2 6 j = nI (lk1 f (o, a)).2) ∧ ∀ o2, xe d xt_46 2 [some (.ref 4), some (.int (nI k)), o2] [] (xs iv av1 lv) (none, xs iv av2 lv) := by
          intro av2 g1 g2 g3 g4
          obtain ⟨av3, k1, k2, k3⟩ := ih (k + 1) av2 (by omega) g1 (fun j o' a' hj hj2 => by
            by_cases hjk : j = k
            · subst hjk
              rw [hoa] at hj
              cases hj
              rw [if_pos (by omega)]
              exact g3
            · rw [g2 j hjk, h2 j o' a' hj hj2]
              by_cases hlt : j < k
              · rw [if_pos hlt, if_pos (by omega)]
              · rw [if_neg hlt, if_neg (by omega)])
          exact ⟨av3, k1, k2, g4 _ k3⟩
        by_cases hcall : o = 17 ∧ a < 4
        · obtain ⟨rfl, ha⟩ := hcall
          have e7 : av1 7 a = nI (f a) := by rw [h1 7 (by decide)]; exact hf _ hmem rfl ha
          refine go (va_up av1 6 (upd (av1 6) k (nI (f a)))) (fun q hq => by rw [va_up_ne' hq]; exact h1 q hq) (fun j hj => upd_ne' (f := av1 6) hj) ?_ (fun x hx o2 => ?_)
          · show upd (av1 6) k (nI (f a)) k = _
            rw [upd_eq']
            unfold lk1
            rw [if_pos ⟨rfl, ha⟩]
          · refine xb_46_2 (fun _ => xb_46_10 (fun _ => xb_46_17 hbd ?_) (fun h => absurd hk200 h)) (fun h => absurd hsz h)
            rw [ek, e6]
            refine xb_46_23 hbd ?_
            rw [ek, e5]
            refine xb_46_30 (fun _ => xb_46_35 (fun h => absurd h (nI_pos (by omega))) (fun _ => xb_46_39 (fun _ => xb_46_44 (nI_bd (by omega) (by omega)) ?_) (fun h => absurd (show nI a < nI 4 from nI_lt ha (by omega)) h))) (fun h => absurd rfl h)
            rw [nI_clamp (by omega), e7]
            refine xb_46_55 hbd (xb_46_56 ?_)
            rw [ek, nI_1]
            exact hx _
        · refine go av1 h1 (fun _ _ => rfl) ?_ (fun x hx o2 => ?_)
          · rw [e6]
            unfold lk1
            rw [if_neg hcall]
          · refine xb_46_2 (fun _ => xb_46_10 (fun _ => xb_46_17 hbd ?_) (fun h => absurd hk200 h)) (fun h => absurd hsz h)
            rw [ek, e6]
            refine xb_46_23 hbd ?_
            rw [ek, e5]
            have nx : ∀ o1, xe d xt_46 56 [some (.ref 4), some (.int (nI k)), o1] [] (xs iv av1 lv) x := fun o1 => xb_46_56 (by rw [nI_1]; exact hx _)
            refine xb_46_30 (fun h => xb_46_35 (fun _ => nx _) (fun _ => xb_46_39 (fun h4 => ?_) (fun _ => nx _))) (fun _ => nx _)
            have h17 := (nI_eq (b := 17) (by omega) (by omega)).mp h
            have h4' := (nI_ltI (b := 4) (by omega) (by omega)).mp h4
            exact absurd ⟨h17, h4'⟩ hcall
      · refine ⟨av1, h1, fun j o a hj hj2 => ?_, fun o2 => xb_46_2 (fun h => absurd h (by rw [hdr.1]; exact nI_nlt (by omega) (by omega))) (fun _ => xb_46_62)⟩
        have := (List.getElem?_eq_some_iff.mp hj).1
        rw [h2 j o a hj hj2, if_pos (by omega)]
  obtain ⟨av2, h1, h2, x2⟩ := loop 200 0 av rfl (fun _ _ => rfl) (fun j o a hj hj2 => by rw [if_neg (by omega)]; exact (hdr.2 j o a hj hj2).2)
  refine ⟨av2, h1, xm_of (nL := 3) rfl rfl (xb_46_0 (x2 none)), by rw [lk_len]; exact hdr.1, fun j o a hj hj2 => ?_⟩
  unfold lk at hj
  rw [List.getElem?_map] at hj
  obtain ⟨⟨o', a'⟩, hq, hq2⟩ := Option.map_eq_some_iff.mp hj
  have e1 : o' = o := by
    unfold lk1 at hq2
    split at hq2
    · rename_i h
      cases hq2
      exact h.1
    · cases hq2; rfl
  have e2 : (lk1 f (o', a')).2 = a := by rw [hq2]
  rw [h1 5 (by decide), h2 j o' a' hq hj2, e2, ← e1]
  exact ⟨(hdr.2 j o' a' hq hj2).1, rfl⟩
end WRC
