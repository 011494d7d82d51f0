/-! The class's second pass: the code of a program, units one behind another: the last block, then A to D. -/
/-- the code that a unit's block begins at i has, with its ending -/
def uCode (u : UN) (p : Nat) : List In := match u p with
  | some q => q.2 ++ [(if p = 4 then 19 else 18, 0)]
  | none => []
/-- where unit p's first instruction is: 4 (the last block) first, then 0 .. 3 -/
def uFirst (u : UN) : Nat → Nat
  | 0 => (uCode u 4).length
  | p + 1 => uFirst u p + (uCode u p).length
def uAt (u : UN) (p : Nat) : Nat := if p = 4 then 0 else uFirst u p
/-- all of it, jumps from the program's first instruction, calls still by their procedure's number -/
def uAll (u : UN) : List In := sh 0 (uCode u 4) ++ (sh (uFirst u 0) (uCode u 0) ++ (sh (uFirst u 1) (uCode u 1) ++ (sh (uFirst u 2) (uCode u 2) ++ sh (uFirst u 3) (uCode u 3))))
def PH (iv : Nat → Int32) (av : Nat → Nat → Int32) (iv' : Nat → Int32) (av' : Nat → Nat → Int32) : Prop := (∀ q, q ≠ 1 → q ≠ 2 → iv' q = iv q) ∧ ∀ q, q < 5 ∨ 12 < q ∨ q = 11 ∨ q = 9 ∨ q = 10 → av' q = av q
theorem PH.tr {iv iv1 iv2 : Nat → Int32} {av av1 av2 : Nat → Nat → Int32} (h : PH iv av iv1 av1) (g : PH iv1 av1 iv2 av2) : PH iv av iv2 av2 := ⟨fun q a b => (g.1 q a b).trans (h.1 q a b), fun q a => (g.2 q a).trans (h.2 q a)⟩
theorem PH.rf {iv : Nat → Int32} {av : Nat → Nat → Int32} : PH iv av iv av := ⟨fun _ _ _ => rfl, fun _ _ => rfl⟩
theorem PF.ph {iv iv1 : Nat → Int32} {av av1 : Nat → Nat → Int32} (h : PF iv av iv1 av1) : PH iv av iv1 av1 := ⟨h.1, fun q a => h.2 q (by omega) (by omega) (by omega)⟩
section WRC
variable {D e : Nat} {n : Nat} {tx : Nat → Nat}
theorem c_writeUnit {iv : Nat → Int32} {av : Nat → Nat → Int32} {lv : Nat → Nat → Int64} {p i0 j o : Nat} {c C : List In} {K : Nat → Bool} (hT : TX iv av n tx) (hD : 61 ≤ D) (hp : p < 5) (hi0 : i0 ≤ 200) (hb : av 11 p = nI i0) (hc : p1 tx i0 = some (j, c)) (hdr : DR iv av C) (hK : CA av K) (hC : C.length < 1000) (ho : o = 18 ∨ o = 19) :
    ∃ iv' av' K', PH iv av iv' av' ∧ xm D 18 [.ref 1, .int (nI p), .int (nI o)] (xs iv av lv) (none, xs iv' av' lv) ∧ TX iv' av' n tx ∧ DR iv' av' (C ++ sh C.length (c ++ [(o, 0)])) ∧ CA av' K' ∧ av' 7 = upd (av 7) p (nI C.length) ∧ av' 8 = upd (av 8) p (nI (C.length + c.length)) := by
  obtain ⟨e, rfl⟩ : ∃ e, D = e + 1 := ⟨D - 1, by omega⟩
  have hbd : 0 ≤ (nI p).toInt ∧ (nI p).toInt < ((5 : Nat) : Int) := nI_bd (by omega) (by omega)
  have ep : (nI p).toNatClampNeg = p := nI_clamp (by omega)
  have s1 : PS n tx (upd iv 1 (nI i0)) (va_up av 7 (upd (av 7) p (nI C.length))) i0 C K := ⟨hT.to rfl rfl, rfl, hi0, ⟨hdr.1, hdr.2⟩, hK⟩
  have f1 : PH iv av (upd iv 1 (nI i0)) (va_up av 7 (upd (av 7) p (nI C.length))) := ⟨fun q a _ => upd_ne' a, fun q a => va_up_ne' (by omega)⟩
  obtain ⟨iv2, av2, f2, h⟩ := c_p1 (D := e) hT (by omega) _ _ lv i0 C K s1 (by omega)
  rcases h with ⟨j2, c2, e2, x2, s2⟩ | ⟨e2, x2⟩
  case inr => rw [hc] at e2; cases e2
  rw [hc] at e2
  cases e2
  have g2 := p1_len hT _ _ _ hc
  have hn := hT.2.1
  obtain ⟨iv3, av3, f3, x3, s3⟩ := c_add (lv := lv) (o := o) (a := 0) (D := e) (by omega) s2 (by rw [List.length_append, sh_len]; omega)
  have e8 : av3 8 = av 8 := by
    rw [f3.2 8 (by decide) (by decide) (by decide), f2.2 8 (by decide) (by decide) (by decide)]
    rfl
  have e7 : av3 7 = upd (av 7) p (nI C.length) := by
    rw [f3.2 7 (by decide) (by decide) (by decide), f2.2 7 (by decide) (by decide) (by decide)]
    rfl
  refine ⟨iv3, va_up av3 8 (upd (av3 8) p (nI (C ++ sh C.length c).length)), kc K c, (f1.tr (f2.ph.tr f3.ph)).tr ⟨fun _ _ _ => rfl, fun q a => va_up_ne' (by omega)⟩, ?_, s3.1.to rfl rfl, ?_, s3.2.2.2.2, ?_, ?_⟩
  · refine xm_of (nL := 3) rfl rfl (xb_18_0 hbd ?_)
    rw [ep, hb]
    refine xb_18_10 hbd ?_
    rw [ep, hdr.1]
    refine xb_18_29 x2 (xb_18_34 x3 (xb_18_52 hbd ?_))
    rw [ep]
    exact xb_18_53
  · have e1 : C ++ sh C.length (c ++ [(o, 0)]) = C ++ sh C.length c ++ [(o, 0)] := by
      have ho' : ¬ (o = 13 ∨ o = 14 ∨ o = 15) := by omega
      rw [sh_app, ← List.append_assoc]
      simp [sh, ho']
    rw [e1]
    exact ⟨s3.2.2.2.1.1, s3.2.2.2.1.2⟩
  · show av3 7 = _
    exact e7
  · show upd (av3 8) p (nI (C ++ sh C.length c).length) = _
    rw [e8, List.length_append, sh_len]
end WRC
