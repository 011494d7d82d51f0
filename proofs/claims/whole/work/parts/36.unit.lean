/-! Class Bounds: measure of a unit. -/
theorem lN_of (x : Int64) : ∃ n, x = lN n := ⟨x.toBitVec.toNat, Int64.toBitVec_inj.mp (by show _ = BitVec.ofNat 64 _; simp)⟩
theorem nI_any (x : Int32) : ∃ n, x = nI n := ⟨x.toBitVec.toNat, Int32.toBitVec_inj.mp (by show _ = BitVec.ofNat 32 _; simp)⟩
theorem wk_le {D : Nat} {C : List In} {f t d : Nat → Nat} {G : Nat → Prop} : ∀ {n : Nat} {S S' : BSt}, WK (PW D C f t d G) n S S' → S.1 + n ≤ S'.1
  | 0, S, S', h => by cases (show S = S' from h); exact Nat.le_refl _
  | n + 1, S, S', h => by
    obtain ⟨S1, h1, h2⟩ := h
    have := wk_le h2
    have := h1.1
    omega
/-- what measure leaves alone -/
def MF (iv : Nat → Int32) (av : Nat → Nat → Int32) (lv : Nat → Nat → Int64) (iv' : Nat → Int32) (av' : Nat → Nat → Int32) (lv' : Nat → Nat → Int64) : Prop := (∀ q, q ≠ 3 → iv' q = iv q) ∧ (∀ q, q ≠ 15 → q ≠ 9 → q ≠ 10 → av' q = av q) ∧ ∀ q, q ≠ 14 → lv' q = lv q
theorem BF.mf {iv iv1 : Nat → Int32} {av av1 : Nat → Nat → Int32} {lv lv1 : Nat → Nat → Int64} (h : BF iv av lv iv1 av1 lv1) : MF iv av lv iv1 av1 lv1 := ⟨h.1, fun q a _ _ => h.2.1 q a, h.2.2⟩
theorem MF.rf {iv : Nat → Int32} {av : Nat → Nat → Int32} {lv : Nat → Nat → Int64} : MF iv av lv iv av lv := ⟨fun _ _ => rfl, fun _ _ _ _ => rfl, fun _ _ => rfl⟩
theorem MF.tr {iv iv1 iv2 : Nat → Int32} {av av1 av2 : Nat → Nat → Int32} {lv lv1 lv2 : Nat → Nat → Int64} (h : MF iv av lv iv1 av1 lv1) (g : MF iv1 av1 lv1 iv2 av2 lv2) : MF iv av lv iv2 av2 lv2 := ⟨fun q a => (g.1 q a).trans (h.1 q a), fun q a b c => (g.2.1 q a b c).trans (h.2.1 q a b c), fun q a => (g.2.2 q a).trans (h.2.2 q a)⟩
section MSU
variable {D : Nat} {C : List In} {f t d : Nat → Nat} {G : Nat → Prop}
/-- the walk, in the loop of measure -/
theorem c_walk {e p en : Nat} (hen : en < 200) : ∀ (n : Nat) (S S' : BSt) (iv : Nat → Int32) (av : Nat → Nat → Int32) (lv : Nat → Nat → Int64) (i : Nat), WK (PW e C f t d G) n S S' → DR iv av C → (∀ p, p < 4 → G p → PK av f t d p) → BS iv av lv S.2.1 S.2.2.1 S.2.2.2 → n + i < 200 → S'.1 = en →
    ∃ iv' av' lv', BF iv av lv iv' av' lv' ∧ BS iv' av' lv' S'.2.1 S'.2.2.1 S'.2.2.2 ∧ ∀ x, (∀ o4 o5 o6, xe e xt_51 84 [some (.ref 13), some (.ref 4), some (.int (nI p)), some (.int (nI en)), o4, o5, o6] [] (xs iv' av' lv') x) → ∀ o6, xe e xt_51 55 [some (.ref 13), some (.ref 4), some (.int (nI p)), some (.int (nI en)), some (.int (nI S.1)), some (.int (nI i)), o6] [] (xs iv av lv) x
  | 0, S, S', iv, av, lv, i, hw, hdr, hg, hs, hn, he => by
    cases (show S = S' from hw)
    exact ⟨iv, av, lv, BF.rf, hs, fun x hx o6 => xb_51_55 (fun _ => xb_51_63 (fun h => absurd h (nI_nlt (by omega) (by omega))) (fun _ => hx _ _ _)) (fun _ => hx _ _ _)⟩
  | n + 1, S, S', iv, av, lv, i, hw, hdr, hg, hs, hn, he => by
    obtain ⟨S1, h1, h2⟩ := hw
    have l1 := wk_le h2
    have l0 := h1.1
    obtain ⟨iv1, av1, lv1, f1, x1, s1⟩ := h1.2 iv av lv hdr hg hs
    have d1 : DR iv1 av1 C := ⟨by rw [f1.1 2 (by decide)]; exact hdr.1, fun j o a hj hj2 => by rw [f1.2.1 5 (by decide), f1.2.1 6 (by decide)]; exact hdr.2 j o a hj hj2⟩
    have g1 : ∀ p, p < 4 → G p → PK av1 f t d p := fun p hp hG => by
      have := hg p hp hG
      unfold PK at this ⊢
      rw [f1.2.1 7 (by decide), f1.2.1 9 (by decide), f1.2.1 10 (by decide)]
      exact this
    obtain ⟨iv2, av2, lv2, f2, s2, x2⟩ := c_walk (p := p) hen n S1 S' iv1 av1 lv1 (i + 1) h2 d1 g1 s1 (by omega) he
    refine ⟨iv2, av2, lv2, f1.tr f2, s2, fun x hx o6 => xb_51_55 (fun _ => xb_51_63 (fun _ => xb_51_69 x1 (xb_51_76 ?_)) (fun h => absurd (nI_lt (by omega) (by omega)) h)) (fun h => absurd (show nI i < nI 200 from nI_lt (by omega) (by omega)) h)⟩
    rw [nI_1]
    exact x2 x hx none
theorem c_zeros {e p s en : Nat} {a4 : Int32} (hen : en ≤ 200) {iv : Nat → Int32} : ∀ (m k : Nat) (av : Nat → Nat → Int32) (lv : Nat → Nat → Int64), m + k = en + 1 → (∀ j, s ≤ j → j < k → lv 14 j = 0 ∧ av 15 j = 0) →
    ∃ av' lv', BF iv av lv iv av' lv' ∧ (∀ j, s ≤ j → j ≤ en → lv' 14 j = 0 ∧ av' 15 j = 0) ∧ ∀ x, (∀ o5 o6, xe e xt_51 47 [some (.ref 13), some (.ref 4), some (.int (nI p)), some (.int (nI en)), some (.int a4), o5, o6] [] (xs iv av' lv') x) → ∀ o6, xe e xt_51 19 [some (.ref 13), some (.ref 4), some (.int (nI p)), some (.int (nI en)), some (.int a4), some (.int (nI k)), o6] [] (xs iv av lv) x
  | 0, k, av, lv, hm, h0 => ⟨av, lv, BF.rf, fun j a b => h0 j a (by omega), fun x hx o6 => xb_51_19 (fun _ => hx _ _) (fun h => absurd (nI_lt (by omega) (by omega)) h)⟩
  | m + 1, k, av, lv, hm, h0 => by
    have hbd : 0 ≤ (nI k).toInt ∧ (nI k).toInt < ((201 : Nat) : Int) := nI_bd (by omega) (by omega)
    have ek : (nI k).toNatClampNeg = k := nI_clamp (by omega)
    obtain ⟨av2, lv2, f2, z2, x2⟩ := c_zeros (p := p) (s := s) (e := e) (a4 := a4) (iv := iv) hen m (k + 1) (va_up av 15 (upd (av 15) k 0)) (va_up lv 14 (vp_updL (lv 14) k 0)) (by omega) (fun j a b => by
      show vp_updL (lv 14) k 0 j = 0 ∧ upd (av 15) k 0 j = 0
      by_cases hj : j = k
      · subst hj
        exact ⟨pk_uLs, upd_eq'⟩
      · rw [pk_uLn hj, upd_ne' hj]
        exact h0 j a (by omega))
    have f1 : BF iv av lv iv (va_up av 15 (upd (av 15) k 0)) (va_up lv 14 (vp_updL (lv 14) k 0)) := ⟨fun _ _ => rfl, fun q a => va_up_ne' a, fun q a => va_up_ne' a⟩
    refine ⟨av2, lv2, f1.tr f2, z2, fun x hx o6 => xb_51_19 (fun h => absurd h (nI_nlt (by omega) (by omega))) (fun _ => xb_51_25 hbd ?_)⟩
    rw [ek]
    refine xb_51_33 hbd ?_
    rw [ek]
    refine xb_51_41 ?_
    rw [nI_1]
    exact x2 x hx none
theorem c_measure {iv : Nat → Int32} {av : Nat → Nat → Int32} {lv : Nat → Nat → Int64} {p s o z : Nat} {c m : List In} {T E : (Nat → Nat) → Nat} (hD : 4 ≤ D) (hp : p < 5) (h7 : av 7 p = nI s) (h8 : av 8 p = nI (s + c.length)) (hsc : SC c m T E) (hA : AT C s (LC f s c)) (hz : C[s + c.length]? = some (o, z)) (ho : o = 18 ∨ o = 19) (hl : s + c.length < 200) (hdr : DR iv av C) (hG : ∀ q ∈ c, q.1 = 17 → G q.2) (hpk : ∀ p, p < 4 → G p → PK av f t d p) (ht : ∀ p, G p → t p < 2 ^ 30) (hT : T t + 3 < 2 ^ 62) (hE : E d < 2 ^ 30) :
    ∃ iv' av' lv', MF iv av lv iv' av' lv' ∧ xm D 51 [.ref 13, .ref 4, .int (nI p)] (xs iv av lv) (none, xs iv' av' lv') ∧ av' 9 = upd (av 9) p (nI (min (T t + cs1 o) 20001)) ∧ av' 10 = upd (av 10) p (nI (E d)) := by
  obtain ⟨e, rfl⟩ : ∃ e, D = e + 1 := ⟨D - 1, by omega⟩
  have hbp : 0 ≤ (nI p).toInt ∧ (nI p).toInt < ((5 : Nat) : Int) := nI_bd (by omega) (by omega)
  have ep : (nI p).toNatClampNeg = p := nI_clamp (by omega)
  have hb1 : 0 ≤ (nI (s + c.length)).toInt ∧ (nI (s + c.length)).toInt < ((201 : Nat) : Int) := nI_bd (by omega) (by omega)
  have hb2 : 0 ≤ (nI (s + c.length)).toInt ∧ (nI (s + c.length)).toInt < ((200 : Nat) : Int) := nI_bd (by omega) (by omega)
  have ee : (nI (s + c.length)).toNatClampNeg = s + c.length := nI_clamp (by omega)
  obtain ⟨av1, lv1, f1, z1, x1⟩ := c_zeros (e := e) (p := p) (s := s) (en := s + c.length) (a4 := nI s) (iv := iv) (by omega) (c.length + 1) s av lv (by omega) (fun j a b => by omega)
  -- the numbers there, as natural ones
  obtain ⟨cy, hcy⟩ : ∃ cy : Nat → Nat, ∀ j, lv1 14 j = lN (cy j) := ⟨fun j => Classical.choose (lN_of (lv1 14 j)), fun j => Classical.choose_spec (lN_of (lv1 14 j))⟩
  obtain ⟨wd, hwd⟩ : ∃ wd : Nat → Nat, ∀ j, av1 15 j = nI (wd j) := ⟨fun j => Classical.choose (nI_any (av1 15 j)), fun j => Classical.choose_spec (nI_any (av1 15 j))⟩
  generalize hcy2 : (fun j => if s ≤ j ∧ j ≤ s + c.length then 0 else cy j) = cy2
  generalize hwd2 : (fun j => if s ≤ j ∧ j ≤ s + c.length then 0 else wd j) = wd2
  have cz : ∀ j, s ≤ j → j ≤ s + c.length → cy2 j = 0 ∧ wd2 j = 0 := fun j a b => by rw [← hcy2, ← hwd2]; exact ⟨if_pos ⟨a, b⟩, if_pos ⟨a, b⟩⟩
  have s1 : BS (upd iv 3 0) av1 lv1 cy2 wd2 0 := by
    refine ⟨fun k _ => ?_, fun k _ => ?_, upd_eq'⟩
    · rw [← hcy2]
      dsimp only
      split
      · rename_i h
        exact (z1 k h.1 h.2).1
      · exact hcy k
    · rw [← hwd2]
      dsimp only
      split
      · rename_i h
        exact (z1 k h.1 h.2).2
      · exact hwd k
  have f2 : BF iv av lv (upd iv 3 0) av1 lv1 := f1.tr ⟨fun q a => upd_ne' a, fun _ _ => rfl, fun _ _ => rfl⟩
  obtain ⟨n, cy3, wd3, dp3, w1, w2, w3, w4, w5, w6⟩ := wc_sc (D := e) (C := C) (f := f) (t := t) (d := d) (G := G) (by omega) ht hsc s cy2 wd2 0 hA hl hG (fun j a b => (cz j (by omega) (by omega)).1) (by rw [(cz s (by omega) (by omega)).2]; exact Nat.le_refl _) (by rw [(cz s (by omega) (by omega)).1]; omega) (by rw [(cz _ (by omega) (by omega)).1]; decide) (by rw [(cz s (by omega) (by omega)).2]; omega)
  rw [(cz s (by omega) (by omega)).1, (cz _ (by omega) (by omega)).1] at w3
  rw [(cz s (by omega) (by omega)).2] at w5
  have d2 : DR (upd iv 3 0) av1 C := ⟨by rw [f2.1 2 (by decide)]; exact hdr.1, fun j o a hj hj2 => by rw [f2.2.1 5 (by decide), f2.2.1 6 (by decide)]; exact hdr.2 j o a hj hj2⟩
  have g2 : ∀ p, p < 4 → G p → PK av1 f t d p := fun p hp hG => by
    have := hpk p hp hG
    unfold PK at this ⊢
    rw [f2.2.1 7 (by decide), f2.2.1 9 (by decide), f2.2.1 10 (by decide)]
    exact this
  obtain ⟨iv4, av4, lv4, f4, s4, x4⟩ := c_walk (p := p) hl n _ _ (upd iv 3 0) av1 lv1 0 w2 d2 g2 s1 (by omega) rfl
  dsimp only at s4
  have f5 := f2.tr f4
  have v1 : lv4 14 (s + c.length) = lN (T t) := by rw [s4.1 _ (by omega), w3]; congr 1; omega
  have v2 : iv4 3 = nI (E d) := by rw [s4.2.2, w5]; congr 1; omega
  have v3 : av4 5 (s + c.length) = nI o := by rw [f5.2.1 5 (by decide)]; exact (hdr.2 _ o z hz hl).1
  have hco : cs1 o ≤ 3 := by rcases ho with rfl | rfl <;> decide
  refine ⟨iv4, va_up (va_up av4 9 (upd (av4 9) p (nI (min (T t + cs1 o) 20001)))) 10 (upd (av4 10) p (nI (E d))), lv4, ⟨f5.1, fun q a b c => by rw [va_up_ne' c, va_up_ne' b]; exact f5.2.1 q a, f5.2.2⟩, ?_, ?_, ?_⟩
  · refine xm_of (nL := 7) rfl rfl (xb_51_0 hbp ?_)
    rw [ep, h8]
    refine xb_51_6 hbp ?_
    rw [ep, h7]
    refine xb_51_13 (x1 _ (fun o5 o6 => xb_51_47 (x4 _ (fun o4 o5 o6 => xb_51_84 hb1 ?_) none)) none)
    rw [ee, v1]
    refine xb_51_90 hb2 ?_
    rw [ee, v3]
    refine xb_51_99 (nI_bd (by omega) (by omega)) ?_
    rw [nI_clamp (by omega), cost_nI o (by omega)]
    refine xb_51_100 hbp ?_
    have em : (if (20001 : Int64) < lN (T t) + Int32.toInt64 (nI (cs1 o)) then (20001 : Int64) else lN (T t) + Int32.toInt64 (nI (cs1 o))) = lN (min (T t + cs1 o) 20001) := by
      rw [nI_l (by omega), lN_add]
      show (if lN 20001 < _ then lN 20001 else _) = _
      by_cases h : 20001 < T t + cs1 o
      · rw [if_pos ((pk_lLT (by omega) (by omega)).mpr h), Nat.min_eq_right (by omega)]
      · rw [if_neg (fun q => h ((pk_lLT (by omega) (by omega)).mp q)), Nat.min_eq_left (by omega)]
    rw [em, ep, lN_i]
    refine xb_51_119 hbp ?_
    rw [ep, v2]
    exact xb_51_129
  · show upd (av4 9) p _ = _
    rw [f5.2.1 9 (by decide)]
  · show upd (av4 10) p _ = _
    rw [f5.2.1 10 (by decide)]
end MSU
