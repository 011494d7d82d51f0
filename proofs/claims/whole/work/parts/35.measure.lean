/-! Class Bounds: a choice of two, all structured code, a unit. -/
section MSR
variable {D : Nat} {C : List In} {f t d : Nat → Nat} {G : Nat → Prop}
theorem ar1 (A X V T : Nat) : max (max A (X + V + 3 + T)) (max A (X + V + 3 + T) + 0) = max A (X + (V + max (3 + T) (3 + 0))) := by omega
theorem ar2 (A X V T T2 : Nat) : max (max A (X + V + 3 + T)) (X + V + 3 + T2) = max A (X + (V + max (3 + T) (3 + T2))) := by omega
theorem ar3 {dp w M E E2 d3 d5 : Nat} (h : d3 = max (max (max dp (w + M)) w) (w + E)) (g : d5 = max (max d3 w) (w + E2)) : d5 = max dp (w + max M (max E E2)) := by omega
theorem wc_ite {v b y : List In} {T E T2 E2 : Nat} (hD : 3 ≤ D) (hv : SL v 1) (hb : WC D C f t d G b T E) (hy : WC D C f t d G y T2 E2) (ny : y = [] → T2 = 0) : WC D C f t d G (v ++ [(13, v.length + 2 + b.length)] ++ sh (v.length + 1) b ++ [(14, v.length + 2 + b.length + y.length)] ++ sh (v.length + 2 + b.length) y) (cst v + max (3 + T) (3 + T2)) (max (mh v 0 0) (max E E2)) := by
  intro s cy wd dp hA hl hG hz hw b1 b2 b3
  have b1a : cy s + cst v + 3 + T < 2 ^ 62 := by omega
  have b1b : cy s + cst v + 3 + T2 < 2 ^ 62 := by omega
  have b3a : dp < 2 ^ 30 := by omega
  have b3b : wd s + mh v 0 0 < 2 ^ 30 := by omega
  have b3c : wd s + E < 2 ^ 30 := by omega
  have b3d : wd s + E2 < 2 ^ 30 := by omega
  clear b1 b3
  rw [LC_app, LC_app, LC_app, LC_app, LC_sl hv, LC_sh, LC_sh, LC_j (by omega), LC_j (by omega)] at hA
  have hA1 := hA.l.l.l.l
  have hAZ := hA.l.l.l.r.h
  have hAb := hA.l.l.r
  have hAJ := hA.l.r.h
  have hAy := hA.r
  simp only [List.length_append, List.length_cons, List.length_nil, sh_len, LC_len, Nat.zero_add] at hA1 hAZ hAb hAJ hAy hl hz b2 ⊢
  have em := mh_sl (m := dp) hv hw
  have v0 : v ≠ [] := fun h => by
    subst h
    have := hv.2 0
    cases this
  have v1 := lpos v0
  obtain ⟨cy1, wd1, w1, w2, w3, w4⟩ := wk_line (f := f) (t := t) (d := d) (G := G) hD v s cy wd dp (wd s + 1) hA1 (by omega) (fun q hq => (hv.1 q hq).1) (hv.2 _) (fun j a b => hz j a (by omega)) (by omega) (by rw [hz _ (by omega) (by omega)]; decide) (by rw [em]; omega)
  rw [em] at w1
  clear em
  rw [hz _ (by omega) (by omega), Nat.max_eq_right (by omega)] at w2
  have eE : s + (v.length + 1 + b.length + 1 + y.length) = s + v.length + b.length + 2 + y.length := by omega
  rw [eE] at hl b2 hz ⊢
  have etg : v.length + 2 + b.length + s = s + v.length + b.length + 2 := by omega
  rw [etg] at hAZ hAy
  have etj : v.length + 2 + b.length + y.length + s = s + v.length + b.length + 2 + y.length := by omega
  rw [etj] at hAJ
  have eb : s + (v.length + 1) = s + v.length + 1 := by omega
  have eb2 : v.length + 1 + s = s + v.length + 1 := by omega
  rw [eb, eb2] at hAb
  have eJ : s + (v.length + 1 + b.length) = s + v.length + 1 + b.length := by omega
  rw [eJ] at hAJ
  have eY : s + (v.length + 1 + b.length + 1) = s + v.length + b.length + 2 := by omega
  rw [eY] at hAy
  have cY : cy1 (s + v.length + b.length + 2) = cy (s + v.length + b.length + 2) := (w4 _ (by omega) (by omega)).1
  have cY2 : y ≠ [] → cy (s + v.length + b.length + 2) = 0 := fun h => by
    have := lpos h
    exact hz _ (by omega) (by omega)
  have cY3 : cy (s + v.length + b.length + 2) < 2 ^ 62 := by
    by_cases h : y = []
    · subst h; exact b2
    · rw [cY2 h]; decide
  have cB : cy1 (s + v.length + 1) = 0 := by
    rw [(w4 _ (by omega) (by omega)).1]
    exact hz _ (by omega) (by omega)
  have p1 := pw_zero (D := D) (C := C) (f := f) (t := t) (d := d) (G := G) (k := s + v.length) (a := s + v.length + b.length + 2) (w := wd s) (cy := cy1) (wd := wd1) (dp := max dp (wd s + mh v 0 0)) (by omega) (by omega) hAZ w3 (by omega) (by rw [cY]; exact cY3) (by rw [cB]; decide) (by rw [w2]; omega) (by omega) (by omega)
  rw [w2, cY, va_up_ne' (show s + v.length + 1 ≠ s + v.length + b.length + 2 by omega), cB, Nat.max_eq_right (Nat.zero_le _)] at p1
  generalize hc2 : va_up (va_up cy1 (s + v.length + b.length + 2) (max (cy (s + v.length + b.length + 2)) (cy s + cst v + 3))) (s + v.length + 1) (cy s + cst v + 1) = cy2 at p1
  generalize hd2 : va_up (va_up wd1 (s + v.length + b.length + 2) (wd s)) (s + v.length + 1) (wd s) = wd2 at p1
  have q1 : ∀ j, j ≠ s + v.length + 1 → j ≠ s + v.length + b.length + 2 → cy2 j = cy1 j ∧ wd2 j = wd1 j := fun j h1 h2 => by rw [← hc2, ← hd2, va_up_ne' h1, va_up_ne' h1, va_up_ne' h2, va_up_ne' h2]; exact ⟨rfl, rfl⟩
  have q2 : cy2 (s + v.length + 1) = cy s + cst v + 1 ∧ wd2 (s + v.length + 1) = wd s := by rw [← hc2, ← hd2, va_up_self, va_up_self]; exact ⟨rfl, rfl⟩
  have q3 : cy2 (s + v.length + b.length + 2) = max (cy (s + v.length + b.length + 2)) (cy s + cst v + 3) ∧ wd2 (s + v.length + b.length + 2) = wd s := by
    have hne : s + v.length + b.length + 2 ≠ s + v.length + 1 := by omega
    rw [← hc2, ← hd2, va_up_ne' hne, va_up_ne' hne, va_up_self, va_up_self]
    exact ⟨rfl, rfl⟩
  have cJ : cy2 (s + v.length + 1 + b.length) ≤ cy s + cst v + 1 := by
    by_cases h : b = []
    · subst h
      show cy2 (s + v.length + 1) ≤ _
      rw [q2.1]
      exact Nat.le_refl _
    · have := lpos h
      rw [(q1 _ (by omega) (by omega)).1, (w4 _ (by omega) (by omega)).1, hz _ (by omega) (by omega)]
      omega
  obtain ⟨n, cy3, wd3, dp3, x1, x2, x3, x4, x5, x6⟩ := hb (s + v.length + 1) cy2 wd2 (max (max dp (wd s + mh v 0 0)) (wd s)) hAb (by omega) (fun q hq e => hG q (List.mem_append_left _ (List.mem_append_left _ (List.mem_append_right _ (mem_sh17 hq e)))) e) (fun j a c => by
      rw [(q1 _ (by omega) (by omega)).1, (w4 _ (by omega) (by omega)).1]
      exact hz _ (by omega) (by omega)) (by rw [q2.2]; omega) (by rw [q2.1]; omega) (by omega) (by rw [q2.2]; omega)
  rw [q2.1] at x3
  rw [q2.2] at x4 x5
  have y1 : cy3 (s + v.length + 1 + b.length) = cy s + cst v + 1 + T := by rw [x3]; omega
  have y2 : cy3 (s + v.length + b.length + 2) = max (cy (s + v.length + b.length + 2)) (cy s + cst v + 3) ∧ wd3 (s + v.length + b.length + 2) = wd s := by
    have := x6 (s + v.length + b.length + 2) (by omega) (by omega)
    rw [this.1, this.2]
    exact q3
  have y3 : y ≠ [] → cy3 (s + v.length + b.length + 2 + y.length) = cy (s + v.length + b.length + 2 + y.length) := fun h => by
    have := lpos h
    rw [(x6 _ (by omega) (by omega)).1, (q1 _ (by omega) (by omega)).1, (w4 _ (by omega) (by omega)).1]
  have y4 : cy3 (s + v.length + b.length + 2 + y.length) < 2 ^ 62 := by
    by_cases h : y = []
    · subst h
      show cy3 (s + v.length + b.length + 2) < _
      rw [y2.1]
      omega
    · rw [y3 h]; exact b2
  have p2 := pw_jump (D := D) (C := C) (f := f) (t := t) (d := d) (G := G) (k := s + v.length + 1 + b.length) (a := s + v.length + b.length + 2 + y.length) (cy := cy3) (wd := wd3) (dp := dp3) (by omega) (by omega) hAJ (by omega) (by omega) y4 (by rw [y1]; omega) (by rw [x4]; omega) (by rw [x5]; omega)
  have eN : s + v.length + 1 + b.length + 1 = s + v.length + b.length + 2 := by omega
  rw [eN, y1, x4] at p2
  generalize hc4 : va_up cy3 (s + v.length + b.length + 2 + y.length) (max (cy3 (s + v.length + b.length + 2 + y.length)) (cy s + cst v + 1 + T + 2)) = cy4 at p2
  generalize hd4 : va_up wd3 (s + v.length + b.length + 2 + y.length) (wd s) = wd4 at p2
  have z1 : ∀ j, j ≠ s + v.length + b.length + 2 + y.length → cy4 j = cy3 j ∧ wd4 j = wd3 j := fun j h => by rw [← hc4, ← hd4, va_up_ne' h, va_up_ne' h]; exact ⟨rfl, rfl⟩
  have z2 : cy4 (s + v.length + b.length + 2 + y.length) = max (cy3 (s + v.length + b.length + 2 + y.length)) (cy s + cst v + 1 + T + 2) := by rw [← hc4, va_up_self]
  have z3 : wd4 (s + v.length + b.length + 2) = wd s := by
    by_cases h : y = []
    · subst h
      rw [← hd4]
      exact va_up_self _ _ _
    · have := lpos h
      rw [(z1 _ (by omega)).2]
      exact y2.2
  have z4 : y = [] → cy4 (s + v.length + b.length + 2) = max (cy (s + v.length + b.length + 2)) (cy s + cst v + 3 + T) := fun h => by
    subst h
    have a : cy4 (s + v.length + b.length + 2) = _ := z2
    have b : cy3 (s + v.length + b.length + 2 + ([] : List In).length) = _ := y2.1
    rw [a, b]
    clear a b x3 x5 z1 z2 y4
    omega
  have z5 : y ≠ [] → cy4 (s + v.length + b.length + 2) = cy s + cst v + 3 ∧ cy4 (s + v.length + b.length + 2 + y.length) = max (cy (s + v.length + b.length + 2 + y.length)) (cy s + cst v + 3 + T) := fun h => by
    have hp := lpos h
    rw [(z1 _ (by omega)).1, y2.1, cY2 h, z2, y3 h]
    exact ⟨Nat.max_eq_right (Nat.zero_le _), by congr 1; omega⟩
  have z6 : max (cy4 (s + v.length + b.length + 2 + y.length)) (cy4 (s + v.length + b.length + 2) + T2) = max (cy (s + v.length + b.length + 2 + y.length)) (cy s + (cst v + max (3 + T) (3 + T2))) := by
    by_cases h : y = []
    · have a := z4 h
      have c := ny h
      subst h
      show max (cy4 (s + v.length + b.length + 2)) _ = max (cy (s + v.length + b.length + 2)) _
      rw [a, c]
      exact ar1 _ _ _ _
    · rw [(z5 h).1, (z5 h).2]
      exact ar2 _ _ _ _ _
  obtain ⟨m, cy5, wd5, dp5, u1, u2, u3, u4, u5, u6⟩ := hy (s + v.length + b.length + 2) cy4 wd4 (max dp3 (wd s)) hAy (by omega) (fun q hq e => hG q (List.mem_append_right _ (mem_sh17 hq e)) e) (fun j a c => by
      rw [(z1 _ (by omega)).1, (x6 _ (by omega) (by omega)).1, (q1 _ (by omega) (by omega)).1, (w4 _ (by omega) (by omega)).1]
      exact hz _ (by omega) (by omega)) (by rw [z3]; omega) (by omega) (by omega) (by rw [z3]; omega)
  rw [z3] at u4 u5
  refine ⟨v.length + 1 + n + 1 + m, cy5, wd5, dp5, by omega, wk_app (wk_app (wk_app (wk_app w1 (wk_1 p1)) x2) (wk_1 p2)) u2, by rw [u3, z6], u4, ar3 x5 u5, fun j hj hn => ?_⟩
  have a0 := u6 j (by omega) hn
  have a1 := z1 j hn
  have a2 := x6 j (by omega) (by omega)
  have a3 := q1 j (by omega) (by omega)
  have a4 := w4 j (by omega) (by omega)
  exact ⟨a0.1.trans (a1.1.trans (a2.1.trans (a3.1.trans a4.1))), a0.2.trans (a1.2.trans (a2.2.trans (a3.2.trans a4.2)))⟩
theorem wc_sc (hD : 3 ≤ D) (ht : ∀ p, G p → t p < 2 ^ 30) {c m : List In} {T E : (Nat → Nat) → Nat} (h : SC c m T E) : WC D C f t d G c (T t) (E d) := by
  refine (h (fun c m T E => SC c m T E ∧ WC D C f t d G c (T t) (E d)) ⟨⟨SC.rules.1, wc_nil⟩, ?_, ?_, ?_, ?_, ?_, ?_⟩).2
  · intro c1 m1 T1 D1 c2 m2 T2 D2 h1 h2
    exact ⟨SC.rules.2.1 _ _ _ _ _ _ _ _ h1.1 h2.1, wc_seq h1.2 h2.2 (fun e => (sc_nil h1.1 e t).1) (fun e => (sc_nil h2.1 e t).1)⟩
  · intro c hc
    exact ⟨SC.rules.2.2.1 c hc, wc_sl hD hc⟩
  · intro v b mb T E hv hb
    exact ⟨SC.rules.2.2.2.1 v b mb T E hv hb.1, wc_if hD hv hb.2 (fun e => (sc_nil hb.1 e t).1)⟩
  · intro v b mb T E y my T2 E2 hv hb hy
    exact ⟨SC.rules.2.2.2.2.1 v b mb T E y my T2 E2 hv hb.1 hy.1, wc_ite hD hv hb.2 hy.2 (fun e => (sc_nil hy.1 e t).1)⟩
  · intro p op k b mb T E hp ho hk hb
    exact ⟨SC.rules.2.2.2.2.2.1 p op k b mb T E hp ho hk hb.1, wc_loop hD hp hk hb.2⟩
  · intro p hp
    exact ⟨SC.rules.2.2.2.2.2.2 p hp, wc_call hD ht hp⟩
end MSR
