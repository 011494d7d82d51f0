/-! Class Bounds: the walk over structured code finds its TIME and DEPTH. -/
theorem lpos {α : Type} {l : List α} (h : l ≠ []) : 0 < l.length := by
  cases l with
  | nil => exact absurd rfl h
  | cons _ _ => exact Nat.succ_pos _
def WK (P : BSt → BSt → Prop) : Nat → BSt → BSt → Prop
  | 0, S, S' => S = S'
  | n + 1, S, S' => ∃ S1, P S S1 ∧ WK P n S1 S'
theorem wk_app {P : BSt → BSt → Prop} : ∀ {n m : Nat} {S S1 S2 : BSt}, WK P n S S1 → WK P m S1 S2 → WK P (n + m) S S2
  | 0, m, S, S1, S2, h, g => by
    cases (show S = S1 from h)
    rw [Nat.zero_add]
    exact g
  | n + 1, m, S, S1, S2, h, g => by
    obtain ⟨S0, h1, h2⟩ := h
    rw [Nat.add_right_comm]
    exact ⟨S0, h1, wk_app h2 g⟩
theorem wk_1 {P : BSt → BSt → Prop} {S S1 : BSt} (h : P S S1) : WK P 1 S S1 := ⟨S1, h, rfl⟩
theorem mh_ge : ∀ (c : List In) h m, m ≤ mh c h m
  | [], h, m => Nat.le_refl _
  | q :: c, h, m => by
    unfold mh
    have := mh_ge c ((nh q.1 h).getD 0) (max m ((nh q.1 h).getD 0))
    omega
theorem mh_max : ∀ (c : List In) h m m', mh c h (max m m') = max m (mh c h m')
  | [], h, m, m' => rfl
  | q :: c, h, m, m' => by
    unfold mh
    rw [← mh_max c]
    congr 1
    omega
theorem nh_sh {o a b h : Nat} (e : nh o a = some b) : nh o (a + h) = some (b + h) := by
  unfold nh at e ⊢
  split at e
  · rename_i ho
    cases e
    rw [if_pos ho]
    congr 1
    omega
  rename_i n1
  rw [if_neg n1]
  split at e
  · rename_i ho
    rw [if_pos ho]
    split at e
    · cases e
      rw [if_pos (by omega)]
    · cases e
  rename_i n2
  rw [if_neg n2]
  split at e
  · rename_i ho
    rw [if_pos ho]
    split at e
    · cases e
      rw [if_pos (by omega)]
      congr 1
      omega
    · cases e
  rename_i n3
  rw [if_neg n3]
  split at e
  · rename_i ho
    rw [if_pos ho]
    split at e
    · cases e
      rw [if_pos (by omega)]
      congr 1
      omega
    · cases e
  rename_i n4
  rw [if_neg n4]
  split at e
  · rename_i ho
    rw [if_pos ho]
    split at e
    · cases e
      rw [if_pos (by omega)]
      congr 1
      omega
    · cases e
  · cases e
theorem mh_sh : ∀ (c : List In) a h m b, ht c a = some b → mh c (a + h) (m + h) = mh c a m + h
  | [], a, h, m, b, _ => rfl
  | q :: c, a, h, m, b, e => by
    unfold mh
    obtain ⟨k, hk, e2⟩ := Option.bind_eq_some_iff.mp e
    rw [nh_sh hk, hk]
    show mh c (k + h) (max (m + h) (k + h)) = mh c k (max m k) + h
    rw [← mh_sh c k h (max m k) b e2]
    congr 1
    omega
theorem mh_sl {c : List In} {e h m : Nat} (hc : SL c e) (hm : h ≤ m) : mh c h m = max m (h + mh c 0 0) := by
  have h0 := hc.2 0
  obtain ⟨x, rfl⟩ : ∃ x, m = x + h := ⟨m - h, by omega⟩
  have := mh_sh c 0 h x _ h0
  rw [Nat.zero_add] at this
  rw [this]
  have g := mh_max c 0 x 0
  rw [Nat.max_eq_left (Nat.zero_le _)] at g
  rw [g]
  omega
section WKS
variable {D : Nat} {C : List In} {f t d : Nat → Nat} {G : Nat → Prop}
/-- a piece of code c of TIME T and DEPTH E, walked over -/
def WC (D : Nat) (C : List In) (f t d : Nat → Nat) (G : Nat → Prop) (c : List In) (T E : Nat) : Prop := ∀ s cy wd dp, AT C s (LC f s c) → s + c.length < 200 → (∀ q ∈ c, q.1 = 17 → G q.2) → (∀ j, s < j → j < s + c.length → cy j = 0) → wd s ≤ dp → cy s + T < 2 ^ 62 → cy (s + c.length) < 2 ^ 62 → max dp (wd s + E) < 2 ^ 30 →
  ∃ n cy' wd' dp', n ≤ c.length ∧ WK (PW D C f t d G) n (s, cy, wd, dp) (s + c.length, cy', wd', dp') ∧ cy' (s + c.length) = max (cy (s + c.length)) (cy s + T) ∧ wd' (s + c.length) = wd s ∧ dp' = max dp (wd s + E) ∧ ∀ j, j ≤ s ∨ s + c.length < j → j ≠ s + c.length → cy' j = cy j ∧ wd' j = wd j
theorem wk_line (hD : 3 ≤ D) : ∀ (c : List In) s cy wd dp w, AT C s c → s + c.length < 200 → (∀ q ∈ c, q.1 ≤ 12 ∨ q.1 = 16) → ht c (wd s) = some w → (∀ j, s < j → j < s + c.length → cy j = 0) → cy s + cst c < 2 ^ 62 → cy (s + c.length) < 2 ^ 62 → mh c (wd s) dp < 2 ^ 30 →
    ∃ cy' wd', WK (PW D C f t d G) c.length (s, cy, wd, dp) (s + c.length, cy', wd', mh c (wd s) dp) ∧ cy' (s + c.length) = max (cy (s + c.length)) (cy s + cst c) ∧ wd' (s + c.length) = w ∧ ∀ j, j ≤ s ∨ s + c.length < j → j ≠ s + c.length → cy' j = cy j ∧ wd' j = wd j
  | [], s, cy, wd, dp, w, _, _, _, e, _, _, _, _ => by
    cases e
    exact ⟨cy, wd, rfl, by show cy s = max (cy s) (cy s + 0); omega, rfl, fun _ _ _ => ⟨rfl, rfl⟩⟩
  | q :: c, s, cy, wd, dp, w, hA, hl, ho, e, hz, h1, h2, h3 => by
    obtain ⟨k, hk, e2⟩ := Option.bind_eq_some_iff.mp e
    have em : mh (q :: c) (wd s) dp = mh c k (max dp k) := by
      show mh c ((nh q.1 (wd s)).getD 0) _ = _
      rw [hk]
      rfl
    rw [em] at h3 ⊢
    rw [cst_cons] at h1 ⊢
    have gm := mh_ge c k (max dp k)
    simp only [List.length_cons] at hl hz h2 ⊢
    have c1 : cy (s + 1) < 2 ^ 62 := by
      by_cases h : c.length = 0
      · rw [h] at h2; exact h2
      · rw [hz (s + 1) (by omega) (by omega)]; decide
    have p1 := pw_line (D := D) (C := C) (f := f) (t := t) (d := d) (G := G) (k := s) (o := q.1) (a := q.2) (w := k) (cy := cy) (wd := wd) (dp := dp) (by omega) (by omega) hA.h (ho q (List.mem_cons_self ..)) hk c1 (by omega) (by omega) (by omega)
    have es : s + (c.length + 1) = s + 1 + c.length := by omega
    obtain ⟨cy', wd', w1, w2, w3, w4⟩ := wk_line hD c (s + 1) (va_up cy (s + 1) (max (cy (s + 1)) (cy s + cs1 q.1))) (va_up wd (s + 1) k) (max dp k) w hA.t (by omega) (fun q hq => ho q (List.mem_cons_of_mem _ hq)) (by rw [va_up_self]; exact e2) (fun j a b => by rw [va_up_ne' (by omega)]; exact hz j (by omega) (by omega)) (by
      rw [va_up_self]
      by_cases h : c.length = 0
      · have : c = [] := List.eq_nil_of_length_eq_zero h
        subst this
        show _ + 0 < _
        omega
      · rw [hz (s + 1) (by omega) (by omega)]; omega) (by
      by_cases h : c.length = 0
      · rw [h, Nat.add_zero, va_up_self]; omega
      · rw [va_up_ne' (by omega), ← es]; exact h2) (by rw [va_up_self]; exact h3)
    rw [va_up_self] at w1 w2
    rw [es]
    refine ⟨cy', wd', ?_, ?_, w3, fun j hj hn => ?_⟩
    · have := wk_app (wk_1 p1) w1
      rw [Nat.add_comm] at this
      exact this
    · rw [w2]
      by_cases h : c.length = 0
      · have : c = [] := List.eq_nil_of_length_eq_zero h
        subst this
        show max (va_up _ _ _ (s + 1)) (_ + 0) = max (cy (s + 1)) (_ + (_ + 0))
        rw [va_up_self]
        omega
      · rw [hz (s + 1) (by omega) (by omega), va_up_ne' (by omega)]
        congr 1
        omega
    · have a := w4 j (by omega) hn
      rw [va_up_ne' (by omega), va_up_ne' (by omega)] at a
      exact a
theorem wc_nil : WC D C f t d G [] 0 0 := by
  intro s cy wd dp _ _ _ _ hw _ _ _
  exact ⟨0, cy, wd, dp, Nat.le_refl _, rfl, by show cy s = max (cy s) (cy s + 0); omega, rfl, by omega, fun _ _ _ => ⟨rfl, rfl⟩⟩
theorem wc_sl {c : List In} (hD : 3 ≤ D) (hc : SL c 0) : WC D C f t d G c (cst c) (mh c 0 0) := by
  intro s cy wd dp hA hl _ hz hw h1 h2 h3
  rw [LC_sl hc] at hA
  have em := mh_sl (m := dp) hc hw
  obtain ⟨cy', wd', w1, w2, w3, w4⟩ := wk_line (f := f) (t := t) (d := d) (G := G) hD c s cy wd dp (wd s + 0) hA hl (fun q hq => (hc.1 q hq).1) (hc.2 _) hz h1 h2 (by rw [em]; exact h3)
  exact ⟨c.length, cy', wd', _, Nat.le_refl _, w1, w2, w3, em, w4⟩
theorem wc_seq {c1 c2 : List In} {T1 T2 E1 E2 : Nat} (h1 : WC D C f t d G c1 T1 E1) (h2 : WC D C f t d G c2 T2 E2) (n1 : c1 = [] → T1 = 0) (n2 : c2 = [] → T2 = 0) : WC D C f t d G (c1 ++ sh c1.length c2) (T1 + T2) (max E1 E2) := by
  intro s cy wd dp hA hl hG hz hw b1 b2 b3
  rw [LC_app, LC_sh] at hA
  have hA1 := hA.l
  have hA2 := hA.r
  rw [LC_len, Nat.add_comm c1.length s] at hA2
  simp only [List.length_append, sh_len] at hl hz b2 ⊢
  rw [← Nat.add_assoc] at hl hz b2 ⊢
  have cM : c2 ≠ [] → c1 ≠ [] → cy (s + c1.length) = 0 := fun e1 e2 => hz _ (by have := lpos e2; omega) (by have := lpos e1; omega)
  have bM : cy (s + c1.length) < 2 ^ 62 := by
    by_cases e2 : c2 = []
    · subst e2; exact b2
    · by_cases e1 : c1 = []
      · subst e1
        show cy s < _
        omega
      · rw [cM e2 e1]; decide
  obtain ⟨n, cy1, wd1, dp1, w1, w2, w3, w4, w5, w6⟩ := h1 s cy wd dp hA1 (by omega) (fun q hq e => hG q (List.mem_append_left _ hq) e) (fun j a b => hz j a (by omega)) hw (by omega) bM (by omega)
  have v1 : cy1 (s + c1.length) + T2 = max (if c2 = [] then cy (s + c1.length) else 0) (cy s + (T1 + T2)) := by
    rw [w3]
    by_cases e2 : c2 = []
    · rw [if_pos e2, n2 e2]
      omega
    · rw [if_neg e2]
      by_cases e1 : c1 = []
      · have := n1 e1
        subst e1
        show max (cy s) _ + _ = _
        omega
      · rw [cM e2 e1]
        omega
  have v2 : cy1 (s + c1.length + c2.length) = if c2 = [] then max (cy (s + c1.length)) (cy s + T1) else cy (s + c1.length + c2.length) := by
    by_cases e2 : c2 = []
    · subst e2
      rw [if_pos rfl]
      exact w3
    · rw [if_neg e2]
      have := lpos e2
      exact (w6 _ (by omega) (by omega)).1
  obtain ⟨m, cy2, wd2, dp2, x1, x2, x3, x4, x5, x6⟩ := h2 (s + c1.length) cy1 wd1 dp1 hA2 hl (fun q hq e => hG q (List.mem_append_right _ (mem_sh17 hq e)) e) (fun j a b => by
      rw [(w6 j (by omega) (by omega)).1]
      exact hz j (by omega) b) (by rw [w4, w5]; omega) (by
      rw [v1]
      split
      · omega
      · omega) (by
      rw [v2]
      split
      · omega
      · exact b2) (by rw [w4, w5]; omega)
  refine ⟨n + m, cy2, wd2, dp2, by omega, wk_app w2 x2, ?_, x4.trans w4, ?_, fun j hj hn => ?_⟩
  · rw [x3, v1, v2]
    by_cases e2 : c2 = []
    · rw [if_pos e2, if_pos e2]
      subst e2
      show _ = max (cy (s + c1.length)) _
      omega
    · rw [if_neg e2, if_neg e2]
      omega
  · rw [x5, w4, w5]
    omega
  · rcases hj with hj | hj
    · by_cases hj2 : j = s + c1.length
      · -- then c1 is empty
        have e1 : c1 = [] := List.eq_nil_of_length_eq_zero (by omega)
        have a := x6 j (by omega) hn
        subst hj2
        rw [a.1, a.2, w3, w4, n1 e1]
        subst e1
        exact ⟨by show max (cy s) (cy s + 0) = cy s; omega, rfl⟩
      · have a := x6 j (by omega) hn
        have b := w6 j (by omega) hj2
        exact ⟨a.1.trans b.1, a.2.trans b.2⟩
    · have a := x6 j (by omega) hn
      have b := w6 j (by omega) (by omega)
      exact ⟨a.1.trans b.1, a.2.trans b.2⟩
theorem wc_call {p : Nat} (hD : 3 ≤ D) (ht : ∀ p, G p → t p < 2 ^ 30) (hp : p < 4) : WC D C f t d G [(17, p)] (4 + t p) (1 + d p) := by
  intro s cy wd dp hA hl hG hz hw b1 b2 b3
  rw [LC_c hp] at hA
  have hg := hG (17, p) (List.mem_singleton.mpr rfl) rfl
  simp only [List.length_cons, List.length_nil, Nat.zero_add] at hl hz b2 ⊢
  have p1 := pw_call (D := D) (C := C) (f := f) (t := t) (d := d) (G := G) (k := s) (p := p) (cy := cy) (wd := wd) (dp := dp) hD (by omega) hp hg hA.h b2 (by omega) (ht p hg) (by omega) (by omega)
  refine ⟨1, _, _, _, Nat.le_refl _, wk_1 p1, va_up_self _ _ _, va_up_self _ _ _, rfl, fun j hj hn => ?_⟩
  rw [va_up_ne' hn, va_up_ne' hn]
  exact ⟨rfl, rfl⟩
theorem wc_loop {p : List In} {op k : Nat} {b : List In} {T E : Nat} (hD : 3 ≤ D) (hp : SL (p ++ [(op, k)]) 1) (hk : k ≤ 99) (hb : WC D C f t d G b T E) : WC D C f t d G (p ++ [(op, k), (15, p.length + 3 + b.length)] ++ sh (p.length + 2) b ++ [(14, p.length + 1)]) (cst (p ++ [(op, k)]) + (k * (3 + T) + 3)) (max (mh (p ++ [(op, k)]) 0 0) (if k = 0 then 0 else 1 + E)) := by
  intro s cy wd dp hA hl hG hz hw b1 b2 b3
  have e0 : p ++ [(op, k), (15, p.length + 3 + b.length)] = (p ++ [(op, k)]) ++ [(15, p.length + 3 + b.length)] := by rw [List.append_assoc]; rfl
  rw [e0] at hA hl hG hz b2 ⊢
  rw [LC_app, LC_app, LC_app, LC_sl hp, LC_sh, LC_j (by omega), LC_j (by omega)] at hA
  have hA1 := hA.l.l.l
  have hAL := hA.l.l.r.h
  have hAb := hA.l.r
  have hAJ := hA.r.h
  have hAo := hA.l.l.l.r.h
  simp only [List.length_append, List.length_cons, List.length_nil, sh_len, LC_len, Nat.zero_add] at hA1 hAL hAb hAJ hAo hl hz b2 ⊢
  generalize hv : p ++ [(op, k)] = v at *
  have lv : v.length = p.length + 1 := by rw [← hv]; simp
  have em := mh_sl (m := dp) hp hw
  -- the value and the bounding
  obtain ⟨cy1, wd1, w1, w2, w3, w4⟩ := wk_line (f := f) (t := t) (d := d) (G := G) hD v s cy wd dp (wd s + 1) hA1 (by omega) (fun q hq => (hp.1 q hq).1) (hp.2 _) (fun j a b => hz j a (by omega)) (by omega) (by rw [hz _ (by omega) (by omega)]; decide) (by rw [em]; split at b3 <;> omega)
  rw [em] at w1
  rw [lv, hz _ (by omega) (by omega), Nat.max_eq_right (by omega)] at w2
  rw [lv] at w1 w3 w4
  have ej : s + (p.length + 1) = s + p.length + 1 := by omega
  rw [ej] at w1 w2 w3 w4 hAL
  have eE : s + (p.length + 1 + 1 + b.length + 1) = s + p.length + b.length + 3 := by omega
  rw [eE] at hl b2 hz ⊢
  have etg : p.length + 3 + b.length + s = s + p.length + b.length + 3 := by omega
  rw [etg] at hAL
  have cE : cy1 (s + p.length + b.length + 3) = cy (s + p.length + b.length + 3) := (w4 _ (by omega) (by omega)).1
  by_cases hk0 : k = 0
  · subst hk0
    rw [if_pos rfl] at b3 ⊢
    have p1 := pw_loop0 (D := D) (C := C) (f := f) (t := t) (d := d) (G := G) (j := s + p.length) (o := op) (tg := s + p.length + b.length + 3) (w := wd s) (cy := cy1) (wd := wd1) (dp := max dp (wd s + mh v 0 0)) hD (by omega) hAL hAo (by omega) (by omega) w3 (by omega) (by rw [cE]; exact b2) (by rw [w2]; omega) (by omega)
    refine ⟨p.length + 1 + 1, _, _, _, by omega, wk_app w1 (wk_1 p1), ?_, va_up_self _ _ _, by omega, fun j hj hn => ?_⟩
    · rw [va_up_self, cE, w2]
      congr 1
      omega
    · rw [va_up_ne' hn, va_up_ne' hn]
      exact w4 j (by omega) (by omega)
  · rw [if_neg hk0] at b3 ⊢
    have hkT : 3 + T ≤ k * (3 + T) := Nat.le_mul_of_pos_left _ (by omega)
    have z2 : cy1 (s + p.length + 2) = 0 := by
      rw [(w4 _ (by omega) (by omega)).1]
      exact hz _ (by omega) (by omega)
    have p1 := pw_loop (D := D) (C := C) (f := f) (t := t) (d := d) (G := G) (j := s + p.length) (o := op) (r := k) (tg := s + p.length + b.length + 3) (cy := cy1) (wd := wd1) (dp := max dp (wd s + mh v 0 0)) (by omega) (by omega) hAL hAo (by omega) hk0 (by rw [z2]; decide) (by rw [w2]; omega) (by rw [w3]; omega) (by omega)
    rw [w3, w2, z2, Nat.max_eq_right (Nat.zero_le _)] at p1
    generalize hc2 : va_up cy1 (s + p.length + 2) (cy s + cst v + 1) = cy2 at p1
    generalize hd2 : va_up wd1 (s + p.length + 2) (wd s + 1) = wd2 at p1
    have q2 : cy2 (s + p.length + 2) = cy s + cst v + 1 := by rw [← hc2, va_up_self]
    have q3 : wd2 (s + p.length + 2) = wd s + 1 := by rw [← hd2, va_up_self]
    have q4 : ∀ j, j ≠ s + p.length + 2 → cy2 j = cy1 j ∧ wd2 j = wd1 j := fun j hj => by rw [← hc2, ← hd2, va_up_ne' hj, va_up_ne' hj]; exact ⟨rfl, rfl⟩
    have eb : s + (p.length + 1 + 1) = s + p.length + 2 := by omega
    have eb2 : p.length + 2 + s = s + p.length + 2 := by omega
    rw [eb, eb2] at hAb
    have eJ : s + (p.length + 1 + 1 + b.length) = s + p.length + 2 + b.length := by omega
    have eJ2 : p.length + 1 + s = s + p.length + 1 := by omega
    rw [eJ, eJ2] at hAJ
    have cJ : b ≠ [] → cy2 (s + p.length + 2 + b.length) = 0 := fun hb0 => by
      have := lpos hb0
      rw [(q4 _ (by omega)).1, (w4 _ (by omega) (by omega)).1]
      exact hz _ (by omega) (by omega)
    have cJ2 : cy2 (s + p.length + 2 + b.length) ≤ cy s + cst v + 1 := by
      by_cases hb0 : b = []
      · subst hb0
        show cy2 (s + p.length + 2) ≤ _
        omega
      · rw [cJ hb0]
        omega
    obtain ⟨n, cy3, wd3, dp3, x1, x2, x3, x4, x5, x6⟩ := hb (s + p.length + 2) cy2 wd2 (max (max dp (wd s + mh v 0 0)) (wd s + 1)) hAb (by omega) (fun q hq e => hG q (List.mem_append_left _ (List.mem_append_right _ (mem_sh17 hq e))) e) (fun j a c => by
      rw [(q4 _ (by omega)).1, (w4 _ (by omega) (by omega)).1]
      exact hz _ (by omega) (by omega)) (by rw [q3]; omega) (by rw [q2]; omega) (by omega) (by rw [q3]; omega)
    rw [q2] at x3
    rw [q3] at x4 x5
    have y1 : cy3 (s + p.length + 1) = cy s + cst v := by rw [(x6 _ (by omega) (by omega)).1, (q4 _ (by omega)).1, w2]
    have y2 : wd3 (s + p.length + 1) = wd s + 1 := by rw [(x6 _ (by omega) (by omega)).2, (q4 _ (by omega)).2, w3]
    have y3 : cy3 (s + p.length + b.length + 3) = cy (s + p.length + b.length + 3) := by rw [(x6 _ (by omega) (by omega)).1, (q4 _ (by omega)).1, cE]
    have y4 : cy3 (s + p.length + 2 + b.length) = cy s + cst v + 1 + T := by rw [x3]; omega
    have p2 := pw_back (D := D) (C := C) (f := f) (t := t) (d := d) (G := G) (k := s + p.length + 2 + b.length) (j := s + p.length) (o := op) (r := k) (tg := s + p.length + b.length + 3) (w := wd s) (b := 3 + T) (cy := cy3) (wd := wd3) (dp := dp3) hD (by omega) hAJ (by omega) hAL hAo (by omega) (by omega) y2 (by omega) (by rw [y1, y4]; omega) (by rw [y3]; exact b2) (by rw [y1]; omega) (by omega)
    have eN : s + p.length + 2 + b.length + 1 = s + p.length + b.length + 3 := by omega
    rw [eN] at p2
    refine ⟨p.length + 1 + 1 + n + 1, _, _, _, by omega, wk_app (wk_app (wk_app w1 (wk_1 p1)) x2) (wk_1 p2), ?_, va_up_self _ _ _, by omega, fun j hj hn => ?_⟩
    · rw [va_up_self, y3, y1]
      congr 1
      omega
    · rw [va_up_ne' hn, va_up_ne' hn]
      have a1 := x6 j (by omega) (by omega)
      have a2 := q4 j (by omega)
      have a3 := w4 j (by omega) (by omega)
      exact ⟨a1.1.trans (a2.1.trans a3.1), a1.2.trans (a2.2.trans a3.2)⟩
theorem wc_if {v b : List In} {T E : Nat} (hD : 3 ≤ D) (hv : SL v 1) (hb : WC D C f t d G b T E) (nb : b = [] → T = 0) : WC D C f t d G (v ++ [(13, v.length + 1 + b.length)] ++ sh (v.length + 1) b) (cst v + max 3 (1 + T)) (max (mh v 0 0) E) := by
  intro s cy wd dp hA hl hG hz hw b1 b2 b3
  rw [LC_app, LC_app, LC_sl hv, LC_sh, LC_j (by omega)] at hA
  have hA1 := hA.l.l
  have hAZ := hA.l.r.h
  have hAb := hA.r
  simp only [List.length_append, List.length_cons, List.length_nil, sh_len, LC_len, Nat.zero_add] at hA1 hAZ hAb hl hz b2 ⊢
  have em := mh_sl (m := dp) hv hw
  obtain ⟨cy1, wd1, w1, w2, w3, w4⟩ := wk_line (f := f) (t := t) (d := d) (G := G) hD v s cy wd dp (wd s + 1) hA1 (by omega) (fun q hq => (hv.1 q hq).1) (hv.2 _) (fun j a b => hz j a (by omega)) (by omega) (by
    by_cases h0 : v.length = 0
    · rw [h0]; show cy s < _; omega
    · rw [hz _ (by omega) (by omega)]; decide) (by rw [em]; omega)
  rw [em] at w1
  have v0 : v ≠ [] := fun h => by
    subst h
    have := hv.2 0
    cases this
  have v1 := lpos v0
  rw [hz _ (by omega) (by omega), Nat.max_eq_right (by omega)] at w2
  have eE : s + (v.length + 1 + b.length) = s + v.length + b.length + 1 := by omega
  rw [eE] at hl b2 hz ⊢
  have etg : v.length + 1 + b.length + s = s + v.length + b.length + 1 := by omega
  rw [etg] at hAZ
  have eb : s + (v.length + 1) = s + v.length + 1 := by omega
  have eb2 : v.length + 1 + s = s + v.length + 1 := by omega
  rw [eb, eb2] at hAb
  have cE : cy1 (s + v.length + b.length + 1) = cy (s + v.length + b.length + 1) := (w4 _ (by omega) (by omega)).1
  have cB : cy1 (s + v.length + 1) < 2 ^ 62 := by
    rw [(w4 _ (by omega) (by omega)).1]
    by_cases hb0 : b = []
    · subst hb0; exact b2
    · have := lpos hb0
      rw [hz _ (by omega) (by omega)]; decide
  have p1 := pw_zero (D := D) (C := C) (f := f) (t := t) (d := d) (G := G) (k := s + v.length) (a := s + v.length + b.length + 1) (w := wd s) (cy := cy1) (wd := wd1) (dp := max dp (wd s + mh v 0 0)) (by omega) (by omega) hAZ w3 (by omega) (by rw [cE]; exact b2) cB (by rw [w2]; omega) (by omega) (by omega)
  rw [w2, cE] at p1
  generalize hc2 : va_up (va_up cy1 (s + v.length + b.length + 1) (max (cy (s + v.length + b.length + 1)) (cy s + cst v + 3))) (s + v.length + 1) (max (va_up cy1 (s + v.length + b.length + 1) (max (cy (s + v.length + b.length + 1)) (cy s + cst v + 3)) (s + v.length + 1)) (cy s + cst v + 1)) = cy2 at p1
  generalize hd2 : va_up (va_up wd1 (s + v.length + b.length + 1) (wd s)) (s + v.length + 1) (wd s) = wd2 at p1
  have q1 : ∀ j, j ≠ s + v.length + 1 → j ≠ s + v.length + b.length + 1 → cy2 j = cy1 j ∧ wd2 j = wd1 j := fun j h1 h2 => by rw [← hc2, ← hd2, va_up_ne' h1, va_up_ne' h1, va_up_ne' h2, va_up_ne' h2]; exact ⟨rfl, rfl⟩
  have q2 : b = [] → cy2 (s + v.length + 1) = max (cy (s + v.length + b.length + 1)) (cy s + cst v + 3) := fun hb0 => by
    subst hb0
    rw [← hc2, va_up_self]
    show max (va_up _ (s + v.length + 1) _ _) _ = _
    rw [va_up_self]
    omega
  have q3 : b ≠ [] → cy2 (s + v.length + 1) = cy s + cst v + 1 ∧ cy2 (s + v.length + b.length + 1) = max (cy (s + v.length + b.length + 1)) (cy s + cst v + 3) := fun hb0 => by
    have := lpos hb0
    rw [← hc2, va_up_self, va_up_ne' (by omega), (w4 _ (by omega) (by omega)).1, hz _ (by omega) (by omega), va_up_ne' (by omega), va_up_self]
    exact ⟨Nat.max_eq_right (Nat.zero_le _), rfl⟩
  have q4 : wd2 (s + v.length + 1) = wd s := by rw [← hd2, va_up_self]
  have q5 : cy2 (s + v.length + 1) + T ≤ max (cy (s + v.length + b.length + 1)) (cy s + cst v + max 3 (1 + T)) := by
    by_cases hb0 : b = []
    · rw [q2 hb0, nb hb0]; omega
    · rw [(q3 hb0).1]; omega
  have eN : s + v.length + 1 + b.length = s + v.length + b.length + 1 := by omega
  have q6 : max (cy2 (s + v.length + b.length + 1)) (cy2 (s + v.length + 1) + T) = max (cy (s + v.length + b.length + 1)) (cy s + (cst v + max 3 (1 + T))) := by
    by_cases hb0 : b = []
    · have := nb hb0
      have e2 := q2 hb0
      subst hb0
      show max (cy2 (s + v.length + 1)) _ = _
      rw [e2, this]
      omega
    · rw [(q3 hb0).1, (q3 hb0).2]; omega
  obtain ⟨n, cy3, wd3, dp3, x1, x2, x3, x4, x5, x6⟩ := hb (s + v.length + 1) cy2 wd2 (max (max dp (wd s + mh v 0 0)) (wd s)) hAb (by omega) (fun q hq e => hG q (List.mem_append_right _ (mem_sh17 hq e)) e) (fun j a c => by
      rw [(q1 _ (by omega) (by omega)).1, (w4 _ (by omega) (by omega)).1]
      exact hz _ (by omega) (by omega)) (by rw [q4]; omega) (by omega) (by rw [eN]; omega) (by rw [q4]; omega)
  rw [eN] at x2 x3 x4 x6
  rw [q4] at x4 x5
  refine ⟨v.length + 1 + n, cy3, wd3, dp3, by omega, wk_app (wk_app w1 (wk_1 p1)) x2, by rw [x3, q6], x4, by rw [x5]; omega, fun j hj hn => ?_⟩
  have a1 := x6 j (by omega) hn
  have a2 := q1 j (by omega) hn
  have a3 := w4 j (by omega) (by omega)
  exact ⟨a1.1.trans (a2.1.trans a3.1), a1.2.trans (a2.2.trans a3.2)⟩
end WKS
