/-! The reference: reads, whole. -/
def NC (K : List In) : Prop := ∀ x ∈ K, x.1 < 20 ∧ (x.1 = 17 → x.2 < 4)
theorem m1_cb {tx : Nat → Nat} {i j : Nat} {c m : List In} (h : m1 tx i = some (j, c, m)) : CB c := by
  obtain ⟨T, D, hs⟩ := mx_block (mx_T (tx := tx) 5) i j c m h
  exact sc_cb hs
theorem uo_le (p : Nat) : 18 ≤ uo p ∧ uo p ≤ 19 := by unfold uo; split <;> omega
theorem NC.add {K c : List In} {k p : Nat} (h : NC K) (hc : CB c) : NC (K ++ (sh k c ++ [(uo p, 0)])) := fun x hx => by
  rcases List.mem_append.mp hx with hx | hx
  · exact h x hx
  rcases List.mem_append.mp hx with hx | hx
  · have := cb_sh (L := k + c.length) hc (Nat.le_refl _) hx
    exact ⟨by omega, this.2.1⟩
  · rw [List.mem_singleton.mp hx]
    have := uo_le p
    exact ⟨by dsimp only; omega, fun q => by dsimp only at q; omega⟩
theorem clb_app (a b : List In) (p : Nat) : clb (a ++ b) p = (clb a p || clb b p) := by unfold clb; rw [List.any_append]
theorem clb_sh (k : Nat) (c : List In) (p : Nat) : clb (sh k c) p = clb c p := by
  unfold clb sh
  rw [List.any_map]
  congr 1
  funext q
  show (_ : Bool) = _
  dsimp only [Function.comp]
  by_cases h : q.1 = 13 ∨ q.1 = 14 ∨ q.1 = 15
  · rw [if_pos h]
    have h17 : (q.1 == 17) = false := by
      rw [beq_eq_false_iff_ne]
      omega
    dsimp only
    rw [h17]
    rfl
  · rw [if_neg h]
theorem clb_add (K c : List In) (k r p : Nat) : clb (K ++ (sh k c ++ [(uo r, 0)])) p = (clb K p || clb c p) := by
  rw [clb_app, clb_app, clb_sh]
  have : clb [(uo r, 0)] p = false := by
    unfold clb
    have h17 : (uo r == 17) = false := by
      rw [beq_eq_false_iff_ne]
      have := uo_le r
      omega
    simp only [List.any_cons, List.any_nil, h17, Bool.false_and, Bool.or_false]
  rw [this, Bool.or_false]
theorem allThere_iff (u : UN) (k : Nat → Bool) : allThere u k = true ↔ ∀ p, p < 4 → k p = true → u p ≠ none := by
  unfold allThere
  rw [List.all_eq_true]
  constructor
  · intro h p hp hk hn
    have := h p (List.mem_range.mpr hp)
    rw [hk, hn] at this
    cases this
  · intro h p hp
    have hp := List.mem_range.mp hp
    cases hk : k p with
    | false => rfl
    | true =>
      have := h p hp hk
      cases hu : u p with
      | none => exact absurd hu this
      | some q => rfl
def zc (u : UN) : Nat := (if u 0 = none then 1 else 0) + (if u 1 = none then 1 else 0) + (if u 2 = none then 1 else 0) + (if u 3 = none then 1 else 0)
theorem zc_up {u : UN} {p : Nat} {q : Nat × List In} (hp : p < 4) (h : u p = none) : zc (va_up u p (some q)) + 1 = zc u := by
  have h1 : va_up u p (some q) p = some q := by rw [va_up_self]
  have h2 : ∀ r, r ≠ p → va_up u p (some q) r = u r := fun r hr => va_up_ne' hr
  have : p = 0 ∨ p = 1 ∨ p = 2 ∨ p = 3 := by omega
  unfold zc
  rcases this with rfl | rfl | rfl | rfl
  · rw [h1, h2 1 (by decide), h2 2 (by decide), h2 3 (by decide), if_pos h, if_neg (by simp)]; omega
  · rw [h1, h2 0 (by decide), h2 2 (by decide), h2 3 (by decide), if_pos h, if_neg (show ¬ some q = none by simp)]; omega
  · rw [h1, h2 0 (by decide), h2 1 (by decide), h2 3 (by decide), if_pos h, if_neg (show ¬ some q = none by simp)]; omega
  · rw [h1, h2 0 (by decide), h2 1 (by decide), h2 2 (by decide), if_pos h, if_neg (show ¬ some q = none by simp)]
theorem zc_0 {u : UN} (h : zc u = 0) {p : Nat} (hp : p < 4) : u p ≠ none := fun q => by
  unfold zc at h
  have : p = 0 ∨ p = 1 ∨ p = 2 ∨ p = 3 := by omega
  rcases this with rfl | rfl | rfl | rfl <;> rw [if_pos q] at h <;> omega
def OUTC (e : Nat) (lv : Nat → Nat → Int64) (n : Nat) (tx : Nat → Nat) (iv : Nat → Int32) (av : Nat → Nat → Int32) (R : Option UN) : Prop := match R with
  | some u => ∃ iv' av' K Mk F G, QF iv av iv' av' ∧ RH e lv iv av (some (.int 1), xs iv' av' lv) ∧ GS n tx iv' av' n K Mk [] 0 ∧ RU tx av' K Mk u F G ∧ NC K
  | none => ∃ iv' av', QF iv av iv' av' ∧ RH e lv iv av (some (.int 0), xs iv' av' lv)
theorem OUTC.pre {e : Nat} {lv : Nat → Nat → Int64} {n : Nat} {tx : Nat → Nat} {iv iv1 : Nat → Int32} {av av1 : Nat → Nat → Int32} {R : Option UN} (h : OUTC e lv n tx iv1 av1 R) (f : QF iv av iv1 av1) (g : ∀ x, RH e lv iv1 av1 x → RH e lv iv av x) : OUTC e lv n tx iv av R := by
  cases R with
  | none =>
    obtain ⟨iv', av', a, b⟩ := h
    exact ⟨iv', av', f.tr a, g _ b⟩
  | some u =>
    obtain ⟨iv', av', K, Mk, F, G, a, b, c⟩ := h
    exact ⟨iv', av', K, Mk, F, G, f.tr a, g _ b, c⟩
def pe (tx : Nat → Nat) (n : Nat) (r : Option (Nat × UN × (Nat → Bool))) : Option UN := r.bind (fun q => (p1 tx q.1).bind (fun b => if b.1 = n ∧ allThere q.2.1 (kc q.2.2 b.2) = true then some (va_up q.2.1 4 (some (q.1, b.2))) else none))
section MPG
variable {e : Nat} {iv : Nat → Int32} {av : Nat → Nat → Int32} {lv : Nat → Nat → Int64} {n i j : Nat} {tx : Nat → Nat} {K Mk : List In} {u : UN} {F G : Nat → Nat}
theorem rh_end (h : GS n tx iv av i K Mk [] 0) (hru : RU tx av K Mk u F G) (h4 : u 4 ≠ none) (hnc : NC K) :
    (i = n ∧ (∀ x ∈ K, x.1 = 17 → u x.2 ≠ none) ∧ RH e lv iv av (some (.int 1), xs iv av lv)) ∨ (¬ (i = n ∧ ∀ x ∈ K, x.1 = 17 → u x.2 ≠ none) ∧ RH e lv iv av (some (.int 0), xs iv av lv)) := by
  have h14 : iv 14 = nI K.length := h.2.2.1.1
  have hkl := h.2.2.2.2.2.1
  have hi := h.2.1.2
  have hn := h.1.2.1
  have fin0 : ∀ m k, m + k = K.length → xe e xt_94 119 [some (.ref 27), some (.int 0), some (.int (nI k))] [] (xs iv av lv) (some (.int 0), xs iv av lv) := by
    intro m
    induction m with
    | zero =>
      intro k hk
      refine xb_94_119 (fun g => ?_) (fun _ => xb_94_168 (Or.inl rfl))
      rw [h14] at g
      exact absurd (nI_ltI (by omega) (by omega) |>.mp g) (by omega)
    | succ m ih =>
      intro k hk
      refine xb_94_119 (fun _ => xb_94_127 (fun _ => xb_94_160 (xb_94_161 ?_)) (fun g => absurd rfl g)) (fun g => ?_)
      · rw [nI_1]
        exact ih (k + 1) (by omega)
      · rw [h14] at g
        exact absurd (nI_lt (by omega) (by omega)) g
  have fin1 : ∀ m k, m + k = K.length → ((∀ j x, k ≤ j → K[j]? = some x → x.1 = 17 → u x.2 ≠ none) ∧ xe e xt_94 119 [some (.ref 27), some (.int 1), some (.int (nI k))] [] (xs iv av lv) (some (.int 1), xs iv av lv)) ∨ (¬ (∀ j x, k ≤ j → K[j]? = some x → x.1 = 17 → u x.2 ≠ none) ∧ xe e xt_94 119 [some (.ref 27), some (.int 1), some (.int (nI k))] [] (xs iv av lv) (some (.int 0), xs iv av lv)) := by
    intro m
    induction m with
    | zero =>
      intro k hk
      refine Or.inl ⟨fun j x hj hx => ?_, xb_94_119 (fun g => ?_) (fun _ => xb_94_168 (Or.inr rfl))⟩
      · have := (List.getElem?_eq_some_iff.mp hx).1
        omega
      · rw [h14] at g
        exact absurd (nI_ltI (by omega) (by omega) |>.mp g) (by omega)
    | succ m ih =>
      intro k hk
      obtain ⟨⟨o, a⟩, hx⟩ : ∃ x, K[k]? = some x := ⟨K[k]'(by omega), List.getElem?_eq_getElem _⟩
      have hm := hnc _ (List.mem_of_getElem? hx)
      dsimp only at hm
      obtain ⟨e29, e30⟩ := h.2.2.1.2 k o a hx
      have hb := h.k500 (q := k) (by omega)
      have ek : (nI k).toNatClampNeg = k := nI_clamp (by omega)
      have pre : ∀ x, xe e xt_94 137 [some (.ref 27), none, some (.int (nI k))] [.int (nI o)] (xs iv av lv) x → xe e xt_94 119 [some (.ref 27), some (.int 1), some (.int (nI k))] [] (xs iv av lv) x := fun x hx => by
        refine xb_94_119 (fun _ => xb_94_127 (fun g => absurd g (by decide)) (fun _ => xb_94_131 hb ?_)) (fun g => ?_)
        · rw [ek, e29]
          exact hx
        · rw [h14] at g
          exact absurd (nI_lt (by omega) (by omega)) g
      have good : (o = 17 → u a ≠ none) → ∀ x, xe e xt_94 119 [some (.ref 27), some (.int 1), some (.int (nI (k + 1)))] [] (xs iv av lv) x → xe e xt_94 119 [some (.ref 27), some (.int 1), some (.int (nI k))] [] (xs iv av lv) x := fun hg x hx => by
        refine pre x (xb_94_137 (fun g => xb_94_142 hb ?_) (fun _ => xb_94_156 (xb_94_161 (by rw [nI_1]; exact hx))))
        have h17 : o = 17 := (nI_eq (b := 17) (by omega) (by omega)).mp g
        rw [ek, e30]
        refine xb_94_152 (nI_bd (by have := hm.2 h17; omega) (by omega)) ?_
        rw [nI_clamp (by have := hm.2 h17; omega), hru.1 a (by have := hm.2 h17; omega), if_neg (hg h17)]
        exact xb_94_153 (fun g => absurd g (by decide)) (fun _ => xb_94_156 (xb_94_161 (by rw [nI_1]; exact hx)))
      by_cases hg : o = 17 → u a ≠ none
      · rcases ih (k + 1) (by omega) with ⟨p1, p2⟩ | ⟨p1, p2⟩
        · refine Or.inl ⟨fun j x hj hxj => ?_, good hg _ p2⟩
          by_cases hjk : j = k
          · subst hjk
            rw [hx] at hxj
            cases hxj
            exact hg
          · exact p1 j x (by omega) hxj
        · exact Or.inr ⟨fun q => p1 (fun j x hj => q j x (by omega)), good hg _ p2⟩
      · obtain ⟨h17, hu⟩ := Classical.not_imp.mp hg
        have hu := Classical.not_not.mp hu
        refine Or.inr ⟨fun q => q k (o, a) (Nat.le_refl _) hx h17 hu, pre _ (xb_94_137 (fun g => xb_94_142 hb ?_) (fun g => absurd (by rw [h17]; rfl) g))⟩
        rw [ek, e30]
        refine xb_94_152 (nI_bd (by have := hm.2 h17; omega) (by omega)) ?_
        rw [nI_clamp (by have := hm.2 h17; omega), hru.1 a (by have := hm.2 h17; omega), if_pos hu]
        exact xb_94_153 (fun _ => xb_94_160 (xb_94_161 (by rw [nI_1]; exact fin0 m (k + 1) (by omega)))) (fun g => absurd rfl g)
  have head : ∀ x, (if i = n then xe e xt_94 119 [some (.ref 27), some (.int 1), some (.int (nI 0))] [] (xs iv av lv) x else xe e xt_94 119 [some (.ref 27), some (.int 0), some (.int (nI 0))] [] (xs iv av lv) x) → RH e lv iv av x := fun x hx o1 o2 => by
    have h37 : av 37 (4 : Int32).toNatClampNeg = 1 := by
      have := hru.1 4 (by omega)
      rw [if_neg h4] at this
      exact this
    have h18 : iv 18 = 0 := h.2.2.2.2.1.1
    refine xb_94_40 ?_
    rw [h37]
    refine xb_94_46 (fun g => absurd g (by decide)) (fun _ => xb_94_49 (fun g => ?_) (fun _ => xb_94_100 (fun g => ?_) (fun g => ?_)))
    · rw [h18] at g
      exact absurd g (by decide)
    · rw [h.2.1.1, h.1.1] at g
      rw [if_pos ((nI_eq (by omega) (by omega)).mp g)] at hx
      exact xb_94_111 (xb_94_116 hx)
    · rw [h.2.1.1, h.1.1] at g
      rw [if_neg (fun q => g (by rw [q]))] at hx
      exact xb_94_115 (xb_94_116 hx)
  by_cases hin : i = n
  · rcases fin1 K.length 0 rfl with ⟨p1, p2⟩ | ⟨p1, p2⟩
    · refine Or.inl ⟨hin, fun x hx h17 => ?_, head _ (by rw [if_pos hin]; exact p2)⟩
      obtain ⟨j, hj⟩ := List.mem_iff_getElem?.mp hx
      exact p1 j x (by omega) hj h17
    · exact Or.inr ⟨fun q => p1 (fun j x _ hx h17 => q.2 x (List.mem_of_getElem? hx) h17), head _ (by rw [if_pos hin]; exact p2)⟩
  · exact Or.inr ⟨fun q => hin q.1, head _ (by rw [if_neg hin]; exact fin0 K.length 0 rfl)⟩
theorem p1_of {r : MR} (h : m1 tx i = r) : p1 tx i = fg r := by rw [← fg_m1, h]
theorem m_main {kf : Nat → Bool} (he : 7 ≤ e) (h : GS n tx iv av i K Mk [] 0) (hru : RU tx av K Mk u F G) (h4 : u 4 = none) (hnc : NC K) (hkf : ∀ p, kf p = clb K p) (hl : ¬ (65 ≤ tx i ∧ tx i < 65 + 4)) : OUTC e lv n tx iv av (pe tx n (some (i, u, kf))) := by
  obtain ⟨e', rfl⟩ : ∃ e', e = e' + 1 := ⟨e - 1, by omega⟩
  have hle := h.1.le i
  have ru := rh_unit (lv := lv) (p := 4) (i0 := i) (a2 := 0) he h hru h4 (by omega) h4 (Nat.le_refl _) h.2.1.2 rfl (fun x hx => by
    have s21 : xe e' xt_93 21 [some (.ref 27), some (.int (nI (tx i))), none] [] (xs iv av lv) x := by
      refine xb_93_21 (xb_93_22 (fun _ => xb_93_35 (xb_93_36 (fun _ => xb_93_53 ?_) (fun g => absurd rfl g))) (fun g => absurd rfl g))
      rw [show upd iv 19 4 13 = nI i from h.2.1.1]
      exact hx
    refine xm_of (nL := 3) rfl rfl (xb_93_0 (h.lk (by omega)) (xb_93_4 (fun _ => s21) (fun g1 => xb_93_11 (fun _ => s21) (fun g2 => absurd ?_ hl))))
    have a1 : ¬ tx i < 65 := fun q => g1 (show nI (tx i) < nI 65 from nI_lt q (by omega))
    have a2 : ¬ 68 < tx i := fun q => g2 (show nI 68 < nI (tx i) from nI_lt q (by omega))
    omega)
  unfold pe
  rw [Option.bind_some]
  cases hm : m1 tx i with
  | none =>
    rw [hm] at ru
    rw [p1_of hm]
    exact ru
  | some q =>
    rw [hm] at ru
    rw [p1_of hm]
    obtain ⟨iv1, av1, f1, v1, r1, x1⟩ := ru
    obtain ⟨j, c, m⟩ := q
    show OUTC (e' + 1) lv n tx iv av (if j = n ∧ allThere u (kc kf c) = true then some (va_up u 4 (some (i, c))) else none)
    have nc1 := hnc.add (k := K.length) (p := 4) (m1_cb hm)
    have hall : allThere u (kc kf c) = true ↔ ∀ x ∈ K ++ (sh K.length c ++ [(uo 4, 0)]), x.1 = 17 → va_up u 4 (some (i, c)) x.2 ≠ none := by
      rw [allThere_iff]
      constructor
      · intro q x hx h17
        have hx4 := (nc1 x hx).2 h17
        rw [va_up_ne' (by omega)]
        refine q x.2 hx4 ?_
        show (kf x.2 || clb c x.2) = true
        rw [hkf, ← clb_add K c K.length 4]
        refine clb_iff.mpr ?_
        obtain ⟨a, b⟩ := x
        dsimp only at h17
        subst h17
        exact hx
      · intro q p hp hk
        have hk : (kf p || clb c p) = true := hk
        rw [hkf, ← clb_add K c K.length 4] at hk
        have := q (17, p) (clb_iff.mp hk) rfl
        dsimp only at this
        rw [va_up_ne' (by omega)] at this
        exact this
    rcases rh_end (e := e' + 1) (lv := lv) v1 r1 (by rw [va_up_self]; simp) nc1 with ⟨g1, g2, g3⟩ | ⟨g1, g3⟩
    · dsimp only at g1
      rw [if_pos ⟨g1, hall.mpr g2⟩]
      subst g1
      exact ⟨iv1, av1, _, _, _, _, f1, x1 _ g3, v1, r1, nc1⟩
    · rw [if_neg (fun q => g1 ⟨q.1, hall.mp q.2⟩)]
      exact ⟨iv1, av1, f1, x1 _ g3⟩
theorem m_procs (he : 7 ≤ e) : ∀ m iv av i K Mk u F G kf, GS n tx iv av i K Mk [] 0 → RU tx av K Mk u F G → u 4 = none → zc u = m → NC K → (∀ p, kf p = clb K p) → OUTC e lv n tx iv av (pe tx n (pProcs tx m i u kf)) := by
  intro m
  induction m with
  | zero =>
    intro iv av i K Mk u F G kf h hru h4 hz hnc hkf
    by_cases hl : 65 ≤ tx i ∧ tx i < 65 + 4
    case neg => exact m_main he h hru h4 hnc hkf hl
    have hle := h.1.le i
    have : pe tx n (pProcs tx 0 i u kf) = none := by
      show (p1 tx i).bind _ = none
      have : p1 tx i = none := by
        unfold p1 pBlock
        rw [if_neg (by omega)]
      rw [this]
      rfl
    rw [this]
    obtain ⟨e', rfl⟩ : ∃ e', e = e' + 1 := ⟨e - 1, by omega⟩
    refine ⟨upd (upd iv 19 (nI (tx i - 65))) 13 (nI (i + 1)), av, ⟨fun q a => by rw [upd_ne' (by omega), upd_ne' (by omega)], fun _ _ => rfl⟩, rh_beg h hru h4 (Or.inr ⟨?_, rfl⟩)⟩
    refine xm_of (nL := 3) rfl rfl (xb_93_0 (h.lk (by omega)) (xb_93_4 (fun g => absurd ((nI_ltI (b := 65) (by omega) (by omega)).mp g) (by omega)) (fun _ => xb_93_11 (fun g => absurd ((nI_ltI (a := 68) (by omega) (by omega)).mp g) (by omega)) (fun _ => xb_93_17 (xb_93_22 (fun g => absurd g (by decide)) (fun _ => xb_93_28 ?_))))))
    rw [show nI (tx i) - 65 = nI (tx i - 65) from pk_sub (b := 65) hl.1]
    refine xb_93_36 (fun g => absurd g (by decide)) (fun _ => xb_93_44 ?_)
    have e13 : upd iv 19 (nI (tx i - 65)) 13 = nI i := h.2.1.1
    have e19 : upd iv 19 (nI (tx i - 65)) 19 = nI (tx i - 65) := upd_eq'
    rw [e13, nI_1]
    refine xb_93_57 (by rw [e19]; exact nI_bd (by omega) (by omega)) ?_
    rw [e19, nI_clamp (by omega), hru.1 _ (by omega), if_neg (zc_0 hz (by omega))]
    exact xb_93_69 (fun g => absurd g (by decide)) (fun _ => xb_93_72)
  | succ m ih =>
    intro iv av i K Mk u F G kf h hru h4 hz hnc hkf
    by_cases hl : 65 ≤ tx i ∧ tx i < 65 + 4
    case neg =>
      unfold pProcs
      rw [if_neg hl]
      exact m_main he h hru h4 hnc hkf hl
    have hle := h.1.le i
    have hin : i < n := h.1.lt (by omega)
    have hn := h.1.2.1
    unfold pProcs
    rw [if_pos hl]
    obtain ⟨e', rfl⟩ : ∃ e', e = e' + 1 := ⟨e - 1, by omega⟩
    have go : ∀ x, xe e' xt_93 57 [some (.ref 27), none, some (.int 1)] [.int (nI (i + 1)), .ref 27] (xs (upd iv 19 (nI (tx i - 65))) av lv) x → xm (e' + 1) 93 [.ref 27] (xs iv av lv) x := fun x hx => by
      refine xm_of (nL := 3) rfl rfl (xb_93_0 (h.lk (by omega)) (xb_93_4 (fun g => absurd ((nI_ltI (b := 65) (by omega) (by omega)).mp g) (by omega)) (fun _ => xb_93_11 (fun g => absurd ((nI_ltI (a := 68) (by omega) (by omega)).mp g) (by omega)) (fun _ => xb_93_17 (xb_93_22 (fun g => absurd g (by decide)) (fun _ => xb_93_28 ?_))))))
      rw [show nI (tx i) - 65 = nI (tx i - 65) from pk_sub (b := 65) hl.1]
      refine xb_93_36 (fun g => absurd g (by decide)) (fun _ => xb_93_44 ?_)
      rw [show upd iv 19 (nI (tx i - 65)) 13 = nI i from h.2.1.1, nI_1]
      exact hx
    by_cases hu : u (tx i - 65) = none
    · rw [if_pos hu]
      have ru := rh_unit (lv := lv) (p := tx i - 65) (i0 := i + 1) (a2 := 1) he h hru h4 (by omega) hu (by omega) (by omega) (by rw [if_neg (by omega)]) go
      cases hm : m1 tx (i + 1) with
      | none =>
        rw [hm] at ru
        rw [p1_of hm]
        exact ru
      | some q =>
        rw [hm] at ru
        rw [p1_of hm]
        obtain ⟨iv1, av1, f1, v1, r1, x1⟩ := ru
        obtain ⟨j, c, m'⟩ := q
        show OUTC (e' + 1) lv n tx iv av (pe tx n (pProcs tx m j (va_up u (tx i - 65) (some (i + 1, c))) (kc kf c)))
        refine (ih iv1 av1 j _ _ _ _ _ _ v1 r1 ?_ ?_ (hnc.add (m1_cb hm)) (fun p => ?_)).pre f1 x1
        · rw [va_up_ne' (by omega)]
          exact h4
        · have := zc_up (q := (i + 1, c)) (show tx i - 65 < 4 by omega) hu
          dsimp only
          omega
        · rw [clb_add]
          show (kf p || clb c p) = _
          rw [hkf]
    · rw [if_neg hu]
      refine ⟨upd (upd iv 19 (nI (tx i - 65))) 13 (nI (i + 1)), av, ⟨fun q a => by rw [upd_ne' (by omega), upd_ne' (by omega)], fun _ _ => rfl⟩, rh_beg h hru h4 (Or.inr ⟨go _ ?_, rfl⟩)⟩
      have e19 : upd iv 19 (nI (tx i - 65)) 19 = nI (tx i - 65) := upd_eq'
      refine xb_93_57 (by rw [e19]; exact nI_bd (by omega) (by omega)) ?_
      rw [e19, nI_clamp (by omega), hru.1 _ (by omega), if_neg hu]
      exact xb_93_69 (fun g => absurd g (by decide)) (fun _ => xb_93_72)
/-- the reference reads a program as pProg says -/
theorem m_reads {D : Nat} (hD : 8 ≤ D) (h : MT iv av n tx) :
    (∃ u iv' av' K Mk F G, pProg tx n = some u ∧ QF iv av iv' av' ∧ xm D 94 [.ref 27] (xs iv av lv) (some (.int 1), xs iv' av' lv) ∧ GS n tx iv' av' n K Mk [] 0 ∧ RU tx av' K Mk u F G ∧ NC K) ∨
    (pProg tx n = none ∧ ∃ iv' av', QF iv av iv' av' ∧ xm D 94 [.ref 27] (xs iv av lv) (some (.int 0), xs iv' av' lv)) := by
  obtain ⟨e, rfl⟩ : ∃ e, D = e + 1 := ⟨D - 1, by omega⟩
  generalize hiv1 : upd (upd (upd (upd iv 13 0) 14 0) 15 0) 18 0 = iv1
  have loop : ∀ m k av1, m + k = 5 → (∀ q, q ≠ 37 → av1 q = av q) → (∀ p, p < k → av1 37 p = 0) → ∃ av2, (∀ q, q ≠ 37 → av2 q = av q) ∧ (∀ p, p < 5 → av2 37 p = 0) ∧ ∀ x, RH e lv iv1 av2 x → xe e xt_94 22 [some (.ref 27), some (.int (nI k)), none] [] (xs iv1 av1 lv) x := by
    intro m
    induction m with
    | zero =>
      intro k av1 hk hf h0
      have : k = 5 := by omega
      subst this
      exact ⟨av1, hf, h0, fun x hx => xb_94_22 (fun g => absurd g (by decide)) (fun _ => hx _ _)⟩
    | succ m ih =>
      intro k av1 hk hf h0
      obtain ⟨av2, g1, g2, g3⟩ := ih (k + 1) (va_up av1 37 (upd (av1 37) k 0)) (by omega) (fun q a => by rw [va_up_ne' a]; exact hf q a) (fun p hp => by
        show upd (av1 37) k 0 p = 0
        by_cases hpk : p = k
        · subst hpk; exact upd_eq'
        · rw [upd_ne' hpk]; exact h0 p (by omega))
      refine ⟨av2, g1, g2, fun x hx => xb_94_22 (fun _ => xb_94_27 (nI_bd (by omega) (by omega)) (xb_94_34 ?_)) (fun g => absurd (show nI k < nI 5 from nI_lt (by omega) (by omega)) g)⟩
      rw [nI_1, nI_clamp (by omega)]
      exact g3 x hx
  obtain ⟨av2, g1, g2, g3⟩ := loop 5 0 av rfl (fun _ _ => rfl) (fun p hp => by omega)
  have F0 : QF iv av iv1 av2 := by
    subst hiv1
    exact ⟨fun q a => by rw [upd_ne' (by omega), upd_ne' (by omega), upd_ne' (by omega), upd_ne' (by omega)], fun q a => g1 q (by omega)⟩
  have v0 : GS n tx iv1 av2 0 [] [] [] 0 := by
    subst hiv1
    exact ⟨h.to rfl (g1 28 (by decide)), ⟨rfl, by omega⟩, ⟨rfl, fun j o a hj => by simp at hj⟩, ⟨rfl, fun j o a hj => by simp at hj⟩, ⟨rfl, by simp, trivial⟩, by simp, by simp, by omega⟩
  have r0 : RU tx av2 [] [] (fun _ => none) (fun _ => 0) (fun _ => 0) := ⟨fun p hp => by rw [g2 p hp, if_pos rfl], fun p q hq => (by cases hq), fun k hk => by simp at hk, by rw [uP4]; rfl, fun p q r t hq => (by cases hq)⟩
  have := m_procs (e := e) (lv := lv) (by omega) 4 iv1 av2 0 [] [] (fun _ => none) _ _ (fun _ => false) v0 r0 rfl rfl (fun x hx => by cases hx) (fun p => rfl)
  have ep : pe tx n (pProcs tx 4 0 (fun _ => none) (fun _ => false)) = pProg tx n := rfl
  rw [ep] at this
  have go : ∀ x, RH e lv iv1 av2 x → xm (e + 1) 94 [.ref 27] (xs iv av lv) x := fun x hx => xm_of (nL := 3) rfl rfl (xb_94_0 (by rw [hiv1]; exact g3 x hx))
  cases hp : pProg tx n with
  | none =>
    rw [hp] at this
    obtain ⟨iv', av', f, x⟩ := this
    exact Or.inr ⟨rfl, iv', av', F0.tr f, go _ x⟩
  | some u =>
    rw [hp] at this
    obtain ⟨iv', av', K, Mk, F, G, f, x, v, r, c⟩ := this
    exact Or.inl ⟨u, iv', av', K, Mk, F, G, rfl, F0.tr f, go _ x, v, r, c⟩
end MPG
