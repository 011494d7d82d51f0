/-! More calls. -/
section CL2
variable {D d : Nat} {iv : Nat → Int32} {av : Nat → Nat → Int32} {lv : Nat → Nat → Int64}
theorem xb2_45_0 {x : xi_R} {a1 : Int32} (hc : 0 ≤ (a1 : Int32).toInt ∧ (a1 : Int32).toInt < ((5 : Nat) : Int)) (h : xe d xt_45 6 [some (.ref 16), some (.int a1)] [.int (av 19 (a1 : Int32).toNatClampNeg)] (xs iv av lv) x) : xe d xt_45 0 [some (.ref 16), some (.int a1)] [] (xs iv av lv) x := xe_if 4 (fun _ _ => rfl) hc h
theorem xb2_45_6 {x : xi_R} {a1 : Int32} {s0 : Int32} (h1 : s0 = (-1) → xe d xt_45 14 [some (.ref 16), some (.int a1)] [] (xs iv av lv) x) (h2 : ¬ s0 = (-1) → xe d xt_45 10 [some (.ref 16), some (.int a1)] [] (xs iv av lv) x) : xe d xt_45 6 [some (.ref 16), some (.int a1)] [.int s0] (xs iv av lv) x := xe_ite 2 (fun _ _ => rfl) h1 h2
theorem c_has2 {p : Nat} (hD : 1 ≤ D) (hp : p < 5) : xm D 45 [.ref 16, .int (nI p)] (xs iv av lv) (some (.int (if av 19 p = -1 then 0 else 1)), xs iv av lv) := by
  obtain ⟨d, rfl⟩ : ∃ d, D = d + 1 := ⟨D - 1, by omega⟩
  refine xm_of (nL := 2) rfl rfl (xb2_45_0 (nI_bd hp (by omega)) ?_)
  rw [nI_clamp (by omega)]
  refine xb2_45_6 (fun g => xb_45_14 ?_) (fun g => xb_45_10 ?_)
  · rw [if_pos g]; exact xb_45_15 (Or.inl rfl)
  · rw [if_neg g]; exact xb_45_15 (Or.inr rfl)
theorem l_proc (hD : 2 ≤ D) (h : LR iv av) (h20 : iv 20 = 1) (a b : Int32) : ∃ r, xm D 7 [.ref 0, .int a, .int b] (xs iv av lv) (some (.int r), xs iv av lv) ∧ MS D 108 [.ref 27, .int a, .int b] iv av 0 r := by
  obtain ⟨d, rfl⟩ : ∃ d, D = d + 1 := ⟨D - 1, by omega⟩
  have hn20 : ¬ iv 20 = 0 := by rw [h20]; decide
  rcases h.2.1 with ⟨-, e⟩ | ⟨-, tx, u, M, T, E, hu, hok, cl, ml⟩
  · exact absurd e hn20
  have x0 := c_need (D := d) (av := av) (lv := lv) (by omega) (cl_ne hu cl)
  have gc : ∀ x, xe d xt_7 4 [some (.ref 0), some (.int a), some (.int b)] [] (xs iv av lv) x → xm (d + 1) 7 [.ref 0, .int a, .int b] (xs iv av lv) x := fun x hx => xm_of (nL := 3) rfl rfl (xb_7_0 x0 hx)
  have gm : ∀ r, (∀ lv2, xe d xt_108 23 [some (.ref 27), some (.int a), some (.int b)] [] (xs (upd iv 11 0) av lv2) (some (.int r), xs (upd iv 11 0) av lv2)) → MS (d + 1) 108 [.ref 27, .int a, .int b] iv av 0 r := fun r hx => ms_th h (fun lv2 => ⟨r, fun _ => rfl, xm_of (nL := 3) rfl rfl (xb_108_0 (fun g => absurd g hn20) (fun _ => xb_108_8 (xb_108_13 (fun g => absurd g hn20) (fun _ => hx lv2))))⟩)
  have m41 : ∀ lv2 o1 o2, xe d xt_108 41 [some (.ref 27), o1, o2] [] (xs (upd iv 11 0) av lv2) (some (.int (-1)), xs (upd iv 11 0) av lv2) := fun lv2 o1 o2 => xb_108_41 (fun g => absurd g hn20) (fun _ => xb_108_48 xb_108_53)
  by_cases ha : a < 0
  · exact ⟨-1, gc _ (xb_7_4 (fun _ => xb_7_24) (fun g => absurd ha g)), gm _ (fun lv2 => xb_108_23 (fun _ => m41 _ _ _) (fun g => absurd ha g))⟩
  obtain ⟨p, hp, rfl⟩ := nI_of ha
  by_cases hp4 : p < 4
  case neg => exact ⟨-1, gc _ (xb_7_4 (fun g => absurd g ha) (fun _ => xb_7_8 (fun g => absurd ((nI_ltI (b := 4) hp (by omega)).mp g) hp4) (fun _ => xb_7_24))), gm _ (fun lv2 => xb_108_23 (fun g => absurd g ha) (fun _ => xb_108_27 (fun _ => m41 _ _ _) (fun g => absurd (show nI 3 < nI p from nI_lt (by omega) hp) g)))⟩
  have hh := c_has2 (D := d) (iv := iv) (av := av) (lv := lv) (p := p) (by omega) (by omega)
  have hb : 0 ≤ (nI p).toInt ∧ (nI p).toInt < ((5 : Nat) : Int) := nI_bd (by omega) (by omega)
  have cj : (nI p).toNatClampNeg = p := nI_clamp (by omega)
  have gc2 : ∀ x, xe d xt_7 21 [some (.ref 0), some (.int (nI p)), some (.int b)] [.int (if av 19 p = -1 then 0 else 1)] (xs iv av lv) x → xm (d + 1) 7 [.ref 0, .int (nI p), .int b] (xs iv av lv) x := fun x hx => gc x (xb_7_4 (fun g => absurd g ha) (fun _ => xb_7_8 (fun _ => xb_7_13 hh hx) (fun g => absurd ((nI_ltI (b := 4) hp (by omega)).mpr hp4) g)))
  have gm2 : ∀ r, (∀ lv2, xe d xt_108 32 [some (.ref 27), some (.int (nI p)), some (.int b)] [] (xs (upd iv 11 0) av lv2) (some (.int r), xs (upd iv 11 0) av lv2)) → MS (d + 1) 108 [.ref 27, .int (nI p), .int b] iv av 0 r := fun r hx => gm r (fun lv2 => xb_108_23 (fun g => absurd g ha) (fun _ => xb_108_27 (fun g => absurd ((nI_ltI (a := 3) (by omega) hp).mp g) (by omega)) (fun _ => hx lv2)))
  have h53 := ml.2.2.1 p (by omega)
  cases hup : u p with
  | none =>
    have e19 := cl.2.1 p (by omega) hup
    rw [if_pos e19] at gc2
    rw [if_pos hup] at h53
    refine ⟨-1, gc2 _ (xb_7_21 (fun _ => xb_7_24) (fun g => absurd rfl g)), gm2 _ (fun lv2 => xb_108_32 (fun _ => m41 _ _ _) (fun g1 => xb_108_36 (fun _ => m41 _ _ _) (fun g2 => xb_108_54 hb ?_)))⟩
    rw [cj, h53]
    exact xb_108_60 (fun _ => xb_108_63 xb_108_100) (fun g => absurd rfl g)
  | some c =>
    obtain ⟨e19, e21, e22⟩ := cl.2.2 p c hup
    obtain ⟨e54, e55, e56⟩ := ml.2.2.2 p c hup
    have hul := u_len (by omega) hup
    have hne : ¬ av 19 p = -1 := by rw [e19]; exact nI_m1 (by omega)
    rw [if_neg hne] at gc2
    rw [if_neg (by rw [hup]; simp)] at h53
    have gc3 : ∀ x, xe d xt_7 (if b = 0 then (52 : Int) else if b = 1 then 62 else if b = 2 then 72 else 82).toNat [some (.ref 0), some (.int (nI p)), some (.int b)] [] (xs iv av lv) x → xm (d + 1) 7 [.ref 0, .int (nI p), .int b] (xs iv av lv) x := fun x hx => gc2 x (xb_7_21 (fun g => absurd g (by decide)) (fun _ => xb_7_26 (by rw [sw3]; exact hx)))
    by_cases b0 : b = 0
    · subst b0
      refine ⟨_, gc3 _ (xb_7_52 hb (by rw [cj, e19]; exact xb_7_61)), gm2 _ (fun lv2 => xb_108_32 (fun g => absurd g (by decide)) (fun _ => xb_108_36 (fun g => absurd g (by decide)) (fun _ => xb_108_54 hb ?_)))⟩
      rw [cj, h53]
      refine xb_108_60 (fun g => absurd g (by decide)) (fun _ => xb_108_67 (fun _ => xb_108_71 hb ?_) (fun g => absurd rfl g))
      rw [cj, e54]
      exact xb_108_77 xb_108_100
    by_cases b1 : b = 1
    · subst b1
      refine ⟨_, gc3 _ (xb_7_62 hb (by rw [cj, e21]; exact xb_7_71)), gm2 _ (fun lv2 => xb_108_32 (fun g => absurd g (by decide)) (fun _ => xb_108_36 (fun g => absurd g (by decide)) (fun _ => xb_108_54 hb ?_)))⟩
      rw [cj, h53]
      refine xb_108_60 (fun g => absurd g (by decide)) (fun _ => xb_108_67 (fun g => absurd g (by decide)) (fun _ => xb_108_80 (fun _ => xb_108_85 hb ?_) (fun g => absurd rfl g)))
      rw [cj, e55]
      exact xb_108_91 xb_108_100
    by_cases b2 : b = 2
    · subst b2
      refine ⟨_, gc3 _ (xb_7_72 hb (by rw [cj, e22]; exact xb_7_81)), gm2 _ (fun lv2 => xb_108_32 (fun g => absurd g (by decide)) (fun _ => xb_108_36 (fun g => absurd g (by decide)) (fun _ => xb_108_54 hb ?_)))⟩
      rw [cj, h53]
      refine xb_108_60 (fun g => absurd g (by decide)) (fun _ => xb_108_67 (fun g => absurd g (by decide)) (fun _ => xb_108_80 (fun g => absurd g (by decide)) (fun _ => xb_108_94 hb ?_)))
      rw [cj, e56]
      exact xb_108_100
    refine ⟨-1, gc3 _ (by rw [if_neg b0, if_neg b1, if_neg b2]; exact xb_7_82), gm2 _ (fun lv2 => xb_108_32 (fun _ => m41 _ _ _) (fun g1 => xb_108_36 (fun _ => m41 _ _ _) (fun g2 => ?_)))⟩
    obtain ⟨k, hk, rfl⟩ := nI_of g1
    have : k ≤ 2 := by
      by_cases hk1 : k ≤ 2
      · exact hk1
      · exact absurd (show nI 2 < nI k from nI_lt (by omega) hk) g2
    have : k = 0 ∨ k = 1 ∨ k = 2 := by omega
    rcases this with rfl | rfl | rfl
    · exact absurd rfl b0
    · exact absurd rfl b1
    · exact absurd rfl b2
theorem l_set (hD : 1 ≤ D) (h : LR iv av) (a b : Int32) : ∃ r av1 av2, (r = 0 ∨ r = 1) ∧ xm D 8 [.ref 0, .int a, .int b] (xs iv av lv) (some (.int r), xs iv av1 lv) ∧ xm D 109 [.ref 27, .int a, .int b] (xs iv av1 lv) (some (.int r), xs (upd iv 11 0) av2 lv) ∧ LR (upd iv 11 0) av2 := by
  obtain ⟨d, rfl⟩ : ∃ d, D = d + 1 := ⟨D - 1, by omega⟩
  by_cases ha : a < 0
  · exact ⟨0, av, av, Or.inl rfl, xm_of (nL := 3) rfl rfl (xb_8_0 (fun _ => xb_8_10) (fun g => absurd ha g)), xm_of (nL := 3) rfl rfl (xb_109_0 (fun _ => xb_109_15) (fun g => absurd ha g)), h.th⟩
  obtain ⟨j, hj, rfl⟩ := nI_of ha
  by_cases hj14 : j < 14
  case neg => exact ⟨0, av, av, Or.inl rfl, xm_of (nL := 3) rfl rfl (xb_8_0 (fun g => absurd g ha) (fun _ => xb_8_4 (fun g => absurd ((nI_ltI (b := 14) hj (by omega)).mp g) hj14) (fun _ => xb_8_10))), xm_of (nL := 3) rfl rfl (xb_109_0 (fun g => absurd g ha) (fun _ => xb_109_9 (fun _ => xb_109_15) (fun g => absurd (show nI 13 < nI j from nI_lt (by omega) hj) g))), h.th⟩
  have hb : 0 ≤ (nI j).toInt ∧ (nI j).toInt < ((14 : Nat) : Int) := nI_bd hj14 (by omega)
  have cj : (nI j).toNatClampNeg = j := nI_clamp (by omega)
  refine ⟨1, va_up av 24 (upd (av 24) j b), va_up (va_up av 24 (upd (av 24) j b)) 57 (upd (av 57) j b), Or.inr rfl, xm_of (nL := 3) rfl rfl (xb_8_0 (fun g => absurd g ha) (fun _ => xb_8_4 (fun _ => xb_8_12 hb ?_) (fun g => absurd ((nI_ltI (b := 14) hj (by omega)).mpr hj14) g))), xm_of (nL := 3) rfl rfl (xb_109_0 (fun g => absurd g ha) (fun _ => xb_109_9 (fun g => absurd ((nI_ltI (a := 13) (by omega) hj).mp g) (by omega)) (fun _ => xb_109_17 hb ?_))), ?_⟩
  · rw [cj]; exact xb_8_22
  · rw [cj]; exact xb_109_24
  · obtain ⟨⟨n, tx, hT, hM⟩, h2, h3, h4, h5, h6⟩ := h
    refine ⟨⟨n, tx, hT.to rfl rfl, hM.to rfl rfl⟩, ?_, eqn_upd h3, h4, h5, h6⟩
    rcases h2 with h2 | ⟨a1, tx', u, M, T, E, b1, c, d1, e⟩
    · exact Or.inl h2
    · exact Or.inr ⟨a1, tx', u, M, T, E, b1, c, d1.to rfl (fun q h1 h2 => by rw [va_up_ne' (by omega), va_up_ne' (by omega)]), e.to rfl (fun q h1 h2 => by rw [va_up_ne' (by omega), va_up_ne' (by omega)])⟩
theorem l_get (hD : 1 ≤ D) (h : LR iv av) {j : Nat} (hj : j < 14) : ∃ r, xm D 9 [.ref 0, .int (nI j)] (xs iv av lv) (some (.int r), xs iv av lv) ∧ MS D 110 [.ref 27, .int (nI j)] iv av 0 r := by
  obtain ⟨d, rfl⟩ : ∃ d, D = d + 1 := ⟨D - 1, by omega⟩
  have hb : 0 ≤ (nI j).toInt ∧ (nI j).toInt < ((14 : Nat) : Int) := nI_bd hj (by omega)
  have cj : (nI j).toNatClampNeg = j := nI_clamp (by omega)
  have ha : ¬ nI j < 0 := nI_pos (by omega)
  refine ⟨av 24 j, xm_of (nL := 2) rfl rfl (xb_9_0 (fun g => absurd g ha) (fun _ => xb_9_4 (fun _ => xb_9_18 hb (by rw [cj]; exact xb_9_27)) (fun g => absurd (show nI j < nI 14 from nI_lt hj (by omega)) g))), ms_th h (fun lv2 => ⟨av 24 j, fun _ => rfl, xm_of (nL := 2) rfl rfl (xb_110_0 (fun g => absurd g ha) (fun _ => xb_110_5 (fun g => absurd ((nI_ltI (a := 13) (by omega) (by omega)).mp g) (by omega)) (fun _ => xb_110_15 (xb_110_16 (fun g => absurd g (by decide)) (fun _ => xb_110_30 hb ?_)))))⟩)⟩
  rw [cj, ← h.2.2.1 j hj]
  exact xb_110_36
theorem ms_get0 (hD : 1 ≤ D) (h : LR iv av) {a : Int32} (ha : a < 0 ∨ ¬ a < 14) : MS D 110 [.ref 27, .int a] iv av 1 0 := ms_th h (fun lv2 => by
  obtain ⟨d, rfl⟩ : ∃ d, D = d + 1 := ⟨D - 1, by omega⟩
  have g11 : xe d xt_110 11 [some (.ref 27), some (.int a)] [.ref 27] (xs iv av lv2) (some (.int 0), xs (upd iv 11 1) av lv2) := xb_110_11 (xb_110_16 (fun _ => xb_110_26 xb_110_36) (fun g => absurd (by decide) g))
  refine ⟨0, fun _ => rfl, xm_of (nL := 2) rfl rfl (xb_110_0 (fun _ => g11) (fun g0 => xb_110_5 (fun _ => g11) (fun g => absurd ha (fun q => ?_))))⟩
  obtain ⟨j, hj, rfl⟩ := nI_of g0
  rcases q with q | q
  · exact g0 q
  · by_cases hj14 : j < 14
    · exact q (show nI j < nI 14 from nI_lt hj14 (by omega))
    · exact g (show nI 13 < nI j from nI_lt (by omega) hj))
theorem l_run (hD : 6 ≤ D) (h : LR iv av) (h20 : iv 20 = 1) : ∃ r iv1 av1, xm D 10 [.ref 0] (xs iv av lv) (some (.int r), xs iv1 av1 lv) ∧ MS D 114 [.ref 27] iv1 av1 0 r := by
  obtain ⟨d, rfl⟩ : ∃ d, D = d + 1 := ⟨D - 1, by omega⟩
  have hn20 : ¬ iv 20 = 0 := by rw [h20]; decide
  obtain ⟨⟨n0, tx0, hT, hM⟩, h2, h3, h4, h5, h6⟩ := h
  rcases h2 with ⟨-, e⟩ | ⟨-, tx, u, M, T, E, hu, hok, cl, ml⟩
  · exact absurd e hn20
  have x0 := c_need (D := d) (av := av) (lv := lv) (by omega) (cl_ne hu cl)
  obtain ⟨n, S, cy, hi, r, z, hg, hn, hf⟩ := run_ok hu hok.1 hok.2.1 hok.2.2 (av 24) (av 25)
  have hA := code_bd hu hok.1
  have hlen : (lk (uAt u) (uPart u 4)).length ≤ 200 := by rw [lk_len]; exact hok.1
  obtain ⟨iv1, av1, f1, ⟨e6, e7, e8, e9, e10⟩, q1, q2, x1⟩ := c_carry (D := d) (lv := lv) (by omega) hA cl.1 hg hn hf
  refine ⟨nI r, iv1, av1, xm_of (nL := 1) rfl rfl (xb_10_0 x0 (xb_10_4 x1 xb_10_15)), fun lv2 => ?_⟩
  have lm1 : LM av1 (lk (uAt u) (uPart u 4)) := fun j o a hj => by rw [f1.2 51 (by omega), f1.2 52 (by omega)]; exact ml.2.1 j o a hj
  obtain ⟨iv2, av2, f2, ⟨g11, g22, g23, g24, g25, g26⟩, k1, k2, x2⟩ := m_run (D := d + 1) (iv := iv1) (av := av1) (lv := lv2) (P := av 24) (O := av 25) (by omega) (fun q hq => (hA q hq).2) hlen lm1 (by rw [f1.1 20 (by omega)]; exact h20) (fun j hj => by rw [f1.2 57 (by omega)]; exact (h3 j hj).symm) (fun j hj => by rw [f1.2 59 (by omega)]; exact (h4 j hj).symm) hg hn hf
  refine ⟨nI r, iv2, av2, x2, g11, fun _ => rfl, ⟨n0, tx0, hT.to (by rw [f2.1 0 (by omega), f1.1 0 (by omega)]) (by rw [f2.2 3 (by omega), f1.2 3 (by omega)]), hM.to (by rw [f2.1 12 (by omega), f1.1 12 (by omega)]) (by rw [f2.2 28 (by omega), f1.2 28 (by omega)])⟩, Or.inr ⟨by rw [f2.1 20 (by omega), f1.1 20 (by omega)]; exact h20, tx, u, M, T, E, hu, hok, cl.to (by rw [f2.1 4 (by omega), f1.1 4 (by omega)]) (fun q a b => by rw [f2.2 q (by omega), f1.2 q (by omega)]), ml.to (by rw [f2.1 21 (by omega), f1.1 21 (by omega)]) (fun q a b => by rw [f2.2 q (by omega), f1.2 q (by omega)])⟩, fun j hj => ?_, fun j hj => ?_, Or.inr ⟨by rw [f2.1 6 (by omega)]; exact e6, g22, by rw [f2.1 7 (by omega), e7, g23], by rw [f2.1 8 (by omega), e8, g24], by rw [f2.1 9 (by omega), e9, g25]⟩, by rw [f2.1 10 (by omega), e10, g26]⟩
  · rw [f2.2 24 (by omega), q1 j hj, k1 j hj]
  · rw [f2.2 25 (by omega), q2 j hj, k2 j hj]
theorem l_latest (hD : 1 ≤ D) (h : LR iv av) (a : Int32) : ∃ r, xm D 11 [.ref 0, .int a] (xs iv av lv) (some (.int r), xs iv av lv) ∧ xm D 115 [.ref 27, .int a] (xs iv av lv) (some (.int r), xs (upd iv 11 0) av lv) ∧ LR (upd iv 11 0) av := by
  obtain ⟨d, rfl⟩ : ∃ d, D = d + 1 := ⟨D - 1, by omega⟩
  rcases h.2.2.2.2.1 with ⟨e6, e22⟩ | ⟨e6, e22, e7, e8, e9⟩
  · exact ⟨-1, xm_of (nL := 2) rfl rfl (xb_11_0 (fun _ => xb_11_10) (fun g => absurd e6 g)), xm_of (nL := 2) rfl rfl (xb_115_0 (fun _ => xb_115_21 xb_115_64) (fun g => absurd e22 g)), h.th⟩
  have n6 : ¬ iv 6 = 0 := by rw [e6]; decide
  have n22 : ¬ iv 22 = 0 := by rw [e22]; decide
  have e10 := h.2.2.2.2.2
  have gc : ∀ x, xe d xt_11 (if a = 0 then (44 : Int) else if a = 1 then 52 else if a = 2 then 60 else if a = 3 then 68 else 76).toNat [some (.ref 0), some (.int a)] [] (xs iv av lv) x → xm (d + 1) 11 [.ref 0, .int a] (xs iv av lv) x := fun x hx => xm_of (nL := 2) rfl rfl (xb_11_0 (fun g => absurd g n6) (fun _ => xb_11_12 (by rw [sw4]; exact hx)))
  have gm : ∀ x, xe d xt_115 12 [some (.ref 27), some (.int a)] [] (xs (upd iv 11 0) av lv) x → xm (d + 1) 115 [.ref 27, .int a] (xs iv av lv) x := fun x hx => xm_of (nL := 2) rfl rfl (xb_115_0 (fun g => absurd g n22) (fun _ => hx))
  by_cases a0 : a = 0
  · subst a0
    refine ⟨iv 7, gc _ xb_11_44, ?_, h.th⟩
    rw [e7]
    exact gm _ (xb_115_12 (fun g => absurd g (by decide)) (fun _ => xb_115_16 (fun g => absurd g (by decide)) (fun _ => xb_115_25 (fun _ => xb_115_29 xb_115_64) (fun g => absurd rfl g))))
  by_cases a1 : a = 1
  · subst a1
    refine ⟨iv 8, gc _ xb_11_52, ?_, h.th⟩
    rw [e8]
    exact gm _ (xb_115_12 (fun g => absurd g (by decide)) (fun _ => xb_115_16 (fun g => absurd g (by decide)) (fun _ => xb_115_25 (fun g => absurd g (by decide)) (fun _ => xb_115_36 (fun _ => xb_115_41 xb_115_64) (fun g => absurd rfl g)))))
  by_cases a2 : a = 2
  · subst a2
    refine ⟨iv 9, gc _ xb_11_60, ?_, h.th⟩
    rw [e9]
    exact gm _ (xb_115_12 (fun g => absurd g (by decide)) (fun _ => xb_115_16 (fun g => absurd g (by decide)) (fun _ => xb_115_25 (fun g => absurd g (by decide)) (fun _ => xb_115_36 (fun g => absurd g (by decide)) (fun _ => xb_115_48 (fun _ => xb_115_53 xb_115_64) (fun g => absurd rfl g))))))
  by_cases a3 : a = 3
  · subst a3
    refine ⟨iv 10, gc _ xb_11_68, ?_, h.th⟩
    rw [e10]
    exact gm _ (xb_115_12 (fun g => absurd g (by decide)) (fun _ => xb_115_16 (fun g => absurd g (by decide)) (fun _ => xb_115_25 (fun g => absurd g (by decide)) (fun _ => xb_115_36 (fun g => absurd g (by decide)) (fun _ => xb_115_48 (fun g => absurd g (by decide)) (fun _ => xb_115_60 xb_115_64))))))
  refine ⟨-1, gc _ (by rw [if_neg a0, if_neg a1, if_neg a2, if_neg a3]; exact xb_11_76), gm _ (xb_115_12 (fun _ => xb_115_21 xb_115_64) (fun g1 => xb_115_16 (fun _ => xb_115_21 xb_115_64) (fun g2 => ?_))), h.th⟩
  obtain ⟨k, hk, rfl⟩ := nI_of g1
  have : k ≤ 3 := by
    by_cases hk1 : k ≤ 3
    · exact hk1
    · exact absurd (show nI 3 < nI k from nI_lt (by omega) hk) g2
  have : k = 0 ∨ k = 1 ∨ k = 2 ∨ k = 3 := by omega
  rcases this with rfl | rfl | rfl | rfl
  · exact absurd rfl a0
  · exact absurd rfl a1
  · exact absurd rfl a2
  · exact absurd rfl a3
theorem l_output (hD : 1 ≤ D) (h : LR iv av) {a : Int32} (ha : ¬ a < 0) (hb : a < 32) (hc : a < iv 10) : ∃ r, xm D 12 [.ref 0, .int a] (xs iv av lv) (some (.int r), xs iv av lv) ∧ MS D 116 [.ref 27, .int a] iv av 0 r := by
  obtain ⟨d, rfl⟩ : ∃ d, D = d + 1 := ⟨D - 1, by omega⟩
  obtain ⟨j, hj, rfl⟩ := nI_of ha
  have hj32 : j < 32 := (nI_ltI (b := 32) hj (by omega)).mp hb
  have hbb : 0 ≤ (nI j).toInt ∧ (nI j).toInt < ((32 : Nat) : Int) := nI_bd hj32 (by omega)
  have cj : (nI j).toNatClampNeg = j := nI_clamp (by omega)
  have e10 := h.2.2.2.2.2
  refine ⟨av 25 j, xm_of (nL := 2) rfl rfl (xb_12_0 (fun g => absurd g ha) (fun _ => xb_12_4 (fun _ => xb_12_10 (fun _ => xb_12_29 hbb (by rw [cj]; exact xb_12_38)) (fun g => absurd hc g)) (fun g => absurd hb g))), ms_th h (fun lv2 => ⟨av 25 j, fun _ => rfl, xm_of (nL := 2) rfl rfl (xb_116_0 (fun g => absurd g ha) (fun _ => xb_116_5 (fun _ => xb_116_13 (fun _ => xb_116_23 (xb_116_24 (fun g => absurd g (by decide)) (fun _ => xb_116_38 hbb ?_))) (fun g => absurd hb g)) (fun g => absurd (by rw [← e10]; exact hc) g)))⟩)⟩
  rw [cj, ← h.2.2.2.1 j hj32]
  exact xb_116_44
theorem ms_output0 (hD : 1 ≤ D) (h : LR iv av) {a : Int32} (ha : a < 0 ∨ ¬ a < 32 ∨ ¬ a < iv 10) : MS D 116 [.ref 27, .int a] iv av 1 0 := ms_th h (fun lv2 => by
  obtain ⟨d, rfl⟩ : ∃ d, D = d + 1 := ⟨D - 1, by omega⟩
  have e10 := h.2.2.2.2.2
  have g19 : xe d xt_116 19 [some (.ref 27), some (.int a)] [.ref 27] (xs iv av lv2) (some (.int 0), xs (upd iv 11 1) av lv2) := xb_116_19 (xb_116_24 (fun _ => xb_116_34 xb_116_44) (fun g => absurd (by decide) g))
  refine ⟨0, fun _ => rfl, xm_of (nL := 2) rfl rfl (xb_116_0 (fun _ => g19) (fun g0 => xb_116_5 (fun g1 => xb_116_13 (fun g2 => ?_) (fun _ => g19)) (fun _ => g19)))⟩
  exfalso
  rcases ha with q | q | q
  · exact g0 q
  · exact q g2
  · exact q (by rw [e10]; exact g1))
end CL2
