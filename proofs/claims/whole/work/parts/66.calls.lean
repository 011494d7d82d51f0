/-! The calls: the class and the reference side by side, where the class does not throw. -/
def LR (iv : Nat → Int32) (av : Nat → Nat → Int32) : Prop := (∃ n tx, TX iv av n tx ∧ MT iv av n tx) ∧ ((iv 4 = 0 ∧ iv 20 = 0) ∨ (iv 20 = 1 ∧ ∃ tx u M T E, UP tx u M T E ∧ ((uPart u 4).length ≤ 200 ∧ PLN u ∧ SHT u T) ∧ CL iv av u T E ∧ ML iv av u T E)) ∧ EQn 14 (av 24) (av 57) ∧ EQn 32 (av 25) (av 59) ∧ ((iv 6 = 0 ∧ iv 22 = 0) ∨ (iv 6 = 1 ∧ iv 22 = 1 ∧ iv 7 = iv 23 ∧ iv 8 = iv 24 ∧ iv 9 = iv 25)) ∧ iv 10 = iv 26
theorem CL.to {iv iv' : Nat → Int32} {av av' : Nat → Nat → Int32} {u : UN} {T E : TD} (h : CL iv av u T E) (h4 : iv' 4 = iv 4) (f : ∀ q, 16 < q → q < 23 → av' q = av q) : CL iv' av' u T E := by
  obtain ⟨⟨a1, a2, a3⟩, h2, h3⟩ := h
  refine ⟨⟨by rw [h4]; exact a1, a2, fun j o a hj => by rw [f 17 (by omega) (by omega), f 18 (by omega) (by omega)]; exact a3 j o a hj⟩, fun p hp hn => by rw [f 19 (by omega) (by omega)]; exact h2 p hp hn, fun p c hc => by rw [f 19 (by omega) (by omega), f 21 (by omega) (by omega), f 22 (by omega) (by omega)]; exact h3 p c hc⟩
theorem ML.to {iv iv' : Nat → Int32} {av av' : Nat → Nat → Int32} {u : UN} {T E : TD} (h : ML iv av u T E) (h21 : iv' 21 = iv 21) (f : ∀ q, 50 < q → q < 57 → av' q = av q) : ML iv' av' u T E := by
  obtain ⟨h1, h2, h3, h4⟩ := h
  refine ⟨by rw [h21]; exact h1, fun j o a hj => by rw [f 51 (by omega) (by omega), f 52 (by omega) (by omega)]; exact h2 j o a hj, fun p hp => by rw [f 53 (by omega) (by omega)]; exact h3 p hp, fun p c hc => by rw [f 54 (by omega) (by omega), f 55 (by omega) (by omega), f 56 (by omega) (by omega)]; exact h4 p c hc⟩
/-- nothing that LR speaks of has changed but the text -/
theorem LR.to {iv iv' : Nat → Int32} {av av' : Nat → Nat → Int32} {n : Nat} {tx : Nat → Nat} (h : LR iv av) (hT : TX iv' av' n tx) (hM : MT iv' av' n tx) (fi : ∀ q, (3 < q ∧ q < 11) ∨ 19 < q → iv' q = iv q) (fa : ∀ q, (16 < q ∧ q < 27) ∨ 50 < q → av' q = av q) : LR iv' av' := by
  obtain ⟨-, h2, h3, h4, h5, h6⟩ := h
  refine ⟨⟨n, tx, hT, hM⟩, ?_, by rw [fa 24 (by omega), fa 57 (by omega)]; exact h3, by rw [fa 25 (by omega), fa 59 (by omega)]; exact h4, by rw [fi 6 (by omega), fi 22 (by omega), fi 7 (by omega), fi 23 (by omega), fi 8 (by omega), fi 24 (by omega), fi 9 (by omega), fi 25 (by omega)]; exact h5, by rw [fi 10 (by omega), fi 26 (by omega)]; exact h6⟩
  rw [fi 4 (by omega), fi 20 (by omega)]
  rcases h2 with h2 | ⟨a, tx', u, M, T, E, b, c, d, e⟩
  · exact Or.inl h2
  · exact Or.inr ⟨a, tx', u, M, T, E, b, c, d.to (fi 4 (by omega)) (fun q h1 h2 => fa q (by omega)), e.to (fi 21 (by omega)) (fun q h1 h2 => fa q (by omega))⟩
theorem LR.th {iv : Nat → Int32} {av : Nat → Nat → Int32} {v : Int32} (h : LR iv av) : LR (upd iv 11 v) av := by
  obtain ⟨⟨n, tx, hT, hM⟩, -⟩ := id h
  exact h.to (hT.to rfl rfl) (hM.to rfl rfl) (fun q a => upd_ne' (by omega)) (fun _ _ => rfl)
section CLS
variable {D d : Nat} {iv : Nat → Int32} {av : Nat → Nat → Int32} {lv : Nat → Nat → Int64}
theorem l_type (hD : 3 ≤ D) (h : LR iv av) (b : Int64) : ∃ r iv1 av1 iv2 av2, (r = 0 ∨ r = 1) ∧ xm D 0 [.ref 0, .long b] (xs iv av lv) (some (.int r), xs iv1 av1 lv) ∧ xm D 73 [.ref 27, .long b] (xs iv1 av1 lv) (some (.int r), xs iv2 av2 lv) ∧ LR iv2 av2 := by
  obtain ⟨⟨n, tx, hT, hM⟩, -⟩ := id h
  obtain ⟨iv1, av1, f1, h1⟩ := c_type (D := D) (lv := lv) (b := b) hD hT
  have hM1 : MT iv1 av1 n tx := hM.to (f1.1 12 (by decide)) (f1.2 28 (by decide))
  obtain ⟨iv2, av2, f2, h2⟩ := m_type (D := D) (lv := lv) (b := b) (by omega) hM1
  have fi : ∀ q, (3 < q ∧ q < 11) ∨ 19 < q → iv2 q = iv q := fun q a => by rw [f2.1 q (by omega) (by omega), f1.1 q (by omega)]
  have fa : ∀ q, (16 < q ∧ q < 27) ∨ 50 < q → av2 q = av q := fun q a => by rw [f2.2 q (by omega), f1.2 q (by omega)]
  rcases h1 with ⟨a1, a2, a3, a4⟩ | ⟨a1, rfl, rfl, a4⟩
  · rcases h2 with ⟨-, -, b3, b4⟩ | ⟨b1, -⟩
    · exact ⟨1, iv1, av1, iv2, av2, Or.inr rfl, a4, b4, h.to (a3.to (f2.1 0 (by decide) (by decide)) (f2.2 3 (by decide))) b3 fi fa⟩
    · exact absurd ⟨a1, a2⟩ b1
  · rcases h2 with ⟨b1, b2, -⟩ | ⟨-, b3, b4⟩
    · exact absurd ⟨b1, b2⟩ a1
    · exact ⟨0, _, _, iv2, av2, Or.inl rfl, a4, b4, h.to (hT.to (f2.1 0 (by decide) (by decide)) (f2.2 3 (by decide))) b3 fi fa⟩
theorem l_wipe (hD : 1 ≤ D) (h : LR iv av) : xm D 1 [.ref 0] (xs iv av lv) (none, xs (upd iv 0 0) av lv) ∧ xm D 74 [.ref 27] (xs (upd iv 0 0) av lv) (none, xs (upd (upd (upd iv 0 0) 11 0) 12 0) av lv) ∧ LR (upd (upd (upd iv 0 0) 11 0) 12 0) av := by
  obtain ⟨d, rfl⟩ : ∃ d, D = d + 1 := ⟨D - 1, by omega⟩
  exact ⟨xm_of (nL := 1) rfl rfl xb_1_0, xm_of (nL := 1) rfl rfl xb_74_0, h.to (n := 0) (tx := fun _ => 0) ⟨rfl, by omega, fun i hi => by omega, fun _ _ => rfl⟩ ⟨rfl, by omega, fun i hi => by omega, fun _ _ => rfl⟩ (fun q a => by rw [upd_ne' (by omega), upd_ne' (by omega), upd_ne' (by omega)]) (fun _ _ => rfl)⟩
theorem l_length (hD : 1 ≤ D) (h : LR iv av) : ∃ r, xm D 2 [.ref 0] (xs iv av lv) (some (.int r), xs iv av lv) ∧ xm D 75 [.ref 27] (xs iv av lv) (some (.int r), xs (upd iv 11 0) av lv) ∧ LR (upd iv 11 0) av := by
  obtain ⟨d, rfl⟩ : ∃ d, D = d + 1 := ⟨D - 1, by omega⟩
  obtain ⟨⟨n, tx, hT, hM⟩, -⟩ := id h
  refine ⟨iv 0, xm_of (nL := 1) rfl rfl xb_2_0, ?_, h.th⟩
  rw [hT.1, ← hM.1]
  exact xm_of (nL := 1) rfl rfl xb_75_0
/-- what the reference does next: thrown() is then k, and if it is 0 its answer is r -/
def MS (D km : Nat) (vs : List Value) (iv : Nat → Int32) (av : Nat → Nat → Int32) (k r : Int32) : Prop := ∀ lv2, ∃ b iv2 av2, xm D km vs (xs iv av lv2) (some (.int b), xs iv2 av2 lv2) ∧ iv2 11 = k ∧ (k = 0 → b = r) ∧ LR iv2 av2
theorem ms_th {km : Nat} {vs : List Value} {k r : Int32} (h : LR iv av) (hx : ∀ lv2, ∃ b, (k = 0 → b = r) ∧ xm D km vs (xs iv av lv2) (some (.int b), xs (upd iv 11 k) av lv2)) : MS D km vs iv av k r := fun lv2 => by
  obtain ⟨b, h1, h2⟩ := hx lv2
  exact ⟨b, _, av, h2, upd_eq', h1, h.th⟩
/-- compile throws 1, 2, or answers -/
theorem l_compile (hD : 65 ≤ D) (h : LR iv av) :
    (∃ iv1 av1, xm (D - 1) 15 [.ref 1] (xs iv av lv) (some (.int 0), xs iv1 av1 lv) ∧ MS D 104 [.ref 27] iv1 av1 1 0) ∨
    (∃ iv1 av1 iv2 av2 iv3 av3 lv3, xm (D - 1) 15 [.ref 1] (xs iv av lv) (some (.int 1), xs iv1 av1 lv) ∧ xm (D - 1) 17 [.ref 1] (xs iv1 av1 lv) (none, xs iv2 av2 lv) ∧ xm (D - 1) 48 [.ref 13, .ref 4] (xs iv2 av2 lv) (some (.int 0), xs iv3 av3 lv3) ∧ MS D 104 [.ref 27] iv3 av3 2 0) ∨
    (∃ r iv1 av1 lv1, xm D 3 [.ref 0] (xs iv av lv) (some (.int r), xs iv1 av1 lv1) ∧ MS D 104 [.ref 27] iv1 av1 0 r) := by
  obtain ⟨⟨n, tx, hT, hM⟩, h2, h3, h4, h5, h6⟩ := id h
  cases hp : pProg tx n with
  | none =>
    left
    obtain ⟨iv1, av1, f1, h1⟩ := c_read2 (D := D - 1) (lv := lv) hT (by omega)
    rcases h1 with ⟨u, hu, -⟩ | ⟨-, x1⟩
    · rw [hp] at hu; cases hu
    have hM1 : MT iv1 av1 n tx := hM.to (f1.1 12 (by decide) (by decide)) (f1.2 28 (by omega))
    have hT1 : TX iv1 av1 n tx := hT.to (f1.1 0 (by decide) (by decide)) (f1.2 3 (by omega))
    refine ⟨iv1, av1, x1, fun lv2 => ?_⟩
    obtain ⟨iv2, av2, f2, e2, x2⟩ := m_comp0 (D := D) (lv := lv2) (by omega) hM1 hp
    exact ⟨0, iv2, av2, x2, e2, fun _ => rfl, h.to (hT1.to (f2.1 0 (by omega)) (f2.2 3 (by omega))) (hM1.to (f2.1 12 (by omega)) (f2.2 28 (by omega))) (fun q a => by rw [f2.1 q (by omega), f1.1 q (by omega) (by omega)]) (fun q a => by rw [f2.2 q (by omega), f1.2 q (by omega)])⟩
  | some u =>
    right
    obtain ⟨M, T, E, hu⟩ := up_of (fun _ q => hT.lt q) hT.2.1 hp
    by_cases hok : (uPart u 4).length ≤ 200 ∧ PLN u ∧ SHT u T
    · right
      obtain ⟨iv1, av1, lv1, f1, ⟨z0, z6, z10⟩, cl, x1⟩ := c_compile (D := D) (lv := lv) hT (by omega) hp hu hok
      have hM1 : MT iv1 av1 n tx := hM.to (f1.1 12 (by omega)) (f1.2 28 (by omega))
      refine ⟨_, iv1, av1, lv1, x1, fun lv2 => ?_⟩
      rcases m_comp1 (D := D) (lv := lv2) (by omega) hM1 hp hu with ⟨hn, -⟩ | ⟨-, iv2, av2, f2, ⟨e11, e12, e20, e22, e26⟩, ml, x2⟩
      · exact absurd hok hn
      · refine ⟨_, iv2, av2, x2, e11, fun _ => rfl, ⟨0, fun _ => 0, ⟨by rw [f2.1 0 (by omega)]; exact z0, by omega, fun i hi => by omega, fun _ _ => rfl⟩, ⟨e12, by omega, fun i hi => by omega, fun _ _ => rfl⟩⟩, Or.inr ⟨e20, tx, u, M, T, E, hu, hok, cl.to (f2.1 4 (by omega)) (fun q a b => f2.2 q (by omega)), ml⟩, ?_, ?_, Or.inl ⟨by rw [f2.1 6 (by omega)]; exact z6, e22⟩, ?_⟩
        · rw [f2.2 24 (by omega), f2.2 57 (by omega), f1.2 24 (by omega), f1.2 57 (by omega)]
          exact h3
        · rw [f2.2 25 (by omega), f2.2 59 (by omega), f1.2 25 (by omega), f1.2 59 (by omega)]
          exact h4
        · rw [f2.1 10 (by omega), e26]
          exact z10
    · left
      obtain ⟨iv1, av1, iv2, av2, iv3, av3, lv3, x1, x2, fr, hh⟩ := c_comp1 (D := D - 1) (lv := lv) hT (by omega) hp hu
      rcases hh with ⟨-, x3⟩ | ⟨hok2, -⟩
      case inr => exact absurd hok2 hok
      have hM3 : MT iv3 av3 n tx := hM.to (fr.1 12 (by omega)) (fr.2 28 (by omega))
      have hT3 : TX iv3 av3 n tx := hT.to (fr.1 0 (by omega)) (fr.2 3 (by omega))
      refine ⟨iv1, av1, iv2, av2, iv3, av3, lv3, x1, x2, x3, fun lv2 => ?_⟩
      rcases m_comp1 (D := D) (lv := lv2) (by omega) hM3 hp hu with ⟨-, iv4, av4, f4, e4, x4⟩ | ⟨hok2, -⟩
      · exact ⟨0, iv4, av4, x4, e4, fun _ => rfl, h.to (hT3.to (f4.1 0 (by omega)) (f4.2 3 (by omega))) (hM3.to (f4.1 12 (by omega)) (f4.2 28 (by omega))) (fun q a => by rw [f4.1 q (by omega), fr.1 q (by omega)]) (fun q a => by rw [f4.2 q (by omega), fr.2 q (by omega)])⟩
      · exact absurd hok2 hok
theorem c_need (hD : 1 ≤ D) (h : ¬ iv 4 = 0) : xm D 13 [.ref 0] (xs iv av lv) (none, xs iv av lv) := by
  obtain ⟨d, rfl⟩ : ∃ d, D = d + 1 := ⟨D - 1, by omega⟩
  exact xm_of (nL := 1) rfl rfl (xb_13_0 (fun g => absurd g h) (fun _ => xb_13_18))
theorem cl_ne {tx : Nat → Nat} {u : UN} {M : Nat → List In} {T E : TD} (hu : UP tx u M T E) (hc : CL iv av u T E) : ¬ iv 4 = 0 := by
  obtain ⟨q, hq⟩ := hu.1
  have := u_len (by omega) hq
  rw [hc.1.1, lk_len]
  exact nI_ne0 (by omega) (by have := hc.1.2.1; rw [lk_len] at this; omega)
theorem sw2 (a : Int32) (x y z : Int) : xi_swt a [(0, x), (1, y)] z = if a = 0 then x else if a = 1 then y else z := by
  unfold xi_swt xi_swt xi_swt
  have e0 : a.toInt = 0 ↔ a = 0 := by rw [← Int32.toInt_inj]; rfl
  have e1 : a.toInt = 1 ↔ a = 1 := by rw [← Int32.toInt_inj]; rfl
  simp only [e0, e1]
theorem sw3 (a : Int32) (x y z w : Int) : xi_swt a [(0, x), (1, y), (2, z)] w = if a = 0 then x else if a = 1 then y else if a = 2 then z else w := by
  unfold xi_swt xi_swt xi_swt xi_swt
  have e0 : a.toInt = 0 ↔ a = 0 := by rw [← Int32.toInt_inj]; rfl
  have e1 : a.toInt = 1 ↔ a = 1 := by rw [← Int32.toInt_inj]; rfl
  have e2 : a.toInt = 2 ↔ a = 2 := by rw [← Int32.toInt_inj]; rfl
  simp only [e0, e1, e2]
theorem sw4 (a : Int32) (x y z v w : Int) : xi_swt a [(0, x), (1, y), (2, z), (3, v)] w = if a = 0 then x else if a = 1 then y else if a = 2 then z else if a = 3 then v else w := by
  unfold xi_swt xi_swt xi_swt xi_swt xi_swt
  have e0 : a.toInt = 0 ↔ a = 0 := by rw [← Int32.toInt_inj]; rfl
  have e1 : a.toInt = 1 ↔ a = 1 := by rw [← Int32.toInt_inj]; rfl
  have e2 : a.toInt = 2 ↔ a = 2 := by rw [← Int32.toInt_inj]; rfl
  have e3 : a.toInt = 3 ↔ a = 3 := by rw [← Int32.toInt_inj]; rfl
  simp only [e0, e1, e2, e3]
theorem ltS1 {a : Int32} (k : Nat) (hk : k + 1 < 2 ^ 31) (h0 : ¬ a < 0) : a < nI (k + 1) ↔ ¬ nI k < a := by
  obtain ⟨j, hj, rfl⟩ := nI_of h0
  rw [nI_ltI hj hk, nI_ltI (by omega) hj]
  omega
/-- not loaded: the reference says so -/
theorem ms_code0 (hD : 1 ≤ D) (h : LR iv av) (h20 : iv 20 = 0) (a b : Int32) : MS D 105 [.ref 27, .int a, .int b] iv av 1 0 := ms_th h (fun lv2 => by
  obtain ⟨d, rfl⟩ : ∃ d, D = d + 1 := ⟨D - 1, by omega⟩
  exact ⟨0, fun _ => rfl, xm_of (nL := 3) rfl rfl (xb_105_0 (fun _ => xb_105_12 (xb_105_13 (fun _ => xb_105_44 (fun _ => xb_105_55 xb_105_56) (fun g => absurd h20 g)) (fun g => absurd h20 g))) (fun g => absurd h20 g))⟩)
theorem ms_time0 (hD : 1 ≤ D) (h : LR iv av) (h20 : iv 20 = 0) : MS D 106 [.ref 27] iv av 1 0 := ms_th h (fun lv2 => by
  obtain ⟨d, rfl⟩ : ∃ d, D = d + 1 := ⟨D - 1, by omega⟩
  exact ⟨0, fun _ => rfl, xm_of (nL := 1) rfl rfl (xb_106_0 (fun _ => xb_106_12 (xb_106_13 (fun _ => xb_106_32 xb_106_33) (fun g => absurd h20 g))) (fun g => absurd h20 g))⟩)
theorem ms_depth0 (hD : 1 ≤ D) (h : LR iv av) (h20 : iv 20 = 0) : MS D 107 [.ref 27] iv av 1 0 := ms_th h (fun lv2 => by
  obtain ⟨d, rfl⟩ : ∃ d, D = d + 1 := ⟨D - 1, by omega⟩
  exact ⟨0, fun _ => rfl, xm_of (nL := 1) rfl rfl (xb_107_0 (fun _ => xb_107_12 (xb_107_13 (fun _ => xb_107_32 xb_107_33) (fun g => absurd h20 g))) (fun g => absurd h20 g))⟩)
theorem ms_proc0 (hD : 1 ≤ D) (h : LR iv av) (h20 : iv 20 = 0) (a b : Int32) : MS D 108 [.ref 27, .int a, .int b] iv av 1 0 := ms_th h (fun lv2 => by
  obtain ⟨d, rfl⟩ : ∃ d, D = d + 1 := ⟨D - 1, by omega⟩
  exact ⟨0, fun _ => rfl, xm_of (nL := 3) rfl rfl (xb_108_0 (fun _ => xb_108_12 (xb_108_13 (fun _ => xb_108_41 (fun _ => xb_108_52 xb_108_53) (fun g => absurd h20 g)) (fun g => absurd h20 g))) (fun g => absurd h20 g))⟩)
theorem ms_run0 (hD : 1 ≤ D) (h : LR iv av) (h20 : iv 20 = 0) : MS D 114 [.ref 27] iv av 1 0 := ms_th h (fun lv2 => by
  obtain ⟨d, rfl⟩ : ∃ d, D = d + 1 := ⟨D - 1, by omega⟩
  exact ⟨0, fun _ => rfl, xm_of (nL := 6) rfl rfl (xb_114_0 (fun _ => xb_114_12 (xb_114_13 (fun _ => xb_114_23) (fun g => absurd h20 g))) (fun g => absurd h20 g))⟩)
theorem l_code (hD : 2 ≤ D) (h : LR iv av) (h20 : iv 20 = 1) (a b : Int32) : ∃ r, xm D 4 [.ref 0, .int a, .int b] (xs iv av lv) (some (.int r), xs iv av lv) ∧ MS D 105 [.ref 27, .int a, .int b] iv av 0 r := by
  obtain ⟨d, rfl⟩ : ∃ d, D = d + 1 := ⟨D - 1, by omega⟩
  have hn20 : ¬ iv 20 = 0 := by rw [h20]; decide
  rcases h.2.1 with ⟨-, e⟩ | ⟨-, tx, u, M, T, E, hu, hok, cl, ml⟩
  · exact absurd e hn20
  have x0 := c_need (D := d) (av := av) (lv := lv) (by omega) (cl_ne hu cl)
  have h4 : iv 4 = nI (uPart u 4).length := by rw [cl.1.1, lk_len]
  have h21 := ml.1
  have gc : ∀ x, xe d xt_4 4 [some (.ref 0), some (.int a), some (.int b)] [] (xs iv av lv) x → xm (d + 1) 4 [.ref 0, .int a, .int b] (xs iv av lv) x := fun x hx => xm_of (nL := 3) rfl rfl (xb_4_0 x0 hx)
  have gm : ∀ r, (∀ lv2, xe d xt_105 23 [some (.ref 27), some (.int a), some (.int b)] [] (xs (upd iv 11 0) av lv2) (some (.int r), xs (upd iv 11 0) av lv2)) → MS (d + 1) 105 [.ref 27, .int a, .int b] iv av 0 r := fun r hx => ms_th h (fun lv2 => ⟨r, fun _ => rfl, xm_of (nL := 3) rfl rfl (xb_105_0 (fun g => absurd g hn20) (fun _ => xb_105_8 (xb_105_13 (fun g => absurd g hn20) (fun _ => hx lv2))))⟩)
  have m44 : ∀ lv2 o1 o2, xe d xt_105 44 [some (.ref 27), o1, o2] [] (xs (upd iv 11 0) av lv2) (some (.int (-1)), xs (upd iv 11 0) av lv2) := fun lv2 o1 o2 => xb_105_44 (fun g => absurd g hn20) (fun _ => xb_105_51 xb_105_56)
  by_cases ha : a < 0
  · exact ⟨-1, gc _ (xb_4_4 (fun _ => xb_4_19) (fun g => absurd ha g)), gm _ (fun lv2 => xb_105_23 (fun _ => m44 _ _ _) (fun g => absurd ha g))⟩
  by_cases ha2 : a < nI (uPart u 4).length
  case neg => exact ⟨-1, gc _ (xb_4_4 (fun g => absurd g ha) (fun _ => xb_4_8 (fun g => absurd (by rw [← h4]; exact g) ha2) (fun _ => xb_4_19))), gm _ (fun lv2 => xb_105_23 (fun g => absurd g ha) (fun _ => xb_105_27 (fun g => absurd (by rw [← h21]; exact g) ha2) (fun _ => m44 _ _ _)))⟩
  obtain ⟨j, hj, rfl⟩ := nI_of ha
  have hjl : j < (uPart u 4).length := (nI_ltI hj (by omega)).mp ha2
  obtain ⟨⟨o, v⟩, hx⟩ : ∃ x, (lk (uAt u) (uPart u 4))[j]? = some x := ⟨(lk (uAt u) (uPart u 4))[j]'(by rw [lk_len]; exact hjl), List.getElem?_eq_getElem _⟩
  obtain ⟨c17, c18⟩ := cl.1.2.2 j o v hx
  obtain ⟨c51, c52⟩ := ml.2.1 j o v hx
  have hb : 0 ≤ (nI j).toInt ∧ (nI j).toInt < ((200 : Nat) : Int) := nI_bd (by omega) (by omega)
  have cj : (nI j).toNatClampNeg = j := nI_clamp (by omega)
  have gc2 : ∀ x, xe d xt_4 (if b = 0 then (48 : Int) else if b = 1 then 58 else 68).toNat [some (.ref 0), some (.int (nI j)), some (.int b)] [] (xs iv av lv) x → xm (d + 1) 4 [.ref 0, .int (nI j), .int b] (xs iv av lv) x := fun x hx => gc x (xb_4_4 (fun g => absurd g ha) (fun _ => xb_4_8 (fun _ => xb_4_21 (by rw [sw2]; exact hx)) (fun g => absurd (by rw [h4]; exact ha2) g)))
  have gm2 : ∀ r, (∀ lv2, xe d xt_105 35 [some (.ref 27), some (.int (nI j)), some (.int b)] [] (xs (upd iv 11 0) av lv2) (some (.int r), xs (upd iv 11 0) av lv2)) → MS (d + 1) 105 [.ref 27, .int (nI j), .int b] iv av 0 r := fun r hx => gm r (fun lv2 => xb_105_23 (fun g => absurd g ha) (fun _ => xb_105_27 (fun _ => hx lv2) (fun g => absurd (show nI j < iv 21 by rw [h21]; exact ha2) g)))
  by_cases b0 : b = 0
  · subst b0
    refine ⟨nI o, gc2 _ (xb_4_48 hb ?_), gm2 _ (fun lv2 => xb_105_35 (fun g => absurd g (by decide)) (fun _ => xb_105_39 (fun g => absurd g (by decide)) (fun _ => xb_105_57 (fun _ => xb_105_61 hb ?_) (fun g => absurd rfl g))))⟩
    · rw [cj, c17]; exact xb_4_57
    · rw [cj, c51]; exact xb_105_67 xb_105_76
  by_cases b1 : b = 1
  · subst b1
    refine ⟨nI v, gc2 _ (xb_4_58 hb ?_), gm2 _ (fun lv2 => xb_105_35 (fun g => absurd g (by decide)) (fun _ => xb_105_39 (fun g => absurd g (by decide)) (fun _ => xb_105_57 (fun g => absurd g (by decide)) (fun _ => xb_105_70 hb ?_))))⟩
    · rw [cj, c18]; exact xb_4_67
    · rw [cj, c52]; exact xb_105_76
  refine ⟨-1, gc2 _ ?_, gm2 _ (fun lv2 => xb_105_35 (fun _ => m44 _ _ _) (fun g1 => xb_105_39 (fun _ => m44 _ _ _) (fun g2 => ?_)))⟩
  · rw [if_neg b0, if_neg b1]
    exact xb_4_68
  · obtain ⟨k, hk, rfl⟩ := nI_of g1
    have : k ≤ 1 := by
      by_cases hk1 : k ≤ 1
      · exact hk1
      · exact absurd (show nI 1 < nI k from nI_lt (by omega) hk) g2
    have : k = 0 ∨ k = 1 := by omega
    rcases this with rfl | rfl
    · exact absurd rfl b0
    · exact absurd rfl b1
theorem l_time (hD : 2 ≤ D) (h : LR iv av) (h20 : iv 20 = 1) : ∃ r, xm D 5 [.ref 0] (xs iv av lv) (some (.int r), xs iv av lv) ∧ MS D 106 [.ref 27] iv av 0 r := by
  obtain ⟨d, rfl⟩ : ∃ d, D = d + 1 := ⟨D - 1, by omega⟩
  have hn20 : ¬ iv 20 = 0 := by rw [h20]; decide
  rcases h.2.1 with ⟨-, e⟩ | ⟨-, tx, u, M, T, E, hu, hok, cl, ml⟩
  · exact absurd e hn20
  obtain ⟨q, hq⟩ := hu.1
  have c4 : (4 : Int32).toNatClampNeg = 4 := by decide
  refine ⟨nI (trT T 5 4), xm_of (nL := 1) rfl rfl (xb_5_0 (c_need (by omega) (cl_ne hu cl)) (xb_5_4 ?_)), ms_th h (fun lv2 => ⟨_, fun _ => rfl, xm_of (nL := 1) rfl rfl (xb_106_0 (fun g => absurd g hn20) (fun _ => xb_106_8 (xb_106_13 (fun g => absurd g hn20) (fun _ => xb_106_23 ?_))))⟩)⟩
  · rw [c4, (cl.2.2 4 q hq).2.1]; exact xb_5_13
  · rw [c4, (ml.2.2.2 4 q hq).2.1]; exact xb_106_29 xb_106_33
theorem l_depth (hD : 2 ≤ D) (h : LR iv av) (h20 : iv 20 = 1) : ∃ r, xm D 6 [.ref 0] (xs iv av lv) (some (.int r), xs iv av lv) ∧ MS D 107 [.ref 27] iv av 0 r := by
  obtain ⟨d, rfl⟩ : ∃ d, D = d + 1 := ⟨D - 1, by omega⟩
  have hn20 : ¬ iv 20 = 0 := by rw [h20]; decide
  rcases h.2.1 with ⟨-, e⟩ | ⟨-, tx, u, M, T, E, hu, hok, cl, ml⟩
  · exact absurd e hn20
  obtain ⟨q, hq⟩ := hu.1
  have c4 : (4 : Int32).toNatClampNeg = 4 := by decide
  refine ⟨nI (trD E 5 4), xm_of (nL := 1) rfl rfl (xb_6_0 (c_need (by omega) (cl_ne hu cl)) (xb_6_4 ?_)), ms_th h (fun lv2 => ⟨_, fun _ => rfl, xm_of (nL := 1) rfl rfl (xb_107_0 (fun g => absurd g hn20) (fun _ => xb_107_8 (xb_107_13 (fun g => absurd g hn20) (fun _ => xb_107_23 ?_))))⟩)⟩
  · rw [c4, (cl.2.2 4 q hq).2.2]; exact xb_6_13
  · rw [c4, (ml.2.2.2 4 q hq).2.2]; exact xb_107_29 xb_107_33
end CLS
