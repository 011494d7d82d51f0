/-! Class Bounds: settleProcedures and settle, whole. -/
def PLN (u : UN) : Prop := ∀ p, p < 4 → u p ≠ none → rk u 4 p
/-- the class's draft holds the program u -/
def SW (iv : Nat → Int32) (av : Nat → Nat → Int32) (u : UN) : Prop := DR iv av (lk (uAt u) (uPart u 4)) ∧ FL av u 4
theorem SW.mf {iv iv' : Nat → Int32} {av av' : Nat → Nat → Int32} {lv lv' : Nat → Nat → Int64} {u : UN} (h : SW iv av u) (g : MF iv av lv iv' av' lv') : SW iv' av' u :=
  ⟨⟨by rw [g.1 2 (by decide)]; exact h.1.1, fun j o a hj hj2 => by rw [g.2.1 5 (by decide) (by decide) (by decide), g.2.1 6 (by decide) (by decide) (by decide)]; exact h.1.2 j o a hj hj2⟩, fun p hp => by rw [g.2.1 7 (by decide) (by decide) (by decide), g.2.1 8 (by decide) (by decide) (by decide)]; exact h.2 p hp⟩
theorem FL.some {av : Nat → Nat → Int32} {u : UN} (h : FL av u 4) {p : Nat} {q : Nat × List In} (hp : p < 5) (e : u p = some q) : av 7 p = nI (uAt u p) ∧ av 8 p = nI (uAt u p + q.2.length) := by
  have := h p hp
  rw [e] at this
  dsimp only at this
  rw [if_pos (by omega)] at this
  exact this
theorem FL.no {av : Nat → Nat → Int32} {u : UN} (h : FL av u 4) {p : Nat} (hp : p < 5) (e : u p = none) : av 7 p = -1 := by
  have := h p hp
  rw [e] at this
  exact this.1
theorem FL.first {av : Nat → Nat → Int32} {u : UN} (h : FL av u 4) {p : Nat} (hp : p < 4) (e : u p ≠ none) (hl : (uPart u 4).length ≤ 200) : av 7 p = nI (uAt u p) ∧ ∀ r, r < p → av 7 r ≠ nI (uAt u p) := by
  obtain ⟨q, hq⟩ := Option.ne_none_iff_exists'.mp e
  have l1 := u_len (by omega) hq
  refine ⟨(h.some (by omega) hq).1, fun r hr => ?_⟩
  cases hur : u r with
  | none =>
    rw [h.no (by omega) hur]
    exact fun g => nI_m1 (by omega) g.symm
  | some q2 =>
    rw [(h.some (by omega) hur).1]
    have := u_lt hp hr hur
    exact fun g => by have := (nI_eq (by omega) (by omega)).mp g; omega
section STT
variable {tx : Nat → Nat} {u : UN} {M : Nat → List In} {T E : TD}
theorem dep_le (hu : UP tx u M T E) : ∀ n p, u p ≠ none → trD E n p ≤ 200 * n
  | 0, p, _ => Nat.le_refl _
  | n + 1, p, hp => by
    obtain ⟨q, hq⟩ := Option.ne_none_iff_exists'.mp hp
    obtain ⟨a1, a2, a3, a4, a5⟩ := hu.2 p q hq
    have e : E p (trD E n) = E p (fun x => match u x with | none => 0 | some _ => trD E n x) := sc_D a3.1 (fun x hx h17 => by
      obtain ⟨y, hy⟩ := Option.ne_none_iff_exists'.mp (a5 x hx h17).2
      rw [hy])
    show E p (trD E n) ≤ _
    rw [e]
    have := sc_dep a3.1 (d := fun x => match u x with | none => 0 | some _ => trD E n x) (M := 200 * n) (fun x hx => by
      cases hux : u x with
      | none => exact Nat.zero_le _
      | some y => exact dep_le hu n x (by rw [hux]; exact fun h => by cases h))
    omega
/-- what the measured procedures hold -/
def IS (u : UN) (T E : TD) (av : Nat → Nat → Int32) (O : Nat → Bool) : Prop := (∀ p, p < 4 → O p = true → u p ≠ none) ∧ ∀ p, p < 4 → u p ≠ none → O p = false → rk u 4 p ∧ av 9 p = nI (min (trT T 4 p) 20001) ∧ av 10 p = nI (trD E 4 p)
variable {D : Nat}
/-- measure of a unit all of whose procedures have been measured -/
theorem c_meas {iv : Nat → Int32} {av : Nat → Nat → Int32} {lv : Nat → Nat → Int64} {O : Nat → Bool} {p : Nat} {q : Nat × List In} (hu : UP tx u M T E) (hD : 4 ≤ D) (hw : SW iv av u) (hl : (uPart u 4).length ≤ 200) (hi : IS u T E av O) (hq : u p = some q) (hc : ∀ x ∈ q.2, x.1 = 17 → O x.2 = false) :
    ∃ iv' av' lv', MF iv av lv iv' av' lv' ∧ xm D 51 [.ref 13, .ref 4, .int (nI p)] (xs iv av lv) (none, xs iv' av' lv') ∧ av' 9 = upd (av 9) p (nI (min (trT T 5 p) 20001)) ∧ av' 10 = upd (av 10) p (nI (trD E 5 p)) := by
  obtain ⟨a1, a2, a3, a4, a5⟩ := hu.2 p q hq
  obtain ⟨f7, f8⟩ := hw.2.some a1 hq
  have l1 := u_len a1 hq
  have hA := u_at a1 hq (uAt u)
  have hz := hA.r.h
  rw [LC_len] at hz
  have hB : T p (fun x => min (trT T 4 x) 20001) ≤ q.2.length * BT 6 := a3.2 _ (fun x _ => Nat.min_le_right _ _)
  have hB2 : q.2.length * BT 6 ≤ 200 * BT 6 := Nat.mul_le_mul a4 (Nat.le_refl _)
  have hB3 : 200 * BT 6 + 3 < 2 ^ 62 := by decide
  have hd := dep_le hu 5 p (by rw [hq]; exact fun h => by cases h)
  obtain ⟨iv', av', lv', m1, m2, m3, m4⟩ := c_measure (D := D) (iv := iv) (av := av) (lv := lv) (f := uAt u) (t := fun x => min (trT T 4 x) 20001) (d := trD E 4) (G := fun x => x < 4 ∧ u x ≠ none ∧ O x = false) hD a1 f7 f8 a3.1 hA.l hz (by split <;> omega) (by omega) hw.1 (fun x hx h17 => ⟨(a5 x hx h17).1, (a5 x hx h17).2, hc x hx h17⟩) (fun x hx hG => by
    obtain ⟨g1, g2⟩ := hw.2.first hx hG.2.1 hl
    exact ⟨g1, g2, (hi.2 x hx hG.2.1 hG.2.2).2.1, (hi.2 x hx hG.2.1 hG.2.2).2.2⟩) (fun x _ => by omega) (by omega) (by
    have : E p (trD E 4) ≤ 200 * 5 := hd
    omega)
  refine ⟨iv', av', lv', m1, m2, ?_, m4⟩
  rw [m3]
  have ek := sc_ek a3.1 20001 (fun x => min (trT T 4 x) 20001) (trT T 4) (fun x _ _ => by unfold EK; omega)
  have e5 : trT T 5 p = T p (trT T 4) + (if p = 4 then 0 else 3) := rfl
  have ec : cs1 (if p = 4 then 19 else 18) = if p = 4 then 0 else 3 := by split <;> rfl
  rw [e5, ec]
  unfold EK at ek
  congr 2
  omega
/-- one turn of the inner loop -/
theorem c_turn {iv : Nat → Int32} {av : Nat → Nat → Int32} {lv : Nat → Nat → Int64} {O : Nat → Bool} {p : Nat} {a3 : Int32} (hu : UP tx u M T E) (hD : 4 ≤ D) (hw : SW iv av u) (hl : (uPart u 4).length ≤ 200) (hi : IS u T E av O) (hp : p < 4) :
    ∃ iv' av' lv' O', MF iv av lv iv' av' lv' ∧ IS u T E av' O' ∧ (∀ r, r = 4 ∨ u r = none → av' 9 r = av 9 r ∧ av' 10 r = av 10 r) ∧ (∀ r, O r = false → O' r = false) ∧ (∀ n, (∀ r, r < 4 → rk u n r → O r = false) → rk u (n + 1) p → O' p = false) ∧
      ∀ x, xe D xt_49 39 [some (.ref 13), some (.ref 4), some (.int (nI (msk O'))), some (.int a3), some (.int (nI (p + 1)))] [] (xs iv' av' lv') x → xe D xt_49 45 [some (.ref 13), some (.ref 4), some (.int (nI (msk O))), some (.int a3), some (.int (nI p))] [] (xs iv av lv) x := by
  have hcl : ∀ p q, u p = some q → ∀ x ∈ q.2, x.1 = 17 → x.2 < 4 := fun p q h x hx e => ((hu.2 p q h).2.2.2.2 x hx e).1
  cases hO : O p with
  | false =>
    refine ⟨iv, av, lv, O, MF.rf, hi, fun _ _ => ⟨rfl, rfl⟩, fun _ h => h, fun _ _ _ => hO, fun x hx => xb_49_45 (fun _ => xb_49_81 (by rw [nI_1]; exact hx)) (fun h => absurd ((msk_bit hp).mpr hO) h)⟩
  | true =>
    obtain ⟨q, hq⟩ := Option.ne_none_iff_exists'.mp (hi.1 p hp hO)
    obtain ⟨a1, a2, a3', a4, a5⟩ := hu.2 p q hq
    obtain ⟨f7, f8⟩ := hw.2.some a1 hq
    have l1 := u_len a1 hq
    have hA := u_at a1 hq (uAt u)
    have x0 := c_calledBy (D := D) (lv := lv) (f := uAt u) (by omega) a1 f7 f8 hA.l (by omega) hw.1 (sc_cb a3'.1) (fun x hx h17 => hw.2.first (a5 x hx h17).1 (a5 x hx h17).2 hl)
    have n45 : ¬ (nI (msk O) &&& (1 <<< (nI p &&& 31))) = 0 := fun h => by rw [(msk_bit hp).mp h] at hO; cases hO
    by_cases hcall : ∀ r, r < 4 → clb q.2 r = true → O r = false
    · have hc2 : ∀ x ∈ q.2, x.1 = 17 → O x.2 = false := fun x hx h17 => hcall x.2 (a5 x hx h17).1 (clb_iff.mpr (by rw [← h17]; exact hx))
      obtain ⟨iv', av', lv', m1, m2, m3, m4⟩ := c_meas (lv := lv) hu hD hw hl hi hq hc2
      have r5 : rk u 5 p := ⟨q, hq, fun x hx h17 => (hi.2 x.2 (a5 x hx h17).1 (a5 x hx h17).2 (hc2 x hx h17)).1⟩
      have r4 := rk_4 hcl hp r5
      have st := tr_stab hu 4 p r4
      refine ⟨iv', av', lv', va_up O p false, m1, ⟨fun r hr h => ?_, fun r hr hn h => ?_⟩, fun r hr => ?_, fun r h => ?_, fun _ _ _ => va_up_self _ _ _, fun x hx => xb_49_45 (fun h => absurd h n45) (fun _ => xb_49_54 x0 (xb_49_60 (fun _ => xb_49_65 m2 (xb_49_72 ?_)) (fun h => absurd (msk_and.mpr hcall) h)))⟩
      · by_cases hrp : r = p
        · subst hrp
          rw [va_up_self] at h
          cases h
        · rw [va_up_ne' hrp] at h
          exact hi.1 r hr h
      · rw [m3, m4]
        by_cases hrp : r = p
        · subst hrp
          rw [upd_eq', upd_eq', st.1, st.2]
          exact ⟨r4, rfl, rfl⟩
        · rw [va_up_ne' hrp] at h
          rw [upd_ne' hrp, upd_ne' hrp]
          exact hi.2 r hr hn h
      · have hrp : r ≠ p := fun h => by
          subst h
          rcases hr with h | h
          · omega
          · rw [hq] at h; cases h
        rw [m3, m4, upd_ne' hrp, upd_ne' hrp]
        exact ⟨rfl, rfl⟩
      · by_cases hrp : r = p
        · subst hrp
          exact va_up_self _ _ _
        · rw [va_up_ne' hrp]
          exact h
      · rw [msk_off hp]
        exact xb_49_81 (by rw [nI_1]; exact hx)
    · refine ⟨iv, av, lv, O, MF.rf, hi, fun _ _ => ⟨rfl, rfl⟩, fun _ h => h, fun n h1 h2 => ?_, fun x hx => xb_49_45 (fun h => absurd h n45) (fun _ => xb_49_54 x0 (xb_49_60 (fun h => absurd (msk_and.mp h) hcall) (fun _ => xb_49_81 (by rw [nI_1]; exact hx))))⟩
      exfalso
      apply hcall
      intro r hr hcr
      obtain ⟨q', hq', h3⟩ := h2
      rw [hq] at hq'
      cases hq'
      exact h1 r hr (h3 (17, r) (clb_iff.mp hcr) rfl)
theorem c_settleP {iv : Nat → Int32} {av : Nat → Nat → Int32} {lv : Nat → Nat → Int64} (hu : UP tx u M T E) (hD : 5 ≤ D) (hw : SW iv av u) (hl : (uPart u 4).length ≤ 200) :
    ∃ iv' av' lv' O, MF iv av lv iv' av' lv' ∧ IS u T E av' O ∧ (∀ r, r = 4 ∨ u r = none → av' 9 r = av 9 r ∧ av' 10 r = av 10 r) ∧ ((PLN u ∧ (∀ p, p < 4 → O p = false) ∧ xm D 49 [.ref 13, .ref 4] (xs iv av lv) (some (.int 1), xs iv' av' lv')) ∨ (¬ PLN u ∧ xm D 49 [.ref 13, .ref 4] (xs iv av lv) (some (.int 0), xs iv' av' lv'))) := by
  obtain ⟨e, rfl⟩ : ∃ e, D = e + 1 := ⟨D - 1, by omega⟩
  -- which are there
  have loop1 : ∀ m k (O : Nat → Bool), m + k = 4 → (∀ r, r < k → (O r = true ↔ u r ≠ none)) → (∀ r, k ≤ r → O r = false) → ∃ O', (∀ r, r < 4 → (O' r = true ↔ u r ≠ none)) ∧ ∀ x, (∀ o3 o4, xe e xt_49 29 [some (.ref 13), some (.ref 4), some (.int (nI (msk O'))), o3, o4] [] (xs iv av lv) x) → ∀ o4, xe e xt_49 4 [some (.ref 13), some (.ref 4), some (.int (nI (msk O))), some (.int (nI k)), o4] [] (xs iv av lv) x := by
    intro m
    induction m with
    | zero =>
      intro k O hk h1 _
      have : k = 4 := by omega
      subst this
      exact ⟨O, fun r hr => ⟨fun h => (h1 r hr).mp h, fun h => (h1 r hr).mpr h⟩, fun x hx o4 => xb_49_4 (fun h => absurd h (by decide)) (fun _ => hx _ _)⟩
    | succ m ih =>
      intro k O hk h1 h2
      have hk4 : nI k < (4 : Int32) := show nI k < nI 4 from nI_lt (by omega) (by omega)
      cases huk : u k with
      | none =>
        obtain ⟨O', g1, g2⟩ := ih (k + 1) O (by omega) (fun r hr => by
          by_cases hrk : r = k
          · subst hrk
            rw [h2 r (Nat.le_refl _), huk]
            exact ⟨fun h => (by cases h), fun h => absurd rfl h⟩
          · exact h1 r (by omega)) (fun r hr => h2 r (by omega))
        refine ⟨O', g1, fun x hx o4 => xb_49_4 (fun _ => xb_49_9 (c_has (by omega) (by omega)) ?_) (fun h => absurd hk4 h)⟩
        rw [if_pos (hw.2.no (by omega) huk)]
        refine xb_49_14 (fun _ => xb_49_23 ?_) (fun h => absurd rfl h)
        rw [nI_1]
        exact g2 x hx none
      | some q =>
        obtain ⟨O', g1, g2⟩ := ih (k + 1) (va_up O k true) (by omega) (fun r hr => by
          by_cases hrk : r = k
          · subst hrk
            rw [va_up_self, huk]
            exact ⟨fun _ h => (by cases h), fun _ => rfl⟩
          · rw [va_up_ne' hrk]
            exact h1 r (by omega)) (fun r hr => by rw [va_up_ne' (by omega)]; exact h2 r (by omega))
        refine ⟨O', g1, fun x hx o4 => xb_49_4 (fun _ => xb_49_9 (c_has (by omega) (by omega)) ?_) (fun h => absurd hk4 h)⟩
        have l1 := u_len (by omega) huk
        rw [if_neg (by rw [(hw.2.some (by omega) huk).1]; exact nI_m1 (by omega))]
        refine xb_49_14 (fun h => absurd h (by decide)) (fun _ => xb_49_17 (xb_49_23 ?_))
        rw [msk_or (by omega), nI_1]
        exact g2 x hx none
  -- a round
  have loop2 : ∀ n m k iv av lv (O : Nat → Bool) a3, m + k = 4 → SW iv av u → IS u T E av O → (∀ r, r < 4 → rk u n r → O r = false) → (∀ r, r < k → rk u (n + 1) r → O r = false) →
      ∃ iv' av' lv' O', MF iv av lv iv' av' lv' ∧ IS u T E av' O' ∧ (∀ r, r = 4 ∨ u r = none → av' 9 r = av 9 r ∧ av' 10 r = av 10 r) ∧ (∀ r, r < 4 → rk u (n + 1) r → O' r = false) ∧ ∀ x, (∀ o4, xe e xt_49 87 [some (.ref 13), some (.ref 4), some (.int (nI (msk O'))), some (.int a3), o4] [] (xs iv' av' lv') x) → xe e xt_49 39 [some (.ref 13), some (.ref 4), some (.int (nI (msk O))), some (.int a3), some (.int (nI k))] [] (xs iv av lv) x := by
    intro n m
    induction m with
    | zero =>
      intro k iv av lv O a3 hk hw hi h1 h2
      have : k = 4 := by omega
      subst this
      exact ⟨iv, av, lv, O, MF.rf, hi, fun _ _ => ⟨rfl, rfl⟩, h2, fun x hx => xb_49_39 (fun h => absurd h (by decide)) (fun _ => hx _)⟩
    | succ m ih =>
      intro k iv av lv O a3 hk hw hi h1 h2
      obtain ⟨iv1, av1, lv1, O1, m1, i1, t1, o1, r1, x1⟩ := c_turn (lv := lv) (a3 := a3) (D := e) hu (by omega) hw hl hi (show k < 4 by omega)
      obtain ⟨iv2, av2, lv2, O2, m2, i2, t2, r2, x2⟩ := ih (k + 1) iv1 av1 lv1 O1 a3 (by omega) (hw.mf m1) i1 (fun r hr hk => o1 r (h1 r hr hk)) (fun r hr hkr => by
        by_cases hrk : r = k
        · subst hrk
          exact r1 n h1 hkr
        · exact o1 r (h2 r (by omega) hkr))
      refine ⟨iv2, av2, lv2, O2, m1.tr m2, i2, fun r hr => ⟨(t2 r hr).1.trans (t1 r hr).1, (t2 r hr).2.trans (t1 r hr).2⟩, r2, fun x hx => xb_49_39 (fun _ => x1 x (x2 x hx)) (fun h => absurd (show nI k < nI 4 from nI_lt (by omega) (by omega)) h)⟩
  have loop3 : ∀ m k iv av lv (O : Nat → Bool), m + k = 4 → SW iv av u → IS u T E av O → (∀ r, r < 4 → rk u k r → O r = false) →
      ∃ iv' av' lv' O', MF iv av lv iv' av' lv' ∧ IS u T E av' O' ∧ (∀ r, r = 4 ∨ u r = none → av' 9 r = av 9 r ∧ av' 10 r = av 10 r) ∧ (∀ r, r < 4 → rk u 4 r → O' r = false) ∧ ∀ x, (∀ o0 o1 o3 o4, xe e xt_49 93 [o0, o1, some (.int (nI (msk O'))), o3, o4] [] (xs iv' av' lv') x) → ∀ o4, xe e xt_49 31 [some (.ref 13), some (.ref 4), some (.int (nI (msk O))), some (.int (nI k)), o4] [] (xs iv av lv) x := by
    intro m
    induction m with
    | zero =>
      intro k iv av lv O hk hw hi h1
      have : k = 4 := by omega
      subst this
      exact ⟨iv, av, lv, O, MF.rf, hi, fun _ _ => ⟨rfl, rfl⟩, h1, fun x hx o4 => xb_49_31 (fun h => absurd h (by decide)) (fun _ => hx _ _ _ _)⟩
    | succ m ih =>
      intro k iv av lv O hk hw hi h1
      obtain ⟨iv1, av1, lv1, O1, m1, i1, t1, r1, x1⟩ := loop2 k 4 0 iv av lv O (nI k) rfl hw hi h1 (fun r hr => by omega)
      obtain ⟨iv2, av2, lv2, O2, m2, i2, t2, r2, x2⟩ := ih (k + 1) iv1 av1 lv1 O1 (by omega) (hw.mf m1) i1 r1
      refine ⟨iv2, av2, lv2, O2, m1.tr m2, i2, fun r hr => ⟨(t2 r hr).1.trans (t1 r hr).1, (t2 r hr).2.trans (t1 r hr).2⟩, r2, fun x hx o4 => xb_49_31 (fun _ => xb_49_36 (x1 x (fun o4 => xb_49_87 (by rw [nI_1]; exact x2 x hx none)))) (fun h => absurd (show nI k < nI 4 from nI_lt (by omega) (by omega)) h)⟩
  obtain ⟨O0, g1, g2⟩ := loop1 4 0 (fun _ => false) rfl (fun r hr => by omega) (fun _ _ => rfl)
  have i0 : IS u T E av O0 := ⟨fun p hp h => (g1 p hp).mp h, fun p hp hn h => by rw [(g1 p hp).mpr hn] at h; cases h⟩
  obtain ⟨iv1, av1, lv1, O1, m1, i1, t1, r1, x1⟩ := loop3 4 0 iv av lv O0 rfl hw i0 (fun r _ h => h.elim)
  have all : ∀ x, (∀ o0 o1 o3 o4, xe e xt_49 93 [o0, o1, some (.int (nI (msk O1))), o3, o4] [] (xs iv1 av1 lv1) x) → xm (e + 1) 49 [.ref 13, .ref 4] (xs iv av lv) x := fun x hx => xm_of (nL := 5) rfl rfl (xb_49_0 (g2 x (fun o3 o4 => xb_49_29 (x1 x hx none)) none))
  refine ⟨iv1, av1, lv1, O1, m1, i1, t1, ?_⟩
  by_cases hP : PLN u
  · have ho : ∀ p, p < 4 → O1 p = false := fun p hp => by
      cases hO : O1 p with
      | false => rfl
      | true =>
        have := r1 p hp (hP p hp (i1.1 p hp hO))
        rw [hO] at this
        exact this
    exact Or.inl ⟨hP, ho, all _ (fun _ _ _ _ => xb_49_93 (fun _ => xb_49_97 (xb_49_102 (Or.inr rfl))) (fun h => absurd (msk_0.mpr ho) h))⟩
  · refine Or.inr ⟨hP, all _ (fun _ _ _ _ => xb_49_93 (fun h => absurd (fun p hp hn => (i1.2 p hp hn (msk_0.mp h p hp)).1) hP) (fun _ => xb_49_101 (xb_49_102 (Or.inl rfl))))⟩
def tvv (u : UN) (T : TD) (p : Nat) : Nat := match u p with
  | none => 0
  | some _ => min (trT T 5 p) 20001
theorem tvv_no {u : UN} {T : TD} {p : Nat} (h : u p = none) : tvv u T p = 0 := by unfold tvv; rw [h]
theorem tvv_some {u : UN} {T : TD} {p : Nat} {q : Nat × List In} (h : u p = some q) : tvv u T p = min (trT T 5 p) 20001 := by unfold tvv; rw [h]
theorem tvv_le (u : UN) (T : TD) (p : Nat) : tvv u T p ≤ 20001 := by
  cases h : u p with
  | none => rw [tvv_no h]; omega
  | some q => rw [tvv_some h]; omega
def SHT (u : UN) (T : TD) : Prop := ∀ p, p < 5 → u p ≠ none → trT T 5 p ≤ 20000
theorem c_settle {iv : Nat → Int32} {av : Nat → Nat → Int32} {lv : Nat → Nat → Int64} (hu : UP tx u M T E) (hD : 6 ≤ D) (hw : SW iv av u) (h0 : ∀ j, j < 5 → av 9 j = 0 ∧ av 10 j = 0) (hsz : (uPart u 4).length < 2 ^ 20) :
    ∃ iv' av' lv', MF iv av lv iv' av' lv' ∧ (((uPart u 4).length ≤ 200 ∧ PLN u ∧ SHT u T ∧ (∀ p, p < 5 → u p ≠ none → av' 9 p = nI (trT T 5 p) ∧ av' 10 p = nI (trD E 5 p)) ∧ xm D 48 [.ref 13, .ref 4] (xs iv av lv) (some (.int 1), xs iv' av' lv')) ∨ (¬ ((uPart u 4).length ≤ 200 ∧ PLN u ∧ SHT u T) ∧ xm D 48 [.ref 13, .ref 4] (xs iv av lv) (some (.int 0), xs iv' av' lv'))) := by
  obtain ⟨e, rfl⟩ : ∃ e, D = e + 1 := ⟨D - 1, by omega⟩
  have hsize : iv 2 = nI (uPart u 4).length := by
    have := hw.1.1
    rw [lk_len] at this
    exact this
  by_cases hl : (uPart u 4).length ≤ 200
  case neg =>
    refine ⟨iv, av, lv, MF.rf, Or.inr ⟨fun h => hl h.1, ?_⟩⟩
    have x1 : xm e 44 [.ref 4] (xs iv av lv) (some (.int 1), xs iv av lv) := by
      obtain ⟨e', rfl⟩ : ∃ e', e = e' + 1 := ⟨e - 1, by omega⟩
      exact xm_of (nL := 1) rfl rfl (xb_44_0 (fun _ => xb_44_10 (xb_44_15 (Or.inr rfl))) (fun h => absurd (show nI 200 < iv 2 by rw [hsize]; exact nI_lt (by omega) (by omega)) h))
    exact xm_of (nL := 3) rfl rfl (xb_48_0 x1 (xb_48_4 (fun h => absurd h (by decide)) (fun _ => xb_48_15)))
  case pos =>
    have x1 : xm e 44 [.ref 4] (xs iv av lv) (some (.int 0), xs iv av lv) := by
      obtain ⟨e', rfl⟩ : ∃ e', e = e' + 1 := ⟨e - 1, by omega⟩
      exact xm_of (nL := 1) rfl rfl (xb_44_0 (fun h => absurd (show nI 200 < iv 2 from h) (by rw [hsize]; exact nI_nlt (by omega) (by omega))) (fun _ => xb_44_14 (xb_44_15 (Or.inl rfl))))
    obtain ⟨iv1, av1, lv1, O, m1, i1, t1, h⟩ := c_settleP (lv := lv) (D := e) hu (by omega) hw hl
    rcases h with ⟨hP, hO, x2⟩ | ⟨hP, x2⟩
    case inr => exact ⟨iv1, av1, lv1, m1, Or.inr ⟨fun h => hP h.2.1, xm_of (nL := 3) rfl rfl (xb_48_0 x1 (xb_48_4 (fun _ => xb_48_7 x2 (xb_48_12 (fun _ => xb_48_15) (fun h => absurd rfl h))) (fun h => absurd rfl h)))⟩⟩
    obtain ⟨q4, hq4⟩ := hu.1
    have h45 := (hu.2 4 q4 hq4).2.2.2.2
    obtain ⟨iv2, av2, lv2, m2, x3, v9, v10⟩ := c_meas (lv := lv1) (D := e) hu (by omega) (hw.mf m1) hl i1 hq4 (fun x hx h17 => hO x.2 (h45 x hx h17).1)
    -- the times
    have tv : ∀ p, p < 5 → av2 9 p = nI (tvv u T p) := fun p hp => by
      rw [v9]
      by_cases hp4 : p = 4
      · subst hp4
        rw [upd_eq', tvv_some hq4]
      · rw [upd_ne' hp4]
        cases hup : u p with
        | none =>
          rw [tvv_no hup, (t1 p (Or.inr hup)).1]
          exact (h0 p hp).1
        | some q =>
          have hn : u p ≠ none := by rw [hup]; exact fun h => by cases h
          obtain ⟨k1, k2, -⟩ := i1.2 p (by omega) hn (hO p (by omega))
          rw [tvv_some hup, k2, (tr_stab hu 4 p k1).1]
    have dv : ∀ p, p < 5 → u p ≠ none → av2 10 p = nI (trD E 5 p) := fun p hp hn => by
      rw [v10]
      by_cases hp4 : p = 4
      · subst hp4
        rw [upd_eq']
      · rw [upd_ne' hp4]
        obtain ⟨k1, -, k3⟩ := i1.2 p (by omega) hn (hO p (by omega))
        rw [k3, (tr_stab hu 4 p k1).2]
    have loop : ∀ m k, m + k = 5 → (∀ p, p < k → u p ≠ none → trT T 5 p ≤ 20000) → ((SHT u T ∧ ∀ o0, xe e xt_48 25 [o0, some (.ref 4), some (.int (nI k))] [] (xs iv2 av2 lv2) (some (.int 1), xs iv2 av2 lv2)) ∨ (¬ SHT u T ∧ ∀ o0, xe e xt_48 25 [o0, some (.ref 4), some (.int (nI k))] [] (xs iv2 av2 lv2) (some (.int 0), xs iv2 av2 lv2))) := by
      intro m
      induction m with
      | zero =>
        intro k hk h
        have : k = 5 := by omega
        subst this
        exact Or.inl ⟨h, fun o0 => xb_48_25 (fun h => absurd h (by decide)) (fun _ => xb_48_50)⟩
      | succ m ih =>
        intro k hk h
        have hk5 : nI k < (5 : Int32) := show nI k < nI 5 from nI_lt (by omega) (by omega)
        have hbd : 0 ≤ (nI k).toInt ∧ (nI k).toInt < ((5 : Nat) : Int) := nI_bd (by omega) (by omega)
        have ek : (nI k).toNatClampNeg = k := nI_clamp (by omega)
        by_cases hbig : 20000 < tvv u T k
        · refine Or.inr ⟨fun hs => ?_, fun o0 => xb_48_25 (fun _ => xb_48_30 hbd ?_) (fun h => absurd hk5 h)⟩
          · cases huk : u k with
            | none => rw [tvv_no huk] at hbig; omega
            | some q =>
              rw [tvv_some huk] at hbig
              have := hs k (by omega) (by rw [huk]; exact fun h => by cases h)
              omega
          · rw [ek, tv k (by omega)]
            have := tvv_le u T k
            exact xb_48_36 (fun _ => xb_48_42) (fun h => absurd (show nI 20000 < _ from nI_lt hbig (by omega)) h)
        · have h2 : ∀ p, p < k + 1 → u p ≠ none → trT T 5 p ≤ 20000 := fun p hp hn => by
            by_cases hpk : p = k
            · subst hpk
              obtain ⟨q, hq⟩ := Option.ne_none_iff_exists'.mp hn
              rw [tvv_some hq] at hbig
              omega
            · exact h p (by omega) hn
          have go : ∀ x, (∀ o0, xe e xt_48 25 [o0, some (.ref 4), some (.int (nI (k + 1)))] [] (xs iv2 av2 lv2) x) → ∀ o0, xe e xt_48 25 [o0, some (.ref 4), some (.int (nI k))] [] (xs iv2 av2 lv2) x := fun x hx o0 => by
            refine xb_48_25 (fun _ => xb_48_30 hbd ?_) (fun h => absurd hk5 h)
            rw [ek, tv k (by omega)]
            refine xb_48_36 (fun h => absurd (show nI 20000 < _ from h) (nI_nlt (by omega) (by omega))) (fun _ => xb_48_44 ?_)
            rw [nI_1]
            exact hx _
          rcases ih (k + 1) (by omega) h2 with ⟨a, b⟩ | ⟨a, b⟩
          · exact Or.inl ⟨a, go _ b⟩
          · exact Or.inr ⟨a, go _ b⟩
    have all : ∀ x, (∀ o0, xe e xt_48 25 [o0, some (.ref 4), some (.int (nI 0))] [] (xs iv2 av2 lv2) x) → xm (e + 1) 48 [.ref 13, .ref 4] (xs iv av lv) x := fun x hx => xm_of (nL := 3) rfl rfl (xb_48_0 x1 (xb_48_4 (fun _ => xb_48_7 x2 (xb_48_12 (fun h => absurd h (by decide)) (fun _ => xb_48_17 x3 (xb_48_23 (hx _))))) (fun h => absurd rfl h)))
    refine ⟨iv2, av2, lv2, m1.tr m2, ?_⟩
    rcases loop 5 0 rfl (fun p hp => by omega) with ⟨hS, hx⟩ | ⟨hS, hx⟩
    · refine Or.inl ⟨hl, hP, hS, fun p hp hn => ⟨?_, dv p hp hn⟩, all _ hx⟩
      rw [tv p hp]
      obtain ⟨q, hq⟩ := Option.ne_none_iff_exists'.mp hn
      have := hS p hp hn
      rw [tvv_some hq, Nat.min_eq_left (by omega)]
    · exact Or.inr ⟨fun h => hS h.2.2, all _ hx⟩
end STT
