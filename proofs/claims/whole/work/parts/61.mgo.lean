/-! The reference: a whole run. -/
def LH (e : Nat) (lv : Nat → Nat → Int64) (iv : Nat → Int32) (av : Nat → Nat → Int32) (S : MQt) (x : xi_R) : Prop := ∀ o3 o4 o5, xe e xt_114 49 [some (.ref 27), some (.int (nI S.2.1.length)), some (.int (nI S.1)), o3, o4, o5] [] (xs iv av lv) x
section MGO
variable {D e : Nat} {iv : Nat → Int32} {av : Nat → Nat → Int32} {lv : Nat → Nat → Int64} {cy hi o a y : Nat} {S S1 : MQt} {C : List In} {x : xi_R}
theorem lh_341 {iv1 : Nat → Int32} {av1 : Nat → Nat → Int32} (he : 1 ≤ e) (h24 : iv1 24 = nI hi) (hh : hi ≤ 200) (hs : S1.2.1.length ≤ 200) (hx : LH e lv (upd iv1 24 (nI (max hi S1.2.1.length))) av1 S1 x) (o3 o4 o5 : Option Value) : xe e xt_114 341 [some (.ref 27), some (.int (nI S1.2.1.length)), some (.int (nI S1.1)), o3, o4, o5] [] (xs iv1 av1 lv) x := by
  refine xb_114_341 ?_ (xb_114_350 (hx _ _ _))
  rw [h24]
  exact m_gr he (by omega) (by omega)
theorem m_pre (he : 2 ≤ e) (h : MM iv av S) (hp : LM av C) (hC : C.length ≤ 200) (hk : C[S.1]? = some (o, a)) (ho : o < 19) (hx : xe e xt_114 91 [some (.ref 27), some (.int (nI S.2.1.length)), some (.int (nI S.1)), some (.int (nI o)), some (.int (S.2.1.getD 0 0)), none] [.int (nI (trp o a S.2.1))] (xs iv av lv) x) : LH e lv iv av S x := fun o3 o4 o5 => by
  have hl := (List.getElem?_eq_some_iff.mp hk).1
  obtain ⟨e51, e52⟩ := hp _ _ _ hk
  have xt := m_trap (D := e) (lv := lv) (by omega) h hp hC hk (by omega)
  obtain ⟨h1, ⟨h2, h3⟩, -⟩ := h
  have ck : (nI S.1).toNatClampNeg = S.1 := nI_clamp (by omega)
  have hb : 0 ≤ (nI S.1).toInt ∧ (nI S.1).toInt < ((200 : Nat) : Int) := nI_bd (by omega) (by omega)
  refine xb_114_49 hb ?_
  rw [ck, e51]
  refine xb_114_55 (fun g => absurd ((nI_eq (b := 19) (by omega) (by omega)).mp g) (by omega)) (fun _ => xb_114_60 hb ?_)
  rw [ck, e51]
  refine xb_114_66 (fun g => ?_) (fun g => ?_)
  · have hl0 : 0 < S.2.1.length := (nI_ltI (a := 0) (by omega) (by omega)).mp g
    refine xb_114_71 (by rw [nI_s1 (by omega)]; exact nI_bd (by omega) (by omega)) ?_
    rw [nI_s1 (by omega), nI_clamp (by omega), sk_0 h3 hl0]
    exact xb_114_79 (xb_114_83 xt hx)
  · have hl0 : ¬ 0 < S.2.1.length := fun q => g ((nI_ltI (a := 0) (by omega) (by omega)).mpr q)
    have e0 : S.2.1.getD 0 0 = 0 := getD_none (by omega)
    rw [e0] at hx
    exact xb_114_82 (xb_114_83 xt hx)
theorem m_step1 (he : 3 ≤ e) (h : MM iv av S) (h23 : iv 23 = nI cy) (h24 : iv 24 = nI hi) (hh : hi ≤ 200) (hp : LM av C) (hC : C.length ≤ 200) (hk : C[S.1]? = some (o, a)) (ho : o < 19) (ht : trp o a S.2.1 = 0) (hx : exi o a S = some (y, S1)) (hB : S1.2.1.length ≤ 199) (ha : o = 1 ∨ o = 2 → a < 6) (ha2 : a < 2 ^ 20) (h18 : o = 18 → ∃ k, S.2.1.head? = some (nI k) ∧ k < 2 ^ 20) (hoc : S.2.2.2.2 + 1 < 2 ^ 20) : ∃ iv' av', YF iv av iv' av' ∧ MM iv' av' S1 ∧ iv' 23 = nI (cy + y) ∧ iv' 24 = nI (max hi S1.2.1.length) ∧ ∀ x, LH e lv iv' av' S1 x → LH e lv iv av S x := by
  have hl := (List.getElem?_eq_some_iff.mp hk).1
  obtain ⟨e51, e52⟩ := hp _ _ _ hk
  obtain ⟨k, s, P, O, oc⟩ := S
  have hl : k < C.length := hl
  have e52 : av 52 k = nI a := e52
  have ck : (nI k).toNatClampNeg = k := nI_clamp (by omega)
  have hb : 0 ≤ (nI k).toInt ∧ (nI k).toInt < ((200 : Nat) : Int) := nI_bd (by omega) (by omega)
  have ne : ∀ {k : Nat}, k < 2 ^ 30 → o ≠ k → ¬ nI o = nI k := fun hk q g => q ((nI_eq (by omega) (by omega)).mp g)
  have go : ∀ x, (∀ o5, xe e xt_114 119 [some (.ref 27), some (.int (nI s.length)), some (.int (nI k)), some (.int (nI o)), some (.int (s.getD 0 0)), o5] [] (xs iv av lv) x) → LH e lv iv av (k, s, P, O, oc) x := fun x hx => m_pre (by omega) h hp hC hk ho (by
    have ht : trp o a s = 0 := ht
    show xe e xt_114 91 _ [.int (nI (trp o a s))] _ _
    rw [ht]
    exact xb_114_91 (fun g => absurd g (by decide)) (fun _ => hx _))
  -- the last steps, from a state with the new cycles
  have fin : ∀ (iv1 : Nat → Int32) (av1 : Nat → Nat → Int32), ((∀ q, q ≠ 23 → q ≠ 26 → iv1 q = iv q) ∧ ∀ q, q < 57 ∨ 59 < q → av1 q = av q) → MM iv1 av1 S1 → iv1 23 = nI (cy + y) → (∀ x, (∀ o3 o4 o5, xe e xt_114 341 [some (.ref 27), some (.int (nI S1.2.1.length)), some (.int (nI S1.1)), o3, o4, o5] [] (xs iv1 av1 lv) x) → LH e lv iv av (k, s, P, O, oc) x) → ∃ iv' av', YF iv av iv' av' ∧ MM iv' av' S1 ∧ iv' 23 = nI (cy + y) ∧ iv' 24 = nI (max hi S1.2.1.length) ∧ ∀ x, LH e lv iv' av' S1 x → LH e lv iv av (k, s, P, O, oc) x := fun iv1 av1 f m1 e23 g =>
    ⟨upd iv1 24 (nI (max hi S1.2.1.length)), av1, ⟨fun q a => by rw [upd_ne' (by omega)]; exact f.1 q (by omega) (by omega), f.2⟩, m1, e23, upd_eq', fun x hx => g x (fun o3 o4 o5 => lh_341 (by omega) (by rw [f.1 24 (by decide) (by decide)]; exact h24) hh (by omega) hx o3 o4 o5)⟩
  have h0 := h
  obtain ⟨h1, ⟨h2, h3⟩, h4, h5, h6, h7⟩ := h
  have h2 : s.length ≤ 200 := h2
  have add : ∀ z, iv 23 + nI z = nI (cy + z) := fun z => by rw [h23, nI_add]
  by_cases o14 : o = 14
  · subst o14
    have hx : some (2, a, s, P, O, oc) = some (y, S1) := hx
    cases hx
    refine fin (upd iv 23 (nI (cy + 2))) av ⟨fun q b _ => upd_ne' b, fun _ _ => rfl⟩ ⟨ha2, ⟨h2, h3⟩, h4, h5, h6, h7⟩ upd_eq' (fun x hx => go x (fun o5 => xb_114_119 (fun g => absurd g (by decide)) (fun _ => xb_114_125 (fun g => absurd g (by decide)) (fun _ => xb_114_213 (fun _ => xb_114_225 (fun _ => xb_114_236 (xb_114_241 (fun _ => xb_114_251 (xb_114_258 (fun _ => xb_114_265 hb ?_) (fun g => absurd rfl g))) (fun g => absurd rfl g))) (fun g => absurd rfl g)) (fun g => absurd rfl g)))))
    rw [ck, e52, show iv 23 + 2 = nI (cy + 2) from add 2]
    exact xb_114_271 (xb_114_276 (hx _ _ _))
  by_cases o17 : o = 17
  · subst o17
    have hx : some (4, a, nI (k + 1) :: s, P, O, oc) = some (y, S1) := hx
    cases hx
    have hs : s.length < 200 := by have : s.length + 1 ≤ 199 := hB; omega
    refine fin (upd iv 23 (nI (cy + 4))) (va_up av 58 (upd (av 58) s.length (nI (k + 1)))) ⟨fun q b _ => upd_ne' b, fun q b => va_up_ne' (by omega)⟩ ⟨ha2, ⟨hs, upd_eq', sk_upd h3 (Nat.le_refl _)⟩, h4, h5, h6, h7⟩ upd_eq' (fun x hx => go x (fun o5 => xb_114_119 (fun g => absurd g (by decide)) (fun _ => xb_114_125 (fun g => absurd g (by decide)) (fun _ => xb_114_213 (fun g => absurd g (by decide)) (fun _ => xb_114_219 (fun g => absurd g (by decide)) (fun _ => xb_114_280 (fun _ => xb_114_286 (nI_bd (by omega) (by omega)) (xb_114_305 hb ?_)) (fun g => absurd rfl g)))))))
    rw [nI_clamp (by omega), ck, nI_1, nI_1, show iv 23 + 4 = nI (cy + 4) from add 4]
    show xe e xt_114 314 _ [.int (av 52 k)] _ _
    rw [e52]
    exact xb_114_314 (hx _ _ _)
  by_cases o1315 : o = 13 ∨ o = 15
  · unfold exi at hx
    dsimp only at hx
    rw [if_neg (by omega), if_neg (by omega), if_neg o14, if_neg o17] at hx
    cases s with
    | nil => cases hx
    | cons t r =>
      dsimp only at hx
      rw [if_neg (by omega), if_neg (by omega), if_neg (by omega), if_neg (by omega)] at hx
      have hr : r.length + 1 ≤ 200 := h2
      have er : nI (t :: r).length - 1 = nI r.length := nI_pred _
      have g131 : ∀ x, xe e xt_114 131 [some (.ref 27), some (.int (nI (t :: r).length)), some (.int (nI k)), some (.int (nI o)), some (.int t), none] [] (xs iv av lv) x → LH e lv iv av (k, t :: r, P, O, oc) x := fun x hx => go x (fun o5 => xb_114_119 (fun _ => hx) (fun g => xb_114_125 (fun _ => hx) (fun g2 => absurd (o1315.elim (fun q => absurd (by rw [q]; rfl) g) (fun q => absurd (by rw [q]; rfl) g2)) not_false)))
      by_cases t0 : t = 0
      · -- it goes to its argument
        have hx : y = 3 ∧ S1 = (a, r, P, O, oc) := by
          rcases o1315 with q | q
          · rw [if_pos q, if_pos t0] at hx; cases hx; exact ⟨rfl, rfl⟩
          · rw [if_neg (by omega), if_pos q, if_pos t0] at hx; cases hx; exact ⟨rfl, rfl⟩
        obtain ⟨rfl, rfl⟩ := hx
        refine fin (upd iv 23 (nI (cy + 3))) av ⟨fun q b _ => upd_ne' b, fun _ _ => rfl⟩ ⟨ha2, ⟨by show r.length ≤ 200; omega, h3.2⟩, h4, h5, h6, h7⟩ upd_eq' (fun x hx => g131 x (xb_114_131 (fun _ => xb_114_141 ?_) (fun g => absurd t0 g)))
        have g192 : ∀ o3 o5, xe e xt_114 192 [some (.ref 27), some (.int (nI r.length)), some (.int (nI k)), o3, some (.int t), o5] [] (xs (upd iv 23 (nI (cy + 3))) av lv) x := fun o3 o5 => by
          refine xb_114_192 (fun _ => xb_114_197 hb ?_) (fun g => absurd t0 g)
          rw [ck, e52]
          exact xb_114_203 (xb_114_209 (hx _ _ _))
        have g161 : ∀ o5, xe e xt_114 161 [some (.ref 27), some (.int (nI (t :: r).length)), some (.int (nI k)), some (.int (nI o)), some (.int t), o5] [] (xs (upd iv 23 (nI (cy + 3))) av lv) x := fun o5 => by
          refine xb_114_161 ?_
          rw [er]
          exact xb_114_168 (fun _ => xb_114_175 (fun _ => g192 _ _) (fun g => absurd t0 g)) (fun _ => g192 _ _)
        refine xb_114_146 (fun _ => ?_) (fun _ => xb_114_156 (fun _ => ?_) (fun g => absurd t0 g)) <;> rw [show iv 23 + 3 = nI (cy + 3) from add 3] <;> exact g161 _
      · rcases o1315 with rfl | rfl
        · rw [if_pos rfl, if_neg t0] at hx
          cases hx
          refine fin (upd iv 23 (nI (cy + 1))) av ⟨fun q b _ => upd_ne' b, fun _ _ => rfl⟩ ⟨by show k + 1 < 2 ^ 20; omega, ⟨by show r.length ≤ 200; omega, h3.2⟩, h4, h5, h6, h7⟩ upd_eq' (fun x hx => g131 x (xb_114_131 (fun g => absurd g t0) (fun _ => xb_114_145 (xb_114_146 (fun _ => xb_114_161 ?_) (fun g => absurd rfl g)))))
          rw [er, show iv 23 + 1 = nI (cy + 1) from add 1]
          refine xb_114_168 (fun g => absurd g (by decide)) (fun _ => xb_114_192 (fun g => absurd g t0) (fun _ => xb_114_206 ?_))
          rw [nI_1]
          exact xb_114_209 (hx _ _ _)
        · rw [if_neg (by decide), if_pos rfl, if_neg t0] at hx
          cases hx
          refine fin (upd iv 23 (nI (cy + 1))) (va_up av 58 (upd (av 58) r.length (t - 1))) ⟨fun q b _ => upd_ne' b, fun q b => va_up_ne' (by omega)⟩ ⟨by show k + 1 < 2 ^ 20; omega, ⟨hr, upd_eq', sk_upd h3.2 (Nat.le_refl _)⟩, h4, h5, h6, h7⟩ upd_eq' (fun x hx => g131 x (xb_114_131 (fun g => absurd g t0) (fun _ => xb_114_145 (xb_114_146 (fun g => absurd g (by decide)) (fun _ => xb_114_156 (fun g => absurd g t0) (fun _ => xb_114_167 (xb_114_168 (fun _ => xb_114_175 (fun g => absurd g t0) (fun _ => xb_114_180 (by rw [er]; exact nI_bd (by omega) (by omega)) ?_)) (fun g => absurd rfl g))))))))
          rw [er, nI_clamp (by omega), show iv 23 + 1 = nI (cy + 1) from add 1]
          refine xb_114_192 (fun g => absurd g t0) (fun _ => xb_114_206 ?_)
          rw [nI_1]
          exact xb_114_209 (hx _ _ _)
  by_cases o18 : o = 18
  · subst o18
    unfold exi at hx
    dsimp only at hx
    rw [if_neg (by decide), if_neg (by decide), if_neg (by decide), if_neg (by decide)] at hx
    cases s with
    | nil => cases hx
    | cons t r =>
      dsimp only at hx
      rw [if_neg (by decide), if_neg (by decide), if_neg (by decide), if_neg (by decide), if_neg (by decide), if_neg (by decide), if_neg (by decide), if_pos rfl] at hx
      cases hx
      obtain ⟨kk, hkk, hkl⟩ := h18 rfl
      have : t = nI kk := Option.some.inj hkk
      subst this
      have ek : (nI kk).toNatClampNeg = kk := nI_clamp (by omega)
      have hr : r.length + 1 ≤ 200 := h2
      have er : nI (nI kk :: r).length - 1 = nI r.length := nI_pred _
      refine fin (upd iv 23 (nI (cy + 3))) av ⟨fun q b _ => upd_ne' b, fun _ _ => rfl⟩ ⟨by rw [ek]; exact hkl, ⟨by show r.length ≤ 200; omega, h3.2⟩, h4, h5, h6, h7⟩ upd_eq' (fun x hx => go x (fun o5 => xb_114_119 (fun g => absurd g (by decide)) (fun _ => xb_114_125 (fun g => absurd g (by decide)) (fun _ => xb_114_213 (fun g => absurd g (by decide)) (fun _ => xb_114_219 (fun _ => xb_114_225 (fun g => absurd g (by decide)) (fun _ => xb_114_240 (xb_114_241 (fun g => absurd g (by decide)) (fun _ => xb_114_255 ?_)))) (fun g => absurd rfl g))))))
      rw [er, show iv 23 + 3 = nI (cy + 3) from add 3]
      refine xb_114_258 (fun g => absurd g (by decide)) (fun _ => xb_114_274 (xb_114_276 ?_))
      have := hx none none none
      dsimp only at this
      rw [ek] at this
      exact this
  -- all others
  have xc := m_cost (D := e) (iv := iv) (av := av) (lv := lv) (o := o) (by omega) (by omega) o14
  have m0 : MM (upd iv 23 (nI (cy + cs1 o))) av (k, s, P, O, oc) := ⟨h1, ⟨h2, h3⟩, h4, h5, h6, h7⟩
  obtain ⟨ey, ek, iv1, av1, f1, m1, x1⟩ := m_does (D := e) (lv := lv) (by omega) m0 hp hC hk (by omega) hx ht ha hB hoc
  refine fin iv1 av1 ⟨fun q b c => by rw [f1.1 q c, upd_ne' b], f1.2⟩ m1 (by rw [f1.1 23 (by decide), ey]; exact upd_eq') (fun x hx => go x (fun o5 => xb_114_119 (fun g => absurd g (ne (k := 13) (by omega) (by omega))) (fun _ => xb_114_125 (fun g => absurd g (ne (k := 15) (by omega) (by omega))) (fun _ => xb_114_213 (fun g => absurd g (ne (k := 14) (by omega) o14)) (fun _ => xb_114_219 (fun g => absurd g (ne (k := 18) (by omega) o18)) (fun _ => xb_114_280 (fun g => absurd g (ne (k := 17) (by omega) o17)) (fun _ => xb_114_318 xc (xb_114_327 (by rw [add]; exact x1) (xb_114_337 ?_)))))))))
  rw [nI_1, ← ek]
  exact hx _ _ _
theorem m_go (he : 3 ≤ e) (hA : ∀ q ∈ C, q.2 < 2 ^ 20) (hC : C.length ≤ 200) : ∀ (n : Nat) (S : MQt) (cy hi : Nat) (S' : MQt) (cy' hi' : Nat) iv av i, GO C 199 n S cy hi S' cy' hi' → MM iv av S → iv 23 = nI cy → iv 24 = nI hi → hi ≤ 200 → LM av C → n + i ≤ 20000 → S.2.2.2.2 ≤ i → hi' ≤ 200 ∧
    ∃ iv' av', YF iv av iv' av' ∧ MM iv' av' S' ∧ iv' 23 = nI cy' ∧ iv' 24 = nI hi' ∧ ∀ x, LH e lv iv' av' S' x → LH e lv iv av S x
  | 0, S, cy, hi, S', cy', hi', iv, av, i, h, hm, h23, h24, hh, hp, hn, ho => by
    obtain ⟨rfl, rfl, rfl⟩ := h
    exact ⟨hh, iv, av, YF.rf, hm, h23, h24, fun x hx => hx⟩
  | n + 1, S, cy, hi, S', cy', hi', iv, av, i, h, hm, h23, h24, hh, hp, hn, ho => by
    obtain ⟨o, a, y, S1, h1, h2, h3, h4, h5, h6, h8, h9⟩ := h
    have hy := exi_y h2 h4
    obtain ⟨iv1, av1, f1, m1, a1, a2, x1⟩ := m_step1 (lv := lv) he hm h23 h24 hh hp hC h1 h2 h3 h4 h5 h6 (hA _ (List.mem_of_getElem? h1)) h8 (by omega)
    obtain ⟨g0, iv2, av2, f2, m2, b1, b2, x2⟩ := m_go he hA hC n S1 (cy + y) _ S' cy' hi' iv1 av1 (i + 1) h9 m1 a1 a2 (by omega) (hp.to f1.2) (by omega) (by omega)
    exact ⟨g0, iv2, av2, f1.tr f2, m2, b1, b2, fun x hx => x1 x (x2 x hx)⟩
theorem m_fin {r z : Nat} (he : 2 ≤ e) (h : MM iv av S) (h23 : iv 23 = nI cy) (hp : LM av C) (hC : C.length ≤ 200) (hf : FIN C S r z) : LH e lv iv av S (some (.int (nI r)), xs (upd (upd iv 23 (nI (cy + z))) 25 (nI S.1)) av lv) := by
  obtain ⟨o, a, k1, k2, rfl, rfl⟩ := hf
  have hl := (List.getElem?_eq_some_iff.mp k1).1
  obtain ⟨e51, e52⟩ := hp _ _ _ k1
  rcases k2 with ⟨rfl, ht⟩ | ⟨ho, ht⟩
  · intro o3 o4 o5
    have ck : (nI S.1).toNatClampNeg = S.1 := nI_clamp (by omega)
    refine xb_114_49 (nI_bd (by omega) (by omega)) ?_
    rw [ck, e51, ht]
    have e0 : cs1 19 = 0 := rfl
    have eiv : upd iv 23 (nI (cy + cs1 19)) = iv := by
      funext q
      by_cases hq : q = 23
      · subst hq; rw [upd_eq', e0, Nat.add_zero, h23]
      · rw [upd_ne' hq]
    rw [eiv]
    exact xb_114_55 (fun _ => xb_114_356) (fun g => absurd rfl g)
  · refine m_pre he h hp hC k1 ho (xb_114_91 (fun _ => xb_114_98 (m_cost (D := e) (o := o) (by omega) (by omega) ?_) ?_) (fun g => ?_))
    · intro q
      subst q
      exact ht rfl
    · rw [h23, ← nI_add]
      exact xb_114_107
    · have hle : trp o a S.2.1 < 2 ^ 31 := by
        unfold trp
        repeat' split
        all_goals omega
      exact absurd ((nI_ltI (a := 0) (by omega) hle).mpr (by omega)) g
theorem m_run {P O : Nat → Int32} {n r z : Nat} (hD : 4 ≤ D) (hA : ∀ q ∈ C, q.2 < 2 ^ 20) (hC : C.length ≤ 200) (hp : LM av C) (h20 : iv 20 = 1) (hP : EQn 14 (av 57) P) (hO : EQn 32 (av 59) O) (hg : GO C 199 n (0, [], P, O, 0) 0 0 S cy hi) (hn : n ≤ 20000) (hf : FIN C S r z) :
    ∃ iv' av', ((∀ q, q < 11 ∨ (11 < q ∧ q < 22) ∨ 26 < q → iv' q = iv q) ∧ ∀ q, q < 57 ∨ 59 < q → av' q = av q) ∧ (iv' 11 = 0 ∧ iv' 22 = 1 ∧ iv' 23 = nI (cy + z) ∧ iv' 24 = nI hi ∧ iv' 25 = nI S.1 ∧ iv' 26 = nI S.2.2.2.2) ∧ EQn 14 (av' 57) S.2.2.1 ∧ EQn 32 (av' 59) S.2.2.2.1 ∧ xm D 114 [.ref 27] (xs iv av lv) (some (.int (nI r)), xs iv' av' lv) := by
  obtain ⟨d, rfl⟩ : ∃ d, D = d + 1 := ⟨D - 1, by omega⟩
  generalize hiv1 : upd (upd (upd (upd (upd iv 11 0) 22 1) 23 0) 24 0) 26 0 = iv1
  have f0 : ∀ q, q < 11 ∨ (11 < q ∧ q < 22) ∨ q = 25 ∨ 26 < q → iv1 q = iv q := fun q a => by
    subst hiv1
    rw [upd_ne' (by omega), upd_ne' (by omega), upd_ne' (by omega), upd_ne' (by omega), upd_ne' (by omega)]
  have m0 : MM iv1 av (0, [], P, O, 0) := by
    subst hiv1
    exact ⟨by show (0 : Nat) < 2 ^ 20; omega, ⟨by simp, trivial⟩, hP, hO, rfl, by show (0 : Nat) < 2 ^ 20; omega⟩
  have e23 : iv1 23 = nI 0 := by subst hiv1; rfl
  have e24 : iv1 24 = nI 0 := by subst hiv1; rfl
  have e11 : iv1 11 = 0 := by subst hiv1; rfl
  have e22 : iv1 22 = 1 := by subst hiv1; rfl
  obtain ⟨hh, iv2, av2, f2, m2, b1, b2, x2⟩ := m_go (e := d) (lv := lv) (by omega) hA hC n _ _ _ _ _ _ iv1 av 0 hg m0 e23 e24 (by omega) hp (by omega) (Nat.zero_le _)
  have xf := m_fin (e := d) (lv := lv) (by omega) m2 b1 (hp.to f2.2) hC hf
  refine ⟨upd (upd iv2 23 (nI (cy + z))) 25 (nI S.1), av2, ⟨fun q a => ?_, f2.2⟩, ⟨?_, ?_, ?_, ?_, upd_eq', ?_⟩, m2.2.2.1, m2.2.2.2.1, xm_of (nL := 6) rfl rfl (xb_114_0 (fun g => ?_) (fun _ => xb_114_8 (xb_114_13 (fun g => ?_) (fun _ => xb_114_25 ?_))))⟩
  · rw [upd_ne' (by omega), upd_ne' (by omega), f2.1 q (by omega), f0 q (by omega)]
  · rw [upd_ne' (by decide), upd_ne' (by decide), f2.1 11 (by omega), e11]
  · rw [upd_ne' (by decide), upd_ne' (by decide), f2.1 22 (by omega), e22]
  · rw [upd_ne' (by decide), upd_eq']
  · rw [upd_ne' (by decide), upd_ne' (by decide)]
    exact b2
  · rw [upd_ne' (by decide), upd_ne' (by decide)]
    exact m2.2.2.2.2.1
  · rw [h20] at g
    exact absurd g (by decide)
  · rw [h20] at g
    exact absurd g (by decide)
  · rw [hiv1]
    exact x2 _ xf _ _ _
end MGO
