/-! The reference: reckon over the marks of structured code. -/
section MRV
variable {d p en : Nat} {iv : Nat → Int32} {lv : Nat → Nat → Int64} {Mk : List In} {t dd : Nat → Nat} {G : Nat → Prop}
theorem rk_sl (hd : 1 ≤ d) : ∀ (c : List In) (s l h h' X Y : Nat) (av : Nat → Nat → Int32), (∀ q ∈ c, q.1 ≤ 12 ∨ q.1 = 16) → ht c h = some h' → RX p en Mk t dd G av → AT Mk s c → l < 10 → s + c.length ≤ en → h + c.length ≤ 1000000 → av 43 l = nI X → X ≤ 100000 → av 44 l = nI Y → Y ≤ 2000000 →
    ∃ av', FR l av av' ∧ av' 43 l = nI (min (X + cst c) 100000) ∧ av' 44 l = nI (mh c h Y) ∧ ∀ x, RW d p iv lv l h' (s + c.length) av' x → RW d p iv lv l h s av x
  | [], s, l, h, h', X, Y, av, _, hh, _, _, _, _, _, hX, hX2, hY, _ => by
    cases hh
    refine ⟨av, FR.rf, ?_, hY, fun x hx => hx⟩
    rw [hX]
    show nI X = nI (min (X + 0) 100000)
    rw [show min (X + 0) 100000 = X by omega]
  | q :: c, s, l, h, h', X, Y, av, hc, hh, hx, hA, hl, hs, hb, hX, hX2, hY, hY2 => by
    obtain ⟨k, hk, hh2⟩ := Option.bind_eq_some_iff.mp hh
    have hkl : k ≤ h + 1 := by
      have := nh_le q.1 h
      rw [hk] at this
      exact this
    obtain ⟨o, a⟩ := q
    have ho := hc (o, a) (List.mem_cons_self ..)
    dsimp only at ho hk
    simp only [List.length_cons] at hs hb
    have f1 := cw_fr (av := av) (l := l) (c := min (X + cs1 o) 100000) (w := max Y k)
    obtain ⟨a43, a44⟩ := cw_at (av := av) (l := l) (c := min (X + cs1 o) 100000) (w := max Y k)
    obtain ⟨av', g1, g2, g3, g4⟩ := rk_sl hd c (s + 1) l k h' (min (X + cs1 o) 100000) (max Y k) (cw av l (min (X + cs1 o) 100000) (max Y k)) (fun q hq => hc q (List.mem_cons_of_mem _ hq)) hh2 (hx.to f1.1) hA.t hl (by omega) (by omega) a43 (by omega) a44 (by omega)
    refine ⟨av', f1.tr g1, ?_, ?_, fun x hx' => ?_⟩
    · rw [g2, cst_cons]
      congr 1
      dsimp only
      omega
    · rw [g3]
      show nI (mh c k (max Y k)) = nI (mh c ((nh o h).getD 0) (max Y ((nh o h).getD 0)))
      rw [hk]
      rfl
    · refine rw_one hd hx (by omega) hA.h (by omega) (Or.inl hk) hl hX hX2 hY hY2 (by omega) (g4 x ?_)
      rw [List.length_cons] at hx'
      rw [show s + 1 + c.length = s + (c.length + 1) by omega]
      exact hx'
/-- a piece of code, its marks walked -/
def WQ (d p en : Nat) (iv : Nat → Int32) (lv : Nat → Nat → Int64) (Mk : List In) (t dd : Nat → Nat) (G : Nat → Prop) : QP := fun c m T D => SC c m T D ∧ (∀ l, lvv m l = l) ∧ ∀ s l h X Y av, RX p en Mk t dd G av → AT Mk s m → DB 9 m l → l ≤ 9 → s + m.length ≤ en → (∀ q ∈ c, q.1 = 17 → G q.2) → h + c.length ≤ 900000 → av 43 l = nI X → X ≤ 100000 → av 44 l = nI Y → h ≤ Y → Y ≤ 2000000 →
  ∃ av', FR l av av' ∧ av' 43 l = nI (min (X + T t) 100000) ∧ av' 44 l = nI (max Y (h + D dd)) ∧ ∀ x, RW d p iv lv l h (s + m.length) av' x → RW d p iv lv l h s av x
theorem rk_sl1 {v : List In} {e s l h X Y : Nat} {av : Nat → Nat → Int32} (hd : 1 ≤ d) (hv : SL v e) (hx : RX p en Mk t dd G av) (hA : AT Mk s v) (hl : l < 10) (hs : s + v.length ≤ en) (hb : h + v.length ≤ 1000000) (hX : av 43 l = nI X) (hX2 : X ≤ 100000) (hY : av 44 l = nI Y) (hhY : h ≤ Y) (hY2 : Y ≤ 2000000) :
    ∃ av', FR l av av' ∧ av' 43 l = nI (min (X + cst v) 100000) ∧ av' 44 l = nI (max Y (h + mh v 0 0)) ∧ ∀ x, RW d p iv lv l (h + e) (s + v.length) av' x → RW d p iv lv l h s av x := by
  obtain ⟨av', g1, g2, g3, g4⟩ := rk_sl (iv := iv) (lv := lv) hd v s l h (h + e) X Y av (fun q hq => (hv.1 q hq).1) (hv.2 h) hx hA hl hs hb hX hX2 hY hY2
  rw [mh_sl hv hhY] at g3
  exact ⟨av', g1, g2, g3, g4⟩
theorem mem_sh_G {c b : List In} {k : Nat} (h : ∀ q ∈ c, q.1 = 17 → G q.2) (hb : ∀ q, q ∈ sh k b → q ∈ c) : ∀ q ∈ b, q.1 = 17 → G q.2 := fun q hq e => h q (hb q (mem_sh17 hq e)) e
theorem wq_nil : WQ d p en iv lv Mk t dd G [] [] (fun _ => 0) (fun _ => 0) := ⟨SC.rules.1, fun _ => rfl, fun s l h X Y av hx hA hdb hl hs hG hb hX hX2 hY hhY hY2 => ⟨av, FR.rf, by rw [hX, show min (X + 0) 100000 = X by omega], by rw [hY, show max Y (h + 0) = Y by omega], fun x h => h⟩⟩
theorem wq_seq {c1 m1 : List In} {T1 D1 : (Nat → Nat) → Nat} {c2 m2 : List In} {T2 D2 : (Nat → Nat) → Nat} (hdd : ∀ q, dd q ≤ 2000) (h1 : WQ d p en iv lv Mk t dd G c1 m1 T1 D1) (h2 : WQ d p en iv lv Mk t dd G c2 m2 T2 D2) : WQ d p en iv lv Mk t dd G (c1 ++ sh c1.length c2) (m1 ++ m2) (fun t => T1 t + T2 t) (fun d => max (D1 d) (D2 d)) := by
  refine ⟨SC.rules.2.1 _ _ _ _ _ _ _ _ h1.1 h2.1, fun l => by rw [lvv_app, h1.2.1, h2.2.1], fun s l h X Y av hx hA hdb hl hs hG hb hX hX2 hY hhY hY2 => ?_⟩
  rw [db_app, h1.2.1] at hdb
  rw [List.length_append] at hs
  rw [List.length_append, sh_len] at hb
  have dp := sc_dep h1.1 (d := dd) (M := 2000) (fun q _ => hdd q)
  obtain ⟨av1, f1, a1, b1, x1⟩ := h1.2.2 s l h X Y av hx hA.l hdb.1 hl (by omega) (fun q hq e => hG q (List.mem_append_left _ hq) e) (by omega) hX hX2 hY hhY hY2
  obtain ⟨av2, f2, a2, b2, x2⟩ := h2.2.2 (s + m1.length) l h (min (X + T1 t) 100000) (max Y (h + D1 dd)) av1 (hx.to f1.1) hA.r hdb.2 hl (by omega) (mem_sh_G hG (fun q hq => List.mem_append_right _ hq)) (by omega) a1 (by omega) b1 (by omega) (by omega)
  refine ⟨av2, f1.tr f2, ?_, ?_, fun x hx' => x1 x (x2 x ?_)⟩
  · rw [a2]
    congr 1
    try dsimp only
    omega
  · rw [b2]
    congr 1
    try dsimp only
    omega
  · rw [List.length_append] at hx'
    rw [Nat.add_assoc]
    exact hx'
theorem wq_sl {c : List In} (hd : 1 ≤ d) (hc : SL c 0) : WQ d p en iv lv Mk t dd G c c (fun _ => cst c) (fun _ => mh c 0 0) := by
  refine ⟨SC.rules.2.2.1 c hc, lvv_flat (sl_flat hc), fun s l h X Y av hx hA hdb hl hs hG hb hX hX2 hY hhY hY2 => ?_⟩
  exact rk_sl1 hd hc hx hA (by omega) hs (by omega) hX hX2 hY hhY hY2
theorem wq_call {q : Nat} (hd : 1 ≤ d) (hq : q < 4) : WQ d p en iv lv Mk t dd G [(17, q)] [(17, q)] (fun t => 4 + t q) (fun d => 1 + d q) := by
  refine ⟨SC.rules.2.2.2.2.2.2 q hq, lvv_flat (fun x hx => by rw [List.mem_singleton.mp hx]; show (17 : Nat) < 30; decide), fun s l h X Y av hx hA hdb hl hs hG hb hX hX2 hY hhY hY2 => ?_⟩
  simp only [List.length_cons, List.length_nil] at hs hb
  exact ⟨_, cw_fr, cw_at.1, cw_at.2, fun x hx' => rw_call hd hx (by omega) hA.h hq (hG _ (List.mem_singleton.mpr rfl) rfl) (by omega) hX hX2 hY hY2 (by omega) hx'⟩
theorem wq_if {v b mb : List In} {T D : (Nat → Nat) → Nat} (hd : 2 ≤ d) (hdd : ∀ q, dd q ≤ 2000) (hv : SL v 1) (hb' : WQ d p en iv lv Mk t dd G b mb T D) : WQ d p en iv lv Mk t dd G (v ++ [(13, v.length + 1 + b.length)] ++ sh (v.length + 1) b) (v ++ [(30, 0)] ++ mb ++ [(32, 0)]) (fun t => cst v + max 3 (1 + T t)) (fun d => max (mh v 0 0) (D d)) := by
  have e1 : ∀ l, lvv [(30, 0)] l = l + 1 := fun _ => rfl
  refine ⟨SC.rules.2.2.2.1 v b mb T D hv hb'.1, fun l => ?_, fun s l h X Y av hx hA hdb hl hs hG hb hX hX2 hY hhY hY2 => ?_⟩
  · rw [lvv_app, lvv_app, lvv_app, lvv_flat (sl_flat hv), e1, hb'.2.1]
    rfl
  simp only [db_app, lvv_app, lvv_flat (sl_flat hv), e1, hb'.2.1] at hdb
  obtain ⟨⟨⟨-, d1⟩, d2⟩, -⟩ := hdb
  have hl9 : l + 1 ≤ 9 := d1.1
  have dp := sc_dep hb'.1 (d := dd) (M := 2000) (fun q _ => hdd q)
  have mv := mh_le v 0 0
  simp only [List.length_append, List.length_cons, List.length_nil, sh_len] at hs hb
  obtain ⟨av1, f1, a1, b1, x1⟩ := rk_sl1 (d := d) (iv := iv) (lv := lv) (by omega) hv hx hA.l.l.l (by omega) (by omega) (by omega) hX hX2 hY hhY hY2
  have A1 : Mk[s + v.length]? = some (30, 0) := hA.l.l.r.h
  have A2 : AT Mk (s + v.length + 1) mb := by
    have := hA.l.r
    simp only [List.length_append, List.length_cons, List.length_nil] at this
    rw [show s + v.length + 1 = s + (v.length + (0 + 1)) by omega]
    exact this
  have A3 : Mk[s + v.length + 1 + mb.length]? = some (32, 0) := by
    have := hA.r.h
    simp only [List.length_append, List.length_cons, List.length_nil] at this
    rw [show s + v.length + 1 + mb.length = s + (v.length + (0 + 1) + mb.length) by omega]
    exact this
  obtain ⟨o1, o2, o3, -⟩ := opn_at (av := av1) (l := l + 1) (h := h) (a := 0)
  have fo := opn_fo (av := av1) (l := l) (h := h) (a := 0)
  obtain ⟨av2, f2, a2, b2, x2⟩ := hb'.2.2 (s + v.length + 1) (l + 1) h 0 h (opn av1 (l + 1) h 0) ((hx.to f1.1).to fo.1) A2 d2 (by omega) (by omega) (mem_sh_G hG (fun q hq => List.mem_append_right _ hq)) (by omega) o1 (by omega) o2 (Nat.le_refl _) (by omega)
  have F2 := fo.tr f2.fo
  have hX' : av2 43 l = nI (min (X + cst v) 100000) := by rw [(F2.2 l (Nat.le_refl _)).1]; exact a1
  have hY' : av2 44 l = nI (max Y (h + mh v 0 0)) := by rw [(F2.2 l (Nat.le_refl _)).2.1]; exact b1
  have hse : av2 47 (l + 1) = 0 := by rw [(f2.2.2 (l + 1) (Nat.le_refl _)).2.2.1]; exact o3
  have xs2 := m_shut32 (d := d) (iv := iv) (lv := lv) hd (by omega) hX' (by omega) hY' (by omega) a2 (by omega) b2 (by omega) hse
  refine ⟨cw av2 l (min (min (X + cst v) 100000 + max (min (0 + T t) 100000 + 1) 3) 100000) (max (max Y (h + mh v 0 0)) (max h (h + D dd))), f1.tr (F2.fr.tr cw_fr), ?_, ?_, fun x hx' => x1 x (rw_opn (hx.to f1.1) (by omega) A1 (Or.inl ⟨rfl, rfl⟩) (by omega) (x2 x (rw_shut (((hx.to f1.1).to F2.1)) (by omega) A3 (Or.inr ⟨rfl, rfl⟩) (by omega) xs2 ?_)))⟩
  · rw [cw_at.1]
    congr 1
    try dsimp only
    omega
  · rw [cw_at.2]
    congr 1
    try dsimp only
    omega
  · simp only [List.length_append, List.length_cons, List.length_nil] at hx'
    rw [show s + v.length + 1 + mb.length + 1 = s + (v.length + (0 + 1) + mb.length + (0 + 1)) by omega]
    exact hx'
theorem lp_min (X c k tt C : Nat) : min (min (X + c) C + (k * (3 + min (0 + tt) C) + 3)) C = min (X + (c + (k * (3 + tt) + 3))) C := by
  by_cases h : tt ≤ C
  · rw [show min (0 + tt) C = tt by omega]
    generalize k * (3 + tt) = kk
    omega
  · rw [show min (0 + tt) C = C by omega]
    rcases Nat.eq_zero_or_pos k with rfl | hk0
    · rw [Nat.zero_mul, Nat.zero_mul]
      omega
    · have g1 : 3 + tt ≤ k * (3 + tt) := Nat.le_mul_of_pos_left _ hk0
      have g2 : 3 + C ≤ k * (3 + C) := Nat.le_mul_of_pos_left _ hk0
      generalize k * (3 + tt) = kk at g1 ⊢
      generalize k * (3 + C) = kk2 at g2 ⊢
      omega
theorem wq_loop {v b mb : List In} {op k : Nat} {T D : (Nat → Nat) → Nat} (hd : 2 ≤ d) (hdd : ∀ q, dd q ≤ 2000) (hv : SL (v ++ [(op, k)]) 1) (ho : op = 0 ∨ op = 16) (hk : k ≤ 99) (hb' : WQ d p en iv lv Mk t dd G b mb T D) : WQ d p en iv lv Mk t dd G (v ++ [(op, k), (15, v.length + 3 + b.length)] ++ sh (v.length + 2) b ++ [(14, v.length + 1)]) (v ++ [(op, k), (33, k)] ++ mb ++ [(34, 0)]) (fun t => cst (v ++ [(op, k)]) + (k * (3 + T t) + 3)) (fun d => max (mh (v ++ [(op, k)]) 0 0) (if k = 0 then 0 else 1 + D d)) := by
  have e1 : ∀ l, lvv [(33, k)] l = l + 1 := fun _ => rfl
  have em : v ++ [(op, k), (33, k)] ++ mb ++ [(34, 0)] = (v ++ [(op, k)]) ++ [(33, k)] ++ mb ++ [(34, 0)] := by simp only [List.append_assoc, List.cons_append, List.nil_append]
  refine ⟨SC.rules.2.2.2.2.2.1 v op k b mb T D hv ho hk hb'.1, fun l => ?_, fun s l h X Y av hx hA hdb hl hs hG hb hX hX2 hY hhY hY2 => ?_⟩
  · rw [em, lvv_app, lvv_app, lvv_app, lvv_flat (sl_flat hv), e1, hb'.2.1]
    rfl
  have hlen : (v ++ [(op, k), (33, k)] ++ mb ++ [(34, 0)]).length = v.length + 2 + mb.length + 1 := by
    simp only [List.length_append, List.length_cons, List.length_nil]
  rw [hlen] at hs
  rw [em] at hA hdb
  simp only [db_app, lvv_app, lvv_flat (sl_flat hv), e1, hb'.2.1] at hdb
  obtain ⟨⟨⟨-, d1⟩, d2⟩, -⟩ := hdb
  have hl9 : l + 1 ≤ 9 := d1.1
  have dp := sc_dep hb'.1 (d := dd) (M := 2000) (fun q _ => hdd q)
  have mv := mh_le (v ++ [(op, k)]) 0 0
  have hvl : (v ++ [(op, k)]).length = v.length + 1 := by rw [List.length_append]; rfl
  simp only [List.length_append, List.length_cons, List.length_nil, sh_len] at hb
  rw [hvl] at mv
  obtain ⟨av1, f1, a1, b1, x1⟩ := rk_sl1 (d := d) (iv := iv) (lv := lv) (by omega) hv hx hA.l.l.l (by omega) (by rw [hvl]; omega) (by rw [hvl]; omega) hX hX2 hY hhY hY2
  rw [hvl] at x1
  have A1 : Mk[s + (v.length + 1)]? = some (33, k) := by
    have := hA.l.l.r.h
    rw [hvl] at this
    exact this
  have A2 : AT Mk (s + (v.length + 1) + 1) mb := by
    have := hA.l.r
    rw [List.length_append, hvl] at this
    exact this
  have A3 : Mk[s + (v.length + 1) + 1 + mb.length]? = some (34, 0) := by
    have := hA.r.h
    rw [List.length_append, List.length_append, hvl] at this
    rw [show s + (v.length + 1) + 1 + mb.length = s + (v.length + 1 + 1 + mb.length) by omega]
    exact this
  obtain ⟨o1, o2, -, o4⟩ := opn_at (av := av1) (l := l + 1) (h := h + 1) (a := k)
  have fo := opn_fo (av := av1) (l := l) (h := h + 1) (a := k)
  obtain ⟨av2, f2, a2, b2, x2⟩ := hb'.2.2 (s + (v.length + 1) + 1) (l + 1) (h + 1) 0 (h + 1) (opn av1 (l + 1) (h + 1) k) ((hx.to f1.1).to fo.1) A2 d2 (by omega) (by omega) (mem_sh_G hG (fun q hq => List.mem_append_left _ (List.mem_append_right _ hq))) (by omega) o1 (by omega) o2 (Nat.le_refl _) (by omega)
  have F2 := fo.tr f2.fo
  have hX' : av2 43 l = nI (min (X + cst (v ++ [(op, k)])) 100000) := by rw [(F2.2 l (Nat.le_refl _)).1]; exact a1
  have hY' : av2 44 l = nI (max Y (h + mh (v ++ [(op, k)]) 0 0)) := by rw [(F2.2 l (Nat.le_refl _)).2.1]; exact b1
  have hse : av2 48 (l + 1) = nI k := by rw [(f2.2.2 (l + 1) (Nat.le_refl _)).2.2.2]; exact o4
  have xs2 := m_shut34 (d := d) (iv := iv) (lv := lv) hd (by omega) hX' (by omega) hY' (by omega) a2 (by omega) b2 (by omega) hse hk
  refine ⟨cw av2 l (min (min (X + cst (v ++ [(op, k)])) 100000 + (k * (3 + min (0 + T t) 100000) + 3)) 100000) (max (max Y (h + mh (v ++ [(op, k)]) 0 0)) (if k = 0 then 0 else max (h + 1) (h + 1 + D dd))), f1.tr (F2.fr.tr cw_fr), ?_, ?_, fun x hx' => x1 x (rw_opn (hx.to f1.1) (by omega) A1 (Or.inr ⟨rfl, rfl⟩) (by omega) (x2 x (rw_shut (((hx.to f1.1).to F2.1)) (by omega) A3 (Or.inl ⟨rfl, rfl⟩) (by omega) xs2 ?_)))⟩
  · rw [cw_at.1]
    congr 1
    exact lp_min _ _ _ _ _
  · rw [cw_at.2]
    congr 1
    dsimp only
    split <;> omega
  · rw [hlen] at hx'
    rw [show s + (v.length + 1) + 1 + mb.length + 1 = s + (v.length + 2 + mb.length + 1) by omega]
    exact hx'
theorem wq_ite {v b mb y my : List In} {T D T2 D2 : (Nat → Nat) → Nat} (hd : 2 ≤ d) (hdd : ∀ q, dd q ≤ 2000) (hv : SL v 1) (hb' : WQ d p en iv lv Mk t dd G b mb T D) (hy' : WQ d p en iv lv Mk t dd G y my T2 D2) : WQ d p en iv lv Mk t dd G (v ++ [(13, v.length + 2 + b.length)] ++ sh (v.length + 1) b ++ [(14, v.length + 2 + b.length + y.length)] ++ sh (v.length + 2 + b.length) y) (v ++ [(30, 0)] ++ mb ++ [(31, 0)] ++ my ++ [(32, 0)]) (fun x => cst v + max (3 + T x) (3 + T2 x)) (fun d => max (mh v 0 0) (max (D d) (D2 d))) := by
  have e1 : ∀ l, lvv [(30, 0)] l = l + 1 := fun _ => rfl
  have e2 : ∀ l, lvv [(31, 0)] l = l := fun _ => rfl
  refine ⟨SC.rules.2.2.2.2.1 v b mb T D y my T2 D2 hv hb'.1 hy'.1, fun l => ?_, fun s l h X Y av hx hA hdb hl hs hG hb hX hX2 hY hhY hY2 => ?_⟩
  · rw [lvv_app, lvv_app, lvv_app, lvv_app, lvv_app, lvv_flat (sl_flat hv), e1, hb'.2.1, e2, hy'.2.1]
    rfl
  simp only [db_app, lvv_app, lvv_flat (sl_flat hv), e1, hb'.2.1, e2, hy'.2.1] at hdb
  obtain ⟨⟨⟨⟨⟨-, d1⟩, d2⟩, -⟩, d3⟩, -⟩ := hdb
  have hl9 : l + 1 ≤ 9 := d1.1
  have dp := sc_dep hb'.1 (d := dd) (M := 2000) (fun q _ => hdd q)
  have dp2 := sc_dep hy'.1 (d := dd) (M := 2000) (fun q _ => hdd q)
  have mv := mh_le v 0 0
  have hlen : (v ++ [(30, 0)] ++ mb ++ [(31, 0)] ++ my ++ [(32, 0)]).length = v.length + 1 + mb.length + 1 + my.length + 1 := by
    simp only [List.length_append, List.length_cons, List.length_nil]
  rw [hlen] at hs
  simp only [List.length_append, List.length_cons, List.length_nil, sh_len] at hb
  obtain ⟨av1, f1, a1, b1, x1⟩ := rk_sl1 (d := d) (iv := iv) (lv := lv) (by omega) hv hx hA.l.l.l.l.l (by omega) (by omega) (by omega) hX hX2 hY hhY hY2
  have A1 : Mk[s + v.length]? = some (30, 0) := hA.l.l.l.l.r.h
  have A2 : AT Mk (s + v.length + 1) mb := by
    have := hA.l.l.l.r
    rw [List.length_append] at this
    rw [show s + v.length + 1 = s + (v.length + 1) by omega]
    exact this
  have A3 : Mk[s + v.length + 1 + mb.length]? = some (31, 0) := by
    have := hA.l.l.r.h
    rw [List.length_append, List.length_append] at this
    rw [show s + v.length + 1 + mb.length = s + (v.length + 1 + mb.length) by omega]
    exact this
  have A4 : AT Mk (s + v.length + 1 + mb.length + 1) my := by
    have := hA.l.r
    rw [List.length_append, List.length_append, List.length_append] at this
    rw [show s + v.length + 1 + mb.length + 1 = s + (v.length + 1 + mb.length + 1) by omega]
    exact this
  have A5 : Mk[s + v.length + 1 + mb.length + 1 + my.length]? = some (32, 0) := by
    have := hA.r.h
    rw [List.length_append, List.length_append, List.length_append, List.length_append] at this
    rw [show s + v.length + 1 + mb.length + 1 + my.length = s + (v.length + 1 + mb.length + 1 + my.length) by omega]
    exact this
  obtain ⟨o1, o2, -, -⟩ := opn_at (av := av1) (l := l + 1) (h := h) (a := 0)
  have fo := opn_fo (av := av1) (l := l) (h := h) (a := 0)
  obtain ⟨av2, f2, a2, b2, x2⟩ := hb'.2.2 (s + v.length + 1) (l + 1) h 0 h (opn av1 (l + 1) h 0) ((hx.to f1.1).to fo.1) A2 d2 (by omega) (by omega) (mem_sh_G hG (fun q hq => List.mem_append_left _ (List.mem_append_left _ (List.mem_append_right _ hq)))) (by omega) o1 (by omega) o2 (Nat.le_refl _) (by omega)
  obtain ⟨p1, p2, p3, p4, p5⟩ := els_at (av := av2) (l := l + 1) (h := h)
  have fe := els_fo (av := av2) (l := l) (h := h)
  have F2 := fo.tr (f2.fo.tr fe)
  obtain ⟨av3, f3, a3, b3, x3⟩ := hy'.2.2 (s + v.length + 1 + mb.length + 1) (l + 1) h 0 h (els av2 (l + 1) h) ((hx.to f1.1).to F2.1) A4 d3 (by omega) (by omega) (mem_sh_G hG (fun q hq => List.mem_append_right _ hq)) (by omega) p1 (by omega) p2 (Nat.le_refl _) (by omega)
  have F3 := F2.tr f3.fo
  have hX' : av3 43 l = nI (min (X + cst v) 100000) := by rw [(F3.2 l (Nat.le_refl _)).1]; exact a1
  have hY' : av3 44 l = nI (max Y (h + mh v 0 0)) := by rw [(F3.2 l (Nat.le_refl _)).2.1]; exact b1
  have hq := f3.2.2 (l + 1) (Nat.le_refl _)
  have h47 : av3 47 (l + 1) = 1 := by rw [hq.2.2.1]; exact p5
  have h45 : av3 45 (l + 1) = nI (min (0 + T t) 100000) := by rw [hq.1, p3]; exact a2
  have h46 : av3 46 (l + 1) = nI (max h (h + D dd)) := by rw [hq.2.1, p4]; exact b2
  have xs2 := m_shut32b (d := d) (iv := iv) (lv := lv) hd (by omega) hX' (by omega) hY' (by omega) a3 (by omega) b3 (by omega) h47 h45 (by omega) h46 (by omega)
  refine ⟨cw av3 l (min (min (X + cst v) 100000 + max (min (0 + T t) 100000 + 3) (min (0 + T2 t) 100000 + 3)) 100000) (max (max Y (h + mh v 0 0)) (max (max h (h + D2 dd)) (max h (h + D dd)))), f1.tr (F3.fr.tr cw_fr), ?_, ?_, fun x hx' => x1 x (rw_opn (hx.to f1.1) (by omega) A1 (Or.inl ⟨rfl, rfl⟩) (by omega) (x2 x (rw_els ((hx.to f1.1).to (fo.tr f2.fo).1) (by omega) A3 (by omega) (x3 x (rw_shut ((hx.to f1.1).to F3.1) (by omega) A5 (Or.inr ⟨rfl, rfl⟩) (by omega) xs2 ?_)))))⟩
  · rw [cw_at.1]
    congr 1
    try dsimp only
    omega
  · rw [cw_at.2]
    congr 1
    try dsimp only
    omega
  · rw [hlen] at hx'
    rw [show s + v.length + 1 + mb.length + 1 + my.length + 1 = s + (v.length + 1 + mb.length + 1 + my.length + 1) by omega]
    exact hx'
theorem wq_sc (hd : 2 ≤ d) (hdd : ∀ q, dd q ≤ 2000) {c m : List In} {T D : (Nat → Nat) → Nat} (h : SC c m T D) : WQ d p en iv lv Mk t dd G c m T D :=
  h (WQ d p en iv lv Mk t dd G) ⟨wq_nil, fun _ _ _ _ _ _ _ _ h1 h2 => wq_seq hdd h1 h2, fun c hc => wq_sl (by omega) hc, fun v b mb T D hv hb => wq_if hd hdd hv hb, fun v b mb T D y my T2 D2 hv hb hy => wq_ite hd hdd hv hb hy, fun v op k b mb T D hv ho hk hb => wq_loop hd hdd hv ho hk hb, fun q hq => wq_call (by omega) hq⟩
end MRV
