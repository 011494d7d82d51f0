/-! The reference's value reads what the spec reads. -/
def OC (e dB : Nat) (lv : Nat → Nat → Int64) (iv : Nat → Int32) (av : Nat → Nat → Int32) (w m : Nat) (res : PR) (Q : (Nat → Int32) → (Nat → Nat → Int32) → Nat → List In → Prop) : Prop := match res with
  | some q => ∃ iv' av' m', VF iv av iv' av' ∧ Q iv' av' q.1 q.2 ∧ m' ≤ q.1 ∧ ∀ x, HD e dB lv iv' av' 0 m' x → HD e dB lv iv av w m x
  | none => ∃ iv' av', VF iv av iv' av' ∧ VB iv' av' ∧ HD e dB lv iv av w m (some (.int 0), xs iv' av' lv)
section MV
variable {e dB : Nat} {lv : Nat → Nat → Int64} {n : Nat} {tx : Nat → Nat}
theorem oc_pre {iv iv1 : Nat → Int32} {av av1 : Nat → Nat → Int32} {w m w1 m1 : Nat} {res : PR} {Q : (Nat → Int32) → (Nat → Nat → Int32) → Nat → List In → Prop} (f : VF iv av iv1 av1) (hx : ∀ x, HD e dB lv iv1 av1 w1 m1 x → HD e dB lv iv av w m x) (h : OC e dB lv iv1 av1 w1 m1 res Q) : OC e dB lv iv av w m res Q := by
  cases res with
  | none =>
    obtain ⟨iv', av', g, gb, y⟩ := h
    exact ⟨iv', av', f.tr g, gb, hx _ y⟩
  | some q =>
    obtain ⟨iv', av', m', g1, g2, g3, g4⟩ := h
    exact ⟨iv', av', m', f.tr g1, g2, g3, fun x y => hx x (g4 x y)⟩
theorem oc_bind {iv : Nat → Int32} {av : Nat → Nat → Int32} {w m : Nat} {res : PR} {f : Nat × List In → PR} {Q Q2 : (Nat → Int32) → (Nat → Nat → Int32) → Nat → List In → Prop} (h : OC e dB lv iv av w m res Q) (k : ∀ iv' av' q m', res = some q → Q iv' av' q.1 q.2 → m' ≤ q.1 → OC e dB lv iv' av' 0 m' (f q) Q2) : OC e dB lv iv av w m (res.bind f) Q2 := by
  cases res with
  | none => exact h
  | some q =>
    obtain ⟨iv', av', m', g1, g2, g3, g4⟩ := h
    exact oc_pre g1 g4 (k iv' av' q m' rfl g2 g3)
theorem oc_imp {iv : Nat → Int32} {av : Nat → Nat → Int32} {w m : Nat} {res : PR} {Q Q2 : (Nat → Int32) → (Nat → Nat → Int32) → Nat → List In → Prop} (h : OC e dB lv iv av w m res Q) (k : ∀ iv' av' q, res = some q → Q iv' av' q.1 q.2 → Q2 iv' av' q.1 q.2) : OC e dB lv iv av w m res Q2 := by
  cases res with
  | none => exact h
  | some q =>
    obtain ⟨iv', av', m', g1, g2, g3, g4⟩ := h
    exact ⟨iv', av', m', g1, k iv' av' q rfl g2, g3, g4⟩
theorem oc_now {iv : Nat → Int32} {av : Nat → Nat → Int32} {m : Nat} {q : Nat × List In} {Q : (Nat → Int32) → (Nat → Nat → Int32) → Nat → List In → Prop} (hm : m ≤ q.1) (h : Q iv av q.1 q.2) : OC e dB lv iv av 0 m (some q) Q := ⟨iv, av, m, VF.rf, h, hm, fun _ y => y⟩
def UL (e dB : Nat) (n : Nat) (tx : Nat → Nat) (r : Nat) (U : Nat → PR) : Prop := ∀ iv av lv i K Mk ops cf m, VS n tx iv av i K Mk ops cf → m ≤ i → dB + dps ops + r = 6 → OC e dB lv iv av 1 m (U i) (fun iv' av' j c => ∃ cf', (∀ q, q ≤ brs ops → cf' q = cf q) ∧ VS n tx iv' av' j (K ++ c ++ nt ops) (Mk ++ c ++ nt ops) (dt ops) cf')
theorem mop_n {c : Nat} (h : mop c ≠ 0) : st c = 3 ∧ ins c = mop c := by
  unfold mop at h
  split at h
  · rename_i e1; subst e1; exact ⟨rfl, rfl⟩
  · split at h
    · rename_i e1; subst e1; exact ⟨rfl, rfl⟩
    · exact absurd rfl h
theorem mop_0 {c : Nat} (h : mop c = 0) : st c ≠ 3 := by
  unfold mop at h
  unfold st
  split at h
  · cases h
  · split at h
    · cases h
    · rw [if_neg (by omega)]
      split
      · decide
      · split <;> decide
theorem aop_n {c : Nat} (h : aop c ≠ 0) : st c = 2 ∧ ins c = aop c := by
  unfold aop at h
  split at h
  · rename_i e1; subst e1; exact ⟨rfl, rfl⟩
  · split at h
    · rename_i e1; subst e1; exact ⟨rfl, rfl⟩
    · exact absurd rfl h
theorem aop_0 {c : Nat} (h : aop c = 0) : st c ≠ 2 := by
  unfold aop at h
  unfold st
  split at h
  · cases h
  · split at h
    · cases h
    · split
      · omega
      · rw [if_neg (by omega)]
        split <;> omega
theorem st_1 {c : Nat} (h : st c = 1) : (c = 60 ∧ ins c = 9) ∨ (c = 61 ∧ ins c = 10) := by
  unfold st at h
  split at h
  · cases h
  split at h
  · cases h
  split at h
  · rename_i q
    rcases q with rfl | rfl
    · exact Or.inl ⟨rfl, rfl⟩
    · exact Or.inr ⟨rfl, rfl⟩
  · cases h
theorem brs_P : ∀ {P X : List Nat}, (∀ c ∈ P, 1 ≤ st c) → brs (P ++ X) = brs X
  | [], _, _ => rfl
  | c :: P, X, h => by
    have hc := h c (List.mem_cons_self ..)
    obtain ⟨-, n2, n3, -, -⟩ := st_ncl (c := c) (by omega)
    rw [List.cons_append, brs_n n2 n3]
    exact brs_P (fun c hc => h c (List.mem_cons_of_mem _ hc))
theorem em_app (a b : List Nat) : em (a ++ b) = em a ++ em b := by unfold em; rw [List.map_append]
/-- the end of a product, of a sum: what is still on the stack P, above X -/
def QP2 (n : Nat) (tx : Nat → Nat) (K Mk : List In) (X : List Nat) (cf : Nat → Bool) (lo : Nat) (iv' : Nat → Int32) (av' : Nat → Nat → Int32) (j : Nat) (c : List In) : Prop := ∃ cf' P c', (∀ q, q ≤ brs X → cf' q = cf q) ∧ (∀ x ∈ P, lo ≤ st x) ∧ c = c' ++ em P ∧ VS n tx iv' av' j (K ++ c') (Mk ++ c') (P ++ X) cf' ∧ st (tx j) < lo
theorem pl_tail {r : Nat} {U : Nat → PR} (he : 3 ≤ e) (hb : PB n U) (hU : UL e dB n tx r U) {K Mk : List In} {X : List Nat} {cf0 : Nat → Bool} (hX : ∀ c s, X = c :: s → st c < 3 ∧ c ≠ 126) (hd : dB + dps X + r = 6) : ∀ (fuel : Nat) iv av i cf m (P : List Nat) (c c' : List In), VS n tx iv av i (K ++ c') (Mk ++ c') (P ++ X) cf → c = c' ++ em P → (∀ x ∈ P, 3 ≤ st x) → (∀ q, q ≤ brs X → cf q = cf0 q) → m ≤ i → n ≤ fuel + i →
    OC e dB lv iv av 0 m (pTail tx U mop fuel i c) (QP2 n tx K Mk X cf0 3) := by
  intro fuel
  induction fuel with
  | zero =>
    intro iv av i cf m P c c' h hc hP hcf hm hn
    refine oc_now hm ⟨cf, P, c', hcf, hP, hc, h, ?_⟩
    rw [h.1.2.2.2 i (by omega)]
    decide
  | succ fuel ih =>
    intro iv av i cf m P c c' h hc hP hcf hm hn
    unfold pTail
    have h3 := st_le (tx i)
    by_cases ho : mop (tx i) = 0
    · rw [if_pos ho]
      have := mop_0 ho
      exact oc_now hm ⟨cf, P, c', hcf, hP, hc, h, by dsimp only; omega⟩
    · rw [if_neg ho]
      obtain ⟨hs, hi⟩ := mop_n ho
      have hi2 := h.2.1.2
      obtain ⟨iv1, av1, f1, v1, x1⟩ := hd_bin (dB := dB) (lv := lv) (m := m) he (by omega) h (by omega) (fun c hc => by rw [hs]; exact hP c hc) (fun c s q => by rw [hs]; exact (hX c s q).1)
      refine oc_pre f1 x1 ?_
      have n126 : tx i ≠ 126 := (st_ncl (c := tx i) (by omega)).2.2.2.1
      have hn40 := (st_ncl (c := tx i) (by omega)).2.1
      have hn91 := (st_ncl (c := tx i) (by omega)).2.2.1
      refine oc_bind (hU iv1 av1 lv (i + 1) _ _ (tx i :: X) cf (m + 1) v1 (by omega) (by rw [dps_n (by omega)]; exact hd)) (fun iv2 av2 q m2 hq hQ hm2 => ?_)
      obtain ⟨cf2, hcf2, v2⟩ := hQ
      rw [nt_n n126, dt_n n126, List.append_nil, List.append_nil] at v2
      rw [brs_n hn40 hn91] at hcf2
      have hj := (hb _ q.1 q.2 (by rw [hq])).2.1
      have e1 : ∀ L : List In, L ++ c' ++ em P ++ q.2 = L ++ (c ++ q.2) := fun L => by rw [hc]; simp only [List.append_assoc]
      rw [e1, e1] at v2
      refine ih iv2 av2 q.1 cf2 m2 [tx i] _ (c ++ q.2) v2 ?_ (fun x hx => by cases List.mem_singleton.mp hx; omega) (fun q hq => (hcf2 q hq).trans (hcf q hq)) hm2 (by omega)
      show _ = _ ++ [(ins (tx i), 0)]
      rw [hi]
theorem pl_prod {r : Nat} {U : Nat → PR} (he : 3 ≤ e) (hb : PB n U) (hU : UL e dB n tx r U) {iv : Nat → Int32} {av : Nat → Nat → Int32} {i m : Nat} {K Mk : List In} {X : List Nat} {cf : Nat → Bool} (h : VS n tx iv av i K Mk X cf) (hm : m ≤ i) (hX : ∀ c s, X = c :: s → st c < 3 ∧ c ≠ 126) (hd : dB + dps X + r = 6) :
    OC e dB lv iv av 1 m (pProd tx U i) (QP2 n tx K Mk X cf 3) := by
  have hdt : dt X = X ∧ nt X = [] := by
    cases X with
    | nil => exact ⟨rfl, rfl⟩
    | cons c s => exact ⟨dt_n (hX c s rfl).2, nt_n (hX c s rfl).2⟩
  have hn := h.1.2.1
  refine oc_bind (hU iv av lv i K Mk X cf m h hm hd) (fun iv1 av1 q m1 hq hQ hm1 => ?_)
  obtain ⟨cf1, hcf1, v1⟩ := hQ
  rw [hdt.1, hdt.2, List.append_nil, List.append_nil] at v1
  exact pl_tail he hb hU hX hd 200 iv1 av1 q.1 cf1 m1 [] q.2 q.2 v1 (by rw [show em [] = [] from rfl, List.append_nil]) (fun x hx => by cases hx) hcf1 hm1 (by omega)
theorem sl_tail {r : Nat} {U : Nat → PR} (he : 3 ≤ e) (hb : PB n U) (hU : UL e dB n tx r U) {K Mk : List In} {X : List Nat} {cf0 : Nat → Bool} (hX : ∀ c s, X = c :: s → st c < 2 ∧ c ≠ 126) (hd : dB + dps X + r = 6) (hbp : PB n (pProd tx U)) : ∀ (fuel : Nat) iv av i cf m (P : List Nat) (c c' : List In), VS n tx iv av i (K ++ c') (Mk ++ c') (P ++ X) cf → c = c' ++ em P → (∀ x ∈ P, 2 ≤ st x) → (∀ q, q ≤ brs X → cf q = cf0 q) → m ≤ i → n ≤ fuel + i → st (tx i) < 3 →
    OC e dB lv iv av 0 m (pTail tx (pProd tx U) aop fuel i c) (QP2 n tx K Mk X cf0 2) := by
  intro fuel
  induction fuel with
  | zero =>
    intro iv av i cf m P c c' h hc hP hcf hm hn h3
    refine oc_now hm ⟨cf, P, c', hcf, hP, hc, h, ?_⟩
    rw [h.1.2.2.2 i (by omega)]
    decide
  | succ fuel ih =>
    intro iv av i cf m P c c' h hc hP hcf hm hn h3
    unfold pTail
    by_cases ho : aop (tx i) = 0
    · rw [if_pos ho]
      have := aop_0 ho
      exact oc_now hm ⟨cf, P, c', hcf, hP, hc, h, by dsimp only; omega⟩
    · rw [if_neg ho]
      obtain ⟨hs, hi⟩ := aop_n ho
      have hi2 := h.2.1.2
      obtain ⟨iv1, av1, f1, v1, x1⟩ := hd_bin (dB := dB) (lv := lv) (m := m) he (by omega) h (by omega) (fun c hc => by rw [hs]; exact hP c hc) (fun c s q => by rw [hs]; exact (hX c s q).1)
      refine oc_pre f1 x1 ?_
      have n126 : tx i ≠ 126 := (st_ncl (c := tx i) (by omega)).2.2.2.1
      have hn40 := (st_ncl (c := tx i) (by omega)).2.1
      have hn91 := (st_ncl (c := tx i) (by omega)).2.2.1
      refine oc_bind (pl_prod (X := tx i :: X) he hb hU v1 (by omega) (fun c s q => by cases q; exact ⟨by omega, n126⟩) (by rw [dps_n (by omega)]; exact hd)) (fun iv2 av2 q m2 hq hQ hm2 => ?_)
      obtain ⟨cf2, P2, c2, hcf2, hP2, hc2, v2, hs2⟩ := hQ
      rw [brs_n hn40 hn91] at hcf2
      have hj := (hbp _ q.1 q.2 (by rw [hq])).2.1
      have e1 : ∀ L : List In, L ++ c' ++ em P ++ c2 = L ++ (c ++ c2) := fun L => by rw [hc]; simp only [List.append_assoc]
      rw [e1, e1] at v2
      have e2 : P2 ++ tx i :: X = (P2 ++ [tx i]) ++ X := by rw [List.append_assoc]; rfl
      rw [e2] at v2
      refine ih iv2 av2 q.1 cf2 m2 (P2 ++ [tx i]) _ (c ++ c2) v2 ?_ (fun x hx => ?_) (fun q hq => (hcf2 q hq).trans (hcf q hq)) hm2 (by omega) hs2
      · rw [em_app, hc2, show em [tx i] = [(ins (tx i), 0)] from rfl, hi]
        simp only [List.append_assoc]
      · rcases List.mem_append.mp hx with hx | hx
        · have := hP2 x hx; omega
        · cases List.mem_singleton.mp hx; omega
theorem sl_sum {r : Nat} {U : Nat → PR} (he : 3 ≤ e) (hb : PB n U) (hU : UL e dB n tx r U) (hbp : PB n (pProd tx U)) {iv : Nat → Int32} {av : Nat → Nat → Int32} {i m : Nat} {K Mk : List In} {X : List Nat} {cf : Nat → Bool} (h : VS n tx iv av i K Mk X cf) (hm : m ≤ i) (hX : ∀ c s, X = c :: s → st c < 2 ∧ c ≠ 126) (hd : dB + dps X + r = 6) :
    OC e dB lv iv av 1 m (pSum tx U i) (QP2 n tx K Mk X cf 2) := by
  have hn := h.1.2.1
  refine oc_bind (pl_prod he hb hU h hm (fun c s q => ⟨by have := (hX c s q).1; omega, (hX c s q).2⟩) hd) (fun iv1 av1 q m1 hq hQ hm1 => ?_)
  obtain ⟨cf1, P1, c1, hcf1, hP1, hc1, v1, hs1⟩ := hQ
  exact sl_tail he hb hU hX hd hbp 200 iv1 av1 q.1 cf1 m1 P1 q.2 c1 v1 hc1 (fun x hx => by have := hP1 x hx; omega) hcf1 hm1 (by omega) hs1
/-- the end of a value -/
def QV (n : Nat) (tx : Nat → Nat) (K Mk : List In) (X : List Nat) (cf : Nat → Bool) (iv' : Nat → Int32) (av' : Nat → Nat → Int32) (j : Nat) (c : List In) : Prop := ∃ cf' P c', (∀ q, q < brs X → cf' q = cf q) ∧ (∀ x ∈ P, 1 ≤ st x) ∧ c = c' ++ em P ∧ VS n tx iv' av' j (K ++ c') (Mk ++ c') (P ++ X) cf' ∧ (st (tx j) = 0 ∨ (st (tx j) = 1 ∧ cf' (brs X) = true))
theorem vl_val {r : Nat} {U : Nat → PR} (he : 3 ≤ e) (hb : PB n U) (hU : UL e dB n tx r U) (hbp : PB n (pProd tx U)) {iv : Nat → Int32} {av : Nat → Nat → Int32} {i m : Nat} {K Mk : List In} {X : List Nat} {cf : Nat → Bool} (h : VS n tx iv av i K Mk X cf) (hm : m ≤ i) (hX : ∀ c s, X = c :: s → c = 40 ∨ c = 91) (hd : dB + dps X + r = 6) (hcf : cf (brs X) = false) :
    OC e dB lv iv av 1 m (pVal tx U i) (QV n tx K Mk X cf) := by
  have hbr := brs_le X
  have hX0 : ∀ c s, X = c :: s → st c = 0 ∧ c ≠ 126 := fun c s q => by rcases hX c s q with rfl | rfl <;> exact ⟨rfl, by decide⟩
  refine oc_bind (sl_sum he hb hU hbp h hm (fun c s q => ⟨by have := (hX0 c s q).1; omega, (hX0 c s q).2⟩) hd) (fun iv1 av1 q m1 hq hQ hm1 => ?_)
  obtain ⟨cf1, P1, c1, hcf1, hP1, hc1, v1, hs1⟩ := hQ
  have hP1' : ∀ x ∈ P1, 1 ≤ st x := fun x hx => by have := hP1 x hx; omega
  have rel : ∀ o, st (tx q.1) = 1 → ins (tx q.1) = o → OC e dB lv iv1 av1 0 m1 ((pSum tx U (q.1 + 1)).bind (fun t => some (t.1, q.2 ++ t.2 ++ [(o, 0)]))) (QV n tx K Mk X cf) := by
    intro o hst hins
    have hi2 := v1.2.1.2
    obtain ⟨iv2, av2, f2, v2, x2⟩ := hd_rel (dB := dB) (lv := lv) (m := m1) he (by omega) v1 hst (by rw [brs_P hP1', hcf1 _ (Nat.le_refl _)]; exact hcf) (by rw [brs_P hP1']; omega) hP1' (fun c s q => by rw [(hX0 c s q).1]; decide)
    refine oc_pre f2 x2 ?_
    have n126 : tx q.1 ≠ 126 := (st_ncl (c := tx q.1) (by omega)).2.2.2.1
    have hn40 := (st_ncl (c := tx q.1) (by omega)).2.1
    have hn91 := (st_ncl (c := tx q.1) (by omega)).2.2.1
    refine oc_bind (sl_sum (X := tx q.1 :: X) he hb hU hbp v2 (by omega) (fun c s p => by cases p; exact ⟨by omega, n126⟩) (by rw [dps_n (by omega)]; exact hd)) (fun iv3 av3 t m3 ht hQ3 hm3 => ?_)
    obtain ⟨cf3, P3, c3, hcf3, hP3, hc3, v3, hs3⟩ := hQ3
    rw [brs_n hn40 hn91] at hcf3
    have e1 : ∀ L : List In, L ++ c1 ++ em P1 ++ c3 = L ++ (q.2 ++ c3) := fun L => by rw [hc1]; simp only [List.append_assoc]
    rw [e1, e1] at v3
    have e2 : P3 ++ tx q.1 :: X = (P3 ++ [tx q.1]) ++ X := by rw [List.append_assoc]; rfl
    rw [e2] at v3
    refine oc_now hm3 ⟨cf3, P3 ++ [tx q.1], q.2 ++ c3, fun z hz => ?_, fun x hx => ?_, ?_, v3, ?_⟩
    · rw [hcf3 z (by omega), brs_P hP1', va_up_ne' (by omega)]
      exact hcf1 z (by omega)
    · rcases List.mem_append.mp hx with hx | hx
      · have := hP3 x hx; omega
      · cases List.mem_singleton.mp hx; omega
    · dsimp only
      rw [em_app, hc3, show em [tx q.1] = [(ins (tx q.1), 0)] from rfl, hins]
      simp only [List.append_assoc]
    · dsimp only
      have h01 : st (tx t.1) = 0 ∨ st (tx t.1) = 1 := by omega
      rcases h01 with h0 | h1
      · exact Or.inl h0
      · exact Or.inr ⟨h1, by rw [hcf3 _ (Nat.le_refl _), brs_P hP1', va_up_self]⟩
  by_cases h60 : tx q.1 = 60
  · rw [if_pos h60]
    exact rel 9 (by rw [h60]; rfl) (by rw [h60]; rfl)
  · rw [if_neg h60]
    by_cases h61 : tx q.1 = 61
    · rw [if_pos h61]
      exact rel 10 (by rw [h61]; rfl) (by rw [h61]; rfl)
    · rw [if_neg h61]
      refine oc_now hm1 ⟨cf1, P1, c1, fun z hz => hcf1 z (by omega), hP1', hc1, v1, Or.inl ?_⟩
      have : st (tx q.1) ≠ 1 := fun h => by rcases st_1 h with ⟨a, -⟩ | ⟨a, -⟩ <;> omega
      omega
/-- what is in brackets -/
theorem ul_br {r b : Nat} {U : Nat → PR} (he : 3 ≤ e) (hb : PB n U) (hU : UL e dB n tx r U) (hbp : PB n (pProd tx U)) {iv : Nat → Int32} {av : Nat → Nat → Int32} {i m : Nat} {K Mk : List In} {ops : List Nat} {cf : Nat → Bool} (h : VS n tx iv av i K Mk ops cf) (hm : m ≤ i) (hd : dB + dps ops + (r + 1) = 6) (hbb : b = 40 ∨ b = 91) (e1 : tx i = b) :
    OC e dB lv iv av 1 m ((pVal tx U (i + 1)).bind (fun q => if tx q.1 = (if b = 40 then 41 else 93) then some (q.1 + 1, q.2 ++ (if b = 91 then [(3, 0)] else [])) else none)) (fun iv' av' j c => ∃ cf', (∀ q, q ≤ brs ops → cf' q = cf q) ∧ VS n tx iv' av' j (K ++ c ++ nt ops) (Mk ++ c ++ nt ops) (dt ops) cf') := by
  have hi2 := h.2.1.2
  have hbr := brs_le ops
  have st0 : st b = 0 := by rcases hbb with rfl | rfl <;> rfl
  obtain ⟨iv1, av1, f1, v1, x1⟩ := m_unit_br (lv := lv) (D := e) (dB := dB) he h hbb e1 (by omega)
  rw [if_neg (by omega)] at x1
  refine oc_pre f1 (fun x hx => hd_u1 (by omega) x1 hx) ?_
  have hb1 := brs_b (l := ops) hbb
  refine oc_bind (vl_val (X := b :: ops) he hb hU hbp v1 (by omega) (fun c s q => by cases q; exact hbb) (by rw [dps_0 st0]; omega) (by rw [hb1, va_up_self])) (fun iv2 av2 q m2 hq hQ hm2 => ?_)
  obtain ⟨cf2, P2, c2, hcf2, hP2, hc2, v2, hs2⟩ := hQ
  have hi3 := v2.2.1.2
  have hcf : ∀ z, z ≤ brs ops → cf2 z = cf z := fun z hz => by
    rw [hcf2 z (by omega), va_up_ne' (by omega)]
  by_cases hcl : tx q.1 = 41 ∨ tx q.1 = 93
  · obtain ⟨iv3, av3, f3, hh⟩ := hd_close (dB := dB) (lv := lv) (m := m2) he (by omega) v2 hbb hcl hP2
    rcases hh with ⟨hok, v3, x3⟩ | ⟨hok, b3, x3⟩
    · rw [if_pos (by rcases hok with ⟨a, b⟩ | ⟨a, b⟩ <;> rw [a, b] <;> rfl)]
      refine ⟨iv3, av3, m2 + 1, f3, ⟨cf2, hcf, ?_⟩, by dsimp only; omega, x3⟩
      have e3 : ∀ L : List In, L ++ c2 ++ em P2 ++ (if b = 91 then [(3, 0)] else []) ++ nt ops = L ++ (q.2 ++ (if b = 91 then [(3, 0)] else [])) ++ nt ops := fun L => by rw [hc2]; simp only [List.append_assoc]
      rw [e3, e3] at v3
      exact v3
    · rw [if_neg (fun g => hok (by
        rcases hbb with rfl | rfl
        · exact Or.inl ⟨rfl, g⟩
        · exact Or.inr ⟨rfl, g⟩))]
      exact ⟨iv3, av3, f3, b3, x3⟩
  · rw [if_neg (fun g => hcl (by
      rcases hbb with rfl | rfl
      · exact Or.inl g
      · exact Or.inr g))]
    obtain ⟨iv3, av3, f3, v3, x3⟩ := hd_end (dB := dB) (lv := lv) (m := m2) (X := b :: ops) he (by omega) v2 (hs2.imp id (fun g => ⟨g.1, by rw [brs_P hP2]; exact g.2, by rw [brs_P hP2]; omega⟩)) (fun g => hcl g.2) hP2 (fun c s q => by cases q; omega)
    rw [if_neg (fun g => by cases g.2)] at x3
    exact ⟨iv3, av3, f3, v3.vb, x3⟩
theorem ul_end {r : Nat} (he : 3 ≤ e) {V U : Nat → PR} {iv : Nat → Int32} {av : Nat → Nat → Int32} {i m : Nat} {K Mk : List In} {ops : List Nat} {cf : Nat → Bool} (hpb : PB n (pUnit tx V U)) (h : VS n tx iv av i K Mk ops cf) (hm : m ≤ i) (e1 : tx i ≠ 40) (e2 : tx i ≠ 91) (e3 : tx i ≠ 45) :
    OC e dB lv iv av 1 m (pUnit tx V U i) (fun iv' av' j c => ∃ cf', (∀ q, q ≤ brs ops → cf' q = cf q) ∧ VS n tx iv' av' j (K ++ c ++ nt ops) (Mk ++ c ++ nt ops) (dt ops) cf') := by
  have hi2 := h.2.1.2
  have hu := m_unit_end (lv := lv) (D := e) (dB := dB) he h e1 e2 e3 V U
  cases hr : pUnit tx V U i with
  | none =>
    rw [hr] at hu
    exact ⟨iv, av, VF.rf, h.vb, hd_u0 (by omega) hu⟩
  | some q =>
    rw [hr] at hu
    obtain ⟨iv1, av1, f1, v1, x1⟩ := hu
    have hj := (hpb _ q.1 q.2 (by rw [hr])).2.1
    obtain ⟨iv2, av2, f2, x2, v2⟩ := m_complete (lv := lv) he ops _ _ _ _ v1
    exact ⟨iv2, av2, m + 1, f1.tr f2, ⟨cf, fun _ _ => rfl, v2⟩, by omega, fun x hx => hd_u2 (by omega) x1 x2 hx⟩
theorem ul_all (he : 3 ≤ e) (hn : ∀ i, tx i ≠ 0 → i < n) : ∀ r, UL e dB n tx r (pu tx r) := by
  intro r
  induction r with
  | zero =>
    intro iv av lv i K Mk ops cf m h hm hd
    have hi2 := h.2.1.2
    by_cases hbb : tx i = 40 ∨ tx i = 91
    · obtain ⟨iv1, av1, f1, v1, x1⟩ := m_unit_br (lv := lv) (D := e) (dB := dB) he h hbb rfl (by omega)
      rw [if_pos (by omega)] at x1
      have : pu tx 0 i = none := by
        show pUnit tx _ _ i = none
        unfold pUnit
        rcases hbb with q | q
        · rw [if_pos q]; rfl
        · rw [if_neg (by omega), if_pos q]; rfl
      rw [this]
      exact ⟨iv1, av1, f1, v1.vb, hd_u0 (by omega) x1⟩
    · by_cases h45 : tx i = 45
      · obtain ⟨iv1, av1, f1, v1, x1⟩ := m_unit_neg (lv := lv) (D := e) (dB := dB) he h h45 (by omega)
        rw [if_pos (by omega)] at x1
        have : pu tx 0 i = none := by
          show pUnit tx _ _ i = none
          unfold pUnit
          rw [if_neg (by omega), if_neg (by omega), if_pos h45]; rfl
        rw [this]
        exact ⟨iv1, av1, f1, v1.vb, hd_u0 (by omega) x1⟩
      · exact ul_end (r := 0) he (pb_unit hn PB.none PB.none) h hm (by omega) (by omega) h45
  | succ r ih =>
    intro iv av lv i K Mk ops cf m h hm hd
    have hi2 := h.2.1.2
    have hb := (pb_pu hn r)
    by_cases h40 : tx i = 40
    · have := ul_br (lv := lv) (b := 40) he hb ih (pb_prod hb) h hm hd (Or.inl rfl) h40
      have e1 : pu tx (r + 1) i = (pVal tx (pu tx r) (i + 1)).bind (fun q => if tx q.1 = (if 40 = 40 then 41 else 93) then some (q.1 + 1, q.2 ++ (if 40 = 91 then [(3, 0)] else [])) else none) := by
        show pUnit tx _ _ i = _
        unfold pUnit
        rw [if_pos h40]
        simp
      rw [e1]
      exact this
    · by_cases h91 : tx i = 91
      · have := ul_br (lv := lv) (b := 91) he hb ih (pb_prod hb) h hm hd (Or.inr rfl) h91
        have e1 : pu tx (r + 1) i = (pVal tx (pu tx r) (i + 1)).bind (fun q => if tx q.1 = (if 91 = 40 then 41 else 93) then some (q.1 + 1, q.2 ++ (if 91 = 91 then [(3, 0)] else [])) else none) := by
          show pUnit tx _ _ i = _
          unfold pUnit
          rw [if_neg h40, if_pos h91]
          simp
        rw [e1]
        exact this
      · by_cases h45 : tx i = 45
        · obtain ⟨iv1, av1, f1, v1, x1⟩ := m_unit_neg (lv := lv) (D := e) (dB := dB) he h h45 (by omega)
          rw [if_neg (by omega)] at x1
          have e1 : pu tx (r + 1) i = (pu tx r (i + 1)).bind (fun q => some (q.1, q.2 ++ [(11, 0)])) := by
            show pUnit tx _ _ i = _
            unfold pUnit
            rw [if_neg h40, if_neg h91, if_pos h45]
          rw [e1]
          refine oc_pre f1 (fun x hx => hd_u1 (by omega) x1 hx) (oc_bind (ih iv1 av1 lv (i + 1) K Mk (126 :: ops) cf (m + 1) v1 (by omega) (by rw [dps_0 (show st 126 = 0 from rfl)]; omega)) (fun iv2 av2 q m2 hq hQ hm2 => ?_))
          obtain ⟨cf2, hcf2, v2⟩ := hQ
          rw [dt_y, nt_y] at v2
          rw [brs_n (by decide) (by decide)] at hcf2
          have e2 : ∀ L : List In, L ++ q.2 ++ (11, 0) :: nt ops = L ++ (q.2 ++ [(11, 0)]) ++ nt ops := fun L => by simp only [List.append_assoc]; rfl
          rw [e2, e2] at v2
          exact oc_now hm2 ⟨cf2, hcf2, v2⟩
        · exact ul_end (r := r + 1) he (pb_unit hn (pb_val hb) hb) h hm h40 h91 h45
end MV
