/-! The reference: the loop of value. w: whether a unit is wanted; m: the turns. -/
def HD (e dB : Nat) (lv : Nat → Nat → Int64) (iv : Nat → Int32) (av : Nat → Nat → Int32) (w m : Nat) (x : xi_R) : Prop := ∀ o2 o5 o6 o7, xe e xt_87 22 [some (.ref 27), some (.int (nI dB)), o2, some (.int (nI w)), some (.int (nI m)), o5, o6, o7] [] (xs iv av lv) x
/-- what has been written stays within its rows -/
def VB (iv : Nat → Int32) (av : Nat → Nat → Int32) : Prop := ∃ K Mk, EC iv av K ∧ EN iv av Mk ∧ K.length ≤ 404 ∧ Mk.length ≤ 804
theorem VS.vb {n i : Nat} {tx : Nat → Nat} {iv : Nat → Int32} {av : Nat → Nat → Int32} {K Mk : List In} {ops : List Nat} {cf : Nat → Bool} (h : VS n tx iv av i K Mk ops cf) : VB iv av := by
  obtain ⟨h1, h2, h3, h4, h5, h6, h7, h8, h9⟩ := h
  exact ⟨K, Mk, h3, h4, by omega, by omega⟩
section ML
variable {e dB : Nat} {iv : Nat → Int32} {av : Nat → Nat → Int32} {lv : Nat → Nat → Int64} {n i m : Nat} {tx : Nat → Nat} {K Mk : List In} {ops : List Nat} {cf : Nat → Bool} {x : xi_R}
theorem hd_w {r : Int32} {iv1 : Nat → Int32} {av1 : Nat → Nat → Int32} (hm : m < 1000) (hx : xm e 86 [.ref 27, .int (nI dB)] (xs iv av lv) (some (.int r), xs iv1 av1 lv)) (h : xe e xt_87 39 [some (.ref 27), some (.int (nI dB)), none, none, some (.int (nI m)), none, none, none] [.int r] (xs iv1 av1 lv) x) : HD e dB lv iv av 1 m x := fun o2 o5 o6 o7 =>
  xb_87_22 (fun _ => xb_87_30 (fun g => absurd g (by decide)) (fun _ => xb_87_34 hx h)) (fun g => absurd (show nI m < nI 1000 from nI_lt hm (by omega)) g)
theorem hd_u0 {iv1 : Nat → Int32} {av1 : Nat → Nat → Int32} (hm : m < 1000) (hx : xm e 86 [.ref 27, .int (nI dB)] (xs iv av lv) (some (.int 0), xs iv1 av1 lv)) : HD e dB lv iv av 1 m (some (.int 0), xs iv1 av1 lv) :=
  hd_w hm hx (xb_87_39 (fun _ => xb_87_46) (fun g => absurd rfl g))
theorem hd_u1 {iv1 : Nat → Int32} {av1 : Nat → Nat → Int32} (hm : m < 1000) (hx : xm e 86 [.ref 27, .int (nI dB)] (xs iv av lv) (some (.int 1), xs iv1 av1 lv)) (h : HD e dB lv iv1 av1 1 (m + 1) x) : HD e dB lv iv av 1 m x :=
  hd_w hm hx (xb_87_39 (fun g => absurd g (by decide)) (fun _ => xb_87_48 (fun _ => xb_87_54 (xb_87_59 (xb_87_301 (fun g => absurd g (by decide)) (fun _ => xb_87_309 (by rw [nI_1]; exact h _ _ _ _))))) (fun g => absurd rfl g)))
theorem hd_u2 {iv1 iv2 : Nat → Int32} {av1 av2 : Nat → Nat → Int32} (hm : m < 1000) (hx : xm e 86 [.ref 27, .int (nI dB)] (xs iv av lv) (some (.int 2), xs iv1 av1 lv)) (hc : xm e 84 [.ref 27] (xs iv1 av1 lv) (none, xs iv2 av2 lv)) (h : HD e dB lv iv2 av2 0 (m + 1) x) : HD e dB lv iv av 1 m x :=
  hd_w hm hx (xb_87_39 (fun g => absurd g (by decide)) (fun _ => xb_87_48 (fun g => absurd g (by decide)) (fun _ => xb_87_58 (xb_87_59 (xb_87_301 (fun _ => xb_87_305 hc (xb_87_309 (by rw [nI_1]; exact h _ _ _ _))) (fun g => absurd rfl g))))))
/-- what is next is looked at -/
theorem hd_pre (he : 1 ≤ e) (hm : m < 1000) (h : VS n tx iv av i K Mk ops cf) (hx : xe e xt_87 102 [some (.ref 27), some (.int (nI dB)), none, none, some (.int (nI m)), some (.int (nI (tx i))), some (.int (nI (st (tx i)))), none] [.int (if 0 < brs ops ∧ (tx i = 41 ∨ tx i = 93) then 1 else 0)] (xs iv av lv) x) : HD e dB lv iv av 0 m x := fun o2 o5 o6 o7 => by
  have hle := h.1.le i
  have h17 := h.2.2.2.2.2.1.1
  have hb : brs ops ≤ 200 := by
    have := List.length_filter_le (fun c => c == 40 || c == 91) ops
    have h7 := h.2.2.2.2.2.2.1
    have := h.2.1.2
    unfold brs
    omega
  refine xb_87_22 (fun _ => xb_87_30 (fun _ => xb_87_63 (h.lk he) (xb_87_67 (m_str he (by omega)) ?_)) (fun g => absurd rfl g)) (fun g => absurd (show nI m < nI 1000 from nI_lt hm (by omega)) g)
  refine xb_87_74 (fun g => ?_) (fun g => ?_)
  · rw [h17] at g
    have g0 := (nI_ltI (a := 0) (by omega) (by omega)).mp g
    refine xb_87_83 (fun q => ?_) (fun q1 => xb_87_90 (fun q => ?_) (fun q2 => ?_))
    · rw [if_pos ⟨g0, Or.inl ((nI_eq (b := 41) (by omega) (by omega)).mp q)⟩] at hx
      exact xb_87_97 hx
    · rw [if_pos ⟨g0, Or.inr ((nI_eq (b := 93) (by omega) (by omega)).mp q)⟩] at hx
      exact xb_87_97 hx
    · rw [if_neg (fun q => q.2.elim (fun q => q1 (by rw [q]; rfl)) (fun q => q2 (by rw [q]; rfl)))] at hx
      exact xb_87_101 hx
  · rw [h17] at g
    rw [if_neg (fun q => g (show nI 0 < _ from nI_lt q.1 (by omega)))] at hx
    exact xb_87_101 hx
/-- behind an operator: it is pushed, a unit is wanted -/
theorem hd_push {c : Nat} {o6 : Option Value} (h16 : iv 16 = nI ops.length) (h13 : iv 13 = nI i) (hl : ops.length < 200) (h : HD e dB lv (upd (upd iv 16 (nI (ops.length + 1))) 13 (nI (i + 1))) (va_up av 39 (upd (av 39) ops.length (nI c))) 1 (m + 1) x) : xe e xt_87 254 [some (.ref 27), some (.int (nI dB)), none, none, some (.int (nI m)), some (.int (nI c)), o6, some (.int 0)] [] (xs iv av lv) x := by
  have e16 : upd iv 13 (nI (i + 1)) 16 = nI ops.length := h16
  refine xb_87_254 (fun _ => ?_) (fun g => absurd rfl g)
  rw [h13, nI_1]
  refine xb_87_269 (by rw [e16]; exact nI_bd (by omega) (by omega)) ?_
  rw [e16, nI_clamp (by omega)]
  refine xb_87_280 ?_
  rw [e16, nI_1]
  have ec : upd (upd iv 13 (nI (i + 1))) 16 (nI (ops.length + 1)) = upd (upd iv 16 (nI (ops.length + 1))) 13 (nI (i + 1)) := by
    funext q
    unfold upd
    by_cases h1 : q = 16
    · subst h1; rfl
    · by_cases h2 : q = 13
      · subst h2; rfl
      · rw [if_neg h1, if_neg h2, if_neg h2, if_neg h1]
  rw [ec]
  refine xb_87_290 (fun _ => xb_87_295 (xb_87_300 (xb_87_301 (fun g => absurd g (by decide)) (fun _ => xb_87_309 ?_)))) (fun g => absurd rfl g)
  rw [nI_1]
  exact h _ _ _ _
theorem st_ncl {c : Nat} (h : st c ≠ 0) : ¬ (c = 41 ∨ c = 93) ∧ c ≠ 40 ∧ c ≠ 91 ∧ c ≠ 126 ∧ c ≠ 0 := by
  refine ⟨fun q => ?_, fun q => ?_, fun q => ?_, fun q => ?_, fun q => ?_⟩
  · rcases q with rfl | rfl <;> exact h rfl
  all_goals (subst q; exact h rfl)
/-- * / + - : stronger ones are written, it is pushed -/
theorem hd_bin {P X : List Nat} (he : 3 ≤ e) (hm : m < 1000) (h : VS n tx iv av i K Mk (P ++ X) cf) (hs : 2 ≤ st (tx i)) (hP : ∀ c ∈ P, st (tx i) ≤ st c) (hX : ∀ c r, X = c :: r → st c < st (tx i)) :
    ∃ iv' av', VF iv av iv' av' ∧ VS n tx iv' av' (i + 1) (K ++ em P) (Mk ++ em P) (tx i :: X) cf ∧ ∀ x, HD e dB lv iv' av' 1 (m + 1) x → HD e dB lv iv av 0 m x := by
  obtain ⟨n1, n2, n3, n4, n5⟩ := st_ncl (c := tx i) (by omega)
  have hle := h.1.le i
  have h3 := st_le (tx i)
  obtain ⟨iv1, av1, f1, x1, v1⟩ := m_reduce (lv := lv) (by omega) h3 he P X iv av K Mk h hP hX
  have hi : i < n := h.1.lt n5
  have hn := h.1.2.1
  have v2 := vs_push (c := tx i) v1 hi (by omega) n2 n3
  refine ⟨_, _, f1.tr vf_push, v2, fun x hx => hd_pre (by omega) hm h ?_⟩
  rw [if_neg (fun q => n1 q.2)]
  refine xb_87_102 (fun g => ?_) (fun _ => xb_87_140 (fun _ => xb_87_146 x1 (xb_87_152 (hd_push v1.2.2.2.2.1.1 v1.2.1.1 (by have := v1.2.2.2.2.2.2.1; omega) hx))) (fun g => absurd (show nI 1 < nI (st (tx i)) from nI_lt (by omega) (by omega)) g))
  have := (nI_eq (b := 1) (by omega) (by omega)).mp g
  omega
/-- < or = where none has been yet -/
theorem hd_rel {P X : List Nat} (he : 3 ≤ e) (hm : m < 1000) (h : VS n tx iv av i K Mk (P ++ X) cf) (hs : st (tx i) = 1) (hcf : cf (brs (P ++ X)) = false) (hb : brs (P ++ X) < 10) (hP : ∀ c ∈ P, 1 ≤ st c) (hX : ∀ c r, X = c :: r → st c < 1) :
    ∃ iv' av', VF iv av iv' av' ∧ VS n tx iv' av' (i + 1) (K ++ em P) (Mk ++ em P) (tx i :: X) (va_up cf (brs (P ++ X)) true) ∧ ∀ x, HD e dB lv iv' av' 1 (m + 1) x → HD e dB lv iv av 0 m x := by
  obtain ⟨n1, n2, n3, n4, n5⟩ := st_ncl (c := tx i) (by omega)
  have hle := h.1.le i
  have h17 := h.2.2.2.2.2.1.1
  have v0 : VS n tx iv (va_up av 40 (upd (av 40) (brs (P ++ X)) 1)) i K Mk (P ++ X) (va_up cf (brs (P ++ X)) true) := by
    obtain ⟨h1, h2, h3, h4, h5, h6, h7, h8, h9⟩ := h
    refine ⟨h1.to rfl rfl, h2, h3, h4, h5, ⟨h6.1, fun q hq => ?_⟩, h7, h8, h9⟩
    show upd (av 40) (brs (P ++ X)) 1 q = _
    by_cases e : q = brs (P ++ X)
    · subst e
      rw [upd_eq', va_up_self]
      rfl
    · rw [upd_ne' e, va_up_ne' e]
      exact h6.2 q hq
  obtain ⟨iv1, av1, f1, x1, v1⟩ := m_reduce (lv := lv) (least := 1) (by omega) (by omega) he P X iv _ K Mk v0 hP hX
  have hi : i < n := h.1.lt n5
  have hn := h.1.2.1
  have v2 := vs_push (c := tx i) v1 hi (by omega) n2 n3
  have f0 : VF iv av iv (va_up av 40 (upd (av 40) (brs (P ++ X)) 1)) := ⟨fun _ _ => rfl, fun q _ _ c => va_up_ne' c⟩
  refine ⟨_, _, (f0.tr f1).tr vf_push, v2, fun x hx => hd_pre (by omega) hm h ?_⟩
  rw [if_neg (fun q => n1 q.2), hs]
  refine xb_87_102 (fun _ => xb_87_110 (by rw [h17]; exact nI_bd (by omega) (by omega)) ?_) (fun g => absurd rfl g)
  rw [h17, nI_clamp (by omega), h.2.2.2.2.2.1.2 _ (Nat.le_refl _), hcf]
  refine xb_87_119 (fun _ => xb_87_122 (by rw [h17]; exact nI_bd (by omega) (by omega)) ?_) (fun g => absurd rfl g)
  rw [h17, nI_clamp (by omega)]
  exact xb_87_132 x1 (xb_87_137 (hd_push v1.2.2.2.2.1.1 v1.2.1.1 (by have := v1.2.2.2.2.2.2.1; omega) hx))
/-- at a character that goes on with no value here: pc 155 -/
theorem hd_155 {cl : Int32} (he : 1 ≤ e) (hm : m < 1000) (h : VS n tx iv av i K Mk ops cf) (hs : st (tx i) = 0 ∨ (st (tx i) = 1 ∧ cf (brs ops) = true ∧ brs ops < 10)) (hcl : cl = if 0 < brs ops ∧ (tx i = 41 ∨ tx i = 93) then 1 else 0)
    (hx : ∀ o6, xe e xt_87 155 [some (.ref 27), some (.int (nI dB)), none, none, some (.int (nI m)), some (.int (nI (tx i))), o6, some (.int cl)] [] (xs iv av lv) x) : HD e dB lv iv av 0 m x := by
  refine hd_pre he hm h ?_
  rw [← hcl]
  have h17 := h.2.2.2.2.2.1.1
  rcases hs with hs | ⟨hs, hc, hb⟩
  · rw [hs]
    exact xb_87_102 (fun g => absurd g (by decide)) (fun _ => xb_87_140 (fun g => absurd g (by decide)) (fun _ => hx _))
  · rw [hs]
    refine xb_87_102 (fun _ => xb_87_110 (by rw [h17]; exact nI_bd (by omega) (by omega)) ?_) (fun g => absurd rfl g)
    rw [h17, nI_clamp (by omega), h.2.2.2.2.2.1.2 _ (Nat.le_refl _), hc]
    exact xb_87_119 (fun g => absurd g (by decide)) (fun _ => xb_87_140 (fun g => absurd g (by decide)) (fun _ => hx _))
/-- the end of a value -/
theorem hd_end {P X : List Nat} (he : 3 ≤ e) (hm : m < 1000) (h : VS n tx iv av i K Mk (P ++ X) cf) (hs : st (tx i) = 0 ∨ (st (tx i) = 1 ∧ cf (brs (P ++ X)) = true ∧ brs (P ++ X) < 10)) (hcl : ¬ (0 < brs (P ++ X) ∧ (tx i = 41 ∨ tx i = 93))) (hP : ∀ c ∈ P, 1 ≤ st c) (hX : ∀ c r, X = c :: r → st c < 1) :
    ∃ iv' av', VF iv av iv' av' ∧ VS n tx iv' av' i (K ++ em P) (Mk ++ em P) X cf ∧ HD e dB lv iv av 0 m (some (.int (if brs X = 0 ∧ X = [] then 1 else 0)), xs iv' av' lv) := by
  obtain ⟨iv1, av1, f1, x1, v1⟩ := m_reduce (lv := lv) (least := 1) (by omega) (by omega) he P X iv av K Mk h hP hX
  refine ⟨iv1, av1, f1, v1, hd_155 (cl := 0) (by omega) hm h hs (by rw [if_neg hcl]) (fun o6 => xb_87_155 (fun _ => xb_87_229 x1 ?_) (fun g => absurd rfl g))⟩
  have h17 := v1.2.2.2.2.2.1.1
  have h16 := v1.2.2.2.2.1.1
  have h7 := v1.2.2.2.2.2.2.1
  have h2 := v1.2.1.2
  have hb : brs X ≤ X.length := List.length_filter_le _ _
  refine xb_87_234 (fun g => xb_87_241 (fun g2 => ?_) (fun g2 => ?_)) (fun g => ?_)
  · rw [h17] at g
    rw [h16] at g2
    have a := (nI_eq (b := 0) (by omega) (by omega)).mp g
    have b := List.eq_nil_of_length_eq_zero ((nI_eq (b := 0) (by omega) (by omega)).mp g2)
    rw [if_pos ⟨a, b⟩]
    exact xb_87_248 (xb_87_253 (Or.inr rfl))
  · rw [if_neg (fun q => g2 (by rw [h16, q.2]; rfl))]
    exact xb_87_252 (xb_87_253 (Or.inl rfl))
  · rw [if_neg (fun q => g (by rw [h17, q.1]; rfl))]
    exact xb_87_252 (xb_87_253 (Or.inl rfl))
/-- a bracket is closed -/
theorem hd_close {P X : List Nat} {b : Nat} (he : 3 ≤ e) (hm : m < 1000) (h : VS n tx iv av i K Mk (P ++ b :: X) cf) (hb : b = 40 ∨ b = 91) (hc : tx i = 41 ∨ tx i = 93) (hP : ∀ c ∈ P, 1 ≤ st c) :
    ∃ iv' av', VF iv av iv' av' ∧ ((((b = 40 ∧ tx i = 41) ∨ (b = 91 ∧ tx i = 93)) ∧ VS n tx iv' av' (i + 1) (K ++ em P ++ (if b = 91 then [(3, 0)] else []) ++ nt X) (Mk ++ em P ++ (if b = 91 then [(3, 0)] else []) ++ nt X) (dt X) cf ∧ ∀ x, HD e dB lv iv' av' 0 (m + 1) x → HD e dB lv iv av 0 m x) ∨ (¬ ((b = 40 ∧ tx i = 41) ∨ (b = 91 ∧ tx i = 93)) ∧ VB iv' av' ∧ HD e dB lv iv av 0 m (some (.int 0), xs iv' av' lv))) := by
  have st0 : st b = 0 := by rcases hb with rfl | rfl <;> rfl
  obtain ⟨iv1, av1, f1, x1, v1⟩ := m_reduce (lv := lv) (least := 1) (by omega) (by omega) he P (b :: X) iv av K Mk h hP (fun c r q => by cases q; omega)
  have hbr : 0 < brs (P ++ b :: X) := by
    have e1 : brs (P ++ b :: X) = brs P + brs (b :: X) := by unfold brs; rw [List.filter_append, List.length_append]
    rw [e1, brs_b hb]
    omega
  have hs : st (tx i) = 0 := by rcases hc with q | q <;> rw [q] <;> rfl
  have h16 := v1.2.2.2.2.1.1
  have hos := v1.2.2.2.2.1.2
  have h17 := v1.2.2.2.2.2.1.1
  have h7 := v1.2.2.2.2.2.2.1
  have h13 := v1.2.1.1
  have hi2 := v1.2.1.2
  have hn := h.1.2.1
  have hi : i < n := h.1.lt (by rcases hc with q | q <;> rw [q] <;> decide)
  rw [brs_b hb] at h17
  simp only [List.length_cons] at h16 h7
  have pre : ∀ x, xe e xt_87 184 [some (.ref 27), some (.int (nI dB)), none, none, some (.int (nI m)), some (.int (nI (tx i))), none, some (.int 1)] [.int (nI b)] (xs (upd iv1 16 (nI X.length)) av1 lv) x → HD e dB lv iv av 0 m x := fun x hx =>
    hd_155 (cl := 1) (by omega) hm h (Or.inl hs) (by rw [if_pos ⟨hbr, hc⟩]) (fun o6 => xb_87_155 (fun g => absurd g (by decide)) (fun _ => xb_87_160 x1 (xb_87_165 (by rw [h16, nI_pred]; exact nI_bd (by omega) (by omega)) (by rw [h16, nI_pred, nI_clamp (by omega), hos.1]; exact hx))))
  have pre2 : ∀ x, ((b = 40 ∧ tx i = 41) ∨ (b = 91 ∧ tx i = 93) → xe e xt_87 203 [some (.ref 27), some (.int (nI dB)), none, none, some (.int (nI m)), some (.int (nI (tx i))), none, some (.int 1)] [] (xs (upd iv1 16 (nI X.length)) av1 lv) x) → (¬ ((b = 40 ∧ tx i = 41) ∨ (b = 91 ∧ tx i = 93)) → xe e xt_87 201 [some (.ref 27), some (.int (nI dB)), none, none, some (.int (nI m)), some (.int (nI (tx i))), none, some (.int 1)] [] (xs (upd iv1 16 (nI X.length)) av1 lv) x) → HD e dB lv iv av 0 m x := fun x k1 k2 => by
    refine pre x (xb_87_184 (fun g => xb_87_191 (xb_87_198 (fun q => k1 ?_) (fun q => k2 ?_))) (fun g => xb_87_196 (xb_87_198 (fun q => k1 ?_) (fun q => k2 ?_))))
    · have a := (nI_eq (b := 41) (by rcases hc with q | q <;> rw [q] <;> decide) (by omega)).mp g
      exact Or.inl ⟨(nI_eq (b := 40) (by omega) (by omega)).mp q, a⟩
    · have a := (nI_eq (b := 41) (by rcases hc with q | q <;> rw [q] <;> decide) (by omega)).mp g
      exact fun w => w.elim (fun w => q (by rw [w.1]; rfl)) (fun w => by omega)
    · have a : tx i = 93 := hc.resolve_left (fun q => g (by rw [q]; rfl))
      exact Or.inr ⟨(nI_eq (b := 91) (by omega) (by omega)).mp q, a⟩
    · have a : tx i = 93 := hc.resolve_left (fun q => g (by rw [q]; rfl))
      exact fun w => w.elim (fun w => by omega) (fun w => q (by rw [w.1]; rfl))
  have f2 : VF iv1 av1 (upd iv1 16 (nI X.length)) av1 := ⟨fun q a => upd_ne' (by omega), fun _ _ _ _ => rfl⟩
  by_cases hok : (b = 40 ∧ tx i = 41) ∨ (b = 91 ∧ tx i = 93)
  case neg => exact ⟨_, _, f1.tr f2, Or.inr ⟨hok, ⟨_, _, v1.2.2.1, v1.2.2.2.1, by have := v1.2.2.2.2.2.2.2.1; omega, by have := v1.2.2.2.2.2.2.2.2; omega⟩, pre2 _ (fun q => absurd q hok) (fun _ => xb_87_201)⟩⟩
  -- the state behind the bracket
  have v2 : VS n tx (upd (upd iv1 16 (nI X.length)) 17 (nI (brs X))) av1 i (K ++ em P) (Mk ++ em P) X cf := by
    obtain ⟨g1, g2, g3, g4, g5, g6, g7, g8, g9⟩ := v1
    simp only [List.length_cons] at g8 g9
    exact ⟨g1.to rfl rfl, g2, g3, g4, ⟨rfl, g5.2.2.2⟩, ⟨upd_eq', fun q hq => g6.2 q (by rw [brs_b hb]; omega)⟩, by omega, by omega, by omega⟩
  have f3 : VF iv1 av1 (upd (upd iv1 16 (nI X.length)) 17 (nI (brs X))) av1 := ⟨fun q a => by rw [upd_ne' (by omega), upd_ne' (by omega)], fun _ _ _ _ => rfl⟩
  have h8 := v1.2.2.2.2.2.2.2.1
  have h9 := v1.2.2.2.2.2.2.2.2
  simp only [List.length_cons] at h8 h9
  -- FETCH, if it is one of a place
  have v3 : ∃ iv3 av3, VF iv av iv3 av3 ∧ VS n tx iv3 av3 i (K ++ em P ++ (if b = 91 then [(3, 0)] else [])) (Mk ++ em P ++ (if b = 91 then [(3, 0)] else [])) X cf ∧ ∀ x, xe e xt_87 254 [some (.ref 27), some (.int (nI dB)), none, none, some (.int (nI m)), some (.int (nI (tx i))), none, some (.int 1)] [] (xs iv3 av3 lv) x → HD e dB lv iv av 0 m x := by
    have e17 : upd iv1 16 (nI X.length) 17 - 1 = nI (brs X) := by
      show iv1 17 - 1 = _
      rw [h17, nI_pred]
    rcases hok with ⟨hb1, hc1⟩ | ⟨hb1, hc1⟩
    · refine ⟨_, _, f1.tr f3, by rw [if_neg (by omega), List.append_nil, List.append_nil]; exact v2, fun x hx => pre2 x (fun _ => xb_87_203 (fun g => ?_) (fun _ => ?_)) (fun q => absurd (Or.inl ⟨hb1, hc1⟩) q)⟩
      · rw [hc1] at g
        exact absurd g (by decide)
      · rw [e17]
        exact hx
    · obtain ⟨iv4, av4, f4, x4, v4⟩ := vs_emit (lv := lv) (D := e) (o := 3) (a := 0) (by omega) v2 (by omega) (by omega) (by omega)
      refine ⟨iv4, av4, (f1.tr f3).tr f4.vf, by rw [if_pos hb1]; exact v4, fun x hx => pre2 x (fun _ => xb_87_203 (fun _ => ?_) (fun g => absurd (by rw [hc1]; rfl) g)) (fun q => absurd (Or.inr ⟨hb1, hc1⟩) q)⟩
      rw [e17]
      exact xb_87_220 x4 (xb_87_226 hx)
  obtain ⟨iv3, av3, f3', v3, x3⟩ := v3
  have v5 := v3.at (iv' := upd iv3 13 (nI (i + 1))) (j := i + 1) (by omega) (by omega) (fun q hq => upd_ne' hq) upd_eq'
  obtain ⟨iv6, av6, f6, x6, v6⟩ := m_complete (lv := lv) he X _ _ _ _ v5
  refine ⟨iv6, av6, f3'.tr (VF.tr ⟨fun q a => upd_ne' (by omega), fun _ _ _ _ => rfl⟩ f6), Or.inl ⟨hok, v6, fun x hx => x3 x (xb_87_254 (fun g => absurd g (by decide)) (fun _ => ?_))⟩⟩
  rw [v3.2.1.1, nI_1]
  refine xb_87_290 (fun g => absurd g (by decide)) (fun _ => xb_87_299 (xb_87_300 (xb_87_301 (fun _ => xb_87_305 x6 (xb_87_309 ?_)) (fun g => absurd rfl g))))
  rw [nI_1]
  exact hx _ _ _ _
end ML
