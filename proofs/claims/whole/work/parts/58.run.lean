/-! The machine, as it is meant: one instruction, a trap, a row of instructions. -/
abbrev isW (t : Int32) : Prop := ¬ t < 0 ∧ ¬ 7 < t
def trp (o a : Nat) (s : List Int32) : Nat :=
  if o = 8 then (if s.getD 0 0 = 0 then 1 else 0)
  else if o = 3 then (if isW (s.getD 0 0) then 0 else 2)
  else if o = 4 then (if isW (s.getD 1 0) then 0 else 2)
  else if o = 16 then (if nI a < s.getD 0 0 then 3 else 0) else 0
def opr (o : Nat) (v t : Int32) : Int32 :=
  if o = 5 then v + t else if o = 6 then v - t else if o = 7 then v * t else if o = 8 then (if t = 0 then 0 else v / t) else if o = 9 then (if v < t then 1 else 0) else (if v = t then 1 else 0)
/-- place, stack (top first), places, outputs, their number -/
abbrev MQt : Type := Nat × List Int32 × (Nat → Int32) × (Nat → Int32) × Nat
/-- an instruction that makes no trap: its cost, and what is then -/
def exi (o a : Nat) : MQt → Option (Nat × MQt)
  | (k, s, P, O, oc) =>
    if o = 0 then some (1, k + 1, nI a :: s, P, O, oc)
    else if o = 1 then some (2, k + 1, P a :: s, P, O, oc)
    else if o = 14 then some (2, a, s, P, O, oc)
    else if o = 17 then some (4, a, nI (k + 1) :: s, P, O, oc)
    else match s with
      | [] => none
      | t :: r =>
        if o = 2 then some (2, k + 1, r, upd P a t, O, oc)
        else if o = 3 then some (4, k + 1, P (6 + t.toNatClampNeg) :: r, P, O, oc)
        else if o = 11 then some (1, k + 1, -t :: r, P, O, oc)
        else if o = 12 then some (6, k + 1, r, P, (if oc < 32 then upd O oc t else O), oc + 1)
        else if o = 13 then (if t = 0 then some (3, a, r, P, O, oc) else some (1, k + 1, r, P, O, oc))
        else if o = 15 then (if t = 0 then some (3, a, r, P, O, oc) else some (1, k + 1, (t - 1) :: r, P, O, oc))
        else if o = 16 then some (2, k + 1, (if t < 0 then 0 else t) :: r, P, O, oc)
        else if o = 18 then some (3, t.toNatClampNeg, r, P, O, oc)
        else match r with
          | [] => none
          | v :: q =>
            if o = 4 then some (4, k + 1, q, upd P (6 + v.toNatClampNeg) t, O, oc)
            else if 5 ≤ o ∧ o ≤ 10 then some (cs1 o, k + 1, opr o v t :: q, P, O, oc) else none
/-- n instructions, no trap and no END; cy cycles and hi words so far; never more than B words -/
def GO (C : List In) (B : Nat) : Nat → MQt → Nat → Nat → MQt → Nat → Nat → Prop
  | 0, S, cy, hi, S', cy', hi' => S' = S ∧ cy' = cy ∧ hi' = hi
  | n + 1, S, cy, hi, S', cy', hi' => ∃ o a y S1, C[S.1]? = some (o, a) ∧ o < 19 ∧ trp o a S.2.1 = 0 ∧ exi o a S = some (y, S1) ∧ S1.2.1.length ≤ B ∧ (o = 1 ∨ o = 2 → a < 6) ∧ (o = 18 → ∃ k, S.2.1.head? = some (nI k) ∧ k < 2 ^ 20) ∧ GO C B n S1 (cy + y) (max hi S1.2.1.length) S' cy' hi'
theorem GO.tr {C : List In} {B : Nat} : ∀ {n m : Nat} {S S1 S2 : MQt} {cy cy1 cy2 hi hi1 hi2 : Nat}, GO C B n S cy hi S1 cy1 hi1 → GO C B m S1 cy1 hi1 S2 cy2 hi2 → GO C B (n + m) S cy hi S2 cy2 hi2
  | 0, m, S, S1, S2, cy, cy1, cy2, hi, hi1, hi2, h, g => by
    obtain ⟨rfl, rfl, rfl⟩ := h
    rw [Nat.zero_add]
    exact g
  | n + 1, m, S, S1, S2, cy, cy1, cy2, hi, hi1, hi2, h, g => by
    obtain ⟨o, a, y, S', h1, h2, h3, h4, h5, h6, h8, h9⟩ := h
    rw [show n + 1 + m = (n + m) + 1 by omega]
    exact ⟨o, a, y, S', h1, h2, h3, h4, h5, h6, h8, GO.tr h9 g⟩
theorem GO.one {C : List In} {B o a y : Nat} {S S1 : MQt} {cy hi : Nat} (h1 : C[S.1]? = some (o, a)) (h2 : o < 19) (h3 : trp o a S.2.1 = 0) (h4 : exi o a S = some (y, S1)) (h5 : S1.2.1.length ≤ B) (h6 : o = 1 ∨ o = 2 → a < 6) (h8 : o = 18 → ∃ k, S.2.1.head? = some (nI k) ∧ k < 2 ^ 20) : GO C B 1 S cy hi S1 (cy + y) (max hi S1.2.1.length) := ⟨o, a, y, S1, h1, h2, h3, h4, h5, h6, h8, rfl, rfl, rfl⟩
/-- the stack, in an array -/
def SK (g : Nat → Int32) : List Int32 → Prop
  | [] => True
  | t :: r => g r.length = t ∧ SK g r
theorem sk_upd {g : Nat → Int32} {k : Nat} {v : Int32} : ∀ {s : List Int32}, SK g s → s.length ≤ k → SK (upd g k v) s
  | [], _, _ => trivial
  | t :: r, h, hk => by
    rw [List.length_cons] at hk
    exact ⟨by rw [upd_ne' (by omega)]; exact h.1, sk_upd h.2 (by omega)⟩
def EQn (n : Nat) (f g : Nat → Int32) : Prop := ∀ j, j < n → f j = g j
theorem eqn_upd {n k : Nat} {f g : Nat → Int32} {v : Int32} (h : EQn n f g) : EQn n (upd f k v) (upd g k v) := fun j hj => by
  by_cases e : j = k
  · subst e; rw [upd_eq', upd_eq']
  · rw [upd_ne' e, upd_ne' e]; exact h j hj
/-! The class's machine. -/
def CM (iv : Nat → Int32) (av : Nat → Nat → Int32) (S : MQt) (cy hi : Nat) : Prop := (iv 9 = nI S.1 ∧ S.1 < 2 ^ 20) ∧ (iv 5 = nI S.2.1.length ∧ S.2.1.length ≤ 200 ∧ SK (av 26) S.2.1) ∧ EQn 14 (av 24) S.2.2.1 ∧ EQn 32 (av 25) S.2.2.2.1 ∧ (iv 10 = nI S.2.2.2.2 ∧ S.2.2.2.2 < 2 ^ 20) ∧ (iv 7 = nI cy ∧ cy < 2 ^ 20) ∧ iv 8 = nI hi ∧ hi ≤ 200 ∧ S.2.1.length ≤ hi
def XF (iv : Nat → Int32) (av : Nat → Nat → Int32) (iv' : Nat → Int32) (av' : Nat → Nat → Int32) : Prop := (∀ q, q < 5 ∨ 10 < q ∨ q = 6 → iv' q = iv q) ∧ ∀ q, q < 24 ∨ 26 < q → av' q = av q
theorem XF.rf {iv : Nat → Int32} {av : Nat → Nat → Int32} : XF iv av iv av := ⟨fun _ _ => rfl, fun _ _ => rfl⟩
theorem XF.tr {iv iv1 iv2 : Nat → Int32} {av av1 av2 : Nat → Nat → Int32} (h : XF iv av iv1 av1) (g : XF iv1 av1 iv2 av2) : XF iv av iv2 av2 := ⟨fun q a => (g.1 q a).trans (h.1 q a), fun q a => (g.2 q a).trans (h.2 q a)⟩
section CMS
variable {D : Nat} {iv : Nat → Int32} {av : Nat → Nat → Int32} {lv : Nat → Nat → Int64} {k oc cy hi : Nat} {s r : List Int32} {P O : Nat → Int32} {t v : Int32}
theorem c_push (hD : 1 ≤ D) (h : CM iv av (k, s, P, O, oc) cy hi) (hs : s.length < 200) : ∃ iv' av', XF iv av iv' av' ∧ CM iv' av' (k, v :: s, P, O, oc) cy (max hi (s.length + 1)) ∧ xm D 69 [.ref 23, .int v] (xs iv av lv) (none, xs iv' av' lv) := by
  obtain ⟨d, rfl⟩ : ∃ d, D = d + 1 := ⟨D - 1, by omega⟩
  obtain ⟨⟨h1, h1'⟩, ⟨h2, h2', h2''⟩, h3, h4, ⟨h5, h5'⟩, ⟨h6, h6'⟩, h7, h8, h9⟩ := h
  dsimp only at *
  have em : (if iv 8 < iv 5 + 1 then iv 5 + 1 else iv 8) = nI (max hi (s.length + 1)) := by
    rw [h7, h2, nI_1]
    exact nI_max (by omega) (by omega)
  refine ⟨upd (upd iv 5 (iv 5 + 1)) 8 (nI (max hi (s.length + 1))), va_up av 26 (upd (av 26) s.length v), ⟨fun q a => by rw [upd_ne' (by omega), upd_ne' (by omega)], fun q a => va_up_ne' (by omega)⟩, ⟨⟨h1, h1'⟩, ⟨?_, by show s.length + 1 ≤ 200; omega, ⟨upd_eq', sk_upd h2'' (Nat.le_refl _)⟩⟩, h3, h4, ⟨h5, h5'⟩, ⟨h6, h6'⟩, upd_eq', by omega, by show s.length + 1 ≤ _; omega⟩, xm_of (nL := 2) rfl rfl (xb_69_0 (fun _ => xb_69_10 (by rw [h2]; exact nI_bd hs (by omega)) (xb_69_20 ?_)) (fun g => ?_))⟩
  · show iv 5 + 1 = nI (s.length + 1)
    rw [h2, nI_1]
  · rw [em, h2, nI_clamp (by omega), ← h2]
    exact xb_69_45
  · rw [h2] at g
    exact absurd (show nI s.length < nI 200 from nI_lt hs (by omega)) g
theorem c_pop (hD : 1 ≤ D) (h : CM iv av (k, t :: r, P, O, oc) cy hi) : ∃ iv', XF iv av iv' av ∧ CM iv' av (k, r, P, O, oc) cy hi ∧ xm D 70 [.ref 23] (xs iv av lv) (some (.int t), xs iv' av lv) := by
  obtain ⟨d, rfl⟩ : ∃ d, D = d + 1 := ⟨D - 1, by omega⟩
  obtain ⟨⟨h1, h1'⟩, ⟨h2, h2', h2''⟩, h3, h4, ⟨h5, h5'⟩, ⟨h6, h6'⟩, h7, h8, h9⟩ := h
  have h2 : iv 5 = nI (r.length + 1) := h2
  have h2' : r.length + 1 ≤ 200 := h2'
  have h9 : r.length + 1 ≤ hi := h9
  refine ⟨upd iv 5 (nI r.length), ⟨fun q a => upd_ne' (by omega), fun _ _ => rfl⟩, ⟨⟨h1, h1'⟩, ⟨upd_eq', by show r.length ≤ 200; omega, h2''.2⟩, h3, h4, ⟨h5, h5'⟩, ⟨h6, h6'⟩, h7, h8, by show r.length ≤ hi; omega⟩, xm_of (nL := 1) rfl rfl (xb_70_0 (fun g => ?_) (fun _ => xb_70_9 (by rw [h2, nI_pred]; exact nI_bd (by omega) (by omega)) ?_))⟩
  · rw [h2] at g
    exact absurd g (nI_ne0 (by omega) (by omega))
  · rw [h2, nI_pred, nI_clamp (by omega), h2''.1]
    exact xb_70_28
theorem sk_get {g : Nat → Int32} : ∀ {s : List Int32} {j : Nat}, SK g s → j < s.length → g (s.length - 1 - j) = s.getD j 0
  | [], _, _, h => by simp at h
  | t :: r, 0, h, _ => by
    show g (r.length + 1 - 1 - 0) = t
    rw [show r.length + 1 - 1 - 0 = r.length by omega]
    exact h.1
  | t :: r, j + 1, h, hj => by
    have hj : j < r.length := by rw [List.length_cons] at hj; omega
    have := sk_get h.2 hj
    show g (r.length + 1 - 1 - (j + 1)) = r.getD j 0
    rw [show r.length + 1 - 1 - (j + 1) = r.length - 1 - j by omega]
    exact this
theorem c_below {S : MQt} {c : Nat} (hD : 1 ≤ D) (h : CM iv av S cy hi) (hc : c < 2) : xm D 71 [.ref 23, .int (nI c)] (xs iv av lv) (some (.int (S.2.1.getD c 0)), xs iv av lv) := by
  obtain ⟨d, rfl⟩ : ∃ d, D = d + 1 := ⟨D - 1, by omega⟩
  obtain ⟨h2, h2', h2''⟩ := h.2.1
  by_cases hl : c < S.2.1.length
  · have e1 : iv 5 - 1 - nI c = nI (S.2.1.length - 1 - c) := by
      rw [h2, show (1 : Int32) = nI 1 from rfl, pk_sub (by omega), pk_sub (by omega)]
    refine xm_of (nL := 3) rfl rfl (xb_71_0 (fun g => ?_) (fun _ => xb_71_13 (fun _ => xb_71_20 (by rw [e1]; exact nI_bd (by omega) (by omega)) ?_) (fun g => ?_)))
    · rw [e1] at g
      exact absurd g (nI_pos (by omega))
    · rw [e1, nI_clamp (by omega), sk_get h2'' hl]
      exact xb_71_26 xb_71_30
    · rw [e1] at g
      exact absurd (show nI _ < nI 200 from nI_lt (by omega) (by omega)) g
  · have e0 : S.2.1.getD c 0 = 0 := by
      rw [List.getD_eq_getElem?_getD, List.getElem?_eq_none (by omega)]
      rfl
    rw [e0]
    have neg : iv 5 - 1 - nI c < 0 := by
      rw [h2]
      have : (S.2.1.length = 0 ∧ (c = 0 ∨ c = 1)) ∨ (S.2.1.length = 1 ∧ c = 1) := by omega
      rcases this with ⟨e, rfl | rfl⟩ | ⟨e, rfl⟩ <;> rw [e] <;> decide
    exact xm_of (nL := 3) rfl rfl (xb_71_0 (fun _ => xb_71_29 xb_71_30) (fun g => absurd neg g))
theorem c_place {S : MQt} {j : Nat} (hD : 1 ≤ D) (h : CM iv av S cy hi) (hj : j < 14) : xm D 67 [.ref 23, .int (nI j)] (xs iv av lv) (some (.int (S.2.2.1 j)), xs iv av lv) := by
  obtain ⟨d, rfl⟩ : ∃ d, D = d + 1 := ⟨D - 1, by omega⟩
  refine xm_of (nL := 2) rfl rfl (xb_67_0 (fun g => absurd g (nI_pos (by omega))) (fun _ => xb_67_4 (fun _ => xb_67_10 (nI_bd hj (by omega)) ?_) (fun g => absurd (show nI j < nI 14 from nI_lt hj (by omega)) g)))
  rw [nI_clamp (by omega), h.2.2.1 j hj]
  exact xb_67_16 xb_67_20
theorem c_store {j : Nat} (hD : 1 ≤ D) (h : CM iv av (k, s, P, O, oc) cy hi) (hj : j < 14) : ∃ av', XF iv av iv av' ∧ CM iv av' (k, s, upd P j v, O, oc) cy hi ∧ xm D 68 [.ref 23, .int (nI j), .int v] (xs iv av lv) (none, xs iv av' lv) := by
  obtain ⟨d, rfl⟩ : ∃ d, D = d + 1 := ⟨D - 1, by omega⟩
  obtain ⟨h1, h2, h3, h4, h5, h6, h7⟩ := h
  refine ⟨va_up av 24 (upd (av 24) j v), ⟨fun _ _ => rfl, fun q a => va_up_ne' (by omega)⟩, ⟨h1, h2, eqn_upd h3, h4, h5, h6, h7⟩, xm_of (nL := 3) rfl rfl (xb_68_0 (fun g => absurd g (nI_pos (by omega))) (fun _ => xb_68_4 (fun _ => xb_68_10 (nI_bd hj (by omega)) ?_) (fun g => absurd (show nI j < nI 14 from nI_lt hj (by omega)) g)))⟩
  rw [nI_clamp (by omega)]
  exact xb_68_17
theorem c_out (hD : 1 ≤ D) (h : CM iv av (k, s, P, O, oc) cy hi) (ho : oc + 1 < 2 ^ 20) : ∃ iv' av', XF iv av iv' av' ∧ CM iv' av' (k, s, P, (if oc < 32 then upd O oc v else O), oc + 1) cy hi ∧ xm D 66 [.ref 23, .int v] (xs iv av lv) (none, xs iv' av' lv) := by
  obtain ⟨d, rfl⟩ : ∃ d, D = d + 1 := ⟨D - 1, by omega⟩
  obtain ⟨h1, h2, h3, h4, ⟨h5, h5'⟩, h6, h7⟩ := h
  have h5 : iv 10 = nI oc := h5
  by_cases h32 : oc < 32
  · rw [if_pos h32]
    refine ⟨upd iv 10 (iv 10 + 1), va_up av 25 (upd (av 25) oc v), ⟨fun q a => upd_ne' (by omega), fun q a => va_up_ne' (by omega)⟩, ⟨h1, h2, h3, eqn_upd h4, ⟨?_, ho⟩, h6, h7⟩, xm_of (nL := 2) rfl rfl (xb_66_0 (fun _ => xb_66_9 (by rw [h5]; exact nI_bd h32 (by omega)) ?_) (fun g => ?_))⟩
    · show iv 10 + 1 = nI (oc + 1)
      rw [h5, nI_1]
    · rw [h5, nI_clamp (by omega), ← h5]
      exact xb_66_19
    · rw [h5] at g
      exact absurd (show nI oc < nI 32 from nI_lt h32 (by omega)) g
  · rw [if_neg h32]
    refine ⟨upd iv 10 (iv 10 + 1), av, ⟨fun q a => upd_ne' (by omega), fun _ _ => rfl⟩, ⟨h1, h2, h3, h4, ⟨?_, ho⟩, h6, h7⟩, xm_of (nL := 2) rfl rfl (xb_66_0 (fun g => ?_) (fun _ => xb_66_19))⟩
    · show iv 10 + 1 = nI (oc + 1)
      rw [h5, nI_1]
    · rw [h5] at g
      exact absurd ((nI_ltI (b := 32) (by omega) (by omega)).mp g) h32
theorem c_isW (hD : 1 ≤ D) : xm D 61 [.int t] (xs iv av lv) (some (.int (if isW t then 1 else 0)), xs iv av lv) := by
  obtain ⟨d, rfl⟩ : ∃ d, D = d + 1 := ⟨D - 1, by omega⟩
  have e8 : t < 8 ↔ ¬ 7 < t := by
    rw [Int32.lt_iff_toInt_lt, Int32.lt_iff_toInt_lt]
    have a : (8 : Int32).toInt = 8 := rfl
    have b : (7 : Int32).toInt = 7 := rfl
    omega
  refine xm_of (nL := 1) rfl rfl (xb_61_0 (fun g => xb_61_14 ?_) (fun g => xb_61_4 (fun g2 => xb_61_10 ?_) (fun g2 => xb_61_14 ?_)))
  · rw [if_neg (fun q => q.1 g)]
    exact xb_61_15 (Or.inl rfl)
  · rw [if_pos ⟨g, e8.mp g2⟩]
    exact xb_61_15 (Or.inr rfl)
  · rw [if_neg (fun q => g2 (e8.mpr q.2))]
    exact xb_61_15 (Or.inl rfl)
theorem sw60 : ∀ o, o < 20 → (xi_swt (nI o) [(3, 58), (4, 75), (8, 44), (16, 92)] 107).toNat = if o = 3 then 58 else if o = 4 then 75 else if o = 8 then 44 else if o = 16 then 92 else 107 := by decide
theorem c_trap {S : MQt} {o a : Nat} (hD : 2 ≤ D) (h : CM iv av S cy hi) (ho : o < 20) : xm D 60 [.ref 23, .int (nI o), .int (nI a)] (xs iv av lv) (some (.int (nI (trp o a S.2.1))), xs iv av lv) := by
  obtain ⟨d, rfl⟩ : ∃ d, D = d + 1 := ⟨D - 1, by omega⟩
  have b0 := c_below (D := d) (lv := lv) (c := 0) (by omega) h (by omega)
  have b1 := c_below (D := d) (lv := lv) (c := 1) (by omega) h (by omega)
  refine xm_of (nL := 3) rfl rfl (xb_60_0 ?_)
  rw [sw60 o ho]
  unfold trp
  by_cases h3 : o = 3
  · rw [if_pos h3, if_neg (by omega), if_pos h3]
    refine xb_60_58 b0 (xb_60_63 (c_isW (by omega)) ?_)
    by_cases hw : isW (S.2.1.getD 0 0)
    · rw [if_pos hw, if_pos hw]
      exact xb_60_66 (fun g => absurd g (by decide)) (fun _ => xb_60_69 xb_60_74)
    · rw [if_neg hw, if_neg hw]
      exact xb_60_66 (fun _ => xb_60_73 xb_60_74) (fun g => absurd rfl g)
  rw [if_neg h3]
  by_cases h4 : o = 4
  · rw [if_pos h4, if_neg (by omega), if_neg h3, if_pos h4]
    refine xb_60_75 b1 (xb_60_80 (c_isW (by omega)) ?_)
    by_cases hw : isW (S.2.1.getD 1 0)
    · rw [if_pos hw, if_pos hw]
      exact xb_60_83 (fun g => absurd g (by decide)) (fun _ => xb_60_86 xb_60_91)
    · rw [if_neg hw, if_neg hw]
      exact xb_60_83 (fun _ => xb_60_90 xb_60_91) (fun g => absurd rfl g)
  rw [if_neg h4]
  by_cases h8 : o = 8
  · rw [if_pos h8, if_pos h8]
    refine xb_60_44 b0 (xb_60_49 (fun g => xb_60_52 ?_) (fun g => xb_60_56 ?_))
    · rw [if_pos g]; exact xb_60_57
    · rw [if_neg g]; exact xb_60_57
  rw [if_neg h8, if_neg h8, if_neg h3, if_neg h4]
  by_cases h16 : o = 16
  · rw [if_pos h16, if_pos h16]
    refine xb_60_92 b0 (xb_60_97 (fun g => xb_60_101 ?_) (fun g => xb_60_105 ?_))
    · rw [if_pos g]; exact xb_60_106
    · rw [if_neg g]; exact xb_60_106
  rw [if_neg h16, if_neg h16]
  exact xb_60_107
theorem sw63 : ∀ o, o < 20 → (xi_swt (nI o) [(5, 36), (6, 40), (7, 44), (8, 48), (9, 60)] 71).toNat = if o = 5 then 36 else if o = 6 then 40 else if o = 7 then 44 else if o = 8 then 48 else if o = 9 then 60 else 71 := by decide
theorem c_combine {o : Nat} (hD : 1 ≤ D) (ho : o < 20) : xm D 63 [.int (nI o), .int v, .int t] (xs iv av lv) (some (.int (opr o v t)), xs iv av lv) := by
  obtain ⟨d, rfl⟩ : ∃ d, D = d + 1 := ⟨D - 1, by omega⟩
  refine xm_of (nL := 3) rfl rfl (xb_63_0 ?_)
  rw [sw63 o ho]
  unfold opr
  by_cases h5 : o = 5
  · rw [if_pos h5, if_pos h5]; exact xb_63_36
  rw [if_neg h5, if_neg h5]
  by_cases h6 : o = 6
  · rw [if_pos h6, if_pos h6]; exact xb_63_40
  rw [if_neg h6, if_neg h6]
  by_cases h7 : o = 7
  · rw [if_pos h7, if_pos h7]; exact xb_63_44
  rw [if_neg h7, if_neg h7]
  by_cases h8 : o = 8
  · rw [if_pos h8, if_pos h8]
    refine xb_63_48 (fun g => xb_63_52 ?_) (fun g => xb_63_56 g ?_)
    · rw [if_pos g]; exact xb_63_59
    · rw [if_neg g]; exact xb_63_59
  rw [if_neg h8, if_neg h8]
  by_cases h9 : o = 9
  · rw [if_pos h9, if_pos h9]
    refine xb_63_60 (fun g => xb_63_65 ?_) (fun g => xb_63_69 ?_)
    · rw [if_pos g]; exact xb_63_70
    · rw [if_neg g]; exact xb_63_70
  rw [if_neg h9, if_neg h9]
  refine xb_63_71 (fun g => xb_63_76 ?_) (fun g => xb_63_80 ?_)
  · rw [if_pos g]; exact xb_63_81
  · rw [if_neg g]; exact xb_63_81
theorem isW_n {t : Int32} (h : isW t) : ∃ j : Nat, j ≤ 7 ∧ t = nI j := by
  obtain ⟨j, hj, rfl⟩ := nI_of h.1
  refine ⟨j, ?_, rfl⟩
  have := h.2
  by_cases hl : j ≤ 7
  · exact hl
  · exact absurd (show nI 7 < nI j from nI_lt (by omega) hj) this
theorem CM.at {k' : Nat} (h : CM iv av (k, s, P, O, oc) cy hi) (hk : k' < 2 ^ 20) : CM (upd iv 9 (nI k')) av (k', s, P, O, oc) cy hi := by
  obtain ⟨h1, h2, h3, h4, h5, h6, h7⟩ := h
  exact ⟨⟨upd_eq', hk⟩, h2, h3, h4, h5, h6, h7⟩
theorem xf9 {y : Int32} : XF iv av (upd iv 9 y) av := ⟨fun q a => upd_ne' (by omega), fun _ _ => rfl⟩
theorem c_goto {k' : Nat} (hD : 1 ≤ D) (h : CM iv av (k, s, P, O, oc) cy hi) (hk : k' < 2 ^ 20) (hc : cy + 2 < 2 ^ 20) : XF iv av (upd (upd iv 7 (iv 7 + 2)) 9 (nI k')) av ∧ CM (upd (upd iv 7 (iv 7 + 2)) 9 (nI k')) av (k', s, P, O, oc) (cy + 2) hi ∧ xm D 65 [.ref 23, .int (nI k')] (xs iv av lv) (none, xs (upd (upd iv 7 (iv 7 + 2)) 9 (nI k')) av lv) := by
  obtain ⟨d, rfl⟩ : ∃ d, D = d + 1 := ⟨D - 1, by omega⟩
  obtain ⟨h1, h2, h3, h4, h5, ⟨h6, h6'⟩, h7⟩ := h
  refine ⟨⟨fun q a => by rw [upd_ne' (by omega), upd_ne' (by omega)], fun _ _ => rfl⟩, ⟨⟨upd_eq', hk⟩, h2, h3, h4, h5, ⟨?_, hc⟩, h7⟩, xm_of (nL := 2) rfl rfl xb_65_0⟩
  show iv 7 + 2 = nI (cy + 2)
  rw [h6, show (2 : Int32) = nI 2 from rfl, nI_add]
theorem CM.mx (h : CM iv av (k, s, P, O, oc) cy hi) : max hi s.length = hi := Nat.max_eq_left h.2.2.2.2.2.2.2.2
end CMS
