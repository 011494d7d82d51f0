/-! Runs of structured code: they come to their end, or to a trap, within TIME and DEPTH. -/
def ARR (C : List In) (S : MQt) (cy hi Z : Nat) (Q : MQt → Prop) : Prop := ∃ n S' cy' hi', GO C 199 n S cy hi S' cy' hi' ∧ cy' ≤ cy + Z ∧ n + cy ≤ cy' ∧ Q S'
def TRD (C : List In) (S : MQt) (cy hi Z : Nat) : Prop := ∃ n S' r z cy' hi', GO C 199 n S cy hi S' cy' hi' ∧ FIN C S' r z ∧ cy' ≤ cy + Z ∧ n + cy ≤ cy'
def RUNS (C : List In) (S : MQt) (cy hi Z : Nat) (Q : MQt → Prop) : Prop := ARR C S cy hi Z Q ∨ TRD C S cy hi Z
section SCR
variable {C : List In} {S : MQt} {cy hi Z Z1 Z2 : Nat} {Q Q2 : MQt → Prop}
theorem RUNS.mono (h : RUNS C S cy hi Z Q) (hz : Z ≤ Z1) : RUNS C S cy hi Z1 Q := by
  rcases h with ⟨n, S', cy', hi', a, b, c, d⟩ | ⟨n, S', r, z, cy', hi', a, b, c, d⟩
  · exact Or.inl ⟨n, S', cy', hi', a, by omega, c, d⟩
  · exact Or.inr ⟨n, S', r, z, cy', hi', a, b, by omega, d⟩
theorem RUNS.nil (h : Q S) : RUNS C S cy hi Z Q := Or.inl ⟨0, S, cy, hi, ⟨rfl, rfl, rfl⟩, by omega, by omega, h⟩
theorem RUNS.bind (h : RUNS C S cy hi Z1 Q) (g : ∀ S1 cy1 hi1, Q S1 → RUNS C S1 cy1 hi1 Z2 Q2) (hz : Z1 + Z2 ≤ Z) : RUNS C S cy hi Z Q2 := by
  rcases h with ⟨n, S1, cy1, hi1, a, b, c, d⟩ | ⟨n, S', r, z, cy', hi', a, b, c, d⟩
  · rcases g S1 cy1 hi1 d with ⟨m, S2, cy2, hi2, e, f, g1, k⟩ | ⟨m, S2, r, z, cy2, hi2, e, f, g1, k⟩
    · exact Or.inl ⟨n + m, S2, cy2, hi2, a.tr e, by omega, by omega, k⟩
    · exact Or.inr ⟨n + m, S2, r, z, cy2, hi2, a.tr e, f, by omega, by omega⟩
  · exact Or.inr ⟨n, S', r, z, cy', hi', a, b, by omega, d⟩
theorem RUNS.one {o a y : Nat} {S1 : MQt} (h1 : C[S.1]? = some (o, a)) (h2 : o < 19) (h3 : trp o a S.2.1 = 0) (h4 : exi o a S = some (y, S1)) (h5 : S1.2.1.length ≤ 199) (h6 : o = 1 ∨ o = 2 → a < 6) (h8 : o = 18 → ∃ k, S.2.1.head? = some (nI k) ∧ k < 2 ^ 20) : RUNS C S cy hi y (fun S' => S' = S1) :=
  Or.inl ⟨1, S1, _, _, GO.one h1 h2 h3 h4 h5 h6 h8, Nat.le_refl _, by have := exi_y h2 h4; omega, rfl⟩
theorem trp_0 {o a : Nat} {s : List Int32} (h : o ≠ 8 ∧ o ≠ 3 ∧ o ≠ 4 ∧ o ≠ 16) : trp o a s = 0 := by
  unfold trp
  rw [if_neg h.1, if_neg h.2.1, if_neg h.2.2.1, if_neg h.2.2.2]
/-- an instruction of straight code does what its height says, or it traps -/
theorem st1 {o a h' k oc : Nat} {w s : List Int32} {P O : Nat → Int32} (ho : o ≤ 12 ∨ o = 16) (hh : nh o w.length = some h') : ∃ w1 P1 O1 oc1, w1.length = h' ∧ exi o a (k, w ++ s, P, O, oc) = some (cs1 o, k + 1, w1 ++ s, P1, O1, oc1) := by
  unfold nh at hh
  by_cases h01 : o = 0 ∨ o = 1
  · rw [if_pos h01] at hh
    cases hh
    rcases h01 with rfl | rfl
    · exact ⟨nI a :: w, P, O, oc, rfl, rfl⟩
    · exact ⟨P a :: w, P, O, oc, rfl, rfl⟩
  rw [if_neg h01] at hh
  have hw : 1 ≤ w.length := by
    by_cases hw : 1 ≤ w.length
    · exact hw
    · rw [if_neg hw] at hh
      repeat' split at hh
      all_goals first | omega | cases hh
  cases w with
  | nil => simp at hw
  | cons t r =>
    have ex : exi o a (k, t :: r ++ s, P, O, oc) = (match (t :: (r ++ s) : List Int32) with
      | [] => none
      | t :: r =>
        if o = 2 then some (2, k + 1, r, upd P a t, O, oc)
        else if o = 3 then some (4, k + 1, P (6 + t.toNatClampNeg) :: r, P, O, oc)
        else if o = 11 then some (1, k + 1, -t :: r, P, O, oc)
        else if o = 12 then some (6, k + 1, r, P, (if oc < 32 then upd O oc t else O), oc + 1)
        else if o = 13 then (if t = 0 then some (3, a, r, P, O, oc) else some (1, k + 1, r, P, O, oc))
        else if o = 15 then (if t = 0 then some (3, a, r, P, O, oc) else some (1, k + 1, (t - 1) :: r, P, O, oc))
        else if o = 16 then some (2, k + 1, (if t < 0 then 0 else t) :: r, P, O, oc)
        else if o = 18 then some (3, t.toNatClampNeg, r, P, O, oc)
        else match r with
          | [] => none
          | v :: q =>
            if o = 4 then some (4, k + 1, q, upd P (6 + v.toNatClampNeg) t, O, oc)
            else if 5 ≤ o ∧ o ≤ 10 then some (cs1 o, k + 1, opr o v t :: q, P, O, oc) else none) := by
      unfold exi
      dsimp only
      rw [if_neg (by omega), if_neg (by omega), if_neg (by omega), if_neg (by omega)]
      rfl
    rw [ex]
    dsimp only
    by_cases o2 : o = 2
    · subst o2
      rw [if_neg (by omega), if_pos (by omega), if_pos hw] at hh
      cases hh
      exact ⟨r, _, _, _, rfl, rfl⟩
    rw [if_neg o2]
    by_cases o3 : o = 3
    · subst o3
      rw [if_pos (by omega), if_pos hw] at hh
      cases hh
      exact ⟨P (6 + t.toNatClampNeg) :: r, _, _, _, rfl, rfl⟩
    rw [if_neg o3]
    by_cases o11 : o = 11
    · subst o11
      rw [if_pos (by omega), if_pos hw] at hh
      cases hh
      exact ⟨(-t) :: r, _, _, _, rfl, rfl⟩
    rw [if_neg o11]
    by_cases o12 : o = 12
    · subst o12
      rw [if_neg (by omega), if_pos (by omega), if_pos hw] at hh
      cases hh
      exact ⟨r, _, _, _, rfl, rfl⟩
    rw [if_neg o12, if_neg (by omega), if_neg (by omega)]
    by_cases o16 : o = 16
    · subst o16
      rw [if_pos (by omega), if_pos hw] at hh
      cases hh
      exact ⟨(if t < 0 then 0 else t) :: r, _, _, _, rfl, rfl⟩
    rw [if_neg o16, if_neg (by omega)]
    rw [if_neg (by omega), if_neg (by omega)] at hh
    have hr : 1 ≤ r.length := by
      by_cases hr : 2 ≤ (t :: r).length
      · rw [List.length_cons] at hr; omega
      · rw [if_neg hr] at hh
        repeat' split at hh
        all_goals first | omega | cases hh
    cases r with
    | nil => simp at hr
    | cons v q =>
      show ∃ (w1 : List Int32) (P1 O1 : Nat → Int32) (oc1 : Nat), w1.length = h' ∧ (if o = 4 then some (4, k + 1, q ++ s, upd P (6 + v.toNatClampNeg) t, O, oc) else if 5 ≤ o ∧ o ≤ 10 then some (cs1 o, k + 1, opr o v t :: (q ++ s), P, O, oc) else none) = _
      have h2 : 2 ≤ (t :: v :: q).length := by simp
      by_cases o4 : o = 4
      · subst o4
        rw [if_pos rfl, if_pos h2] at hh
        cases hh
        exact ⟨q, _, _, _, rfl, rfl⟩
      rw [if_neg o4] at hh ⊢
      rw [if_pos (by omega), if_pos h2] at hh
      rw [if_pos (by omega)]
      cases hh
      exact ⟨opr o v t :: q, _, _, _, rfl, rfl⟩
/-- straight code -/
theorem sl_run {s : List Int32} : ∀ (c : List In) (s0 : Nat) (w : List Int32) (h' : Nat) (P O : Nat → Int32) (oc cy hi : Nat), (∀ q ∈ c, (q.1 ≤ 12 ∨ q.1 = 16) ∧ (q.1 = 1 ∨ q.1 = 2 → q.2 < 6)) → ht c w.length = some h' → AT C s0 c → s.length + mh c w.length w.length ≤ 199 → RUNS C (s0, w ++ s, P, O, oc) cy hi (cst c) (fun S' => S'.1 = s0 + c.length ∧ ∃ w', w'.length = h' ∧ S'.2.1 = w' ++ s)
  | [], s0, w, h', P, O, oc, cy, hi, _, hh, _, _ => by
    cases hh
    exact RUNS.nil ⟨rfl, w, rfl, rfl⟩
  | q :: c, s0, w, h', P, O, oc, cy, hi, hc, hh, hA, hb => by
    obtain ⟨k, hk, hh2⟩ := Option.bind_eq_some_iff.mp hh
    obtain ⟨o, a⟩ := q
    obtain ⟨ho, ha⟩ := hc (o, a) (List.mem_cons_self ..)
    dsimp only at ho ha hk
    have hC : C[s0]? = some (o, a) := hA.h
    have hb : s.length + mh c ((nh o w.length).getD 0) (max w.length ((nh o w.length).getD 0)) ≤ 199 := hb
    rw [hk] at hb
    dsimp only [Option.getD_some] at hb
    have hm1 := mh_ge c k (max w.length k)
    have hm2 : mh c k k ≤ mh c k (max w.length k) := by
      rw [mh_max]; omega
    by_cases ht : trp o a (w ++ s) = 0
    · obtain ⟨w1, P1, O1, oc1, e1, e2⟩ := st1 (a := a) (k := s0) (oc := oc) (s := s) (P := P) (O := O) ho hk
      refine RUNS.bind (Z1 := cs1 o) (Z2 := cst c) (RUNS.one hC (by omega) ht e2 ?_ ha (fun q => by omega)) (fun S1 cy1 hi1 hS => ?_) (by rw [cst_cons]; exact Nat.le_refl _)
      · show (w1 ++ s).length ≤ 199
        rw [List.length_append, e1]
        omega
      · subst hS
        have := sl_run (s := s) c (s0 + 1) w1 h' P1 O1 oc1 cy1 hi1 (fun q hq => hc q (List.mem_cons_of_mem _ hq)) (by rw [e1]; exact hh2) hA.t (by rw [e1]; omega)
        rw [List.length_cons, show s0 + (c.length + 1) = s0 + 1 + c.length by omega]
        exact this
    · exact Or.inr ⟨0, _, trp o a (w ++ s), cs1 o, cy, hi, ⟨rfl, rfl, rfl⟩, ⟨o, a, hC, Or.inr ⟨by omega, ht⟩, rfl, rfl⟩, by omega, by omega⟩
theorem sl_run0 {c : List In} {e s0 oc : Nat} {s : List Int32} {P O : Nat → Int32} (h : SL c e) (hA : AT C s0 c) (hb : s.length + mh c 0 0 ≤ 199) : RUNS C (s0, s, P, O, oc) cy hi (cst c) (fun S' => S'.1 = s0 + c.length ∧ ∃ w', w'.length = e ∧ S'.2.1 = w' ++ s) :=
  sl_run c s0 [] e P O oc cy hi (fun q hq => ⟨(h.1 q hq).1, (h.1 q hq).2.2⟩) (by have := h.2 0; rw [Nat.zero_add] at this; exact this) hA hb
/-- a piece of code from s0 on -/
def RP (C : List In) (f t d : Nat → Nat) (G : Nat → Prop) : QP := fun c _ T D => ∀ s0, AT C s0 (LC f s0 c) → (∀ q ∈ c, q.1 = 17 → G q.2) → ∀ s P O oc cy hi, s.length + D d ≤ 199 → s0 + c.length < 2 ^ 19 → RUNS C (s0, s, P, O, oc) cy hi (T t) (fun S' => S'.1 = s0 + c.length ∧ S'.2.1 = s)
/-- a procedure that is called, and comes back -/
def CLD (C : List In) (f t d : Nat → Nat) (p : Nat) : Prop := ∀ s P O oc cy hi kr, kr < 2 ^ 20 → s.length + 1 + d p ≤ 199 → RUNS C (f p, nI kr :: s, P, O, oc) cy hi (t p) (fun S' => S'.1 = kr ∧ S'.2.1 = s)
variable {f t d : Nat → Nat} {G : Nat → Prop}
theorem rp_if {v b mb : List In} {T D : (Nat → Nat) → Nat} (hv : SL v 1) (hb : RP C f t d G b mb T D) : RP C f t d G (v ++ [(13, v.length + 1 + b.length)] ++ sh (v.length + 1) b) (v ++ [(30, 0)] ++ mb ++ [(32, 0)]) (fun t => cst v + max 3 (1 + T t)) (fun d => max (mh v 0 0) (D d)) := by
  intro s0 hA hG s P O oc cy hi hB hl
  rw [LC_app, LC_app, LC_sl hv, LC_j (Or.inl rfl), LC_sh] at hA
  dsimp only at hB
  simp only [List.length_append, List.length_cons, List.length_nil, sh_len] at hl ⊢
  have A1 : C[s0 + v.length]? = some (13, v.length + 1 + b.length + s0) := hA.l.r.h
  have A2 : AT C (s0 + v.length + 1) (LC f (s0 + v.length + 1) b) := by
    have := hA.r
    rw [List.length_append] at this
    rw [show v.length + 1 + s0 = s0 + v.length + 1 by omega] at this
    exact this
  refine RUNS.bind (Z2 := max 3 (1 + T t)) (sl_run0 (s := s) hv hA.l.l (by omega)) (fun S1 cy1 hi1 hS => ?_) (Nat.le_refl _)
  obtain ⟨k1, s1, P1, O1, oc1⟩ := S1
  obtain ⟨hk, w, hw, hs⟩ := hS
  have hk : k1 = s0 + v.length := hk
  have hs : s1 = w ++ s := hs
  subst hk hs
  obtain ⟨x, rfl⟩ : ∃ x, w = [x] := List.length_eq_one_iff.mp hw
  by_cases x0 : x = 0
  · refine RUNS.mono (Z := 3) (RUNS.bind (Z1 := 3) (Z2 := 0) (RUNS.one (S1 := (v.length + 1 + b.length + s0, s, P1, O1, oc1)) A1 (by decide) (trp_0 (by decide)) ?_ (by show s.length ≤ 199; omega) (fun q => by omega) (fun q => by omega)) (fun S2 cy2 hi2 hS => ?_) (Nat.le_refl _)) (by omega)
    · show (if x = 0 then _ else _) = _
      rw [if_pos x0]
      rfl
    · subst hS
      exact RUNS.nil ⟨by show v.length + 1 + b.length + s0 = _; omega, rfl⟩
  · refine RUNS.bind (Z1 := 1) (Z2 := T t) (RUNS.one (S1 := (s0 + v.length + 1, s, P1, O1, oc1)) A1 (by decide) (trp_0 (by decide)) ?_ (by show s.length ≤ 199; omega) (fun q => by omega) (fun q => by omega)) (fun S2 cy2 hi2 hS => ?_) (by omega)
    · show (if x = 0 then _ else _) = _
      rw [if_neg x0]
      rfl
    · subst hS
      have := hb (s0 + v.length + 1) A2 (fun q hq e => hG q (List.mem_append_right _ (mem_sh17 hq e)) e) s P1 O1 oc1 cy2 hi2 (by omega) (by omega)
      rw [show s0 + (v.length + (0 + 1) + b.length) = s0 + v.length + 1 + b.length by omega]
      exact this
theorem rp_ite {v b mb y my : List In} {T D T2 D2 : (Nat → Nat) → Nat} (hv : SL v 1) (hb : RP C f t d G b mb T D) (hy : RP C f t d G y my T2 D2) : RP C f t d G (v ++ [(13, v.length + 2 + b.length)] ++ sh (v.length + 1) b ++ [(14, v.length + 2 + b.length + y.length)] ++ sh (v.length + 2 + b.length) y) (v ++ [(30, 0)] ++ mb ++ [(31, 0)] ++ my ++ [(32, 0)]) (fun x => cst v + max (3 + T x) (3 + T2 x)) (fun d => max (mh v 0 0) (max (D d) (D2 d))) := by
  intro s0 hA hG s P O oc cy hi hB hl
  rw [LC_app, LC_app, LC_app, LC_app, LC_sl hv, LC_j (Or.inl rfl), LC_j (Or.inr (Or.inl rfl)), LC_sh, LC_sh] at hA
  dsimp only at hB
  simp only [List.length_append, List.length_cons, List.length_nil, sh_len] at hl ⊢
  have A1 : C[s0 + v.length]? = some (13, v.length + 2 + b.length + s0) := hA.l.l.l.r.h
  have A2 : AT C (s0 + v.length + 1) (LC f (s0 + v.length + 1) b) := by
    have := hA.l.l.r
    rw [List.length_append] at this
    rw [show v.length + 1 + s0 = s0 + v.length + 1 by omega] at this
    exact this
  have A3 : C[s0 + v.length + 1 + b.length]? = some (14, v.length + 2 + b.length + y.length + s0) := by
    have := hA.l.r.h
    rw [List.length_append, List.length_append, LC_len] at this
    rw [show s0 + v.length + 1 + b.length = s0 + (v.length + 1 + b.length) by omega]
    exact this
  have A4 : AT C (s0 + v.length + 2 + b.length) (LC f (s0 + v.length + 2 + b.length) y) := by
    have := hA.r
    rw [List.length_append, List.length_append, List.length_append, LC_len] at this
    rw [show v.length + 2 + b.length + s0 = s0 + v.length + 2 + b.length by omega] at this
    rw [show s0 + v.length + 2 + b.length = s0 + (v.length + 1 + b.length + 1) by omega] at this ⊢
    exact this
  refine RUNS.bind (Z2 := max (3 + T t) (3 + T2 t)) (sl_run0 (s := s) hv hA.l.l.l.l (by omega)) (fun S1 cy1 hi1 hS => ?_) (Nat.le_refl _)
  obtain ⟨k1, s1, P1, O1, oc1⟩ := S1
  obtain ⟨hk, w, hw, hs⟩ := hS
  have hk : k1 = s0 + v.length := hk
  have hs : s1 = w ++ s := hs
  subst hk hs
  obtain ⟨x, rfl⟩ : ∃ x, w = [x] := List.length_eq_one_iff.mp hw
  by_cases x0 : x = 0
  · refine RUNS.bind (Z1 := 3) (Z2 := T2 t) (RUNS.one (S1 := (v.length + 2 + b.length + s0, s, P1, O1, oc1)) A1 (by decide) (trp_0 (by decide)) ?_ (by show s.length ≤ 199; omega) (fun q => by omega) (fun q => by omega)) (fun S2 cy2 hi2 hS => ?_) (by omega)
    · show (if x = 0 then _ else _) = _
      rw [if_pos x0]
      rfl
    · subst hS
      have := hy (s0 + v.length + 2 + b.length) A4 (fun q hq e => hG q (List.mem_append_right _ (mem_sh17 hq e)) e) s P1 O1 oc1 cy2 hi2 (by omega) (by omega)
      rw [show v.length + 2 + b.length + s0 = s0 + v.length + 2 + b.length by omega]
      rw [show s0 + (v.length + (0 + 1) + b.length + (0 + 1) + y.length) = s0 + v.length + 2 + b.length + y.length by omega]
      exact this
  · refine RUNS.bind (Z1 := 1) (Z2 := T t + 2) (RUNS.one (S1 := (s0 + v.length + 1, s, P1, O1, oc1)) A1 (by decide) (trp_0 (by decide)) ?_ (by show s.length ≤ 199; omega) (fun q => by omega) (fun q => by omega)) (fun S2 cy2 hi2 hS => ?_) (by omega)
    · show (if x = 0 then _ else _) = _
      rw [if_neg x0]
      rfl
    · subst hS
      refine RUNS.bind (Z1 := T t) (Z2 := 2) (hb (s0 + v.length + 1) A2 (fun q hq e => hG q (List.mem_append_left _ (List.mem_append_left _ (List.mem_append_right _ (mem_sh17 hq e)))) e) s P1 O1 oc1 cy2 hi2 (by omega) (by omega)) (fun S3 cy3 hi3 hS3 => ?_) (Nat.le_refl _)
      obtain ⟨k3, s3, P3, O3, oc3⟩ := S3
      obtain ⟨h3, h4⟩ := hS3
      have h3 : k3 = s0 + v.length + 1 + b.length := h3
      have h4 : s3 = s := h4
      subst h3 h4
      dsimp only at hB
      refine RUNS.bind (Z1 := 2) (Z2 := 0) (RUNS.one (S1 := (v.length + 2 + b.length + y.length + s0, s3, P3, O3, oc3)) A3 (by decide) (trp_0 (by decide)) rfl (by show s3.length ≤ 199; omega) (fun q => by omega) (fun q => by omega)) (fun S4 cy4 hi4 hS4 => ?_) (Nat.le_refl _)
      subst hS4
      exact RUNS.nil ⟨by show v.length + 2 + b.length + y.length + s0 = _; omega, rfl⟩
theorem rp_loop {v b mb : List In} {op k : Nat} {T D : (Nat → Nat) → Nat} (hv : SL (v ++ [(op, k)]) 1) (ho : op = 0 ∨ op = 16) (hk : k ≤ 99) (hb : RP C f t d G b mb T D) : RP C f t d G (v ++ [(op, k), (15, v.length + 3 + b.length)] ++ sh (v.length + 2) b ++ [(14, v.length + 1)]) (v ++ [(op, k), (33, k)] ++ mb ++ [(34, 0)]) (fun t => cst (v ++ [(op, k)]) + (k * (3 + T t) + 3)) (fun d => max (mh (v ++ [(op, k)]) 0 0) (if k = 0 then 0 else 1 + D d)) := by
  intro s0 hA hG s P O oc cy hi hB hl
  have ec : v ++ [(op, k), (15, v.length + 3 + b.length)] ++ sh (v.length + 2) b ++ [(14, v.length + 1)] = (v ++ [(op, k)]) ++ [(15, v.length + 3 + b.length)] ++ sh (v.length + 2) b ++ [(14, v.length + 1)] := by simp only [List.append_assoc, List.cons_append, List.nil_append]
  rw [ec, LC_app, LC_app, LC_app, LC_sl hv, LC_j (Or.inr (Or.inr rfl)), LC_j (Or.inr (Or.inl rfl)), LC_sh] at hA
  dsimp only at hB
  have hvl : (v ++ [(op, k)]).length = v.length + 1 := by rw [List.length_append]; rfl
  simp only [List.length_append, List.length_cons, List.length_nil, sh_len] at hl
  have hlen : (v ++ [(op, k), (15, v.length + 3 + b.length)] ++ sh (v.length + 2) b ++ [(14, v.length + 1)]).length = v.length + 3 + b.length := by
    simp only [List.length_append, List.length_cons, List.length_nil, sh_len]
    omega
  rw [hlen]
  have A1 : C[s0 + v.length + 1]? = some (15, v.length + 3 + b.length + s0) := by
    have := hA.l.l.r.h
    rw [hvl] at this
    exact this
  have A2 : AT C (s0 + v.length + 2) (LC f (s0 + v.length + 2) b) := by
    have := hA.l.r
    rw [List.length_append, hvl] at this
    rw [show v.length + 2 + s0 = s0 + v.length + 2 by omega] at this
    exact this
  have A3 : C[s0 + v.length + 2 + b.length]? = some (14, v.length + 1 + s0) := by
    have := hA.r.h
    rw [List.length_append, List.length_append, hvl, LC_len] at this
    rw [show s0 + v.length + 2 + b.length = s0 + (v.length + 1 + 1 + b.length) by omega]
    exact this
  have mle := mh_ge (v ++ [(op, k)]) 0 0
  -- the rounds
  have rounds : ∀ j, j ≤ k → ∀ P O oc cy hi, RUNS C (s0 + v.length + 1, nI j :: s, P, O, oc) cy hi (j * (3 + T t) + 3) (fun S' => S'.1 = s0 + (v.length + 3 + b.length) ∧ S'.2.1 = s) := by
    intro j
    induction j with
    | zero =>
      intro _ P O oc cy hi
      refine RUNS.bind (Z1 := 3) (Z2 := 0) (RUNS.one (S1 := (v.length + 3 + b.length + s0, s, P, O, oc)) A1 (by decide) (trp_0 (by decide)) rfl (by show s.length ≤ 199; omega) (fun q => by omega) (fun q => by omega)) (fun S4 cy4 hi4 hS4 => ?_) (by omega)
      subst hS4
      exact RUNS.nil ⟨by show v.length + 3 + b.length + s0 = _; omega, rfl⟩
    | succ j ih =>
      intro hj P O oc cy hi
      rw [if_neg (by omega)] at hB
      have hn0 : ¬ nI (j + 1) = 0 := nI_ne0 (by omega) (by omega)
      refine RUNS.bind (Z1 := 1) (Z2 := T t + 2 + (j * (3 + T t) + 3)) (RUNS.one (S1 := (s0 + v.length + 2, nI j :: s, P, O, oc)) A1 (by decide) (trp_0 (by decide)) ?_ (by show s.length + 1 ≤ 199; omega) (fun q => by omega) (fun q => by omega)) (fun S2 cy2 hi2 hS => ?_) (by rw [Nat.succ_mul]; omega)
      · show (if nI (j + 1) = 0 then _ else some (1, s0 + v.length + 1 + 1, (nI (j + 1) - 1) :: s, P, O, oc)) = _
        rw [if_neg hn0, nI_pred]
      · subst hS
        refine RUNS.bind (Z1 := T t) (Z2 := 2 + (j * (3 + T t) + 3)) (hb (s0 + v.length + 2) A2 (fun q hq e => hG q (List.mem_append_left _ (List.mem_append_right _ (mem_sh17 hq e))) e) (nI j :: s) P O oc cy2 hi2 (by rw [List.length_cons]; omega) (by omega)) (fun S3 cy3 hi3 hS3 => ?_) (by omega)
        obtain ⟨k3, s3, P3, O3, oc3⟩ := S3
        obtain ⟨h3, h4⟩ := hS3
        have h3 : k3 = s0 + v.length + 2 + b.length := h3
        have h4 : s3 = nI j :: s := h4
        subst h3 h4
        refine RUNS.bind (Z1 := 2) (Z2 := j * (3 + T t) + 3) (RUNS.one (S1 := (v.length + 1 + s0, nI j :: s, P3, O3, oc3)) A3 (by decide) (trp_0 (by decide)) rfl (by show s.length + 1 ≤ 199; omega) (fun q => by omega) (fun q => by omega)) (fun S4 cy4 hi4 hS4 => ?_) (Nat.le_refl _)
        subst hS4
        rw [show v.length + 1 + s0 = s0 + v.length + 1 by omega]
        exact ih (by omega) P3 O3 oc3 cy4 hi4
  -- the value, at most k
  have hht := hv.2 0
  rw [ht_app] at hht
  obtain ⟨h1, hh1, hh2⟩ := Option.bind_eq_some_iff.mp hht
  obtain ⟨h2, hh3, hh4⟩ := Option.bind_eq_some_iff.mp hh2
  cases hh4
  dsimp only at hh3
  have hcv : cst (v ++ [(op, k)]) = cst v + cs1 op := by rw [cst_app]; rfl
  have mv : ∀ (v : List In) h m, mh v h m ≤ mh (v ++ [(op, k)]) h m := by
    intro v
    induction v with
    | nil =>
      intro h m
      show m ≤ max m _
      omega
    | cons x v ih =>
      intro h m
      exact ih _ _
  have A0 : C[s0 + v.length]? = some (op, k) := hA.l.l.l.r.h
  rw [hcv]
  refine RUNS.bind (Z1 := cst v) (Z2 := cs1 op + (k * (3 + T t) + 3)) (sl_run (s := s) v s0 [] h1 P O oc cy hi (fun q hq => ⟨(hv.1 q (List.mem_append_left _ hq)).1, (hv.1 q (List.mem_append_left _ hq)).2.2⟩) hh1 hA.l.l.l.l (by have := mv v 0 0; show s.length + mh v 0 0 ≤ 199; omega)) (fun S1 cy1 hi1 hS => ?_) (by show cst v + (cs1 op + (k * (3 + T t) + 3)) ≤ cst v + cs1 op + (k * (3 + T t) + 3); omega)
  obtain ⟨k1, s1, P1, O1, oc1⟩ := S1
  obtain ⟨hk1, w, hw, hs⟩ := hS
  have hk1 : k1 = s0 + v.length := hk1
  have hs : s1 = w ++ s := hs
  subst hk1 hs
  have hmm : (1 : Nat) ≤ mh (v ++ [(op, k)]) 0 0 := by
    have e1 : ∀ (v : List In) h m z, ht v h = some h1 → mh (v ++ [(op, k)]) h m = z → 1 ≤ z := by
      intro v
      induction v with
      | nil =>
        intro h m z hz e
        cases hz
        rw [← e]
        show 1 ≤ max m ((nh op h1).getD 0)
        rw [hh3]
        show 1 ≤ max m (0 + 1)
        omega
      | cons x v ih =>
        intro h m z hz e
        obtain ⟨y, hy, hy2⟩ := Option.bind_eq_some_iff.mp hz
        refine ih y (max m y) z hy2 ?_
        rw [← e]
        show _ = mh (v ++ [(op, k)]) ((nh x.1 h).getD 0) (max m ((nh x.1 h).getD 0))
        rw [hy]
        rfl
    exact e1 v 0 0 _ hh1 rfl
  rcases ho with rfl | rfl
  · have e0 : h1 = 0 := by
      unfold nh at hh3
      rw [if_pos (Or.inl rfl)] at hh3
      cases hh3
      rfl
    subst e0
    have : w = [] := List.length_eq_zero_iff.mp hw
    subst this
    refine RUNS.bind (Z1 := 1) (Z2 := k * (3 + T t) + 3) (RUNS.one (S1 := (s0 + v.length + 1, nI k :: s, P1, O1, oc1)) A0 (by decide) (trp_0 (by decide)) rfl (by show s.length + 1 ≤ 199; omega) (fun q => by omega) (fun q => by omega)) (fun S2 cy2 hi2 hS => ?_) (Nat.le_refl _)
    subst hS
    exact rounds k (Nat.le_refl _) _ _ _ _ _
  · have e1 : h1 = 1 := by
      unfold nh at hh3
      rw [if_neg (by decide), if_pos (by decide)] at hh3
      split at hh3
      · cases hh3; rfl
      · cases hh3
    subst e1
    obtain ⟨x, rfl⟩ : ∃ x, w = [x] := List.length_eq_one_iff.mp hw
    by_cases htr : nI k < x
    · exact Or.inr ⟨0, _, trp 16 k (x :: s), cs1 16, cy1, hi1, ⟨rfl, rfl, rfl⟩, ⟨16, k, A0, Or.inr ⟨by decide, by
        show trp 16 k (x :: s) ≠ 0
        have : trp 16 k (x :: s) = if nI k < x then 3 else 0 := rfl
        rw [this, if_pos htr]
        decide⟩, rfl, rfl⟩, by omega, by omega⟩
    · obtain ⟨j, hj, ej⟩ : ∃ j, j ≤ k ∧ (if x < 0 then (0 : Int32) else x) = nI j := by
        by_cases hx : x < 0
        · exact ⟨0, Nat.zero_le _, by rw [if_pos hx]; rfl⟩
        · obtain ⟨j, hj, rfl⟩ := nI_of hx
          refine ⟨j, ?_, by rw [if_neg hx]⟩
          by_cases hjk : j ≤ k
          · exact hjk
          · exact absurd (nI_lt (by omega) hj) htr
      refine RUNS.bind (Z1 := 2) (Z2 := k * (3 + T t) + 3) (RUNS.one (S1 := (s0 + v.length + 1, nI j :: s, P1, O1, oc1)) A0 (by decide) ?_ ?_ (by show s.length + 1 ≤ 199; omega) (fun q => by omega) (fun q => by omega)) (fun S2 cy2 hi2 hS => ?_) (Nat.le_refl _)
      · show (if nI k < x then 3 else 0) = 0
        rw [if_neg htr]
      · show some (2, s0 + v.length + 1, (if x < 0 then 0 else x) :: s, P1, O1, oc1) = _
        rw [ej]
      · subst hS
        refine (rounds j hj _ _ _ _ _).mono ?_
        have := Nat.mul_le_mul hj (Nat.le_refl (3 + T t))
        omega
theorem rp_sc (hcl : ∀ p, p < 4 → G p → CLD C f t d p) {c m : List In} {T D : (Nat → Nat) → Nat} (h : SC c m T D) : RP C f t d G c m T D := by
  refine h (RP C f t d G) ⟨?_, ?_, ?_, fun v b mb T D hv hb => rp_if hv hb, fun v b mb T D y my T2 D2 hv hb hy => rp_ite hv hb hy, fun v op k b mb T D hv ho hk hb => rp_loop hv ho hk hb, ?_⟩
  · intro s0 hA hG s P O oc cy hi hB hl
    exact RUNS.nil ⟨rfl, rfl⟩
  · intro c1 m1 T1 D1 c2 m2 T2 D2 h1 h2 s0 hA hG s P O oc cy hi hB hl
    rw [LC_app, LC_sh] at hA
    dsimp only at hB
    simp only [List.length_append, sh_len] at hl ⊢
    refine RUNS.bind (Z1 := T1 t) (Z2 := T2 t) (h1 s0 hA.l (fun q hq e => hG q (List.mem_append_left _ hq) e) s P O oc cy hi (by omega) (by omega)) (fun S1 cy1 hi1 hS => ?_) (Nat.le_refl _)
    obtain ⟨k1, s1, P1, O1, oc1⟩ := S1
    obtain ⟨hk, hs⟩ := hS
    have hk : k1 = s0 + c1.length := hk
    have hs : s1 = s := hs
    subst hk hs
    dsimp only at hB
    have hA2 := hA.r
    rw [LC_len, show c1.length + s0 = s0 + c1.length by omega] at hA2
    have := h2 (s0 + c1.length) hA2 (fun q hq e => hG q (List.mem_append_right _ (mem_sh17 hq e)) e) s1 P1 O1 oc1 cy1 hi1 (by omega) (by omega)
    rw [← Nat.add_assoc]
    exact this
  · intro c hc s0 hA hG s P O oc cy hi hB hl
    rw [LC_sl hc] at hA
    refine RUNS.bind (Z1 := cst c) (Z2 := 0) (sl_run0 (s := s) hc hA hB) (fun S1 cy1 hi1 hS => ?_) (Nat.le_refl _)
    obtain ⟨k1, s1, P1, O1, oc1⟩ := S1
    obtain ⟨hk, w, hw, hs⟩ := hS
    have : w = [] := List.length_eq_zero_iff.mp hw
    subst this
    exact RUNS.nil ⟨hk, hs⟩
  · intro p hp s0 hA hG s P O oc cy hi hB hl
    rw [LC_c hp] at hA
    dsimp only at hB
    simp only [List.length_cons, List.length_nil] at hl
    refine RUNS.bind (Z1 := 4) (Z2 := t p) (RUNS.one (S1 := (f p, nI (s0 + 1) :: s, P, O, oc)) hA.h (by decide) (trp_0 (by decide)) rfl (by show s.length + 1 ≤ 199; omega) (fun q => by omega) (fun q => by omega)) (fun S1 cy1 hi1 hS => ?_) (Nat.le_refl _)
    subst hS
    exact hcl p hp (hG _ (List.mem_singleton.mpr rfl) rfl) s P O oc cy1 hi1 (s0 + 1) (by omega) (by omega)
end SCR
