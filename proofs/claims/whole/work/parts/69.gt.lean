/-! A run up to a program counter: the stack is empty there. -/
def xi_gx (cal : xi_F) (ct : xi_K) (i : Jvm.ClassFile.Instr) (v : Value) (pc : Nat) (L : xi_L) (st : List Value) (aw : xi_W) : Option xi_R := match i with
  | .ireturn => none
  | .return_ => none
  | i => xi_in cal ct i v pc L st aw
def xi_gt (cal : xi_F) (tb : List (Option xi_E)) (stop : Nat) : Nat → xi_K
  | 0 => fun _ _ _ _ => none
  | n + 1 => fun pc L st aw => match Nat.beq pc stop with
    | true => (match st with
      | [] => some (none, aw)
      | _ => none)
    | false => (match tb[pc]? with
      | some (some q) => xi_gx cal (xi_gt cal tb stop n) q.1 q.2.1 pc (xi_mk q.2.2 L) st aw
      | _ => none)
section XIGT
variable {p : Program} {l : Launch} {e : Env} {R : Room} {s : State} {m : MethodId} {args : Array Value} {below : List Frame} {meth : Method} {c : Code} {D : va_G} {ad : Nat → Nat} {ca : Nat → ClassId} {A : Nat → Prop} {Q : State → Prop} {x : xi_R} {ct : xi_K} {cal : xi_F} {N k pc : Nat} {L : xi_L} {st : List Value} {aw : xi_W} {H : Heap} {locs : List Loc} {ls : Array Slot}
theorem xi_sg {d : Nat} {i : Jvm.ClassFile.Instr} {v : Value} {bs : List Bool} (hC : CallFix p m c (mC k) (mL k) s args (mW k) (mO k)) (hK : va_K D vwCl (xi_tyL ca) s) (hZ : xi_Z ad A s) (hA : ∀ q : Nat, s.heap.size ≤ q → A q) (h1 : R.frames = d + 1) (h64 : R.locals = 64 * (d + 1)) (hcal : ∀ (k : Nat) (vs : List Value) (aw : xi_W) (y : xi_R), cal k vs aw = some y → xi_Con l d k vs aw y)
    (hct : ∀ (pc : Nat) (L : xi_L) (st : List Value) (aw : xi_W), ct pc L st aw = some x → xi_G p l e R s m args below meth c D ad ca A Q N (mL k) x pc L st aw)
    (hok : xi_ok k pc (i, v, bs)) (h : xi_gx cal ct i v pc L st aw = some x) : xi_G p l e R s m args below meth c D ad ca A Q N (mL k) x pc L st aw := by
  have hf1 : 1 ≤ R.frames := by omega
  have hf2 : 64 ≤ R.locals := by omega
  cases i with
  | ldc n =>
    have hg := hct _ _ _ _ h
    intro H locs ls hl hP hD hS hN
    have hg2 := hg H locs ls hl hP hD hS hN
    rw [List.map_cons, hok.1 ad] at hg2
    exact hok.2 p l e R s m args below meth c H locs _ ls _ hC hg2
  | iload j => exact xi_sd_ld hC hct hok h
  | lload j => exact xi_sd_ld hC hct hok h
  | aload j => exact xi_sd_ld hC hct hok h
  | istore j => exact xi_sd_s1 hC hct hok h
  | astore j => exact xi_sd_s1 hC hct hok h
  | lstore j => exact xi_sd_s2 hC hct hok h
  | iinc j z => exact xi_sd_ic hC hct hok h
  | ifCond cn z => exact xi_sd_i0 hC hct hok h
  | if_icmp cn z => exact xi_sd_i2 hC hct hok h
  | goto z =>
    obtain ⟨off, hd, ht⟩ := hok
    have hg := hct _ _ _ _ h
    exact fun H locs ls hl hP hD hS hN => lv_goto hC.1 hC.2.1 hd ht (hg H locs ls hl hP hD hS hN)
  | lookupswitch d ps => exact xi_sd_sw hC hct hok h
  | getfield ci => exact xi_sd_gf hC hK hct hok h
  | putfield ci => exact xi_sd_pf hC hK hct hok (fun hb => by cases hb) h
  | putstatic ci => exact xi_sd_pb hC hK hct hok h
  | getstatic r =>
    have hg := hct _ _ _ _ h
    exact fun H locs ls hl hP hD hS hN => hok p l e R s m args below meth c H locs _ ls _ ad A hC hZ hS (hg H locs ls hl hP hD hS hN)
  | iaload => exact xi_sd_al hC hK hZ hct (Or.inl ⟨rfl, hok⟩) h
  | baload => exact xi_sd_al hC hK hZ hct (Or.inr (Or.inl ⟨rfl, hok⟩)) h
  | caload => exact xi_sd_al hC hK hZ hct (Or.inr (Or.inr ⟨rfl, hok⟩)) h
  | laload => exact xi_sd_ll hC hK hct hok h
  | iastore => exact xi_sd_at hC hK hct (Or.inl ⟨rfl, hok⟩) h
  | bastore => exact xi_sd_at hC hK hct (Or.inr (Or.inl ⟨rfl, hok⟩)) h
  | castore => exact xi_sd_at hC hK hct (Or.inr (Or.inr ⟨rfl, hok⟩)) h
  | lastore => exact xi_sd_lt hC hK hct hok h
  | idiv => exact xi_sd_dv hC hct hok h
  | invokedynamic c =>
    match c, hok, h with
    | 0, hok, h => exact xi_sd_mm hC hf1 hf2 hct hok h
    | 1, hok, h => exact xi_sd_ml hC hf1 hf2 hct hok h
    | 2, hok, h => exact xi_sd_nl hC hf1 hf2 hct hok h
    | 3, hok, h => exact xi_sd_cy hC hf1 hf2 hK hct hok h
    | _ + 4, hok, h => exact xi_no (show (none : Option xi_R) = some x from h)
  | invokeinterface k' ci => exact xi_sd_iv hC hK hZ hA h1 h64 hcal hct hok h
  | invokestatic k' => exact xi_sd_is hC hK hZ hA h1 h64 hcal hct hok h
  | ireturn => exact xi_no (show (none : Option xi_R) = some x from h)
  | return_ => exact xi_no (show (none : Option xi_R) = some x from h)
  | _ => exact xi_sd_sop hC.1 hC.2.1 hct hok h
theorem xi_gt_ok {d stop : Nat} {tb : List (Option xi_E)} (hC : CallFix p m c (mC k) (mL k) s args (mW k) (mO k)) (hK : va_K D vwCl (xi_tyL ca) s) (hZ : xi_Z ad A s) (hA : ∀ q : Nat, s.heap.size ≤ q → A q) (h1 : R.frames = d + 1) (h64 : R.locals = 64 * (d + 1)) (hcal : ∀ (k : Nat) (vs : List Value) (aw : xi_W) (y : xi_R), cal k vs aw = some y → xi_Con l d k vs aw y)
    (hq : ∀ (H : Heap) (locs : List Loc) (ls : Array Slot), ls.size = mL k → x.2.length = N → va_P D vwCl (xi_rl ad ca x.2) H → va_D A (xi_rl ad ca x.2) → va_S A s.heap H locs → W p l e R s m args below meth c H locs 0 0 Q (F0 m stop ls []))
    (ht : ∀ (pc : Nat) (q : xi_E), tb[pc]? = some (some q) → xi_ok k pc q) : ∀ (n pc : Nat) (L : xi_L) (st : List Value) (aw : xi_W), xi_gt cal tb stop n pc L st aw = some x → xi_G p l e R s m args below meth c D ad ca A Q N (mL k) x pc L st aw := by
  intro n
  induction n with
  | zero => intro pc L st aw h; exact xi_no (show (none : Option xi_R) = some x from h)
  | succ n ih =>
    intro pc L st aw h
    rw [xi_gt] at h
    dsimp only at h
    split at h
    · rename_i hb
      have hpc := Nat.eq_of_beq_eq_true hb
      subst hpc
      split at h
      · cases h
        exact fun H locs ls hl hP hD hS hN => hq H locs ls hl.1 hN hP hD hS
      · cases h
    · split at h
      · rename_i q hq2
        obtain ⟨i, v, bs⟩ := q
        have hg := xi_sg hC hK hZ hA h1 h64 hcal ih (ht pc _ hq2) h
        exact fun H locs ls hl hP hD hS hN => hg H locs ls (hl.mask _) hP hD hS hN
      · cases h
end XIGT
/-! what comes at a program counter, with fuel enough -/
def xg (d : Nat) (tb : List (Option xi_E)) (stop pc : Nat) (L : xi_L) (st : List Value) (aw : xi_W) (x : xi_R) : Prop := ∃ N : Nat, ∀ n F : Nat, N ≤ n → N ≤ F → xi_gt (xi_run F d) tb stop n pc L st aw = some x
section XG
variable {d stop : Nat} {tb : List (Option xi_E)} {pc p1 p2 : Nat} {L L1 L2 : xi_L} {st s1 s2 : List Value} {aw w1 w2 : xi_W} {x : xi_R}
theorem xg_seq (m : Nat) (h : ∀ n F : Nat, xi_gt (xi_run F d) tb stop (n + m) pc L st aw = xi_gt (xi_run F d) tb stop n p1 L1 s1 w1) (k : xg d tb stop p1 L1 s1 w1 x) : xg d tb stop pc L st aw x := by
  obtain ⟨N, hN⟩ := k
  refine ⟨N + m, fun n F h1 h2 => ?_⟩
  obtain ⟨j, rfl⟩ : ∃ j, n = j + m := ⟨n - m, by omega⟩
  rw [h]
  exact hN j F (by omega) (by omega)
theorem xg_ite {c : Prop} [Decidable c] (m : Nat) (h : ∀ n F : Nat, xi_gt (xi_run F d) tb stop (n + m) pc L st aw = if c then xi_gt (xi_run F d) tb stop n p1 L1 s1 w1 else xi_gt (xi_run F d) tb stop n p2 L2 s2 w2) (k1 : c → xg d tb stop p1 L1 s1 w1 x) (k2 : ¬ c → xg d tb stop p2 L2 s2 w2 x) : xg d tb stop pc L st aw x := by
  by_cases hc : c
  · exact xg_seq m (fun n F => by rw [h, if_pos hc]) (k1 hc)
  · exact xg_seq m (fun n F => by rw [h, if_neg hc]) (k2 hc)
theorem xg_call {k : Nat} {vs rest : List Value} {y : xi_R} (m : Nat) (h : ∀ n F : Nat, xi_gt (xi_run F d) tb stop (n + m) pc L st aw = xi_bd (xi_run F d k vs w1) (fun y => xi_gt (xi_run F d) tb stop n p1 L1 (y.1.toList ++ rest) y.2)) (hm : xm d k vs w1 y) (kk : xg d tb stop p1 L1 (y.1.toList ++ rest) y.2 x) : xg d tb stop pc L st aw x := by
  obtain ⟨N, hN⟩ := kk
  obtain ⟨M, hM⟩ := hm
  refine ⟨N + m + M, fun n F h1 h2 => ?_⟩
  obtain ⟨j, rfl⟩ : ∃ j, n = j + m := ⟨n - m, by omega⟩
  rw [h, hM F (by omega)]
  exact hN j F (by omega) (by omega)
theorem xg_end : xg d tb stop stop L [] aw (none, aw) := by
  refine ⟨1, fun n F h1 _ => ?_⟩
  obtain ⟨j, rfl⟩ : ∃ j, n = j + 1 := ⟨n - 1, by omega⟩
  rw [xi_gt]
  dsimp only
  rw [show Nat.beq stop stop = true by rw [Nat.beq_eq]]
end XG
theorem xg_c10 {D : Nat} {iv iv1 : Nat → Int32} {av av1 : Nat → Nat → Int32} {lv lv1 : Nat → Nat → Int64} (h : xm D 15 [.ref 1] (xs iv av lv) (some (.int 0), xs iv1 av1 lv1)) : xg D xt_3 10 0 [some (.ref 0)] [] (xs iv av lv) (none, xs iv1 av1 lv1) :=
  xg_call (p1 := 7) (L1 := [some (.ref 0)]) (rest := []) 3 (fun _ _ => rfl) h (xg_ite (c := (0 : Int32) = 0) (p1 := 10) (L1 := [some (.ref 0)]) (s1 := []) (w1 := xs iv1 av1 lv1) (p2 := 18) (L2 := [some (.ref 0)]) (s2 := []) (w2 := xs iv1 av1 lv1) 1 (fun _ _ => rfl) (fun _ => xg_end) (fun hh => absurd rfl hh))
theorem xg_c42 {D : Nat} {iv iv1 iv2 iv3 : Nat → Int32} {av av1 av2 av3 : Nat → Nat → Int32} {lv lv1 lv2 lv3 : Nat → Nat → Int64} {r : Int32} (hr : r ≠ 0) (h : xm D 15 [.ref 1] (xs iv av lv) (some (.int r), xs iv1 av1 lv1)) (h2 : xm D 17 [.ref 1] (xs iv1 av1 lv1) (none, xs iv2 av2 lv2)) (h3 : xm D 48 [.ref 13, .ref 4] (xs iv2 av2 lv2) (some (.int 0), xs iv3 av3 lv3)) : xg D xt_3 42 0 [some (.ref 0)] [] (xs iv av lv) (none, xs iv3 av3 lv3) :=
  xg_call (p1 := 7) (L1 := [some (.ref 0)]) (rest := []) 3 (fun _ _ => rfl) h (xg_ite (c := r = 0) (p1 := 10) (L1 := [some (.ref 0)]) (s1 := []) (w1 := xs iv1 av1 lv1) (p2 := 18) (L2 := [some (.ref 0)]) (s2 := []) (w2 := xs iv1 av1 lv1) 1 (fun _ _ => rfl) (fun hh => absurd hh hr) (fun _ =>
  xg_call (p1 := 25) (L1 := [some (.ref 0)]) (rest := []) 3 (fun _ _ => rfl) h2 (xg_call (p1 := 39) (L1 := [some (.ref 0)]) (rest := []) 6 (fun _ _ => rfl) h3
  (xg_ite (c := (0 : Int32) = 0) (p1 := 42) (L1 := [some (.ref 0)]) (s1 := []) (w1 := xs iv3 av3 lv3) (p2 := 50) (L2 := [some (.ref 0)]) (s2 := []) (w2 := xs iv3 av3 lv3) 1 (fun _ _ => rfl) (fun _ => xg_end) (fun hh => absurd rfl hh)))))
theorem xg_13 {D : Nat} {iv : Nat → Int32} {av : Nat → Nat → Int32} {lv : Nat → Nat → Int64} (h : iv 4 = 0) : xg D xt_13 10 0 [some (.ref 0)] [] (xs iv av lv) (none, xs iv av lv) :=
  xg_ite (c := iv 4 = 0) (p1 := 10) (L1 := [some (.ref 0)]) (s1 := []) (w1 := xs iv av lv) (p2 := 18) (L2 := [some (.ref 0)]) (s2 := []) (w2 := xs iv av lv) 4 (fun _ _ => rfl) (fun _ => xg_end) (fun hh => absurd h hh)
theorem xg_9 {D : Nat} {iv : Nat → Int32} {av : Nat → Nat → Int32} {lv : Nat → Nat → Int64} {a : Int32} (h : a < 0 ∨ ¬ a < 14) : xg D xt_9 10 0 [some (.ref 0), some (.int a)] [] (xs iv av lv) (none, xs iv av lv) :=
  xg_ite (c := a < 0) (p1 := 10) (L1 := [some (.ref 0), some (.int a)]) (s1 := []) (w1 := xs iv av lv) (p2 := 4) (L2 := [some (.ref 0), some (.int a)]) (s2 := []) (w2 := xs iv av lv) 2 (fun _ _ => rfl) (fun _ => xg_end) (fun h0 =>
  xg_ite (c := a < 14) (p1 := 18) (L1 := [some (.ref 0), some (.int a)]) (s1 := []) (w1 := xs iv av lv) (p2 := 10) (L2 := [some (.ref 0), some (.int a)]) (s2 := []) (w2 := xs iv av lv) 3 (fun _ _ => rfl) (fun h1 => absurd h1 (h.resolve_left h0)) (fun _ => xg_end))
theorem xg_12 {D : Nat} {iv : Nat → Int32} {av : Nat → Nat → Int32} {lv : Nat → Nat → Int64} {a : Int32} (h : a < 0 ∨ ¬ a < 32 ∨ ¬ a < iv 10) : xg D xt_12 21 0 [some (.ref 0), some (.int a)] [] (xs iv av lv) (none, xs iv av lv) :=
  xg_ite (c := a < 0) (p1 := 21) (L1 := [some (.ref 0), some (.int a)]) (s1 := []) (w1 := xs iv av lv) (p2 := 4) (L2 := [some (.ref 0), some (.int a)]) (s2 := []) (w2 := xs iv av lv) 2 (fun _ _ => rfl) (fun _ => xg_end) (fun h0 =>
  xg_ite (c := a < 32) (p1 := 10) (L1 := [some (.ref 0), some (.int a)]) (s1 := []) (w1 := xs iv av lv) (p2 := 21) (L2 := [some (.ref 0), some (.int a)]) (s2 := []) (w2 := xs iv av lv) 3 (fun _ _ => rfl) (fun h1 =>
  xg_ite (c := a < iv 10) (p1 := 29) (L1 := [some (.ref 0), some (.int a)]) (s1 := []) (w1 := xs iv av lv) (p2 := 21) (L2 := [some (.ref 0), some (.int a)]) (s2 := []) (w2 := xs iv av lv) 5 (fun _ _ => rfl) (fun h2 => by
    rcases h with h | h | h
    · exact absurd h h0
    · exact absurd h1 h
    · exact absurd h2 h) (fun _ => xg_end)) (fun _ => xg_end))
