/-! The law's cases. -/
def lt_D (P : Nat) (og : Int) : Prop := decode code P = .ok (.istore 6, 2) ∧ decode code (P + 2) = .ok (.aload_n 2, 1) ∧ decode code (P + 3) = .ok (.invokevirtual 69, 3) ∧ decode code (P + 6) = .ok (.iload 5, 2) ∧ decode code (P + 8) = .ok (.if_icmp .eq 5, 3) ∧ decode code (P + 13) = .ok (.iload 5, 2) ∧ decode code (P + 15) = .ok (.ifCond .ne 15, 3) ∧ decode code (P + 18) = .ok (.aload_n 3, 1) ∧ decode code (P + 19) = .ok (.iconst 0, 1) ∧ decode code (P + 20) = .ok (.laload, 1) ∧ decode code (P + 21) = .ok (.iload 6, 2) ∧ decode code (P + 23) = .ok (.i2l, 1) ∧ decode code (P + 24) = .ok (.lcmp, 1) ∧ decode code (P + 25) = .ok (.ifCond .eq 5, 3) ∧ decode code (P + 30) = .ok (.goto og, 3) ∧ ((P + 30 : Nat) : Int) + og = ((671 : Nat) : Int)
/-- behind a case -/
def LK (p : Program) (l : Launch) (e : Env) (s : State) (m : MethodId) (below : List Frame) (meth : Method) (c : Code) (b : Nat) (D : va_G) (ad : Nat → Nat) (ca : Nat → ClassId) (Q : State → Prop) (i : Int32) (pc cells slots : Nat) : Prop := ∀ (H : Heap) (locs : List Loc) (ls : Array Slot) (iv : Nat → Int32) (av : Nat → Nat → Int32) (lv : Nat → Nat → Int64), LV s D ad ca (xs iv av lv) H locs → LR iv av → lv_has ls 7 (lxB b ad i) → W p l e room_1 s m #[Value.ref b] below meth c H locs cells slots Q (F0 m pc ls [])
def lm_F (a k n : Nat) (cls : String) : Prop := Cond.methodLink "TimedCompilerLaw" a (mY k) ∈ xi_wd ∧ k < 117 ∧ mS k = false ∧ mO k = cls ∧ n = mN k
set_option maxRecDepth 100000 in
theorem lm_69 : lm_F 69 72 0 "TimedCompilerModel" := ⟨xx_wd (by decide +kernel) (by decide +kernel), by decide, rfl, rfl, rfl⟩
def lhF (j a n : Nat) : Prop := GoodIn lw_tbl (va_wsS "TimedCompilerLaw" a (hY j) (hWd j)) ∧ ((hY j).cls ≠ "java/lang/invoke/MethodHandle" ∧ (hY j).cls ≠ "java/lang/invoke/VarHandle" ∧ (parseMethodDescriptor (hY j).desc).map (fun d => d.parameters.length) = some n) ∧ hL j ≤ 5
theorem lhF_of {j a n : Nat} (h1 : Cond.methodLink "TimedCompilerLaw" a (hY j) ∈ xi_wd) (h2 : Cond.static (hY j) ∈ xi_wd) (h3 : Cond.initialized (hY j).cls ∈ xi_wd) (h4 : Cond.codeWith (hY j) (hC j) (hL j) (some .int) (hH j) ∈ xi_wd) (h5 : (hY j).cls ≠ "java/lang/invoke/MethodHandle" ∧ (hY j).cls ≠ "java/lang/invoke/VarHandle" ∧ (parseMethodDescriptor (hY j).desc).map (fun d => d.parameters.length) = some n) (h6 : hL j ≤ 5) : lhF j a n := by
  refine ⟨?_, h5, h6⟩
  unfold va_wsS
  intro w hw
  rcases List.mem_append.mp hw with hw | hw
  · simp only [List.mem_cons, List.not_mem_nil, or_false] at hw
    rcases hw with rfl | rfl | rfl
    · exact ⟨lx_tw _ h1, xi_wd_good h1⟩
    · exact ⟨lx_tw _ h2, xi_wd_good h2⟩
    · exact ⟨lx_tw _ h3, xi_wd_good h3⟩
  · rcases List.mem_cons.mp hw with rfl | hw
    · exact ⟨lx_tw _ h4, xi_wd_good h4⟩
    · exact ⟨lx_tw _ hw, xi_wd_good hw⟩
section LXC
variable {p : Program} {l : Launch} {e : Env} {s : State} {m : MethodId} {below : List Frame} {meth : Method} {c : Code} {b L : Nat} {f : Nat → Int32} {D : va_G} {ad : Nat → Nat} {ca : Nat → ClassId} {Q : State → Prop} {H : Heap} {locs : List Loc} {ls : Array Slot} {cells slots : Nat} {i : Int32}
theorem lx_cm {k a : Nat} {As rest : List Value} {iv : Nat → Int32} {av : Nat → Nat → Int32} {lv : Nat → Nat → Int64} {x : xi_R} {pc : Nat} (X : LX p s m c b L f D ad ca) (hm : lm_F a k As.length "TimedCompilerModel") (hx : xm 69 k (.ref 27 :: As) (xs iv av lv) x) (hV : LV s D ad ca (xs iv av lv) H locs) (hls : ls.size = 7) (hcm : (rest.map fun v => v.category).sum ≤ 8) (hce : cells ≤ 601024) (hsl : slots ≤ 7293034) (hdg : decode code pc = .ok (.invokevirtual a, 3))
    (kk : ∀ (H1 : Heap) (locs1 : List Loc), LV s D ad ca x.2 H1 locs1 → W p l e room_1 s m #[Value.ref b] below meth c H1 locs1 cells slots Q (F0 m (pc + 3) ls ((x.1.map (xi_mp ad)).toList ++ rest))) :
    W p l e room_1 s m #[Value.ref b] below meth c H locs cells slots Q (F0 m pc ls ((As.map (xi_mp ad)).reverse ++ .ref (ad 27) :: rest)) :=
  lx_call (r := 27) (ci := 6) X hm.1 hm.2.1 hm.2.2.1 ⟨_, rfl, hm.2.2.2.1.symm⟩ hm.2.2.2.2 rfl hx hV hls hcm hce hsl hdg kk
theorem lx_cc {k a : Nat} {As rest : List Value} {iv : Nat → Int32} {av : Nat → Nat → Int32} {lv : Nat → Nat → Int64} {x : xi_R} {pc : Nat} (X : LX p s m c b L f D ad ca) (hm : lm_F a k As.length "TimedCompiler") (hx : xm 69 k (.ref 0 :: As) (xs iv av lv) x) (hV : LV s D ad ca (xs iv av lv) H locs) (hls : ls.size = 7) (hcm : (rest.map fun v => v.category).sum ≤ 8) (hce : cells ≤ 601024) (hsl : slots ≤ 7293034) (hdg : decode code pc = .ok (.invokevirtual a, 3))
    (kk : ∀ (H1 : Heap) (locs1 : List Loc), LV s D ad ca x.2 H1 locs1 → W p l e room_1 s m #[Value.ref b] below meth c H1 locs1 cells slots Q (F0 m (pc + 3) ls ((x.1.map (xi_mp ad)).toList ++ rest))) :
    W p l e room_1 s m #[Value.ref b] below meth c H locs cells slots Q (F0 m pc ls ((As.map (xi_mp ad)).reverse ++ .ref (ad 0) :: rest)) :=
  lx_call (r := 0) (ci := 0) X hm.1 hm.2.1 hm.2.2.1 ⟨_, rfl, hm.2.2.2.1.symm⟩ hm.2.2.2.2 rfl hx hV hls hcm hce hsl hdg kk
/-- behind the reference's answer: thrown() and the answers compared -/
theorem lx_tail {P : Nat} {og : Int} {k r r2 : Int32} {iv : Nat → Int32} {av : Nat → Nat → Int32} {lv : Nat → Nat → Int64} (X : LX p s m c b L f D ad ca) (d : lt_D P og) (hV : LV s D ad ca (xs iv av lv) H locs) (hR : LR iv av) (h11 : iv 11 = k) (hr : k = 0 → r2 = r) (ho : k = 0 → lv 60 0 = r.toInt64) (hl : lv_has ls 7 ((5, .int k) :: lxB b ad i)) (hce : cells ≤ 601024) (hsl : slots ≤ 7293034) (K : LK p l e s m below meth c b D ad ca Q i 671 cells slots) :
    W p l e room_1 s m #[Value.ref b] below meth c H locs cells slots Q (F0 m P ls [.int r2]) := by
  obtain ⟨d0, d2, d3, d6, d8, d13, d15, d18, d19, d20, d21, d23, d24, d25, d30, hg⟩ := d
  have hx := X.1.1
  have hb := X.1.2.1
  refine lv_istore hx hb d0 hl (by decide) rfl (fun ls hl => ?_)
  have hl : lv_has ls 7 [(6, .int r2), (5, .int k), (0, .ref b), (1, .ref (ad 0)), (2, .ref (ad 27)), (3, .ref (ad 60)), (4, .int i)] := hl
  refine lv_aload_n hx hb d2 rfl (lv_at hl 4 rfl) ?_
  refine lx_cm (k := 72) (a := 69) (As := []) (rest := []) X lm_69 lx_thrown hV hl.1 (Nat.zero_le _) hce hsl d3 (fun H locs hV => ?_)
  refine lv_iload hx hb d6 (lv_at hl 1 rfl) ?_
  have hgo : W p l e room_1 s m #[Value.ref b] below meth c H locs cells slots Q (F0 m (P + 30) ls []) := lv_goto hx hb d30 hg (K H locs ls iv av lv hV hR (lv_sub hl [2, 3, 4, 5, 6] rfl))
  refine lv_icmp_eq (tgt := P + 13) hx hb d8 (by omega) (fun _ => ?_) (fun h => absurd h11 h)
  refine lv_iload hx hb d13 (lv_at hl 1 rfl) ?_
  refine lv_if_ne (tgt := P + 30) hx hb d15 (by omega) (fun _ => hgo) (fun hk => ?_)
  refine lv_aload_n hx hb d18 rfl (lv_at hl 5 rfl) ?_
  refine lv_iconst (v := 0) hx hb d19 rfl ?_
  obtain ⟨j0, hj0⟩ := xi_ty4 ca (r := 60) rfl
  refine va_lald hx hb X.2.1 hV.1 60 j0 (xi_rl_arr (ad := ad) (ca := ca) (aw := xs iv av lv) (r := 60) rfl) hj0 (xi_in_of (by decide)) d20 ?_
  refine lv_iload hx hb d21 (lv_at hl 0 rfl) ?_
  refine lv_i2l hx hb d23 rfl ?_
  refine W.lcmp hx hb d24 ?_
  refine lv_if_eq (tgt := P + 30) hx hb d25 (by omega) (fun _ => hgo) (fun h => absurd ?_ h)
  show lg_cmp (lv 60 0) r2.toInt64 = 0
  rw [ho hk, hr hk]
  exact lx_cmp _
theorem lx_h0 {P j km a a2 : Nat} {og : Int} (X : LX p s m c b L f D ad ca) (d0 : decode code P = .ok (.aload_n 1, 1)) (d1 : decode code (P + 1) = .ok (.aload_n 3, 1)) (d2 : decode code (P + 2) = .ok (.invokestatic a, 3)) (d5 : decode code (P + 5) = .ok (.istore 5, 2)) (d7 : decode code (P + 7) = .ok (.aload_n 2, 1)) (d8 : decode code (P + 8) = .ok (.invokevirtual a2, 3)) (dt : lt_D (P + 11) og) (hF : lhF j a 2) (hm : lm_F a2 km 0 "TimedCompilerModel") (hJ : ∀ iv av lv, LR iv av → LJ l j km [] iv av lv) (hce : cells + 1 ≤ 601024) (hsl : slots + 6 ≤ 7293034) (K : LK p l e s m below meth c b D ad ca Q i 671 (cells + 1) (slots + 6)) : LK p l e s m below meth c b D ad ca Q i P cells slots := by
  intro H locs ls iv av lv hV hR hl
  have hx := X.1.1
  have hb := X.1.2.1
  obtain ⟨k, r, iv1, av1, lv1, g1, g2, g3⟩ := hJ iv av lv hR
  refine lv_aload_n hx hb d0 rfl (lv_at hl 1 rfl) ?_
  refine lv_aload_n hx hb d1 rfl (lv_at hl 3 rfl) ?_
  refine lx_help (As := []) X g1 hF.1 rfl hF.2.1 hF.2.2 hV hl.1 hce hsl d2 (fun H locs hV => ?_)
  refine lv_istore hx hb d5 hl (by decide) rfl (fun ls hl => ?_)
  have hl : lv_has ls 7 ((5, .int k) :: lxB b ad i) := hl
  refine lv_aload_n hx hb d7 rfl (lv_at hl 3 rfl) ?_
  obtain ⟨r2, iv2, av2, m1, m2, m3, m4⟩ := g2 lv1
  refine lx_cm (As := []) (rest := []) X hm m1 hV hl.1 (Nat.zero_le _) hce hsl d8 (fun H locs hV => ?_)
  exact lx_tail X dt hV m4 m2 m3 g3 hl hce hsl K
theorem lx_h1 {P j km a a2 : Nat} {og : Int} (X : LX p s m c b L f D ad ca) (hi1 : vp_in (i + Int32.ofInt 1) L) (d0 : decode code P = .ok (.aload_n 1, 1)) (s1 : sl_D (P + 1) 1) (d1 : decode code (P + 7) = .ok (.aload_n 3, 1)) (d2 : decode code (P + 8) = .ok (.invokestatic a, 3)) (d5 : decode code (P + 11) = .ok (.istore 5, 2)) (d7 : decode code (P + 13) = .ok (.aload_n 2, 1)) (s2 : sl_D (P + 14) 1) (d8 : decode code (P + 20) = .ok (.invokevirtual a2, 3)) (dt : lt_D (P + 23) og) (hF : lhF j a 3) (hm : lm_F a2 km 1 "TimedCompilerModel") (hJ : ∀ iv av lv, LR iv av → ∀ a, LJ l j km [.int a] iv av lv) (hce : cells + 1 ≤ 601024) (hsl : slots + 6 ≤ 7293034) (K : LK p l e s m below meth c b D ad ca Q i 671 (cells + 1) (slots + 6)) : LK p l e s m below meth c b D ad ca Q i P cells slots := by
  intro H locs ls iv av lv hV hR hl
  have hx := X.1.1
  have hb := X.1.2.1
  obtain ⟨k, r, iv1, av1, lv1, g1, g2, g3⟩ := hJ iv av lv hR (f (i + Int32.ofInt 1).toNatClampNeg)
  refine lv_aload_n hx hb d0 rfl (lv_at hl 1 rfl) ?_
  refine lx_sl X hi1 (lv_at hl 0 rfl) (lv_at hl 4 rfl) hV.2.2 s1 ?_
  refine lv_aload_n hx hb d1 rfl (lv_at hl 3 rfl) ?_
  refine lx_help (As := [.int (f (i + Int32.ofInt 1).toNatClampNeg)]) X g1 hF.1 rfl hF.2.1 hF.2.2 hV hl.1 hce hsl d2 (fun H locs hV => ?_)
  refine lv_istore hx hb d5 hl (by decide) rfl (fun ls hl => ?_)
  have hl : lv_has ls 7 ((5, .int k) :: lxB b ad i) := hl
  refine lv_aload_n hx hb d7 rfl (lv_at hl 3 rfl) ?_
  refine lx_sl X hi1 (lv_at hl 1 rfl) (lv_at hl 5 rfl) hV.2.2 s2 ?_
  obtain ⟨r2, iv2, av2, m1, m2, m3, m4⟩ := g2 lv1
  refine lx_cm (As := [.int (f (i + Int32.ofInt 1).toNatClampNeg)]) (rest := []) X hm m1 hV hl.1 (Nat.zero_le _) hce hsl d8 (fun H locs hV => ?_)
  exact lx_tail X dt hV m4 m2 m3 g3 hl hce hsl K
theorem lx_h2 {P j km a a2 : Nat} {og : Int} (X : LX p s m c b L f D ad ca) (hi1 : vp_in (i + Int32.ofInt 1) L) (hi2 : vp_in (i + Int32.ofInt 2) L) (d0 : decode code P = .ok (.aload_n 1, 1)) (s1 : sl_D (P + 1) 1) (s2 : sl_D (P + 7) 2) (d1 : decode code (P + 13) = .ok (.aload_n 3, 1)) (d2 : decode code (P + 14) = .ok (.invokestatic a, 3)) (d5 : decode code (P + 17) = .ok (.istore 5, 2)) (d7 : decode code (P + 19) = .ok (.aload_n 2, 1)) (s3 : sl_D (P + 20) 1) (s4 : sl_D (P + 26) 2) (d8 : decode code (P + 32) = .ok (.invokevirtual a2, 3)) (dt : lt_D (P + 35) og) (hF : lhF j a 4) (hm : lm_F a2 km 2 "TimedCompilerModel") (hJ : ∀ iv av lv, LR iv av → ∀ a b, LJ l j km [.int a, .int b] iv av lv) (hce : cells + 1 ≤ 601024) (hsl : slots + 6 ≤ 7293034) (K : LK p l e s m below meth c b D ad ca Q i 671 (cells + 1) (slots + 6)) : LK p l e s m below meth c b D ad ca Q i P cells slots := by
  intro H locs ls iv av lv hV hR hl
  have hx := X.1.1
  have hb := X.1.2.1
  obtain ⟨k, r, iv1, av1, lv1, g1, g2, g3⟩ := hJ iv av lv hR (f (i + Int32.ofInt 1).toNatClampNeg) (f (i + Int32.ofInt 2).toNatClampNeg)
  refine lv_aload_n hx hb d0 rfl (lv_at hl 1 rfl) ?_
  refine lx_sl X hi1 (lv_at hl 0 rfl) (lv_at hl 4 rfl) hV.2.2 s1 ?_
  refine lx_sl X hi2 (lv_at hl 0 rfl) (lv_at hl 4 rfl) hV.2.2 s2 ?_
  refine lv_aload_n hx hb d1 rfl (lv_at hl 3 rfl) ?_
  refine lx_help (As := [.int (f (i + Int32.ofInt 1).toNatClampNeg), .int (f (i + Int32.ofInt 2).toNatClampNeg)]) X g1 hF.1 rfl hF.2.1 hF.2.2 hV hl.1 hce hsl d2 (fun H locs hV => ?_)
  refine lv_istore hx hb d5 hl (by decide) rfl (fun ls hl => ?_)
  have hl : lv_has ls 7 ((5, .int k) :: lxB b ad i) := hl
  refine lv_aload_n hx hb d7 rfl (lv_at hl 3 rfl) ?_
  refine lx_sl X hi1 (lv_at hl 1 rfl) (lv_at hl 5 rfl) hV.2.2 s3 ?_
  refine lx_sl X hi2 (lv_at hl 1 rfl) (lv_at hl 5 rfl) hV.2.2 s4 ?_
  obtain ⟨r2, iv2, av2, m1, m2, m3, m4⟩ := g2 lv1
  refine lx_cm (As := [.int (f (i + Int32.ofInt 1).toNatClampNeg), .int (f (i + Int32.ofInt 2).toNatClampNeg)]) (rest := []) X hm m1 hV hl.1 (Nat.zero_le _) hce hsl d8 (fun H locs hV => ?_)
  exact lx_tail X dt hV m4 m2 m3 g3 hl hce hsl K
end LXC
set_option maxRecDepth 100000 in
theorem hf_0 : lhF 0 63 2 := lhF_of (xx_wd (by decide +kernel) (by decide +kernel)) (xx_wd (by decide +kernel) (by decide +kernel)) (xx_wd (by decide +kernel) (by decide +kernel)) (xi_gin (h := 272) rfl rfl) (by decide +kernel) (by decide)
set_option maxRecDepth 100000 in
theorem hf_1 : lhF 1 72 4 := lhF_of (xx_wd (by decide +kernel) (by decide +kernel)) (xx_wd (by decide +kernel) (by decide +kernel)) (xx_wd (by decide +kernel) (by decide +kernel)) (xi_gin (h := 544) rfl rfl) (by decide +kernel) (by decide)
set_option maxRecDepth 100000 in
theorem hf_2 : lhF 2 76 2 := lhF_of (xx_wd (by decide +kernel) (by decide +kernel)) (xx_wd (by decide +kernel) (by decide +kernel)) (xx_wd (by decide +kernel) (by decide +kernel)) (xi_gin (h := 571) rfl rfl) (by decide +kernel) (by decide)
set_option maxRecDepth 100000 in
theorem hf_3 : lhF 3 79 2 := lhF_of (xx_wd (by decide +kernel) (by decide +kernel)) (xx_wd (by decide +kernel) (by decide +kernel)) (xx_wd (by decide +kernel) (by decide +kernel)) (xi_gin (h := 578) rfl rfl) (by decide +kernel) (by decide)
set_option maxRecDepth 100000 in
theorem hf_4 : lhF 4 82 4 := lhF_of (xx_wd (by decide +kernel) (by decide +kernel)) (xx_wd (by decide +kernel) (by decide +kernel)) (xx_wd (by decide +kernel) (by decide +kernel)) (xi_gin (h := 585) rfl rfl) (by decide +kernel) (by decide)
set_option maxRecDepth 100000 in
theorem hf_5 : lhF 5 90 3 := lhF_of (xx_wd (by decide +kernel) (by decide +kernel)) (xx_wd (by decide +kernel) (by decide +kernel)) (xx_wd (by decide +kernel) (by decide +kernel)) (xi_gin (h := 593) rfl rfl) (by decide +kernel) (by decide)
set_option maxRecDepth 100000 in
theorem hf_6 : lhF 6 94 2 := lhF_of (xx_wd (by decide +kernel) (by decide +kernel)) (xx_wd (by decide +kernel) (by decide +kernel)) (xx_wd (by decide +kernel) (by decide +kernel)) (xi_gin (h := 616) rfl rfl) (by decide +kernel) (by decide)
set_option maxRecDepth 100000 in
theorem hf_7 : lhF 7 101 3 := lhF_of (xx_wd (by decide +kernel) (by decide +kernel)) (xx_wd (by decide +kernel) (by decide +kernel)) (xx_wd (by decide +kernel) (by decide +kernel)) (xi_gin (h := 679) rfl rfl) (by decide +kernel) (by decide)
set_option maxRecDepth 100000 in
theorem lm_54 : lm_F 54 73 1 "TimedCompilerModel" := ⟨xx_wd (by decide +kernel) (by decide +kernel), by decide, rfl, rfl, rfl⟩
set_option maxRecDepth 100000 in
theorem lm_58 : lm_F 58 74 0 "TimedCompilerModel" := ⟨xx_wd (by decide +kernel) (by decide +kernel), by decide, rfl, rfl, rfl⟩
set_option maxRecDepth 100000 in
theorem lm_62 : lm_F 62 75 0 "TimedCompilerModel" := ⟨xx_wd (by decide +kernel) (by decide +kernel), by decide, rfl, rfl, rfl⟩
set_option maxRecDepth 100000 in
theorem lm_68 : lm_F 68 104 0 "TimedCompilerModel" := ⟨xx_wd (by decide +kernel) (by decide +kernel), by decide, rfl, rfl, rfl⟩
set_option maxRecDepth 100000 in
theorem lm_75 : lm_F 75 105 2 "TimedCompilerModel" := ⟨xx_wd (by decide +kernel) (by decide +kernel), by decide, rfl, rfl, rfl⟩
set_option maxRecDepth 100000 in
theorem lm_78 : lm_F 78 106 0 "TimedCompilerModel" := ⟨xx_wd (by decide +kernel) (by decide +kernel), by decide, rfl, rfl, rfl⟩
set_option maxRecDepth 100000 in
theorem lm_81 : lm_F 81 107 0 "TimedCompilerModel" := ⟨xx_wd (by decide +kernel) (by decide +kernel), by decide, rfl, rfl, rfl⟩
set_option maxRecDepth 100000 in
theorem lm_84 : lm_F 84 108 2 "TimedCompilerModel" := ⟨xx_wd (by decide +kernel) (by decide +kernel), by decide, rfl, rfl, rfl⟩
set_option maxRecDepth 100000 in
theorem lm_89 : lm_F 89 109 2 "TimedCompilerModel" := ⟨xx_wd (by decide +kernel) (by decide +kernel), by decide, rfl, rfl, rfl⟩
set_option maxRecDepth 100000 in
theorem lm_93 : lm_F 93 110 1 "TimedCompilerModel" := ⟨xx_wd (by decide +kernel) (by decide +kernel), by decide, rfl, rfl, rfl⟩
set_option maxRecDepth 100000 in
theorem lm_96 : lm_F 96 114 0 "TimedCompilerModel" := ⟨xx_wd (by decide +kernel) (by decide +kernel), by decide, rfl, rfl, rfl⟩
set_option maxRecDepth 100000 in
theorem lm_100 : lm_F 100 115 1 "TimedCompilerModel" := ⟨xx_wd (by decide +kernel) (by decide +kernel), by decide, rfl, rfl, rfl⟩
set_option maxRecDepth 100000 in
theorem lm_103 : lm_F 103 116 1 "TimedCompilerModel" := ⟨xx_wd (by decide +kernel) (by decide +kernel), by decide, rfl, rfl, rfl⟩
set_option maxRecDepth 100000 in
theorem lm_50 : lm_F 50 0 1 "TimedCompiler" := ⟨xx_wd (by decide +kernel) (by decide +kernel), by decide, rfl, rfl, rfl⟩
set_option maxRecDepth 100000 in
theorem lm_55 : lm_F 55 1 0 "TimedCompiler" := ⟨xx_wd (by decide +kernel) (by decide +kernel), by decide, rfl, rfl, rfl⟩
set_option maxRecDepth 100000 in
theorem lm_59 : lm_F 59 2 0 "TimedCompiler" := ⟨xx_wd (by decide +kernel) (by decide +kernel), by decide, rfl, rfl, rfl⟩
set_option maxRecDepth 100000 in
theorem lm_85 : lm_F 85 8 2 "TimedCompiler" := ⟨xx_wd (by decide +kernel) (by decide +kernel), by decide, rfl, rfl, rfl⟩
set_option maxRecDepth 100000 in
theorem lm_97 : lm_F 97 11 1 "TimedCompiler" := ⟨xx_wd (by decide +kernel) (by decide +kernel), by decide, rfl, rfl, rfl⟩
