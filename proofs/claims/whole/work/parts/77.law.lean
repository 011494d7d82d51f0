/-! The law: what each of its helpers' calls gives, with the reference's answer. -/
def LJ (l : Launch) (j km : Nat) (As : List Value) (iv : Nat → Int32) (av : Nat → Nat → Int32) (lv : Nat → Nat → Int64) : Prop := ∃ (k r : Int32) (iv1 : Nat → Int32) (av1 : Nat → Nat → Int32) (lv1 : Nat → Nat → Int64), LHC l 69 j As iv av lv k iv1 av1 lv1 ∧ MS 69 km (.ref 27 :: As) iv1 av1 k r ∧ (k = 0 → lv1 60 0 = r.toInt64)
section LJS
variable {l : Launch} {iv : Nat → Int32} {av : Nat → Nat → Int32} {lv : Nat → Nat → Int64}
theorem lj_ld (h : LR iv av) : (iv 4 = 0 ∧ iv 20 = 0) ∨ iv 20 = 1 := h.2.1.imp id (fun q => q.1)
theorem lj_compile (hl : l.stackTraces = false) (h : LR iv av) : LJ l 0 104 [] iv av lv := by
  rcases l_compile (D := 69) (lv := lv) (by omega) h with ⟨iv1, av1, h1, h2⟩ | ⟨iv1, av1, iv2, av2, iv3, av3, lv3, h1, h2, h3, h4⟩ | ⟨r, iv1, av1, lv1, h1, h2⟩
  · exact ⟨1, 0, iv1, av1, lv, he_0a hl (by omega) h1, h2, fun q => absurd q (by decide)⟩
  · exact ⟨2, 0, iv3, av3, lv3, he_0b hl (by omega) (r := 1) (by decide) h1 h2 h3, h4, fun q => absurd q (by decide)⟩
  · exact ⟨0, r, iv1, av1, lo lv1 r, hn_0 h1, h2, fun _ => rfl⟩
theorem lj_code (hl : l.stackTraces = false) (h : LR iv av) (a b : Int32) : LJ l 1 105 [.int a, .int b] iv av lv := by
  rcases lj_ld h with ⟨h4, h20⟩ | h20
  · exact ⟨1, 0, iv, av, lv, he_1 hl (by omega) h4, ms_code0 (by omega) h h20 a b, fun q => absurd q (by decide)⟩
  · obtain ⟨r, h1, h2⟩ := l_code (D := 69) (lv := lv) (by omega) h h20 a b
    exact ⟨0, r, iv, av, lo lv r, hn_1 h1, h2, fun _ => rfl⟩
theorem lj_time (hl : l.stackTraces = false) (h : LR iv av) : LJ l 2 106 [] iv av lv := by
  rcases lj_ld h with ⟨h4, h20⟩ | h20
  · exact ⟨1, 0, iv, av, lv, he_2 hl (by omega) h4, ms_time0 (by omega) h h20, fun q => absurd q (by decide)⟩
  · obtain ⟨r, h1, h2⟩ := l_time (D := 69) (lv := lv) (by omega) h h20
    exact ⟨0, r, iv, av, lo lv r, hn_2 h1, h2, fun _ => rfl⟩
theorem lj_depth (hl : l.stackTraces = false) (h : LR iv av) : LJ l 3 107 [] iv av lv := by
  rcases lj_ld h with ⟨h4, h20⟩ | h20
  · exact ⟨1, 0, iv, av, lv, he_3 hl (by omega) h4, ms_depth0 (by omega) h h20, fun q => absurd q (by decide)⟩
  · obtain ⟨r, h1, h2⟩ := l_depth (D := 69) (lv := lv) (by omega) h h20
    exact ⟨0, r, iv, av, lo lv r, hn_3 h1, h2, fun _ => rfl⟩
theorem lj_proc (hl : l.stackTraces = false) (h : LR iv av) (a b : Int32) : LJ l 4 108 [.int a, .int b] iv av lv := by
  rcases lj_ld h with ⟨h4, h20⟩ | h20
  · exact ⟨1, 0, iv, av, lv, he_4 hl (by omega) h4, ms_proc0 (by omega) h h20 a b, fun q => absurd q (by decide)⟩
  · obtain ⟨r, h1, h2⟩ := l_proc (D := 69) (lv := lv) (by omega) h h20 a b
    exact ⟨0, r, iv, av, lo lv r, hn_4 h1, h2, fun _ => rfl⟩
theorem lj_get (hl : l.stackTraces = false) (h : LR iv av) (a : Int32) : LJ l 5 110 [.int a] iv av lv := by
  by_cases ha : a < 0 ∨ ¬ a < 14
  · exact ⟨1, 0, iv, av, lv, he_5 hl (by omega) ha, ms_get0 (by omega) h ha, fun q => absurd q (by decide)⟩
  · obtain ⟨j, hj, rfl⟩ := nI_of (fun q => ha (Or.inl q))
    have hj2 : j < 14 := (nI_ltI hj (show 14 < 2 ^ 31 by omega)).mp (Decidable.not_not.mp (fun q => ha (Or.inr q)))
    obtain ⟨r, h1, h2⟩ := l_get (D := 69) (lv := lv) (by omega) h hj2
    exact ⟨0, r, iv, av, lo lv r, hn_5 h1, h2, fun _ => rfl⟩
theorem lj_run (hl : l.stackTraces = false) (h : LR iv av) : LJ l 6 114 [] iv av lv := by
  rcases lj_ld h with ⟨h4, h20⟩ | h20
  · exact ⟨1, 0, iv, av, lv, he_6 hl (by omega) h4, ms_run0 (by omega) h h20, fun q => absurd q (by decide)⟩
  · obtain ⟨r, iv1, av1, h1, h2⟩ := l_run (D := 69) (lv := lv) (by omega) h h20
    exact ⟨0, r, iv1, av1, lo lv r, hn_6 h1, h2, fun _ => rfl⟩
theorem lj_output (hl : l.stackTraces = false) (h : LR iv av) (a : Int32) : LJ l 7 116 [.int a] iv av lv := by
  by_cases ha : a < 0 ∨ ¬ a < 32 ∨ ¬ a < iv 10
  · exact ⟨1, 0, iv, av, lv, he_7 hl (by omega) ha, ms_output0 (by omega) h ha, fun q => absurd q (by decide)⟩
  · obtain ⟨r, h1, h2⟩ := l_output (D := 69) (lv := lv) (by omega) h (fun q => ha (Or.inl q)) (Decidable.not_not.mp (fun q => ha (Or.inr (Or.inl q)))) (Decidable.not_not.mp (fun q => ha (Or.inr (Or.inr q))))
    exact ⟨0, r, iv, av, lo lv r, hn_7 h1, h2, fun _ => rfl⟩
end LJS
theorem lx_thrown {iv : Nat → Int32} {av : Nat → Nat → Int32} {lv : Nat → Nat → Int64} : xm 69 72 [.ref 27] (xs iv av lv) (some (.int (iv 11)), xs iv av lv) := xm_of (d := 68) (nL := 1) rfl rfl xb_72_0
theorem lx_cmp (x : Int64) : lg_cmp x x = 0 := by simp [lg_cmp]
/-! The law's frame. -/
abbrev lxA (s : State) : Nat → Prop := fun q => s.heap.size ≤ q
def LX (p : Program) (s : State) (m : MethodId) (c : Code) (b L : Nat) (f : Nat → Int32) (D : va_G) (ad : Nat → Nat) (ca : Nat → ClassId) : Prop := CallFix p m c code 7 s #[Value.ref b] lw_tbl "TimedCompilerLaw" ∧ va_K D vwCl (xi_tyL ca) s ∧ xi_Z ad (lxA s) s ∧ xx_Z (lxA s) s ∧ va_X b L f s s.heap ∧ b < s.heap.size
def LV (s : State) (D : va_G) (ad : Nat → Nat) (ca : Nat → ClassId) (aw : xi_W) (H : Heap) (locs : List Loc) : Prop := va_P D vwCl (xi_rl ad ca aw) H ∧ va_D (lxA s) (xi_rl ad ca aw) ∧ va_S (lxA s) s.heap H locs
def lxB (b : Nat) (ad : Nat → Nat) (i : Int32) : List (Nat × Value) := [(0, .ref b), (1, .ref (ad 0)), (2, .ref (ad 27)), (3, .ref (ad 60)), (4, .int i)]
def sl_D (P : Nat) (k : Int) : Prop := decode code P = .ok (.aload_n 0, 1) ∧ decode code (P + 1) = .ok (.iload 4, 2) ∧ decode code (P + 3) = .ok (.iconst k, 1) ∧ decode code (P + 4) = .ok (.iadd, 1) ∧ decode code (P + 5) = .ok (.iaload, 1)
theorem lx_tw : ∀ w ∈ xi_wd, w ∈ lw_tbl := fun _ h => (List.mem_filter.mp h).1
section LXS
variable {p : Program} {l : Launch} {e : Env} {s : State} {m : MethodId} {below : List Frame} {meth : Method} {c : Code} {b L : Nat} {f : Nat → Int32} {D : va_G} {ad : Nat → Nat} {ca : Nat → ClassId} {Q : State → Prop} {H : Heap} {locs : List Loc} {ls : Array Slot} {cells slots pc : Nat} {rest : List Value} {i : Int32} {lw : List (Nat × Value)}
/-- script[i + k] -/
theorem lx_sl (X : LX p s m c b L f D ad ca) {k : Int} (hi : vp_in (i + Int32.ofInt k) L) (h0 : ls[0]? = some (.val (.ref b))) (h4 : ls[4]? = some (.val (.int i))) (hS : va_S (lxA s) s.heap H locs) (d : sl_D pc k) (kk : W p l e room_1 s m #[Value.ref b] below meth c H locs cells slots Q (F0 m (pc + 6) ls (.int (f (i + Int32.ofInt k).toNatClampNeg) :: rest))) : W p l e room_1 s m #[Value.ref b] below meth c H locs cells slots Q (F0 m pc ls rest) := by
  obtain ⟨⟨hx, hb, -⟩, -, -, -, hX, hbl⟩ := X
  obtain ⟨d0, d1, d3, d4, d5⟩ := d
  refine lv_aload_n hx hb d0 rfl h0 ?_
  refine lv_iload hx hb d1 h4 ?_
  refine lv_iconst hx hb d3 rfl ?_
  refine lv_iadd hx hb d4 ?_
  exact va_sld (A := lxA s) hx hb hX hbl (fun q => absurd (show s.heap.size ≤ b from q) (Nat.not_le.mpr hbl)) hS hi d5 kk
/-- a call of the class or of the reference -/
theorem lx_call {k a r ci : Nat} {As fs : List Value} {aw : xi_W} {x : xi_R} (X : LX p s m c b L f D ad ca) (hm : Cond.methodLink "TimedCompilerLaw" a (mY k) ∈ xi_wd) (hk : k < 117) (hs : mS k = false) (hci : ∃ q, vwCl[ci]? = some q ∧ q.1 = mO k) (hn : As.length = mN k) (ho : aw[r]? = some (.inr (ci, fs))) (hx : xm 69 k (.ref r :: As) aw x) (hV : LV s D ad ca aw H locs) (hls : ls.size = 7) (hcm : (rest.map fun v => v.category).sum ≤ 8) (hce : cells ≤ 601024) (hsl : slots ≤ 7293034) (hdg : decode code pc = .ok (.invokevirtual a, 3))
    (kk : ∀ (H1 : Heap) (locs1 : List Loc), LV s D ad ca x.2 H1 locs1 → W p l e room_1 s m #[Value.ref b] below meth c H1 locs1 cells slots Q (F0 m (pc + 3) ls ((x.1.map (xi_mp ad)).toList ++ rest))) :
    W p l e room_1 s m #[Value.ref b] below meth c H locs cells slots Q (F0 m pc ls ((As.map (xi_mp ad)).reverse ++ .ref (ad r) :: rest)) :=
  lh_call (d := 69) (A := lxA s) X.1 lx_tw hm hk hs hci hn ho hx X.2.1 X.2.2.1 (fun q hq => hq) hV.1 hV.2.1 hV.2.2 hls hcm (by decide) (by decide) hce hsl hdg (fun H1 locs1 h1 h2 h3 _ => kk H1 locs1 ⟨h1, h2, h3⟩)
/-- a call of a helper -/
theorem lx_help {j a n : Nat} {As : List Value} {iv iv1 : Nat → Int32} {av av1 : Nat → Nat → Int32} {lv lv1 : Nat → Nat → Int64} {k : Int32} (X : LX p s m c b L f D ad ca) (hh : LHC l 69 j As iv av lv k iv1 av1 lv1) (hG : GoodIn lw_tbl (va_wsS "TimedCompilerLaw" a (hY j) (hWd j))) (hn : As.length + 2 = n) (hd : (hY j).cls ≠ "java/lang/invoke/MethodHandle" ∧ (hY j).cls ≠ "java/lang/invoke/VarHandle" ∧ (parseMethodDescriptor (hY j).desc).map (fun d => d.parameters.length) = some n) (hL5 : hL j ≤ 5)
    (hV : LV s D ad ca (xs iv av lv) H locs) (hls : ls.size = 7) (hce : cells + 1 ≤ 601024) (hsl : slots + 6 ≤ 7293034) (hdg : decode code pc = .ok (.invokestatic a, 3))
    (kk : ∀ (H1 : Heap) (locs1 : List Loc), LV s D ad ca (xs iv1 av1 lv1) H1 locs1 → W p l e room_1 s m #[Value.ref b] below meth c H1 locs1 (cells + 1) (slots + 6) Q (F0 m (pc + 3) ls [.int k])) :
    W p l e room_1 s m #[Value.ref b] below meth c H locs cells slots Q (F0 m pc ls (((Value.ref 0 :: (As ++ [.ref 60])).map (xi_mp ad)).reverse ++ [])) := by
  obtain ⟨hC, hK, hZ, hX, -, -⟩ := X
  obtain ⟨hP, hD, hS⟩ := hV
  have hA : ∀ q : Nat, s.heap.size ≤ q → lxA s q := fun q hq => hq
  have hAs' := xi_A_sub hA hD hS
  have hpre : PreS s H (xx_Pc D ad ca (.ref 0 :: (As ++ [.ref 60])) (xs iv av lv) H.size) ((Value.ref 0 :: (As ++ [.ref 60])).map (xi_mp ad)) :=
    ⟨xx_blind _ _ _ _ _ _, fun U hU hW => ⟨rfl, by rw [hU], by rw [hU]; exact hP, va_K.moved hW.alike hK, hD.weaken (fun _ _ _ _ => trivial), xi_Z.at hZ hS hAs' hU hW, xx_Z.at hX hS hAs' hU hW⟩⟩
  have hR : vx_Run p l e room_1 s m #[Value.ref b] below meth c H locs cells slots 1 6 (F0 m pc ls (((Value.ref 0 :: (As ++ [.ref 60])).map (xi_mp ad)).reverse ++ [])) [] (xi_Qc D ad ca (xs iv av lv).length (some (.int k), xs iv1 av1 lv1) (va_A (xi_rl ad ca (xs iv av lv)) H.size) ((Value.ref 0 :: (As ++ [.ref 60])).map (xi_mp ad)).toArray) xx_nx (va_A (xi_rl ad ca (xs iv av lv)) H.size) :=
    vx_runSX hC (hh D ad ca H.size) (vx_cwSW n hC.2.2.2.2 hG rfl rfl rfl hd ⟨by decide, by show 8 + (hL j + 11) + 64 * 70 ≤ 84000; omega⟩) hpre rfl (by rw [List.length_map, List.length_cons, List.length_append]; show As.length + 1 + 1 = n; omega) hls rfl (lv_room (Nat.zero_le _)) hdg ⟨hce, hsl⟩
  intro T hT X
  rcases hR T hT X with ⟨v, st₀, t, T', L1, h0, X', hL, e1, e2, ⟨⟨hv, hyl, hP1⟩, hz, hk1⟩, stp⟩ | ⟨q, st₀, t, T', L1, E, ce, h0, X', hL, e1, e2, hF, -⟩
  · cases hv
    rw [h0] at hz hk1
    obtain ⟨t2, a1, b1⟩ := kk T'.heap (locs ++ L1) ⟨by rw [e1]; exact hP1, xi_D_len hyl hD, xi_S_call hS (by rw [e1]; exact hz) (fun q a b => by rw [e1]; exact hk1 q a b) hAs' hL⟩ T' rfl X'
    exact ⟨t2, stp t2 a1, b1⟩
  · exact hF.elim
end LXS
