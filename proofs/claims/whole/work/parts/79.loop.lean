/-! The thirteen cases at their places, and the loop. -/
set_option maxRecDepth 100000 in
theorem lx_d48 : Cond.constantLong "TimedCompilerLaw" 48 4294967295 ∈ lw_tbl := by decide +kernel
def lxw (x y : Int32) : Int64 := (x.toInt64 <<< ((32 : Int32).toInt64 &&& 63)) ||| (y.toInt64 &&& 4294967295)
section LXD
variable {p : Program} {l : Launch} {e : Env} {s : State} {m : MethodId} {below : List Frame} {meth : Method} {c : Code} {b L : Nat} {f : Nat → Int32} {D : va_G} {ad : Nat → Nat} {ca : Nat → ClassId} {Q : State → Prop} {cells slots : Nat} {i : Int32}
set_option maxRecDepth 100000 in
theorem lc_3 (hl : l.stackTraces = false) (X : LX p s m c b L f D ad ca) (hce : cells + 1 ≤ 601024) (hsl : slots + 6 ≤ 7293034) (K : LK p l e s m below meth c b D ad ca Q i 671 (cells + 1) (slots + 6)) : LK p l e s m below meth c b D ad ca Q i 185 cells slots :=
  lx_h0 (og := 445) X (by decide +kernel) (by decide +kernel) (by decide +kernel) (by decide +kernel) (by decide +kernel) (by decide +kernel) ⟨by decide +kernel, by decide +kernel, by decide +kernel, by decide +kernel, by decide +kernel, by decide +kernel, by decide +kernel, by decide +kernel, by decide +kernel, by decide +kernel, by decide +kernel, by decide +kernel, by decide +kernel, by decide +kernel, by decide +kernel, by decide⟩ hf_0 lm_68 (fun _ _ _ h => lj_compile hl h) hce hsl K
set_option maxRecDepth 100000 in
theorem lc_4 (hl : l.stackTraces = false) (X : LX p s m c b L f D ad ca) (hi1 : vp_in (i + Int32.ofInt 1) L) (hi2 : vp_in (i + Int32.ofInt 2) L) (hce : cells + 1 ≤ 601024) (hsl : slots + 6 ≤ 7293034) (K : LK p l e s m below meth c b D ad ca Q i 671 (cells + 1) (slots + 6)) : LK p l e s m below meth c b D ad ca Q i 229 cells slots :=
  lx_h2 (og := 377) X hi1 hi2 (by decide +kernel) ⟨by decide +kernel, by decide +kernel, by decide +kernel, by decide +kernel, by decide +kernel⟩ ⟨by decide +kernel, by decide +kernel, by decide +kernel, by decide +kernel, by decide +kernel⟩ (by decide +kernel) (by decide +kernel) (by decide +kernel) (by decide +kernel) ⟨by decide +kernel, by decide +kernel, by decide +kernel, by decide +kernel, by decide +kernel⟩ ⟨by decide +kernel, by decide +kernel, by decide +kernel, by decide +kernel, by decide +kernel⟩ (by decide +kernel) ⟨by decide +kernel, by decide +kernel, by decide +kernel, by decide +kernel, by decide +kernel, by decide +kernel, by decide +kernel, by decide +kernel, by decide +kernel, by decide +kernel, by decide +kernel, by decide +kernel, by decide +kernel, by decide +kernel, by decide +kernel, by decide⟩ hf_1 lm_75 (fun _ _ _ h a b => lj_code hl h a b) hce hsl K
set_option maxRecDepth 100000 in
theorem lc_5 (hl : l.stackTraces = false) (X : LX p s m c b L f D ad ca) (hce : cells + 1 ≤ 601024) (hsl : slots + 6 ≤ 7293034) (K : LK p l e s m below meth c b D ad ca Q i 671 (cells + 1) (slots + 6)) : LK p l e s m below meth c b D ad ca Q i 297 cells slots :=
  lx_h0 (og := 333) X (by decide +kernel) (by decide +kernel) (by decide +kernel) (by decide +kernel) (by decide +kernel) (by decide +kernel) ⟨by decide +kernel, by decide +kernel, by decide +kernel, by decide +kernel, by decide +kernel, by decide +kernel, by decide +kernel, by decide +kernel, by decide +kernel, by decide +kernel, by decide +kernel, by decide +kernel, by decide +kernel, by decide +kernel, by decide +kernel, by decide⟩ hf_2 lm_78 (fun _ _ _ h => lj_time hl h) hce hsl K
set_option maxRecDepth 100000 in
theorem lc_6 (hl : l.stackTraces = false) (X : LX p s m c b L f D ad ca) (hce : cells + 1 ≤ 601024) (hsl : slots + 6 ≤ 7293034) (K : LK p l e s m below meth c b D ad ca Q i 671 (cells + 1) (slots + 6)) : LK p l e s m below meth c b D ad ca Q i 341 cells slots :=
  lx_h0 (og := 289) X (by decide +kernel) (by decide +kernel) (by decide +kernel) (by decide +kernel) (by decide +kernel) (by decide +kernel) ⟨by decide +kernel, by decide +kernel, by decide +kernel, by decide +kernel, by decide +kernel, by decide +kernel, by decide +kernel, by decide +kernel, by decide +kernel, by decide +kernel, by decide +kernel, by decide +kernel, by decide +kernel, by decide +kernel, by decide +kernel, by decide⟩ hf_3 lm_81 (fun _ _ _ h => lj_depth hl h) hce hsl K
set_option maxRecDepth 100000 in
theorem lc_7 (hl : l.stackTraces = false) (X : LX p s m c b L f D ad ca) (hi1 : vp_in (i + Int32.ofInt 1) L) (hi2 : vp_in (i + Int32.ofInt 2) L) (hce : cells + 1 ≤ 601024) (hsl : slots + 6 ≤ 7293034) (K : LK p l e s m below meth c b D ad ca Q i 671 (cells + 1) (slots + 6)) : LK p l e s m below meth c b D ad ca Q i 385 cells slots :=
  lx_h2 (og := 221) X hi1 hi2 (by decide +kernel) ⟨by decide +kernel, by decide +kernel, by decide +kernel, by decide +kernel, by decide +kernel⟩ ⟨by decide +kernel, by decide +kernel, by decide +kernel, by decide +kernel, by decide +kernel⟩ (by decide +kernel) (by decide +kernel) (by decide +kernel) (by decide +kernel) ⟨by decide +kernel, by decide +kernel, by decide +kernel, by decide +kernel, by decide +kernel⟩ ⟨by decide +kernel, by decide +kernel, by decide +kernel, by decide +kernel, by decide +kernel⟩ (by decide +kernel) ⟨by decide +kernel, by decide +kernel, by decide +kernel, by decide +kernel, by decide +kernel, by decide +kernel, by decide +kernel, by decide +kernel, by decide +kernel, by decide +kernel, by decide +kernel, by decide +kernel, by decide +kernel, by decide +kernel, by decide +kernel, by decide⟩ hf_4 lm_84 (fun _ _ _ h a b => lj_proc hl h a b) hce hsl K
set_option maxRecDepth 100000 in
theorem lc_9 (hl : l.stackTraces = false) (X : LX p s m c b L f D ad ca) (hi1 : vp_in (i + Int32.ofInt 1) L) (hce : cells + 1 ≤ 601024) (hsl : slots + 6 ≤ 7293034) (K : LK p l e s m below meth c b D ad ca Q i 671 (cells + 1) (slots + 6)) : LK p l e s m below meth c b D ad ca Q i 490 cells slots :=
  lx_h1 (og := 128) X hi1 (by decide +kernel) ⟨by decide +kernel, by decide +kernel, by decide +kernel, by decide +kernel, by decide +kernel⟩ (by decide +kernel) (by decide +kernel) (by decide +kernel) (by decide +kernel) ⟨by decide +kernel, by decide +kernel, by decide +kernel, by decide +kernel, by decide +kernel⟩ (by decide +kernel) ⟨by decide +kernel, by decide +kernel, by decide +kernel, by decide +kernel, by decide +kernel, by decide +kernel, by decide +kernel, by decide +kernel, by decide +kernel, by decide +kernel, by decide +kernel, by decide +kernel, by decide +kernel, by decide +kernel, by decide +kernel, by decide⟩ hf_5 lm_93 (fun _ _ _ h a => lj_get hl h a) hce hsl K
set_option maxRecDepth 100000 in
theorem lc_10 (hl : l.stackTraces = false) (X : LX p s m c b L f D ad ca) (hce : cells + 1 ≤ 601024) (hsl : slots + 6 ≤ 7293034) (K : LK p l e s m below meth c b D ad ca Q i 671 (cells + 1) (slots + 6)) : LK p l e s m below meth c b D ad ca Q i 546 cells slots :=
  lx_h0 (og := 84) X (by decide +kernel) (by decide +kernel) (by decide +kernel) (by decide +kernel) (by decide +kernel) (by decide +kernel) ⟨by decide +kernel, by decide +kernel, by decide +kernel, by decide +kernel, by decide +kernel, by decide +kernel, by decide +kernel, by decide +kernel, by decide +kernel, by decide +kernel, by decide +kernel, by decide +kernel, by decide +kernel, by decide +kernel, by decide +kernel, by decide⟩ hf_6 lm_96 (fun _ _ _ h => lj_run hl h) hce hsl K
set_option maxRecDepth 100000 in
theorem lc_12 (hl : l.stackTraces = false) (X : LX p s m c b L f D ad ca) (hi1 : vp_in (i + Int32.ofInt 1) L) (hce : cells + 1 ≤ 601024) (hsl : slots + 6 ≤ 7293034) (K : LK p l e s m below meth c b D ad ca Q i 671 (cells + 1) (slots + 6)) : LK p l e s m below meth c b D ad ca Q i 615 cells slots :=
  lx_h1 (og := 3) X hi1 (by decide +kernel) ⟨by decide +kernel, by decide +kernel, by decide +kernel, by decide +kernel, by decide +kernel⟩ (by decide +kernel) (by decide +kernel) (by decide +kernel) (by decide +kernel) ⟨by decide +kernel, by decide +kernel, by decide +kernel, by decide +kernel, by decide +kernel⟩ (by decide +kernel) ⟨by decide +kernel, by decide +kernel, by decide +kernel, by decide +kernel, by decide +kernel, by decide +kernel, by decide +kernel, by decide +kernel, by decide +kernel, by decide +kernel, by decide +kernel, by decide +kernel, by decide +kernel, by decide +kernel, by decide +kernel, by decide⟩ hf_7 lm_103 (fun _ _ _ h a => lj_output hl h a) hce hsl K
set_option maxRecDepth 100000 in
theorem lc_1 (X : LX p s m c b L f D ad ca) (hce : cells + 1 ≤ 601024) (hsl : slots + 6 ≤ 7293034) (K : LK p l e s m below meth c b D ad ca Q i 671 (cells + 1) (slots + 6)) : LK p l e s m below meth c b D ad ca Q i 161 cells slots := by
  intro H locs ls iv av lv hV hR hl
  have hx := X.1.1
  have hb := X.1.2.1
  obtain ⟨g1, g2, g3⟩ := l_wipe (D := 69) (lv := lv) (by omega) hR
  refine lv_aload_n (k := 1) (i := 1) hx hb (by decide +kernel) rfl (lv_at hl 1 rfl) ?_
  refine lx_cc (k := 1) (a := 55) (As := []) (rest := []) X lm_55 g1 hV hl.1 (Nat.zero_le _) (by omega) (by omega) (by decide +kernel) (fun H locs hV => ?_)
  refine lv_aload_n (k := 2) (i := 2) hx hb (by decide +kernel) rfl (lv_at hl 2 rfl) ?_
  refine lx_cm (k := 74) (a := 58) (As := []) (rest := []) X lm_58 g2 hV hl.1 (Nat.zero_le _) (by omega) (by omega) (by decide +kernel) (fun H locs hV => ?_)
  refine lv_goto (off := 502) (tgt := 671) hx hb (by decide +kernel) (by decide) ?_
  exact W.widen (k := cells + 1) (n := slots + 6) (by omega) (by omega) (K H locs ls _ _ _ hV g3 hl)
set_option maxRecDepth 100000 in
theorem lc_2 (X : LX p s m c b L f D ad ca) (hce : cells + 1 ≤ 601024) (hsl : slots + 6 ≤ 7293034) (K : LK p l e s m below meth c b D ad ca Q i 671 (cells + 1) (slots + 6)) : LK p l e s m below meth c b D ad ca Q i 172 cells slots := by
  intro H locs ls iv av lv hV hR hl
  have hx := X.1.1
  have hb := X.1.2.1
  obtain ⟨r, g1, g2, g3⟩ := l_length (D := 69) (lv := lv) (by omega) hR
  refine lv_aload_n (k := 1) (i := 1) hx hb (by decide +kernel) rfl (lv_at hl 1 rfl) ?_
  refine lx_cc (k := 2) (a := 59) (As := []) (rest := []) X lm_59 g1 hV hl.1 (Nat.zero_le _) (by omega) (by omega) (by decide +kernel) (fun H locs hV => ?_)
  refine lv_aload_n (k := 2) (i := 2) hx hb (by decide +kernel) rfl (lv_at hl 2 rfl) ?_
  refine lx_cm (k := 75) (a := 62) (As := []) (rest := [.int r]) X lm_62 g2 hV hl.1 (Nat.le_of_ble_eq_true rfl) (by omega) (by omega) (by decide +kernel) (fun H locs hV => ?_)
  refine lv_icmp_eq (off := 491) (tgt := 671) hx hb (by decide +kernel) (by decide) (fun _ => ?_) (fun h => absurd rfl h)
  exact W.widen (k := cells + 1) (n := slots + 6) (by omega) (by omega) (K H locs ls _ _ _ hV g3 hl)
set_option maxRecDepth 100000 in
theorem lc_8 (X : LX p s m c b L f D ad ca) (hi1 : vp_in (i + Int32.ofInt 1) L) (hi2 : vp_in (i + Int32.ofInt 2) L) (hce : cells + 1 ≤ 601024) (hsl : slots + 6 ≤ 7293034) (K : LK p l e s m below meth c b D ad ca Q i 671 (cells + 1) (slots + 6)) : LK p l e s m below meth c b D ad ca Q i 453 cells slots := by
  intro H locs ls iv av lv hV hR hl
  have hx := X.1.1
  have hb := X.1.2.1
  obtain ⟨r, av1, av2, -, g1, g2, g3⟩ := l_set (D := 69) (lv := lv) (by omega) hR (f (i + Int32.ofInt 1).toNatClampNeg) (f (i + Int32.ofInt 2).toNatClampNeg)
  refine lv_aload_n (k := 1) (i := 1) hx hb (by decide +kernel) rfl (lv_at hl 1 rfl) ?_
  refine lx_sl (k := 1) X hi1 (lv_at hl 0 rfl) (lv_at hl 4 rfl) hV.2.2 ⟨by decide +kernel, by decide +kernel, by decide +kernel, by decide +kernel, by decide +kernel⟩ ?_
  refine lx_sl (k := 2) X hi2 (lv_at hl 0 rfl) (lv_at hl 4 rfl) hV.2.2 ⟨by decide +kernel, by decide +kernel, by decide +kernel, by decide +kernel, by decide +kernel⟩ ?_
  refine lx_cc (k := 8) (a := 85) (As := [.int (f (i + Int32.ofInt 1).toNatClampNeg), .int (f (i + Int32.ofInt 2).toNatClampNeg)]) (rest := []) X lm_85 g1 hV hl.1 (Nat.zero_le _) (by omega) (by omega) (by decide +kernel) (fun H locs hV => ?_)
  refine lv_aload_n (k := 2) (i := 2) hx hb (by decide +kernel) rfl (lv_at hl 2 rfl) ?_
  refine lx_sl (k := 1) X hi1 (lv_at hl 0 rfl) (lv_at hl 4 rfl) hV.2.2 ⟨by decide +kernel, by decide +kernel, by decide +kernel, by decide +kernel, by decide +kernel⟩ ?_
  refine lx_sl (k := 2) X hi2 (lv_at hl 0 rfl) (lv_at hl 4 rfl) hV.2.2 ⟨by decide +kernel, by decide +kernel, by decide +kernel, by decide +kernel, by decide +kernel⟩ ?_
  refine lx_cm (k := 109) (a := 89) (As := [.int (f (i + Int32.ofInt 1).toNatClampNeg), .int (f (i + Int32.ofInt 2).toNatClampNeg)]) (rest := [.int r]) X lm_89 g2 hV hl.1 (Nat.le_of_ble_eq_true rfl) (by omega) (by omega) (by decide +kernel) (fun H locs hV => ?_)
  refine lv_icmp_eq (off := 186) (tgt := 671) hx hb (by decide +kernel) (by decide) (fun _ => ?_) (fun h => absurd rfl h)
  exact W.widen (k := cells + 1) (n := slots + 6) (by omega) (by omega) (K H locs ls _ _ _ hV g3 hl)
set_option maxRecDepth 100000 in
theorem lc_11 (X : LX p s m c b L f D ad ca) (hi1 : vp_in (i + Int32.ofInt 1) L) (hce : cells + 1 ≤ 601024) (hsl : slots + 6 ≤ 7293034) (K : LK p l e s m below meth c b D ad ca Q i 671 (cells + 1) (slots + 6)) : LK p l e s m below meth c b D ad ca Q i 590 cells slots := by
  intro H locs ls iv av lv hV hR hl
  have hx := X.1.1
  have hb := X.1.2.1
  obtain ⟨r, g1, g2, g3⟩ := l_latest (D := 69) (lv := lv) (by omega) hR (f (i + Int32.ofInt 1).toNatClampNeg)
  refine lv_aload_n (k := 1) (i := 1) hx hb (by decide +kernel) rfl (lv_at hl 1 rfl) ?_
  refine lx_sl (k := 1) X hi1 (lv_at hl 0 rfl) (lv_at hl 4 rfl) hV.2.2 ⟨by decide +kernel, by decide +kernel, by decide +kernel, by decide +kernel, by decide +kernel⟩ ?_
  refine lx_cc (k := 11) (a := 97) (As := [.int (f (i + Int32.ofInt 1).toNatClampNeg)]) (rest := []) X lm_97 g1 hV hl.1 (Nat.zero_le _) (by omega) (by omega) (by decide +kernel) (fun H locs hV => ?_)
  refine lv_aload_n (k := 2) (i := 2) hx hb (by decide +kernel) rfl (lv_at hl 2 rfl) ?_
  refine lx_sl (k := 1) X hi1 (lv_at hl 0 rfl) (lv_at hl 4 rfl) hV.2.2 ⟨by decide +kernel, by decide +kernel, by decide +kernel, by decide +kernel, by decide +kernel⟩ ?_
  refine lx_cm (k := 115) (a := 100) (As := [.int (f (i + Int32.ofInt 1).toNatClampNeg)]) (rest := [.int r]) X lm_100 g2 hV hl.1 (Nat.le_of_ble_eq_true rfl) (by omega) (by omega) (by decide +kernel) (fun H locs hV => ?_)
  refine lv_icmp_eq (off := 61) (tgt := 671) hx hb (by decide +kernel) (by decide) (fun _ => ?_) (fun h => absurd rfl h)
  exact W.widen (k := cells + 1) (n := slots + 6) (by omega) (by omega) (K H locs ls _ _ _ hV g3 hl)
set_option maxRecDepth 100000 in
theorem lc_0 (X : LX p s m c b L f D ad ca) (hi1 : vp_in (i + Int32.ofInt 1) L) (hi2 : vp_in (i + Int32.ofInt 2) L) (hce : cells + 1 ≤ 601024) (hsl : slots + 6 ≤ 7293034) (K : LK p l e s m below meth c b D ad ca Q i 671 (cells + 1) (slots + 6)) : LK p l e s m below meth c b D ad ca Q i 104 cells slots := by
  intro H locs ls iv av lv hV hR hl
  have hx := X.1.1
  have hb := X.1.2.1
  obtain ⟨r, iv1, av1, iv2, av2, -, g1, g2, g3⟩ := l_type (D := 69) (lv := lv) (by omega) hR (lxw (f (i + Int32.ofInt 1).toNatClampNeg) (f (i + Int32.ofInt 2).toNatClampNeg))
  refine lv_aload_n (k := 1) (i := 1) hx hb (by decide +kernel) rfl (lv_at hl 1 rfl) ?_
  refine lx_sl (k := 1) X hi1 (lv_at hl 0 rfl) (lv_at hl 4 rfl) hV.2.2 ⟨by decide +kernel, by decide +kernel, by decide +kernel, by decide +kernel, by decide +kernel⟩ ?_
  refine lv_i2l hx hb (by decide +kernel) rfl ?_
  refine lv_bipush (n := 32) (v := 32) hx hb (by decide +kernel) rfl ?_
  refine lv_lshl hx hb (by decide +kernel) rfl ?_
  refine lx_sl (k := 2) X hi2 (lv_at hl 0 rfl) (lv_at hl 4 rfl) hV.2.2 ⟨by decide +kernel, by decide +kernel, by decide +kernel, by decide +kernel, by decide +kernel⟩ ?_
  refine lv_i2l hx hb (by decide +kernel) rfl ?_
  refine lv_ldc2 (index := 48) (v := 4294967295) hx hb X.1.2.2.2.1 (X.1.2.2.2.2 _ lx_d48) (by decide +kernel) ?_
  refine lv_land hx hb (by decide +kernel) ?_
  refine lv_lor hx hb (by decide +kernel) ?_
  refine lx_cc (k := 0) (a := 50) (As := [.long (lxw (f (i + Int32.ofInt 1).toNatClampNeg) (f (i + Int32.ofInt 2).toNatClampNeg))]) (rest := []) X lm_50 g1 hV hl.1 (Nat.zero_le _) (by omega) (by omega) (by decide +kernel) (fun H locs hV => ?_)
  refine lv_aload_n (k := 2) (i := 2) hx hb (by decide +kernel) rfl (lv_at hl 2 rfl) ?_
  refine lx_sl (k := 1) X hi1 (lv_at hl 0 rfl) (lv_at hl 4 rfl) hV.2.2 ⟨by decide +kernel, by decide +kernel, by decide +kernel, by decide +kernel, by decide +kernel⟩ ?_
  refine lv_i2l hx hb (by decide +kernel) rfl ?_
  refine lv_bipush (n := 32) (v := 32) hx hb (by decide +kernel) rfl ?_
  refine lv_lshl hx hb (by decide +kernel) rfl ?_
  refine lx_sl (k := 2) X hi2 (lv_at hl 0 rfl) (lv_at hl 4 rfl) hV.2.2 ⟨by decide +kernel, by decide +kernel, by decide +kernel, by decide +kernel, by decide +kernel⟩ ?_
  refine lv_i2l hx hb (by decide +kernel) rfl ?_
  refine lv_ldc2 (index := 48) (v := 4294967295) hx hb X.1.2.2.2.1 (X.1.2.2.2.2 _ lx_d48) (by decide +kernel) ?_
  refine lv_land hx hb (by decide +kernel) ?_
  refine lv_lor hx hb (by decide +kernel) ?_
  refine lx_cm (k := 73) (a := 54) (As := [.long (lxw (f (i + Int32.ofInt 1).toNatClampNeg) (f (i + Int32.ofInt 2).toNatClampNeg))]) (rest := [.int r]) X lm_54 g2 hV hl.1 (Nat.le_of_ble_eq_true rfl) (by omega) (by omega) (by decide +kernel) (fun H locs hV => ?_)
  refine lv_icmp_eq (off := 515) (tgt := 671) hx hb (by decide +kernel) (by decide) (fun _ => ?_) (fun h => absurd rfl h)
  exact W.widen (k := cells + 1) (n := slots + 6) (by omega) (by omega) (K H locs ls _ _ _ hV g3 hl)
set_option maxRecDepth 100000 in
theorem lx_sw : decode code 39 = .ok (.tableswitch 632 0 12 #[65, 122, 133, 146, 190, 258, 302, 346, 414, 451, 507, 551, 576], 65) := by decide +kernel
theorem lx_tsw (X : LX p s m c b L f D ad ca) {H : Heap} {locs : List Loc} {ls : Array Slot} {x : Int32} (kk : ∀ t ∈ [104, 161, 172, 185, 229, 297, 341, 385, 453, 490, 546, 590, 615, 671], W p l e room_1 s m #[Value.ref b] below meth c H locs cells slots Q (F0 m t ls [])) : W p l e room_1 s m #[Value.ref b] below meth c H locs cells slots Q (F0 m 39 ls [.int x]) := by
  have hx := X.1.1
  have hb := X.1.2.1
  by_cases h : x.toInt < 0 ∨ 12 < x.toInt
  · exact lv_tableOut (tgt := 671) hx hb lx_sw h (by decide) (kk 671 (by decide))
  · have h1 : ¬ x.toInt < 0 := fun q => h (Or.inl q)
    have h2 : ¬ 12 < x.toInt := fun q => h (Or.inr q)
    obtain ⟨k, hk⟩ : ∃ k : Nat, x.toInt = (k : Int) := ⟨x.toInt.toNat, by omega⟩
    have hk2 : k < 13 := by omega
    have he : (x.toInt - 0).toNat = k := by omega
    match k, hk2, he with
    | 0, _, he => exact lv_tableIn (off := 65) (tgt := 104) hx hb lx_sw h1 h2 (by rw [he]; rfl) (by decide) (kk 104 (by decide))
    | 1, _, he => exact lv_tableIn (off := 122) (tgt := 161) hx hb lx_sw h1 h2 (by rw [he]; rfl) (by decide) (kk 161 (by decide))
    | 2, _, he => exact lv_tableIn (off := 133) (tgt := 172) hx hb lx_sw h1 h2 (by rw [he]; rfl) (by decide) (kk 172 (by decide))
    | 3, _, he => exact lv_tableIn (off := 146) (tgt := 185) hx hb lx_sw h1 h2 (by rw [he]; rfl) (by decide) (kk 185 (by decide))
    | 4, _, he => exact lv_tableIn (off := 190) (tgt := 229) hx hb lx_sw h1 h2 (by rw [he]; rfl) (by decide) (kk 229 (by decide))
    | 5, _, he => exact lv_tableIn (off := 258) (tgt := 297) hx hb lx_sw h1 h2 (by rw [he]; rfl) (by decide) (kk 297 (by decide))
    | 6, _, he => exact lv_tableIn (off := 302) (tgt := 341) hx hb lx_sw h1 h2 (by rw [he]; rfl) (by decide) (kk 341 (by decide))
    | 7, _, he => exact lv_tableIn (off := 346) (tgt := 385) hx hb lx_sw h1 h2 (by rw [he]; rfl) (by decide) (kk 385 (by decide))
    | 8, _, he => exact lv_tableIn (off := 414) (tgt := 453) hx hb lx_sw h1 h2 (by rw [he]; rfl) (by decide) (kk 453 (by decide))
    | 9, _, he => exact lv_tableIn (off := 451) (tgt := 490) hx hb lx_sw h1 h2 (by rw [he]; rfl) (by decide) (kk 490 (by decide))
    | 10, _, he => exact lv_tableIn (off := 507) (tgt := 546) hx hb lx_sw h1 h2 (by rw [he]; rfl) (by decide) (kk 546 (by decide))
    | 11, _, he => exact lv_tableIn (off := 551) (tgt := 590) hx hb lx_sw h1 h2 (by rw [he]; rfl) (by decide) (kk 590 (by decide))
    | 12, _, he => exact lv_tableIn (off := 576) (tgt := 615) hx hb lx_sw h1 h2 (by rw [he]; rfl) (by decide) (kk 615 (by decide))
    | k + 13, hk2, _ => exact absurd hk2 (by omega)
theorem lx_cases (hl : l.stackTraces = false) (X : LX p s m c b L f D ad ca) (hi1 : vp_in (i + Int32.ofInt 1) L) (hi2 : vp_in (i + Int32.ofInt 2) L) (hce : cells + 1 ≤ 601024) (hsl : slots + 6 ≤ 7293034) (K : LK p l e s m below meth c b D ad ca Q i 671 (cells + 1) (slots + 6)) : ∀ t ∈ [104, 161, 172, 185, 229, 297, 341, 385, 453, 490, 546, 590, 615, 671], LK p l e s m below meth c b D ad ca Q i t cells slots := by
  intro t ht
  simp only [List.mem_cons, List.not_mem_nil, or_false] at ht
  rcases ht with rfl | rfl | rfl | rfl | rfl | rfl | rfl | rfl | rfl | rfl | rfl | rfl | rfl | rfl
  · exact lc_0 X hi1 hi2 hce hsl K
  · exact lc_1 X hce hsl K
  · exact lc_2 X hce hsl K
  · exact lc_3 hl X hce hsl K
  · exact lc_4 hl X hi1 hi2 hce hsl K
  · exact lc_5 hl X hce hsl K
  · exact lc_6 hl X hce hsl K
  · exact lc_7 hl X hi1 hi2 hce hsl K
  · exact lc_8 X hi1 hi2 hce hsl K
  · exact lc_9 hl X hi1 hce hsl K
  · exact lc_10 hl X hce hsl K
  · exact lc_11 X hi1 hce hsl K
  · exact lc_12 hl X hi1 hce hsl K
  · exact fun H locs ls iv av lv hV hR hl => W.widen (k := cells + 1) (n := slots + 6) (by omega) (by omega) (K H locs ls iv av lv hV hR hl)
theorem lx_cond {L t : Nat} (hL : L ≤ 1536) (ht : 3 * t ≤ L) (h : ¬ Int32.ofNat L - 3 < nI (3 * t)) : 3 * t + 3 ≤ L := by
  by_cases h3 : 3 ≤ L
  · have e1 : Int32.ofNat L - 3 = nI (L - 3) := pk_sub (b := 3) h3
    rw [e1, nI_ltI (by omega) (by omega)] at h
    omega
  · have ht0 : t = 0 := by omega
    subst ht0
    have : L = 0 ∨ L = 1 ∨ L = 2 := by omega
    rcases this with rfl | rfl | rfl
    · exact absurd (by decide) h
    · exact absurd (by decide) h
    · exact absurd (by decide) h
set_option maxRecDepth 100000 in
theorem lx_loop (hl : l.stackTraces = false) (hL : L ≤ 1536) (X : LX p s m c b L f D ad ca) (K : ∀ (H : Heap) (locs : List Loc) (ls : Array Slot) (cells slots : Nat), cells ≤ 601024 → slots ≤ 7293034 → va_S (lxA s) s.heap H locs → W p l e room_1 s m #[Value.ref b] below meth c H locs cells slots Q (F0 m 677 ls [])) : ∀ (n t : Nat), L < 3 * t + n → 3 * t ≤ L → LK p l e s m below meth c b D ad ca Q (nI (3 * t)) 23 (100 + t) (10000 + 6 * t) := by
  intro n
  induction n with
  | zero => intro t h1 h2; omega
  | succ n ih =>
    intro t h1 h2 H locs ls iv av lv hV hR hls
    have hx := X.1.1
    have hb := X.1.2.1
    have hbA : ¬ lxA s b := fun q => absurd (show s.heap.size ≤ b from q) (Nat.not_le.mpr X.2.2.2.2.2)
    refine lv_iload (i := 4) hx hb (by decide +kernel) (lv_at hls 4 rfl) ?_
    refine lv_aload_n (k := 0) (i := 0) hx hb (by decide +kernel) rfl (lv_at hls 0 rfl) ?_
    refine va_slen (A := lxA s) hx hb X.2.2.2.2.1 X.2.2.2.2.2 hbA hV.2.2 (by decide +kernel) ?_
    refine lv_iconst (n := 3) (v := 3) hx hb (by decide +kernel) rfl ?_
    refine lv_isub hx hb (by decide +kernel) ?_
    refine lv_icmp_gt (off := 648) (tgt := 677) hx hb (by decide +kernel) (by decide) (fun _ => K H locs ls _ _ (by omega) (by omega) hV.2.2) (fun hc => ?_)
    have h3 : 3 * t + 3 ≤ L := lx_cond hL h2 hc
    have hi0 : vp_in (nI (3 * t)) L := xi_in_of (nI_bd (by omega) (by omega))
    have hi1 : vp_in (nI (3 * t) + Int32.ofInt 1) L := by
      rw [show nI (3 * t) + Int32.ofInt 1 = nI (3 * t + 1) from nI_add _ 1]
      exact xi_in_of (nI_bd (by omega) (by omega))
    have hi2 : vp_in (nI (3 * t) + Int32.ofInt 2) L := by
      rw [show nI (3 * t) + Int32.ofInt 2 = nI (3 * t + 2) from nI_add _ 2]
      exact xi_in_of (nI_bd (by omega) (by omega))
    refine lv_aload_n (k := 0) (i := 0) hx hb (by decide +kernel) rfl (lv_at hls 0 rfl) ?_
    refine lv_iload (i := 4) hx hb (by decide +kernel) (lv_at hls 4 rfl) ?_
    refine va_sld (A := lxA s) hx hb X.2.2.2.2.1 X.2.2.2.2.2 hbA hV.2.2 hi0 (by decide +kernel) ?_
    refine lv_bipush (n := 15) (v := 15) hx hb (by decide +kernel) rfl ?_
    refine lv_iand hx hb (by decide +kernel) ?_
    refine lx_tsw X (fun k hk => ?_)
    refine lx_cases hl X hi1 hi2 (by omega) (by omega) ?_ k hk H locs ls iv av lv hV hR hls
    intro H locs ls iv av lv hV hR hls
    refine lv_iinc (i := 4) (k := 4) (n := 3) (v := nI (3 * (t + 1))) hx hb (by decide +kernel) hls rfl (nI_add (3 * t) 3) (by decide) rfl (fun ls hls => ?_)
    refine lv_goto (off := -651) (tgt := 23) hx hb (by decide +kernel) (by decide) ?_
    exact ih (t + 1) (by omega) (by omega) H locs ls iv av lv hV hR (lv_sub hls [1, 2, 3, 4, 0] rfl)
end LXD
