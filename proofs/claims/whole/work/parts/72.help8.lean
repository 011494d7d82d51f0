/-! The eight helpers of the law. -/
theorem lh_pre0 {cc : ByteArray} (d0 : decode cc 0 = .ok (.aload_n 1, 1)) (d1 : decode cc 1 = .ok (.iconst 0, 1)) (d2 : decode cc 2 = .ok (.aload_n 0, 1)) : lh_pre cc 3 [] 3 := by
  intro p l e R s m args below meth c ad Q H locs ls cells slots hx hb hl k
  refine lv_aload_n hx hb d0 rfl (hl.2.2.2 1 (.ref 60) rfl) ?_
  refine lv_iconst (v := 0) hx hb d1 rfl ?_
  refine lv_aload_n hx hb d2 rfl (hl.2.2.2 0 (.ref 0) rfl) ?_
  exact k
theorem lh_pre1 {cc : ByteArray} {a : Int32} (d0 : decode cc 0 = .ok (.aload_n 2, 1)) (d1 : decode cc 1 = .ok (.iconst 0, 1)) (d2 : decode cc 2 = .ok (.aload_n 0, 1)) (d3 : decode cc 3 = .ok (.iload_n 1, 1)) : lh_pre cc 4 [.int a] 4 := by
  intro p l e R s m args below meth c ad Q H locs ls cells slots hx hb hl k
  refine lv_aload_n hx hb d0 rfl (hl.2.2.2 2 (.ref 60) rfl) ?_
  refine lv_iconst (v := 0) hx hb d1 rfl ?_
  refine lv_aload_n hx hb d2 rfl (hl.2.2.2 0 (.ref 0) rfl) ?_
  refine lv_iload_n hx hb d3 rfl (hl.2.2.2 1 (.int a) rfl) ?_
  exact k
theorem lh_pre2 {cc : ByteArray} {a b : Int32} (d0 : decode cc 0 = .ok (.aload_n 3, 1)) (d1 : decode cc 1 = .ok (.iconst 0, 1)) (d2 : decode cc 2 = .ok (.aload_n 0, 1)) (d3 : decode cc 3 = .ok (.iload_n 1, 1)) (d4 : decode cc 4 = .ok (.iload_n 2, 1)) : lh_pre cc 5 [.int a, .int b] 5 := by
  intro p l e R s m args below meth c ad Q H locs ls cells slots hx hb hl k
  refine lv_aload_n hx hb d0 rfl (hl.2.2.2 3 (.ref 60) rfl) ?_
  refine lv_iconst (v := 0) hx hb d1 rfl ?_
  refine lv_aload_n hx hb d2 rfl (hl.2.2.2 0 (.ref 0) rfl) ?_
  refine lv_iload_n hx hb d3 rfl (hl.2.2.2 1 (.int a) rfl) ?_
  refine lv_iload_n hx hb d4 rfl (hl.2.2.2 2 (.int b) rfl) ?_
  exact k
theorem lh_hdn {cc : ByteArray} {nL h : Nat} {n : Int} {ret : Int32} {k : Fin 4} (hk : (k : Nat) < nL) (hr : Int32.ofInt n = ret) (d0 : decode cc h = .ok (.astore_n k, 1)) (d1 : decode cc (h + 1) = .ok (.iconst n, 1)) (d2 : decode cc (h + 2) = .ok (.ireturn, 1)) : lh_hd cc nL h ret := by
  intro p l e R s m args below meth c Q H locs ls cells slots q hx hb hl
  refine ⟨h + 2, d2, fun kk => ?_⟩
  refine lv_astore_n hx hb d0 rfl hl hk rfl (fun ls' hl' => ?_)
  exact lv_iconst hx hb d1 hr (kk ls')
theorem lh_hdj {cc : ByteArray} {nL h : Nat} {n : Int} {ret : Int32} {k : Nat} (hk : k < nL) (hr : Int32.ofInt n = ret) (d0 : decode cc h = .ok (.astore k, 2)) (d1 : decode cc (h + 2) = .ok (.iconst n, 1)) (d2 : decode cc (h + 3) = .ok (.ireturn, 1)) : lh_hd cc nL h ret := by
  intro p l e R s m args below meth c Q H locs ls cells slots q hx hb hl
  refine ⟨h + 3, d2, fun kk => ?_⟩
  refine lv_astore hx hb d0 hl hk rfl (fun ls' hl' => ?_)
  exact lv_iconst hx hb d1 hr (kk ls')
def hC (j : Nat) : ByteArray := match j with
  | 0 => method_3_code
  | 1 => method_4_code
  | 2 => method_5_code
  | 3 => method_6_code
  | 4 => method_7_code
  | 5 => method_8_code
  | 6 => method_9_code
  | _ => method_10_code
def hL (j : Nat) : Nat := match j with
  | 0 => 3
  | 1 => 5
  | 2 => 3
  | 3 => 3
  | 4 => 5
  | 5 => 4
  | 6 => 3
  | _ => 4
def hY (j : Nat) : MethodName := match j with
  | 0 => ⟨"TimedCompilerLaw", "compile", "(LTimedCompiler;[J)I"⟩
  | 1 => ⟨"TimedCompilerLaw", "code", "(LTimedCompiler;II[J)I"⟩
  | 2 => ⟨"TimedCompilerLaw", "time", "(LTimedCompiler;[J)I"⟩
  | 3 => ⟨"TimedCompilerLaw", "depth", "(LTimedCompiler;[J)I"⟩
  | 4 => ⟨"TimedCompilerLaw", "procedure", "(LTimedCompiler;II[J)I"⟩
  | 5 => ⟨"TimedCompilerLaw", "get", "(LTimedCompiler;I[J)I"⟩
  | 6 => ⟨"TimedCompilerLaw", "run", "(LTimedCompiler;[J)I"⟩
  | _ => ⟨"TimedCompilerLaw", "output", "(LTimedCompiler;I[J)I"⟩
def hH (j : Nat) : List (Nat × Nat × Nat × Nat) := match j with
  | 0 => [(0, 8, 11, 13), (0, 8, 14, 15)]
  | 1 => [(0, 10, 13, 21)]
  | 2 => [(0, 8, 11, 21)]
  | 3 => [(0, 8, 11, 21)]
  | 4 => [(0, 10, 13, 21)]
  | 5 => [(0, 9, 12, 36)]
  | 6 => [(0, 8, 11, 21)]
  | _ => [(0, 9, 12, 36)]
def hWd (j : Nat) : List Cond := lh_W (hY j) (hC j) (hL j) (hH j)
/-- what a call of a helper gives -/
def LHC (l : Launch) (d j : Nat) (As : List Value) (iv : Nat → Int32) (av : Nat → Nat → Int32) (lv : Nat → Nat → Int64) (r : Int32) (iv1 : Nat → Int32) (av1 : Nat → Nat → Int32) (lv1 : Nat → Nat → Int64) : Prop := ∀ (D : va_G) (ad : Nat → Nat) (ca : Nat → ClassId) (sz : Nat), vx_Met l (hY j) (hWd j) (xx_rm (d + 1)) (xx_Pc D ad ca (.ref 0 :: (As ++ [.ref 60])) (xs iv av lv) sz) (xi_Qc D ad ca (xs iv av lv).length (some (.int r), xs iv1 av1 lv1) (va_A (xi_rl ad ca (xs iv av lv)) sz)) xx_nx 1 6 (va_A (xi_rl ad ca (xs iv av lv)) sz)
set_option maxRecDepth 100000 in
theorem hp_0 : lh_pre (hC 0) (hL 0) [] 3 := lh_pre0 (by decide +kernel) (by decide +kernel) (by decide +kernel)
set_option maxRecDepth 100000 in
theorem ht_0 : lh_T (hC 0) 3 17 7 (9) := ⟨by decide +kernel, by decide +kernel, by decide +kernel, by decide +kernel, by decide, by decide +kernel, by decide +kernel⟩
set_option maxRecDepth 100000 in
theorem hm_0 : Cond.methodLink "TimedCompilerLaw" 7 (mY 3) ∈ xi_wd := xx_wd (by decide +kernel) (by decide +kernel)
set_option maxRecDepth 100000 in
theorem hh_0 : lh_hd (hC 0) (hL 0) 11 1 := lh_hdn (n := 1) (k := 2) (by decide) rfl (by decide +kernel) (by decide +kernel) (by decide +kernel)
set_option maxRecDepth 100000 in
theorem hh_0b : lh_hd (hC 0) (hL 0) 14 2 := lh_hdn (n := 2) (k := 2) (by decide) rfl (by decide +kernel) (by decide +kernel) (by decide +kernel)
theorem hn_0 {l : Launch} {d : Nat} {iv iv1 : Nat → Int32} {av av1 : Nat → Nat → Int32} {lv lv1 : Nat → Nat → Int64} {r : Int32} (hx : xm d 3 (.ref 0 :: []) (xs iv av lv) (some (.int r), xs iv1 av1 lv1)) : LHC l d 0 [] iv av lv 0 iv1 av1 (lo lv1 r) := fun D ad ca sz => lh_ret rfl rfl hp_0 ht_0 hm_0 (by decide) rfl rfl rfl hx D ad ca sz
set_option maxRecDepth 100000 in
theorem hp_1 {a b : Int32} : lh_pre (hC 1) (hL 1) [.int a, .int b] 5 := lh_pre2 (by decide +kernel) (by decide +kernel) (by decide +kernel) (by decide +kernel) (by decide +kernel)
set_option maxRecDepth 100000 in
theorem ht_1 : lh_T (hC 1) 5 17 17 (7) := ⟨by decide +kernel, by decide +kernel, by decide +kernel, by decide +kernel, by decide, by decide +kernel, by decide +kernel⟩
set_option maxRecDepth 100000 in
theorem hm_1 : Cond.methodLink "TimedCompilerLaw" 17 (mY 4) ∈ xi_wd := xx_wd (by decide +kernel) (by decide +kernel)
set_option maxRecDepth 100000 in
theorem hh_1 : lh_hd (hC 1) (hL 1) 13 1 := lh_hdj (n := 1) (k := 4) (by decide) rfl (by decide +kernel) (by decide +kernel) (by decide +kernel)
theorem hn_1 {l : Launch} {d : Nat} {a b : Int32} {iv iv1 : Nat → Int32} {av av1 : Nat → Nat → Int32} {lv lv1 : Nat → Nat → Int64} {r : Int32} (hx : xm d 4 (.ref 0 :: [.int a, .int b]) (xs iv av lv) (some (.int r), xs iv1 av1 lv1)) : LHC l d 1 [.int a, .int b] iv av lv 0 iv1 av1 (lo lv1 r) := fun D ad ca sz => lh_ret rfl rfl hp_1 ht_1 hm_1 (by decide) rfl rfl rfl hx D ad ca sz
set_option maxRecDepth 100000 in
theorem hp_2 : lh_pre (hC 2) (hL 2) [] 3 := lh_pre0 (by decide +kernel) (by decide +kernel) (by decide +kernel)
set_option maxRecDepth 100000 in
theorem ht_2 : lh_T (hC 2) 3 14 23 (6) := ⟨by decide +kernel, by decide +kernel, by decide +kernel, by decide +kernel, by decide, by decide +kernel, by decide +kernel⟩
set_option maxRecDepth 100000 in
theorem hm_2 : Cond.methodLink "TimedCompilerLaw" 23 (mY 5) ∈ xi_wd := xx_wd (by decide +kernel) (by decide +kernel)
set_option maxRecDepth 100000 in
theorem hh_2 : lh_hd (hC 2) (hL 2) 11 1 := lh_hdn (n := 1) (k := 2) (by decide) rfl (by decide +kernel) (by decide +kernel) (by decide +kernel)
theorem hn_2 {l : Launch} {d : Nat} {iv iv1 : Nat → Int32} {av av1 : Nat → Nat → Int32} {lv lv1 : Nat → Nat → Int64} {r : Int32} (hx : xm d 5 (.ref 0 :: []) (xs iv av lv) (some (.int r), xs iv1 av1 lv1)) : LHC l d 2 [] iv av lv 0 iv1 av1 (lo lv1 r) := fun D ad ca sz => lh_ret rfl rfl hp_2 ht_2 hm_2 (by decide) rfl rfl rfl hx D ad ca sz
set_option maxRecDepth 100000 in
theorem hp_3 : lh_pre (hC 3) (hL 3) [] 3 := lh_pre0 (by decide +kernel) (by decide +kernel) (by decide +kernel)
set_option maxRecDepth 100000 in
theorem ht_3 : lh_T (hC 3) 3 14 26 (6) := ⟨by decide +kernel, by decide +kernel, by decide +kernel, by decide +kernel, by decide, by decide +kernel, by decide +kernel⟩
set_option maxRecDepth 100000 in
theorem hm_3 : Cond.methodLink "TimedCompilerLaw" 26 (mY 6) ∈ xi_wd := xx_wd (by decide +kernel) (by decide +kernel)
set_option maxRecDepth 100000 in
theorem hh_3 : lh_hd (hC 3) (hL 3) 11 1 := lh_hdn (n := 1) (k := 2) (by decide) rfl (by decide +kernel) (by decide +kernel) (by decide +kernel)
theorem hn_3 {l : Launch} {d : Nat} {iv iv1 : Nat → Int32} {av av1 : Nat → Nat → Int32} {lv lv1 : Nat → Nat → Int64} {r : Int32} (hx : xm d 6 (.ref 0 :: []) (xs iv av lv) (some (.int r), xs iv1 av1 lv1)) : LHC l d 3 [] iv av lv 0 iv1 av1 (lo lv1 r) := fun D ad ca sz => lh_ret rfl rfl hp_3 ht_3 hm_3 (by decide) rfl rfl rfl hx D ad ca sz
set_option maxRecDepth 100000 in
theorem hp_4 {a b : Int32} : lh_pre (hC 4) (hL 4) [.int a, .int b] 5 := lh_pre2 (by decide +kernel) (by decide +kernel) (by decide +kernel) (by decide +kernel) (by decide +kernel)
set_option maxRecDepth 100000 in
theorem ht_4 : lh_T (hC 4) 5 17 29 (7) := ⟨by decide +kernel, by decide +kernel, by decide +kernel, by decide +kernel, by decide, by decide +kernel, by decide +kernel⟩
set_option maxRecDepth 100000 in
theorem hm_4 : Cond.methodLink "TimedCompilerLaw" 29 (mY 7) ∈ xi_wd := xx_wd (by decide +kernel) (by decide +kernel)
set_option maxRecDepth 100000 in
theorem hh_4 : lh_hd (hC 4) (hL 4) 13 1 := lh_hdj (n := 1) (k := 4) (by decide) rfl (by decide +kernel) (by decide +kernel) (by decide +kernel)
theorem hn_4 {l : Launch} {d : Nat} {a b : Int32} {iv iv1 : Nat → Int32} {av av1 : Nat → Nat → Int32} {lv lv1 : Nat → Nat → Int64} {r : Int32} (hx : xm d 7 (.ref 0 :: [.int a, .int b]) (xs iv av lv) (some (.int r), xs iv1 av1 lv1)) : LHC l d 4 [.int a, .int b] iv av lv 0 iv1 av1 (lo lv1 r) := fun D ad ca sz => lh_ret rfl rfl hp_4 ht_4 hm_4 (by decide) rfl rfl rfl hx D ad ca sz
set_option maxRecDepth 100000 in
theorem hp_5 {a : Int32} : lh_pre (hC 5) (hL 5) [.int a] 4 := lh_pre1 (by decide +kernel) (by decide +kernel) (by decide +kernel) (by decide +kernel)
set_option maxRecDepth 100000 in
theorem ht_5 : lh_T (hC 5) 4 15 32 (6) := ⟨by decide +kernel, by decide +kernel, by decide +kernel, by decide +kernel, by decide, by decide +kernel, by decide +kernel⟩
set_option maxRecDepth 100000 in
theorem hm_5 : Cond.methodLink "TimedCompilerLaw" 32 (mY 9) ∈ xi_wd := xx_wd (by decide +kernel) (by decide +kernel)
set_option maxRecDepth 100000 in
theorem hh_5 : lh_hd (hC 5) (hL 5) 12 1 := lh_hdn (n := 1) (k := 3) (by decide) rfl (by decide +kernel) (by decide +kernel) (by decide +kernel)
theorem hn_5 {l : Launch} {d : Nat} {a : Int32} {iv iv1 : Nat → Int32} {av av1 : Nat → Nat → Int32} {lv lv1 : Nat → Nat → Int64} {r : Int32} (hx : xm d 9 (.ref 0 :: [.int a]) (xs iv av lv) (some (.int r), xs iv1 av1 lv1)) : LHC l d 5 [.int a] iv av lv 0 iv1 av1 (lo lv1 r) := fun D ad ca sz => lh_ret rfl rfl hp_5 ht_5 hm_5 (by decide) rfl rfl rfl hx D ad ca sz
set_option maxRecDepth 100000 in
theorem hp_6 : lh_pre (hC 6) (hL 6) [] 3 := lh_pre0 (by decide +kernel) (by decide +kernel) (by decide +kernel)
set_option maxRecDepth 100000 in
theorem ht_6 : lh_T (hC 6) 3 14 38 (6) := ⟨by decide +kernel, by decide +kernel, by decide +kernel, by decide +kernel, by decide, by decide +kernel, by decide +kernel⟩
set_option maxRecDepth 100000 in
theorem hm_6 : Cond.methodLink "TimedCompilerLaw" 38 (mY 10) ∈ xi_wd := xx_wd (by decide +kernel) (by decide +kernel)
set_option maxRecDepth 100000 in
theorem hh_6 : lh_hd (hC 6) (hL 6) 11 1 := lh_hdn (n := 1) (k := 2) (by decide) rfl (by decide +kernel) (by decide +kernel) (by decide +kernel)
theorem hn_6 {l : Launch} {d : Nat} {iv iv1 : Nat → Int32} {av av1 : Nat → Nat → Int32} {lv lv1 : Nat → Nat → Int64} {r : Int32} (hx : xm d 10 (.ref 0 :: []) (xs iv av lv) (some (.int r), xs iv1 av1 lv1)) : LHC l d 6 [] iv av lv 0 iv1 av1 (lo lv1 r) := fun D ad ca sz => lh_ret rfl rfl hp_6 ht_6 hm_6 (by decide) rfl rfl rfl hx D ad ca sz
set_option maxRecDepth 100000 in
theorem hp_7 {a : Int32} : lh_pre (hC 7) (hL 7) [.int a] 4 := lh_pre1 (by decide +kernel) (by decide +kernel) (by decide +kernel) (by decide +kernel)
set_option maxRecDepth 100000 in
theorem ht_7 : lh_T (hC 7) 4 15 41 (6) := ⟨by decide +kernel, by decide +kernel, by decide +kernel, by decide +kernel, by decide, by decide +kernel, by decide +kernel⟩
set_option maxRecDepth 100000 in
theorem hm_7 : Cond.methodLink "TimedCompilerLaw" 41 (mY 12) ∈ xi_wd := xx_wd (by decide +kernel) (by decide +kernel)
set_option maxRecDepth 100000 in
theorem hh_7 : lh_hd (hC 7) (hL 7) 12 1 := lh_hdn (n := 1) (k := 3) (by decide) rfl (by decide +kernel) (by decide +kernel) (by decide +kernel)
theorem hn_7 {l : Launch} {d : Nat} {a : Int32} {iv iv1 : Nat → Int32} {av av1 : Nat → Nat → Int32} {lv lv1 : Nat → Nat → Int64} {r : Int32} (hx : xm d 12 (.ref 0 :: [.int a]) (xs iv av lv) (some (.int r), xs iv1 av1 lv1)) : LHC l d 7 [.int a] iv av lv 0 iv1 av1 (lo lv1 r) := fun D ad ca sz => lh_ret rfl rfl hp_7 ht_7 hm_7 (by decide) rfl rfl rfl hx D ad ca sz
set_option maxRecDepth 100000 in
theorem hk_13 : Cond.classLink "TimedCompilerLaw" 13 xx_IA ∈ xi_wd := xx_wd (by decide +kernel) (by decide +kernel)
set_option maxRecDepth 100000 in
theorem hk_15 : Cond.classLink "TimedCompilerLaw" 15 xx_UO ∈ xi_wd := xx_wd (by decide +kernel) (by decide +kernel)
set_option maxRecDepth 100000 in
theorem hk_21 : Cond.classLink "TimedCompilerLaw" 21 xx_IS ∈ xi_wd := xx_wd (by decide +kernel) (by decide +kernel)
set_option maxRecDepth 100000 in
theorem hk_36 : Cond.classLink "TimedCompilerLaw" 36 xx_IO ∈ xi_wd := xx_wd (by decide +kernel) (by decide +kernel)
theorem he_0a {l : Launch} (hl : l.stackTraces = false) {d : Nat} (hd : 10 ≤ d) {iv iv1 : Nat → Int32} {av av1 : Nat → Nat → Int32} {lv lv1 : Nat → Nat → Int64} (h : xm (d - 1) 15 [.ref 1] (xs iv av lv) (some (.int 0), xs iv1 av1 lv1)) : LHC l d 0 [] iv av lv 1 iv1 av1 lv1 := fun D ad ca sz => by
  obtain ⟨d, rfl⟩ : ∃ d', d = d' + 1 := ⟨d - 1, by omega⟩
  exact lh_exc rfl rfl hp_0 ht_0.1 hm_0 (by decide) rfl rfl rfl (fun D ad ca sz => xx_thr (vs := [.ref 0]) (nL := 1) (k := 3) hl rfl rfl (by omega) xx_f3a (xg_c10 h) D ad ca sz) [] ⟨0, 8, 11, 13⟩ [⟨0, 8, 14, 15⟩] rfl (fun z hz => nomatch hz) hk_13 (by decide) (by decide) hk_13 (List.mem_of_getElem? (i := 3) rfl) hh_0 D ad ca sz
theorem he_0b {l : Launch} (hl : l.stackTraces = false) {d : Nat} (hd : 10 ≤ d) {iv iv1 iv2 iv3 : Nat → Int32} {av av1 av2 av3 : Nat → Nat → Int32} {lv lv1 lv2 lv3 : Nat → Nat → Int64} {r : Int32} (hr : r ≠ 0) (h : xm (d - 1) 15 [.ref 1] (xs iv av lv) (some (.int r), xs iv1 av1 lv1)) (h2 : xm (d - 1) 17 [.ref 1] (xs iv1 av1 lv1) (none, xs iv2 av2 lv2)) (h3 : xm (d - 1) 48 [.ref 13, .ref 4] (xs iv2 av2 lv2) (some (.int 0), xs iv3 av3 lv3)) : LHC l d 0 [] iv av lv 2 iv3 av3 lv3 := fun D ad ca sz => by
  obtain ⟨d, rfl⟩ : ∃ d', d = d' + 1 := ⟨d - 1, by omega⟩
  exact lh_exc rfl rfl hp_0 ht_0.1 hm_0 (by decide) rfl rfl rfl (fun D ad ca sz => xx_thr (vs := [.ref 0]) (nL := 1) (k := 3) hl rfl rfl (by omega) xx_f3b (xg_c42 hr h h2 h3) D ad ca sz) [⟨0, 8, 11, 13⟩] ⟨0, 8, 14, 15⟩ [] rfl (fun z hz => by cases List.mem_singleton.mp hz; exact ⟨rfl, rfl, by decide⟩) hk_13 (by decide) (by decide) hk_15 (List.mem_of_getElem? (i := 4) rfl) hh_0b D ad ca sz
set_option maxRecDepth 100000 in
theorem he_1 {l : Launch} (hl : l.stackTraces = false) {d : Nat} (hd : 10 ≤ d) {a b : Int32} {iv : Nat → Int32} {av : Nat → Nat → Int32} {lv : Nat → Nat → Int64} (h4 : iv 4 = 0) : LHC l d 1 [.int a, .int b] iv av lv 1 iv av lv := fun D ad ca sz => by
  obtain ⟨d, rfl⟩ : ∃ d', d = d' + 1 := ⟨d - 1, by omega⟩
  exact lh_exc rfl rfl hp_1 ht_1.1 hm_1 (by decide) rfl rfl rfl (fun D ad ca sz => xx_thr2 (As := [.int a, .int b]) (k := 4) hl rfl rfl (by omega) h4 rfl xx_ml (by decide +kernel) (by decide +kernel) D ad ca sz) [] ⟨0, 10, 13, 21⟩ [] rfl (fun z hz => nomatch hz) hk_13 (by decide) (by decide) hk_21 (List.mem_of_getElem? (i := 5) rfl) hh_1 D ad ca sz
set_option maxRecDepth 100000 in
theorem he_2 {l : Launch} (hl : l.stackTraces = false) {d : Nat} (hd : 10 ≤ d) {iv : Nat → Int32} {av : Nat → Nat → Int32} {lv : Nat → Nat → Int64} (h4 : iv 4 = 0) : LHC l d 2 [] iv av lv 1 iv av lv := fun D ad ca sz => by
  obtain ⟨d, rfl⟩ : ∃ d', d = d' + 1 := ⟨d - 1, by omega⟩
  exact lh_exc rfl rfl hp_2 ht_2.1 hm_2 (by decide) rfl rfl rfl (fun D ad ca sz => xx_thr2 (As := []) (k := 5) hl rfl rfl (by omega) h4 rfl xx_ml (by decide +kernel) (by decide +kernel) D ad ca sz) [] ⟨0, 8, 11, 21⟩ [] rfl (fun z hz => nomatch hz) hk_13 (by decide) (by decide) hk_21 (List.mem_of_getElem? (i := 5) rfl) hh_2 D ad ca sz
set_option maxRecDepth 100000 in
theorem he_3 {l : Launch} (hl : l.stackTraces = false) {d : Nat} (hd : 10 ≤ d) {iv : Nat → Int32} {av : Nat → Nat → Int32} {lv : Nat → Nat → Int64} (h4 : iv 4 = 0) : LHC l d 3 [] iv av lv 1 iv av lv := fun D ad ca sz => by
  obtain ⟨d, rfl⟩ : ∃ d', d = d' + 1 := ⟨d - 1, by omega⟩
  exact lh_exc rfl rfl hp_3 ht_3.1 hm_3 (by decide) rfl rfl rfl (fun D ad ca sz => xx_thr2 (As := []) (k := 6) hl rfl rfl (by omega) h4 rfl xx_ml (by decide +kernel) (by decide +kernel) D ad ca sz) [] ⟨0, 8, 11, 21⟩ [] rfl (fun z hz => nomatch hz) hk_13 (by decide) (by decide) hk_21 (List.mem_of_getElem? (i := 5) rfl) hh_3 D ad ca sz
set_option maxRecDepth 100000 in
theorem he_4 {l : Launch} (hl : l.stackTraces = false) {d : Nat} (hd : 10 ≤ d) {a b : Int32} {iv : Nat → Int32} {av : Nat → Nat → Int32} {lv : Nat → Nat → Int64} (h4 : iv 4 = 0) : LHC l d 4 [.int a, .int b] iv av lv 1 iv av lv := fun D ad ca sz => by
  obtain ⟨d, rfl⟩ : ∃ d', d = d' + 1 := ⟨d - 1, by omega⟩
  exact lh_exc rfl rfl hp_4 ht_4.1 hm_4 (by decide) rfl rfl rfl (fun D ad ca sz => xx_thr2 (As := [.int a, .int b]) (k := 7) hl rfl rfl (by omega) h4 rfl xx_ml (by decide +kernel) (by decide +kernel) D ad ca sz) [] ⟨0, 10, 13, 21⟩ [] rfl (fun z hz => nomatch hz) hk_13 (by decide) (by decide) hk_21 (List.mem_of_getElem? (i := 5) rfl) hh_4 D ad ca sz
theorem he_5 {l : Launch} (hl : l.stackTraces = false) {d : Nat} (hd : 10 ≤ d) {a : Int32} {iv : Nat → Int32} {av : Nat → Nat → Int32} {lv : Nat → Nat → Int64} (h : a < 0 ∨ ¬ a < 14) : LHC l d 5 [.int a] iv av lv 1 iv av lv := fun D ad ca sz => by
  obtain ⟨d, rfl⟩ : ∃ d', d = d' + 1 := ⟨d - 1, by omega⟩
  exact lh_exc rfl rfl hp_5 ht_5.1 hm_5 (by decide) rfl rfl rfl (fun D ad ca sz => xx_thr (vs := [.ref 0, .int a]) (nL := 2) (k := 9) hl rfl rfl (by omega) xx_f9 (xg_9 h) D ad ca sz) [] ⟨0, 9, 12, 36⟩ [] rfl (fun z hz => nomatch hz) hk_13 (by decide) (by decide) hk_36 (List.mem_of_getElem? (i := 6) rfl) hh_5 D ad ca sz
set_option maxRecDepth 100000 in
theorem he_6 {l : Launch} (hl : l.stackTraces = false) {d : Nat} (hd : 10 ≤ d) {iv : Nat → Int32} {av : Nat → Nat → Int32} {lv : Nat → Nat → Int64} (h4 : iv 4 = 0) : LHC l d 6 [] iv av lv 1 iv av lv := fun D ad ca sz => by
  obtain ⟨d, rfl⟩ : ∃ d', d = d' + 1 := ⟨d - 1, by omega⟩
  exact lh_exc rfl rfl hp_6 ht_6.1 hm_6 (by decide) rfl rfl rfl (fun D ad ca sz => xx_thr2 (As := []) (k := 10) hl rfl rfl (by omega) h4 rfl xx_ml (by decide +kernel) (by decide +kernel) D ad ca sz) [] ⟨0, 8, 11, 21⟩ [] rfl (fun z hz => nomatch hz) hk_13 (by decide) (by decide) hk_21 (List.mem_of_getElem? (i := 5) rfl) hh_6 D ad ca sz
theorem he_7 {l : Launch} (hl : l.stackTraces = false) {d : Nat} (hd : 10 ≤ d) {a : Int32} {iv : Nat → Int32} {av : Nat → Nat → Int32} {lv : Nat → Nat → Int64} (h : a < 0 ∨ ¬ a < 32 ∨ ¬ a < iv 10) : LHC l d 7 [.int a] iv av lv 1 iv av lv := fun D ad ca sz => by
  obtain ⟨d, rfl⟩ : ∃ d', d = d' + 1 := ⟨d - 1, by omega⟩
  exact lh_exc rfl rfl hp_7 ht_7.1 hm_7 (by decide) rfl rfl rfl (fun D ad ca sz => xx_thr (vs := [.ref 0, .int a]) (nL := 2) (k := 12) hl rfl rfl (by omega) xx_f12 (xg_12 h) D ad ca sz) [] ⟨0, 9, 12, 36⟩ [] rfl (fun z hz => nomatch hz) hk_13 (by decide) (by decide) hk_36 (List.mem_of_getElem? (i := 6) rfl) hh_7 D ad ca sz
