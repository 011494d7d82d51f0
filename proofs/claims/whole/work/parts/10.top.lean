/-! 0: TimedCompiler.type(J)Z -/
set_option maxRecDepth 20000 in
theorem xb_0_0 {d : Nat} {iv : Nat → Int32} {av : Nat → Nat → Int32} {lv : Nat → Nat → Int64} {x : xi_R} {b1 : Int64} {w2 : xi_W} {r : Int32} (hm : xm d 29 [.ref 2, .long b1] (xs iv av lv) (some (.int r), w2)) (h : xe d xt_0 11 [some (.ref 0), some (.long b1), none] [.int r] w2 x) : xe d xt_0 0 [some (.ref 0), some (.long b1), none] [] (xs iv av lv) x := xe_call 5 (fun _ _ => rfl) hm h
set_option maxRecDepth 20000 in
theorem xb_0_11 {d : Nat} {iv : Nat → Int32} {av : Nat → Nat → Int32} {lv : Nat → Nat → Int64}  {b1 : Int64} {s0 : Int32} (hc : s0 = 0 ∨ s0 = 1) : xe d xt_0 11 [some (.ref 0), some (.long b1), none] [.int s0] (xs iv av lv) (some (.int s0), (xs iv av lv)) := xe_rif 1 (fun _ _ => rfl) hc
/-! 1: TimedCompiler.wipe()V -/
set_option maxRecDepth 20000 in
theorem xb_1_0 {d : Nat} {iv : Nat → Int32} {av : Nat → Nat → Int32} {lv : Nat → Nat → Int64}  : xe d xt_1 0 [some (.ref 0)] [] (xs iv av lv) (none, (xs (upd iv 0 0) av lv)) := xe_ret 6 (fun _ _ => rfl)
/-! 2: TimedCompiler.length()I -/
set_option maxRecDepth 20000 in
theorem xb_2_0 {d : Nat} {iv : Nat → Int32} {av : Nat → Nat → Int32} {lv : Nat → Nat → Int64}  : xe d xt_2 0 [some (.ref 0)] [] (xs iv av lv) (some (.int (iv 0)), (xs iv av lv)) := xe_ret 5 (fun _ _ => rfl)
/-! 3: TimedCompiler.compile()I -/
set_option maxRecDepth 20000 in
theorem xb_3_0 {d : Nat} {iv : Nat → Int32} {av : Nat → Nat → Int32} {lv : Nat → Nat → Int64} {x : xi_R} {w2 : xi_W} {r : Int32} (hm : xm d 15 [.ref 1] (xs iv av lv) (some (.int r), w2)) (h : xe d xt_3 7 [some (.ref 0)] [.int r] w2 x) : xe d xt_3 0 [some (.ref 0)] [] (xs iv av lv) x := xe_call 3 (fun _ _ => rfl) hm h
set_option maxRecDepth 20000 in
theorem xb_3_7 {d : Nat} {iv : Nat → Int32} {av : Nat → Nat → Int32} {lv : Nat → Nat → Int64} {x : xi_R} {s0 : Int32} (h1 : s0 = 0 → xe d xt_3 10 [some (.ref 0)] [] (xs iv av lv) x) (h2 : ¬ s0 = 0 → xe d xt_3 18 [some (.ref 0)] [] (xs iv av lv) x) : xe d xt_3 7 [some (.ref 0)] [.int s0] (xs iv av lv) x := xe_ite 1 (fun _ _ => rfl) h1 h2
-- xb_3_10: a throw
set_option maxRecDepth 20000 in
theorem xb_3_18 {d : Nat} {iv : Nat → Int32} {av : Nat → Nat → Int32} {lv : Nat → Nat → Int64} {x : xi_R} {w2 : xi_W} (hm : xm d 17 [.ref 1] (xs iv av lv) (none, w2)) (h : xe d xt_3 25 [some (.ref 0)] [] w2 x) : xe d xt_3 18 [some (.ref 0)] [] (xs iv av lv) x := xe_call 3 (fun _ _ => rfl) hm h
set_option maxRecDepth 20000 in
theorem xb_3_25 {d : Nat} {iv : Nat → Int32} {av : Nat → Nat → Int32} {lv : Nat → Nat → Int64} {x : xi_R} {w2 : xi_W} {r : Int32} (hm : xm d 48 [.ref 13, .ref 4] (xs iv av lv) (some (.int r), w2)) (h : xe d xt_3 39 [some (.ref 0)] [.int r] w2 x) : xe d xt_3 25 [some (.ref 0)] [] (xs iv av lv) x := xe_call 6 (fun _ _ => rfl) hm h
set_option maxRecDepth 20000 in
theorem xb_3_39 {d : Nat} {iv : Nat → Int32} {av : Nat → Nat → Int32} {lv : Nat → Nat → Int64} {x : xi_R} {s0 : Int32} (h1 : s0 = 0 → xe d xt_3 42 [some (.ref 0)] [] (xs iv av lv) x) (h2 : ¬ s0 = 0 → xe d xt_3 50 [some (.ref 0)] [] (xs iv av lv) x) : xe d xt_3 39 [some (.ref 0)] [.int s0] (xs iv av lv) x := xe_ite 1 (fun _ _ => rfl) h1 h2
-- xb_3_42: a throw
set_option maxRecDepth 20000 in
theorem xb_3_50 {d : Nat} {iv : Nat → Int32} {av : Nat → Nat → Int32} {lv : Nat → Nat → Int64} {x : xi_R} {w2 : xi_W} (hm : xm d 41 [.ref 16, .ref 4] (xs iv av lv) (none, w2)) (h : xe d xt_3 64 [some (.ref 0)] [] w2 x) : xe d xt_3 50 [some (.ref 0)] [] (xs iv av lv) x := xe_call 6 (fun _ _ => rfl) hm h
set_option maxRecDepth 20000 in
theorem xb_3_64 {d : Nat} {iv : Nat → Int32} {av : Nat → Nat → Int32} {lv : Nat → Nat → Int64} {x : xi_R} {w2 : xi_W} (hm : xm d 57 [.ref 23] (xs (upd iv 0 0) av lv) (none, w2)) (h : xe d xt_3 82 [some (.ref 0)] [] w2 x) : xe d xt_3 64 [some (.ref 0)] [] (xs iv av lv) x := xe_call 8 (fun _ _ => rfl) hm h
set_option maxRecDepth 20000 in
theorem xb_3_82 {d : Nat} {iv : Nat → Int32} {av : Nat → Nat → Int32} {lv : Nat → Nat → Int64}  : xe d xt_3 82 [some (.ref 0)] [] (xs iv av lv) (some (.int (iv 4)), (xs iv av lv)) := xe_ret 4 (fun _ _ => rfl)
/-! 4: TimedCompiler.code(II)I -/
set_option maxRecDepth 20000 in
theorem xb_4_0 {d : Nat} {iv : Nat → Int32} {av : Nat → Nat → Int32} {lv : Nat → Nat → Int64} {x : xi_R} {a1 : Int32} {a2 : Int32} {w2 : xi_W} (hm : xm d 13 [.ref 0] (xs iv av lv) (none, w2)) (h : xe d xt_4 4 [some (.ref 0), some (.int a1), some (.int a2)] [] w2 x) : xe d xt_4 0 [some (.ref 0), some (.int a1), some (.int a2)] [] (xs iv av lv) x := xe_call 2 (fun _ _ => rfl) hm h
set_option maxRecDepth 20000 in
theorem xb_4_4 {d : Nat} {iv : Nat → Int32} {av : Nat → Nat → Int32} {lv : Nat → Nat → Int64} {x : xi_R} {a1 : Int32} {a2 : Int32} (h1 : a1 < 0 → xe d xt_4 19 [some (.ref 0), some (.int a1), some (.int a2)] [] (xs iv av lv) x) (h2 : ¬ a1 < 0 → xe d xt_4 8 [some (.ref 0), some (.int a1), some (.int a2)] [] (xs iv av lv) x) : xe d xt_4 4 [some (.ref 0), some (.int a1), some (.int a2)] [] (xs iv av lv) x := xe_ite 2 (fun _ _ => rfl) h1 h2
set_option maxRecDepth 20000 in
theorem xb_4_8 {d : Nat} {iv : Nat → Int32} {av : Nat → Nat → Int32} {lv : Nat → Nat → Int64} {x : xi_R} {a1 : Int32} {a2 : Int32} (h1 : a1 < (iv 4) → xe d xt_4 21 [some (.ref 0), some (.int a1), some (.int a2)] [] (xs iv av lv) x) (h2 : ¬ a1 < (iv 4) → xe d xt_4 19 [some (.ref 0), some (.int a1), some (.int a2)] [] (xs iv av lv) x) : xe d xt_4 8 [some (.ref 0), some (.int a1), some (.int a2)] [] (xs iv av lv) x := xe_ite 5 (fun _ _ => rfl) h1 h2
set_option maxRecDepth 20000 in
theorem xb_4_19 {d : Nat} {iv : Nat → Int32} {av : Nat → Nat → Int32} {lv : Nat → Nat → Int64}  {o0 : Option Value} {o1 : Option Value} {o2 : Option Value} : xe d xt_4 19 [o0, o1, o2] [] (xs iv av lv) (some (.int (-1)), (xs iv av lv)) := xe_ret 2 (fun _ _ => rfl)
set_option maxRecDepth 20000 in
theorem xb_4_21 {d : Nat} {iv : Nat → Int32} {av : Nat → Nat → Int32} {lv : Nat → Nat → Int64} {x : xi_R} {a1 : Int32} {a2 : Int32} (h : xe d xt_4 (xi_swt a2 [(0, 48), (1, 58)] 68).toNat [some (.ref 0), some (.int a1), some (.int a2)] [] (xs iv av lv) x) : xe d xt_4 21 [some (.ref 0), some (.int a1), some (.int a2)] [] (xs iv av lv) x := xe_sw 2 (fun _ _ => rfl) h
set_option maxRecDepth 20000 in
theorem xb_4_48 {d : Nat} {iv : Nat → Int32} {av : Nat → Nat → Int32} {lv : Nat → Nat → Int64} {x : xi_R} {a1 : Int32} {o2 : Option Value} (hc : 0 ≤ (a1 : Int32).toInt ∧ (a1 : Int32).toInt < ((200 : Nat) : Int)) (h : xe d xt_4 57 [some (.ref 0), some (.int a1), none] [.int (av 17 (a1 : Int32).toNatClampNeg)] (xs iv av lv) x) : xe d xt_4 48 [some (.ref 0), some (.int a1), o2] [] (xs iv av lv) x := xe_if 5 (fun _ _ => rfl) hc h
set_option maxRecDepth 20000 in
theorem xb_4_57 {d : Nat} {iv : Nat → Int32} {av : Nat → Nat → Int32} {lv : Nat → Nat → Int64}  {a1 : Int32} {s0 : Int32} : xe d xt_4 57 [some (.ref 0), some (.int a1), none] [.int s0] (xs iv av lv) (some (.int s0), (xs iv av lv)) := xe_ret 1 (fun _ _ => rfl)
set_option maxRecDepth 20000 in
theorem xb_4_58 {d : Nat} {iv : Nat → Int32} {av : Nat → Nat → Int32} {lv : Nat → Nat → Int64} {x : xi_R} {a1 : Int32} {o2 : Option Value} (hc : 0 ≤ (a1 : Int32).toInt ∧ (a1 : Int32).toInt < ((200 : Nat) : Int)) (h : xe d xt_4 67 [some (.ref 0), some (.int a1), none] [.int (av 18 (a1 : Int32).toNatClampNeg)] (xs iv av lv) x) : xe d xt_4 58 [some (.ref 0), some (.int a1), o2] [] (xs iv av lv) x := xe_if 5 (fun _ _ => rfl) hc h
set_option maxRecDepth 20000 in
theorem xb_4_67 {d : Nat} {iv : Nat → Int32} {av : Nat → Nat → Int32} {lv : Nat → Nat → Int64}  {a1 : Int32} {s0 : Int32} : xe d xt_4 67 [some (.ref 0), some (.int a1), none] [.int s0] (xs iv av lv) (some (.int s0), (xs iv av lv)) := xe_ret 1 (fun _ _ => rfl)
set_option maxRecDepth 20000 in
theorem xb_4_68 {d : Nat} {iv : Nat → Int32} {av : Nat → Nat → Int32} {lv : Nat → Nat → Int64}  {o0 : Option Value} {o1 : Option Value} {o2 : Option Value} : xe d xt_4 68 [o0, o1, o2] [] (xs iv av lv) (some (.int (-1)), (xs iv av lv)) := xe_ret 2 (fun _ _ => rfl)
/-! 5: TimedCompiler.time()I -/
set_option maxRecDepth 20000 in
theorem xb_5_0 {d : Nat} {iv : Nat → Int32} {av : Nat → Nat → Int32} {lv : Nat → Nat → Int64} {x : xi_R} {w2 : xi_W} (hm : xm d 13 [.ref 0] (xs iv av lv) (none, w2)) (h : xe d xt_5 4 [some (.ref 0)] [] w2 x) : xe d xt_5 0 [some (.ref 0)] [] (xs iv av lv) x := xe_call 2 (fun _ _ => rfl) hm h
set_option maxRecDepth 20000 in
theorem xb_5_4 {d : Nat} {iv : Nat → Int32} {av : Nat → Nat → Int32} {lv : Nat → Nat → Int64} {x : xi_R} (h : xe d xt_5 13 [some (.ref 0)] [.int (av 21 (4 : Int32).toNatClampNeg)] (xs iv av lv) x) : xe d xt_5 4 [some (.ref 0)] [] (xs iv av lv) x := xe_seq 5 (fun _ _ => rfl) h
set_option maxRecDepth 20000 in
theorem xb_5_13 {d : Nat} {iv : Nat → Int32} {av : Nat → Nat → Int32} {lv : Nat → Nat → Int64}  {s0 : Int32} : xe d xt_5 13 [some (.ref 0)] [.int s0] (xs iv av lv) (some (.int s0), (xs iv av lv)) := xe_ret 1 (fun _ _ => rfl)
/-! 6: TimedCompiler.depth()I -/
set_option maxRecDepth 20000 in
theorem xb_6_0 {d : Nat} {iv : Nat → Int32} {av : Nat → Nat → Int32} {lv : Nat → Nat → Int64} {x : xi_R} {w2 : xi_W} (hm : xm d 13 [.ref 0] (xs iv av lv) (none, w2)) (h : xe d xt_6 4 [some (.ref 0)] [] w2 x) : xe d xt_6 0 [some (.ref 0)] [] (xs iv av lv) x := xe_call 2 (fun _ _ => rfl) hm h
set_option maxRecDepth 20000 in
theorem xb_6_4 {d : Nat} {iv : Nat → Int32} {av : Nat → Nat → Int32} {lv : Nat → Nat → Int64} {x : xi_R} (h : xe d xt_6 13 [some (.ref 0)] [.int (av 22 (4 : Int32).toNatClampNeg)] (xs iv av lv) x) : xe d xt_6 4 [some (.ref 0)] [] (xs iv av lv) x := xe_seq 5 (fun _ _ => rfl) h
set_option maxRecDepth 20000 in
theorem xb_6_13 {d : Nat} {iv : Nat → Int32} {av : Nat → Nat → Int32} {lv : Nat → Nat → Int64}  {s0 : Int32} : xe d xt_6 13 [some (.ref 0)] [.int s0] (xs iv av lv) (some (.int s0), (xs iv av lv)) := xe_ret 1 (fun _ _ => rfl)
/-! 7: TimedCompiler.procedure(II)I -/
set_option maxRecDepth 20000 in
theorem xb_7_0 {d : Nat} {iv : Nat → Int32} {av : Nat → Nat → Int32} {lv : Nat → Nat → Int64} {x : xi_R} {a1 : Int32} {a2 : Int32} {w2 : xi_W} (hm : xm d 13 [.ref 0] (xs iv av lv) (none, w2)) (h : xe d xt_7 4 [some (.ref 0), some (.int a1), some (.int a2)] [] w2 x) : xe d xt_7 0 [some (.ref 0), some (.int a1), some (.int a2)] [] (xs iv av lv) x := xe_call 2 (fun _ _ => rfl) hm h
set_option maxRecDepth 20000 in
theorem xb_7_4 {d : Nat} {iv : Nat → Int32} {av : Nat → Nat → Int32} {lv : Nat → Nat → Int64} {x : xi_R} {a1 : Int32} {a2 : Int32} (h1 : a1 < 0 → xe d xt_7 24 [some (.ref 0), some (.int a1), some (.int a2)] [] (xs iv av lv) x) (h2 : ¬ a1 < 0 → xe d xt_7 8 [some (.ref 0), some (.int a1), some (.int a2)] [] (xs iv av lv) x) : xe d xt_7 4 [some (.ref 0), some (.int a1), some (.int a2)] [] (xs iv av lv) x := xe_ite 2 (fun _ _ => rfl) h1 h2
set_option maxRecDepth 20000 in
theorem xb_7_8 {d : Nat} {iv : Nat → Int32} {av : Nat → Nat → Int32} {lv : Nat → Nat → Int64} {x : xi_R} {a1 : Int32} {a2 : Int32} (h1 : a1 < 4 → xe d xt_7 13 [some (.ref 0), some (.int a1), some (.int a2)] [] (xs iv av lv) x) (h2 : ¬ a1 < 4 → xe d xt_7 24 [some (.ref 0), some (.int a1), some (.int a2)] [] (xs iv av lv) x) : xe d xt_7 8 [some (.ref 0), some (.int a1), some (.int a2)] [] (xs iv av lv) x := xe_ite 3 (fun _ _ => rfl) h1 h2
set_option maxRecDepth 20000 in
theorem xb_7_13 {d : Nat} {iv : Nat → Int32} {av : Nat → Nat → Int32} {lv : Nat → Nat → Int64} {x : xi_R} {a1 : Int32} {a2 : Int32} {w2 : xi_W} {r : Int32} (hm : xm d 45 [.ref 16, .int a1] (xs iv av lv) (some (.int r), w2)) (h : xe d xt_7 21 [some (.ref 0), some (.int a1), some (.int a2)] [.int r] w2 x) : xe d xt_7 13 [some (.ref 0), some (.int a1), some (.int a2)] [] (xs iv av lv) x := xe_call 4 (fun _ _ => rfl) hm h
set_option maxRecDepth 20000 in
theorem xb_7_21 {d : Nat} {iv : Nat → Int32} {av : Nat → Nat → Int32} {lv : Nat → Nat → Int64} {x : xi_R} {a1 : Int32} {a2 : Int32} {s0 : Int32} (h1 : s0 = 0 → xe d xt_7 24 [some (.ref 0), some (.int a1), some (.int a2)] [] (xs iv av lv) x) (h2 : ¬ s0 = 0 → xe d xt_7 26 [some (.ref 0), some (.int a1), some (.int a2)] [] (xs iv av lv) x) : xe d xt_7 21 [some (.ref 0), some (.int a1), some (.int a2)] [.int s0] (xs iv av lv) x := xe_ite 1 (fun _ _ => rfl) h1 h2
set_option maxRecDepth 20000 in
theorem xb_7_24 {d : Nat} {iv : Nat → Int32} {av : Nat → Nat → Int32} {lv : Nat → Nat → Int64}  {o0 : Option Value} {o1 : Option Value} {o2 : Option Value} : xe d xt_7 24 [o0, o1, o2] [] (xs iv av lv) (some (.int (-1)), (xs iv av lv)) := xe_ret 2 (fun _ _ => rfl)
set_option maxRecDepth 20000 in
theorem xb_7_26 {d : Nat} {iv : Nat → Int32} {av : Nat → Nat → Int32} {lv : Nat → Nat → Int64} {x : xi_R} {a1 : Int32} {a2 : Int32} (h : xe d xt_7 (xi_swt a2 [(0, 52), (1, 62), (2, 72)] 82).toNat [some (.ref 0), some (.int a1), some (.int a2)] [] (xs iv av lv) x) : xe d xt_7 26 [some (.ref 0), some (.int a1), some (.int a2)] [] (xs iv av lv) x := xe_sw 2 (fun _ _ => rfl) h
set_option maxRecDepth 20000 in
theorem xb_7_52 {d : Nat} {iv : Nat → Int32} {av : Nat → Nat → Int32} {lv : Nat → Nat → Int64} {x : xi_R} {a1 : Int32} {o2 : Option Value} (hc : 0 ≤ (a1 : Int32).toInt ∧ (a1 : Int32).toInt < ((5 : Nat) : Int)) (h : xe d xt_7 61 [some (.ref 0), some (.int a1), none] [.int (av 19 (a1 : Int32).toNatClampNeg)] (xs iv av lv) x) : xe d xt_7 52 [some (.ref 0), some (.int a1), o2] [] (xs iv av lv) x := xe_if 5 (fun _ _ => rfl) hc h
set_option maxRecDepth 20000 in
theorem xb_7_61 {d : Nat} {iv : Nat → Int32} {av : Nat → Nat → Int32} {lv : Nat → Nat → Int64}  {a1 : Int32} {s0 : Int32} : xe d xt_7 61 [some (.ref 0), some (.int a1), none] [.int s0] (xs iv av lv) (some (.int s0), (xs iv av lv)) := xe_ret 1 (fun _ _ => rfl)
set_option maxRecDepth 20000 in
theorem xb_7_62 {d : Nat} {iv : Nat → Int32} {av : Nat → Nat → Int32} {lv : Nat → Nat → Int64} {x : xi_R} {a1 : Int32} {o2 : Option Value} (hc : 0 ≤ (a1 : Int32).toInt ∧ (a1 : Int32).toInt < ((5 : Nat) : Int)) (h : xe d xt_7 71 [some (.ref 0), some (.int a1), none] [.int (av 21 (a1 : Int32).toNatClampNeg)] (xs iv av lv) x) : xe d xt_7 62 [some (.ref 0), some (.int a1), o2] [] (xs iv av lv) x := xe_if 5 (fun _ _ => rfl) hc h
set_option maxRecDepth 20000 in
theorem xb_7_71 {d : Nat} {iv : Nat → Int32} {av : Nat → Nat → Int32} {lv : Nat → Nat → Int64}  {a1 : Int32} {s0 : Int32} : xe d xt_7 71 [some (.ref 0), some (.int a1), none] [.int s0] (xs iv av lv) (some (.int s0), (xs iv av lv)) := xe_ret 1 (fun _ _ => rfl)
set_option maxRecDepth 20000 in
theorem xb_7_72 {d : Nat} {iv : Nat → Int32} {av : Nat → Nat → Int32} {lv : Nat → Nat → Int64} {x : xi_R} {a1 : Int32} {o2 : Option Value} (hc : 0 ≤ (a1 : Int32).toInt ∧ (a1 : Int32).toInt < ((5 : Nat) : Int)) (h : xe d xt_7 81 [some (.ref 0), some (.int a1), none] [.int (av 22 (a1 : Int32).toNatClampNeg)] (xs iv av lv) x) : xe d xt_7 72 [some (.ref 0), some (.int a1), o2] [] (xs iv av lv) x := xe_if 5 (fun _ _ => rfl) hc h
set_option maxRecDepth 20000 in
theorem xb_7_81 {d : Nat} {iv : Nat → Int32} {av : Nat → Nat → Int32} {lv : Nat → Nat → Int64}  {a1 : Int32} {s0 : Int32} : xe d xt_7 81 [some (.ref 0), some (.int a1), none] [.int s0] (xs iv av lv) (some (.int s0), (xs iv av lv)) := xe_ret 1 (fun _ _ => rfl)
set_option maxRecDepth 20000 in
theorem xb_7_82 {d : Nat} {iv : Nat → Int32} {av : Nat → Nat → Int32} {lv : Nat → Nat → Int64}  {o0 : Option Value} {o1 : Option Value} {o2 : Option Value} : xe d xt_7 82 [o0, o1, o2] [] (xs iv av lv) (some (.int (-1)), (xs iv av lv)) := xe_ret 2 (fun _ _ => rfl)
/-! 8: TimedCompiler.set(II)Z -/
set_option maxRecDepth 20000 in
theorem xb_8_0 {d : Nat} {iv : Nat → Int32} {av : Nat → Nat → Int32} {lv : Nat → Nat → Int64} {x : xi_R} {a1 : Int32} {a2 : Int32} (h1 : a1 < 0 → xe d xt_8 10 [some (.ref 0), some (.int a1), some (.int a2)] [] (xs iv av lv) x) (h2 : ¬ a1 < 0 → xe d xt_8 4 [some (.ref 0), some (.int a1), some (.int a2)] [] (xs iv av lv) x) : xe d xt_8 0 [some (.ref 0), some (.int a1), some (.int a2)] [] (xs iv av lv) x := xe_ite 2 (fun _ _ => rfl) h1 h2
set_option maxRecDepth 20000 in
theorem xb_8_4 {d : Nat} {iv : Nat → Int32} {av : Nat → Nat → Int32} {lv : Nat → Nat → Int64} {x : xi_R} {a1 : Int32} {a2 : Int32} (h1 : a1 < 14 → xe d xt_8 12 [some (.ref 0), some (.int a1), some (.int a2)] [] (xs iv av lv) x) (h2 : ¬ a1 < 14 → xe d xt_8 10 [some (.ref 0), some (.int a1), some (.int a2)] [] (xs iv av lv) x) : xe d xt_8 4 [some (.ref 0), some (.int a1), some (.int a2)] [] (xs iv av lv) x := xe_ite 3 (fun _ _ => rfl) h1 h2
set_option maxRecDepth 20000 in
theorem xb_8_10 {d : Nat} {iv : Nat → Int32} {av : Nat → Nat → Int32} {lv : Nat → Nat → Int64}  {o0 : Option Value} {o1 : Option Value} {o2 : Option Value} : xe d xt_8 10 [o0, o1, o2] [] (xs iv av lv) (some (.int 0), (xs iv av lv)) := xe_ret 2 (fun _ _ => rfl)
set_option maxRecDepth 20000 in
theorem xb_8_12 {d : Nat} {iv : Nat → Int32} {av : Nat → Nat → Int32} {lv : Nat → Nat → Int64} {x : xi_R} {a1 : Int32} {a2 : Int32} (hc : 0 ≤ (a1 : Int32).toInt ∧ (a1 : Int32).toInt < ((14 : Nat) : Int)) (h : xe d xt_8 22 [some (.ref 0), some (.int a1), some (.int a2)] [] (xs iv (va_up av 24 (upd (av 24) (a1 : Int32).toNatClampNeg a2)) lv) x) : xe d xt_8 12 [some (.ref 0), some (.int a1), some (.int a2)] [] (xs iv av lv) x := xe_if 6 (fun _ _ => rfl) hc h
set_option maxRecDepth 20000 in
theorem xb_8_22 {d : Nat} {iv : Nat → Int32} {av : Nat → Nat → Int32} {lv : Nat → Nat → Int64}  {a1 : Int32} {a2 : Int32} : xe d xt_8 22 [some (.ref 0), some (.int a1), some (.int a2)] [] (xs iv av lv) (some (.int 1), (xs iv av lv)) := xe_ret 2 (fun _ _ => rfl)
/-! 9: TimedCompiler.get(I)I -/
set_option maxRecDepth 20000 in
theorem xb_9_0 {d : Nat} {iv : Nat → Int32} {av : Nat → Nat → Int32} {lv : Nat → Nat → Int64} {x : xi_R} {a1 : Int32} (h1 : a1 < 0 → xe d xt_9 10 [some (.ref 0), some (.int a1)] [] (xs iv av lv) x) (h2 : ¬ a1 < 0 → xe d xt_9 4 [some (.ref 0), some (.int a1)] [] (xs iv av lv) x) : xe d xt_9 0 [some (.ref 0), some (.int a1)] [] (xs iv av lv) x := xe_ite 2 (fun _ _ => rfl) h1 h2
set_option maxRecDepth 20000 in
theorem xb_9_4 {d : Nat} {iv : Nat → Int32} {av : Nat → Nat → Int32} {lv : Nat → Nat → Int64} {x : xi_R} {a1 : Int32} (h1 : a1 < 14 → xe d xt_9 18 [some (.ref 0), some (.int a1)] [] (xs iv av lv) x) (h2 : ¬ a1 < 14 → xe d xt_9 10 [some (.ref 0), some (.int a1)] [] (xs iv av lv) x) : xe d xt_9 4 [some (.ref 0), some (.int a1)] [] (xs iv av lv) x := xe_ite 3 (fun _ _ => rfl) h1 h2
-- xb_9_10: a throw
set_option maxRecDepth 20000 in
theorem xb_9_18 {d : Nat} {iv : Nat → Int32} {av : Nat → Nat → Int32} {lv : Nat → Nat → Int64} {x : xi_R} {a1 : Int32} (hc : 0 ≤ (a1 : Int32).toInt ∧ (a1 : Int32).toInt < ((14 : Nat) : Int)) (h : xe d xt_9 27 [some (.ref 0), some (.int a1)] [.int (av 24 (a1 : Int32).toNatClampNeg)] (xs iv av lv) x) : xe d xt_9 18 [some (.ref 0), some (.int a1)] [] (xs iv av lv) x := xe_if 5 (fun _ _ => rfl) hc h
set_option maxRecDepth 20000 in
theorem xb_9_27 {d : Nat} {iv : Nat → Int32} {av : Nat → Nat → Int32} {lv : Nat → Nat → Int64}  {a1 : Int32} {s0 : Int32} : xe d xt_9 27 [some (.ref 0), some (.int a1)] [.int s0] (xs iv av lv) (some (.int s0), (xs iv av lv)) := xe_ret 1 (fun _ _ => rfl)
/-! 10: TimedCompiler.run()I -/
set_option maxRecDepth 20000 in
theorem xb_10_0 {d : Nat} {iv : Nat → Int32} {av : Nat → Nat → Int32} {lv : Nat → Nat → Int64} {x : xi_R} {w2 : xi_W} (hm : xm d 13 [.ref 0] (xs iv av lv) (none, w2)) (h : xe d xt_10 4 [some (.ref 0)] [] w2 x) : xe d xt_10 0 [some (.ref 0)] [] (xs iv av lv) x := xe_call 2 (fun _ _ => rfl) hm h
set_option maxRecDepth 20000 in
theorem xb_10_4 {d : Nat} {iv : Nat → Int32} {av : Nat → Nat → Int32} {lv : Nat → Nat → Int64} {x : xi_R} {w2 : xi_W} {r : Int32} (hm : xm d 58 [.ref 23, .ref 16] (xs iv av lv) (some (.int r), w2)) (h : xe d xt_10 15 [some (.ref 0)] [.int r] w2 x) : xe d xt_10 4 [some (.ref 0)] [] (xs iv av lv) x := xe_call 5 (fun _ _ => rfl) hm h
set_option maxRecDepth 20000 in
theorem xb_10_15 {d : Nat} {iv : Nat → Int32} {av : Nat → Nat → Int32} {lv : Nat → Nat → Int64}  {s0 : Int32} : xe d xt_10 15 [some (.ref 0)] [.int s0] (xs iv av lv) (some (.int s0), (xs iv av lv)) := xe_ret 1 (fun _ _ => rfl)
/-! 11: TimedCompiler.latest(I)I -/
set_option maxRecDepth 20000 in
theorem xb_11_0 {d : Nat} {iv : Nat → Int32} {av : Nat → Nat → Int32} {lv : Nat → Nat → Int64} {x : xi_R} {a1 : Int32} (h1 : (iv 6) = 0 → xe d xt_11 10 [some (.ref 0), some (.int a1)] [] (xs iv av lv) x) (h2 : ¬ (iv 6) = 0 → xe d xt_11 12 [some (.ref 0), some (.int a1)] [] (xs iv av lv) x) : xe d xt_11 0 [some (.ref 0), some (.int a1)] [] (xs iv av lv) x := xe_ite 4 (fun _ _ => rfl) h1 h2
set_option maxRecDepth 20000 in
theorem xb_11_10 {d : Nat} {iv : Nat → Int32} {av : Nat → Nat → Int32} {lv : Nat → Nat → Int64}  {o0 : Option Value} {o1 : Option Value} : xe d xt_11 10 [o0, o1] [] (xs iv av lv) (some (.int (-1)), (xs iv av lv)) := xe_ret 2 (fun _ _ => rfl)
set_option maxRecDepth 20000 in
theorem xb_11_12 {d : Nat} {iv : Nat → Int32} {av : Nat → Nat → Int32} {lv : Nat → Nat → Int64} {x : xi_R} {a1 : Int32} (h : xe d xt_11 (xi_swt a1 [(0, 44), (1, 52), (2, 60), (3, 68)] 76).toNat [some (.ref 0), some (.int a1)] [] (xs iv av lv) x) : xe d xt_11 12 [some (.ref 0), some (.int a1)] [] (xs iv av lv) x := xe_sw 2 (fun _ _ => rfl) h
set_option maxRecDepth 20000 in
theorem xb_11_44 {d : Nat} {iv : Nat → Int32} {av : Nat → Nat → Int32} {lv : Nat → Nat → Int64}  {o1 : Option Value} : xe d xt_11 44 [some (.ref 0), o1] [] (xs iv av lv) (some (.int (iv 7)), (xs iv av lv)) := xe_ret 4 (fun _ _ => rfl)
set_option maxRecDepth 20000 in
theorem xb_11_52 {d : Nat} {iv : Nat → Int32} {av : Nat → Nat → Int32} {lv : Nat → Nat → Int64}  {o1 : Option Value} : xe d xt_11 52 [some (.ref 0), o1] [] (xs iv av lv) (some (.int (iv 8)), (xs iv av lv)) := xe_ret 4 (fun _ _ => rfl)
set_option maxRecDepth 20000 in
theorem xb_11_60 {d : Nat} {iv : Nat → Int32} {av : Nat → Nat → Int32} {lv : Nat → Nat → Int64}  {o1 : Option Value} : xe d xt_11 60 [some (.ref 0), o1] [] (xs iv av lv) (some (.int (iv 9)), (xs iv av lv)) := xe_ret 4 (fun _ _ => rfl)
set_option maxRecDepth 20000 in
theorem xb_11_68 {d : Nat} {iv : Nat → Int32} {av : Nat → Nat → Int32} {lv : Nat → Nat → Int64}  {o1 : Option Value} : xe d xt_11 68 [some (.ref 0), o1] [] (xs iv av lv) (some (.int (iv 10)), (xs iv av lv)) := xe_ret 4 (fun _ _ => rfl)
set_option maxRecDepth 20000 in
theorem xb_11_76 {d : Nat} {iv : Nat → Int32} {av : Nat → Nat → Int32} {lv : Nat → Nat → Int64}  {o0 : Option Value} {o1 : Option Value} : xe d xt_11 76 [o0, o1] [] (xs iv av lv) (some (.int (-1)), (xs iv av lv)) := xe_ret 2 (fun _ _ => rfl)
/-! 12: TimedCompiler.output(I)I -/
set_option maxRecDepth 20000 in
theorem xb_12_0 {d : Nat} {iv : Nat → Int32} {av : Nat → Nat → Int32} {lv : Nat → Nat → Int64} {x : xi_R} {a1 : Int32} (h1 : a1 < 0 → xe d xt_12 21 [some (.ref 0), some (.int a1)] [] (xs iv av lv) x) (h2 : ¬ a1 < 0 → xe d xt_12 4 [some (.ref 0), some (.int a1)] [] (xs iv av lv) x) : xe d xt_12 0 [some (.ref 0), some (.int a1)] [] (xs iv av lv) x := xe_ite 2 (fun _ _ => rfl) h1 h2
set_option maxRecDepth 20000 in
theorem xb_12_4 {d : Nat} {iv : Nat → Int32} {av : Nat → Nat → Int32} {lv : Nat → Nat → Int64} {x : xi_R} {a1 : Int32} (h1 : a1 < 32 → xe d xt_12 10 [some (.ref 0), some (.int a1)] [] (xs iv av lv) x) (h2 : ¬ a1 < 32 → xe d xt_12 21 [some (.ref 0), some (.int a1)] [] (xs iv av lv) x) : xe d xt_12 4 [some (.ref 0), some (.int a1)] [] (xs iv av lv) x := xe_ite 3 (fun _ _ => rfl) h1 h2
set_option maxRecDepth 20000 in
theorem xb_12_10 {d : Nat} {iv : Nat → Int32} {av : Nat → Nat → Int32} {lv : Nat → Nat → Int64} {x : xi_R} {a1 : Int32} (h1 : a1 < (iv 10) → xe d xt_12 29 [some (.ref 0), some (.int a1)] [] (xs iv av lv) x) (h2 : ¬ a1 < (iv 10) → xe d xt_12 21 [some (.ref 0), some (.int a1)] [] (xs iv av lv) x) : xe d xt_12 10 [some (.ref 0), some (.int a1)] [] (xs iv av lv) x := xe_ite 5 (fun _ _ => rfl) h1 h2
-- xb_12_21: a throw
set_option maxRecDepth 20000 in
theorem xb_12_29 {d : Nat} {iv : Nat → Int32} {av : Nat → Nat → Int32} {lv : Nat → Nat → Int64} {x : xi_R} {a1 : Int32} (hc : 0 ≤ (a1 : Int32).toInt ∧ (a1 : Int32).toInt < ((32 : Nat) : Int)) (h : xe d xt_12 38 [some (.ref 0), some (.int a1)] [.int (av 25 (a1 : Int32).toNatClampNeg)] (xs iv av lv) x) : xe d xt_12 29 [some (.ref 0), some (.int a1)] [] (xs iv av lv) x := xe_if 5 (fun _ _ => rfl) hc h
set_option maxRecDepth 20000 in
theorem xb_12_38 {d : Nat} {iv : Nat → Int32} {av : Nat → Nat → Int32} {lv : Nat → Nat → Int64}  {a1 : Int32} {s0 : Int32} : xe d xt_12 38 [some (.ref 0), some (.int a1)] [.int s0] (xs iv av lv) (some (.int s0), (xs iv av lv)) := xe_ret 1 (fun _ _ => rfl)
/-! 13: TimedCompiler.needProgram()V -/
set_option maxRecDepth 20000 in
theorem xb_13_0 {d : Nat} {iv : Nat → Int32} {av : Nat → Nat → Int32} {lv : Nat → Nat → Int64} {x : xi_R} (h1 : (iv 4) = 0 → xe d xt_13 10 [some (.ref 0)] [] (xs iv av lv) x) (h2 : ¬ (iv 4) = 0 → xe d xt_13 18 [some (.ref 0)] [] (xs iv av lv) x) : xe d xt_13 0 [some (.ref 0)] [] (xs iv av lv) x := xe_ite 4 (fun _ _ => rfl) h1 h2
-- xb_13_10: a throw
set_option maxRecDepth 20000 in
theorem xb_13_18 {d : Nat} {iv : Nat → Int32} {av : Nat → Nat → Int32} {lv : Nat → Nat → Int64}  {o0 : Option Value} : xe d xt_13 18 [o0] [] (xs iv av lv) (none, (xs iv av lv)) := xe_ret 1 (fun _ _ => rfl)
