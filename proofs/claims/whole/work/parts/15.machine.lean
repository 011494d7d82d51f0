/-! 57: TimedCompiler$Machine.forgetRun()V -/
set_option maxRecDepth 20000 in
theorem xb_57_0 {d : Nat} {iv : Nat → Int32} {av : Nat → Nat → Int32} {lv : Nat → Nat → Int64}  : xe d xt_57 0 [some (.ref 23)] [] (xs iv av lv) (none, (xs (upd (upd iv 6 0) 10 0) av lv)) := xe_ret 7 (fun _ _ => rfl)
/-! 58: TimedCompiler$Machine.carryOut(LTimedCompiler$Code;)I -/
set_option maxRecDepth 20000 in
theorem xb_58_0 {d : Nat} {iv : Nat → Int32} {av : Nat → Nat → Int32} {lv : Nat → Nat → Int64} {x : xi_R} (h : xe d xt_58 34 [some (.ref 23), some (.ref 16), some (.int (-1)), some (.int 0)] [] (xs (upd (upd (upd (upd (upd (upd iv 6 1) 5 0) 8 0) 7 0) 9 0) 10 0) av lv) x) : xe d xt_58 0 [some (.ref 23), some (.ref 16), none, none] [] (xs iv av lv) x := xe_seq 22 (fun _ _ => rfl) h
set_option maxRecDepth 20000 in
theorem xb_58_34 {d : Nat} {iv : Nat → Int32} {av : Nat → Nat → Int32} {lv : Nat → Nat → Int64} {x : xi_R} {a2 : Int32} {a3 : Int32} (h1 : 20000 < a3 → xe d xt_58 58 [some (.ref 23), some (.ref 16), some (.int a2), some (.int a3)] [] (xs iv av lv) x) (h2 : ¬ 20000 < a3 → xe d xt_58 41 [some (.ref 23), some (.ref 16), some (.int a2), some (.int a3)] [] (xs iv av lv) x) : xe d xt_58 34 [some (.ref 23), some (.ref 16), some (.int a2), some (.int a3)] [] (xs iv av lv) x := xe_ite 3 (fun _ _ => rfl) h1 h2
set_option maxRecDepth 20000 in
theorem xb_58_41 {d : Nat} {iv : Nat → Int32} {av : Nat → Nat → Int32} {lv : Nat → Nat → Int64} {x : xi_R} {a2 : Int32} {a3 : Int32} (h1 : a2 = (-1) → xe d xt_58 46 [some (.ref 23), some (.ref 16), some (.int a2), some (.int a3)] [] (xs iv av lv) x) (h2 : ¬ a2 = (-1) → xe d xt_58 58 [some (.ref 23), some (.ref 16), some (.int a2), some (.int a3)] [] (xs iv av lv) x) : xe d xt_58 41 [some (.ref 23), some (.ref 16), some (.int a2), some (.int a3)] [] (xs iv av lv) x := xe_ite 3 (fun _ _ => rfl) h1 h2
set_option maxRecDepth 20000 in
theorem xb_58_46 {d : Nat} {iv : Nat → Int32} {av : Nat → Nat → Int32} {lv : Nat → Nat → Int64} {x : xi_R} {o2 : Option Value} {a3 : Int32} {w2 : xi_W} {r : Int32} (hm : xm d 59 [.ref 23, .ref 16] (xs iv av lv) (some (.int r), w2)) (h : xe d xt_58 51 [some (.ref 23), some (.ref 16), none, some (.int a3)] [.int r] w2 x) : xe d xt_58 46 [some (.ref 23), some (.ref 16), o2, some (.int a3)] [] (xs iv av lv) x := xe_call 3 (fun _ _ => rfl) hm h
set_option maxRecDepth 20000 in
theorem xb_58_51 {d : Nat} {iv : Nat → Int32} {av : Nat → Nat → Int32} {lv : Nat → Nat → Int64} {x : xi_R} {a3 : Int32} {s0 : Int32} (h : xe d xt_58 34 [some (.ref 23), some (.ref 16), some (.int s0), some (.int (a3 + 1))] [] (xs iv av lv) x) : xe d xt_58 51 [some (.ref 23), some (.ref 16), none, some (.int a3)] [.int s0] (xs iv av lv) x := xe_seq 3 (fun _ _ => rfl) h
set_option maxRecDepth 20000 in
theorem xb_58_58 {d : Nat} {iv : Nat → Int32} {av : Nat → Nat → Int32} {lv : Nat → Nat → Int64}  {o0 : Option Value} {o1 : Option Value} {a2 : Int32} {o3 : Option Value} : xe d xt_58 58 [o0, o1, some (.int a2), o3] [] (xs iv av lv) (some (.int a2), (xs iv av lv)) := xe_ret 2 (fun _ _ => rfl)
/-! 59: TimedCompiler$Machine.step(LTimedCompiler$Code;)I -/
set_option maxRecDepth 20000 in
theorem xb_59_0 {d : Nat} {iv : Nat → Int32} {av : Nat → Nat → Int32} {lv : Nat → Nat → Int64} {x : xi_R} (h1 : (iv 9) < 0 → xe d xt_59 28 [some (.ref 23), some (.ref 16), none, none, none] [] (xs iv av lv) x) (h2 : ¬ (iv 9) < 0 → xe d xt_59 7 [some (.ref 23), some (.ref 16), none, none, none] [] (xs iv av lv) x) : xe d xt_59 0 [some (.ref 23), some (.ref 16), none, none, none] [] (xs iv av lv) x := xe_ite 3 (fun _ _ => rfl) h1 h2
set_option maxRecDepth 20000 in
theorem xb_59_7 {d : Nat} {iv : Nat → Int32} {av : Nat → Nat → Int32} {lv : Nat → Nat → Int64} {x : xi_R} {o2 : Option Value} {o3 : Option Value} {o4 : Option Value} (h1 : (iv 9) < (iv 4) → xe d xt_59 18 [some (.ref 23), some (.ref 16), none, none, none] [] (xs iv av lv) x) (h2 : ¬ (iv 9) < (iv 4) → xe d xt_59 28 [some (.ref 23), some (.ref 16), none, none, none] [] (xs iv av lv) x) : xe d xt_59 7 [some (.ref 23), some (.ref 16), o2, o3, o4] [] (xs iv av lv) x := xe_ite 5 (fun _ _ => rfl) h1 h2
set_option maxRecDepth 20000 in
theorem xb_59_18 {d : Nat} {iv : Nat → Int32} {av : Nat → Nat → Int32} {lv : Nat → Nat → Int64} {x : xi_R} {o2 : Option Value} {o3 : Option Value} {o4 : Option Value} (h1 : (iv 9) < 200 → xe d xt_59 30 [some (.ref 23), some (.ref 16), none, none, none] [] (xs iv av lv) x) (h2 : ¬ (iv 9) < 200 → xe d xt_59 28 [some (.ref 23), some (.ref 16), none, none, none] [] (xs iv av lv) x) : xe d xt_59 18 [some (.ref 23), some (.ref 16), o2, o3, o4] [] (xs iv av lv) x := xe_ite 4 (fun _ _ => rfl) h1 h2
set_option maxRecDepth 20000 in
theorem xb_59_28 {d : Nat} {iv : Nat → Int32} {av : Nat → Nat → Int32} {lv : Nat → Nat → Int64}  {o0 : Option Value} {o1 : Option Value} {o2 : Option Value} {o3 : Option Value} {o4 : Option Value} : xe d xt_59 28 [o0, o1, o2, o3, o4] [] (xs iv av lv) (some (.int 0), (xs iv av lv)) := xe_ret 2 (fun _ _ => rfl)
set_option maxRecDepth 20000 in
theorem xb_59_30 {d : Nat} {iv : Nat → Int32} {av : Nat → Nat → Int32} {lv : Nat → Nat → Int64} {x : xi_R} {o2 : Option Value} {o3 : Option Value} {o4 : Option Value} (hc : 0 ≤ ((iv 9) : Int32).toInt ∧ ((iv 9) : Int32).toInt < ((200 : Nat) : Int)) (h : xe d xt_59 39 [some (.ref 23), some (.ref 16), none, none, none] [.int (av 17 ((iv 9) : Int32).toNatClampNeg)] (xs iv av lv) x) : xe d xt_59 30 [some (.ref 23), some (.ref 16), o2, o3, o4] [] (xs iv av lv) x := xe_if 5 (fun _ _ => rfl) hc h
set_option maxRecDepth 20000 in
theorem xb_59_39 {d : Nat} {iv : Nat → Int32} {av : Nat → Nat → Int32} {lv : Nat → Nat → Int64} {x : xi_R} {s0 : Int32} (hc : 0 ≤ ((iv 9) : Int32).toInt ∧ ((iv 9) : Int32).toInt < ((200 : Nat) : Int)) (h : xe d xt_59 49 [some (.ref 23), some (.ref 16), some (.int s0), none, none] [.int (av 18 ((iv 9) : Int32).toNatClampNeg)] (xs iv av lv) x) : xe d xt_59 39 [some (.ref 23), some (.ref 16), none, none, none] [.int s0] (xs iv av lv) x := xe_if 6 (fun _ _ => rfl) hc h
set_option maxRecDepth 20000 in
theorem xb_59_49 {d : Nat} {iv : Nat → Int32} {av : Nat → Nat → Int32} {lv : Nat → Nat → Int64} {x : xi_R} {a2 : Int32} {s0 : Int32} (hc : 0 ≤ (a2 : Int32).toInt ∧ (a2 : Int32).toInt < ((20 : Nat) : Int)) (h : xe d xt_59 60 [some (.ref 23), some (.ref 16), some (.int a2), some (.int s0), none] [.int (xi_cost (a2 : Int32).toNatClampNeg), .int (iv 7), .ref 23] (xs iv av lv) x) : xe d xt_59 49 [some (.ref 23), some (.ref 16), some (.int a2), none, none] [.int s0] (xs iv av lv) x := xe_if 7 (fun _ _ => rfl) hc h
set_option maxRecDepth 20000 in
theorem xb_59_60 {d : Nat} {iv : Nat → Int32} {av : Nat → Nat → Int32} {lv : Nat → Nat → Int64} {x : xi_R} {a2 : Int32} {a3 : Int32} {s0 : Int32} {s1 : Int32} (h1 : a2 = 19 → xe d xt_59 70 [some (.ref 23), some (.ref 16), some (.int a2), some (.int a3), none] [] (xs (upd iv 7 (s1 + s0)) av lv) x) (h2 : ¬ a2 = 19 → xe d xt_59 72 [some (.ref 23), some (.ref 16), some (.int a2), some (.int a3), none] [] (xs (upd iv 7 (s1 + s0)) av lv) x) : xe d xt_59 60 [some (.ref 23), some (.ref 16), some (.int a2), some (.int a3), none] [.int s0, .int s1, .ref 23] (xs iv av lv) x := xe_ite 5 (fun _ _ => rfl) h1 h2
set_option maxRecDepth 20000 in
theorem xb_59_70 {d : Nat} {iv : Nat → Int32} {av : Nat → Nat → Int32} {lv : Nat → Nat → Int64}  {o0 : Option Value} {o1 : Option Value} {o2 : Option Value} {o3 : Option Value} {o4 : Option Value} : xe d xt_59 70 [o0, o1, o2, o3, o4] [] (xs iv av lv) (some (.int 0), (xs iv av lv)) := xe_ret 2 (fun _ _ => rfl)
set_option maxRecDepth 20000 in
theorem xb_59_72 {d : Nat} {iv : Nat → Int32} {av : Nat → Nat → Int32} {lv : Nat → Nat → Int64} {x : xi_R} {o1 : Option Value} {a2 : Int32} {a3 : Int32} {o4 : Option Value} {w2 : xi_W} {r : Int32} (hm : xm d 60 [.ref 23, .int a2, .int a3] (xs iv av lv) (some (.int r), w2)) (h : xe d xt_59 78 [some (.ref 23), none, some (.int a2), some (.int a3), none] [.int r] w2 x) : xe d xt_59 72 [some (.ref 23), o1, some (.int a2), some (.int a3), o4] [] (xs iv av lv) x := xe_call 4 (fun _ _ => rfl) hm h
set_option maxRecDepth 20000 in
theorem xb_59_78 {d : Nat} {iv : Nat → Int32} {av : Nat → Nat → Int32} {lv : Nat → Nat → Int64} {x : xi_R} {a2 : Int32} {a3 : Int32} {s0 : Int32} (h1 : s0 = 0 → xe d xt_59 88 [some (.ref 23), none, some (.int a2), some (.int a3), some (.int s0)] [] (xs iv av lv) x) (h2 : ¬ s0 = 0 → xe d xt_59 85 [some (.ref 23), none, some (.int a2), some (.int a3), some (.int s0)] [] (xs iv av lv) x) : xe d xt_59 78 [some (.ref 23), none, some (.int a2), some (.int a3), none] [.int s0] (xs iv av lv) x := xe_ite 3 (fun _ _ => rfl) h1 h2
set_option maxRecDepth 20000 in
theorem xb_59_85 {d : Nat} {iv : Nat → Int32} {av : Nat → Nat → Int32} {lv : Nat → Nat → Int64}  {o0 : Option Value} {o1 : Option Value} {o2 : Option Value} {o3 : Option Value} {a4 : Int32} : xe d xt_59 85 [o0, o1, o2, o3, some (.int a4)] [] (xs iv av lv) (some (.int a4), (xs iv av lv)) := xe_ret 2 (fun _ _ => rfl)
set_option maxRecDepth 20000 in
theorem xb_59_88 {d : Nat} {iv : Nat → Int32} {av : Nat → Nat → Int32} {lv : Nat → Nat → Int64} {x : xi_R} {o1 : Option Value} {a2 : Int32} {a3 : Int32} {o4 : Option Value} (h1 : 11 < a2 → xe d xt_59 113 [some (.ref 23), none, some (.int a2), some (.int a3), none] [] (xs (upd iv 9 ((iv 9) + 1)) av lv) x) (h2 : ¬ 11 < a2 → xe d xt_59 104 [some (.ref 23), none, some (.int a2), some (.int a3), none] [] (xs (upd iv 9 ((iv 9) + 1)) av lv) x) : xe d xt_59 88 [some (.ref 23), o1, some (.int a2), some (.int a3), o4] [] (xs iv av lv) x := xe_ite 9 (fun _ _ => rfl) h1 h2
set_option maxRecDepth 20000 in
theorem xb_59_104 {d : Nat} {iv : Nat → Int32} {av : Nat → Nat → Int32} {lv : Nat → Nat → Int64} {x : xi_R} {o1 : Option Value} {a2 : Int32} {a3 : Int32} {o4 : Option Value} {w2 : xi_W} (hm : xm d 62 [.ref 23, .int a2, .int a3] (xs iv av lv) (none, w2)) (h : xe d xt_59 110 [some (.ref 23), none, some (.int a2), some (.int a3), none] [] w2 x) : xe d xt_59 104 [some (.ref 23), o1, some (.int a2), some (.int a3), o4] [] (xs iv av lv) x := xe_call 4 (fun _ _ => rfl) hm h
set_option maxRecDepth 20000 in
theorem xb_59_110 {d : Nat} {iv : Nat → Int32} {av : Nat → Nat → Int32} {lv : Nat → Nat → Int64} {x : xi_R} {a2 : Int32} {a3 : Int32} (h : xe d xt_59 119 [some (.ref 23), none, some (.int a2), some (.int a3), none] [] (xs iv av lv) x) : xe d xt_59 110 [some (.ref 23), none, some (.int a2), some (.int a3), none] [] (xs iv av lv) x := xe_seq 1 (fun _ _ => rfl) h
set_option maxRecDepth 20000 in
theorem xb_59_113 {d : Nat} {iv : Nat → Int32} {av : Nat → Nat → Int32} {lv : Nat → Nat → Int64} {x : xi_R} {o1 : Option Value} {a2 : Int32} {a3 : Int32} {o4 : Option Value} {w2 : xi_W} (hm : xm d 64 [.ref 23, .int a2, .int a3] (xs iv av lv) (none, w2)) (h : xe d xt_59 119 [some (.ref 23), none, some (.int a2), some (.int a3), none] [] w2 x) : xe d xt_59 113 [some (.ref 23), o1, some (.int a2), some (.int a3), o4] [] (xs iv av lv) x := xe_call 4 (fun _ _ => rfl) hm h
set_option maxRecDepth 20000 in
theorem xb_59_119 {d : Nat} {iv : Nat → Int32} {av : Nat → Nat → Int32} {lv : Nat → Nat → Int64}  {o0 : Option Value} {o1 : Option Value} {o2 : Option Value} {o3 : Option Value} {o4 : Option Value} : xe d xt_59 119 [o0, o1, o2, o3, o4] [] (xs iv av lv) (some (.int (-1)), (xs iv av lv)) := xe_ret 2 (fun _ _ => rfl)
/-! 60: TimedCompiler$Machine.trapOf(II)I -/
set_option maxRecDepth 20000 in
theorem xb_60_0 {d : Nat} {iv : Nat → Int32} {av : Nat → Nat → Int32} {lv : Nat → Nat → Int64} {x : xi_R} {a1 : Int32} {a2 : Int32} (h : xe d xt_60 (xi_swt a1 [(3, 58), (4, 75), (8, 44), (16, 92)] 107).toNat [some (.ref 23), some (.int a1), some (.int a2)] [] (xs iv av lv) x) : xe d xt_60 0 [some (.ref 23), some (.int a1), some (.int a2)] [] (xs iv av lv) x := xe_sw 2 (fun _ _ => rfl) h
set_option maxRecDepth 20000 in
theorem xb_60_44 {d : Nat} {iv : Nat → Int32} {av : Nat → Nat → Int32} {lv : Nat → Nat → Int64} {x : xi_R} {o1 : Option Value} {o2 : Option Value} {w2 : xi_W} {r : Int32} (hm : xm d 71 [.ref 23, .int 0] (xs iv av lv) (some (.int r), w2)) (h : xe d xt_60 49 [some (.ref 23), none, none] [.int r] w2 x) : xe d xt_60 44 [some (.ref 23), o1, o2] [] (xs iv av lv) x := xe_call 3 (fun _ _ => rfl) hm h
set_option maxRecDepth 20000 in
theorem xb_60_49 {d : Nat} {iv : Nat → Int32} {av : Nat → Nat → Int32} {lv : Nat → Nat → Int64} {x : xi_R} {s0 : Int32} (h1 : s0 = 0 → xe d xt_60 52 [some (.ref 23), none, none] [] (xs iv av lv) x) (h2 : ¬ s0 = 0 → xe d xt_60 56 [some (.ref 23), none, none] [] (xs iv av lv) x) : xe d xt_60 49 [some (.ref 23), none, none] [.int s0] (xs iv av lv) x := xe_ite 1 (fun _ _ => rfl) h1 h2
set_option maxRecDepth 20000 in
theorem xb_60_52 {d : Nat} {iv : Nat → Int32} {av : Nat → Nat → Int32} {lv : Nat → Nat → Int64} {x : xi_R} {o0 : Option Value} {o1 : Option Value} {o2 : Option Value} (h : xe d xt_60 57 [none, none, none] [.int 1] (xs iv av lv) x) : xe d xt_60 52 [o0, o1, o2] [] (xs iv av lv) x := xe_seq 2 (fun _ _ => rfl) h
set_option maxRecDepth 20000 in
theorem xb_60_56 {d : Nat} {iv : Nat → Int32} {av : Nat → Nat → Int32} {lv : Nat → Nat → Int64} {x : xi_R} {o0 : Option Value} {o1 : Option Value} {o2 : Option Value} (h : xe d xt_60 57 [none, none, none] [.int 0] (xs iv av lv) x) : xe d xt_60 56 [o0, o1, o2] [] (xs iv av lv) x := xe_seq 1 (fun _ _ => rfl) h
set_option maxRecDepth 20000 in
theorem xb_60_57 {d : Nat} {iv : Nat → Int32} {av : Nat → Nat → Int32} {lv : Nat → Nat → Int64}  {o0 : Option Value} {o1 : Option Value} {o2 : Option Value} {s0 : Int32} : xe d xt_60 57 [o0, o1, o2] [.int s0] (xs iv av lv) (some (.int s0), (xs iv av lv)) := xe_ret 1 (fun _ _ => rfl)
set_option maxRecDepth 20000 in
theorem xb_60_58 {d : Nat} {iv : Nat → Int32} {av : Nat → Nat → Int32} {lv : Nat → Nat → Int64} {x : xi_R} {o1 : Option Value} {o2 : Option Value} {w2 : xi_W} {r : Int32} (hm : xm d 71 [.ref 23, .int 0] (xs iv av lv) (some (.int r), w2)) (h : xe d xt_60 63 [some (.ref 23), none, none] [.int r] w2 x) : xe d xt_60 58 [some (.ref 23), o1, o2] [] (xs iv av lv) x := xe_call 3 (fun _ _ => rfl) hm h
set_option maxRecDepth 20000 in
theorem xb_60_63 {d : Nat} {iv : Nat → Int32} {av : Nat → Nat → Int32} {lv : Nat → Nat → Int64} {x : xi_R} {s0 : Int32} {w2 : xi_W} {r : Int32} (hm : xm d 61 [.int s0] (xs iv av lv) (some (.int r), w2)) (h : xe d xt_60 66 [some (.ref 23), none, none] [.int r] w2 x) : xe d xt_60 63 [some (.ref 23), none, none] [.int s0] (xs iv av lv) x := xe_call 1 (fun _ _ => rfl) hm h
set_option maxRecDepth 20000 in
theorem xb_60_66 {d : Nat} {iv : Nat → Int32} {av : Nat → Nat → Int32} {lv : Nat → Nat → Int64} {x : xi_R} {s0 : Int32} (h1 : s0 = 0 → xe d xt_60 73 [some (.ref 23), none, none] [] (xs iv av lv) x) (h2 : ¬ s0 = 0 → xe d xt_60 69 [some (.ref 23), none, none] [] (xs iv av lv) x) : xe d xt_60 66 [some (.ref 23), none, none] [.int s0] (xs iv av lv) x := xe_ite 1 (fun _ _ => rfl) h1 h2
set_option maxRecDepth 20000 in
theorem xb_60_69 {d : Nat} {iv : Nat → Int32} {av : Nat → Nat → Int32} {lv : Nat → Nat → Int64} {x : xi_R} {o0 : Option Value} {o1 : Option Value} {o2 : Option Value} (h : xe d xt_60 74 [none, none, none] [.int 0] (xs iv av lv) x) : xe d xt_60 69 [o0, o1, o2] [] (xs iv av lv) x := xe_seq 2 (fun _ _ => rfl) h
set_option maxRecDepth 20000 in
theorem xb_60_73 {d : Nat} {iv : Nat → Int32} {av : Nat → Nat → Int32} {lv : Nat → Nat → Int64} {x : xi_R} {o0 : Option Value} {o1 : Option Value} {o2 : Option Value} (h : xe d xt_60 74 [none, none, none] [.int 2] (xs iv av lv) x) : xe d xt_60 73 [o0, o1, o2] [] (xs iv av lv) x := xe_seq 1 (fun _ _ => rfl) h
set_option maxRecDepth 20000 in
theorem xb_60_74 {d : Nat} {iv : Nat → Int32} {av : Nat → Nat → Int32} {lv : Nat → Nat → Int64}  {o0 : Option Value} {o1 : Option Value} {o2 : Option Value} {s0 : Int32} : xe d xt_60 74 [o0, o1, o2] [.int s0] (xs iv av lv) (some (.int s0), (xs iv av lv)) := xe_ret 1 (fun _ _ => rfl)
set_option maxRecDepth 20000 in
theorem xb_60_75 {d : Nat} {iv : Nat → Int32} {av : Nat → Nat → Int32} {lv : Nat → Nat → Int64} {x : xi_R} {o1 : Option Value} {o2 : Option Value} {w2 : xi_W} {r : Int32} (hm : xm d 71 [.ref 23, .int 1] (xs iv av lv) (some (.int r), w2)) (h : xe d xt_60 80 [some (.ref 23), none, none] [.int r] w2 x) : xe d xt_60 75 [some (.ref 23), o1, o2] [] (xs iv av lv) x := xe_call 3 (fun _ _ => rfl) hm h
set_option maxRecDepth 20000 in
theorem xb_60_80 {d : Nat} {iv : Nat → Int32} {av : Nat → Nat → Int32} {lv : Nat → Nat → Int64} {x : xi_R} {s0 : Int32} {w2 : xi_W} {r : Int32} (hm : xm d 61 [.int s0] (xs iv av lv) (some (.int r), w2)) (h : xe d xt_60 83 [some (.ref 23), none, none] [.int r] w2 x) : xe d xt_60 80 [some (.ref 23), none, none] [.int s0] (xs iv av lv) x := xe_call 1 (fun _ _ => rfl) hm h
set_option maxRecDepth 20000 in
theorem xb_60_83 {d : Nat} {iv : Nat → Int32} {av : Nat → Nat → Int32} {lv : Nat → Nat → Int64} {x : xi_R} {s0 : Int32} (h1 : s0 = 0 → xe d xt_60 90 [some (.ref 23), none, none] [] (xs iv av lv) x) (h2 : ¬ s0 = 0 → xe d xt_60 86 [some (.ref 23), none, none] [] (xs iv av lv) x) : xe d xt_60 83 [some (.ref 23), none, none] [.int s0] (xs iv av lv) x := xe_ite 1 (fun _ _ => rfl) h1 h2
set_option maxRecDepth 20000 in
theorem xb_60_86 {d : Nat} {iv : Nat → Int32} {av : Nat → Nat → Int32} {lv : Nat → Nat → Int64} {x : xi_R} {o0 : Option Value} {o1 : Option Value} {o2 : Option Value} (h : xe d xt_60 91 [none, none, none] [.int 0] (xs iv av lv) x) : xe d xt_60 86 [o0, o1, o2] [] (xs iv av lv) x := xe_seq 2 (fun _ _ => rfl) h
set_option maxRecDepth 20000 in
theorem xb_60_90 {d : Nat} {iv : Nat → Int32} {av : Nat → Nat → Int32} {lv : Nat → Nat → Int64} {x : xi_R} {o0 : Option Value} {o1 : Option Value} {o2 : Option Value} (h : xe d xt_60 91 [none, none, none] [.int 2] (xs iv av lv) x) : xe d xt_60 90 [o0, o1, o2] [] (xs iv av lv) x := xe_seq 1 (fun _ _ => rfl) h
set_option maxRecDepth 20000 in
theorem xb_60_91 {d : Nat} {iv : Nat → Int32} {av : Nat → Nat → Int32} {lv : Nat → Nat → Int64}  {o0 : Option Value} {o1 : Option Value} {o2 : Option Value} {s0 : Int32} : xe d xt_60 91 [o0, o1, o2] [.int s0] (xs iv av lv) (some (.int s0), (xs iv av lv)) := xe_ret 1 (fun _ _ => rfl)
set_option maxRecDepth 20000 in
theorem xb_60_92 {d : Nat} {iv : Nat → Int32} {av : Nat → Nat → Int32} {lv : Nat → Nat → Int64} {x : xi_R} {o1 : Option Value} {a2 : Int32} {w2 : xi_W} {r : Int32} (hm : xm d 71 [.ref 23, .int 0] (xs iv av lv) (some (.int r), w2)) (h : xe d xt_60 97 [some (.ref 23), none, some (.int a2)] [.int r] w2 x) : xe d xt_60 92 [some (.ref 23), o1, some (.int a2)] [] (xs iv av lv) x := xe_call 3 (fun _ _ => rfl) hm h
set_option maxRecDepth 20000 in
theorem xb_60_97 {d : Nat} {iv : Nat → Int32} {av : Nat → Nat → Int32} {lv : Nat → Nat → Int64} {x : xi_R} {a2 : Int32} {s0 : Int32} (h1 : a2 < s0 → xe d xt_60 101 [some (.ref 23), none, some (.int a2)] [] (xs iv av lv) x) (h2 : ¬ a2 < s0 → xe d xt_60 105 [some (.ref 23), none, some (.int a2)] [] (xs iv av lv) x) : xe d xt_60 97 [some (.ref 23), none, some (.int a2)] [.int s0] (xs iv av lv) x := xe_ite 2 (fun _ _ => rfl) h1 h2
set_option maxRecDepth 20000 in
theorem xb_60_101 {d : Nat} {iv : Nat → Int32} {av : Nat → Nat → Int32} {lv : Nat → Nat → Int64} {x : xi_R} {o0 : Option Value} {o1 : Option Value} {o2 : Option Value} (h : xe d xt_60 106 [none, none, none] [.int 3] (xs iv av lv) x) : xe d xt_60 101 [o0, o1, o2] [] (xs iv av lv) x := xe_seq 2 (fun _ _ => rfl) h
set_option maxRecDepth 20000 in
theorem xb_60_105 {d : Nat} {iv : Nat → Int32} {av : Nat → Nat → Int32} {lv : Nat → Nat → Int64} {x : xi_R} {o0 : Option Value} {o1 : Option Value} {o2 : Option Value} (h : xe d xt_60 106 [none, none, none] [.int 0] (xs iv av lv) x) : xe d xt_60 105 [o0, o1, o2] [] (xs iv av lv) x := xe_seq 1 (fun _ _ => rfl) h
set_option maxRecDepth 20000 in
theorem xb_60_106 {d : Nat} {iv : Nat → Int32} {av : Nat → Nat → Int32} {lv : Nat → Nat → Int64}  {o0 : Option Value} {o1 : Option Value} {o2 : Option Value} {s0 : Int32} : xe d xt_60 106 [o0, o1, o2] [.int s0] (xs iv av lv) (some (.int s0), (xs iv av lv)) := xe_ret 1 (fun _ _ => rfl)
set_option maxRecDepth 20000 in
theorem xb_60_107 {d : Nat} {iv : Nat → Int32} {av : Nat → Nat → Int32} {lv : Nat → Nat → Int64}  {o0 : Option Value} {o1 : Option Value} {o2 : Option Value} : xe d xt_60 107 [o0, o1, o2] [] (xs iv av lv) (some (.int 0), (xs iv av lv)) := xe_ret 2 (fun _ _ => rfl)
/-! 61: TimedCompiler$Machine.isWord(I)Z -/
set_option maxRecDepth 20000 in
theorem xb_61_0 {d : Nat} {iv : Nat → Int32} {av : Nat → Nat → Int32} {lv : Nat → Nat → Int64} {x : xi_R} {a0 : Int32} (h1 : a0 < 0 → xe d xt_61 14 [some (.int a0)] [] (xs iv av lv) x) (h2 : ¬ a0 < 0 → xe d xt_61 4 [some (.int a0)] [] (xs iv av lv) x) : xe d xt_61 0 [some (.int a0)] [] (xs iv av lv) x := xe_ite 2 (fun _ _ => rfl) h1 h2
set_option maxRecDepth 20000 in
theorem xb_61_4 {d : Nat} {iv : Nat → Int32} {av : Nat → Nat → Int32} {lv : Nat → Nat → Int64} {x : xi_R} {a0 : Int32} (h1 : a0 < 8 → xe d xt_61 10 [some (.int a0)] [] (xs iv av lv) x) (h2 : ¬ a0 < 8 → xe d xt_61 14 [some (.int a0)] [] (xs iv av lv) x) : xe d xt_61 4 [some (.int a0)] [] (xs iv av lv) x := xe_ite 3 (fun _ _ => rfl) h1 h2
set_option maxRecDepth 20000 in
theorem xb_61_10 {d : Nat} {iv : Nat → Int32} {av : Nat → Nat → Int32} {lv : Nat → Nat → Int64} {x : xi_R} {o0 : Option Value} (h : xe d xt_61 15 [none] [.int 1] (xs iv av lv) x) : xe d xt_61 10 [o0] [] (xs iv av lv) x := xe_seq 2 (fun _ _ => rfl) h
set_option maxRecDepth 20000 in
theorem xb_61_14 {d : Nat} {iv : Nat → Int32} {av : Nat → Nat → Int32} {lv : Nat → Nat → Int64} {x : xi_R} {o0 : Option Value} (h : xe d xt_61 15 [none] [.int 0] (xs iv av lv) x) : xe d xt_61 14 [o0] [] (xs iv av lv) x := xe_seq 1 (fun _ _ => rfl) h
set_option maxRecDepth 20000 in
theorem xb_61_15 {d : Nat} {iv : Nat → Int32} {av : Nat → Nat → Int32} {lv : Nat → Nat → Int64}  {o0 : Option Value} {s0 : Int32} (hc : s0 = 0 ∨ s0 = 1) : xe d xt_61 15 [o0] [.int s0] (xs iv av lv) (some (.int s0), (xs iv av lv)) := xe_rif 1 (fun _ _ => rfl) hc
/-! 62: TimedCompiler$Machine.compute(II)V -/
set_option maxRecDepth 20000 in
theorem xb_62_0 {d : Nat} {iv : Nat → Int32} {av : Nat → Nat → Int32} {lv : Nat → Nat → Int64} {x : xi_R} {a1 : Int32} {a2 : Int32} (h : xe d xt_62 (xi_swt a1 [(0, 64), (1, 72), (2, 84), (3, 96), (4, 114), (5, 146), (6, 146), (7, 146), (8, 146), (9, 146), (10, 146), (11, 134)] 146).toNat [some (.ref 23), some (.int a1), some (.int a2), none, none, none] [] (xs iv av lv) x) : xe d xt_62 0 [some (.ref 23), some (.int a1), some (.int a2), none, none, none] [] (xs iv av lv) x := xe_sw 2 (fun _ _ => rfl) h
set_option maxRecDepth 20000 in
theorem xb_62_64 {d : Nat} {iv : Nat → Int32} {av : Nat → Nat → Int32} {lv : Nat → Nat → Int64} {x : xi_R} {o1 : Option Value} {a2 : Int32} {o3 : Option Value} {o4 : Option Value} {o5 : Option Value} {w2 : xi_W} (hm : xm d 69 [.ref 23, .int a2] (xs iv av lv) (none, w2)) (h : xe d xt_62 69 [some (.ref 23), none, some (.int a2), none, none, none] [] w2 x) : xe d xt_62 64 [some (.ref 23), o1, some (.int a2), o3, o4, o5] [] (xs iv av lv) x := xe_call 3 (fun _ _ => rfl) hm h
set_option maxRecDepth 20000 in
theorem xb_62_69 {d : Nat} {iv : Nat → Int32} {av : Nat → Nat → Int32} {lv : Nat → Nat → Int64} {x : xi_R} {a2 : Int32} (h : xe d xt_62 170 [some (.ref 23), none, some (.int a2), none, none, none] [] (xs iv av lv) x) : xe d xt_62 69 [some (.ref 23), none, some (.int a2), none, none, none] [] (xs iv av lv) x := xe_seq 1 (fun _ _ => rfl) h
set_option maxRecDepth 20000 in
theorem xb_62_72 {d : Nat} {iv : Nat → Int32} {av : Nat → Nat → Int32} {lv : Nat → Nat → Int64} {x : xi_R} {o1 : Option Value} {a2 : Int32} {o3 : Option Value} {o4 : Option Value} {o5 : Option Value} {w2 : xi_W} {r : Int32} (hm : xm d 67 [.ref 23, .int a2] (xs iv av lv) (some (.int r), w2)) (h : xe d xt_62 78 [some (.ref 23), none, some (.int a2), none, none, none] [.int r, .ref 23] w2 x) : xe d xt_62 72 [some (.ref 23), o1, some (.int a2), o3, o4, o5] [] (xs iv av lv) x := xe_call 4 (fun _ _ => rfl) hm h
set_option maxRecDepth 20000 in
theorem xb_62_78 {d : Nat} {iv : Nat → Int32} {av : Nat → Nat → Int32} {lv : Nat → Nat → Int64} {x : xi_R} {a2 : Int32} {s0 : Int32} {w2 : xi_W} (hm : xm d 69 [.ref 23, .int s0] (xs iv av lv) (none, w2)) (h : xe d xt_62 81 [some (.ref 23), none, some (.int a2), none, none, none] [] w2 x) : xe d xt_62 78 [some (.ref 23), none, some (.int a2), none, none, none] [.int s0, .ref 23] (xs iv av lv) x := xe_call 1 (fun _ _ => rfl) hm h
set_option maxRecDepth 20000 in
theorem xb_62_81 {d : Nat} {iv : Nat → Int32} {av : Nat → Nat → Int32} {lv : Nat → Nat → Int64} {x : xi_R} {a2 : Int32} (h : xe d xt_62 170 [some (.ref 23), none, some (.int a2), none, none, none] [] (xs iv av lv) x) : xe d xt_62 81 [some (.ref 23), none, some (.int a2), none, none, none] [] (xs iv av lv) x := xe_seq 1 (fun _ _ => rfl) h
set_option maxRecDepth 20000 in
theorem xb_62_84 {d : Nat} {iv : Nat → Int32} {av : Nat → Nat → Int32} {lv : Nat → Nat → Int64} {x : xi_R} {o1 : Option Value} {a2 : Int32} {o3 : Option Value} {o4 : Option Value} {o5 : Option Value} {w2 : xi_W} {r : Int32} (hm : xm d 70 [.ref 23] (xs iv av lv) (some (.int r), w2)) (h : xe d xt_62 90 [some (.ref 23), none, some (.int a2), none, none, none] [.int r, .int a2, .ref 23] w2 x) : xe d xt_62 84 [some (.ref 23), o1, some (.int a2), o3, o4, o5] [] (xs iv av lv) x := xe_call 4 (fun _ _ => rfl) hm h
set_option maxRecDepth 20000 in
theorem xb_62_90 {d : Nat} {iv : Nat → Int32} {av : Nat → Nat → Int32} {lv : Nat → Nat → Int64} {x : xi_R} {a2 : Int32} {s0 : Int32} {s1 : Int32} {w2 : xi_W} (hm : xm d 68 [.ref 23, .int s1, .int s0] (xs iv av lv) (none, w2)) (h : xe d xt_62 93 [some (.ref 23), none, some (.int a2), none, none, none] [] w2 x) : xe d xt_62 90 [some (.ref 23), none, some (.int a2), none, none, none] [.int s0, .int s1, .ref 23] (xs iv av lv) x := xe_call 1 (fun _ _ => rfl) hm h
set_option maxRecDepth 20000 in
theorem xb_62_93 {d : Nat} {iv : Nat → Int32} {av : Nat → Nat → Int32} {lv : Nat → Nat → Int64} {x : xi_R} {a2 : Int32} (h : xe d xt_62 170 [some (.ref 23), none, some (.int a2), none, none, none] [] (xs iv av lv) x) : xe d xt_62 93 [some (.ref 23), none, some (.int a2), none, none, none] [] (xs iv av lv) x := xe_seq 1 (fun _ _ => rfl) h
set_option maxRecDepth 20000 in
theorem xb_62_96 {d : Nat} {iv : Nat → Int32} {av : Nat → Nat → Int32} {lv : Nat → Nat → Int64} {x : xi_R} {o1 : Option Value} {o2 : Option Value} {o3 : Option Value} {o4 : Option Value} {o5 : Option Value} {w2 : xi_W} {r : Int32} (hm : xm d 70 [.ref 23] (xs iv av lv) (some (.int r), w2)) (h : xe d xt_62 104 [some (.ref 23), none, none, none, none, none] [.int r, .int 6, .ref 23, .ref 23] w2 x) : xe d xt_62 96 [some (.ref 23), o1, o2, o3, o4, o5] [] (xs iv av lv) x := xe_call 5 (fun _ _ => rfl) hm h
set_option maxRecDepth 20000 in
theorem xb_62_104 {d : Nat} {iv : Nat → Int32} {av : Nat → Nat → Int32} {lv : Nat → Nat → Int64} {x : xi_R} {s0 : Int32} {s1 : Int32} {w2 : xi_W} {r : Int32} (hm : xm d 67 [.ref 23, .int (s1 + s0)] (xs iv av lv) (some (.int r), w2)) (h : xe d xt_62 108 [some (.ref 23), none, none, none, none, none] [.int r, .ref 23] w2 x) : xe d xt_62 104 [some (.ref 23), none, none, none, none, none] [.int s0, .int s1, .ref 23, .ref 23] (xs iv av lv) x := xe_call 2 (fun _ _ => rfl) hm h
set_option maxRecDepth 20000 in
theorem xb_62_108 {d : Nat} {iv : Nat → Int32} {av : Nat → Nat → Int32} {lv : Nat → Nat → Int64} {x : xi_R} {s0 : Int32} {w2 : xi_W} (hm : xm d 69 [.ref 23, .int s0] (xs iv av lv) (none, w2)) (h : xe d xt_62 111 [some (.ref 23), none, none, none, none, none] [] w2 x) : xe d xt_62 108 [some (.ref 23), none, none, none, none, none] [.int s0, .ref 23] (xs iv av lv) x := xe_call 1 (fun _ _ => rfl) hm h
set_option maxRecDepth 20000 in
theorem xb_62_111 {d : Nat} {iv : Nat → Int32} {av : Nat → Nat → Int32} {lv : Nat → Nat → Int64} {x : xi_R} (h : xe d xt_62 170 [some (.ref 23), none, none, none, none, none] [] (xs iv av lv) x) : xe d xt_62 111 [some (.ref 23), none, none, none, none, none] [] (xs iv av lv) x := xe_seq 1 (fun _ _ => rfl) h
set_option maxRecDepth 20000 in
theorem xb_62_114 {d : Nat} {iv : Nat → Int32} {av : Nat → Nat → Int32} {lv : Nat → Nat → Int64} {x : xi_R} {o1 : Option Value} {o2 : Option Value} {o3 : Option Value} {o4 : Option Value} {o5 : Option Value} {w2 : xi_W} {r : Int32} (hm : xm d 70 [.ref 23] (xs iv av lv) (some (.int r), w2)) (h : xe d xt_62 118 [some (.ref 23), none, none, none, none, none] [.int r] w2 x) : xe d xt_62 114 [some (.ref 23), o1, o2, o3, o4, o5] [] (xs iv av lv) x := xe_call 2 (fun _ _ => rfl) hm h
set_option maxRecDepth 20000 in
theorem xb_62_118 {d : Nat} {iv : Nat → Int32} {av : Nat → Nat → Int32} {lv : Nat → Nat → Int64} {x : xi_R} {s0 : Int32} {w2 : xi_W} {r : Int32} (hm : xm d 70 [.ref 23] (xs iv av lv) (some (.int r), w2)) (h : xe d xt_62 126 [some (.ref 23), none, none, some (.int s0), none, none] [.int r, .int 6, .ref 23] w2 x) : xe d xt_62 118 [some (.ref 23), none, none, none, none, none] [.int s0] (xs iv av lv) x := xe_call 5 (fun _ _ => rfl) hm h
set_option maxRecDepth 20000 in
theorem xb_62_126 {d : Nat} {iv : Nat → Int32} {av : Nat → Nat → Int32} {lv : Nat → Nat → Int64} {x : xi_R} {a3 : Int32} {s0 : Int32} {s1 : Int32} {w2 : xi_W} (hm : xm d 68 [.ref 23, .int (s1 + s0), .int a3] (xs iv av lv) (none, w2)) (h : xe d xt_62 131 [some (.ref 23), none, none, some (.int a3), none, none] [] w2 x) : xe d xt_62 126 [some (.ref 23), none, none, some (.int a3), none, none] [.int s0, .int s1, .ref 23] (xs iv av lv) x := xe_call 3 (fun _ _ => rfl) hm h
set_option maxRecDepth 20000 in
theorem xb_62_131 {d : Nat} {iv : Nat → Int32} {av : Nat → Nat → Int32} {lv : Nat → Nat → Int64} {x : xi_R} {a3 : Int32} (h : xe d xt_62 170 [some (.ref 23), none, none, some (.int a3), none, none] [] (xs iv av lv) x) : xe d xt_62 131 [some (.ref 23), none, none, some (.int a3), none, none] [] (xs iv av lv) x := xe_seq 1 (fun _ _ => rfl) h
set_option maxRecDepth 20000 in
theorem xb_62_134 {d : Nat} {iv : Nat → Int32} {av : Nat → Nat → Int32} {lv : Nat → Nat → Int64} {x : xi_R} {o1 : Option Value} {o2 : Option Value} {o3 : Option Value} {o4 : Option Value} {o5 : Option Value} {w2 : xi_W} {r : Int32} (hm : xm d 70 [.ref 23] (xs iv av lv) (some (.int r), w2)) (h : xe d xt_62 139 [some (.ref 23), none, none, none, none, none] [.int r, .ref 23] w2 x) : xe d xt_62 134 [some (.ref 23), o1, o2, o3, o4, o5] [] (xs iv av lv) x := xe_call 3 (fun _ _ => rfl) hm h
set_option maxRecDepth 20000 in
theorem xb_62_139 {d : Nat} {iv : Nat → Int32} {av : Nat → Nat → Int32} {lv : Nat → Nat → Int64} {x : xi_R} {s0 : Int32} {w2 : xi_W} (hm : xm d 69 [.ref 23, .int (-s0)] (xs iv av lv) (none, w2)) (h : xe d xt_62 143 [some (.ref 23), none, none, none, none, none] [] w2 x) : xe d xt_62 139 [some (.ref 23), none, none, none, none, none] [.int s0, .ref 23] (xs iv av lv) x := xe_call 2 (fun _ _ => rfl) hm h
set_option maxRecDepth 20000 in
theorem xb_62_143 {d : Nat} {iv : Nat → Int32} {av : Nat → Nat → Int32} {lv : Nat → Nat → Int64} {x : xi_R} (h : xe d xt_62 170 [some (.ref 23), none, none, none, none, none] [] (xs iv av lv) x) : xe d xt_62 143 [some (.ref 23), none, none, none, none, none] [] (xs iv av lv) x := xe_seq 1 (fun _ _ => rfl) h
set_option maxRecDepth 20000 in
theorem xb_62_146 {d : Nat} {iv : Nat → Int32} {av : Nat → Nat → Int32} {lv : Nat → Nat → Int64} {x : xi_R} {a1 : Int32} {o2 : Option Value} {o3 : Option Value} {o4 : Option Value} {o5 : Option Value} {w2 : xi_W} {r : Int32} (hm : xm d 70 [.ref 23] (xs iv av lv) (some (.int r), w2)) (h : xe d xt_62 150 [some (.ref 23), some (.int a1), none, none, none, none] [.int r] w2 x) : xe d xt_62 146 [some (.ref 23), some (.int a1), o2, o3, o4, o5] [] (xs iv av lv) x := xe_call 2 (fun _ _ => rfl) hm h
set_option maxRecDepth 20000 in
theorem xb_62_150 {d : Nat} {iv : Nat → Int32} {av : Nat → Nat → Int32} {lv : Nat → Nat → Int64} {x : xi_R} {a1 : Int32} {s0 : Int32} {w2 : xi_W} {r : Int32} (hm : xm d 70 [.ref 23] (xs iv av lv) (some (.int r), w2)) (h : xe d xt_62 156 [some (.ref 23), some (.int a1), none, none, some (.int s0), none] [.int r] w2 x) : xe d xt_62 150 [some (.ref 23), some (.int a1), none, none, none, none] [.int s0] (xs iv av lv) x := xe_call 3 (fun _ _ => rfl) hm h
set_option maxRecDepth 20000 in
theorem xb_62_156 {d : Nat} {iv : Nat → Int32} {av : Nat → Nat → Int32} {lv : Nat → Nat → Int64} {x : xi_R} {a1 : Int32} {a4 : Int32} {s0 : Int32} {w2 : xi_W} {r : Int32} (hm : xm d 63 [.int a1, .int s0, .int a4] (xs iv av lv) (some (.int r), w2)) (h : xe d xt_62 167 [some (.ref 23), some (.int a1), none, none, some (.int a4), some (.int s0)] [.int r, .ref 23] w2 x) : xe d xt_62 156 [some (.ref 23), some (.int a1), none, none, some (.int a4), none] [.int s0] (xs iv av lv) x := xe_call 6 (fun _ _ => rfl) hm h
set_option maxRecDepth 20000 in
theorem xb_62_167 {d : Nat} {iv : Nat → Int32} {av : Nat → Nat → Int32} {lv : Nat → Nat → Int64} {x : xi_R} {a1 : Int32} {a4 : Int32} {a5 : Int32} {s0 : Int32} {w2 : xi_W} (hm : xm d 69 [.ref 23, .int s0] (xs iv av lv) (none, w2)) (h : xe d xt_62 170 [some (.ref 23), some (.int a1), none, none, some (.int a4), some (.int a5)] [] w2 x) : xe d xt_62 167 [some (.ref 23), some (.int a1), none, none, some (.int a4), some (.int a5)] [.int s0, .ref 23] (xs iv av lv) x := xe_call 1 (fun _ _ => rfl) hm h
set_option maxRecDepth 20000 in
theorem xb_62_170 {d : Nat} {iv : Nat → Int32} {av : Nat → Nat → Int32} {lv : Nat → Nat → Int64}  {o0 : Option Value} {o1 : Option Value} {o2 : Option Value} {o3 : Option Value} {o4 : Option Value} {o5 : Option Value} : xe d xt_62 170 [o0, o1, o2, o3, o4, o5] [] (xs iv av lv) (none, (xs iv av lv)) := xe_ret 1 (fun _ _ => rfl)
/-! 63: TimedCompiler$Machine.combine(III)I -/
set_option maxRecDepth 20000 in
theorem xb_63_0 {d : Nat} {iv : Nat → Int32} {av : Nat → Nat → Int32} {lv : Nat → Nat → Int64} {x : xi_R} {a0 : Int32} {a1 : Int32} {a2 : Int32} (h : xe d xt_63 (xi_swt a0 [(5, 36), (6, 40), (7, 44), (8, 48), (9, 60)] 71).toNat [some (.int a0), some (.int a1), some (.int a2)] [] (xs iv av lv) x) : xe d xt_63 0 [some (.int a0), some (.int a1), some (.int a2)] [] (xs iv av lv) x := xe_sw 2 (fun _ _ => rfl) h
set_option maxRecDepth 20000 in
theorem xb_63_36 {d : Nat} {iv : Nat → Int32} {av : Nat → Nat → Int32} {lv : Nat → Nat → Int64}  {o0 : Option Value} {a1 : Int32} {a2 : Int32} : xe d xt_63 36 [o0, some (.int a1), some (.int a2)] [] (xs iv av lv) (some (.int (a1 + a2)), (xs iv av lv)) := xe_ret 4 (fun _ _ => rfl)
set_option maxRecDepth 20000 in
theorem xb_63_40 {d : Nat} {iv : Nat → Int32} {av : Nat → Nat → Int32} {lv : Nat → Nat → Int64}  {o0 : Option Value} {a1 : Int32} {a2 : Int32} : xe d xt_63 40 [o0, some (.int a1), some (.int a2)] [] (xs iv av lv) (some (.int (a1 - a2)), (xs iv av lv)) := xe_ret 4 (fun _ _ => rfl)
set_option maxRecDepth 20000 in
theorem xb_63_44 {d : Nat} {iv : Nat → Int32} {av : Nat → Nat → Int32} {lv : Nat → Nat → Int64}  {o0 : Option Value} {a1 : Int32} {a2 : Int32} : xe d xt_63 44 [o0, some (.int a1), some (.int a2)] [] (xs iv av lv) (some (.int (a1 * a2)), (xs iv av lv)) := xe_ret 4 (fun _ _ => rfl)
set_option maxRecDepth 20000 in
theorem xb_63_48 {d : Nat} {iv : Nat → Int32} {av : Nat → Nat → Int32} {lv : Nat → Nat → Int64} {x : xi_R} {o0 : Option Value} {a1 : Int32} {a2 : Int32} (h1 : a2 = 0 → xe d xt_63 52 [none, some (.int a1), some (.int a2)] [] (xs iv av lv) x) (h2 : ¬ a2 = 0 → xe d xt_63 56 [none, some (.int a1), some (.int a2)] [] (xs iv av lv) x) : xe d xt_63 48 [o0, some (.int a1), some (.int a2)] [] (xs iv av lv) x := xe_ite 2 (fun _ _ => rfl) h1 h2
set_option maxRecDepth 20000 in
theorem xb_63_52 {d : Nat} {iv : Nat → Int32} {av : Nat → Nat → Int32} {lv : Nat → Nat → Int64} {x : xi_R} {o0 : Option Value} {o1 : Option Value} {o2 : Option Value} (h : xe d xt_63 59 [none, none, none] [.int 0] (xs iv av lv) x) : xe d xt_63 52 [o0, o1, o2] [] (xs iv av lv) x := xe_seq 2 (fun _ _ => rfl) h
set_option maxRecDepth 20000 in
theorem xb_63_56 {d : Nat} {iv : Nat → Int32} {av : Nat → Nat → Int32} {lv : Nat → Nat → Int64} {x : xi_R} {o0 : Option Value} {a1 : Int32} {a2 : Int32} (hc : ¬ a2 = 0) (h : xe d xt_63 59 [none, some (.int a1), some (.int a2)] [.int (a1 / a2)] (xs iv av lv) x) : xe d xt_63 56 [o0, some (.int a1), some (.int a2)] [] (xs iv av lv) x := xe_nif 3 (fun _ _ => rfl) hc h
set_option maxRecDepth 20000 in
theorem xb_63_59 {d : Nat} {iv : Nat → Int32} {av : Nat → Nat → Int32} {lv : Nat → Nat → Int64}  {o0 : Option Value} {o1 : Option Value} {o2 : Option Value} {s0 : Int32} : xe d xt_63 59 [o0, o1, o2] [.int s0] (xs iv av lv) (some (.int s0), (xs iv av lv)) := xe_ret 1 (fun _ _ => rfl)
set_option maxRecDepth 20000 in
theorem xb_63_60 {d : Nat} {iv : Nat → Int32} {av : Nat → Nat → Int32} {lv : Nat → Nat → Int64} {x : xi_R} {o0 : Option Value} {a1 : Int32} {a2 : Int32} (h1 : a1 < a2 → xe d xt_63 65 [none, some (.int a1), some (.int a2)] [] (xs iv av lv) x) (h2 : ¬ a1 < a2 → xe d xt_63 69 [none, some (.int a1), some (.int a2)] [] (xs iv av lv) x) : xe d xt_63 60 [o0, some (.int a1), some (.int a2)] [] (xs iv av lv) x := xe_ite 3 (fun _ _ => rfl) h1 h2
set_option maxRecDepth 20000 in
theorem xb_63_65 {d : Nat} {iv : Nat → Int32} {av : Nat → Nat → Int32} {lv : Nat → Nat → Int64} {x : xi_R} {o0 : Option Value} {o1 : Option Value} {o2 : Option Value} (h : xe d xt_63 70 [none, none, none] [.int 1] (xs iv av lv) x) : xe d xt_63 65 [o0, o1, o2] [] (xs iv av lv) x := xe_seq 2 (fun _ _ => rfl) h
set_option maxRecDepth 20000 in
theorem xb_63_69 {d : Nat} {iv : Nat → Int32} {av : Nat → Nat → Int32} {lv : Nat → Nat → Int64} {x : xi_R} {o0 : Option Value} {o1 : Option Value} {o2 : Option Value} (h : xe d xt_63 70 [none, none, none] [.int 0] (xs iv av lv) x) : xe d xt_63 69 [o0, o1, o2] [] (xs iv av lv) x := xe_seq 1 (fun _ _ => rfl) h
set_option maxRecDepth 20000 in
theorem xb_63_70 {d : Nat} {iv : Nat → Int32} {av : Nat → Nat → Int32} {lv : Nat → Nat → Int64}  {o0 : Option Value} {o1 : Option Value} {o2 : Option Value} {s0 : Int32} : xe d xt_63 70 [o0, o1, o2] [.int s0] (xs iv av lv) (some (.int s0), (xs iv av lv)) := xe_ret 1 (fun _ _ => rfl)
set_option maxRecDepth 20000 in
theorem xb_63_71 {d : Nat} {iv : Nat → Int32} {av : Nat → Nat → Int32} {lv : Nat → Nat → Int64} {x : xi_R} {o0 : Option Value} {a1 : Int32} {a2 : Int32} (h1 : a1 = a2 → xe d xt_63 76 [none, some (.int a1), some (.int a2)] [] (xs iv av lv) x) (h2 : ¬ a1 = a2 → xe d xt_63 80 [none, some (.int a1), some (.int a2)] [] (xs iv av lv) x) : xe d xt_63 71 [o0, some (.int a1), some (.int a2)] [] (xs iv av lv) x := xe_ite 3 (fun _ _ => rfl) h1 h2
set_option maxRecDepth 20000 in
theorem xb_63_76 {d : Nat} {iv : Nat → Int32} {av : Nat → Nat → Int32} {lv : Nat → Nat → Int64} {x : xi_R} {o0 : Option Value} {o1 : Option Value} {o2 : Option Value} (h : xe d xt_63 81 [none, none, none] [.int 1] (xs iv av lv) x) : xe d xt_63 76 [o0, o1, o2] [] (xs iv av lv) x := xe_seq 2 (fun _ _ => rfl) h
set_option maxRecDepth 20000 in
theorem xb_63_80 {d : Nat} {iv : Nat → Int32} {av : Nat → Nat → Int32} {lv : Nat → Nat → Int64} {x : xi_R} {o0 : Option Value} {o1 : Option Value} {o2 : Option Value} (h : xe d xt_63 81 [none, none, none] [.int 0] (xs iv av lv) x) : xe d xt_63 80 [o0, o1, o2] [] (xs iv av lv) x := xe_seq 1 (fun _ _ => rfl) h
set_option maxRecDepth 20000 in
theorem xb_63_81 {d : Nat} {iv : Nat → Int32} {av : Nat → Nat → Int32} {lv : Nat → Nat → Int64}  {o0 : Option Value} {o1 : Option Value} {o2 : Option Value} {s0 : Int32} : xe d xt_63 81 [o0, o1, o2] [.int s0] (xs iv av lv) (some (.int s0), (xs iv av lv)) := xe_ret 1 (fun _ _ => rfl)
/-! 64: TimedCompiler$Machine.steer(II)V -/
set_option maxRecDepth 20000 in
theorem xb_64_0 {d : Nat} {iv : Nat → Int32} {av : Nat → Nat → Int32} {lv : Nat → Nat → Int64} {x : xi_R} {a1 : Int32} {a2 : Int32} (h : xe d xt_64 (xi_swt a1 [(12, 40), (13, 51), (14, 66), (15, 74), (16, 101), (17, 116)] 132).toNat [some (.ref 23), some (.int a1), some (.int a2), none] [] (xs iv av lv) x) : xe d xt_64 0 [some (.ref 23), some (.int a1), some (.int a2), none] [] (xs iv av lv) x := xe_sw 2 (fun _ _ => rfl) h
set_option maxRecDepth 20000 in
theorem xb_64_40 {d : Nat} {iv : Nat → Int32} {av : Nat → Nat → Int32} {lv : Nat → Nat → Int64} {x : xi_R} {o1 : Option Value} {o2 : Option Value} {o3 : Option Value} {w2 : xi_W} {r : Int32} (hm : xm d 70 [.ref 23] (xs iv av lv) (some (.int r), w2)) (h : xe d xt_64 45 [some (.ref 23), none, none, none] [.int r, .ref 23] w2 x) : xe d xt_64 40 [some (.ref 23), o1, o2, o3] [] (xs iv av lv) x := xe_call 3 (fun _ _ => rfl) hm h
set_option maxRecDepth 20000 in
theorem xb_64_45 {d : Nat} {iv : Nat → Int32} {av : Nat → Nat → Int32} {lv : Nat → Nat → Int64} {x : xi_R} {s0 : Int32} {w2 : xi_W} (hm : xm d 66 [.ref 23, .int s0] (xs iv av lv) (none, w2)) (h : xe d xt_64 48 [some (.ref 23), none, none, none] [] w2 x) : xe d xt_64 45 [some (.ref 23), none, none, none] [.int s0, .ref 23] (xs iv av lv) x := xe_call 1 (fun _ _ => rfl) hm h
set_option maxRecDepth 20000 in
theorem xb_64_48 {d : Nat} {iv : Nat → Int32} {av : Nat → Nat → Int32} {lv : Nat → Nat → Int64} {x : xi_R} (h : xe d xt_64 140 [some (.ref 23), none, none, none] [] (xs iv av lv) x) : xe d xt_64 48 [some (.ref 23), none, none, none] [] (xs iv av lv) x := xe_seq 1 (fun _ _ => rfl) h
set_option maxRecDepth 20000 in
theorem xb_64_51 {d : Nat} {iv : Nat → Int32} {av : Nat → Nat → Int32} {lv : Nat → Nat → Int64} {x : xi_R} {o1 : Option Value} {a2 : Int32} {o3 : Option Value} {w2 : xi_W} {r : Int32} (hm : xm d 70 [.ref 23] (xs iv av lv) (some (.int r), w2)) (h : xe d xt_64 55 [some (.ref 23), none, some (.int a2), none] [.int r] w2 x) : xe d xt_64 51 [some (.ref 23), o1, some (.int a2), o3] [] (xs iv av lv) x := xe_call 2 (fun _ _ => rfl) hm h
set_option maxRecDepth 20000 in
theorem xb_64_55 {d : Nat} {iv : Nat → Int32} {av : Nat → Nat → Int32} {lv : Nat → Nat → Int64} {x : xi_R} {a2 : Int32} {s0 : Int32} (h1 : s0 = 0 → xe d xt_64 58 [some (.ref 23), none, some (.int a2), none] [] (xs iv av lv) x) (h2 : ¬ s0 = 0 → xe d xt_64 140 [some (.ref 23), none, some (.int a2), none] [] (xs iv av lv) x) : xe d xt_64 55 [some (.ref 23), none, some (.int a2), none] [.int s0] (xs iv av lv) x := xe_ite 1 (fun _ _ => rfl) h1 h2
set_option maxRecDepth 20000 in
theorem xb_64_58 {d : Nat} {iv : Nat → Int32} {av : Nat → Nat → Int32} {lv : Nat → Nat → Int64} {x : xi_R} {o1 : Option Value} {a2 : Int32} {o3 : Option Value} {w2 : xi_W} (hm : xm d 65 [.ref 23, .int a2] (xs iv av lv) (none, w2)) (h : xe d xt_64 63 [some (.ref 23), none, some (.int a2), none] [] w2 x) : xe d xt_64 58 [some (.ref 23), o1, some (.int a2), o3] [] (xs iv av lv) x := xe_call 3 (fun _ _ => rfl) hm h
set_option maxRecDepth 20000 in
theorem xb_64_63 {d : Nat} {iv : Nat → Int32} {av : Nat → Nat → Int32} {lv : Nat → Nat → Int64} {x : xi_R} {a2 : Int32} (h : xe d xt_64 140 [some (.ref 23), none, some (.int a2), none] [] (xs iv av lv) x) : xe d xt_64 63 [some (.ref 23), none, some (.int a2), none] [] (xs iv av lv) x := xe_seq 1 (fun _ _ => rfl) h
set_option maxRecDepth 20000 in
theorem xb_64_66 {d : Nat} {iv : Nat → Int32} {av : Nat → Nat → Int32} {lv : Nat → Nat → Int64} {x : xi_R} {o1 : Option Value} {a2 : Int32} {o3 : Option Value} (h : xe d xt_64 140 [some (.ref 23), none, some (.int a2), none] [] (xs (upd iv 9 a2) av lv) x) : xe d xt_64 66 [some (.ref 23), o1, some (.int a2), o3] [] (xs iv av lv) x := xe_seq 4 (fun _ _ => rfl) h
set_option maxRecDepth 20000 in
theorem xb_64_74 {d : Nat} {iv : Nat → Int32} {av : Nat → Nat → Int32} {lv : Nat → Nat → Int64} {x : xi_R} {o1 : Option Value} {a2 : Int32} {o3 : Option Value} {w2 : xi_W} {r : Int32} (hm : xm d 70 [.ref 23] (xs iv av lv) (some (.int r), w2)) (h : xe d xt_64 78 [some (.ref 23), none, some (.int a2), none] [.int r] w2 x) : xe d xt_64 74 [some (.ref 23), o1, some (.int a2), o3] [] (xs iv av lv) x := xe_call 2 (fun _ _ => rfl) hm h
set_option maxRecDepth 20000 in
theorem xb_64_78 {d : Nat} {iv : Nat → Int32} {av : Nat → Nat → Int32} {lv : Nat → Nat → Int64} {x : xi_R} {a2 : Int32} {s0 : Int32} (h1 : s0 = 0 → xe d xt_64 83 [some (.ref 23), none, some (.int a2), some (.int s0)] [] (xs iv av lv) x) (h2 : ¬ s0 = 0 → xe d xt_64 91 [some (.ref 23), none, some (.int a2), some (.int s0)] [] (xs iv av lv) x) : xe d xt_64 78 [some (.ref 23), none, some (.int a2), none] [.int s0] (xs iv av lv) x := xe_ite 3 (fun _ _ => rfl) h1 h2
set_option maxRecDepth 20000 in
theorem xb_64_83 {d : Nat} {iv : Nat → Int32} {av : Nat → Nat → Int32} {lv : Nat → Nat → Int64} {x : xi_R} {o1 : Option Value} {a2 : Int32} {o3 : Option Value} {w2 : xi_W} (hm : xm d 65 [.ref 23, .int a2] (xs iv av lv) (none, w2)) (h : xe d xt_64 88 [some (.ref 23), none, some (.int a2), none] [] w2 x) : xe d xt_64 83 [some (.ref 23), o1, some (.int a2), o3] [] (xs iv av lv) x := xe_call 3 (fun _ _ => rfl) hm h
set_option maxRecDepth 20000 in
theorem xb_64_88 {d : Nat} {iv : Nat → Int32} {av : Nat → Nat → Int32} {lv : Nat → Nat → Int64} {x : xi_R} {a2 : Int32} (h : xe d xt_64 140 [some (.ref 23), none, some (.int a2), none] [] (xs iv av lv) x) : xe d xt_64 88 [some (.ref 23), none, some (.int a2), none] [] (xs iv av lv) x := xe_seq 1 (fun _ _ => rfl) h
set_option maxRecDepth 20000 in
theorem xb_64_91 {d : Nat} {iv : Nat → Int32} {av : Nat → Nat → Int32} {lv : Nat → Nat → Int64} {x : xi_R} {o1 : Option Value} {o2 : Option Value} {a3 : Int32} {w2 : xi_W} (hm : xm d 69 [.ref 23, .int (a3 - 1)] (xs iv av lv) (none, w2)) (h : xe d xt_64 98 [some (.ref 23), none, none, some (.int a3)] [] w2 x) : xe d xt_64 91 [some (.ref 23), o1, o2, some (.int a3)] [] (xs iv av lv) x := xe_call 5 (fun _ _ => rfl) hm h
set_option maxRecDepth 20000 in
theorem xb_64_98 {d : Nat} {iv : Nat → Int32} {av : Nat → Nat → Int32} {lv : Nat → Nat → Int64} {x : xi_R} {a3 : Int32} (h : xe d xt_64 140 [some (.ref 23), none, none, some (.int a3)] [] (xs iv av lv) x) : xe d xt_64 98 [some (.ref 23), none, none, some (.int a3)] [] (xs iv av lv) x := xe_seq 1 (fun _ _ => rfl) h
set_option maxRecDepth 20000 in
theorem xb_64_101 {d : Nat} {iv : Nat → Int32} {av : Nat → Nat → Int32} {lv : Nat → Nat → Int64} {x : xi_R} {o1 : Option Value} {o2 : Option Value} {o3 : Option Value} {w2 : xi_W} {r : Int32} (hm : xm d 70 [.ref 23] (xs iv av lv) (some (.int r), w2)) (h : xe d xt_64 106 [some (.ref 23), none, none, none] [.int r, .ref 23] w2 x) : xe d xt_64 101 [some (.ref 23), o1, o2, o3] [] (xs iv av lv) x := xe_call 3 (fun _ _ => rfl) hm h
set_option maxRecDepth 20000 in
theorem xb_64_106 {d : Nat} {iv : Nat → Int32} {av : Nat → Nat → Int32} {lv : Nat → Nat → Int64} {x : xi_R} {s0 : Int32} {w2 : xi_W} (hm : xm d 69 [.ref 23, .int (if s0 < 0 then 0 else s0)] (xs iv av lv) (none, w2)) (h : xe d xt_64 113 [some (.ref 23), none, none, none] [] w2 x) : xe d xt_64 106 [some (.ref 23), none, none, none] [.int s0, .ref 23] (xs iv av lv) x := xe_call 3 (fun _ _ => rfl) hm h
set_option maxRecDepth 20000 in
theorem xb_64_113 {d : Nat} {iv : Nat → Int32} {av : Nat → Nat → Int32} {lv : Nat → Nat → Int64} {x : xi_R} (h : xe d xt_64 140 [some (.ref 23), none, none, none] [] (xs iv av lv) x) : xe d xt_64 113 [some (.ref 23), none, none, none] [] (xs iv av lv) x := xe_seq 1 (fun _ _ => rfl) h
set_option maxRecDepth 20000 in
theorem xb_64_116 {d : Nat} {iv : Nat → Int32} {av : Nat → Nat → Int32} {lv : Nat → Nat → Int64} {x : xi_R} {o1 : Option Value} {a2 : Int32} {o3 : Option Value} {w2 : xi_W} (hm : xm d 69 [.ref 23, .int (iv 9)] (xs iv av lv) (none, w2)) (h : xe d xt_64 124 [some (.ref 23), none, some (.int a2), none] [] w2 x) : xe d xt_64 116 [some (.ref 23), o1, some (.int a2), o3] [] (xs iv av lv) x := xe_call 4 (fun _ _ => rfl) hm h
set_option maxRecDepth 20000 in
theorem xb_64_124 {d : Nat} {iv : Nat → Int32} {av : Nat → Nat → Int32} {lv : Nat → Nat → Int64} {x : xi_R} {a2 : Int32} (h : xe d xt_64 140 [some (.ref 23), none, some (.int a2), none] [] (xs (upd iv 9 a2) av lv) x) : xe d xt_64 124 [some (.ref 23), none, some (.int a2), none] [] (xs iv av lv) x := xe_seq 4 (fun _ _ => rfl) h
set_option maxRecDepth 20000 in
theorem xb_64_132 {d : Nat} {iv : Nat → Int32} {av : Nat → Nat → Int32} {lv : Nat → Nat → Int64} {x : xi_R} {o1 : Option Value} {o2 : Option Value} {o3 : Option Value} {w2 : xi_W} {r : Int32} (hm : xm d 70 [.ref 23] (xs iv av lv) (some (.int r), w2)) (h : xe d xt_64 137 [some (.ref 23), none, none, none] [.int r, .ref 23] w2 x) : xe d xt_64 132 [some (.ref 23), o1, o2, o3] [] (xs iv av lv) x := xe_call 3 (fun _ _ => rfl) hm h
set_option maxRecDepth 20000 in
theorem xb_64_137 {d : Nat} {iv : Nat → Int32} {av : Nat → Nat → Int32} {lv : Nat → Nat → Int64} {x : xi_R} {s0 : Int32} (h : xe d xt_64 140 [some (.ref 23), none, none, none] [] (xs (upd iv 9 s0) av lv) x) : xe d xt_64 137 [some (.ref 23), none, none, none] [.int s0, .ref 23] (xs iv av lv) x := xe_seq 1 (fun _ _ => rfl) h
set_option maxRecDepth 20000 in
theorem xb_64_140 {d : Nat} {iv : Nat → Int32} {av : Nat → Nat → Int32} {lv : Nat → Nat → Int64}  {o0 : Option Value} {o1 : Option Value} {o2 : Option Value} {o3 : Option Value} : xe d xt_64 140 [o0, o1, o2, o3] [] (xs iv av lv) (none, (xs iv av lv)) := xe_ret 1 (fun _ _ => rfl)
/-! 65: TimedCompiler$Machine.goThere(I)V -/
set_option maxRecDepth 20000 in
theorem xb_65_0 {d : Nat} {iv : Nat → Int32} {av : Nat → Nat → Int32} {lv : Nat → Nat → Int64}  {a1 : Int32} : xe d xt_65 0 [some (.ref 23), some (.int a1)] [] (xs iv av lv) (none, (xs (upd (upd iv 7 ((iv 7) + 2)) 9 a1) av lv)) := xe_ret 10 (fun _ _ => rfl)
/-! 66: TimedCompiler$Machine.putOut(I)V -/
set_option maxRecDepth 20000 in
theorem xb_66_0 {d : Nat} {iv : Nat → Int32} {av : Nat → Nat → Int32} {lv : Nat → Nat → Int64} {x : xi_R} {a1 : Int32} (h1 : (iv 10) < 32 → xe d xt_66 9 [some (.ref 23), some (.int a1)] [] (xs iv av lv) x) (h2 : ¬ (iv 10) < 32 → xe d xt_66 19 [some (.ref 23), some (.int a1)] [] (xs iv av lv) x) : xe d xt_66 0 [some (.ref 23), some (.int a1)] [] (xs iv av lv) x := xe_ite 4 (fun _ _ => rfl) h1 h2
set_option maxRecDepth 20000 in
theorem xb_66_9 {d : Nat} {iv : Nat → Int32} {av : Nat → Nat → Int32} {lv : Nat → Nat → Int64} {x : xi_R} {a1 : Int32} (hc : 0 ≤ ((iv 10) : Int32).toInt ∧ ((iv 10) : Int32).toInt < ((32 : Nat) : Int)) (h : xe d xt_66 19 [some (.ref 23), some (.int a1)] [] (xs iv (va_up av 25 (upd (av 25) ((iv 10) : Int32).toNatClampNeg a1)) lv) x) : xe d xt_66 9 [some (.ref 23), some (.int a1)] [] (xs iv av lv) x := xe_if 6 (fun _ _ => rfl) hc h
set_option maxRecDepth 20000 in
theorem xb_66_19 {d : Nat} {iv : Nat → Int32} {av : Nat → Nat → Int32} {lv : Nat → Nat → Int64}  {o1 : Option Value} : xe d xt_66 19 [some (.ref 23), o1] [] (xs iv av lv) (none, (xs (upd iv 10 ((iv 10) + 1)) av lv)) := xe_ret 7 (fun _ _ => rfl)
/-! 67: TimedCompiler$Machine.placeAt(I)I -/
set_option maxRecDepth 20000 in
theorem xb_67_0 {d : Nat} {iv : Nat → Int32} {av : Nat → Nat → Int32} {lv : Nat → Nat → Int64} {x : xi_R} {a1 : Int32} (h1 : a1 < 0 → xe d xt_67 19 [some (.ref 23), some (.int a1)] [] (xs iv av lv) x) (h2 : ¬ a1 < 0 → xe d xt_67 4 [some (.ref 23), some (.int a1)] [] (xs iv av lv) x) : xe d xt_67 0 [some (.ref 23), some (.int a1)] [] (xs iv av lv) x := xe_ite 2 (fun _ _ => rfl) h1 h2
set_option maxRecDepth 20000 in
theorem xb_67_4 {d : Nat} {iv : Nat → Int32} {av : Nat → Nat → Int32} {lv : Nat → Nat → Int64} {x : xi_R} {a1 : Int32} (h1 : a1 < 14 → xe d xt_67 10 [some (.ref 23), some (.int a1)] [] (xs iv av lv) x) (h2 : ¬ a1 < 14 → xe d xt_67 19 [some (.ref 23), some (.int a1)] [] (xs iv av lv) x) : xe d xt_67 4 [some (.ref 23), some (.int a1)] [] (xs iv av lv) x := xe_ite 3 (fun _ _ => rfl) h1 h2
set_option maxRecDepth 20000 in
theorem xb_67_10 {d : Nat} {iv : Nat → Int32} {av : Nat → Nat → Int32} {lv : Nat → Nat → Int64} {x : xi_R} {a1 : Int32} (hc : 0 ≤ (a1 : Int32).toInt ∧ (a1 : Int32).toInt < ((14 : Nat) : Int)) (h : xe d xt_67 16 [some (.ref 23), some (.int a1)] [.int (av 24 (a1 : Int32).toNatClampNeg)] (xs iv av lv) x) : xe d xt_67 10 [some (.ref 23), some (.int a1)] [] (xs iv av lv) x := xe_if 4 (fun _ _ => rfl) hc h
set_option maxRecDepth 20000 in
theorem xb_67_16 {d : Nat} {iv : Nat → Int32} {av : Nat → Nat → Int32} {lv : Nat → Nat → Int64} {x : xi_R} {a1 : Int32} {s0 : Int32} (h : xe d xt_67 20 [some (.ref 23), some (.int a1)] [.int s0] (xs iv av lv) x) : xe d xt_67 16 [some (.ref 23), some (.int a1)] [.int s0] (xs iv av lv) x := xe_seq 1 (fun _ _ => rfl) h
set_option maxRecDepth 20000 in
theorem xb_67_19 {d : Nat} {iv : Nat → Int32} {av : Nat → Nat → Int32} {lv : Nat → Nat → Int64} {x : xi_R} {o0 : Option Value} {o1 : Option Value} (h : xe d xt_67 20 [none, none] [.int 0] (xs iv av lv) x) : xe d xt_67 19 [o0, o1] [] (xs iv av lv) x := xe_seq 1 (fun _ _ => rfl) h
set_option maxRecDepth 20000 in
theorem xb_67_20 {d : Nat} {iv : Nat → Int32} {av : Nat → Nat → Int32} {lv : Nat → Nat → Int64}  {o0 : Option Value} {o1 : Option Value} {s0 : Int32} : xe d xt_67 20 [o0, o1] [.int s0] (xs iv av lv) (some (.int s0), (xs iv av lv)) := xe_ret 1 (fun _ _ => rfl)
/-! 68: TimedCompiler$Machine.store(II)V -/
set_option maxRecDepth 20000 in
theorem xb_68_0 {d : Nat} {iv : Nat → Int32} {av : Nat → Nat → Int32} {lv : Nat → Nat → Int64} {x : xi_R} {a1 : Int32} {a2 : Int32} (h1 : a1 < 0 → xe d xt_68 17 [some (.ref 23), some (.int a1), some (.int a2)] [] (xs iv av lv) x) (h2 : ¬ a1 < 0 → xe d xt_68 4 [some (.ref 23), some (.int a1), some (.int a2)] [] (xs iv av lv) x) : xe d xt_68 0 [some (.ref 23), some (.int a1), some (.int a2)] [] (xs iv av lv) x := xe_ite 2 (fun _ _ => rfl) h1 h2
set_option maxRecDepth 20000 in
theorem xb_68_4 {d : Nat} {iv : Nat → Int32} {av : Nat → Nat → Int32} {lv : Nat → Nat → Int64} {x : xi_R} {a1 : Int32} {a2 : Int32} (h1 : a1 < 14 → xe d xt_68 10 [some (.ref 23), some (.int a1), some (.int a2)] [] (xs iv av lv) x) (h2 : ¬ a1 < 14 → xe d xt_68 17 [some (.ref 23), some (.int a1), some (.int a2)] [] (xs iv av lv) x) : xe d xt_68 4 [some (.ref 23), some (.int a1), some (.int a2)] [] (xs iv av lv) x := xe_ite 3 (fun _ _ => rfl) h1 h2
set_option maxRecDepth 20000 in
theorem xb_68_10 {d : Nat} {iv : Nat → Int32} {av : Nat → Nat → Int32} {lv : Nat → Nat → Int64} {x : xi_R} {a1 : Int32} {a2 : Int32} (hc : 0 ≤ (a1 : Int32).toInt ∧ (a1 : Int32).toInt < ((14 : Nat) : Int)) (h : xe d xt_68 17 [some (.ref 23), some (.int a1), some (.int a2)] [] (xs iv (va_up av 24 (upd (av 24) (a1 : Int32).toNatClampNeg a2)) lv) x) : xe d xt_68 10 [some (.ref 23), some (.int a1), some (.int a2)] [] (xs iv av lv) x := xe_if 5 (fun _ _ => rfl) hc h
set_option maxRecDepth 20000 in
theorem xb_68_17 {d : Nat} {iv : Nat → Int32} {av : Nat → Nat → Int32} {lv : Nat → Nat → Int64}  {o0 : Option Value} {o1 : Option Value} {o2 : Option Value} : xe d xt_68 17 [o0, o1, o2] [] (xs iv av lv) (none, (xs iv av lv)) := xe_ret 1 (fun _ _ => rfl)
/-! 69: TimedCompiler$Machine.push(I)V -/
set_option maxRecDepth 20000 in
theorem xb_69_0 {d : Nat} {iv : Nat → Int32} {av : Nat → Nat → Int32} {lv : Nat → Nat → Int64} {x : xi_R} {a1 : Int32} (h1 : (iv 5) < 200 → xe d xt_69 10 [some (.ref 23), some (.int a1)] [] (xs iv av lv) x) (h2 : ¬ (iv 5) < 200 → xe d xt_69 45 [some (.ref 23), some (.int a1)] [] (xs iv av lv) x) : xe d xt_69 0 [some (.ref 23), some (.int a1)] [] (xs iv av lv) x := xe_ite 4 (fun _ _ => rfl) h1 h2
set_option maxRecDepth 20000 in
theorem xb_69_10 {d : Nat} {iv : Nat → Int32} {av : Nat → Nat → Int32} {lv : Nat → Nat → Int64} {x : xi_R} {a1 : Int32} (hc : 0 ≤ ((iv 5) : Int32).toInt ∧ ((iv 5) : Int32).toInt < ((200 : Nat) : Int)) (h : xe d xt_69 20 [some (.ref 23), some (.int a1)] [] (xs iv (va_up av 26 (upd (av 26) ((iv 5) : Int32).toNatClampNeg a1)) lv) x) : xe d xt_69 10 [some (.ref 23), some (.int a1)] [] (xs iv av lv) x := xe_if 6 (fun _ _ => rfl) hc h
set_option maxRecDepth 20000 in
theorem xb_69_20 {d : Nat} {iv : Nat → Int32} {av : Nat → Nat → Int32} {lv : Nat → Nat → Int64} {x : xi_R} {a1 : Int32} (h : xe d xt_69 45 [some (.ref 23), some (.int a1)] [] (xs (upd (upd iv 5 ((iv 5) + 1)) 8 (if (iv 8) < ((iv 5) + 1) then ((iv 5) + 1) else (iv 8))) av lv) x) : xe d xt_69 20 [some (.ref 23), some (.int a1)] [] (xs iv av lv) x := xe_seq 13 (fun _ _ => rfl) h
set_option maxRecDepth 20000 in
theorem xb_69_45 {d : Nat} {iv : Nat → Int32} {av : Nat → Nat → Int32} {lv : Nat → Nat → Int64}  {o0 : Option Value} {o1 : Option Value} : xe d xt_69 45 [o0, o1] [] (xs iv av lv) (none, (xs iv av lv)) := xe_ret 1 (fun _ _ => rfl)
/-! 70: TimedCompiler$Machine.pop()I -/
set_option maxRecDepth 20000 in
theorem xb_70_0 {d : Nat} {iv : Nat → Int32} {av : Nat → Nat → Int32} {lv : Nat → Nat → Int64} {x : xi_R} (h1 : (iv 5) = 0 → xe d xt_70 7 [some (.ref 23)] [] (xs iv av lv) x) (h2 : ¬ (iv 5) = 0 → xe d xt_70 9 [some (.ref 23)] [] (xs iv av lv) x) : xe d xt_70 0 [some (.ref 23)] [] (xs iv av lv) x := xe_ite 3 (fun _ _ => rfl) h1 h2
set_option maxRecDepth 20000 in
theorem xb_70_7 {d : Nat} {iv : Nat → Int32} {av : Nat → Nat → Int32} {lv : Nat → Nat → Int64}  {o0 : Option Value} : xe d xt_70 7 [o0] [] (xs iv av lv) (some (.int 0), (xs iv av lv)) := xe_ret 2 (fun _ _ => rfl)
set_option maxRecDepth 20000 in
theorem xb_70_9 {d : Nat} {iv : Nat → Int32} {av : Nat → Nat → Int32} {lv : Nat → Nat → Int64} {x : xi_R} (hc : 0 ≤ (((iv 5) - 1) : Int32).toInt ∧ (((iv 5) - 1) : Int32).toInt < ((200 : Nat) : Int)) (h : xe d xt_70 28 [some (.ref 23)] [.int (av 26 (((iv 5) - 1) : Int32).toNatClampNeg)] (xs (upd iv 5 ((iv 5) - 1)) av lv) x) : xe d xt_70 9 [some (.ref 23)] [] (xs iv av lv) x := xe_if 11 (fun _ _ => rfl) hc h
set_option maxRecDepth 20000 in
theorem xb_70_28 {d : Nat} {iv : Nat → Int32} {av : Nat → Nat → Int32} {lv : Nat → Nat → Int64}  {s0 : Int32} : xe d xt_70 28 [some (.ref 23)] [.int s0] (xs iv av lv) (some (.int s0), (xs iv av lv)) := xe_ret 1 (fun _ _ => rfl)
/-! 71: TimedCompiler$Machine.below(I)I -/
set_option maxRecDepth 20000 in
theorem xb_71_0 {d : Nat} {iv : Nat → Int32} {av : Nat → Nat → Int32} {lv : Nat → Nat → Int64} {x : xi_R} {a1 : Int32} (h1 : (((iv 5) - 1) - a1) < 0 → xe d xt_71 29 [some (.ref 23), some (.int a1), some (.int (((iv 5) - 1) - a1))] [] (xs iv av lv) x) (h2 : ¬ (((iv 5) - 1) - a1) < 0 → xe d xt_71 13 [some (.ref 23), some (.int a1), some (.int (((iv 5) - 1) - a1))] [] (xs iv av lv) x) : xe d xt_71 0 [some (.ref 23), some (.int a1), none] [] (xs iv av lv) x := xe_ite 9 (fun _ _ => rfl) h1 h2
set_option maxRecDepth 20000 in
theorem xb_71_13 {d : Nat} {iv : Nat → Int32} {av : Nat → Nat → Int32} {lv : Nat → Nat → Int64} {x : xi_R} {o1 : Option Value} {a2 : Int32} (h1 : a2 < 200 → xe d xt_71 20 [some (.ref 23), none, some (.int a2)] [] (xs iv av lv) x) (h2 : ¬ a2 < 200 → xe d xt_71 29 [some (.ref 23), none, some (.int a2)] [] (xs iv av lv) x) : xe d xt_71 13 [some (.ref 23), o1, some (.int a2)] [] (xs iv av lv) x := xe_ite 3 (fun _ _ => rfl) h1 h2
set_option maxRecDepth 20000 in
theorem xb_71_20 {d : Nat} {iv : Nat → Int32} {av : Nat → Nat → Int32} {lv : Nat → Nat → Int64} {x : xi_R} {o1 : Option Value} {a2 : Int32} (hc : 0 ≤ (a2 : Int32).toInt ∧ (a2 : Int32).toInt < ((200 : Nat) : Int)) (h : xe d xt_71 26 [some (.ref 23), none, some (.int a2)] [.int (av 26 (a2 : Int32).toNatClampNeg)] (xs iv av lv) x) : xe d xt_71 20 [some (.ref 23), o1, some (.int a2)] [] (xs iv av lv) x := xe_if 4 (fun _ _ => rfl) hc h
set_option maxRecDepth 20000 in
theorem xb_71_26 {d : Nat} {iv : Nat → Int32} {av : Nat → Nat → Int32} {lv : Nat → Nat → Int64} {x : xi_R} {a2 : Int32} {s0 : Int32} (h : xe d xt_71 30 [some (.ref 23), none, some (.int a2)] [.int s0] (xs iv av lv) x) : xe d xt_71 26 [some (.ref 23), none, some (.int a2)] [.int s0] (xs iv av lv) x := xe_seq 1 (fun _ _ => rfl) h
set_option maxRecDepth 20000 in
theorem xb_71_29 {d : Nat} {iv : Nat → Int32} {av : Nat → Nat → Int32} {lv : Nat → Nat → Int64} {x : xi_R} {o0 : Option Value} {o1 : Option Value} {o2 : Option Value} (h : xe d xt_71 30 [none, none, none] [.int 0] (xs iv av lv) x) : xe d xt_71 29 [o0, o1, o2] [] (xs iv av lv) x := xe_seq 1 (fun _ _ => rfl) h
set_option maxRecDepth 20000 in
theorem xb_71_30 {d : Nat} {iv : Nat → Int32} {av : Nat → Nat → Int32} {lv : Nat → Nat → Int64}  {o0 : Option Value} {o1 : Option Value} {o2 : Option Value} {s0 : Int32} : xe d xt_71 30 [o0, o1, o2] [.int s0] (xs iv av lv) (some (.int s0), (xs iv av lv)) := xe_ret 1 (fun _ _ => rfl)
