/-! 40: TimedCompiler$Code.clear()V -/
set_option maxRecDepth 20000 in
theorem xb_40_0 {d : Nat} {iv : Nat → Int32} {av : Nat → Nat → Int32} {lv : Nat → Nat → Int64} {x : xi_R} (h : xe d xt_40 7 [some (.ref 4), some (.int 0)] [] (xs (upd iv 2 0) av lv) x) : xe d xt_40 0 [some (.ref 4), none] [] (xs iv av lv) x := xe_seq 5 (fun _ _ => rfl) h
set_option maxRecDepth 20000 in
theorem xb_40_7 {d : Nat} {iv : Nat → Int32} {av : Nat → Nat → Int32} {lv : Nat → Nat → Int64} {x : xi_R} {a1 : Int32} (h1 : a1 < 5 → xe d xt_40 12 [some (.ref 4), some (.int a1)] [] (xs iv av lv) x) (h2 : ¬ a1 < 5 → xe d xt_40 46 [some (.ref 4), some (.int a1)] [] (xs iv av lv) x) : xe d xt_40 7 [some (.ref 4), some (.int a1)] [] (xs iv av lv) x := xe_ite 3 (fun _ _ => rfl) h1 h2
set_option maxRecDepth 20000 in
theorem xb_40_12 {d : Nat} {iv : Nat → Int32} {av : Nat → Nat → Int32} {lv : Nat → Nat → Int64} {x : xi_R} {a1 : Int32} (hc : 0 ≤ (a1 : Int32).toInt ∧ (a1 : Int32).toInt < ((5 : Nat) : Int)) (h : xe d xt_40 19 [some (.ref 4), some (.int a1)] [] (xs iv (va_up av 7 (upd (av 7) (a1 : Int32).toNatClampNeg (-1))) lv) x) : xe d xt_40 12 [some (.ref 4), some (.int a1)] [] (xs iv av lv) x := xe_if 5 (fun _ _ => rfl) hc h
set_option maxRecDepth 20000 in
theorem xb_40_19 {d : Nat} {iv : Nat → Int32} {av : Nat → Nat → Int32} {lv : Nat → Nat → Int64} {x : xi_R} {a1 : Int32} (hc : 0 ≤ (a1 : Int32).toInt ∧ (a1 : Int32).toInt < ((5 : Nat) : Int)) (h : xe d xt_40 26 [some (.ref 4), some (.int a1)] [] (xs iv (va_up av 8 (upd (av 8) (a1 : Int32).toNatClampNeg (-1))) lv) x) : xe d xt_40 19 [some (.ref 4), some (.int a1)] [] (xs iv av lv) x := xe_if 5 (fun _ _ => rfl) hc h
set_option maxRecDepth 20000 in
theorem xb_40_26 {d : Nat} {iv : Nat → Int32} {av : Nat → Nat → Int32} {lv : Nat → Nat → Int64} {x : xi_R} {a1 : Int32} (hc : 0 ≤ (a1 : Int32).toInt ∧ (a1 : Int32).toInt < ((5 : Nat) : Int)) (h : xe d xt_40 33 [some (.ref 4), some (.int a1)] [] (xs iv (va_up av 9 (upd (av 9) (a1 : Int32).toNatClampNeg 0)) lv) x) : xe d xt_40 26 [some (.ref 4), some (.int a1)] [] (xs iv av lv) x := xe_if 5 (fun _ _ => rfl) hc h
set_option maxRecDepth 20000 in
theorem xb_40_33 {d : Nat} {iv : Nat → Int32} {av : Nat → Nat → Int32} {lv : Nat → Nat → Int64} {x : xi_R} {a1 : Int32} (hc : 0 ≤ (a1 : Int32).toInt ∧ (a1 : Int32).toInt < ((5 : Nat) : Int)) (h : xe d xt_40 40 [some (.ref 4), some (.int a1)] [] (xs iv (va_up av 10 (upd (av 10) (a1 : Int32).toNatClampNeg 0)) lv) x) : xe d xt_40 33 [some (.ref 4), some (.int a1)] [] (xs iv av lv) x := xe_if 5 (fun _ _ => rfl) hc h
set_option maxRecDepth 20000 in
theorem xb_40_40 {d : Nat} {iv : Nat → Int32} {av : Nat → Nat → Int32} {lv : Nat → Nat → Int64} {x : xi_R} {a1 : Int32} (h : xe d xt_40 7 [some (.ref 4), some (.int (a1 + 1))] [] (xs iv av lv) x) : xe d xt_40 40 [some (.ref 4), some (.int a1)] [] (xs iv av lv) x := xe_seq 2 (fun _ _ => rfl) h
set_option maxRecDepth 20000 in
theorem xb_40_46 {d : Nat} {iv : Nat → Int32} {av : Nat → Nat → Int32} {lv : Nat → Nat → Int64}  {o0 : Option Value} {o1 : Option Value} : xe d xt_40 46 [o0, o1] [] (xs iv av lv) (none, (xs iv av lv)) := xe_ret 1 (fun _ _ => rfl)
/-! 41: TimedCompiler$Code.copy(LTimedCompiler$Code;)V -/
set_option maxRecDepth 20000 in
theorem xb_41_0 {d : Nat} {iv : Nat → Int32} {av : Nat → Nat → Int32} {lv : Nat → Nat → Int64} {x : xi_R} (h : xe d xt_41 24 [some (.ref 16), some (.ref 4)] [] (xs (upd iv 4 (iv 2)) (va_up av 17 (va_cpy (av 5) (av 17) (0 : Int32).toNatClampNeg (0 : Int32).toNatClampNeg (200 : Int32).toNatClampNeg)) lv) x) : xe d xt_41 0 [some (.ref 16), some (.ref 4)] [] (xs iv av lv) x := xe_seq 12 (fun _ _ => rfl) h
set_option maxRecDepth 20000 in
theorem xb_41_24 {d : Nat} {iv : Nat → Int32} {av : Nat → Nat → Int32} {lv : Nat → Nat → Int64} {x : xi_R} (h : xe d xt_41 40 [some (.ref 16), some (.ref 4)] [] (xs iv (va_up av 18 (va_cpy (av 6) (av 18) (0 : Int32).toNatClampNeg (0 : Int32).toNatClampNeg (200 : Int32).toNatClampNeg)) lv) x) : xe d xt_41 24 [some (.ref 16), some (.ref 4)] [] (xs iv av lv) x := xe_seq 8 (fun _ _ => rfl) h
set_option maxRecDepth 20000 in
theorem xb_41_40 {d : Nat} {iv : Nat → Int32} {av : Nat → Nat → Int32} {lv : Nat → Nat → Int64} {x : xi_R} (h : xe d xt_41 54 [some (.ref 16), some (.ref 4)] [] (xs iv (va_up av 19 (va_cpy (av 7) (av 19) (0 : Int32).toNatClampNeg (0 : Int32).toNatClampNeg (5 : Int32).toNatClampNeg)) lv) x) : xe d xt_41 40 [some (.ref 16), some (.ref 4)] [] (xs iv av lv) x := xe_seq 8 (fun _ _ => rfl) h
set_option maxRecDepth 20000 in
theorem xb_41_54 {d : Nat} {iv : Nat → Int32} {av : Nat → Nat → Int32} {lv : Nat → Nat → Int64} {x : xi_R} (h : xe d xt_41 68 [some (.ref 16), some (.ref 4)] [] (xs iv (va_up av 20 (va_cpy (av 8) (av 20) (0 : Int32).toNatClampNeg (0 : Int32).toNatClampNeg (5 : Int32).toNatClampNeg)) lv) x) : xe d xt_41 54 [some (.ref 16), some (.ref 4)] [] (xs iv av lv) x := xe_seq 8 (fun _ _ => rfl) h
set_option maxRecDepth 20000 in
theorem xb_41_68 {d : Nat} {iv : Nat → Int32} {av : Nat → Nat → Int32} {lv : Nat → Nat → Int64} {x : xi_R} (h : xe d xt_41 82 [some (.ref 16), some (.ref 4)] [] (xs iv (va_up av 21 (va_cpy (av 9) (av 21) (0 : Int32).toNatClampNeg (0 : Int32).toNatClampNeg (5 : Int32).toNatClampNeg)) lv) x) : xe d xt_41 68 [some (.ref 16), some (.ref 4)] [] (xs iv av lv) x := xe_seq 8 (fun _ _ => rfl) h
set_option maxRecDepth 20000 in
theorem xb_41_82 {d : Nat} {iv : Nat → Int32} {av : Nat → Nat → Int32} {lv : Nat → Nat → Int64} {x : xi_R} (h : xe d xt_41 96 [some (.ref 16), some (.ref 4)] [] (xs iv (va_up av 22 (va_cpy (av 10) (av 22) (0 : Int32).toNatClampNeg (0 : Int32).toNatClampNeg (5 : Int32).toNatClampNeg)) lv) x) : xe d xt_41 82 [some (.ref 16), some (.ref 4)] [] (xs iv av lv) x := xe_seq 8 (fun _ _ => rfl) h
set_option maxRecDepth 20000 in
theorem xb_41_96 {d : Nat} {iv : Nat → Int32} {av : Nat → Nat → Int32} {lv : Nat → Nat → Int64}  : xe d xt_41 96 [some (.ref 16), some (.ref 4)] [] (xs iv av lv) (none, (xs iv av lv)) := xe_ret 1 (fun _ _ => rfl)
/-! 42: TimedCompiler$Code.add(II)I -/
set_option maxRecDepth 20000 in
theorem xb_42_0 {d : Nat} {iv : Nat → Int32} {av : Nat → Nat → Int32} {lv : Nat → Nat → Int64} {x : xi_R} {a1 : Int32} {a2 : Int32} (h1 : (iv 2) < 200 → xe d xt_42 12 [some (.ref 4), some (.int a1), some (.int a2), some (.int (iv 2))] [] (xs iv av lv) x) (h2 : ¬ (iv 2) < 200 → xe d xt_42 26 [some (.ref 4), some (.int a1), some (.int a2), some (.int (iv 2))] [] (xs iv av lv) x) : xe d xt_42 0 [some (.ref 4), some (.int a1), some (.int a2), none] [] (xs iv av lv) x := xe_ite 6 (fun _ _ => rfl) h1 h2
set_option maxRecDepth 20000 in
theorem xb_42_12 {d : Nat} {iv : Nat → Int32} {av : Nat → Nat → Int32} {lv : Nat → Nat → Int64} {x : xi_R} {a1 : Int32} {a2 : Int32} {a3 : Int32} (hc : 0 ≤ (a3 : Int32).toInt ∧ (a3 : Int32).toInt < ((200 : Nat) : Int)) (h : xe d xt_42 19 [some (.ref 4), some (.int a1), some (.int a2), some (.int a3)] [] (xs iv (va_up av 5 (upd (av 5) (a3 : Int32).toNatClampNeg a1)) lv) x) : xe d xt_42 12 [some (.ref 4), some (.int a1), some (.int a2), some (.int a3)] [] (xs iv av lv) x := xe_if 5 (fun _ _ => rfl) hc h
set_option maxRecDepth 20000 in
theorem xb_42_19 {d : Nat} {iv : Nat → Int32} {av : Nat → Nat → Int32} {lv : Nat → Nat → Int64} {x : xi_R} {a1 : Int32} {a2 : Int32} {a3 : Int32} (hc : 0 ≤ (a3 : Int32).toInt ∧ (a3 : Int32).toInt < ((200 : Nat) : Int)) (h : xe d xt_42 26 [some (.ref 4), some (.int a1), some (.int a2), some (.int a3)] [] (xs iv (va_up av 6 (upd (av 6) (a3 : Int32).toNatClampNeg a2)) lv) x) : xe d xt_42 19 [some (.ref 4), some (.int a1), some (.int a2), some (.int a3)] [] (xs iv av lv) x := xe_if 5 (fun _ _ => rfl) hc h
set_option maxRecDepth 20000 in
theorem xb_42_26 {d : Nat} {iv : Nat → Int32} {av : Nat → Nat → Int32} {lv : Nat → Nat → Int64}  {o1 : Option Value} {o2 : Option Value} {a3 : Int32} : xe d xt_42 26 [some (.ref 4), o1, o2, some (.int a3)] [] (xs iv av lv) (some (.int a3), (xs (upd iv 2 ((iv 2) + 1)) av lv)) := xe_ret 8 (fun _ _ => rfl)
/-! 43: TimedCompiler$Code.aim(I)V -/
set_option maxRecDepth 20000 in
theorem xb_43_0 {d : Nat} {iv : Nat → Int32} {av : Nat → Nat → Int32} {lv : Nat → Nat → Int64} {x : xi_R} {a1 : Int32} (h1 : a1 < 0 → xe d xt_43 21 [some (.ref 4), some (.int a1)] [] (xs iv av lv) x) (h2 : ¬ a1 < 0 → xe d xt_43 4 [some (.ref 4), some (.int a1)] [] (xs iv av lv) x) : xe d xt_43 0 [some (.ref 4), some (.int a1)] [] (xs iv av lv) x := xe_ite 2 (fun _ _ => rfl) h1 h2
set_option maxRecDepth 20000 in
theorem xb_43_4 {d : Nat} {iv : Nat → Int32} {av : Nat → Nat → Int32} {lv : Nat → Nat → Int64} {x : xi_R} {a1 : Int32} (h1 : a1 < 200 → xe d xt_43 11 [some (.ref 4), some (.int a1)] [] (xs iv av lv) x) (h2 : ¬ a1 < 200 → xe d xt_43 21 [some (.ref 4), some (.int a1)] [] (xs iv av lv) x) : xe d xt_43 4 [some (.ref 4), some (.int a1)] [] (xs iv av lv) x := xe_ite 3 (fun _ _ => rfl) h1 h2
set_option maxRecDepth 20000 in
theorem xb_43_11 {d : Nat} {iv : Nat → Int32} {av : Nat → Nat → Int32} {lv : Nat → Nat → Int64} {x : xi_R} {a1 : Int32} (hc : 0 ≤ (a1 : Int32).toInt ∧ (a1 : Int32).toInt < ((200 : Nat) : Int)) (h : xe d xt_43 21 [some (.ref 4), some (.int a1)] [] (xs iv (va_up av 6 (upd (av 6) (a1 : Int32).toNatClampNeg (iv 2))) lv) x) : xe d xt_43 11 [some (.ref 4), some (.int a1)] [] (xs iv av lv) x := xe_if 6 (fun _ _ => rfl) hc h
set_option maxRecDepth 20000 in
theorem xb_43_21 {d : Nat} {iv : Nat → Int32} {av : Nat → Nat → Int32} {lv : Nat → Nat → Int64}  {o0 : Option Value} {o1 : Option Value} : xe d xt_43 21 [o0, o1] [] (xs iv av lv) (none, (xs iv av lv)) := xe_ret 1 (fun _ _ => rfl)
/-! 44: TimedCompiler$Code.isTooLong()Z -/
set_option maxRecDepth 20000 in
theorem xb_44_0 {d : Nat} {iv : Nat → Int32} {av : Nat → Nat → Int32} {lv : Nat → Nat → Int64} {x : xi_R} (h1 : 200 < (iv 2) → xe d xt_44 10 [some (.ref 4)] [] (xs iv av lv) x) (h2 : ¬ 200 < (iv 2) → xe d xt_44 14 [some (.ref 4)] [] (xs iv av lv) x) : xe d xt_44 0 [some (.ref 4)] [] (xs iv av lv) x := xe_ite 4 (fun _ _ => rfl) h1 h2
set_option maxRecDepth 20000 in
theorem xb_44_10 {d : Nat} {iv : Nat → Int32} {av : Nat → Nat → Int32} {lv : Nat → Nat → Int64} {x : xi_R} {o0 : Option Value} (h : xe d xt_44 15 [none] [.int 1] (xs iv av lv) x) : xe d xt_44 10 [o0] [] (xs iv av lv) x := xe_seq 2 (fun _ _ => rfl) h
set_option maxRecDepth 20000 in
theorem xb_44_14 {d : Nat} {iv : Nat → Int32} {av : Nat → Nat → Int32} {lv : Nat → Nat → Int64} {x : xi_R} {o0 : Option Value} (h : xe d xt_44 15 [none] [.int 0] (xs iv av lv) x) : xe d xt_44 14 [o0] [] (xs iv av lv) x := xe_seq 1 (fun _ _ => rfl) h
set_option maxRecDepth 20000 in
theorem xb_44_15 {d : Nat} {iv : Nat → Int32} {av : Nat → Nat → Int32} {lv : Nat → Nat → Int64}  {o0 : Option Value} {s0 : Int32} (hc : s0 = 0 ∨ s0 = 1) : xe d xt_44 15 [o0] [.int s0] (xs iv av lv) (some (.int s0), (xs iv av lv)) := xe_rif 1 (fun _ _ => rfl) hc
/-! 45: TimedCompiler$Code.has(I)Z -/
set_option maxRecDepth 20000 in
theorem xb_45p_0 {d : Nat} {iv : Nat → Int32} {av : Nat → Nat → Int32} {lv : Nat → Nat → Int64} {x : xi_R} {a1 : Int32} (hc : 0 ≤ (a1 : Int32).toInt ∧ (a1 : Int32).toInt < ((5 : Nat) : Int)) (h : xe d xt_45 6 [some (.ref 16), some (.int a1)] [.int (av 19 (a1 : Int32).toNatClampNeg)] (xs iv av lv) x) : xe d xt_45 0 [some (.ref 16), some (.int a1)] [] (xs iv av lv) x := xe_if 4 (fun _ _ => rfl) hc h
set_option maxRecDepth 20000 in
theorem xb_45p_6 {d : Nat} {iv : Nat → Int32} {av : Nat → Nat → Int32} {lv : Nat → Nat → Int64} {x : xi_R} {a1 : Int32} {s0 : Int32} (h1 : s0 = (-1) → xe d xt_45 14 [some (.ref 16), some (.int a1)] [] (xs iv av lv) x) (h2 : ¬ s0 = (-1) → xe d xt_45 10 [some (.ref 16), some (.int a1)] [] (xs iv av lv) x) : xe d xt_45 6 [some (.ref 16), some (.int a1)] [.int s0] (xs iv av lv) x := xe_ite 2 (fun _ _ => rfl) h1 h2
set_option maxRecDepth 20000 in
theorem xb_45p_10 {d : Nat} {iv : Nat → Int32} {av : Nat → Nat → Int32} {lv : Nat → Nat → Int64} {x : xi_R} {o0 : Option Value} {o1 : Option Value} (h : xe d xt_45 15 [none, none] [.int 1] (xs iv av lv) x) : xe d xt_45 10 [o0, o1] [] (xs iv av lv) x := xe_seq 2 (fun _ _ => rfl) h
set_option maxRecDepth 20000 in
theorem xb_45p_14 {d : Nat} {iv : Nat → Int32} {av : Nat → Nat → Int32} {lv : Nat → Nat → Int64} {x : xi_R} {o0 : Option Value} {o1 : Option Value} (h : xe d xt_45 15 [none, none] [.int 0] (xs iv av lv) x) : xe d xt_45 14 [o0, o1] [] (xs iv av lv) x := xe_seq 1 (fun _ _ => rfl) h
set_option maxRecDepth 20000 in
theorem xb_45p_15 {d : Nat} {iv : Nat → Int32} {av : Nat → Nat → Int32} {lv : Nat → Nat → Int64}  {o0 : Option Value} {o1 : Option Value} {s0 : Int32} (hc : s0 = 0 ∨ s0 = 1) : xe d xt_45 15 [o0, o1] [.int s0] (xs iv av lv) (some (.int s0), (xs iv av lv)) := xe_rif 1 (fun _ _ => rfl) hc
/-! 45: TimedCompiler$Code.has(I)Z -/
set_option maxRecDepth 20000 in
theorem xb_45_0 {d : Nat} {iv : Nat → Int32} {av : Nat → Nat → Int32} {lv : Nat → Nat → Int64} {x : xi_R} {a1 : Int32} (hc : 0 ≤ (a1 : Int32).toInt ∧ (a1 : Int32).toInt < ((5 : Nat) : Int)) (h : xe d xt_45 6 [some (.ref 4), some (.int a1)] [.int (av 7 (a1 : Int32).toNatClampNeg)] (xs iv av lv) x) : xe d xt_45 0 [some (.ref 4), some (.int a1)] [] (xs iv av lv) x := xe_if 4 (fun _ _ => rfl) hc h
set_option maxRecDepth 20000 in
theorem xb_45_6 {d : Nat} {iv : Nat → Int32} {av : Nat → Nat → Int32} {lv : Nat → Nat → Int64} {x : xi_R} {a1 : Int32} {s0 : Int32} (h1 : s0 = (-1) → xe d xt_45 14 [some (.ref 4), some (.int a1)] [] (xs iv av lv) x) (h2 : ¬ s0 = (-1) → xe d xt_45 10 [some (.ref 4), some (.int a1)] [] (xs iv av lv) x) : xe d xt_45 6 [some (.ref 4), some (.int a1)] [.int s0] (xs iv av lv) x := xe_ite 2 (fun _ _ => rfl) h1 h2
set_option maxRecDepth 20000 in
theorem xb_45_10 {d : Nat} {iv : Nat → Int32} {av : Nat → Nat → Int32} {lv : Nat → Nat → Int64} {x : xi_R} {o0 : Option Value} {o1 : Option Value} (h : xe d xt_45 15 [none, none] [.int 1] (xs iv av lv) x) : xe d xt_45 10 [o0, o1] [] (xs iv av lv) x := xe_seq 2 (fun _ _ => rfl) h
set_option maxRecDepth 20000 in
theorem xb_45_14 {d : Nat} {iv : Nat → Int32} {av : Nat → Nat → Int32} {lv : Nat → Nat → Int64} {x : xi_R} {o0 : Option Value} {o1 : Option Value} (h : xe d xt_45 15 [none, none] [.int 0] (xs iv av lv) x) : xe d xt_45 14 [o0, o1] [] (xs iv av lv) x := xe_seq 1 (fun _ _ => rfl) h
set_option maxRecDepth 20000 in
theorem xb_45_15 {d : Nat} {iv : Nat → Int32} {av : Nat → Nat → Int32} {lv : Nat → Nat → Int64}  {o0 : Option Value} {o1 : Option Value} {s0 : Int32} (hc : s0 = 0 ∨ s0 = 1) : xe d xt_45 15 [o0, o1] [.int s0] (xs iv av lv) (some (.int s0), (xs iv av lv)) := xe_rif 1 (fun _ _ => rfl) hc
/-! 46: TimedCompiler$Code.linkCalls()V -/
set_option maxRecDepth 20000 in
theorem xb_46_0 {d : Nat} {iv : Nat → Int32} {av : Nat → Nat → Int32} {lv : Nat → Nat → Int64} {x : xi_R} (h : xe d xt_46 2 [some (.ref 4), some (.int 0), none] [] (xs iv av lv) x) : xe d xt_46 0 [some (.ref 4), none, none] [] (xs iv av lv) x := xe_seq 2 (fun _ _ => rfl) h
set_option maxRecDepth 20000 in
theorem xb_46_2 {d : Nat} {iv : Nat → Int32} {av : Nat → Nat → Int32} {lv : Nat → Nat → Int64} {x : xi_R} {a1 : Int32} {o2 : Option Value} (h1 : a1 < (iv 2) → xe d xt_46 10 [some (.ref 4), some (.int a1), none] [] (xs iv av lv) x) (h2 : ¬ a1 < (iv 2) → xe d xt_46 62 [some (.ref 4), some (.int a1), none] [] (xs iv av lv) x) : xe d xt_46 2 [some (.ref 4), some (.int a1), o2] [] (xs iv av lv) x := xe_ite 4 (fun _ _ => rfl) h1 h2
set_option maxRecDepth 20000 in
theorem xb_46_10 {d : Nat} {iv : Nat → Int32} {av : Nat → Nat → Int32} {lv : Nat → Nat → Int64} {x : xi_R} {a1 : Int32} {o2 : Option Value} (h1 : a1 < 200 → xe d xt_46 17 [some (.ref 4), some (.int a1), none] [] (xs iv av lv) x) (h2 : ¬ a1 < 200 → xe d xt_46 62 [some (.ref 4), some (.int a1), none] [] (xs iv av lv) x) : xe d xt_46 10 [some (.ref 4), some (.int a1), o2] [] (xs iv av lv) x := xe_ite 3 (fun _ _ => rfl) h1 h2
set_option maxRecDepth 20000 in
theorem xb_46_17 {d : Nat} {iv : Nat → Int32} {av : Nat → Nat → Int32} {lv : Nat → Nat → Int64} {x : xi_R} {a1 : Int32} {o2 : Option Value} (hc : 0 ≤ (a1 : Int32).toInt ∧ (a1 : Int32).toInt < ((200 : Nat) : Int)) (h : xe d xt_46 23 [some (.ref 4), some (.int a1), none] [.int (av 6 (a1 : Int32).toNatClampNeg)] (xs iv av lv) x) : xe d xt_46 17 [some (.ref 4), some (.int a1), o2] [] (xs iv av lv) x := xe_if 4 (fun _ _ => rfl) hc h
set_option maxRecDepth 20000 in
theorem xb_46_23 {d : Nat} {iv : Nat → Int32} {av : Nat → Nat → Int32} {lv : Nat → Nat → Int64} {x : xi_R} {a1 : Int32} {s0 : Int32} (hc : 0 ≤ (a1 : Int32).toInt ∧ (a1 : Int32).toInt < ((200 : Nat) : Int)) (h : xe d xt_46 30 [some (.ref 4), some (.int a1), some (.int s0)] [.int (av 5 (a1 : Int32).toNatClampNeg)] (xs iv av lv) x) : xe d xt_46 23 [some (.ref 4), some (.int a1), none] [.int s0] (xs iv av lv) x := xe_if 5 (fun _ _ => rfl) hc h
set_option maxRecDepth 20000 in
theorem xb_46_30 {d : Nat} {iv : Nat → Int32} {av : Nat → Nat → Int32} {lv : Nat → Nat → Int64} {x : xi_R} {a1 : Int32} {a2 : Int32} {s0 : Int32} (h1 : s0 = 17 → xe d xt_46 35 [some (.ref 4), some (.int a1), some (.int a2)] [] (xs iv av lv) x) (h2 : ¬ s0 = 17 → xe d xt_46 56 [some (.ref 4), some (.int a1), some (.int a2)] [] (xs iv av lv) x) : xe d xt_46 30 [some (.ref 4), some (.int a1), some (.int a2)] [.int s0] (xs iv av lv) x := xe_ite 2 (fun _ _ => rfl) h1 h2
set_option maxRecDepth 20000 in
theorem xb_46_35 {d : Nat} {iv : Nat → Int32} {av : Nat → Nat → Int32} {lv : Nat → Nat → Int64} {x : xi_R} {a1 : Int32} {a2 : Int32} (h1 : a2 < 0 → xe d xt_46 56 [some (.ref 4), some (.int a1), some (.int a2)] [] (xs iv av lv) x) (h2 : ¬ a2 < 0 → xe d xt_46 39 [some (.ref 4), some (.int a1), some (.int a2)] [] (xs iv av lv) x) : xe d xt_46 35 [some (.ref 4), some (.int a1), some (.int a2)] [] (xs iv av lv) x := xe_ite 2 (fun _ _ => rfl) h1 h2
set_option maxRecDepth 20000 in
theorem xb_46_39 {d : Nat} {iv : Nat → Int32} {av : Nat → Nat → Int32} {lv : Nat → Nat → Int64} {x : xi_R} {a1 : Int32} {a2 : Int32} (h1 : a2 < 4 → xe d xt_46 44 [some (.ref 4), some (.int a1), some (.int a2)] [] (xs iv av lv) x) (h2 : ¬ a2 < 4 → xe d xt_46 56 [some (.ref 4), some (.int a1), some (.int a2)] [] (xs iv av lv) x) : xe d xt_46 39 [some (.ref 4), some (.int a1), some (.int a2)] [] (xs iv av lv) x := xe_ite 3 (fun _ _ => rfl) h1 h2
set_option maxRecDepth 20000 in
theorem xb_46_44 {d : Nat} {iv : Nat → Int32} {av : Nat → Nat → Int32} {lv : Nat → Nat → Int64} {x : xi_R} {a1 : Int32} {a2 : Int32} (hc : 0 ≤ (a2 : Int32).toInt ∧ (a2 : Int32).toInt < ((5 : Nat) : Int)) (h : xe d xt_46 55 [some (.ref 4), some (.int a1), some (.int a2)] [.int (av 7 (a2 : Int32).toNatClampNeg), .int a1, .ref 6] (xs iv av lv) x) : xe d xt_46 44 [some (.ref 4), some (.int a1), some (.int a2)] [] (xs iv av lv) x := xe_if 7 (fun _ _ => rfl) hc h
set_option maxRecDepth 20000 in
theorem xb_46_55 {d : Nat} {iv : Nat → Int32} {av : Nat → Nat → Int32} {lv : Nat → Nat → Int64} {x : xi_R} {a1 : Int32} {a2 : Int32} {s0 : Int32} {s1 : Int32} (hc : 0 ≤ (s1 : Int32).toInt ∧ (s1 : Int32).toInt < ((200 : Nat) : Int)) (h : xe d xt_46 56 [some (.ref 4), some (.int a1), some (.int a2)] [] (xs iv (va_up av 6 (upd (av 6) (s1 : Int32).toNatClampNeg s0)) lv) x) : xe d xt_46 55 [some (.ref 4), some (.int a1), some (.int a2)] [.int s0, .int s1, .ref 6] (xs iv av lv) x := xe_if 1 (fun _ _ => rfl) hc h
set_option maxRecDepth 20000 in
theorem xb_46_56 {d : Nat} {iv : Nat → Int32} {av : Nat → Nat → Int32} {lv : Nat → Nat → Int64} {x : xi_R} {a1 : Int32} {o2 : Option Value} (h : xe d xt_46 2 [some (.ref 4), some (.int (a1 + 1)), none] [] (xs iv av lv) x) : xe d xt_46 56 [some (.ref 4), some (.int a1), o2] [] (xs iv av lv) x := xe_seq 2 (fun _ _ => rfl) h
set_option maxRecDepth 20000 in
theorem xb_46_62 {d : Nat} {iv : Nat → Int32} {av : Nat → Nat → Int32} {lv : Nat → Nat → Int64}  {o0 : Option Value} {o1 : Option Value} {o2 : Option Value} : xe d xt_46 62 [o0, o1, o2] [] (xs iv av lv) (none, (xs iv av lv)) := xe_ret 1 (fun _ _ => rfl)
/-! 47: TimedCompiler$Code.procedureAt(I)I -/
set_option maxRecDepth 20000 in
theorem xb_47_0 {d : Nat} {iv : Nat → Int32} {av : Nat → Nat → Int32} {lv : Nat → Nat → Int64} {x : xi_R} {a1 : Int32} (h : xe d xt_47 2 [some (.ref 4), some (.int a1), some (.int 0)] [] (xs iv av lv) x) : xe d xt_47 0 [some (.ref 4), some (.int a1), none] [] (xs iv av lv) x := xe_seq 2 (fun _ _ => rfl) h
set_option maxRecDepth 20000 in
theorem xb_47_2 {d : Nat} {iv : Nat → Int32} {av : Nat → Nat → Int32} {lv : Nat → Nat → Int64} {x : xi_R} {a1 : Int32} {a2 : Int32} (h1 : a2 < 4 → xe d xt_47 7 [some (.ref 4), some (.int a1), some (.int a2)] [] (xs iv av lv) x) (h2 : ¬ a2 < 4 → xe d xt_47 25 [some (.ref 4), some (.int a1), some (.int a2)] [] (xs iv av lv) x) : xe d xt_47 2 [some (.ref 4), some (.int a1), some (.int a2)] [] (xs iv av lv) x := xe_ite 3 (fun _ _ => rfl) h1 h2
set_option maxRecDepth 20000 in
theorem xb_47_7 {d : Nat} {iv : Nat → Int32} {av : Nat → Nat → Int32} {lv : Nat → Nat → Int64} {x : xi_R} {a1 : Int32} {a2 : Int32} (hc : 0 ≤ (a2 : Int32).toInt ∧ (a2 : Int32).toInt < ((5 : Nat) : Int)) (h : xe d xt_47 13 [some (.ref 4), some (.int a1), some (.int a2)] [.int (av 7 (a2 : Int32).toNatClampNeg)] (xs iv av lv) x) : xe d xt_47 7 [some (.ref 4), some (.int a1), some (.int a2)] [] (xs iv av lv) x := xe_if 4 (fun _ _ => rfl) hc h
set_option maxRecDepth 20000 in
theorem xb_47_13 {d : Nat} {iv : Nat → Int32} {av : Nat → Nat → Int32} {lv : Nat → Nat → Int64} {x : xi_R} {a1 : Int32} {a2 : Int32} {s0 : Int32} (h1 : s0 = a1 → xe d xt_47 17 [some (.ref 4), some (.int a1), some (.int a2)] [] (xs iv av lv) x) (h2 : ¬ s0 = a1 → xe d xt_47 19 [some (.ref 4), some (.int a1), some (.int a2)] [] (xs iv av lv) x) : xe d xt_47 13 [some (.ref 4), some (.int a1), some (.int a2)] [.int s0] (xs iv av lv) x := xe_ite 2 (fun _ _ => rfl) h1 h2
set_option maxRecDepth 20000 in
theorem xb_47_17 {d : Nat} {iv : Nat → Int32} {av : Nat → Nat → Int32} {lv : Nat → Nat → Int64}  {o0 : Option Value} {o1 : Option Value} {a2 : Int32} : xe d xt_47 17 [o0, o1, some (.int a2)] [] (xs iv av lv) (some (.int a2), (xs iv av lv)) := xe_ret 2 (fun _ _ => rfl)
set_option maxRecDepth 20000 in
theorem xb_47_19 {d : Nat} {iv : Nat → Int32} {av : Nat → Nat → Int32} {lv : Nat → Nat → Int64} {x : xi_R} {a1 : Int32} {a2 : Int32} (h : xe d xt_47 2 [some (.ref 4), some (.int a1), some (.int (a2 + 1))] [] (xs iv av lv) x) : xe d xt_47 19 [some (.ref 4), some (.int a1), some (.int a2)] [] (xs iv av lv) x := xe_seq 2 (fun _ _ => rfl) h
set_option maxRecDepth 20000 in
theorem xb_47_25 {d : Nat} {iv : Nat → Int32} {av : Nat → Nat → Int32} {lv : Nat → Nat → Int64}  {o0 : Option Value} {o1 : Option Value} {o2 : Option Value} : xe d xt_47 25 [o0, o1, o2] [] (xs iv av lv) (some (.int (-1)), (xs iv av lv)) := xe_ret 2 (fun _ _ => rfl)
