/-! The constructors, one by one. -/
set_option maxRecDepth 100000 in
theorem ct_oi : Cond.instanceMethod Lib.objectInit ∈ xi_wd := xx_wd (by decide +kernel) (by decide +kernel)
theorem ct_oc : Cond.code Lib.objectInit ⟨#[0xb1]⟩ 1 none ∈ xi_wd := xi_gin (h := 81) rfl rfl
def ceText : List ce_ := [(0, 200, .char, 9, 3)]
def fText : List Value := [.null, .int 0, .int 0]
def wText (h : Nat) (u : cS) : va_W := [(h, .inr (2, [.ref (u.1 0), .int 0, .int 0])), (u.1 0, .inl (u.2 0, ct_a .char 200))]
def tText (u : cS) : cTy := [(u.2 0, .char)]
set_option maxRecDepth 100000 in
theorem kText : Cond.code (ct_in "TimedCompiler$Text") prog_6_method_1_code 1 none ∈ xi_wd := xi_gin (h := 92) rfl rfl
set_option maxRecDepth 100000 in
set_option maxHeartbeats 4000000 in
theorem gText : ∀ h, CT ceText fText [] [] (fun fs' arrs' tys' => ∃ u : cS, wText h u = (h, .inr (2, fs')) :: arrs' ∧ tText u = tys') := by
  intro h
  simp only [ceText, CT]
  intro q0 c0
  simp only [fText, List.set_cons_zero, List.set_cons_succ, List.nil_append, List.cons_append]
  exact ⟨(fun i => [q0].getD i 0, fun i => [c0].getD i c0), rfl, rfl⟩
set_option maxRecDepth 100000 in
set_option maxHeartbeats 4000000 in
theorem cText (l : Launch) : ct_Con l "TimedCompiler$Text" prog_6_method_1_code 2 fText (ct_rm 1 1 200 12) 1 200 wText tText := ct_arr (b := true) (pe := 13) (i0 := 3) (es := ceText) (by decide) rfl xn_t2 xn_o2 xn_n2 rfl (xx_wd (by decide +kernel) (by decide +kernel)) ct_oi ct_oc (by decide +kernel) (by decide +kernel) (by decide +kernel) (by decide +kernel) gText
def ceCode : List ce_ := [(0, 200, .int, 9, 3), (1, 200, .int, 15, 3), (3, 5, .int, 18, 1), (4, 5, .int, 21, 1), (5, 5, .int, 24, 1), (6, 5, .int, 27, 1)]
def fCode : List Value := [.null, .null, .int 0, .null, .null, .null, .null]
def wCode (h : Nat) (u : cS) : va_W := [(h, .inr (3, [.ref (u.1 0), .ref (u.1 1), .int 0, .ref (u.1 2), .ref (u.1 3), .ref (u.1 4), .ref (u.1 5)])), (u.1 0, .inl (u.2 0, ct_a .int 200)), (u.1 1, .inl (u.2 1, ct_a .int 200)), (u.1 2, .inl (u.2 2, ct_a .int 5)), (u.1 3, .inl (u.2 3, ct_a .int 5)), (u.1 4, .inl (u.2 4, ct_a .int 5)), (u.1 5, .inl (u.2 5, ct_a .int 5))]
def tCode (u : cS) : cTy := [(u.2 0, .int), (u.2 1, .int), (u.2 2, .int), (u.2 3, .int), (u.2 4, .int), (u.2 5, .int)]
set_option maxRecDepth 100000 in
theorem kCode : Cond.code (ct_in "TimedCompiler$Code") prog_3_method_1_code 1 none ∈ xi_wd := xi_gin (h := 111) rfl rfl
set_option maxRecDepth 100000 in
set_option maxHeartbeats 4000000 in
theorem gCode : ∀ h, CT ceCode fCode [] [] (fun fs' arrs' tys' => ∃ u : cS, wCode h u = (h, .inr (3, fs')) :: arrs' ∧ tCode u = tys') := by
  intro h
  simp only [ceCode, CT]
  intro q0 c0 q1 c1 q2 c2 q3 c3 q4 c4 q5 c5
  simp only [fCode, List.set_cons_zero, List.set_cons_succ, List.nil_append, List.cons_append]
  exact ⟨(fun i => [q0, q1, q2, q3, q4, q5].getD i 0, fun i => [c0, c1, c2, c3, c4, c5].getD i c0), rfl, rfl⟩
set_option maxRecDepth 100000 in
set_option maxHeartbeats 4000000 in
theorem cCode (l : Launch) : ct_Con l "TimedCompiler$Code" prog_3_method_1_code 3 fCode (ct_rm 1 6 420 12) 6 420 wCode tCode := ct_arr (b := true) (pe := 50) (i0 := 3) (es := ceCode) (by decide) rfl xn_t3 xn_o3 xn_n3 rfl (xx_wd (by decide +kernel) (by decide +kernel)) ct_oi ct_oc (by decide +kernel) (by decide +kernel) (by decide +kernel) (by decide +kernel) gCode
def ceBounds : List ce_ := [(0, 201, .long, 9, 3), (1, 201, .int, 15, 3)]
def fBounds : List Value := [.null, .null, .int 0]
def wBounds (h : Nat) (u : cS) : va_W := [(h, .inr (4, [.ref (u.1 0), .ref (u.1 1), .int 0])), (u.1 0, .inl (u.2 0, ct_a .long 201)), (u.1 1, .inl (u.2 1, ct_a .int 201))]
def tBounds (u : cS) : cTy := [(u.2 0, .long), (u.2 1, .int)]
set_option maxRecDepth 100000 in
theorem kBounds : Cond.code (ct_in "TimedCompiler$Bounds") prog_2_method_1_code 1 none ∈ xi_wd := xi_gin (h := 174) rfl rfl
set_option maxRecDepth 100000 in
set_option maxHeartbeats 4000000 in
theorem gBounds : ∀ h, CT ceBounds fBounds [] [] (fun fs' arrs' tys' => ∃ u : cS, wBounds h u = (h, .inr (4, fs')) :: arrs' ∧ tBounds u = tys') := by
  intro h
  simp only [ceBounds, CT]
  intro q0 c0 q1 c1
  simp only [fBounds, List.set_cons_zero, List.set_cons_succ, List.nil_append, List.cons_append]
  exact ⟨(fun i => [q0, q1].getD i 0, fun i => [c0, c1].getD i c0), rfl, rfl⟩
set_option maxRecDepth 100000 in
set_option maxHeartbeats 4000000 in
theorem cBounds (l : Launch) : ct_Con l "TimedCompiler$Bounds" prog_2_method_1_code 4 fBounds (ct_rm 1 2 402 12) 2 402 wBounds tBounds := ct_arr (b := true) (pe := 22) (i0 := 3) (es := ceBounds) (by decide) rfl xn_t4 xn_o4 xn_n4 rfl (xx_wd (by decide +kernel) (by decide +kernel)) ct_oi ct_oc (by decide +kernel) (by decide +kernel) (by decide +kernel) (by decide +kernel) gBounds
def ceMachine : List ce_ := [(0, 14, .int, 9, 2), (1, 32, .int, 15, 2), (2, 200, .int, 18, 3)]
def fMachine : List Value := [.null, .null, .null, .int 0, .int 0, .int 0, .int 0, .int 0, .int 0]
def wMachine (h : Nat) (u : cS) : va_W := [(h, .inr (5, [.ref (u.1 0), .ref (u.1 1), .ref (u.1 2), .int 0, .int 0, .int 0, .int 0, .int 0, .int 0])), (u.1 0, .inl (u.2 0, ct_a .int 14)), (u.1 1, .inl (u.2 1, ct_a .int 32)), (u.1 2, .inl (u.2 2, ct_a .int 200))]
def tMachine (u : cS) : cTy := [(u.2 0, .int), (u.2 1, .int), (u.2 2, .int)]
set_option maxRecDepth 100000 in
theorem kMachine : Cond.code (ct_in "TimedCompiler$Machine") prog_4_method_1_code 1 none ∈ xi_wd := xi_gin (h := 193) rfl rfl
set_option maxRecDepth 100000 in
set_option maxHeartbeats 4000000 in
theorem gMachine : ∀ h, CT ceMachine fMachine [] [] (fun fs' arrs' tys' => ∃ u : cS, wMachine h u = (h, .inr (5, fs')) :: arrs' ∧ tMachine u = tys') := by
  intro h
  simp only [ceMachine, CT]
  intro q0 c0 q1 c1 q2 c2
  simp only [fMachine, List.set_cons_zero, List.set_cons_succ, List.nil_append, List.cons_append]
  exact ⟨(fun i => [q0, q1, q2].getD i 0, fun i => [c0, c1, c2].getD i c0), rfl, rfl⟩
set_option maxRecDepth 100000 in
set_option maxHeartbeats 4000000 in
theorem cMachine (l : Launch) : ct_Con l "TimedCompiler$Machine" prog_4_method_1_code 5 fMachine (ct_rm 1 3 246 12) 3 246 wMachine tMachine := ct_arr (b := true) (pe := 29) (i0 := 3) (es := ceMachine) (by decide) rfl xn_t5 xn_o5 xn_n5 rfl (xx_wd (by decide +kernel) (by decide +kernel)) ct_oi ct_oc (by decide +kernel) (by decide +kernel) (by decide +kernel) (by decide +kernel) gMachine
def ceModel : List ce_ := [(2, 200, .int, 7, 3), (5, 500, .int, 13, 3), (6, 500, .int, 16, 3), (8, 1200, .int, 19, 3), (9, 1200, .int, 22, 3), (10, 5, .int, 25, 1), (11, 5, .int, 28, 1), (12, 5, .int, 31, 1), (13, 5, .int, 34, 1), (14, 5, .boolean, 37, 1), (15, 500, .int, 41, 3), (17, 200, .int, 44, 3), (18, 10, .boolean, 47, 2), (21, 8, .int, 50, 2), (22, 8, .int, 53, 2), (24, 10, .int, 56, 2), (25, 10, .int, 59, 2), (26, 10, .int, 62, 2), (27, 10, .int, 65, 2), (28, 10, .boolean, 68, 2), (29, 10, .int, 71, 2), (30, 5, .int, 74, 1), (31, 5, .int, 77, 1), (34, 200, .int, 80, 3), (35, 200, .int, 83, 3), (36, 5, .boolean, 86, 1), (37, 5, .int, 89, 1), (38, 5, .int, 92, 1), (39, 5, .int, 95, 1), (40, 14, .int, 98, 2), (41, 1200, .int, 101, 3), (47, 32, .int, 104, 2)]
def fModel : List Value := [.int 0, .int 0, .null, .int 0, .int 0, .null, .null, .int 0, .null, .null, .null, .null, .null, .null, .null, .null, .int 0, .null, .null, .int 0, .int 0, .null, .null, .int 0, .null, .null, .null, .null, .null, .null, .null, .null, .int 0, .int 0, .null, .null, .null, .null, .null, .null, .null, .null, .int 0, .int 0, .int 0, .int 0, .int 0, .null]
def wModel (h : Nat) (u : cS) : va_W := [(h, .inr (6, [.int 0, .int 0, .ref (u.1 0), .int 0, .int 0, .ref (u.1 1), .ref (u.1 2), .int 0, .ref (u.1 3), .ref (u.1 4), .ref (u.1 5), .ref (u.1 6), .ref (u.1 7), .ref (u.1 8), .ref (u.1 9), .ref (u.1 10), .int 0, .ref (u.1 11), .ref (u.1 12), .int 0, .int 0, .ref (u.1 13), .ref (u.1 14), .int 0, .ref (u.1 15), .ref (u.1 16), .ref (u.1 17), .ref (u.1 18), .ref (u.1 19), .ref (u.1 20), .ref (u.1 21), .ref (u.1 22), .int 0, .int 0, .ref (u.1 23), .ref (u.1 24), .ref (u.1 25), .ref (u.1 26), .ref (u.1 27), .ref (u.1 28), .ref (u.1 29), .ref (u.1 30), .int 0, .int 0, .int 0, .int 0, .int 0, .ref (u.1 31)])), (u.1 0, .inl (u.2 0, ct_a .int 200)), (u.1 1, .inl (u.2 1, ct_a .int 500)), (u.1 2, .inl (u.2 2, ct_a .int 500)), (u.1 3, .inl (u.2 3, ct_a .int 1200)), (u.1 4, .inl (u.2 4, ct_a .int 1200)), (u.1 5, .inl (u.2 5, ct_a .int 5)), (u.1 6, .inl (u.2 6, ct_a .int 5)), (u.1 7, .inl (u.2 7, ct_a .int 5)), (u.1 8, .inl (u.2 8, ct_a .int 5)), (u.1 9, .inl (u.2 9, ct_a .boolean 5)), (u.1 10, .inl (u.2 10, ct_a .int 500)), (u.1 11, .inl (u.2 11, ct_a .int 200)), (u.1 12, .inl (u.2 12, ct_a .boolean 10)), (u.1 13, .inl (u.2 13, ct_a .int 8)), (u.1 14, .inl (u.2 14, ct_a .int 8)), (u.1 15, .inl (u.2 15, ct_a .int 10)), (u.1 16, .inl (u.2 16, ct_a .int 10)), (u.1 17, .inl (u.2 17, ct_a .int 10)), (u.1 18, .inl (u.2 18, ct_a .int 10)), (u.1 19, .inl (u.2 19, ct_a .boolean 10)), (u.1 20, .inl (u.2 20, ct_a .int 10)), (u.1 21, .inl (u.2 21, ct_a .int 5)), (u.1 22, .inl (u.2 22, ct_a .int 5)), (u.1 23, .inl (u.2 23, ct_a .int 200)), (u.1 24, .inl (u.2 24, ct_a .int 200)), (u.1 25, .inl (u.2 25, ct_a .boolean 5)), (u.1 26, .inl (u.2 26, ct_a .int 5)), (u.1 27, .inl (u.2 27, ct_a .int 5)), (u.1 28, .inl (u.2 28, ct_a .int 5)), (u.1 29, .inl (u.2 29, ct_a .int 14)), (u.1 30, .inl (u.2 30, ct_a .int 1200)), (u.1 31, .inl (u.2 31, ct_a .int 32))]
def tModel (u : cS) : cTy := [(u.2 0, .int), (u.2 1, .int), (u.2 2, .int), (u.2 3, .int), (u.2 4, .int), (u.2 5, .int), (u.2 6, .int), (u.2 7, .int), (u.2 8, .int), (u.2 9, .boolean), (u.2 10, .int), (u.2 11, .int), (u.2 12, .boolean), (u.2 13, .int), (u.2 14, .int), (u.2 15, .int), (u.2 16, .int), (u.2 17, .int), (u.2 18, .int), (u.2 19, .boolean), (u.2 20, .int), (u.2 21, .int), (u.2 22, .int), (u.2 23, .int), (u.2 24, .int), (u.2 25, .boolean), (u.2 26, .int), (u.2 27, .int), (u.2 28, .int), (u.2 29, .int), (u.2 30, .int), (u.2 31, .int)]
set_option maxRecDepth 100000 in
theorem kModel : Cond.code (ct_in "TimedCompilerModel") prog_8_method_1_code 1 none ∈ xi_wd := xi_gin (h := 688) rfl rfl
set_option maxRecDepth 100000 in
set_option maxHeartbeats 4000000 in
theorem gModel : ∀ h, CT ceModel fModel [] [] (fun fs' arrs' tys' => ∃ u : cS, wModel h u = (h, .inr (6, fs')) :: arrs' ∧ tModel u = tys') := by
  intro h
  simp only [ceModel, CT]
  intro q0 c0 q1 c1 q2 c2 q3 c3 q4 c4 q5 c5 q6 c6 q7 c7 q8 c8 q9 c9 q10 c10 q11 c11 q12 c12 q13 c13 q14 c14 q15 c15 q16 c16 q17 c17 q18 c18 q19 c19 q20 c20 q21 c21 q22 c22 q23 c23 q24 c24 q25 c25 q26 c26 q27 c27 q28 c28 q29 c29 q30 c30 q31 c31
  simp only [fModel, List.set_cons_zero, List.set_cons_succ, List.nil_append, List.cons_append]
  exact ⟨(fun i => [q0, q1, q2, q3, q4, q5, q6, q7, q8, q9, q10, q11, q12, q13, q14, q15, q16, q17, q18, q19, q20, q21, q22, q23, q24, q25, q26, q27, q28, q29, q30, q31].getD i 0, fun i => [c0, c1, c2, c3, c4, c5, c6, c7, c8, c9, c10, c11, c12, c13, c14, c15, c16, c17, c18, c19, c20, c21, c22, c23, c24, c25, c26, c27, c28, c29, c30, c31].getD i c0), rfl, rfl⟩
set_option maxRecDepth 100000 in
set_option maxHeartbeats 4000000 in
theorem cModel (l : Launch) : ct_Con l "TimedCompilerModel" prog_8_method_1_code 6 fModel (ct_rm 1 32 6087 12) 32 6087 wModel tModel := ct_arr (b := false) (pe := 259) (i0 := 1) (es := ceModel) (by decide) rfl xn_t6 xn_o6 xn_n6 rfl (xx_wd (by decide +kernel) (by decide +kernel)) ct_oi ct_oc (by decide +kernel) (by decide +kernel) (by decide +kernel) (by decide +kernel) gModel
