section
-- ===== PART A: goes FIRST, ahead of the names: the tables' words, and 'selects' of the private methods out of them =====
/-- a private method of a class that the tables say can be made, by its rows of tables_1 -/
def lw_okq (q : MethodName × Nat) : Prop := (q.1.cls ≠ "java/lang/invoke/MethodHandle" ∧ q.1.cls ≠ "java/lang/invoke/VarHandle") ∧ Cond.instantiable q.1.cls q.2 ∈ tables_1 ∧ Cond.privateMethod q.1 ∈ tables_1 ∧ Cond.instanceMethod q.1 ∈ tables_1
theorem lw_p0 : lw_okq (⟨"TimedCompiler$Parser", "begin", "()V"⟩, 4) := ⟨⟨by decide +kernel, by decide +kernel⟩, List.mem_of_getElem? (i := 26) (by decide +kernel), List.mem_of_getElem? (i := 227) (by decide +kernel), List.mem_of_getElem? (i := 228) (by decide +kernel)⟩
theorem lw_p1 : lw_okq (⟨"TimedCompiler$Text", "letterAt", "(I)C"⟩, 3) := ⟨⟨by decide +kernel, by decide +kernel⟩, List.mem_of_getElem? (i := 32) (by decide +kernel), List.mem_of_getElem? (i := 239) (by decide +kernel), List.mem_of_getElem? (i := 240) (by decide +kernel)⟩
theorem lw_p2 : lw_okq (⟨"TimedCompiler$Parser", "readBlock", "(I)Z"⟩, 4) := ⟨⟨by decide +kernel, by decide +kernel⟩, List.mem_of_getElem? (i := 26) (by decide +kernel), List.mem_of_getElem? (i := 243) (by decide +kernel), List.mem_of_getElem? (i := 244) (by decide +kernel)⟩
theorem lw_p3 : lw_okq (⟨"TimedCompiler$Parser", "readStatement", "(I)Z"⟩, 4) := ⟨⟨by decide +kernel, by decide +kernel⟩, List.mem_of_getElem? (i := 26) (by decide +kernel), List.mem_of_getElem? (i := 256) (by decide +kernel), List.mem_of_getElem? (i := 257) (by decide +kernel)⟩
theorem lw_p4 : lw_okq (⟨"TimedCompiler$Parser", "readValue", "(I)Z"⟩, 4) := ⟨⟨by decide +kernel, by decide +kernel⟩, List.mem_of_getElem? (i := 26) (by decide +kernel), List.mem_of_getElem? (i := 260) (by decide +kernel), List.mem_of_getElem? (i := 261) (by decide +kernel)⟩
theorem lw_p5 : lw_okq (⟨"TimedCompiler$Parser", "readSum", "(I)Z"⟩, 4) := ⟨⟨by decide +kernel, by decide +kernel⟩, List.mem_of_getElem? (i := 26) (by decide +kernel), List.mem_of_getElem? (i := 264) (by decide +kernel), List.mem_of_getElem? (i := 265) (by decide +kernel)⟩
theorem lw_p6 : lw_okq (⟨"TimedCompiler$Parser", "readProduct", "(I)Z"⟩, 4) := ⟨⟨by decide +kernel, by decide +kernel⟩, List.mem_of_getElem? (i := 26) (by decide +kernel), List.mem_of_getElem? (i := 268) (by decide +kernel), List.mem_of_getElem? (i := 269) (by decide +kernel)⟩
theorem lw_p7 : lw_okq (⟨"TimedCompiler$Parser", "readUnit", "(I)Z"⟩, 4) := ⟨⟨by decide +kernel, by decide +kernel⟩, List.mem_of_getElem? (i := 26) (by decide +kernel), List.mem_of_getElem? (i := 272) (by decide +kernel), List.mem_of_getElem? (i := 273) (by decide +kernel)⟩
theorem lw_p8 : lw_okq (⟨"TimedCompiler$Parser", "readInner", "(CI)Z"⟩, 4) := ⟨⟨by decide +kernel, by decide +kernel⟩, List.mem_of_getElem? (i := 26) (by decide +kernel), List.mem_of_getElem? (i := 276) (by decide +kernel), List.mem_of_getElem? (i := 277) (by decide +kernel)⟩
theorem lw_p9 : lw_okq (⟨"TimedCompiler$Parser", "write", "(II)Z"⟩, 4) := ⟨⟨by decide +kernel, by decide +kernel⟩, List.mem_of_getElem? (i := 26) (by decide +kernel), List.mem_of_getElem? (i := 280) (by decide +kernel), List.mem_of_getElem? (i := 281) (by decide +kernel)⟩
theorem lw_p10 : lw_okq (⟨"TimedCompiler$Text", "countDigits", "()I"⟩, 3) := ⟨⟨by decide +kernel, by decide +kernel⟩, List.mem_of_getElem? (i := 32) (by decide +kernel), List.mem_of_getElem? (i := 292) (by decide +kernel), List.mem_of_getElem? (i := 293) (by decide +kernel)⟩
theorem lw_p11 : lw_okq (⟨"TimedCompiler$Parser", "readChoice", "(I)Z"⟩, 4) := ⟨⟨by decide +kernel, by decide +kernel⟩, List.mem_of_getElem? (i := 26) (by decide +kernel), List.mem_of_getElem? (i := 299) (by decide +kernel), List.mem_of_getElem? (i := 300) (by decide +kernel)⟩
theorem lw_p12 : lw_okq (⟨"TimedCompiler$Parser", "readLoop", "(I)Z"⟩, 4) := ⟨⟨by decide +kernel, by decide +kernel⟩, List.mem_of_getElem? (i := 26) (by decide +kernel), List.mem_of_getElem? (i := 307) (by decide +kernel), List.mem_of_getElem? (i := 308) (by decide +kernel)⟩
theorem lw_p13 : lw_okq (⟨"TimedCompiler$Parser", "calledOnesAreThere", "()Z"⟩, 4) := ⟨⟨by decide +kernel, by decide +kernel⟩, List.mem_of_getElem? (i := 26) (by decide +kernel), List.mem_of_getElem? (i := 319) (by decide +kernel), List.mem_of_getElem? (i := 320) (by decide +kernel)⟩
theorem lw_p14 : lw_okq (⟨"java/lang/Throwable", "fillInStackTrace", "(I)Ljava/lang/Throwable;"⟩, 6) := ⟨⟨by decide +kernel, by decide +kernel⟩, List.mem_of_getElem? (i := 362) (by decide +kernel), List.mem_of_getElem? (i := 360) (by decide +kernel), List.mem_of_getElem? (i := 361) (by decide +kernel)⟩
theorem lw_p15 : lw_okq (⟨"TimedCompiler$Parser", "writeUnit", "(II)V"⟩, 4) := ⟨⟨by decide +kernel, by decide +kernel⟩, List.mem_of_getElem? (i := 26) (by decide +kernel), List.mem_of_getElem? (i := 391) (by decide +kernel), List.mem_of_getElem? (i := 392) (by decide +kernel)⟩
def lw_privs_1 : List (MethodName × Nat) := [(⟨"TimedCompiler$Parser", "begin", "()V"⟩, 4), (⟨"TimedCompiler$Text", "letterAt", "(I)C"⟩, 3), (⟨"TimedCompiler$Parser", "readBlock", "(I)Z"⟩, 4), (⟨"TimedCompiler$Parser", "readStatement", "(I)Z"⟩, 4), (⟨"TimedCompiler$Parser", "readValue", "(I)Z"⟩, 4), (⟨"TimedCompiler$Parser", "readSum", "(I)Z"⟩, 4), (⟨"TimedCompiler$Parser", "readProduct", "(I)Z"⟩, 4), (⟨"TimedCompiler$Parser", "readUnit", "(I)Z"⟩, 4), (⟨"TimedCompiler$Parser", "readInner", "(CI)Z"⟩, 4), (⟨"TimedCompiler$Parser", "write", "(II)Z"⟩, 4), (⟨"TimedCompiler$Text", "countDigits", "()I"⟩, 3), (⟨"TimedCompiler$Parser", "readChoice", "(I)Z"⟩, 4), (⟨"TimedCompiler$Parser", "readLoop", "(I)Z"⟩, 4), (⟨"TimedCompiler$Parser", "calledOnesAreThere", "()Z"⟩, 4), (⟨"java/lang/Throwable", "fillInStackTrace", "(I)Ljava/lang/Throwable;"⟩, 6), (⟨"TimedCompiler$Parser", "writeUnit", "(II)V"⟩, 4)]
theorem lw_r1 : ∀ q ∈ lw_privs_1, lw_okq q := List.forall_mem_cons.mpr ⟨lw_p0, List.forall_mem_cons.mpr ⟨lw_p1, List.forall_mem_cons.mpr ⟨lw_p2, List.forall_mem_cons.mpr ⟨lw_p3, List.forall_mem_cons.mpr ⟨lw_p4, List.forall_mem_cons.mpr ⟨lw_p5, List.forall_mem_cons.mpr ⟨lw_p6, List.forall_mem_cons.mpr ⟨lw_p7, List.forall_mem_cons.mpr ⟨lw_p8, List.forall_mem_cons.mpr ⟨lw_p9, List.forall_mem_cons.mpr ⟨lw_p10, List.forall_mem_cons.mpr ⟨lw_p11, List.forall_mem_cons.mpr ⟨lw_p12, List.forall_mem_cons.mpr ⟨lw_p13, List.forall_mem_cons.mpr ⟨lw_p14, List.forall_mem_cons.mpr ⟨lw_p15, fun _ h => absurd h List.not_mem_nil⟩⟩⟩⟩⟩⟩⟩⟩⟩⟩⟩⟩⟩⟩⟩⟩
theorem lw_p16 : lw_okq (⟨"TimedCompiler$Bounds", "settleProcedures", "(LTimedCompiler$Code;)Z"⟩, 3) := ⟨⟨by decide +kernel, by decide +kernel⟩, List.mem_of_getElem? (i := 114) (by decide +kernel), List.mem_of_getElem? (i := 407) (by decide +kernel), List.mem_of_getElem? (i := 408) (by decide +kernel)⟩
theorem lw_p17 : lw_okq (⟨"TimedCompiler$Bounds", "measure", "(LTimedCompiler$Code;I)V"⟩, 3) := ⟨⟨by decide +kernel, by decide +kernel⟩, List.mem_of_getElem? (i := 114) (by decide +kernel), List.mem_of_getElem? (i := 422) (by decide +kernel), List.mem_of_getElem? (i := 423) (by decide +kernel)⟩
theorem lw_p18 : lw_okq (⟨"TimedCompiler$Bounds", "pass", "(LTimedCompiler$Code;I)I"⟩, 3) := ⟨⟨by decide +kernel, by decide +kernel⟩, List.mem_of_getElem? (i := 114) (by decide +kernel), List.mem_of_getElem? (i := 426) (by decide +kernel), List.mem_of_getElem? (i := 427) (by decide +kernel)⟩
theorem lw_p19 : lw_okq (⟨"TimedCompiler$Bounds", "reach", "(IJI)V"⟩, 3) := ⟨⟨by decide +kernel, by decide +kernel⟩, List.mem_of_getElem? (i := 114) (by decide +kernel), List.mem_of_getElem? (i := 435) (by decide +kernel), List.mem_of_getElem? (i := 436) (by decide +kernel)⟩
theorem lw_p20 : lw_okq (⟨"TimedCompiler$Bounds", "leaveLoop", "(LTimedCompiler$Code;IJ)V"⟩, 3) := ⟨⟨by decide +kernel, by decide +kernel⟩, List.mem_of_getElem? (i := 114) (by decide +kernel), List.mem_of_getElem? (i := 445) (by decide +kernel), List.mem_of_getElem? (i := 446) (by decide +kernel)⟩
theorem lw_p21 : lw_okq (⟨"TimedCompiler$Bounds", "passCall", "(LTimedCompiler$Code;I)V"⟩, 3) := ⟨⟨by decide +kernel, by decide +kernel⟩, List.mem_of_getElem? (i := 114) (by decide +kernel), List.mem_of_getElem? (i := 452) (by decide +kernel), List.mem_of_getElem? (i := 453) (by decide +kernel)⟩
theorem lw_p22 : lw_okq (⟨"TimedCompiler", "needProgram", "()V"⟩, 4) := ⟨⟨by decide +kernel, by decide +kernel⟩, List.mem_of_getElem? (i := 18) (by decide +kernel), List.mem_of_getElem? (i := 494) (by decide +kernel), List.mem_of_getElem? (i := 495) (by decide +kernel)⟩
theorem lw_p23 : lw_okq (⟨"TimedCompiler$Machine", "step", "(LTimedCompiler$Code;)I"⟩, 9) := ⟨⟨by decide +kernel, by decide +kernel⟩, List.mem_of_getElem? (i := 133) (by decide +kernel), List.mem_of_getElem? (i := 569) (by decide +kernel), List.mem_of_getElem? (i := 570) (by decide +kernel)⟩
theorem lw_p24 : lw_okq (⟨"TimedCompiler$Machine", "trapOf", "(II)I"⟩, 9) := ⟨⟨by decide +kernel, by decide +kernel⟩, List.mem_of_getElem? (i := 133) (by decide +kernel), List.mem_of_getElem? (i := 574) (by decide +kernel), List.mem_of_getElem? (i := 575) (by decide +kernel)⟩
theorem lw_p25 : lw_okq (⟨"TimedCompiler$Machine", "below", "(I)I"⟩, 9) := ⟨⟨by decide +kernel, by decide +kernel⟩, List.mem_of_getElem? (i := 133) (by decide +kernel), List.mem_of_getElem? (i := 578) (by decide +kernel), List.mem_of_getElem? (i := 579) (by decide +kernel)⟩
theorem lw_p26 : lw_okq (⟨"TimedCompiler$Machine", "compute", "(II)V"⟩, 9) := ⟨⟨by decide +kernel, by decide +kernel⟩, List.mem_of_getElem? (i := 133) (by decide +kernel), List.mem_of_getElem? (i := 585) (by decide +kernel), List.mem_of_getElem? (i := 586) (by decide +kernel)⟩
theorem lw_p27 : lw_okq (⟨"TimedCompiler$Machine", "push", "(I)V"⟩, 9) := ⟨⟨by decide +kernel, by decide +kernel⟩, List.mem_of_getElem? (i := 133) (by decide +kernel), List.mem_of_getElem? (i := 589) (by decide +kernel), List.mem_of_getElem? (i := 590) (by decide +kernel)⟩
theorem lw_p28 : lw_okq (⟨"TimedCompiler$Machine", "placeAt", "(I)I"⟩, 9) := ⟨⟨by decide +kernel, by decide +kernel⟩, List.mem_of_getElem? (i := 133) (by decide +kernel), List.mem_of_getElem? (i := 594) (by decide +kernel), List.mem_of_getElem? (i := 595) (by decide +kernel)⟩
theorem lw_p29 : lw_okq (⟨"TimedCompiler$Machine", "pop", "()I"⟩, 9) := ⟨⟨by decide +kernel, by decide +kernel⟩, List.mem_of_getElem? (i := 133) (by decide +kernel), List.mem_of_getElem? (i := 598) (by decide +kernel), List.mem_of_getElem? (i := 599) (by decide +kernel)⟩
theorem lw_p30 : lw_okq (⟨"TimedCompiler$Machine", "store", "(II)V"⟩, 9) := ⟨⟨by decide +kernel, by decide +kernel⟩, List.mem_of_getElem? (i := 133) (by decide +kernel), List.mem_of_getElem? (i := 602) (by decide +kernel), List.mem_of_getElem? (i := 603) (by decide +kernel)⟩
theorem lw_p31 : lw_okq (⟨"TimedCompiler$Machine", "steer", "(II)V"⟩, 9) := ⟨⟨by decide +kernel, by decide +kernel⟩, List.mem_of_getElem? (i := 133) (by decide +kernel), List.mem_of_getElem? (i := 609) (by decide +kernel), List.mem_of_getElem? (i := 610) (by decide +kernel)⟩
def lw_privs_2 : List (MethodName × Nat) := [(⟨"TimedCompiler$Bounds", "settleProcedures", "(LTimedCompiler$Code;)Z"⟩, 3), (⟨"TimedCompiler$Bounds", "measure", "(LTimedCompiler$Code;I)V"⟩, 3), (⟨"TimedCompiler$Bounds", "pass", "(LTimedCompiler$Code;I)I"⟩, 3), (⟨"TimedCompiler$Bounds", "reach", "(IJI)V"⟩, 3), (⟨"TimedCompiler$Bounds", "leaveLoop", "(LTimedCompiler$Code;IJ)V"⟩, 3), (⟨"TimedCompiler$Bounds", "passCall", "(LTimedCompiler$Code;I)V"⟩, 3), (⟨"TimedCompiler", "needProgram", "()V"⟩, 4), (⟨"TimedCompiler$Machine", "step", "(LTimedCompiler$Code;)I"⟩, 9), (⟨"TimedCompiler$Machine", "trapOf", "(II)I"⟩, 9), (⟨"TimedCompiler$Machine", "below", "(I)I"⟩, 9), (⟨"TimedCompiler$Machine", "compute", "(II)V"⟩, 9), (⟨"TimedCompiler$Machine", "push", "(I)V"⟩, 9), (⟨"TimedCompiler$Machine", "placeAt", "(I)I"⟩, 9), (⟨"TimedCompiler$Machine", "pop", "()I"⟩, 9), (⟨"TimedCompiler$Machine", "store", "(II)V"⟩, 9), (⟨"TimedCompiler$Machine", "steer", "(II)V"⟩, 9)]
theorem lw_r2 : ∀ q ∈ lw_privs_2, lw_okq q := List.forall_mem_cons.mpr ⟨lw_p16, List.forall_mem_cons.mpr ⟨lw_p17, List.forall_mem_cons.mpr ⟨lw_p18, List.forall_mem_cons.mpr ⟨lw_p19, List.forall_mem_cons.mpr ⟨lw_p20, List.forall_mem_cons.mpr ⟨lw_p21, List.forall_mem_cons.mpr ⟨lw_p22, List.forall_mem_cons.mpr ⟨lw_p23, List.forall_mem_cons.mpr ⟨lw_p24, List.forall_mem_cons.mpr ⟨lw_p25, List.forall_mem_cons.mpr ⟨lw_p26, List.forall_mem_cons.mpr ⟨lw_p27, List.forall_mem_cons.mpr ⟨lw_p28, List.forall_mem_cons.mpr ⟨lw_p29, List.forall_mem_cons.mpr ⟨lw_p30, List.forall_mem_cons.mpr ⟨lw_p31, fun _ h => absurd h List.not_mem_nil⟩⟩⟩⟩⟩⟩⟩⟩⟩⟩⟩⟩⟩⟩⟩⟩
theorem lw_p32 : lw_okq (⟨"TimedCompiler$Machine", "putOut", "(I)V"⟩, 9) := ⟨⟨by decide +kernel, by decide +kernel⟩, List.mem_of_getElem? (i := 133) (by decide +kernel), List.mem_of_getElem? (i := 613) (by decide +kernel), List.mem_of_getElem? (i := 614) (by decide +kernel)⟩
theorem lw_p33 : lw_okq (⟨"TimedCompiler$Machine", "goThere", "(I)V"⟩, 9) := ⟨⟨by decide +kernel, by decide +kernel⟩, List.mem_of_getElem? (i := 133) (by decide +kernel), List.mem_of_getElem? (i := 617) (by decide +kernel), List.mem_of_getElem? (i := 618) (by decide +kernel)⟩
theorem lw_p34 : lw_okq (⟨"TimedCompilerModel", "reads", "()Z"⟩, 48) := ⟨⟨by decide +kernel, by decide +kernel⟩, List.mem_of_getElem? (i := 628) (by decide +kernel), List.mem_of_getElem? (i := 799) (by decide +kernel), List.mem_of_getElem? (i := 800) (by decide +kernel)⟩
theorem lw_p35 : lw_okq (⟨"TimedCompilerModel", "begin", "()Z"⟩, 48) := ⟨⟨by decide +kernel, by decide +kernel⟩, List.mem_of_getElem? (i := 628) (by decide +kernel), List.mem_of_getElem? (i := 803) (by decide +kernel), List.mem_of_getElem? (i := 804) (by decide +kernel)⟩
theorem lw_p36 : lw_okq (⟨"TimedCompilerModel", "look", "()I"⟩, 48) := ⟨⟨by decide +kernel, by decide +kernel⟩, List.mem_of_getElem? (i := 628) (by decide +kernel), List.mem_of_getElem? (i := 807) (by decide +kernel), List.mem_of_getElem? (i := 808) (by decide +kernel)⟩
theorem lw_p37 : lw_okq (⟨"TimedCompilerModel", "open", "(II)Z"⟩, 48) := ⟨⟨by decide +kernel, by decide +kernel⟩, List.mem_of_getElem? (i := 628) (by decide +kernel), List.mem_of_getElem? (i := 811) (by decide +kernel), List.mem_of_getElem? (i := 812) (by decide +kernel)⟩
theorem lw_p38 : lw_okq (⟨"TimedCompilerModel", "eat", "(I)Z"⟩, 48) := ⟨⟨by decide +kernel, by decide +kernel⟩, List.mem_of_getElem? (i := 628) (by decide +kernel), List.mem_of_getElem? (i := 815) (by decide +kernel), List.mem_of_getElem? (i := 816) (by decide +kernel)⟩
theorem lw_p39 : lw_okq (⟨"TimedCompilerModel", "close", "()Z"⟩, 48) := ⟨⟨by decide +kernel, by decide +kernel⟩, List.mem_of_getElem? (i := 628) (by decide +kernel), List.mem_of_getElem? (i := 819) (by decide +kernel), List.mem_of_getElem? (i := 820) (by decide +kernel)⟩
theorem lw_p40 : lw_okq (⟨"TimedCompilerModel", "emit", "(II)V"⟩, 48) := ⟨⟨by decide +kernel, by decide +kernel⟩, List.mem_of_getElem? (i := 628) (by decide +kernel), List.mem_of_getElem? (i := 823) (by decide +kernel), List.mem_of_getElem? (i := 824) (by decide +kernel)⟩
theorem lw_p41 : lw_okq (⟨"TimedCompilerModel", "note", "(II)V"⟩, 48) := ⟨⟨by decide +kernel, by decide +kernel⟩, List.mem_of_getElem? (i := 628) (by decide +kernel), List.mem_of_getElem? (i := 827) (by decide +kernel), List.mem_of_getElem? (i := 828) (by decide +kernel)⟩
theorem lw_p42 : lw_okq (⟨"TimedCompilerModel", "statement", "()Z"⟩, 48) := ⟨⟨by decide +kernel, by decide +kernel⟩, List.mem_of_getElem? (i := 628) (by decide +kernel), List.mem_of_getElem? (i := 831) (by decide +kernel), List.mem_of_getElem? (i := 832) (by decide +kernel)⟩
theorem lw_p43 : lw_okq (⟨"TimedCompilerModel", "value", "(IZ)Z"⟩, 48) := ⟨⟨by decide +kernel, by decide +kernel⟩, List.mem_of_getElem? (i := 628) (by decide +kernel), List.mem_of_getElem? (i := 835) (by decide +kernel), List.mem_of_getElem? (i := 836) (by decide +kernel)⟩
theorem lw_p44 : lw_okq (⟨"TimedCompilerModel", "unit", "(I)I"⟩, 48) := ⟨⟨by decide +kernel, by decide +kernel⟩, List.mem_of_getElem? (i := 628) (by decide +kernel), List.mem_of_getElem? (i := 839) (by decide +kernel), List.mem_of_getElem? (i := 840) (by decide +kernel)⟩
theorem lw_p45 : lw_okq (⟨"TimedCompilerModel", "deep", "()I"⟩, 48) := ⟨⟨by decide +kernel, by decide +kernel⟩, List.mem_of_getElem? (i := 628) (by decide +kernel), List.mem_of_getElem? (i := 843) (by decide +kernel), List.mem_of_getElem? (i := 844) (by decide +kernel)⟩
theorem lw_p46 : lw_okq (⟨"TimedCompilerModel", "reduce", "(I)V"⟩, 48) := ⟨⟨by decide +kernel, by decide +kernel⟩, List.mem_of_getElem? (i := 628) (by decide +kernel), List.mem_of_getElem? (i := 853) (by decide +kernel), List.mem_of_getElem? (i := 854) (by decide +kernel)⟩
theorem lw_p47 : lw_okq (⟨"TimedCompilerModel", "complete", "()V"⟩, 48) := ⟨⟨by decide +kernel, by decide +kernel⟩, List.mem_of_getElem? (i := 628) (by decide +kernel), List.mem_of_getElem? (i := 860) (by decide +kernel), List.mem_of_getElem? (i := 861) (by decide +kernel)⟩
def lw_privs_3 : List (MethodName × Nat) := [(⟨"TimedCompiler$Machine", "putOut", "(I)V"⟩, 9), (⟨"TimedCompiler$Machine", "goThere", "(I)V"⟩, 9), (⟨"TimedCompilerModel", "reads", "()Z"⟩, 48), (⟨"TimedCompilerModel", "begin", "()Z"⟩, 48), (⟨"TimedCompilerModel", "look", "()I"⟩, 48), (⟨"TimedCompilerModel", "open", "(II)Z"⟩, 48), (⟨"TimedCompilerModel", "eat", "(I)Z"⟩, 48), (⟨"TimedCompilerModel", "close", "()Z"⟩, 48), (⟨"TimedCompilerModel", "emit", "(II)V"⟩, 48), (⟨"TimedCompilerModel", "note", "(II)V"⟩, 48), (⟨"TimedCompilerModel", "statement", "()Z"⟩, 48), (⟨"TimedCompilerModel", "value", "(IZ)Z"⟩, 48), (⟨"TimedCompilerModel", "unit", "(I)I"⟩, 48), (⟨"TimedCompilerModel", "deep", "()I"⟩, 48), (⟨"TimedCompilerModel", "reduce", "(I)V"⟩, 48), (⟨"TimedCompilerModel", "complete", "()V"⟩, 48)]
theorem lw_r3 : ∀ q ∈ lw_privs_3, lw_okq q := List.forall_mem_cons.mpr ⟨lw_p32, List.forall_mem_cons.mpr ⟨lw_p33, List.forall_mem_cons.mpr ⟨lw_p34, List.forall_mem_cons.mpr ⟨lw_p35, List.forall_mem_cons.mpr ⟨lw_p36, List.forall_mem_cons.mpr ⟨lw_p37, List.forall_mem_cons.mpr ⟨lw_p38, List.forall_mem_cons.mpr ⟨lw_p39, List.forall_mem_cons.mpr ⟨lw_p40, List.forall_mem_cons.mpr ⟨lw_p41, List.forall_mem_cons.mpr ⟨lw_p42, List.forall_mem_cons.mpr ⟨lw_p43, List.forall_mem_cons.mpr ⟨lw_p44, List.forall_mem_cons.mpr ⟨lw_p45, List.forall_mem_cons.mpr ⟨lw_p46, List.forall_mem_cons.mpr ⟨lw_p47, fun _ h => absurd h List.not_mem_nil⟩⟩⟩⟩⟩⟩⟩⟩⟩⟩⟩⟩⟩⟩⟩⟩
theorem lw_p48 : lw_okq (⟨"TimedCompilerModel", "loop", "()Z"⟩, 48) := ⟨⟨by decide +kernel, by decide +kernel⟩, List.mem_of_getElem? (i := 628) (by decide +kernel), List.mem_of_getElem? (i := 864) (by decide +kernel), List.mem_of_getElem? (i := 865) (by decide +kernel)⟩
theorem lw_p49 : lw_okq (⟨"TimedCompilerModel", "digits", "()I"⟩, 48) := ⟨⟨by decide +kernel, by decide +kernel⟩, List.mem_of_getElem? (i := 628) (by decide +kernel), List.mem_of_getElem? (i := 868) (by decide +kernel), List.mem_of_getElem? (i := 869) (by decide +kernel)⟩
theorem lw_p50 : lw_okq (⟨"TimedCompilerModel", "reckonAll", "()Z"⟩, 48) := ⟨⟨by decide +kernel, by decide +kernel⟩, List.mem_of_getElem? (i := 628) (by decide +kernel), List.mem_of_getElem? (i := 872) (by decide +kernel), List.mem_of_getElem? (i := 873) (by decide +kernel)⟩
theorem lw_p51 : lw_okq (⟨"TimedCompilerModel", "reckon", "(I)V"⟩, 48) := ⟨⟨by decide +kernel, by decide +kernel⟩, List.mem_of_getElem? (i := 628) (by decide +kernel), List.mem_of_getElem? (i := 876) (by decide +kernel), List.mem_of_getElem? (i := 877) (by decide +kernel)⟩
theorem lw_p52 : lw_okq (⟨"TimedCompilerModel", "shut", "(II)V"⟩, 48) := ⟨⟨by decide +kernel, by decide +kernel⟩, List.mem_of_getElem? (i := 628) (by decide +kernel), List.mem_of_getElem? (i := 893) (by decide +kernel), List.mem_of_getElem? (i := 894) (by decide +kernel)⟩
theorem lw_p53 : lw_okq (⟨"TimedCompilerModel", "isShort", "()Z"⟩, 48) := ⟨⟨by decide +kernel, by decide +kernel⟩, List.mem_of_getElem? (i := 628) (by decide +kernel), List.mem_of_getElem? (i := 897) (by decide +kernel), List.mem_of_getElem? (i := 898) (by decide +kernel)⟩
theorem lw_p54 : lw_okq (⟨"TimedCompilerModel", "arrange", "()V"⟩, 48) := ⟨⟨by decide +kernel, by decide +kernel⟩, List.mem_of_getElem? (i := 628) (by decide +kernel), List.mem_of_getElem? (i := 901) (by decide +kernel), List.mem_of_getElem? (i := 902) (by decide +kernel)⟩
theorem lw_p55 : lw_okq (⟨"TimedCompilerModel", "trap", "(II)I"⟩, 48) := ⟨⟨by decide +kernel, by decide +kernel⟩, List.mem_of_getElem? (i := 628) (by decide +kernel), List.mem_of_getElem? (i := 933) (by decide +kernel), List.mem_of_getElem? (i := 934) (by decide +kernel)⟩
theorem lw_p56 : lw_okq (⟨"TimedCompilerModel", "does", "(II)I"⟩, 48) := ⟨⟨by decide +kernel, by decide +kernel⟩, List.mem_of_getElem? (i := 628) (by decide +kernel), List.mem_of_getElem? (i := 937) (by decide +kernel), List.mem_of_getElem? (i := 938) (by decide +kernel)⟩
def lw_privs_4 : List (MethodName × Nat) := [(⟨"TimedCompilerModel", "loop", "()Z"⟩, 48), (⟨"TimedCompilerModel", "digits", "()I"⟩, 48), (⟨"TimedCompilerModel", "reckonAll", "()Z"⟩, 48), (⟨"TimedCompilerModel", "reckon", "(I)V"⟩, 48), (⟨"TimedCompilerModel", "shut", "(II)V"⟩, 48), (⟨"TimedCompilerModel", "isShort", "()Z"⟩, 48), (⟨"TimedCompilerModel", "arrange", "()V"⟩, 48), (⟨"TimedCompilerModel", "trap", "(II)I"⟩, 48), (⟨"TimedCompilerModel", "does", "(II)I"⟩, 48)]
theorem lw_r4 : ∀ q ∈ lw_privs_4, lw_okq q := List.forall_mem_cons.mpr ⟨lw_p48, List.forall_mem_cons.mpr ⟨lw_p49, List.forall_mem_cons.mpr ⟨lw_p50, List.forall_mem_cons.mpr ⟨lw_p51, List.forall_mem_cons.mpr ⟨lw_p52, List.forall_mem_cons.mpr ⟨lw_p53, List.forall_mem_cons.mpr ⟨lw_p54, List.forall_mem_cons.mpr ⟨lw_p55, List.forall_mem_cons.mpr ⟨lw_p56, fun _ h => absurd h List.not_mem_nil⟩⟩⟩⟩⟩⟩⟩⟩⟩
def lw_privs : List (MethodName × Nat) := lw_privs_1 ++ (lw_privs_2 ++ (lw_privs_3 ++ (lw_privs_4)))
def lw_tbl : List Cond := k2_sels lw_privs ++ tables_1
theorem lw_privs_ok : ∀ q ∈ lw_privs, lw_okq q := by
  show ∀ q ∈ lw_privs_1 ++ (lw_privs_2 ++ (lw_privs_3 ++ (lw_privs_4))), lw_okq q
  exact List.forall_mem_append.mpr ⟨lw_r1, List.forall_mem_append.mpr ⟨lw_r2, List.forall_mem_append.mpr ⟨lw_r3, lw_r4⟩⟩⟩
end
section
/-! The methods, the classes, the world; by program out of javap's listing and the words of tables_1 -/
def mZ : List (MethodName × ByteArray × Nat × Option FieldType × Nat × Bool) := [(⟨"TimedCompiler", "type", "(J)Z"⟩, prog_1_method_2_code, 3, some .boolean, 1, false),
  (⟨"TimedCompiler", "wipe", "()V"⟩, prog_1_method_3_code, 1, none, 0, false),
  (⟨"TimedCompiler", "length", "()I"⟩, prog_1_method_4_code, 1, some .int, 0, false),
  (⟨"TimedCompiler", "compile", "()I"⟩, prog_1_method_5_code, 1, some .int, 0, false),
  (⟨"TimedCompiler", "code", "(II)I"⟩, prog_1_method_6_code, 3, some .int, 2, false),
  (⟨"TimedCompiler", "time", "()I"⟩, prog_1_method_7_code, 1, some .int, 0, false),
  (⟨"TimedCompiler", "depth", "()I"⟩, prog_1_method_8_code, 1, some .int, 0, false),
  (⟨"TimedCompiler", "procedure", "(II)I"⟩, prog_1_method_9_code, 3, some .int, 2, false),
  (⟨"TimedCompiler", "set", "(II)Z"⟩, prog_1_method_10_code, 3, some .boolean, 2, false),
  (⟨"TimedCompiler", "get", "(I)I"⟩, prog_1_method_11_code, 2, some .int, 1, false),
  (⟨"TimedCompiler", "run", "()I"⟩, prog_1_method_12_code, 1, some .int, 0, false),
  (⟨"TimedCompiler", "latest", "(I)I"⟩, prog_1_method_13_code, 2, some .int, 1, false),
  (⟨"TimedCompiler", "output", "(I)I"⟩, prog_1_method_14_code, 2, some .int, 1, false),
  (⟨"TimedCompiler", "needProgram", "()V"⟩, prog_1_method_15_code, 1, none, 0, false),
  (⟨"TimedCompiler$Parser", "begin", "()V"⟩, prog_5_method_2_code, 2, none, 0, false),
  (⟨"TimedCompiler$Parser", "readProgram", "()Z"⟩, prog_5_method_3_code, 3, some .boolean, 0, false),
  (⟨"TimedCompiler$Parser", "calledOnesAreThere", "()Z"⟩, prog_5_method_4_code, 2, some .boolean, 0, false),
  (⟨"TimedCompiler$Parser", "writeProgram", "()V"⟩, prog_5_method_5_code, 2, none, 0, false),
  (⟨"TimedCompiler$Parser", "writeUnit", "(II)V"⟩, prog_5_method_6_code, 3, none, 2, false),
  (⟨"TimedCompiler$Parser", "write", "(II)Z"⟩, prog_5_method_7_code, 3, some .boolean, 2, false),
  (⟨"TimedCompiler$Parser", "readBlock", "(I)Z"⟩, prog_5_method_8_code, 3, some .boolean, 1, false),
  (⟨"TimedCompiler$Parser", "readStatement", "(I)Z"⟩, prog_5_method_9_code, 4, some .boolean, 1, false),
  (⟨"TimedCompiler$Parser", "readChoice", "(I)Z"⟩, prog_5_method_10_code, 4, some .boolean, 1, false),
  (⟨"TimedCompiler$Parser", "readLoop", "(I)Z"⟩, prog_5_method_11_code, 5, some .boolean, 1, false),
  (⟨"TimedCompiler$Parser", "readValue", "(I)Z"⟩, prog_5_method_12_code, 2, some .boolean, 1, false),
  (⟨"TimedCompiler$Parser", "readSum", "(I)Z"⟩, prog_5_method_13_code, 4, some .boolean, 1, false),
  (⟨"TimedCompiler$Parser", "readProduct", "(I)Z"⟩, prog_5_method_14_code, 4, some .boolean, 1, false),
  (⟨"TimedCompiler$Parser", "readUnit", "(I)Z"⟩, prog_5_method_15_code, 4, some .boolean, 1, false),
  (⟨"TimedCompiler$Parser", "readInner", "(CI)Z"⟩, prog_5_method_16_code, 3, some .boolean, 2, false),
  (⟨"TimedCompiler$Text", "append", "(J)Z"⟩, prog_6_method_2_code, 6, some .boolean, 1, false),
  (⟨"TimedCompiler$Text", "countLetters", "(J)I"⟩, prog_6_method_3_code, 5, some .int, 1, true),
  (⟨"TimedCompiler$Text", "letterAt", "(I)C"⟩, prog_6_method_4_code, 2, some .char, 1, false),
  (⟨"TimedCompiler$Text", "isDigit", "(C)Z"⟩, prog_6_method_5_code, 1, some .boolean, 1, true),
  (⟨"TimedCompiler$Text", "atEnd", "()Z"⟩, prog_6_method_6_code, 1, some .boolean, 0, false),
  (⟨"TimedCompiler$Text", "sees", "(C)Z"⟩, prog_6_method_7_code, 2, some .boolean, 1, false),
  (⟨"TimedCompiler$Text", "takes", "(C)Z"⟩, prog_6_method_8_code, 2, some .boolean, 1, false),
  (⟨"TimedCompiler$Text", "takeOneOf", "(CI)I"⟩, prog_6_method_9_code, 4, some .int, 2, false),
  (⟨"TimedCompiler$Text", "countDigits", "()I"⟩, prog_6_method_10_code, 2, some .int, 0, false),
  (⟨"TimedCompiler$Text", "seesNumberAndBlock", "()Z"⟩, prog_6_method_11_code, 2, some .boolean, 0, false),
  (⟨"TimedCompiler$Text", "takeNumber", "()I"⟩, prog_6_method_12_code, 4, some .int, 0, false),
  (⟨"TimedCompiler$Code", "clear", "()V"⟩, prog_3_method_2_code, 2, none, 0, false),
  (⟨"TimedCompiler$Code", "copy", "(LTimedCompiler$Code;)V"⟩, prog_3_method_3_code, 2, none, 1, false),
  (⟨"TimedCompiler$Code", "add", "(II)I"⟩, prog_3_method_4_code, 4, some .int, 2, false),
  (⟨"TimedCompiler$Code", "aim", "(I)V"⟩, prog_3_method_5_code, 2, none, 1, false),
  (⟨"TimedCompiler$Code", "isTooLong", "()Z"⟩, prog_3_method_6_code, 1, some .boolean, 0, false),
  (⟨"TimedCompiler$Code", "has", "(I)Z"⟩, prog_3_method_7_code, 2, some .boolean, 1, false),
  (⟨"TimedCompiler$Code", "linkCalls", "()V"⟩, prog_3_method_8_code, 3, none, 0, false),
  (⟨"TimedCompiler$Code", "procedureAt", "(I)I"⟩, prog_3_method_9_code, 3, some .int, 1, false),
  (⟨"TimedCompiler$Bounds", "settle", "(LTimedCompiler$Code;)Z"⟩, prog_2_method_2_code, 3, some .boolean, 1, false),
  (⟨"TimedCompiler$Bounds", "settleProcedures", "(LTimedCompiler$Code;)Z"⟩, prog_2_method_3_code, 5, some .boolean, 1, false),
  (⟨"TimedCompiler$Bounds", "calledBy", "(LTimedCompiler$Code;I)I"⟩, prog_2_method_4_code, 5, some .int, 2, true),
  (⟨"TimedCompiler$Bounds", "measure", "(LTimedCompiler$Code;I)V"⟩, prog_2_method_5_code, 7, none, 2, false),
  (⟨"TimedCompiler$Bounds", "pass", "(LTimedCompiler$Code;I)I"⟩, prog_2_method_6_code, 8, some .int, 2, false),
  (⟨"TimedCompiler$Bounds", "passCall", "(LTimedCompiler$Code;I)V"⟩, prog_2_method_7_code, 4, none, 2, false),
  (⟨"TimedCompiler$Bounds", "rounds", "(LTimedCompiler$Code;I)I"⟩, prog_2_method_8_code, 2, some .int, 2, true),
  (⟨"TimedCompiler$Bounds", "leaveLoop", "(LTimedCompiler$Code;IJ)V"⟩, prog_2_method_9_code, 7, none, 3, false),
  (⟨"TimedCompiler$Bounds", "reach", "(IJI)V"⟩, prog_2_method_10_code, 5, none, 3, false),
  (⟨"TimedCompiler$Machine", "forgetRun", "()V"⟩, prog_4_method_2_code, 1, none, 0, false),
  (⟨"TimedCompiler$Machine", "carryOut", "(LTimedCompiler$Code;)I"⟩, prog_4_method_3_code, 4, some .int, 1, false),
  (⟨"TimedCompiler$Machine", "step", "(LTimedCompiler$Code;)I"⟩, prog_4_method_4_code, 5, some .int, 1, false),
  (⟨"TimedCompiler$Machine", "trapOf", "(II)I"⟩, prog_4_method_5_code, 3, some .int, 2, false),
  (⟨"TimedCompiler$Machine", "isWord", "(I)Z"⟩, prog_4_method_6_code, 1, some .boolean, 1, true),
  (⟨"TimedCompiler$Machine", "compute", "(II)V"⟩, prog_4_method_7_code, 6, none, 2, false),
  (⟨"TimedCompiler$Machine", "combine", "(III)I"⟩, prog_4_method_8_code, 3, some .int, 3, true),
  (⟨"TimedCompiler$Machine", "steer", "(II)V"⟩, prog_4_method_9_code, 4, none, 2, false),
  (⟨"TimedCompiler$Machine", "goThere", "(I)V"⟩, prog_4_method_10_code, 2, none, 1, false),
  (⟨"TimedCompiler$Machine", "putOut", "(I)V"⟩, prog_4_method_11_code, 2, none, 1, false),
  (⟨"TimedCompiler$Machine", "placeAt", "(I)I"⟩, prog_4_method_12_code, 2, some .int, 1, false),
  (⟨"TimedCompiler$Machine", "store", "(II)V"⟩, prog_4_method_13_code, 3, none, 2, false),
  (⟨"TimedCompiler$Machine", "push", "(I)V"⟩, prog_4_method_14_code, 2, none, 1, false),
  (⟨"TimedCompiler$Machine", "pop", "()I"⟩, prog_4_method_15_code, 1, some .int, 0, false),
  (⟨"TimedCompiler$Machine", "below", "(I)I"⟩, prog_4_method_16_code, 3, some .int, 1, false),
  (⟨"TimedCompilerModel", "thrown", "()I"⟩, prog_8_method_2_code, 1, some .int, 0, false),
  (⟨"TimedCompilerModel", "type", "(J)Z"⟩, prog_8_method_3_code, 6, some .boolean, 1, false),
  (⟨"TimedCompilerModel", "wipe", "()V"⟩, prog_8_method_4_code, 1, none, 0, false),
  (⟨"TimedCompilerModel", "length", "()I"⟩, prog_8_method_5_code, 1, some .int, 0, false),
  (⟨"TimedCompilerModel", "look", "()I"⟩, prog_8_method_6_code, 1, some .int, 0, false),
  (⟨"TimedCompilerModel", "eat", "(I)Z"⟩, prog_8_method_7_code, 2, some .boolean, 1, false),
  (⟨"TimedCompilerModel", "isDigit", "(I)Z"⟩, prog_8_method_8_code, 1, some .boolean, 1, true),
  (⟨"TimedCompilerModel", "note", "(II)V"⟩, prog_8_method_9_code, 3, none, 2, false),
  (⟨"TimedCompilerModel", "emit", "(II)V"⟩, prog_8_method_10_code, 3, none, 2, false),
  (⟨"TimedCompilerModel", "strength", "(I)I"⟩, prog_8_method_11_code, 1, some .int, 1, true),
  (⟨"TimedCompilerModel", "instruction", "(I)I"⟩, prog_8_method_12_code, 1, some .int, 1, true),
  (⟨"TimedCompilerModel", "reduce", "(I)V"⟩, prog_8_method_13_code, 2, none, 1, false),
  (⟨"TimedCompilerModel", "complete", "()V"⟩, prog_8_method_14_code, 1, none, 0, false),
  (⟨"TimedCompilerModel", "deep", "()I"⟩, prog_8_method_15_code, 3, some .int, 0, false),
  (⟨"TimedCompilerModel", "unit", "(I)I"⟩, prog_8_method_16_code, 5, some .int, 1, false),
  (⟨"TimedCompilerModel", "value", "(IZ)Z"⟩, prog_8_method_17_code, 8, some .boolean, 2, false),
  (⟨"TimedCompilerModel", "open", "(II)Z"⟩, prog_8_method_18_code, 3, some .boolean, 2, false),
  (⟨"TimedCompilerModel", "digits", "()I"⟩, prog_8_method_19_code, 3, some .int, 0, false),
  (⟨"TimedCompilerModel", "loop", "()Z"⟩, prog_8_method_20_code, 3, some .boolean, 0, false),
  (⟨"TimedCompilerModel", "statement", "()Z"⟩, prog_8_method_21_code, 3, some .boolean, 0, false),
  (⟨"TimedCompilerModel", "close", "()Z"⟩, prog_8_method_22_code, 3, some .boolean, 0, false),
  (⟨"TimedCompilerModel", "begin", "()Z"⟩, prog_8_method_23_code, 3, some .boolean, 0, false),
  (⟨"TimedCompilerModel", "reads", "()Z"⟩, prog_8_method_24_code, 3, some .boolean, 0, false),
  (⟨"TimedCompilerModel", "cost", "(I)I"⟩, prog_8_method_25_code, 1, some .int, 1, true),
  (⟨"TimedCompilerModel", "grows", "(I)I"⟩, prog_8_method_26_code, 1, some .int, 1, true),
  (⟨"TimedCompilerModel", "capped", "(I)I"⟩, prog_8_method_27_code, 1, some .int, 1, true),
  (⟨"TimedCompilerModel", "greater", "(II)I"⟩, prog_8_method_28_code, 2, some .int, 2, true),
  (⟨"TimedCompilerModel", "reckon", "(I)V"⟩, prog_8_method_29_code, 8, none, 1, false),
  (⟨"TimedCompilerModel", "shut", "(II)V"⟩, prog_8_method_30_code, 5, none, 2, false),
  (⟨"TimedCompilerModel", "reckonAll", "()Z"⟩, prog_8_method_31_code, 6, some .boolean, 0, false),
  (⟨"TimedCompilerModel", "isShort", "()Z"⟩, prog_8_method_32_code, 3, some .boolean, 0, false),
  (⟨"TimedCompilerModel", "arrange", "()V"⟩, prog_8_method_33_code, 5, none, 0, false),
  (⟨"TimedCompilerModel", "compile", "()I"⟩, prog_8_method_34_code, 1, some .int, 0, false),
  (⟨"TimedCompilerModel", "code", "(II)I"⟩, prog_8_method_35_code, 3, some .int, 2, false),
  (⟨"TimedCompilerModel", "time", "()I"⟩, prog_8_method_36_code, 1, some .int, 0, false),
  (⟨"TimedCompilerModel", "depth", "()I"⟩, prog_8_method_37_code, 1, some .int, 0, false),
  (⟨"TimedCompilerModel", "procedure", "(II)I"⟩, prog_8_method_38_code, 3, some .int, 2, false),
  (⟨"TimedCompilerModel", "set", "(II)Z"⟩, prog_8_method_39_code, 3, some .boolean, 2, false),
  (⟨"TimedCompilerModel", "get", "(I)I"⟩, prog_8_method_40_code, 2, some .int, 1, false),
  (⟨"TimedCompilerModel", "apply", "(III)I"⟩, prog_8_method_41_code, 3, some .int, 3, true),
  (⟨"TimedCompilerModel", "trap", "(II)I"⟩, prog_8_method_42_code, 7, some .int, 2, false),
  (⟨"TimedCompilerModel", "does", "(II)I"⟩, prog_8_method_43_code, 7, some .int, 2, false),
  (⟨"TimedCompilerModel", "run", "()I"⟩, prog_8_method_44_code, 6, some .int, 0, false),
  (⟨"TimedCompilerModel", "latest", "(I)I"⟩, prog_8_method_45_code, 2, some .int, 1, false),
  (⟨"TimedCompilerModel", "output", "(I)I"⟩, prog_8_method_46_code, 2, some .int, 1, false)]
def mz (k : Nat) : MethodName × ByteArray × Nat × Option FieldType × Nat × Bool := mZ.getD k (⟨"", "", ""⟩, ByteArray.empty, 0, none, 0, false)
def mY (k : Nat) : MethodName := (mz k).1
def mC (k : Nat) : ByteArray := (mz k).2.1
def mL (k : Nat) : Nat := (mz k).2.2.1
def mR (k : Nat) : Option FieldType := (mz k).2.2.2.1
def mN (k : Nat) : Nat := (mz k).2.2.2.2.1
def mS (k : Nat) : Bool := (mz k).2.2.2.2.2
def mO (k : Nat) : String := (mY k).cls
def mH : List (Nat × Nat × Nat × Nat) := [(246, 244, 245, 58), (257, 255, 256, 58), (261, 259, 260, 58), (278, 276, 277, 58), (549, 547, 548, 58), (575, 573, 574, 58), (582, 580, 581, 58), (589, 587, 588, 58), (265, 263, 264, 58), (598, 596, 597, 58), (620, 618, 619, 58), (269, 267, 268, 58), (683, 681, 682, 58), (553, 552, 22, 58), (286, 285, 0, 59), (282, 280, 281, 59), (378, 377, 13, 59), (446, 444, 445, 59), (450, 449, 15, 59), (339, 338, 9, 59), (302, 301, 2, 59), (315, 314, 3, 59), (358, 357, 11, 59), (366, 365, 12, 59), (319, 318, 4, 59), (323, 322, 5, 59), (327, 326, 6, 59), (331, 330, 7, 59), (335, 334, 8, 59), (250, 248, 249, 60), (253, 252, 0, 60), (298, 297, 1, 60), (354, 353, 0, 60), (374, 372, 373, 60), (310, 308, 309, 60), (306, 304, 305, 60), (294, 292, 293, 60), (351, 350, 10, 60), (370, 368, 369, 60), (347, 345, 346, 60), (290, 288, 289, 61), (534, 532, 533, 61), (343, 341, 342, 61), (362, 360, 361, 61), (462, 460, 461, 61), (470, 468, 469, 61), (454, 452, 453, 61), (477, 475, 476, 61), (458, 456, 457, 62), (466, 465, 16, 62), (473, 472, 0, 62), (481, 480, 17, 62), (485, 484, 18, 62), (511, 510, 21, 62), (507, 506, 0, 62), (504, 503, 20, 62), (494, 493, 19, 62), (541, 539, 540, 63), (624, 622, 623, 63), (628, 627, 23, 63), (633, 632, 24, 63), (640, 639, 0, 63), (644, 643, 26, 63), (664, 663, 0, 63), (668, 667, 31, 63), (676, 675, 33, 63), (672, 671, 32, 63), (653, 652, 28, 63), (661, 660, 30, 63), (648, 647, 27, 63), (657, 656, 29, 63), (637, 636, 25, 63), (838, 836, 837, 64), (842, 840, 841, 64), (846, 844, 845, 64), (850, 848, 849, 64), (866, 865, 36, 64), (874, 873, 38, 64), (908, 907, 0, 64), (886, 885, 41, 64), (882, 881, 40, 64), (905, 904, 0, 64), (915, 914, 0, 64), (912, 911, 46, 64), (919, 918, 47, 64), (902, 901, 45, 64), (898, 897, 44, 64), (894, 893, 43, 64), (870, 869, 37, 64), (927, 926, 49, 64), (923, 922, 48, 64), (890, 889, 42, 64), (878, 877, 39, 64), (862, 861, 35, 64), (858, 857, 34, 64), (941, 940, 0, 64), (938, 937, 0, 64), (944, 943, 0, 64), (948, 947, 0, 64), (935, 934, 51, 64), (952, 951, 52, 64), (931, 930, 50, 64), (956, 955, 53, 64), (960, 959, 54, 64), (854, 852, 853, 64), (964, 962, 963, 64), (968, 966, 967, 64), (972, 970, 971, 64), (976, 974, 975, 64), (980, 978, 979, 64), (984, 982, 983, 64), (999, 998, 0, 64), (992, 991, 55, 64), (996, 995, 56, 64), (988, 986, 987, 64), (1003, 1001, 1002, 64), (1007, 1005, 1006, 64)]
def xi_wd : List Cond := lw_tbl.filter goodWord
def mW (k : Nat) : List Cond := Cond.code (mY k) (mC k) (mL k) (mR k) :: xi_wd
def xn_T0 : u_T := fun k => match k with
  | 0 => ("TimedCompiler", "parser", "LTimedCompiler$Parser;", true)
  | 1 => ("TimedCompiler", "bounds", "LTimedCompiler$Bounds;", true)
  | 2 => ("TimedCompiler", "program", "LTimedCompiler$Code;", true)
  | _ => ("TimedCompiler", "machine", "LTimedCompiler$Machine;", true)
def xn_t0 : Nat → FieldType := fun k => match k with
  | 0 => .object "TimedCompiler$Parser"
  | 1 => .object "TimedCompiler$Bounds"
  | 2 => .object "TimedCompiler$Code"
  | _ => .object "TimedCompiler$Machine"
theorem xn_n0 : ∀ a, a < 4 → ∀ b, b < 4 → a ≠ b → (xn_T0 a).2.1 ≠ (xn_T0 b).2.1 := by decide +kernel
theorem xn_o0 : ∀ k, k < 4 → parseFieldDescriptor (xn_T0 k).2.2.1 = some (xn_t0 k) := by decide +kernel
def xn_T1 : u_T := fun k => match k with
  | 0 => ("TimedCompiler$Parser", "text", "LTimedCompiler$Text;", true)
  | 1 => ("TimedCompiler$Parser", "draft", "LTimedCompiler$Code;", true)
  | 2 => ("TimedCompiler$Parser", "blocks", "[I", true)
  | _ => ("TimedCompiler$Parser", "called", "[Z", true)
def xn_t1 : Nat → FieldType := fun k => match k with
  | 0 => .object "TimedCompiler$Text"
  | 1 => .object "TimedCompiler$Code"
  | 2 => .array .int
  | _ => .array .boolean
theorem xn_n1 : ∀ a, a < 4 → ∀ b, b < 4 → a ≠ b → (xn_T1 a).2.1 ≠ (xn_T1 b).2.1 := by decide +kernel
theorem xn_o1 : ∀ k, k < 4 → parseFieldDescriptor (xn_T1 k).2.2.1 = some (xn_t1 k) := by decide +kernel
def xn_T2 : u_T := fun k => match k with
  | 0 => ("TimedCompiler$Text", "letters", "[C", true)
  | 1 => ("TimedCompiler$Text", "size", "I", false)
  | _ => ("TimedCompiler$Text", "at", "I", false)
def xn_t2 : Nat → FieldType := fun k => match k with
  | 0 => .array .char
  | 1 => .int
  | _ => .int
theorem xn_n2 : ∀ a, a < 3 → ∀ b, b < 3 → a ≠ b → (xn_T2 a).2.1 ≠ (xn_T2 b).2.1 := by decide +kernel
theorem xn_o2 : ∀ k, k < 3 → parseFieldDescriptor (xn_T2 k).2.2.1 = some (xn_t2 k) := by decide +kernel
def xn_T3 : u_T := fun k => match k with
  | 0 => ("TimedCompiler$Code", "numbers", "[I", true)
  | 1 => ("TimedCompiler$Code", "arguments", "[I", true)
  | 2 => ("TimedCompiler$Code", "size", "I", false)
  | 3 => ("TimedCompiler$Code", "first", "[I", true)
  | 4 => ("TimedCompiler$Code", "last", "[I", true)
  | 5 => ("TimedCompiler$Code", "times", "[I", true)
  | _ => ("TimedCompiler$Code", "depths", "[I", true)
def xn_t3 : Nat → FieldType := fun k => match k with
  | 0 => .array .int
  | 1 => .array .int
  | 2 => .int
  | 3 => .array .int
  | 4 => .array .int
  | 5 => .array .int
  | _ => .array .int
theorem xn_n3 : ∀ a, a < 7 → ∀ b, b < 7 → a ≠ b → (xn_T3 a).2.1 ≠ (xn_T3 b).2.1 := by decide +kernel
theorem xn_o3 : ∀ k, k < 7 → parseFieldDescriptor (xn_T3 k).2.2.1 = some (xn_t3 k) := by decide +kernel
def xn_T4 : u_T := fun k => match k with
  | 0 => ("TimedCompiler$Bounds", "cycles", "[J", true)
  | 1 => ("TimedCompiler$Bounds", "words", "[I", true)
  | _ => ("TimedCompiler$Bounds", "deepest", "I", false)
def xn_t4 : Nat → FieldType := fun k => match k with
  | 0 => .array .long
  | 1 => .array .int
  | _ => .int
theorem xn_n4 : ∀ a, a < 3 → ∀ b, b < 3 → a ≠ b → (xn_T4 a).2.1 ≠ (xn_T4 b).2.1 := by decide +kernel
theorem xn_o4 : ∀ k, k < 3 → parseFieldDescriptor (xn_T4 k).2.2.1 = some (xn_t4 k) := by decide +kernel
def xn_T5 : u_T := fun k => match k with
  | 0 => ("TimedCompiler$Machine", "places", "[I", true)
  | 1 => ("TimedCompiler$Machine", "outputs", "[I", true)
  | 2 => ("TimedCompiler$Machine", "stack", "[I", true)
  | 3 => ("TimedCompiler$Machine", "height", "I", false)
  | 4 => ("TimedCompiler$Machine", "hasRun", "Z", false)
  | 5 => ("TimedCompiler$Machine", "cycles", "I", false)
  | 6 => ("TimedCompiler$Machine", "highest", "I", false)
  | 7 => ("TimedCompiler$Machine", "at", "I", false)
  | _ => ("TimedCompiler$Machine", "outputCount", "I", false)
def xn_t5 : Nat → FieldType := fun k => match k with
  | 0 => .array .int
  | 1 => .array .int
  | 2 => .array .int
  | 3 => .int
  | 4 => .boolean
  | 5 => .int
  | 6 => .int
  | 7 => .int
  | _ => .int
theorem xn_n5 : ∀ a, a < 9 → ∀ b, b < 9 → a ≠ b → (xn_T5 a).2.1 ≠ (xn_T5 b).2.1 := by decide +kernel
theorem xn_o5 : ∀ k, k < 9 → parseFieldDescriptor (xn_T5 k).2.2.1 = some (xn_t5 k) := by decide +kernel
def xn_T6 : u_T := fun k => match k with
  | 0 => ("TimedCompilerModel", "thrown", "I", false)
  | 1 => ("TimedCompilerModel", "length", "I", false)
  | 2 => ("TimedCompilerModel", "text", "[I", false)
  | 3 => ("TimedCompilerModel", "at", "I", false)
  | 4 => ("TimedCompilerModel", "made", "I", false)
  | 5 => ("TimedCompilerModel", "kind", "[I", false)
  | 6 => ("TimedCompilerModel", "argument", "[I", false)
  | 7 => ("TimedCompilerModel", "marks", "I", false)
  | 8 => ("TimedCompilerModel", "mark", "[I", false)
  | 9 => ("TimedCompilerModel", "markValue", "[I", false)
  | 10 => ("TimedCompilerModel", "from", "[I", false)
  | 11 => ("TimedCompilerModel", "to", "[I", false)
  | 12 => ("TimedCompilerModel", "markFrom", "[I", false)
  | 13 => ("TimedCompilerModel", "markTo", "[I", false)
  | 14 => ("TimedCompilerModel", "there", "[Z", false)
  | 15 => ("TimedCompilerModel", "place", "[I", false)
  | 16 => ("TimedCompilerModel", "waiting", "I", false)
  | 17 => ("TimedCompilerModel", "operator", "[I", false)
  | 18 => ("TimedCompilerModel", "compared", "[Z", false)
  | 19 => ("TimedCompilerModel", "opened", "I", false)
  | 20 => ("TimedCompilerModel", "blocks", "I", false)
  | 21 => ("TimedCompilerModel", "block", "[I", false)
  | 22 => ("TimedCompilerModel", "patch", "[I", false)
  | 23 => ("TimedCompilerModel", "piece", "I", false)
  | 24 => ("TimedCompilerModel", "cycles", "[I", false)
  | 25 => ("TimedCompilerModel", "words", "[I", false)
  | 26 => ("TimedCompilerModel", "firstCycles", "[I", false)
  | 27 => ("TimedCompilerModel", "firstWords", "[I", false)
  | 28 => ("TimedCompilerModel", "second", "[Z", false)
  | 29 => ("TimedCompilerModel", "rounds", "[I", false)
  | 30 => ("TimedCompilerModel", "timeOf", "[I", false)
  | 31 => ("TimedCompilerModel", "depthOf", "[I", false)
  | 32 => ("TimedCompilerModel", "loaded", "Z", false)
  | 33 => ("TimedCompilerModel", "size", "I", false)
  | 34 => ("TimedCompilerModel", "code", "[I", false)
  | 35 => ("TimedCompilerModel", "value", "[I", false)
  | 36 => ("TimedCompilerModel", "has", "[Z", false)
  | 37 => ("TimedCompilerModel", "first", "[I", false)
  | 38 => ("TimedCompilerModel", "time", "[I", false)
  | 39 => ("TimedCompilerModel", "depth", "[I", false)
  | 40 => ("TimedCompilerModel", "places", "[I", false)
  | 41 => ("TimedCompilerModel", "stack", "[I", false)
  | 42 => ("TimedCompilerModel", "ran", "Z", false)
  | 43 => ("TimedCompilerModel", "took", "I", false)
  | 44 => ("TimedCompilerModel", "most", "I", false)
  | 45 => ("TimedCompilerModel", "ended", "I", false)
  | 46 => ("TimedCompilerModel", "outs", "I", false)
  | _ => ("TimedCompilerModel", "out", "[I", false)
def xn_t6 : Nat → FieldType := fun k => match k with
  | 0 => .int
  | 1 => .int
  | 2 => .array .int
  | 3 => .int
  | 4 => .int
  | 5 => .array .int
  | 6 => .array .int
  | 7 => .int
  | 8 => .array .int
  | 9 => .array .int
  | 10 => .array .int
  | 11 => .array .int
  | 12 => .array .int
  | 13 => .array .int
  | 14 => .array .boolean
  | 15 => .array .int
  | 16 => .int
  | 17 => .array .int
  | 18 => .array .boolean
  | 19 => .int
  | 20 => .int
  | 21 => .array .int
  | 22 => .array .int
  | 23 => .int
  | 24 => .array .int
  | 25 => .array .int
  | 26 => .array .int
  | 27 => .array .int
  | 28 => .array .boolean
  | 29 => .array .int
  | 30 => .array .int
  | 31 => .array .int
  | 32 => .boolean
  | 33 => .int
  | 34 => .array .int
  | 35 => .array .int
  | 36 => .array .boolean
  | 37 => .array .int
  | 38 => .array .int
  | 39 => .array .int
  | 40 => .array .int
  | 41 => .array .int
  | 42 => .boolean
  | 43 => .int
  | 44 => .int
  | 45 => .int
  | 46 => .int
  | _ => .array .int
theorem xn_n6 : ∀ a, a < 48 → ∀ b, b < 48 → a ≠ b → (xn_T6 a).2.1 ≠ (xn_T6 b).2.1 := by decide +kernel
theorem xn_o6 : ∀ k, k < 48 → parseFieldDescriptor (xn_T6 k).2.2.1 = some (xn_t6 k) := by decide +kernel
def vwCl : List vw_C := [("TimedCompiler", xn_T0, 4), ("TimedCompiler$Parser", xn_T1, 4), ("TimedCompiler$Text", xn_T2, 3), ("TimedCompiler$Code", xn_T3, 7), ("TimedCompiler$Bounds", xn_T4, 3), ("TimedCompiler$Machine", xn_T5, 9), ("TimedCompilerModel", xn_T6, 48)]
def xi_tys : List Nat := [0, 0, 0, 3, 0, 1, 1, 1, 1, 1, 1, 1, 2, 0, 4, 1, 0, 1, 1, 1, 1, 1, 1, 0, 1, 1, 1, 0, 1, 1, 1, 1, 1, 1, 1, 1, 1, 2, 1, 1, 2, 1, 1, 1, 1, 1, 1, 2, 1, 1, 1, 1, 1, 2, 1, 1, 1, 1, 1, 1, 4]
def xi_tn (r : Nat) : Nat := xi_tys.getD r 0
def xi_tc (n : Nat) : FieldType := match n with
  | 1 => .int
  | 2 => .boolean
  | 3 => .char
  | _ => .long
def xi_tyL (ca : Nat → ClassId) : List (ClassId × FieldType) := ((List.range xi_tys.length).filter (fun i => xi_tn i != 0)).map (fun i => (ca i, xi_tc (xi_tn i)))
theorem xi_ty (ca : Nat → ClassId) {r : Nat} (h : xi_tn r ≠ 0) : ∃ t : Nat, (xi_tyL ca)[t]? = some (ca r, xi_tc (xi_tn r)) := by
  have hr : r < xi_tys.length := by
    by_cases hr : r < xi_tys.length
    · exact hr
    · exfalso
      apply h
      unfold xi_tn
      rw [List.getD_eq_getElem?_getD, List.getElem?_eq_none (by omega)]
      rfl
  have hm : (ca r, xi_tc (xi_tn r)) ∈ xi_tyL ca := by
    unfold xi_tyL
    rw [List.mem_map]
    exact ⟨r, List.mem_filter.mpr ⟨List.mem_range.mpr hr, by simpa using h⟩, rfl⟩
  exact List.getElem?_of_mem hm
theorem xi_ty1 (ca : Nat → ClassId) {r : Nat} (h : xi_tn r = 1) : ∃ t : Nat, (xi_tyL ca)[t]? = some (ca r, .int) := by
  obtain ⟨t, ht⟩ := xi_ty ca (r := r) (by rw [h]; decide)
  rw [h] at ht; exact ⟨t, ht⟩
theorem xi_ty2 (ca : Nat → ClassId) {r : Nat} (h : xi_tn r = 2) : ∃ t : Nat, (xi_tyL ca)[t]? = some (ca r, .boolean) := by
  obtain ⟨t, ht⟩ := xi_ty ca (r := r) (by rw [h]; decide)
  rw [h] at ht; exact ⟨t, ht⟩
theorem xi_ty3 (ca : Nat → ClassId) {r : Nat} (h : xi_tn r = 3) : ∃ t : Nat, (xi_tyL ca)[t]? = some (ca r, .char) := by
  obtain ⟨t, ht⟩ := xi_ty ca (r := r) (by rw [h]; decide)
  rw [h] at ht; exact ⟨t, ht⟩
theorem xi_ty4 (ca : Nat → ClassId) {r : Nat} (h : xi_tn r = 4) : ∃ t : Nat, (xi_tyL ca)[t]? = some (ca r, .long) := by
  obtain ⟨t, ht⟩ := xi_ty ca (r := r) (by rw [h]; decide)
  rw [h] at ht; exact ⟨t, ht⟩
def xi_cost (j : Nat) : Int32 := ([1, 2, 2, 4, 4, 1, 1, 5, 20, 1, 1, 1, 6, 1, 2, 1, 2, 4, 3, 0] : List Int32).getD j 0
def xi_grow (j : Nat) : Int32 := ([1, 1, -1, 0, -2, -1, -1, -1, -1, -1, -1, 0, -1, -1, 0, 0, 0, 1, -1, 0] : List Int32).getD j 0
def xi_sa (r : Nat) : Option (Nat × (Nat → Int32)) := match Nat.beq r 1000 with
  | true => some (20, xi_cost)
  | false => (match Nat.beq r 1001 with
    | true => some (20, xi_grow)
    | false => none)
def xi_nw1 : Cond := .fieldLinkNest "TimedCompiler$Bounds" 67 "TimedCompiler" "COST" "[I" "TimedCompiler"
def xi_nw2 : Cond := .fieldLinkNest "TimedCompiler$Bounds" 81 "TimedCompiler" "GROWTH" "[I" "TimedCompiler"
def xi_nw3 : Cond := .fieldLinkNest "TimedCompiler$Machine" 56 "TimedCompiler" "COST" "[I" "TimedCompiler"
def xi_Z (ad : Nat → Nat) (A : Nat → Prop) (U : State) : Prop := (va_Z "TimedCompiler" "COST" "[I" (.ref (ad 1000)) A U U.heap ∧ va_T .int (ad 1000) 20 (fun j => .int (xi_cost j)) A U U.heap) ∧ (va_Z "TimedCompiler" "GROWTH" "[I" (.ref (ad 1001)) A U U.heap ∧ va_T .int (ad 1001) 20 (fun j => .int (xi_grow j)) A U U.heap) ∧ va_Nw xi_nw1 U ∧ va_Nw xi_nw2 U ∧ va_Nw xi_nw3 U
theorem xi_Z.calling {ad : Nat → Nat} {A : Nat → Prop} {U : State} {g : JFrame} {mk : MethodId} {a : Array Value} (h : xi_Z ad A U) : xi_Z ad A (U.calling g mk a) :=
  ⟨⟨va_Z.moved (u := U) (U := U.calling g mk a) (Vm.Alike.refl U.vm) h.1.1, va_T.moved (u := U) (U := U.calling g mk a) (Vm.Alike.refl U.vm) h.1.2⟩, ⟨va_Z.moved (u := U) (U := U.calling g mk a) (Vm.Alike.refl U.vm) h.2.1.1, va_T.moved (u := U) (U := U.calling g mk a) (Vm.Alike.refl U.vm) h.2.1.2⟩, va_Nw.same (u := U) (U := U.calling g mk a) rfl rfl h.2.2.1, va_Nw.same (u := U) (U := U.calling g mk a) rfl rfl h.2.2.2.1, va_Nw.same (u := U) (U := U.calling g mk a) rfl rfl h.2.2.2.2⟩
theorem xi_Z.at {ad : Nat → Nat} {A B : Nat → Prop} {s U : State} {H : Heap} {locs : List Loc} (h : xi_Z ad A s) (hS : va_S A s.heap H locs) (hB : ∀ q, B q → A q) (hU : U.heap = H) (hW : s.WarmedH U.vm) : xi_Z ad B U := by
  subst hU
  exact ⟨⟨((h.1.1.kept hS.2.1).moved hW.alike).narrow hB, ((h.1.2.kept hS.2.1).moved hW.alike).narrow hB⟩, ⟨((h.2.1.1.kept hS.2.1).moved hW.alike).narrow hB, ((h.2.1.2.kept hS.2.1).moved hW.alike).narrow hB⟩, va_Nw.warmF hW h.2.2.1, va_Nw.warmF hW h.2.2.2.1, va_Nw.warmF hW h.2.2.2.2⟩
theorem xi_Z.tab {ad : Nat → Nat} {A : Nat → Prop} {s : State} {r : Nat} {q : Nat × (Nat → Int32)} (h : xi_Z ad A s) (hq : xi_sa r = some q) : va_T .int (ad r) q.1 (fun j => .int (q.2 j)) A s s.heap := by
  unfold xi_sa at hq
  split at hq
  · rename_i h1
    have := Nat.eq_of_beq_eq_true h1
    subst this
    cases hq
    exact h.1.2
  · split at hq
    · rename_i h1
      have := Nat.eq_of_beq_eq_true h1
      subst this
      cases hq
      exact h.2.1.2
    · cases hq
end
section
/-! The evaluator: a frame is run over an abstract world; a reference is a place in the world. -/
abbrev xi_C : Type := vp_A ⊕ (Nat × List Value)
abbrev xi_W : Type := List xi_C
abbrev xi_L : Type := List (Option Value)
abbrev xi_R : Type := Option Value × xi_W
abbrev xi_E : Type := Jvm.ClassFile.Instr × Value × List Bool
def xi_mp (ad : Nat → Nat) (v : Value) : Value := match v with
  | .ref i => .ref (ad i)
  | w => w
def xi_cr (ad : Nat → Nat) (ca : Nat → ClassId) (i : Nat) (x : xi_C) : Nat × va_E := match x with
  | .inl a => (ad i, .inl (ca i, a))
  | .inr o => (ad i, .inr (o.1, o.2.map (xi_mp ad)))
def xi_rl (ad : Nat → Nat) (ca : Nat → ClassId) (aw : xi_W) : va_W := aw.mapIdx (xi_cr ad ca)
def xi_lg (L : xi_L) (i : Nat) : Option Value := match L[i]? with
  | some (some v) => some v
  | _ => none
def xi_kd (v : Value) : Nat := match v with
  | .int _ => 0
  | .long _ => 1
  | .ref _ => 2
  | _ => 3
def xi_pk (L : xi_L) (i : Nat) : Bool := match i with
  | 0 => true
  | j + 1 => match xi_lg L j with
    | some (.long _) => false
    | some (.double _) => false
    | _ => true
def xi_mk : List Bool → xi_L → xi_L
  | [], L => L
  | _ :: _, [] => []
  | b :: bs, x :: L => (match b with
    | true => x
    | false => none) :: xi_mk bs L
def xi_o2 (f : Int32 → Int32 → Int32) (st : List Value) : Option (List Value) := match st with
  | .int y :: .int x :: r => some (.int (f x y) :: r)
  | _ => none
def xi_o1 (f : Int32 → Value) (st : List Value) : Option (List Value) := match st with
  | .int x :: r => some (f x :: r)
  | _ => none
def xi_q1 (f : Int64 → Value) (st : List Value) : Option (List Value) := match st with
  | .long x :: r => some (f x :: r)
  | _ => none
def xi_q2 (f : Int64 → Int64 → Int64) (st : List Value) : Option (List Value) := match st with
  | .long y :: .long x :: r => some (.long (f x y) :: r)
  | _ => none
def xi_qs (f : Int64 → Int32 → Int64) (st : List Value) : Option (List Value) := match st with
  | .int y :: .long x :: r => some (.long (f x y) :: r)
  | _ => none
def xi_c1 (v : Value) : Bool := match v with
  | .long _ => false
  | .double _ => false
  | _ => true
def xi_du (st : List Value) : Option (List Value) := match st with
  | v :: r => (match xi_c1 v with
    | true => some (v :: v :: r)
    | false => none)
  | _ => none
def xi_po (st : List Value) : Option (List Value) := match st with
  | v :: r => (match xi_c1 v with
    | true => some r
    | false => none)
  | _ => none
def xi_dx (st : List Value) : Option (List Value) := match st with
  | v :: w :: r => (match xi_c1 v with
    | true => (match xi_c1 w with
      | true => some (v :: w :: v :: r)
      | false => none)
    | false => none)
  | _ => none
def xi_d2 (st : List Value) : Option (List Value) := match st with
  | v :: w :: r => (match xi_c1 v with
    | true => (match xi_c1 w with
      | true => some (v :: w :: v :: w :: r)
      | false => none)
    | false => none)
  | _ => none
/-- instructions of one byte that change the operand stack alone -/
def xi_sop (i : Jvm.ClassFile.Instr) (st : List Value) : Option (List Value) := match i with
  | .iadd => xi_o2 (fun x y => x + y) st
  | .isub => xi_o2 (fun x y => x - y) st
  | .imul => xi_o2 (fun x y => x * y) st
  | .iand => xi_o2 (fun x y => x &&& y) st
  | .ior => xi_o2 (fun x y => x ||| y) st
  | .ixor => xi_o2 (fun x y => x ^^^ y) st
  | .ishl => xi_o2 (fun x y => x <<< (y &&& 31)) st
  | .ishr => xi_o2 (fun x y => x >>> (y &&& 31)) st
  | .ineg => xi_o1 (fun x => .int (-x)) st
  | .i2l => xi_o1 (fun x => .long x.toInt64) st
  | .i2c => xi_o1 (fun x => .int (x.toUInt32 % 65536).toInt32) st
  | .l2i => xi_q1 (fun x => .int x.toInt32) st
  | .ladd => xi_q2 (fun x y => x + y) st
  | .lsub => xi_q2 (fun x y => x - y) st
  | .lmul => xi_q2 (fun x y => x * y) st
  | .land => xi_q2 (fun x y => x &&& y) st
  | .lor => xi_q2 (fun x y => x ||| y) st
  | .lushr => xi_qs (fun x y => (x.toUInt64 >>> (y.toInt64.toUInt64 &&& Int64.toUInt64 63)).toInt64) st
  | .lshl => xi_qs (fun x y => x <<< (y.toInt64 &&& 63)) st
  | .lshr => xi_qs (fun x y => x >>> (y.toInt64 &&& 63)) st
  | .dup => xi_du st
  | .pop => xi_po st
  | .dup_x1 => xi_dx st
  | .dup2 => xi_d2 st
  | _ => none
abbrev xi_K : Type := Nat → xi_L → List Value → xi_W → Option xi_R
abbrev xi_F : Type := Nat → List Value → xi_W → Option xi_R
def xi_n (v : Value) : Nat := match v with
  | .ref n => n
  | _ => 0
def xi_ld (ct : xi_K) (kd n j pc : Nat) (L : xi_L) (st : List Value) (aw : xi_W) : Option xi_R := match xi_lg L j with
  | some v => (match Nat.beq (xi_kd v) kd with
    | true => ct (pc + n) L (v :: st) aw
    | false => none)
  | none => none
def xi_s1 (ct : xi_K) (kd n j pc : Nat) (L : xi_L) (st : List Value) (aw : xi_W) : Option xi_R := match st with
  | v :: r => (match Nat.beq (xi_kd v) kd with
    | true => (match xi_pk L j with
      | true => (match Nat.blt j L.length with
        | true => ct (pc + n) (L.set j (some v)) r aw
        | false => none)
      | false => none)
    | false => none)
  | _ => none
def xi_s2 (ct : xi_K) (n j pc : Nat) (L : xi_L) (st : List Value) (aw : xi_W) : Option xi_R := match st with
  | .long y :: r => (match xi_pk L j with
    | true => (match Nat.blt (j + 1) L.length with
      | true => ct (pc + n) ((L.set j (some (.long y))).set (j + 1) none) r aw
      | false => none)
    | false => none)
  | _ => none
def xi_ic (ct : xi_K) (v : Value) (j pc : Nat) (L : xi_L) (st : List Value) (aw : xi_W) : Option xi_R := match v with
  | .int d => (match xi_lg L j with
    | some (.int y) => (match xi_pk L j with
      | true => ct (pc + 3) (L.set j (some (.int (y + d)))) st aw
      | false => none)
    | _ => none)
  | _ => none
def xi_cd (c : Jvm.ClassFile.Cond) (y z : Int32) (a b : Option xi_R) : Option xi_R := match c with
  | .eq => if y = z then a else b
  | .ne => if y = z then b else a
  | .lt => if y < z then a else b
  | .ge => if y < z then b else a
  | .gt => if z < y then a else b
  | .le => if z < y then b else a
def xi_sw (y : Int32) (kk : Int → Option xi_R) : List (Int × Int) → Int → Option xi_R
  | [], d => kk d
  | (a, t) :: r, d => if y.toInt = a then kk t else xi_sw y kk r d
def xi_gf (ct : xi_K) (ci j pc : Nat) (L : xi_L) (st : List Value) (aw : xi_W) : Option xi_R := match st with
  | .ref r :: rest => (match aw[r]? with
    | some (.inr o) => (match Nat.beq o.1 ci with
      | true => (match o.2[j]? with
        | some w => ct (pc + 3) L (w :: rest) aw
        | none => none)
      | false => none)
    | _ => none)
  | _ => none
def xi_pf (ct : xi_K) (ci j pc : Nat) (L : xi_L) (st : List Value) (aw : xi_W) : Option xi_R := match st with
  | .int y :: .ref r :: rest => (match aw[r]? with
    | some (.inr o) => (match Nat.beq o.1 ci with
      | true => (match Nat.blt j o.2.length with
        | true => ct (pc + 3) L rest (aw.set r (.inr (o.1, o.2.set j (.int y))))
        | false => none)
      | false => none)
    | _ => none)
  | _ => none
def xi_pb (ct : xi_K) (ci j pc : Nat) (L : xi_L) (st : List Value) (aw : xi_W) : Option xi_R := match st with
  | .int y :: _ => if y = 0 ∨ y = 1 then xi_pf ct ci j pc L st aw else none
  | _ => none
def xi_al (ct : xi_K) (ty pc : Nat) (L : xi_L) (st : List Value) (aw : xi_W) : Option xi_R := match st with
  | .int y :: .ref r :: rest => (match xi_sa r with
    | some q => (match Nat.beq ty 1 with
      | true => if 0 ≤ y.toInt ∧ y.toInt < (q.1 : Int) then ct (pc + 1) L (.int (q.2 y.toNatClampNeg) :: rest) aw else none
      | false => none)
    | none => (match aw[r]? with
      | some (.inl (n, .inl f)) => (match Nat.beq (xi_tn r) ty with
        | true => if 0 ≤ y.toInt ∧ y.toInt < (n : Int) then ct (pc + 1) L (.int (f y.toNatClampNeg) :: rest) aw else none
        | false => none)
      | _ => none))
  | _ => none
def xi_ll (ct : xi_K) (pc : Nat) (L : xi_L) (st : List Value) (aw : xi_W) : Option xi_R := match st with
  | .int y :: .ref r :: rest => (match aw[r]? with
    | some (.inl (n, .inr (.inl f))) => (match Nat.beq (xi_tn r) 4 with
      | true => if 0 ≤ y.toInt ∧ y.toInt < (n : Int) then ct (pc + 1) L (.long (f y.toNatClampNeg) :: rest) aw else none
      | false => none)
    | _ => none)
  | _ => none
def xi_nr (ty : Nat) (z : Int32) : Int32 := match ty with
  | 2 => vp_nar .boolean z
  | 3 => vp_nar .char z
  | _ => z
def xi_at (ct : xi_K) (ty pc : Nat) (L : xi_L) (st : List Value) (aw : xi_W) : Option xi_R := match st with
  | .int z :: .int y :: .ref r :: rest => (match aw[r]? with
    | some (.inl (n, .inl f)) => (match Nat.beq (xi_tn r) ty with
      | true => if 0 ≤ y.toInt ∧ y.toInt < (n : Int) then ct (pc + 1) L rest (aw.set r (.inl (n, .inl (upd f y.toNatClampNeg (xi_nr ty z))))) else none
      | false => none)
    | _ => none)
  | _ => none
def xi_lt (ct : xi_K) (pc : Nat) (L : xi_L) (st : List Value) (aw : xi_W) : Option xi_R := match st with
  | .long z :: .int y :: .ref r :: rest => (match aw[r]? with
    | some (.inl (n, .inr (.inl f))) => (match Nat.beq (xi_tn r) 4 with
      | true => if 0 ≤ y.toInt ∧ y.toInt < (n : Int) then ct (pc + 1) L rest (aw.set r (.inl (n, .inr (.inl (vp_updL f y.toNatClampNeg z))))) else none
      | false => none)
    | _ => none)
  | _ => none
def xi_dv (ct : xi_K) (pc : Nat) (L : xi_L) (st : List Value) (aw : xi_W) : Option xi_R := match st with
  | .int z :: .int y :: rest => if z = 0 then none else ct (pc + 1) L (.int (y / z) :: rest) aw
  | _ => none
def xi_cm (rest : List Value) : Nat := (rest.map fun v => v.category).sum
def xi_mm (ct : xi_K) (pc : Nat) (L : xi_L) (st : List Value) (aw : xi_W) : Option xi_R := match st with
  | .int z :: .int y :: rest => (match Nat.ble (xi_cm rest) 8 with
    | true => ct (pc + 3) L (.int (if y < z then z else y) :: rest) aw
    | false => none)
  | _ => none
def xi_ml (ct : xi_K) (pc : Nat) (L : xi_L) (st : List Value) (aw : xi_W) : Option xi_R := match st with
  | .long z :: .long y :: rest => (match Nat.ble (xi_cm rest) 8 with
    | true => ct (pc + 3) L (.long (if z < y then y else z) :: rest) aw
    | false => none)
  | _ => none
def xi_nl (ct : xi_K) (pc : Nat) (L : xi_L) (st : List Value) (aw : xi_W) : Option xi_R := match st with
  | .long z :: .long y :: rest => (match Nat.ble (xi_cm rest) 8 with
    | true => ct (pc + 3) L (.long (if z < y then z else y) :: rest) aw
    | false => none)
  | _ => none
def xi_cy (ct : xi_K) (pc : Nat) (L : xi_L) (st : List Value) (aw : xi_W) : Option xi_R := match st with
  | .int n :: .int dp :: .ref a :: .int sp :: .ref b :: rest => (match aw[b]? with
    | some (.inl (n0, .inl f)) => (match aw[a]? with
      | some (.inl (n1, .inl g)) => (match Nat.beq (xi_tn a) 1 with
        | true => (match Nat.beq (xi_tn b) 1 with
          | true => (match Nat.ble (xi_cm rest) 8 with
            | true => if ¬ sp < 0 ∧ ¬ dp < 0 ∧ ¬ n < 0 ∧ sp.toNatClampNeg + n.toNatClampNeg ≤ n0 ∧ dp.toNatClampNeg + n.toNatClampNeg ≤ n1 then ct (pc + 3) L rest (aw.set a (.inl (n1, .inl (va_cpy f g sp.toNatClampNeg dp.toNatClampNeg n.toNatClampNeg)))) else none
            | false => none)
          | false => none)
        | false => none)
      | _ => none)
    | _ => none)
  | _ => none
def xi_bd (o : Option xi_R) (f : xi_R → Option xi_R) : Option xi_R := match o with
  | some y => f y
  | none => none
def xi_iv (cal : xi_F) (ct : xi_K) (k ci n pc : Nat) (L : xi_L) (st : List Value) (aw : xi_W) : Option xi_R := match Nat.ble n st.length with
  | true => (match Nat.ble (xi_cm (st.drop n)) 8 with
    | true => (match (st.take n).reverse with
      | .ref b :: As => (match aw[b]? with
        | some (.inr o) => (match Nat.beq o.1 ci with
          | true => xi_bd (cal k (.ref b :: As) aw) (fun y => ct (pc + 3) L (y.1.toList ++ st.drop n) y.2)
          | false => none)
        | _ => none)
      | _ => none)
    | false => none)
  | false => none
def xi_is (cal : xi_F) (ct : xi_K) (k n pc : Nat) (L : xi_L) (st : List Value) (aw : xi_W) : Option xi_R := match Nat.ble n st.length with
  | true => (match Nat.ble (xi_cm (st.drop n)) 8 with
    | true => xi_bd (cal k (st.take n).reverse aw) (fun y => ct (pc + 3) L (y.1.toList ++ st.drop n) y.2)
    | false => none)
  | false => none
def xi_rt (kd : Nat) (st : List Value) (aw : xi_W) : Option xi_R := match st with
  | [.int y] => (match kd with
    | 0 => some (some (.int y), aw)
    | 1 => if y = 0 ∨ y = 1 then some (some (.int y), aw) else none
    | 2 => if 0 ≤ y.toInt ∧ y.toInt < 65536 then some (some (.int y), aw) else none
    | _ => none)
  | _ => none
def xi_i0 (ct : xi_K) (c : Jvm.ClassFile.Cond) (t pc : Nat) (L : xi_L) (st : List Value) (aw : xi_W) : Option xi_R := match st with
  | .int y :: r => xi_cd c y 0 (ct t L r aw) (ct (pc + 3) L r aw)
  | _ => none
def xi_i2 (ct : xi_K) (c : Jvm.ClassFile.Cond) (t pc : Nat) (L : xi_L) (st : List Value) (aw : xi_W) : Option xi_R := match st with
  | .int z :: .int y :: r => xi_cd c y z (ct t L r aw) (ct (pc + 3) L r aw)
  | _ => none
def xi_sx (ct : xi_K) (ps : List (Int × Int)) (d : Int) (L : xi_L) (st : List Value) (aw : xi_W) : Option xi_R := match st with
  | .int y :: r => xi_sw y (fun t => ct t.toNat L r aw) ps d
  | _ => none
def xi_nt (ct : xi_K) (c pc : Nat) (L : xi_L) (st : List Value) (aw : xi_W) : Option xi_R := match c with
  | 0 => xi_mm ct pc L st aw
  | 1 => xi_ml ct pc L st aw
  | 2 => xi_nl ct pc L st aw
  | 3 => xi_cy ct pc L st aw
  | _ => none
def xi_rv (st : List Value) (aw : xi_W) : Option xi_R := match st with
  | [] => some (none, aw)
  | _ => none
def xi_so (ct : xi_K) (i : Jvm.ClassFile.Instr) (pc : Nat) (L : xi_L) (st : List Value) (aw : xi_W) : Option xi_R := match xi_sop i st with
  | some st' => ct (pc + 1) L st' aw
  | none => none
def xi_in (cal : xi_F) (ct : xi_K) (i : Jvm.ClassFile.Instr) (v : Value) (pc : Nat) (L : xi_L) (st : List Value) (aw : xi_W) : Option xi_R := match i with
  | .ldc n => ct (pc + n) L (v :: st) aw
  | .iload j => xi_ld ct 0 (xi_n v) j pc L st aw
  | .lload j => xi_ld ct 1 (xi_n v) j pc L st aw
  | .aload j => xi_ld ct 2 (xi_n v) j pc L st aw
  | .istore j => xi_s1 ct 0 (xi_n v) j pc L st aw
  | .astore j => xi_s1 ct 2 (xi_n v) j pc L st aw
  | .lstore j => xi_s2 ct (xi_n v) j pc L st aw
  | .iinc j _ => xi_ic ct v j pc L st aw
  | .ifCond c _ => xi_i0 ct c (xi_n v) pc L st aw
  | .if_icmp c _ => xi_i2 ct c (xi_n v) pc L st aw
  | .goto _ => ct (xi_n v) L st aw
  | .lookupswitch d ps => xi_sx ct ps.toList d L st aw
  | .getfield ci => xi_gf ct ci (xi_n v) pc L st aw
  | .putfield ci => xi_pf ct ci (xi_n v) pc L st aw
  | .putstatic ci => xi_pb ct ci (xi_n v) pc L st aw
  | .getstatic r => ct (pc + 3) L (.ref r :: st) aw
  | .iaload => xi_al ct 1 pc L st aw
  | .baload => xi_al ct 2 pc L st aw
  | .caload => xi_al ct 3 pc L st aw
  | .laload => xi_ll ct pc L st aw
  | .iastore => xi_at ct 1 pc L st aw
  | .bastore => xi_at ct 2 pc L st aw
  | .castore => xi_at ct 3 pc L st aw
  | .lastore => xi_lt ct pc L st aw
  | .idiv => xi_dv ct pc L st aw
  | .invokedynamic c => xi_nt ct c pc L st aw
  | .invokeinterface k ci => xi_iv cal ct k ci (xi_n v) pc L st aw
  | .invokestatic k => xi_is cal ct k (xi_n v) pc L st aw
  | .ireturn => xi_rt (xi_n v) st aw
  | .return_ => xi_rv st aw
  | i => xi_so ct i pc L st aw
def xi_go (cal : xi_F) (tb : List (Option xi_E)) : Nat → xi_K
  | 0 => fun _ _ _ _ => none
  | n + 1 => fun pc L st aw => match tb[pc]? with
    | some (some q) => xi_in cal (xi_go cal tb n) q.1 q.2.1 pc (xi_mk q.2.2 L) st aw
    | _ => none
def xi_en : List Value → xi_L
  | [] => []
  | v :: r => (match xi_c1 v with
    | true => some v :: xi_en r
    | false => some v :: none :: xi_en r)
def xi_pd (n : Nat) (vs : List Value) : xi_L := xi_en vs ++ List.replicate (n - (xi_en vs).length) none
end
section
/-! Soundness of the evaluator: what it computes, the machine does. -/
theorem xi_no {α : Type} {y : α} {P : Prop} (h : (none : Option α) = some y) : P := by cases h
theorem xi_mp_cat (ad : Nat → Nat) (v : Value) : (xi_mp ad v).category = v.category := by cases v <;> rfl
theorem xi_mp_kd (ad : Nat → Nat) (v : Value) : xi_kd (xi_mp ad v) = xi_kd v := by cases v <;> rfl
theorem xi_c1_cat {v : Value} (h : xi_c1 v = true) : v.category = 1 := by cases v <;> first | rfl | (simp [xi_c1] at h)
theorem xi_cm_mp (ad : Nat → Nat) (l : List Value) : ((l.map (xi_mp ad)).map fun v => v.category).sum = xi_cm l := by
  unfold xi_cm
  rw [List.map_map]
  congr 1
  apply List.map_congr_left
  intro v _
  exact xi_mp_cat ad v
theorem xi_rl_get (ad : Nat → Nat) (ca : Nat → ClassId) (aw : xi_W) (i : Nat) : (xi_rl ad ca aw)[i]? = (aw[i]?).map (xi_cr ad ca i) := by
  unfold xi_rl
  rw [List.getElem?_mapIdx]
theorem xi_rl_len (ad : Nat → Nat) (ca : Nat → ClassId) (aw : xi_W) : (xi_rl ad ca aw).length = aw.length := by
  unfold xi_rl
  rw [List.length_mapIdx]
theorem xi_rl_set (ad : Nat → Nat) (ca : Nat → ClassId) (aw : xi_W) (i : Nat) (y : xi_C) : xi_rl ad ca (aw.set i y) = (xi_rl ad ca aw).set i (xi_cr ad ca i y) := by
  apply List.ext_getElem?
  intro j
  rw [xi_rl_get, List.getElem?_set, List.getElem?_set, xi_rl_get, xi_rl_len]
  by_cases h : i = j
  · subst h
    by_cases h2 : i < aw.length <;> simp [h2]
  · simp [h]
theorem xi_rl_arr {ad : Nat → Nat} {ca : Nat → ClassId} {aw : xi_W} {r : Nat} {a : vp_A} (h : aw[r]? = some (.inl a)) : (xi_rl ad ca aw)[r]? = some (ad r, .inl (ca r, a)) := by
  rw [xi_rl_get, h]; rfl
theorem xi_rl_obj {ad : Nat → Nat} {ca : Nat → ClassId} {aw : xi_W} {r : Nat} {o : Nat × List Value} (h : aw[r]? = some (.inr o)) : (xi_rl ad ca aw)[r]? = some (ad r, .inr (o.1, o.2.map (xi_mp ad))) := by
  rw [xi_rl_get, h]; rfl
theorem xi_cr_fst (ad : Nat → Nat) (ca : Nat → ClassId) (i : Nat) (y : xi_C) : (xi_cr ad ca i y).1 = ad i := by cases y <;> rfl
/-- the addresses of a world are a matter of its length -/
theorem xi_D_len {A : Nat → Prop} {ad : Nat → Nat} {ca : Nat → ClassId} {aw aw' : xi_W} (hl : aw'.length = aw.length) (h : va_D A (xi_rl ad ca aw)) : va_D A (xi_rl ad ca aw') := by
  have key : ∀ (k : Nat) (q : Nat × va_E), (xi_rl ad ca aw')[k]? = some q → ∃ q0, (xi_rl ad ca aw)[k]? = some q0 ∧ q0.1 = q.1 := by
    intro k q hk
    rw [xi_rl_get] at hk
    obtain ⟨y, hy, rfl⟩ := Option.map_eq_some_iff.mp hk
    have hlt : k < aw.length := by rw [← hl]; exact (List.getElem?_eq_some_iff.mp hy).1
    refine ⟨xi_cr ad ca k aw[k], ?_, ?_⟩
    · rw [xi_rl_get, List.getElem?_eq_getElem hlt]; rfl
    · rw [xi_cr_fst, xi_cr_fst]
  refine ⟨fun i j y z hi hj hyz => ?_, fun k q hk => ?_⟩
  · obtain ⟨y0, h1, h2⟩ := key i y hi
    obtain ⟨z0, h3, h4⟩ := key j z hj
    exact h.1 i j y0 z0 h1 h3 (h2.trans (hyz.trans h4.symm))
  · obtain ⟨q0, h1, h2⟩ := key k q hk
    rw [← h2]
    exact h.2 k q0 h1
theorem xi_A_len {ad : Nat → Nat} {ca : Nat → ClassId} {aw aw' : xi_W} (hl : aw'.length = aw.length) {sz q : Nat} (h : va_A (xi_rl ad ca aw') sz q) : va_A (xi_rl ad ca aw) sz q := by
  rcases h with ⟨k, e, hk⟩ | h
  · rw [xi_rl_get] at hk
    obtain ⟨y, hy, hq⟩ := Option.map_eq_some_iff.mp hk
    have hlt : k < aw.length := by rw [← hl]; exact (List.getElem?_eq_some_iff.mp hy).1
    have h1 : ad k = q := by rw [← xi_cr_fst ad ca k y, hq]
    have h2 : (xi_rl ad ca aw)[k]? = some (xi_cr ad ca k aw[k]) := by rw [xi_rl_get, List.getElem?_eq_getElem hlt]; rfl
    refine Or.inl ⟨k, (xi_cr ad ca k aw[k]).2, ?_⟩
    rw [h2, ← h1, ← xi_cr_fst ad ca k aw[k]]
  · exact Or.inr h
/-! locals -/
def xi_lh (ad : Nat → Nat) (ls : Array Slot) (nL : Nat) (L : xi_L) : Prop := ls.size = nL ∧ L.length = nL ∧ lv_wf ls ∧ ∀ (i : Nat) (v : Value), xi_lg L i = some v → ls[i]? = some (.val (xi_mp ad v))
def xi_as (ad : Nat → Nat) (L : xi_L) : List (Nat × Value) := (List.range L.length).filterMap (fun i => (xi_lg L i).map (fun v => (i, xi_mp ad v)))
theorem xi_lg_lt {L : xi_L} {i : Nat} {v : Value} (h : xi_lg L i = some v) : i < L.length := by
  by_cases hi : i < L.length
  · exact hi
  · unfold xi_lg at h
    rw [List.getElem?_eq_none (by omega)] at h
    cases h
theorem xi_as_mem {ad : Nat → Nat} {L : xi_L} {i : Nat} {v : Value} (h : xi_lg L i = some v) : (i, xi_mp ad v) ∈ xi_as ad L := by
  unfold xi_as
  rw [List.mem_filterMap]
  exact ⟨i, List.mem_range.mpr (xi_lg_lt h), by rw [h]; rfl⟩
theorem xi_as_get {ad : Nat → Nat} {L : xi_L} {q : Nat × Value} (h : q ∈ xi_as ad L) : ∃ v, xi_lg L q.1 = some v ∧ q.2 = xi_mp ad v := by
  unfold xi_as at h
  rw [List.mem_filterMap] at h
  obtain ⟨i, -, hi⟩ := h
  obtain ⟨v, hv, rfl⟩ := Option.map_eq_some_iff.mp hi
  exact ⟨v, hv, rfl⟩
theorem xi_lh.has {ad : Nat → Nat} {ls : Array Slot} {nL : Nat} {L : xi_L} (h : xi_lh ad ls nL L) : lv_has ls nL (xi_as ad L) := by
  refine ⟨h.1, h.2.2.1, fun q hq => ?_⟩
  obtain ⟨v, h1, h2⟩ := xi_as_get hq
  rw [h2]
  exact h.2.2.2 _ _ h1
theorem xi_lg_set {L : xi_L} {j i : Nat} {y : Option Value} : xi_lg (L.set j y) i = if j = i then (if i < L.length then y else none) else xi_lg L i := by
  unfold xi_lg
  rw [List.getElem?_set]
  by_cases h : j = i
  · subst h
    by_cases h2 : j < L.length
    · simp only [h2, if_true]
      cases y <;> rfl
    · simp only [h2, if_true, if_false]
  · simp only [h, if_false]
theorem xi_lh.set1 {ad : Nat → Nat} {ls ls' : Array Slot} {nL j : Nat} {L : xi_L} {v : Value} (h : xi_lh ad ls nL L) (hp : xi_pk L j = true)
    (h' : lv_has ls' nL ((j, xi_mp ad v) :: (xi_as ad L).filter (fun q => !(q.1 == j) && !(q.1 + 1 == j && q.2.category == 2)))) : xi_lh ad ls' nL (L.set j (some v)) := by
  refine ⟨h'.1, by rw [List.length_set]; exact h.2.1, h'.2.1, fun i u hu => ?_⟩
  rw [xi_lg_set] at hu
  by_cases hji : j = i
  · subst hji
    rw [if_pos rfl] at hu
    by_cases hl : j < L.length
    · rw [if_pos hl] at hu
      cases hu
      exact h'.2.2 (j, xi_mp ad v) List.mem_cons_self
    · rw [if_neg hl] at hu
      cases hu
  · rw [if_neg hji] at hu
    refine h'.2.2 (i, xi_mp ad u) (List.mem_cons_of_mem _ (List.mem_filter.mpr ⟨xi_as_mem hu, ?_⟩))
    have h1 : (i == j) = false := by simpa using fun e => hji e.symm
    have h2 : (i + 1 == j && (xi_mp ad u).category == 2) = false := by
      by_cases hij : i + 1 = j
      · subst hij
        unfold xi_pk at hp
        dsimp only at hp
        rw [hu] at hp
        rw [xi_mp_cat]
        cases u <;> first | (simp [Value.category]; done) | (simp at hp)
      · simp [hij]
    simp only [h1, h2]
    rfl
theorem xi_lh.set2 {ad : Nat → Nat} {ls ls' : Array Slot} {nL j : Nat} {L : xi_L} {v : Value} (h : xi_lh ad ls nL L) (hp : xi_pk L j = true)
    (h' : lv_has ls' nL ((j, xi_mp ad v) :: (xi_as ad L).filter (fun q => !(q.1 == j) && (!(q.1 == j + 1) && !(q.1 + 1 == j && q.2.category == 2))))) : xi_lh ad ls' nL ((L.set j (some v)).set (j + 1) none) := by
  refine ⟨h'.1, by rw [List.length_set, List.length_set]; exact h.2.1, h'.2.1, fun i u hu => ?_⟩
  rw [xi_lg_set] at hu
  by_cases hj1 : j + 1 = i
  · rw [if_pos hj1] at hu
    split at hu <;> cases hu
  rw [if_neg hj1, xi_lg_set] at hu
  by_cases hji : j = i
  · subst hji
    rw [if_pos rfl] at hu
    by_cases hl : j < L.length
    · rw [if_pos hl] at hu
      cases hu
      exact h'.2.2 (j, xi_mp ad v) List.mem_cons_self
    · rw [if_neg hl] at hu
      cases hu
  · rw [if_neg hji] at hu
    refine h'.2.2 (i, xi_mp ad u) (List.mem_cons_of_mem _ (List.mem_filter.mpr ⟨xi_as_mem hu, ?_⟩))
    have h1 : (i == j) = false := by simpa using fun e => hji e.symm
    have h3 : (i == j + 1) = false := by simpa using fun e => hj1 e.symm
    have h2 : (i + 1 == j && (xi_mp ad u).category == 2) = false := by
      by_cases hij : i + 1 = j
      · subst hij
        unfold xi_pk at hp
        dsimp only at hp
        rw [hu] at hp
        rw [xi_mp_cat]
        cases u <;> first | (simp [Value.category]; done) | (simp at hp)
      · simp [hij]
    simp only [h1, h2, h3]
    rfl
theorem xi_mk_len : ∀ (bs : List Bool) (L : xi_L), (xi_mk bs L).length = L.length
  | [], _ => rfl
  | _ :: _, [] => rfl
  | b :: bs, y :: L => by
    show (xi_mk bs L).length + 1 = L.length + 1
    rw [xi_mk_len bs L]
theorem xi_mk_lg : ∀ (bs : List Bool) (L : xi_L) (i : Nat) (v : Value), xi_lg (xi_mk bs L) i = some v → xi_lg L i = some v
  | [], _, _, _, h => h
  | _ :: _, [], _, _, h => h
  | b :: bs, y :: L, 0, v, h => by
    cases b with
    | true => exact h
    | false => cases h
  | b :: bs, y :: L, i + 1, v, h => xi_mk_lg bs L i v h
theorem xi_lh.mask {ad : Nat → Nat} {ls : Array Slot} {nL : Nat} {L : xi_L} (h : xi_lh ad ls nL L) (bs : List Bool) : xi_lh ad ls nL (xi_mk bs L) :=
  ⟨h.1, by rw [xi_mk_len]; exact h.2.1, h.2.2.1, fun i v hv => h.2.2.2 i v (xi_mk_lg bs L i v hv)⟩
theorem xi_en_args (ad : Nat → Nat) : ∀ (vs : List Value) (o i : Nat) (v : Value), xi_lg (xi_en vs) i = some v → (o + i, xi_mp ad v) ∈ lv_args o (vs.map (xi_mp ad))
  | [], _, _, _, h => by cases h
  | w :: vs, o, i, v, h => by
    unfold xi_en at h
    show (o + i, xi_mp ad v) ∈ (o, xi_mp ad w) :: lv_args (if (xi_mp ad w).category = 2 then o + 2 else o + 1) (vs.map (xi_mp ad))
    rw [xi_mp_cat]
    cases hc : xi_c1 w with
    | true =>
      rw [hc] at h
      have h1 : w.category = 1 := xi_c1_cat hc
      rw [h1, if_neg (by decide)]
      cases i with
      | zero =>
        have : w = v := by simpa [xi_lg] using h
        subst this
        exact List.mem_cons_self
      | succ i =>
        have h2 : xi_lg (xi_en vs) i = some v := h
        have h3 := xi_en_args ad vs (o + 1) i v h2
        rw [show o + (i + 1) = o + 1 + i by omega]
        exact List.mem_cons_of_mem _ h3
    | false =>
      rw [hc] at h
      have h1 : w.category = 2 := by cases w <;> first | rfl | (simp [xi_c1] at hc)
      rw [h1, if_pos rfl]
      cases i with
      | zero =>
        have : w = v := by simpa [xi_lg] using h
        subst this
        exact List.mem_cons_self
      | succ i =>
        cases i with
        | zero => cases h
        | succ i =>
          have h2 : xi_lg (xi_en vs) i = some v := h
          have h3 := xi_en_args ad vs (o + 2) i v h2
          rw [show o + (i + 1 + 1) = o + 2 + i by omega]
          exact List.mem_cons_of_mem _ h3
theorem xi_en_len (ad : Nat → Nat) : ∀ vs : List Value, (lg_sl (vs.map (xi_mp ad))).length = (xi_en vs).length
  | [] => rfl
  | w :: vs => by
    have ih := xi_en_len ad vs
    unfold lg_sl at ih ⊢
    unfold xi_en
    rw [List.map_cons, List.flatMap_cons, List.length_append, ih, xi_mp_cat]
    cases hc : xi_c1 w with
    | true =>
      rw [xi_c1_cat hc, if_neg (by decide)]
      simp only [List.length_cons, List.length_nil]
      omega
    | false =>
      have h1 : w.category = 2 := by cases w <;> first | rfl | (simp [xi_c1] at hc)
      rw [h1, if_pos rfl]
      simp only [List.length_cons, List.length_nil]
      omega
theorem xi_lh.entry (ad : Nat → Nat) (vs : List Value) {n : Nat} (h : (xi_en vs).length ≤ n) : xi_lh ad ((lg_sl (vs.map (xi_mp ad)) ++ List.replicate (n - (lg_sl (vs.map (xi_mp ad))).length) Slot.unset).toArray) n (xi_pd n vs) := by
  have h0 := lv_entry (vs.map (xi_mp ad)) (n := n) (by rw [xi_en_len]; exact h)
  refine ⟨h0.1, by unfold xi_pd; rw [List.length_append, List.length_replicate]; omega, h0.2.1, fun i v hv => ?_⟩
  have h1 : xi_lg (xi_en vs) i = some v := by
    unfold xi_pd at hv
    unfold xi_lg at hv ⊢
    by_cases hi : i < (xi_en vs).length
    · rw [List.getElem?_append_left hi] at hv
      exact hv
    · rw [List.getElem?_append_right (by omega), List.getElem?_replicate] at hv
      split at hv
      · rename_i u hu
        split at hu <;> cases hu
      · cases hv
  have h2 := xi_en_args ad vs 0 i v h1
  rw [Nat.zero_add] at h2
  exact h0.2.2 _ h2

/-! what each entry of a table must say -/
def xi_Rc (k pc n : Nat) (v : Value) : Prop := (∀ ad : Nat → Nat, xi_mp ad v = v) ∧ ∀ (p : Program) (l : Launch) (e : Env) (R : Room) (s : State) (m : MethodId) (args : Array Value) (below : List Frame) (meth : Method) (c : Code) (H : Heap) (locs : List Loc) (Q : State → Prop) (ls : Array Slot) (rest : List Value), CallFix p m c (mC k) (mL k) s args (mW k) (mO k) → W p l e R s m args below meth c H locs 0 0 Q (F0 m (pc + n) ls (v :: rest)) → W p l e R s m args below meth c H locs 0 0 Q (F0 m pc ls rest)
def xi_Rl (k pc n j kd : Nat) : Prop := ∀ (p : Program) (l : Launch) (e : Env) (R : Room) (s : State) (m : MethodId) (args : Array Value) (below : List Frame) (meth : Method) (c : Code) (H : Heap) (locs : List Loc) (Q : State → Prop) (ls : Array Slot) (rest : List Value) (v : Value), xi_kd v = kd → CallFix p m c (mC k) (mL k) s args (mW k) (mO k) → ls[j]? = some (.val v) → W p l e R s m args below meth c H locs 0 0 Q (F0 m (pc + n) ls (v :: rest)) → W p l e R s m args below meth c H locs 0 0 Q (F0 m pc ls rest)
def xi_R1 (k pc n j kd : Nat) : Prop := ∀ (p : Program) (l : Launch) (e : Env) (R : Room) (s : State) (m : MethodId) (args : Array Value) (below : List Frame) (meth : Method) (c : Code) (H : Heap) (locs : List Loc) (Q : State → Prop) (ls : Array Slot) (rest : List Value) (v : Value) (lv : List (Nat × Value)), xi_kd v = kd → CallFix p m c (mC k) (mL k) s args (mW k) (mO k) → lv_has ls (mL k) lv → j < mL k → (∀ ls' : Array Slot, lv_has ls' (mL k) ((j, v) :: lv.filter (fun q => !(q.1 == j) && !(q.1 + 1 == j && q.2.category == 2))) → W p l e R s m args below meth c H locs 0 0 Q (F0 m (pc + n) ls' rest)) → W p l e R s m args below meth c H locs 0 0 Q (F0 m pc ls (v :: rest))
def xi_R2 (k pc n j : Nat) : Prop := ∀ (p : Program) (l : Launch) (e : Env) (R : Room) (s : State) (m : MethodId) (args : Array Value) (below : List Frame) (meth : Method) (c : Code) (H : Heap) (locs : List Loc) (Q : State → Prop) (ls : Array Slot) (rest : List Value) (y : Int64) (lv : List (Nat × Value)), CallFix p m c (mC k) (mL k) s args (mW k) (mO k) → lv_has ls (mL k) lv → j + 1 < mL k → (∀ ls' : Array Slot, lv_has ls' (mL k) ((j, .long y) :: lv.filter (fun q => !(q.1 == j) && (!(q.1 == j + 1) && !(q.1 + 1 == j && q.2.category == 2)))) → W p l e R s m args below meth c H locs 0 0 Q (F0 m (pc + n) ls' rest)) → W p l e R s m args below meth c H locs 0 0 Q (F0 m pc ls (.long y :: rest))
def xi_swt (y : Int32) : List (Int × Int) → Int → Int
  | [], d => d
  | (a, t) :: r, d => if y.toInt = a then t else xi_swt y r d
def xi_Rw (k pc : Nat) (ps : List (Int × Int)) (d : Int) : Prop := ∀ (p : Program) (l : Launch) (e : Env) (R : Room) (s : State) (m : MethodId) (args : Array Value) (below : List Frame) (meth : Method) (c : Code) (H : Heap) (locs : List Loc) (Q : State → Prop) (ls : Array Slot) (rest : List Value) (y : Int32), CallFix p m c (mC k) (mL k) s args (mW k) (mO k) → W p l e R s m args below meth c H locs 0 0 Q (F0 m (xi_swt y ps d).toNat ls rest) → W p l e R s m args below meth c H locs 0 0 Q (F0 m pc ls (.int y :: rest))
def xi_Rf (k pc ci j : Nat) : Prop := ∀ (p : Program) (l : Launch) (e : Env) (R : Room) (s : State) (m : MethodId) (args : Array Value) (below : List Frame) (meth : Method) (c : Code) (H : Heap) (locs : List Loc) (Q : State → Prop) (ls : Array Slot) (rest : List Value) (D : va_G) (tys : List (ClassId × FieldType)) (ws : va_W) (q0 a : Nat) (fs : List Value) (v : Value), CallFix p m c (mC k) (mL k) s args (mW k) (mO k) → va_K D vwCl tys s → va_P D vwCl ws H → ws[q0]? = some (a, .inr (ci, fs)) → fs[j]? = some v → W p l e R s m args below meth c H locs 0 0 Q (F0 m (pc + 3) ls (v :: rest)) → W p l e R s m args below meth c H locs 0 0 Q (F0 m pc ls (.ref a :: rest))
def xi_Rp (b : Bool) (k pc ci j : Nat) : Prop := ∀ (p : Program) (l : Launch) (e : Env) (R : Room) (s : State) (m : MethodId) (args : Array Value) (below : List Frame) (meth : Method) (c : Code) (H : Heap) (locs : List Loc) (Q : State → Prop) (ls : Array Slot) (rest : List Value) (D : va_G) (tys : List (ClassId × FieldType)) (ws : va_W) (A : Nat → Prop) (H0 : Heap) (q0 a : Nat) (fs : List Value) (y : Int32), (b = true → y = 0 ∨ y = 1) → CallFix p m c (mC k) (mL k) s args (mW k) (mO k) → va_K D vwCl tys s → va_P D vwCl ws H → va_D A ws → va_S A H0 H locs → ws[q0]? = some (a, .inr (ci, fs)) → j < fs.length →
  (∀ (H1 : Heap) (locs1 : List Loc), va_P D vwCl (ws.set q0 (a, .inr (ci, fs.set j (.int y)))) H1 → va_D A (ws.set q0 (a, .inr (ci, fs.set j (.int y)))) → va_S A H0 H1 locs1 → W p l e R s m args below meth c H1 locs1 0 0 Q (F0 m (pc + 3) ls rest)) → W p l e R s m args below meth c H locs 0 0 Q (F0 m pc ls (.int y :: .ref a :: rest))
def xi_Rg (k pc r : Nat) : Prop := ∀ (p : Program) (l : Launch) (e : Env) (R : Room) (s : State) (m : MethodId) (args : Array Value) (below : List Frame) (meth : Method) (c : Code) (H : Heap) (locs : List Loc) (Q : State → Prop) (ls : Array Slot) (rest : List Value) (ad : Nat → Nat) (A : Nat → Prop), CallFix p m c (mC k) (mL k) s args (mW k) (mO k) → xi_Z ad A s → va_S A s.heap H locs → W p l e R s m args below meth c H locs 0 0 Q (F0 m (pc + 3) ls (.ref (ad r) :: rest)) → W p l e R s m args below meth c H locs 0 0 Q (F0 m pc ls rest)
def xi_R0 (k pc : Nat) : Prop := ∀ (p : Program) (l : Launch) (e : Env) (R : Room) (s : State) (m : MethodId) (args : Array Value) (below : List Frame) (meth : Method) (c : Code) (H : Heap) (locs : List Loc) (Q : State → Prop) (ls : Array Slot) (rest : List Value) (y z : Int32), CallFix p m c (mC k) (mL k) s args (mW k) (mO k) → ls.size = mL k → 1 ≤ R.frames → 64 ≤ R.locals → (rest.map fun v => v.category).sum ≤ 8 → W p l e R s m args below meth c H locs 0 0 Q (F0 m (pc + 3) ls (.int (if y < z then z else y) :: rest)) → W p l e R s m args below meth c H locs 0 0 Q (F0 m pc ls (.int z :: .int y :: rest))
def xi_Ra (k pc : Nat) : Prop := ∀ (p : Program) (l : Launch) (e : Env) (R : Room) (s : State) (m : MethodId) (args : Array Value) (below : List Frame) (meth : Method) (c : Code) (H : Heap) (locs : List Loc) (Q : State → Prop) (ls : Array Slot) (rest : List Value) (y z : Int64), CallFix p m c (mC k) (mL k) s args (mW k) (mO k) → ls.size = mL k → 1 ≤ R.frames → 64 ≤ R.locals → (rest.map fun v => v.category).sum ≤ 8 → W p l e R s m args below meth c H locs 0 0 Q (F0 m (pc + 3) ls (.long (if z < y then y else z) :: rest)) → W p l e R s m args below meth c H locs 0 0 Q (F0 m pc ls (.long z :: .long y :: rest))
def xi_Rb (k pc : Nat) : Prop := ∀ (p : Program) (l : Launch) (e : Env) (R : Room) (s : State) (m : MethodId) (args : Array Value) (below : List Frame) (meth : Method) (c : Code) (H : Heap) (locs : List Loc) (Q : State → Prop) (ls : Array Slot) (rest : List Value) (y z : Int64), CallFix p m c (mC k) (mL k) s args (mW k) (mO k) → ls.size = mL k → 1 ≤ R.frames → 64 ≤ R.locals → (rest.map fun v => v.category).sum ≤ 8 → W p l e R s m args below meth c H locs 0 0 Q (F0 m (pc + 3) ls (.long (if z < y then z else y) :: rest)) → W p l e R s m args below meth c H locs 0 0 Q (F0 m pc ls (.long z :: .long y :: rest))
def xi_Ry (k pc : Nat) : Prop := ∀ (p : Program) (l : Launch) (e : Env) (R : Room) (s : State) (m : MethodId) (args : Array Value) (below : List Frame) (meth : Method) (c : Code) (H : Heap) (locs : List Loc) (Q : State → Prop) (ls : Array Slot) (rest : List Value) (D : va_G) (tys : List (ClassId × FieldType)) (ws : va_W) (A : Nat → Prop) (H0 : Heap) (q0 q1 t0 t1 a0 a : Nat) (c0 c1 : ClassId) (n0 n1 : Nat) (f g : Nat → Int32) (sp dp n : Int32), CallFix p m c (mC k) (mL k) s args (mW k) (mO k) → ls.size = mL k → 1 ≤ R.frames → 64 ≤ R.locals → (rest.map fun v => v.category).sum ≤ 8 → va_K D vwCl tys s → va_P D vwCl ws H → va_D A ws → va_S A H0 H locs →
  ws[q0]? = some (a0, .inl (c0, n0, .inl f)) → ws[q1]? = some (a, .inl (c1, n1, .inl g)) → tys[t0]? = some (c0, .int) → tys[t1]? = some (c1, .int) → ¬ sp < 0 → ¬ dp < 0 → ¬ n < 0 → sp.toNatClampNeg + n.toNatClampNeg ≤ n0 → dp.toNatClampNeg + n.toNatClampNeg ≤ n1 →
  (∀ (H1 : Heap) (locs1 : List Loc), va_P D vwCl (ws.set q1 (a, .inl (c1, n1, .inl (va_cpy f g sp.toNatClampNeg dp.toNatClampNeg n.toNatClampNeg)))) H1 → va_D A (ws.set q1 (a, .inl (c1, n1, .inl (va_cpy f g sp.toNatClampNeg dp.toNatClampNeg n.toNatClampNeg)))) → va_S A H0 H1 locs1 → W p l e R s m args below meth c H1 locs1 0 0 Q (F0 m (pc + 3) ls rest)) → W p l e R s m args below meth c H locs 0 0 Q (F0 m pc ls (.int n :: .int dp :: .ref a :: .int sp :: .ref a0 :: rest))
def xi_Rv (k pc k' ci n : Nat) : Prop := mL k' ≤ 45 ∧ (∃ q, vwCl[ci]? = some q ∧ q.1 = mO k') ∧ ∀ (p : Program) (l : Launch) (e : Env) (R : Room) (s : State) (m : MethodId) (args : Array Value) (below : List Frame) (meth : Method) (c : Code) (H : Heap) (locs : List Loc) (Q : State → Prop) (ls : Array Slot) (rest : List Value) (rm : Room) (Pc : Array Value → State → Prop) (Qc : Array Value → State → Outcome → State → Prop) (free : Addr → Prop) (b : Addr) (As : List Value), CallFix p m c (mC k) (mL k) s args (mW k) (mO k) → Met l (mY k') (mW k') rm Pc Qc 0 0 free → rm.cells = 0 → rm.slots = 0 → rm.frames + 1 ≤ R.frames → 8 + (mL k' + 11) + rm.locals ≤ R.locals → PreV s H (mO k') b Pc As → As.length + 1 = n → ls.size = mL k → (rest.map fun v => v.category).sum ≤ 8 →
  va_Run p l e R s m args below meth c H locs 0 0 0 0 (F0 m pc ls (As.reverse ++ .ref b :: rest)) rest (Qc (Value.ref b :: As).toArray) free
def xi_Rs (k pc k' n : Nat) : Prop := mL k' ≤ 45 ∧ ∀ (p : Program) (l : Launch) (e : Env) (R : Room) (s : State) (m : MethodId) (args : Array Value) (below : List Frame) (meth : Method) (c : Code) (H : Heap) (locs : List Loc) (Q : State → Prop) (ls : Array Slot) (rest : List Value) (rm : Room) (Pc : Array Value → State → Prop) (Qc : Array Value → State → Outcome → State → Prop) (free : Addr → Prop) (As : List Value), CallFix p m c (mC k) (mL k) s args (mW k) (mO k) → Met l (mY k') (mW k') rm Pc Qc 0 0 free → rm.cells = 0 → rm.slots = 0 → rm.frames + 1 ≤ R.frames → 8 + (mL k' + 11) + rm.locals ≤ R.locals → PreS s H Pc As → As.length = n → ls.size = mL k → (rest.map fun v => v.category).sum ≤ 8 →
  va_Run p l e R s m args below meth c H locs 0 0 0 0 (F0 m pc ls (As.reverse ++ rest)) rest (Qc As.toArray) free
def xi_rk (kd : Nat) : Option FieldType := match kd with
  | 0 => some .int
  | 1 => some .boolean
  | _ => some .char
def xi_ok (k pc : Nat) (q : xi_E) : Prop := match q.1 with
  | .ldc n => xi_Rc k pc n q.2.1
  | .iload j => xi_Rl k pc (xi_n q.2.1) j 0
  | .lload j => xi_Rl k pc (xi_n q.2.1) j 1
  | .aload j => xi_Rl k pc (xi_n q.2.1) j 2
  | .istore j => xi_R1 k pc (xi_n q.2.1) j 0
  | .astore j => xi_R1 k pc (xi_n q.2.1) j 2
  | .lstore j => xi_R2 k pc (xi_n q.2.1) j
  | .iinc j _ => ∃ z : Int, decode (mC k) pc = .ok (.iinc j z, 3) ∧ q.2.1 = .int (Int32.ofInt z)
  | .ifCond c _ => ∃ off : Int, decode (mC k) pc = .ok (.ifCond c off, 3) ∧ (pc : Int) + off = (xi_n q.2.1 : Int)
  | .if_icmp c _ => ∃ off : Int, decode (mC k) pc = .ok (.if_icmp c off, 3) ∧ (pc : Int) + off = (xi_n q.2.1 : Int)
  | .goto _ => ∃ off : Int, decode (mC k) pc = .ok (.goto off, 3) ∧ (pc : Int) + off = (xi_n q.2.1 : Int)
  | .lookupswitch d ps => xi_Rw k pc ps.toList d
  | .getfield ci => xi_Rf k pc ci (xi_n q.2.1)
  | .putfield ci => xi_Rp false k pc ci (xi_n q.2.1)
  | .putstatic ci => xi_Rp true k pc ci (xi_n q.2.1)
  | .getstatic r => xi_Rg k pc r
  | .invokedynamic c => (match c with
    | 0 => xi_R0 k pc
    | 1 => xi_Ra k pc
    | 2 => xi_Rb k pc
    | _ => xi_Ry k pc)
  | .invokeinterface k' ci => xi_Rv k pc k' ci (xi_n q.2.1)
  | .invokestatic k' => xi_Rs k pc k' (xi_n q.2.1)
  | .ireturn => decode (mC k) pc = .ok (.ireturn, 1) ∧ mR k = xi_rk (xi_n q.2.1)
  | .return_ => decode (mC k) pc = .ok (.return_, 1) ∧ mR k = none
  | i => decode (mC k) pc = .ok (i, 1)
/-! contracts -/
def xi_rm (d : Nat) : Room := { frames := d, cells := 0, slots := 0, locals := 64 * d }
def xi_Pc (D : va_G) (ad : Nat → Nat) (ca : Nat → ClassId) (vs : List Value) (aw : xi_W) (sz : Nat) : Array Value → State → Prop := va_Pc (vs.map (xi_mp ad)) (fun U => U.heap.size = sz ∧ va_P D vwCl (xi_rl ad ca aw) U.heap ∧ va_K D vwCl (xi_tyL ca) U ∧ va_D (fun _ => True) (xi_rl ad ca aw) ∧ xi_Z ad (va_A (xi_rl ad ca aw) sz) U)
def xi_Qc (D : va_G) (ad : Nat → Nat) (ca : Nat → ClassId) (N : Nat) (x : xi_R) (A : Nat → Prop) : Array Value → State → Outcome → State → Prop := fun _ st o t => (o = .returned (x.1.map (xi_mp ad)) ∧ x.2.length = N ∧ va_P D vwCl (xi_rl ad ca x.2) t.heap) ∧ va_F A st t
def xi_Con (l : Launch) (d k : Nat) (vs : List Value) (aw : xi_W) (x : xi_R) : Prop := ∀ (D : va_G) (ad : Nat → Nat) (ca : Nat → ClassId) (sz : Nat), Met l (mY k) (mW k) (xi_rm d) (xi_Pc D ad ca vs aw sz) (xi_Qc D ad ca aw.length x (va_A (xi_rl ad ca aw) sz)) 0 0 (va_A (xi_rl ad ca aw) sz)
theorem xi_blind (D : va_G) (ad : Nat → Nat) (ca : Nat → ClassId) (vs : List Value) (aw : xi_W) (sz : Nat) : FrameBlind (xi_Pc D ad ca vs aw sz) := by
  intro a U g mk q
  obtain ⟨q0, q1, qP, qK, qD, qZ⟩ := q
  exact ⟨q0, q1, qP, va_K.moved (u := U) (U := U.calling g mk a) (Vm.Alike.refl U.vm) qK, qD, xi_Z.calling qZ⟩
def xi_G (p : Program) (l : Launch) (e : Env) (R : Room) (s : State) (m : MethodId) (args : Array Value) (below : List Frame) (meth : Method) (c : Code) (D : va_G) (ad : Nat → Nat) (ca : Nat → ClassId) (A : Nat → Prop) (Q : State → Prop) (N nL : Nat) (x : xi_R) (pc : Nat) (L : xi_L) (st : List Value) (aw : xi_W) : Prop :=
  ∀ (H : Heap) (locs : List Loc) (ls : Array Slot), xi_lh ad ls nL L → va_P D vwCl (xi_rl ad ca aw) H → va_D A (xi_rl ad ca aw) → va_S A s.heap H locs → aw.length = N → W p l e R s m args below meth c H locs 0 0 Q (F0 m pc ls (st.map (xi_mp ad)))
section XISTEP
variable {p : Program} {l : Launch} {e : Env} {R : Room} {s : State} {m : MethodId} {args : Array Value} {below : List Frame} {meth : Method} {c : Code} {D : va_G} {ad : Nat → Nat} {ca : Nat → ClassId} {A : Nat → Prop} {Q : State → Prop} {x : xi_R} {ct : xi_K} {cal : xi_F} {N k pc : Nat} {L : xi_L} {st : List Value} {aw : xi_W} {H : Heap} {locs : List Loc} {ls : Array Slot}
theorem xi_o2_inv {f : Int32 → Int32 → Int32} {st' : List Value} (h : xi_o2 f st = some st') : ∃ y z r, st = .int z :: .int y :: r ∧ st' = .int (f y z) :: r := by
  unfold xi_o2 at h
  split at h
  · cases h; exact ⟨_, _, _, rfl, rfl⟩
  · cases h
theorem xi_o1_inv {f : Int32 → Value} {st' : List Value} (h : xi_o1 f st = some st') : ∃ y r, st = .int y :: r ∧ st' = f y :: r := by
  unfold xi_o1 at h
  split at h
  · cases h; exact ⟨_, _, rfl, rfl⟩
  · cases h
theorem xi_q1_inv {f : Int64 → Value} {st' : List Value} (h : xi_q1 f st = some st') : ∃ y r, st = .long y :: r ∧ st' = f y :: r := by
  unfold xi_q1 at h
  split at h
  · cases h; exact ⟨_, _, rfl, rfl⟩
  · cases h
theorem xi_q2_inv {f : Int64 → Int64 → Int64} {st' : List Value} (h : xi_q2 f st = some st') : ∃ y z r, st = .long z :: .long y :: r ∧ st' = .long (f y z) :: r := by
  unfold xi_q2 at h
  split at h
  · cases h; exact ⟨_, _, _, rfl, rfl⟩
  · cases h
theorem xi_qs_inv {f : Int64 → Int32 → Int64} {st' : List Value} (h : xi_qs f st = some st') : ∃ y z r, st = .int z :: .long y :: r ∧ st' = .long (f y z) :: r := by
  unfold xi_qs at h
  split at h
  · cases h; exact ⟨_, _, _, rfl, rfl⟩
  · cases h
theorem xi_du_inv {st' : List Value} (h : xi_du st = some st') : ∃ v r, xi_c1 v = true ∧ st = v :: r ∧ st' = v :: v :: r := by
  unfold xi_du at h
  split at h
  · split at h
    · rename_i h1
      cases h; exact ⟨_, _, h1, rfl, rfl⟩
    · cases h
  · cases h
theorem xi_po_inv {st' : List Value} (h : xi_po st = some st') : ∃ v r, xi_c1 v = true ∧ st = v :: r ∧ st' = r := by
  unfold xi_po at h
  split at h
  · split at h
    · rename_i h1
      cases h; exact ⟨_, _, h1, rfl, rfl⟩
    · cases h
  · cases h
theorem xi_dx_inv {st' : List Value} (h : xi_dx st = some st') : ∃ v w r, xi_c1 v = true ∧ xi_c1 w = true ∧ st = v :: w :: r ∧ st' = v :: w :: v :: r := by
  unfold xi_dx at h
  split at h
  · split at h
    · rename_i h1
      split at h
      · rename_i h2
        cases h; exact ⟨_, _, _, h1, h2, rfl, rfl⟩
      · cases h
    · cases h
  · cases h
theorem xi_d2_inv {st' : List Value} (h : xi_d2 st = some st') : ∃ v w r, xi_c1 v = true ∧ xi_c1 w = true ∧ st = v :: w :: r ∧ st' = v :: w :: v :: w :: r := by
  unfold xi_d2 at h
  split at h
  · split at h
    · rename_i h1
      split at h
      · rename_i h2
        cases h; exact ⟨_, _, _, h1, h2, rfl, rfl⟩
      · cases h
    · cases h
  · cases h
theorem xi_sop_ok {i : Jvm.ClassFile.Instr} {st' : List Value} {cc : ByteArray} (hx : p.tables.exec = Jvm.exec) (hb : c.code = cc) (hd : decode cc pc = .ok (i, 1)) (h : xi_sop i st = some st')
    (kk : W p l e R s m args below meth c H locs 0 0 Q (F0 m (pc + 1) ls (st'.map (xi_mp ad)))) : W p l e R s m args below meth c H locs 0 0 Q (F0 m pc ls (st.map (xi_mp ad))) := by
  cases i with
  | iadd => obtain ⟨y, z, r, rfl, rfl⟩ := xi_o2_inv h; exact lv_iadd hx hb hd kk
  | isub => obtain ⟨y, z, r, rfl, rfl⟩ := xi_o2_inv h; exact lv_isub hx hb hd kk
  | imul => obtain ⟨y, z, r, rfl, rfl⟩ := xi_o2_inv h; exact lv_imul hx hb hd kk
  | iand => obtain ⟨y, z, r, rfl, rfl⟩ := xi_o2_inv h; exact lv_iand hx hb hd kk
  | ior => obtain ⟨y, z, r, rfl, rfl⟩ := xi_o2_inv h; exact lv_ior hx hb hd kk
  | ixor => obtain ⟨y, z, r, rfl, rfl⟩ := xi_o2_inv h; exact lv_ixor hx hb hd kk
  | ishl => obtain ⟨y, z, r, rfl, rfl⟩ := xi_o2_inv h; exact lv_ishl hx hb hd kk
  | ishr => obtain ⟨y, z, r, rfl, rfl⟩ := xi_o2_inv h; exact lv_ishr hx hb hd kk
  | ineg => obtain ⟨y, r, rfl, rfl⟩ := xi_o1_inv h; exact lv_ineg hx hb hd kk
  | i2l => obtain ⟨y, r, rfl, rfl⟩ := xi_o1_inv h; exact lv_i2l hx hb hd rfl kk
  | i2c => obtain ⟨y, r, rfl, rfl⟩ := xi_o1_inv h; exact lv_i2c hx hb hd rfl kk
  | l2i => obtain ⟨y, r, rfl, rfl⟩ := xi_q1_inv h; exact lv_l2i hx hb hd rfl kk
  | ladd => obtain ⟨y, z, r, rfl, rfl⟩ := xi_q2_inv h; exact lv_ladd hx hb hd kk
  | lsub => obtain ⟨y, z, r, rfl, rfl⟩ := xi_q2_inv h; exact lv_lsub hx hb hd kk
  | lmul => obtain ⟨y, z, r, rfl, rfl⟩ := xi_q2_inv h; exact lv_lmul hx hb hd kk
  | land => obtain ⟨y, z, r, rfl, rfl⟩ := xi_q2_inv h; exact lv_land hx hb hd kk
  | lor => obtain ⟨y, z, r, rfl, rfl⟩ := xi_q2_inv h; exact lv_lor hx hb hd kk
  | lushr => obtain ⟨y, z, r, rfl, rfl⟩ := xi_qs_inv h; exact lv_lushr hx hb hd rfl kk
  | lshl => obtain ⟨y, z, r, rfl, rfl⟩ := xi_qs_inv h; exact lv_lshl hx hb hd rfl kk
  | lshr => obtain ⟨y, z, r, rfl, rfl⟩ := xi_qs_inv h; exact lv_lshr hx hb hd rfl kk
  | dup => obtain ⟨v, r, h1, rfl, rfl⟩ := xi_du_inv h; exact lv_dup hx hb hd ((xi_mp_cat ad v).trans (xi_c1_cat h1)) kk
  | pop => obtain ⟨v, r, h1, rfl, rfl⟩ := xi_po_inv h; exact lv_pop hx hb hd ((xi_mp_cat ad v).trans (xi_c1_cat h1)) kk
  | dup_x1 => obtain ⟨v, w, r, h1, h2, rfl, rfl⟩ := xi_dx_inv h; exact lv_dup_x1 hx hb hd ((xi_mp_cat ad v).trans (xi_c1_cat h1)) ((xi_mp_cat ad w).trans (xi_c1_cat h2)) kk
  | dup2 => obtain ⟨v, w, r, h1, h2, rfl, rfl⟩ := xi_d2_inv h; exact lv_dup2_11 hx hb hd ((xi_mp_cat ad v).trans (xi_c1_cat h1)) ((xi_mp_cat ad w).trans (xi_c1_cat h2)) kk
  | _ => exact xi_no (show (none : Option (List Value)) = some st' from h)
theorem xi_sd_sop {nL : Nat} {i : Jvm.ClassFile.Instr} {cc : ByteArray} (hx : p.tables.exec = Jvm.exec) (hb : c.code = cc) (hct : ∀ (pc : Nat) (L : xi_L) (st : List Value) (aw : xi_W), ct pc L st aw = some x → xi_G p l e R s m args below meth c D ad ca A Q N nL x pc L st aw) (hd : decode cc pc = .ok (i, 1)) (h : xi_so ct i pc L st aw = some x) : xi_G p l e R s m args below meth c D ad ca A Q N nL x pc L st aw := by
  unfold xi_so at h
  cases hs : xi_sop i st with
  | none => rw [hs] at h; cases h
  | some st' =>
    rw [hs] at h
    have hg := hct _ _ _ _ h
    exact fun H locs ls hl hP hD hS hN => xi_sop_ok hx hb hd hs (hg H locs ls hl hP hD hS hN)
theorem xi_sd_ld {nL kd n j : Nat} (hC : CallFix p m c (mC k) (mL k) s args (mW k) (mO k)) (hct : ∀ (pc : Nat) (L : xi_L) (st : List Value) (aw : xi_W), ct pc L st aw = some x → xi_G p l e R s m args below meth c D ad ca A Q N nL x pc L st aw) (hr : xi_Rl k pc n j kd) (h : xi_ld ct kd n j pc L st aw = some x) : xi_G p l e R s m args below meth c D ad ca A Q N nL x pc L st aw := by
  unfold xi_ld at h
  split at h
  · rename_i v hv
    split at h
    · rename_i hk
      have hg := hct _ _ _ _ h
      intro H locs ls hl hP hD hS hN
      exact hr p l e R s m args below meth c H locs Q ls _ (xi_mp ad v) (by rw [xi_mp_kd]; exact Nat.eq_of_beq_eq_true hk) hC (hl.2.2.2 j v hv) (hg H locs ls hl hP hD hS hN)
    · cases h
  · cases h
theorem xi_sd_s1 {kd n j : Nat} (hC : CallFix p m c (mC k) (mL k) s args (mW k) (mO k)) (hct : ∀ (pc : Nat) (L : xi_L) (st : List Value) (aw : xi_W), ct pc L st aw = some x → xi_G p l e R s m args below meth c D ad ca A Q N (mL k) x pc L st aw) (hr : xi_R1 k pc n j kd) (h : xi_s1 ct kd n j pc L st aw = some x) : xi_G p l e R s m args below meth c D ad ca A Q N (mL k) x pc L st aw := by
  unfold xi_s1 at h
  split at h
  · rename_i v r
    split at h
    · rename_i hk
      split at h
      · rename_i hp
        split at h
        · rename_i hlt
          have hg := hct _ _ _ _ h
          intro H locs ls hl hP hD hS hN
          refine hr p l e R s m args below meth c H locs Q ls _ (xi_mp ad v) (xi_as ad L) (by rw [xi_mp_kd]; exact Nat.eq_of_beq_eq_true hk) hC hl.has ?_ (fun ls' hl' => ?_)
          · have : j < L.length := Nat.le_of_ble_eq_true hlt
            rw [hl.2.1] at this
            exact this
          · exact hg H locs ls' (hl.set1 hp hl') hP hD hS hN
        · cases h
      · cases h
    · cases h
  · cases h
theorem xi_sd_s2 {n j : Nat} (hC : CallFix p m c (mC k) (mL k) s args (mW k) (mO k)) (hct : ∀ (pc : Nat) (L : xi_L) (st : List Value) (aw : xi_W), ct pc L st aw = some x → xi_G p l e R s m args below meth c D ad ca A Q N (mL k) x pc L st aw) (hr : xi_R2 k pc n j) (h : xi_s2 ct n j pc L st aw = some x) : xi_G p l e R s m args below meth c D ad ca A Q N (mL k) x pc L st aw := by
  unfold xi_s2 at h
  split at h
  · rename_i y r
    split at h
    · rename_i hp
      split at h
      · rename_i hlt
        have hg := hct _ _ _ _ h
        intro H locs ls hl hP hD hS hN
        refine hr p l e R s m args below meth c H locs Q ls _ y (xi_as ad L) hC hl.has ?_ (fun ls' hl' => ?_)
        · have : j + 1 < L.length := Nat.le_of_ble_eq_true hlt
          rw [hl.2.1] at this
          exact this
        · exact hg H locs ls' (hl.set2 (v := .long y) hp hl') hP hD hS hN
      · cases h
    · cases h
  · cases h
theorem xi_sd_ic {j : Nat} {v : Value} (hC : CallFix p m c (mC k) (mL k) s args (mW k) (mO k)) (hct : ∀ (pc : Nat) (L : xi_L) (st : List Value) (aw : xi_W), ct pc L st aw = some x → xi_G p l e R s m args below meth c D ad ca A Q N (mL k) x pc L st aw) (hr : ∃ z : Int, decode (mC k) pc = .ok (.iinc j z, 3) ∧ v = .int (Int32.ofInt z)) (h : xi_ic ct v j pc L st aw = some x) : xi_G p l e R s m args below meth c D ad ca A Q N (mL k) x pc L st aw := by
  obtain ⟨z, hd, rfl⟩ := hr
  unfold xi_ic at h
  dsimp only at h
  split at h
  · rename_i y hy
    split at h
    · rename_i hp
      have hg := hct _ _ _ _ h
      intro H locs ls hl hP hD hS hN
      have hmem : (j, Value.int y) ∈ xi_as ad L := xi_as_mem (ad := ad) hy
      obtain ⟨q, hq⟩ := List.getElem?_of_mem hmem
      refine lv_iinc hC.1 hC.2.1 hd hl.has hq rfl ?_ rfl (fun ls' hl' => ?_)
      · have := xi_lg_lt hy
        rw [hl.2.1] at this
        exact this
      · exact hg H locs ls' (hl.set1 (v := .int (y + Int32.ofInt z)) hp hl') hP hD hS hN
    · cases h
  · cases h
theorem xi_cd_ok {cn : Jvm.ClassFile.Cond} {y z : Int32} {a b : Option xi_R} {P : Prop} (h : xi_cd cn y z a b = some x)
    (ha : a = some x → P) (hb : b = some x → P) : P := by
  cases cn <;> (unfold xi_cd at h; dsimp only at h; split at h) <;> first | exact ha h | exact hb h
theorem xi_nle {y z : Int32} : ¬ z ≤ y ↔ y < z := Int32.not_le
theorem xi_sd_if0a {nL t : Nat} {cn : Jvm.ClassFile.Cond} {y : Int32} {r : List Value} (hC : CallFix p m c (mC k) (mL k) s args (mW k) (mO k)) (hct : ∀ (pc : Nat) (L : xi_L) (st : List Value) (aw : xi_W), ct pc L st aw = some x → xi_G p l e R s m args below meth c D ad ca A Q N nL x pc L st aw) (hr : ∃ off : Int, decode (mC k) pc = .ok (.ifCond cn off, 3) ∧ (pc : Int) + off = (t : Int)) (h : xi_cd cn y 0 (ct t L r aw) (ct (pc + 3) L r aw) = some x) : xi_G p l e R s m args below meth c D ad ca A Q N nL x pc L (.int y :: r) aw := by
  obtain ⟨off, hd, ht⟩ := hr
  intro H locs ls hl hP hD hS hN
  have kt := fun h1 => hct t L r aw h1 H locs ls hl hP hD hS hN
  have kf := fun h1 => hct (pc + 3) L r aw h1 H locs ls hl hP hD hS hN
  cases cn with
  | eq =>
    refine lv_if_eq hC.1 hC.2.1 hd ht (fun q => kt ?_) (fun q => kf ?_)
    · unfold xi_cd at h; dsimp only at h; rw [if_pos q] at h; exact h
    · unfold xi_cd at h; dsimp only at h; rw [if_neg q] at h; exact h
  | ne =>
    refine lv_if_ne hC.1 hC.2.1 hd ht (fun q => kt ?_) (fun q => kf ?_)
    · unfold xi_cd at h; dsimp only at h; rw [if_neg q] at h; exact h
    · unfold xi_cd at h; dsimp only at h; rw [if_pos q] at h; exact h
  | lt =>
    refine lv_if_lt hC.1 hC.2.1 hd ht (fun q => kt ?_) (fun q => kf ?_)
    · unfold xi_cd at h; dsimp only at h; rw [if_pos q] at h; exact h
    · unfold xi_cd at h; dsimp only at h; rw [if_neg q] at h; exact h
  | ge =>
    refine lv_if_ge hC.1 hC.2.1 hd ht (fun q => kt ?_) (fun q => kf ?_)
    · unfold xi_cd at h; dsimp only at h; rw [if_neg (Int32.not_lt.mpr q)] at h; exact h
    · unfold xi_cd at h; dsimp only at h; rw [if_pos (xi_nle.mp q)] at h; exact h
  | gt =>
    refine lv_if_gt hC.1 hC.2.1 hd ht (fun q => kt ?_) (fun q => kf ?_)
    · unfold xi_cd at h; dsimp only at h; rw [if_pos q] at h; exact h
    · unfold xi_cd at h; dsimp only at h; rw [if_neg q] at h; exact h
  | le =>
    refine lv_if_le hC.1 hC.2.1 hd ht (fun q => kt ?_) (fun q => kf ?_)
    · unfold xi_cd at h; dsimp only at h; rw [if_neg (Int32.not_lt.mpr q)] at h; exact h
    · unfold xi_cd at h; dsimp only at h; rw [if_pos (xi_nle.mp q)] at h; exact h
theorem xi_sd_if2a {nL t : Nat} {cn : Jvm.ClassFile.Cond} {y z : Int32} {r : List Value} (hC : CallFix p m c (mC k) (mL k) s args (mW k) (mO k)) (hct : ∀ (pc : Nat) (L : xi_L) (st : List Value) (aw : xi_W), ct pc L st aw = some x → xi_G p l e R s m args below meth c D ad ca A Q N nL x pc L st aw) (hr : ∃ off : Int, decode (mC k) pc = .ok (.if_icmp cn off, 3) ∧ (pc : Int) + off = (t : Int)) (h : xi_cd cn y z (ct t L r aw) (ct (pc + 3) L r aw) = some x) : xi_G p l e R s m args below meth c D ad ca A Q N nL x pc L (.int z :: .int y :: r) aw := by
  obtain ⟨off, hd, ht⟩ := hr
  intro H locs ls hl hP hD hS hN
  have kt := fun h1 => hct t L r aw h1 H locs ls hl hP hD hS hN
  have kf := fun h1 => hct (pc + 3) L r aw h1 H locs ls hl hP hD hS hN
  cases cn with
  | eq =>
    refine lv_icmp_eq hC.1 hC.2.1 hd ht (fun q => kt ?_) (fun q => kf ?_)
    · unfold xi_cd at h; dsimp only at h; rw [if_pos q] at h; exact h
    · unfold xi_cd at h; dsimp only at h; rw [if_neg q] at h; exact h
  | ne =>
    refine lv_icmp_ne hC.1 hC.2.1 hd ht (fun q => kt ?_) (fun q => kf ?_)
    · unfold xi_cd at h; dsimp only at h; rw [if_neg q] at h; exact h
    · unfold xi_cd at h; dsimp only at h; rw [if_pos q] at h; exact h
  | lt =>
    refine lv_icmp_lt hC.1 hC.2.1 hd ht (fun q => kt ?_) (fun q => kf ?_)
    · unfold xi_cd at h; dsimp only at h; rw [if_pos q] at h; exact h
    · unfold xi_cd at h; dsimp only at h; rw [if_neg q] at h; exact h
  | ge =>
    refine lv_icmp_ge hC.1 hC.2.1 hd ht (fun q => kt ?_) (fun q => kf ?_)
    · unfold xi_cd at h; dsimp only at h; rw [if_neg (Int32.not_lt.mpr q)] at h; exact h
    · unfold xi_cd at h; dsimp only at h; rw [if_pos (xi_nle.mp q)] at h; exact h
  | gt =>
    refine lv_icmp_gt hC.1 hC.2.1 hd ht (fun q => kt ?_) (fun q => kf ?_)
    · unfold xi_cd at h; dsimp only at h; rw [if_pos q] at h; exact h
    · unfold xi_cd at h; dsimp only at h; rw [if_neg q] at h; exact h
  | le =>
    refine lv_icmp_le hC.1 hC.2.1 hd ht (fun q => kt ?_) (fun q => kf ?_)
    · unfold xi_cd at h; dsimp only at h; rw [if_neg (Int32.not_lt.mpr q)] at h; exact h
    · unfold xi_cd at h; dsimp only at h; rw [if_pos (xi_nle.mp q)] at h; exact h
theorem xi_sd_i0 {nL t : Nat} {cn : Jvm.ClassFile.Cond} (hC : CallFix p m c (mC k) (mL k) s args (mW k) (mO k)) (hct : ∀ (pc : Nat) (L : xi_L) (st : List Value) (aw : xi_W), ct pc L st aw = some x → xi_G p l e R s m args below meth c D ad ca A Q N nL x pc L st aw) (hr : ∃ off : Int, decode (mC k) pc = .ok (.ifCond cn off, 3) ∧ (pc : Int) + off = (t : Int)) (h : xi_i0 ct cn t pc L st aw = some x) : xi_G p l e R s m args below meth c D ad ca A Q N nL x pc L st aw := by
  unfold xi_i0 at h
  split at h
  · exact xi_sd_if0a hC hct hr h
  · cases h
theorem xi_sd_i2 {nL t : Nat} {cn : Jvm.ClassFile.Cond} (hC : CallFix p m c (mC k) (mL k) s args (mW k) (mO k)) (hct : ∀ (pc : Nat) (L : xi_L) (st : List Value) (aw : xi_W), ct pc L st aw = some x → xi_G p l e R s m args below meth c D ad ca A Q N nL x pc L st aw) (hr : ∃ off : Int, decode (mC k) pc = .ok (.if_icmp cn off, 3) ∧ (pc : Int) + off = (t : Int)) (h : xi_i2 ct cn t pc L st aw = some x) : xi_G p l e R s m args below meth c D ad ca A Q N nL x pc L st aw := by
  unfold xi_i2 at h
  split at h
  · exact xi_sd_if2a hC hct hr h
  · cases h
theorem xi_sw_eq (y : Int32) (kk : Int → Option xi_R) : ∀ (ps : List (Int × Int)) (d : Int), xi_sw y kk ps d = kk (xi_swt y ps d)
  | [], _ => rfl
  | (a, t) :: r, d => by
    unfold xi_sw xi_swt
    by_cases h : y.toInt = a
    · rw [if_pos h, if_pos h]
    · rw [if_neg h, if_neg h]
      exact xi_sw_eq y kk r d
theorem xi_sd_sw {nL : Nat} {ps : List (Int × Int)} {d : Int} (hC : CallFix p m c (mC k) (mL k) s args (mW k) (mO k)) (hct : ∀ (pc : Nat) (L : xi_L) (st : List Value) (aw : xi_W), ct pc L st aw = some x → xi_G p l e R s m args below meth c D ad ca A Q N nL x pc L st aw) (hr : xi_Rw k pc ps d) (h : xi_sx ct ps d L st aw = some x) : xi_G p l e R s m args below meth c D ad ca A Q N nL x pc L st aw := by
  unfold xi_sx at h
  split at h
  case h_2 => cases h
  rename_i y r
  rw [xi_sw_eq] at h
  have hg := hct _ _ _ _ h
  exact fun H locs ls hl hP hD hS hN => hr p l e R s m args below meth c H locs Q ls _ y hC (hg H locs ls hl hP hD hS hN)
theorem xi_sd_gf {nL ci j : Nat} (hC : CallFix p m c (mC k) (mL k) s args (mW k) (mO k)) (hK : va_K D vwCl (xi_tyL ca) s) (hct : ∀ (pc : Nat) (L : xi_L) (st : List Value) (aw : xi_W), ct pc L st aw = some x → xi_G p l e R s m args below meth c D ad ca A Q N nL x pc L st aw) (hr : xi_Rf k pc ci j) (h : xi_gf ct ci j pc L st aw = some x) : xi_G p l e R s m args below meth c D ad ca A Q N nL x pc L st aw := by
  unfold xi_gf at h
  split at h
  · rename_i r rest
    split at h
    · rename_i o ho
      split at h
      · rename_i hc
        split at h
        · rename_i w hw
          have hg := hct _ _ _ _ h
          intro H locs ls hl hP hD hS hN
          have ho' := xi_rl_obj (ad := ad) (ca := ca) ho
          rw [Nat.eq_of_beq_eq_true hc] at ho'
          exact hr p l e R s m args below meth c H locs Q ls _ D (xi_tyL ca) (xi_rl ad ca aw) r (ad r) (o.2.map (xi_mp ad)) (xi_mp ad w) hC hK hP ho' (by rw [List.getElem?_map, hw]; rfl) (hg H locs ls hl hP hD hS hN)
        · cases h
      · cases h
    · cases h
  · cases h
theorem xi_sd_pf {nL ci j : Nat} {b : Bool} (hC : CallFix p m c (mC k) (mL k) s args (mW k) (mO k)) (hK : va_K D vwCl (xi_tyL ca) s) (hct : ∀ (pc : Nat) (L : xi_L) (st : List Value) (aw : xi_W), ct pc L st aw = some x → xi_G p l e R s m args below meth c D ad ca A Q N nL x pc L st aw) (hr : xi_Rp b k pc ci j) (hbb : b = true → ∀ y r, st = .int y :: r → y = 0 ∨ y = 1) (h : xi_pf ct ci j pc L st aw = some x) : xi_G p l e R s m args below meth c D ad ca A Q N nL x pc L st aw := by
  unfold xi_pf at h
  split at h
  · rename_i y r rest
    split at h
    · rename_i o ho
      split at h
      · rename_i hc
        split at h
        · rename_i hlt
          have hg := hct _ _ _ _ h
          intro H locs ls hl hP hD hS hN
          have ho' := xi_rl_obj (ad := ad) (ca := ca) ho
          have hce := Nat.eq_of_beq_eq_true hc
          have e1 : xi_rl ad ca (aw.set r (.inr (o.1, o.2.set j (.int y)))) = (xi_rl ad ca aw).set r (ad r, .inr (ci, (o.2.map (xi_mp ad)).set j (.int y))) := by
            rw [xi_rl_set, ← hce]
            show (xi_rl ad ca aw).set r (ad r, .inr (o.1, (o.2.set j (.int y)).map (xi_mp ad))) = _
            rw [List.map_set]
            rfl
          rw [hce] at ho'
          refine hr p l e R s m args below meth c H locs Q ls _ D (xi_tyL ca) (xi_rl ad ca aw) A s.heap r (ad r) (o.2.map (xi_mp ad)) y (fun hb => hbb hb y _ rfl) hC hK hP hD hS ho' ?_ (fun H1 locs1 hP1 hD1 hS1 => ?_)
          · have : j < o.2.length := Nat.le_of_ble_eq_true hlt
            rw [List.length_map]
            exact this
          · rw [← e1] at hP1 hD1
            exact hg H1 locs1 ls hl hP1 hD1 hS1 (by rw [List.length_set]; exact hN)
        · cases h
      · cases h
    · cases h
  · cases h
theorem xi_sd_pb {nL ci j : Nat} (hC : CallFix p m c (mC k) (mL k) s args (mW k) (mO k)) (hK : va_K D vwCl (xi_tyL ca) s) (hct : ∀ (pc : Nat) (L : xi_L) (st : List Value) (aw : xi_W), ct pc L st aw = some x → xi_G p l e R s m args below meth c D ad ca A Q N nL x pc L st aw) (hr : xi_Rp true k pc ci j) (h : xi_pb ct ci j pc L st aw = some x) : xi_G p l e R s m args below meth c D ad ca A Q N nL x pc L st aw := by
  unfold xi_pb at h
  split at h
  · rename_i y r
    split at h
    · rename_i hy
      refine xi_sd_pf hC hK hct hr (fun _ y' r' e => ?_) h
      cases e
      exact hy
    · cases h
  · cases h
theorem xi_in_of {y : Int32} {n : Nat} (h : 0 ≤ y.toInt ∧ y.toInt < (n : Int)) : vp_in y n := vp_in_iff.mpr h
theorem xi_sd_al {nL ty : Nat} (hC : CallFix p m c (mC k) (mL k) s args (mW k) (mO k)) (hK : va_K D vwCl (xi_tyL ca) s) (hZ : xi_Z ad A s) (hct : ∀ (pc : Nat) (L : xi_L) (st : List Value) (aw : xi_W), ct pc L st aw = some x → xi_G p l e R s m args below meth c D ad ca A Q N nL x pc L st aw) (hd : ty = 1 ∧ decode (mC k) pc = .ok (.iaload, 1) ∨ ty = 2 ∧ decode (mC k) pc = .ok (.baload, 1) ∨ ty = 3 ∧ decode (mC k) pc = .ok (.caload, 1)) (h : xi_al ct ty pc L st aw = some x) : xi_G p l e R s m args below meth c D ad ca A Q N nL x pc L st aw := by
  unfold xi_al at h
  split at h
  · rename_i y r rest
    split at h
    · rename_i q hq
      split at h
      · rename_i h1
        split at h
        · rename_i hin
          have hg := hct _ _ _ _ h
          intro H locs ls hl hP hD hS hN
          rcases hd with ⟨-, hd⟩ | ⟨h2, -⟩ | ⟨h2, -⟩
          · exact va_ti hC.1 hC.2.1 (xi_Z.tab hZ hq) hS (xi_in_of hin) rfl hd (hg H locs ls hl hP hD hS hN)
          · subst h2; cases h1
          · subst h2; cases h1
        · cases h
      · cases h
    · split at h
      · rename_i n f hf
        split at h
        · rename_i hty
          split at h
          · rename_i hin
            have hg := hct _ _ _ _ h
            intro H locs ls hl hP hD hS hN
            have ha := xi_rl_arr (ad := ad) (ca := ca) hf
            have htn := Nat.eq_of_beq_eq_true hty
            rcases hd with ⟨rfl, hd⟩ | ⟨rfl, hd⟩ | ⟨rfl, hd⟩
            · obtain ⟨t0, ht⟩ := xi_ty1 ca htn
              exact va_iald hC.1 hC.2.1 hK hP r t0 ha ht (xi_in_of hin) hd (hg H locs ls hl hP hD hS hN)
            · obtain ⟨t0, ht⟩ := xi_ty2 ca htn
              exact va_zald hC.1 hC.2.1 hK hP r t0 ha ht (xi_in_of hin) hd (hg H locs ls hl hP hD hS hN)
            · obtain ⟨t0, ht⟩ := xi_ty3 ca htn
              exact va_cald hC.1 hC.2.1 hK hP r t0 ha ht (xi_in_of hin) hd (hg H locs ls hl hP hD hS hN)
          · cases h
        · cases h
      · cases h
  · cases h
theorem xi_sd_ll {nL : Nat} (hC : CallFix p m c (mC k) (mL k) s args (mW k) (mO k)) (hK : va_K D vwCl (xi_tyL ca) s) (hct : ∀ (pc : Nat) (L : xi_L) (st : List Value) (aw : xi_W), ct pc L st aw = some x → xi_G p l e R s m args below meth c D ad ca A Q N nL x pc L st aw) (hd : decode (mC k) pc = .ok (.laload, 1)) (h : xi_ll ct pc L st aw = some x) : xi_G p l e R s m args below meth c D ad ca A Q N nL x pc L st aw := by
  unfold xi_ll at h
  split at h
  · rename_i y r rest
    split at h
    · rename_i n f hf
      split at h
      · rename_i hty
        split at h
        · rename_i hin
          have hg := hct _ _ _ _ h
          intro H locs ls hl hP hD hS hN
          have ha := xi_rl_arr (ad := ad) (ca := ca) hf
          obtain ⟨t0, ht⟩ := xi_ty4 ca (Nat.eq_of_beq_eq_true hty)
          exact va_lald hC.1 hC.2.1 hK hP r t0 ha ht (xi_in_of hin) hd (hg H locs ls hl hP hD hS hN)
        · cases h
      · cases h
    · cases h
  · cases h
theorem xi_sd_at {nL ty : Nat} (hC : CallFix p m c (mC k) (mL k) s args (mW k) (mO k)) (hK : va_K D vwCl (xi_tyL ca) s) (hct : ∀ (pc : Nat) (L : xi_L) (st : List Value) (aw : xi_W), ct pc L st aw = some x → xi_G p l e R s m args below meth c D ad ca A Q N nL x pc L st aw) (hd : ty = 1 ∧ decode (mC k) pc = .ok (.iastore, 1) ∨ ty = 2 ∧ decode (mC k) pc = .ok (.bastore, 1) ∨ ty = 3 ∧ decode (mC k) pc = .ok (.castore, 1)) (h : xi_at ct ty pc L st aw = some x) : xi_G p l e R s m args below meth c D ad ca A Q N nL x pc L st aw := by
  unfold xi_at at h
  split at h
  · rename_i z y r rest
    split at h
    · rename_i n f hf
      split at h
      · rename_i hty
        split at h
        · rename_i hin
          have hg := hct _ _ _ _ h
          intro H locs ls hl hP hD hS hN
          have ha := xi_rl_arr (ad := ad) (ca := ca) hf
          have htn := Nat.eq_of_beq_eq_true hty
          have e1 : xi_rl ad ca (aw.set r (.inl (n, .inl (upd f y.toNatClampNeg (xi_nr ty z))))) = (xi_rl ad ca aw).set r (ad r, .inl (ca r, n, .inl (upd f y.toNatClampNeg (xi_nr ty z)))) := xi_rl_set _ _ _ _ _
          have hk : ∀ (H1 : Heap) (locs1 : List Loc), va_P D vwCl ((xi_rl ad ca aw).set r (ad r, .inl (ca r, n, .inl (upd f y.toNatClampNeg (xi_nr ty z))))) H1 → va_D A ((xi_rl ad ca aw).set r (ad r, .inl (ca r, n, .inl (upd f y.toNatClampNeg (xi_nr ty z))))) → va_S A s.heap H1 locs1 → W p l e R s m args below meth c H1 locs1 0 0 Q (F0 m (pc + 1) ls (rest.map (xi_mp ad))) := by
            intro H1 locs1 hP1 hD1 hS1
            rw [← e1] at hP1 hD1
            exact hg H1 locs1 ls hl hP1 hD1 hS1 (by rw [List.length_set]; exact hN)
          rcases hd with ⟨rfl, hd⟩ | ⟨rfl, hd⟩ | ⟨rfl, hd⟩
          · obtain ⟨t0, ht⟩ := xi_ty1 ca htn
            exact va_iast hC.1 hC.2.1 hK hP hD hS r t0 ha ht (xi_in_of hin) hd hk
          · obtain ⟨t0, ht⟩ := xi_ty2 ca htn
            exact va_zast hC.1 hC.2.1 hK hP hD hS r t0 ha ht (xi_in_of hin) hd hk
          · obtain ⟨t0, ht⟩ := xi_ty3 ca htn
            exact va_cast hC.1 hC.2.1 hK hP hD hS r t0 ha ht (xi_in_of hin) hd hk
        · cases h
      · cases h
    · cases h
  · cases h
theorem xi_sd_lt {nL : Nat} (hC : CallFix p m c (mC k) (mL k) s args (mW k) (mO k)) (hK : va_K D vwCl (xi_tyL ca) s) (hct : ∀ (pc : Nat) (L : xi_L) (st : List Value) (aw : xi_W), ct pc L st aw = some x → xi_G p l e R s m args below meth c D ad ca A Q N nL x pc L st aw) (hd : decode (mC k) pc = .ok (.lastore, 1)) (h : xi_lt ct pc L st aw = some x) : xi_G p l e R s m args below meth c D ad ca A Q N nL x pc L st aw := by
  unfold xi_lt at h
  split at h
  · rename_i z y r rest
    split at h
    · rename_i n f hf
      split at h
      · rename_i hty
        split at h
        · rename_i hin
          have hg := hct _ _ _ _ h
          intro H locs ls hl hP hD hS hN
          have ha := xi_rl_arr (ad := ad) (ca := ca) hf
          have e1 : xi_rl ad ca (aw.set r (.inl (n, .inr (.inl (vp_updL f y.toNatClampNeg z))))) = (xi_rl ad ca aw).set r (ad r, .inl (ca r, n, .inr (.inl (vp_updL f y.toNatClampNeg z)))) := xi_rl_set _ _ _ _ _
          obtain ⟨t0, ht⟩ := xi_ty4 ca (Nat.eq_of_beq_eq_true hty)
          refine va_last hC.1 hC.2.1 hK hP hD hS r t0 ha ht (xi_in_of hin) hd (fun H1 locs1 hP1 hD1 hS1 => ?_)
          rw [← e1] at hP1 hD1
          exact hg H1 locs1 ls hl hP1 hD1 hS1 (by rw [List.length_set]; exact hN)
        · cases h
      · cases h
    · cases h
  · cases h
theorem xi_sd_dv {nL : Nat} (hC : CallFix p m c (mC k) (mL k) s args (mW k) (mO k)) (hct : ∀ (pc : Nat) (L : xi_L) (st : List Value) (aw : xi_W), ct pc L st aw = some x → xi_G p l e R s m args below meth c D ad ca A Q N nL x pc L st aw) (hd : decode (mC k) pc = .ok (.idiv, 1)) (h : xi_dv ct pc L st aw = some x) : xi_G p l e R s m args below meth c D ad ca A Q N nL x pc L st aw := by
  unfold xi_dv at h
  split at h
  · rename_i z y rest
    split at h
    · cases h
    · rename_i hz
      have hg := hct _ _ _ _ h
      exact fun H locs ls hl hP hD hS hN => lv_idiv hC.1 hC.2.1 hd hz (hg H locs ls hl hP hD hS hN)
  · cases h
theorem xi_sd_mm (hC : CallFix p m c (mC k) (mL k) s args (mW k) (mO k)) (h1 : 1 ≤ R.frames) (h64 : 64 ≤ R.locals) (hct : ∀ (pc : Nat) (L : xi_L) (st : List Value) (aw : xi_W), ct pc L st aw = some x → xi_G p l e R s m args below meth c D ad ca A Q N (mL k) x pc L st aw) (hr : xi_R0 k pc) (h : xi_mm ct pc L st aw = some x) : xi_G p l e R s m args below meth c D ad ca A Q N (mL k) x pc L st aw := by
  unfold xi_mm at h
  split at h
  · rename_i z y rest
    split at h
    · rename_i hcm
      have hg := hct _ _ _ _ h
      exact fun H locs ls hl hP hD hS hN => hr p l e R s m args below meth c H locs Q ls (rest.map (xi_mp ad)) y z hC hl.1 h1 h64 (by rw [xi_cm_mp]; exact Nat.le_of_ble_eq_true hcm) (hg H locs ls hl hP hD hS hN)
    · cases h
  · cases h
theorem xi_sd_ml (hC : CallFix p m c (mC k) (mL k) s args (mW k) (mO k)) (h1 : 1 ≤ R.frames) (h64 : 64 ≤ R.locals) (hct : ∀ (pc : Nat) (L : xi_L) (st : List Value) (aw : xi_W), ct pc L st aw = some x → xi_G p l e R s m args below meth c D ad ca A Q N (mL k) x pc L st aw) (hr : xi_Ra k pc) (h : xi_ml ct pc L st aw = some x) : xi_G p l e R s m args below meth c D ad ca A Q N (mL k) x pc L st aw := by
  unfold xi_ml at h
  split at h
  · rename_i z y rest
    split at h
    · rename_i hcm
      have hg := hct _ _ _ _ h
      exact fun H locs ls hl hP hD hS hN => hr p l e R s m args below meth c H locs Q ls (rest.map (xi_mp ad)) y z hC hl.1 h1 h64 (by rw [xi_cm_mp]; exact Nat.le_of_ble_eq_true hcm) (hg H locs ls hl hP hD hS hN)
    · cases h
  · cases h
theorem xi_sd_nl (hC : CallFix p m c (mC k) (mL k) s args (mW k) (mO k)) (h1 : 1 ≤ R.frames) (h64 : 64 ≤ R.locals) (hct : ∀ (pc : Nat) (L : xi_L) (st : List Value) (aw : xi_W), ct pc L st aw = some x → xi_G p l e R s m args below meth c D ad ca A Q N (mL k) x pc L st aw) (hr : xi_Rb k pc) (h : xi_nl ct pc L st aw = some x) : xi_G p l e R s m args below meth c D ad ca A Q N (mL k) x pc L st aw := by
  unfold xi_nl at h
  split at h
  · rename_i z y rest
    split at h
    · rename_i hcm
      have hg := hct _ _ _ _ h
      exact fun H locs ls hl hP hD hS hN => hr p l e R s m args below meth c H locs Q ls (rest.map (xi_mp ad)) y z hC hl.1 h1 h64 (by rw [xi_cm_mp]; exact Nat.le_of_ble_eq_true hcm) (hg H locs ls hl hP hD hS hN)
    · cases h
  · cases h
theorem xi_sd_cy (hC : CallFix p m c (mC k) (mL k) s args (mW k) (mO k)) (h1 : 1 ≤ R.frames) (h64 : 64 ≤ R.locals) (hK : va_K D vwCl (xi_tyL ca) s) (hct : ∀ (pc : Nat) (L : xi_L) (st : List Value) (aw : xi_W), ct pc L st aw = some x → xi_G p l e R s m args below meth c D ad ca A Q N (mL k) x pc L st aw) (hr : xi_Ry k pc) (h : xi_cy ct pc L st aw = some x) : xi_G p l e R s m args below meth c D ad ca A Q N (mL k) x pc L st aw := by
  unfold xi_cy at h
  split at h
  · rename_i n dp a sp b rest
    split at h
    · rename_i n0 f hf
      split at h
      · rename_i n1 g hg1
        split at h
        · rename_i hta
          split at h
          · rename_i htb
            split at h
            · rename_i hcm
              split at h
              · rename_i hin
                obtain ⟨q1, q2, q3, q4, q5⟩ := hin
                have hg := hct _ _ _ _ h
                intro H locs ls hl hP hD hS hN
                have e1 : xi_rl ad ca (aw.set a (.inl (n1, .inl (va_cpy f g sp.toNatClampNeg dp.toNatClampNeg n.toNatClampNeg)))) = (xi_rl ad ca aw).set a (ad a, .inl (ca a, n1, .inl (va_cpy f g sp.toNatClampNeg dp.toNatClampNeg n.toNatClampNeg))) := xi_rl_set _ _ _ _ _
                obtain ⟨t0, ht0⟩ := xi_ty1 ca (Nat.eq_of_beq_eq_true htb)
                obtain ⟨t1, ht1⟩ := xi_ty1 ca (Nat.eq_of_beq_eq_true hta)
                refine hr p l e R s m args below meth c H locs Q ls (rest.map (xi_mp ad)) D (xi_tyL ca) (xi_rl ad ca aw) A s.heap b a t0 t1 (ad b) (ad a) (ca b) (ca a) n0 n1 f g sp dp n hC hl.1 h1 h64 (by rw [xi_cm_mp]; exact Nat.le_of_ble_eq_true hcm) hK hP hD hS (xi_rl_arr hf) (xi_rl_arr hg1) ht0 ht1 q1 q2 q3 q4 q5 (fun H1 locs1 hP1 hD1 hS1 => ?_)
                rw [← e1] at hP1 hD1
                exact hg H1 locs1 ls hl hP1 hD1 hS1 (by rw [List.length_set]; exact hN)
              · cases h
            · cases h
          · cases h
        · cases h
      · cases h
    · cases h
  · cases h
theorem xi_toL (ad : Nat → Nat) (v : Option Value) (r : List Value) : (v.toList ++ r).map (xi_mp ad) = (v.map (xi_mp ad)).toList ++ r.map (xi_mp ad) := by cases v <;> rfl
theorem xi_S_call {A B : Nat → Prop} {H0 H H1 : Heap} {L1 : List Loc} (hS : va_S A H0 H locs) (hz : H.size ≤ H1.size) (hk : ∀ q : Nat, q < H.size → ¬ B q → H1[q]? = H[q]?) (hB : ∀ q, B q → A q) (hL : ∀ q ∈ L1, B q.base) : va_S A H0 H1 (locs ++ L1) :=
  ⟨Nat.le_trans hS.1 hz, fun q h1 h2 => by rw [hk q (Nat.lt_of_lt_of_le h1 hS.1) (fun z => h2 (hB q z))]; exact hS.2.1 q h1 h2, fun q hq => by
    rcases List.mem_append.mp hq with h | h
    · exact hS.2.2 q h
    · exact hB _ (hL q h)⟩
theorem xi_A_sub (hA : ∀ q : Nat, s.heap.size ≤ q → A q) (hD : va_D A (xi_rl ad ca aw)) (hS : va_S A s.heap H locs) : ∀ q, va_A (xi_rl ad ca aw) H.size q → A q := by
  intro q h
  rcases h with ⟨k, e, h⟩ | h
  · exact hD.2 k _ h
  · exact hA q (Nat.le_trans hS.1 h)
theorem xi_sd_iv {d k' ci n : Nat} (hC : CallFix p m c (mC k) (mL k) s args (mW k) (mO k)) (hK : va_K D vwCl (xi_tyL ca) s) (hZ : xi_Z ad A s) (hA : ∀ q : Nat, s.heap.size ≤ q → A q) (h1 : R.frames = d + 1) (h64 : R.locals = 64 * (d + 1)) (hcal : ∀ (k : Nat) (vs : List Value) (aw : xi_W) (y : xi_R), cal k vs aw = some y → xi_Con l d k vs aw y)
    (hct : ∀ (pc : Nat) (L : xi_L) (st : List Value) (aw : xi_W), ct pc L st aw = some x → xi_G p l e R s m args below meth c D ad ca A Q N (mL k) x pc L st aw) (hr : xi_Rv k pc k' ci n) (h : xi_iv cal ct k' ci n pc L st aw = some x) : xi_G p l e R s m args below meth c D ad ca A Q N (mL k) x pc L st aw := by
  unfold xi_iv at h
  split at h
  case h_2 => cases h
  rename_i hn
  split at h
  case h_2 => cases h
  rename_i hcm
  split at h
  case h_2 => cases h
  rename_i b As hAs
  split at h
  case h_2 => cases h
  rename_i o ho
  split at h
  case h_2 => cases h
  rename_i hci
  unfold xi_bd at h
  split at h
  case h_2 => cases h
  rename_i y hy
  have hg := hct _ _ _ _ h
  have con := hcal _ _ _ _ hy
  obtain ⟨hmL, ⟨cq, hcq, hco⟩, hrun⟩ := hr
  have hst : st = As.reverse ++ .ref b :: st.drop n := by
    have e1 : st.take n = As.reverse ++ [.ref b] := by
      have := congrArg List.reverse hAs
      rw [List.reverse_reverse, List.reverse_cons] at this
      exact this
    have e2 := (List.take_append_drop n st).symm
    rw [e1, List.append_assoc] at e2
    exact e2
  have hlen : As.length + 1 = n := by
    have := congrArg List.length hAs
    rw [List.length_reverse, List.length_take, List.length_cons] at this
    have := Nat.le_of_ble_eq_true hn
    omega
  intro H locs ls hl hP hD hS hN
  have hst2 : st.map (xi_mp ad) = (As.map (xi_mp ad)).reverse ++ .ref (ad b) :: (st.drop n).map (xi_mp ad) := by
    have := congrArg (List.map (xi_mp ad)) hst
    rw [List.map_append, List.map_cons, List.map_reverse] at this
    exact this
  rw [hst2]
  have hAs' := xi_A_sub hA hD hS
  have ho' := xi_rl_obj (ad := ad) (ca := ca) ho
  rw [Nat.eq_of_beq_eq_true hci] at ho'
  have hrec := va_recv hK hP hcq ho'
  rw [hco] at hrec
  have hpre : PreV s H (mO k') (ad b) (xi_Pc D ad ca (.ref b :: As) aw H.size) (As.map (xi_mp ad)) :=
    ⟨xi_blind _ _ _ _ _ _, hrec, fun U hU hW => ⟨rfl, by rw [hU], by rw [hU]; exact hP, va_K.moved hW.alike hK, hD.weaken (fun _ _ _ _ => trivial), xi_Z.at hZ hS hAs' hU hW⟩⟩
  have hR := hrun p l e R s m args below meth c H locs Q ls ((st.drop n).map (xi_mp ad)) (xi_rm d) _ _ _ (ad b) (As.map (xi_mp ad)) hC (con D ad ca H.size) rfl rfl (by rw [h1]; exact Nat.le_refl _) (by rw [h64]; show 8 + (mL k' + 11) + 64 * d ≤ 64 * (d + 1); omega) hpre (by rw [List.length_map]; exact hlen) hl.1 (by rw [xi_cm_mp]; exact Nat.le_of_ble_eq_true hcm)
  intro T hT X
  obtain ⟨v, st₀, t, T', L1, h0, X', hL, e1, e2, ⟨⟨hv, hyl, hP1⟩, hz, hk⟩, stp⟩ := hR T hT X
  cases hv
  rw [h0] at hz hk
  have hg2 := hg T'.heap (locs ++ L1) ls hl (by rw [e1]; exact hP1) (xi_D_len hyl hD) (xi_S_call hS (by rw [e1]; exact hz) (fun q a b => by rw [e1]; exact hk q a b) hAs' hL) (hyl.trans hN)
  rw [xi_toL] at hg2
  obtain ⟨t2, a1, b1⟩ := hg2 T' rfl X'
  exact ⟨t2, stp t2 a1, b1⟩
theorem xi_sd_is {d k' n : Nat} (hC : CallFix p m c (mC k) (mL k) s args (mW k) (mO k)) (hK : va_K D vwCl (xi_tyL ca) s) (hZ : xi_Z ad A s) (hA : ∀ q : Nat, s.heap.size ≤ q → A q) (h1 : R.frames = d + 1) (h64 : R.locals = 64 * (d + 1)) (hcal : ∀ (k : Nat) (vs : List Value) (aw : xi_W) (y : xi_R), cal k vs aw = some y → xi_Con l d k vs aw y)
    (hct : ∀ (pc : Nat) (L : xi_L) (st : List Value) (aw : xi_W), ct pc L st aw = some x → xi_G p l e R s m args below meth c D ad ca A Q N (mL k) x pc L st aw) (hr : xi_Rs k pc k' n) (h : xi_is cal ct k' n pc L st aw = some x) : xi_G p l e R s m args below meth c D ad ca A Q N (mL k) x pc L st aw := by
  unfold xi_is at h
  split at h
  case h_2 => cases h
  rename_i hn
  split at h
  case h_2 => cases h
  rename_i hcm
  unfold xi_bd at h
  split at h
  case h_2 => cases h
  rename_i y hy
  have hg := hct _ _ _ _ h
  have con := hcal _ _ _ _ hy
  obtain ⟨hmL, hrun⟩ := hr
  have hlen : (st.take n).reverse.length = n := by
    rw [List.length_reverse, List.length_take]
    have := Nat.le_of_ble_eq_true hn
    omega
  generalize hAs : (st.take n).reverse = As at con hlen hy
  have hst : st = As.reverse ++ st.drop n := by
    rw [← hAs, List.reverse_reverse, List.take_append_drop]
  intro H locs ls hl hP hD hS hN
  have hst2 : st.map (xi_mp ad) = (As.map (xi_mp ad)).reverse ++ (st.drop n).map (xi_mp ad) := by
    have := congrArg (List.map (xi_mp ad)) hst
    rw [List.map_append, List.map_reverse] at this
    exact this
  rw [hst2]
  have hAs' := xi_A_sub hA hD hS
  have hpre : PreS s H (xi_Pc D ad ca As aw H.size) (As.map (xi_mp ad)) :=
    ⟨xi_blind _ _ _ _ _ _, fun U hU hW => ⟨rfl, by rw [hU], by rw [hU]; exact hP, va_K.moved hW.alike hK, hD.weaken (fun _ _ _ _ => trivial), xi_Z.at hZ hS hAs' hU hW⟩⟩
  have hR := hrun p l e R s m args below meth c H locs Q ls ((st.drop n).map (xi_mp ad)) (xi_rm d) _ _ _ (As.map (xi_mp ad)) hC (con D ad ca H.size) rfl rfl (by rw [h1]; exact Nat.le_refl _) (by rw [h64]; show 8 + (mL k' + 11) + 64 * d ≤ 64 * (d + 1); omega) hpre (by rw [List.length_map]; exact hlen) hl.1 (by rw [xi_cm_mp]; exact Nat.le_of_ble_eq_true hcm)
  intro T hT X
  obtain ⟨v, st₀, t, T', L1, h0, X', hL, e1, e2, ⟨⟨hv, hyl, hP1⟩, hz, hk⟩, stp⟩ := hR T hT X
  cases hv
  rw [h0] at hz hk
  have hg2 := hg T'.heap (locs ++ L1) ls hl (by rw [e1]; exact hP1) (xi_D_len hyl hD) (xi_S_call hS (by rw [e1]; exact hz) (fun q a b => by rw [e1]; exact hk q a b) hAs' hL) (hyl.trans hN)
  rw [xi_toL] at hg2
  obtain ⟨t2, a1, b1⟩ := hg2 T' rfl X'
  exact ⟨t2, stp t2 a1, b1⟩
theorem xi_nb {y : Int32} (h : y = 0 ∨ y = 1) : narrow .boolean (.int y) = .int y := by
  rcases h with rfl | rfl <;> rfl
theorem xi_nc {y : Int32} (h : 0 ≤ y.toInt ∧ y.toInt < 65536) : narrow .char (.int y) = .int y := by
  obtain ⟨j, hj, rfl⟩ := vp_in_of (n := 65536) (xi_in_of h) (by decide)
  exact (pk_charN hj).1
theorem xi_sd_rt {kd : Nat} {Qc : Array Value → State → Outcome → State → Prop} (hC : CallFix p m c (mC k) (mL k) s args (mW k) (mO k)) (hlk : meth.locks = false) (hmr : meth.sig.returnType = mR k)
    (hq : ∀ (H : Heap) (locs : List Loc) (t : State), x.2.length = N → va_P D vwCl (xi_rl ad ca x.2) H → va_S A s.heap H locs → t.heap = H → s.WarmedH t.vm → Qc args s (.returned (x.1.map (xi_mp ad))) t)
    (hd : decode (mC k) pc = .ok (.ireturn, 1) ∧ mR k = xi_rk kd) (h : xi_rt kd st aw = some x) : xi_G p l e R s m args below meth c D ad ca A (MQ below Qc args s 0 0 A) N (mL k) x pc L st aw := by
  obtain ⟨hd, hk⟩ := hd
  unfold xi_rt at h
  split at h
  · rename_i y
    split at h
    · cases h
      intro H locs ls hl hP hD hS hN
      exact W.iret hC.1 hC.2.1 (hmr.trans hk) (fun t ht hW => hq H locs t hN hP hS ht hW) hS.2.2 hd
    · split at h
      · rename_i hy
        cases h
        intro H locs ls hl hP hD hS hN
        exact W.zret hC.1 hC.2.1 (hmr.trans hk) (xi_nb hy) (fun t ht hW => hq H locs t hN hP hS ht hW) hS.2.2 hd
      · cases h
    · split at h
      · rename_i hy
        cases h
        intro H locs ls hl hP hD hS hN
        exact W.zret hC.1 hC.2.1 (hmr.trans hk) (xi_nc hy) (fun t ht hW => hq H locs t hN hP hS ht hW) hS.2.2 hd
      · cases h
    · cases h
  · cases h
theorem xi_sd_rv {Qc : Array Value → State → Outcome → State → Prop} (hC : CallFix p m c (mC k) (mL k) s args (mW k) (mO k)) (hlk : meth.locks = false) (hmr : meth.sig.returnType = mR k)
    (hq : ∀ (H : Heap) (locs : List Loc) (t : State), x.2.length = N → va_P D vwCl (xi_rl ad ca x.2) H → va_S A s.heap H locs → t.heap = H → s.WarmedH t.vm → Qc args s (.returned (x.1.map (xi_mp ad))) t)
    (hd : decode (mC k) pc = .ok (.return_, 1) ∧ mR k = none) (h : xi_rv st aw = some x) : xi_G p l e R s m args below meth c D ad ca A (MQ below Qc args s 0 0 A) N (mL k) x pc L st aw := by
  obtain ⟨hd, hk⟩ := hd
  unfold xi_rv at h
  split at h
  · cases h
    intro H locs ls hl hP hD hS hN
    exact W.vret hC.1 hC.2.1 (hmr.trans hk) (fun t ht hW => hq H locs t hN hP hS ht hW) hS.2.2 hd
  · cases h
theorem xi_sd {d : Nat} {i : Jvm.ClassFile.Instr} {v : Value} {bs : List Bool} {Qc : Array Value → State → Outcome → State → Prop} (hC : CallFix p m c (mC k) (mL k) s args (mW k) (mO k)) (hlk : meth.locks = false) (hmr : meth.sig.returnType = mR k) (hK : va_K D vwCl (xi_tyL ca) s) (hZ : xi_Z ad A s) (hA : ∀ q : Nat, s.heap.size ≤ q → A q) (h1 : R.frames = d + 1) (h64 : R.locals = 64 * (d + 1)) (hcal : ∀ (k : Nat) (vs : List Value) (aw : xi_W) (y : xi_R), cal k vs aw = some y → xi_Con l d k vs aw y)
    (hq : ∀ (H : Heap) (locs : List Loc) (t : State), x.2.length = N → va_P D vwCl (xi_rl ad ca x.2) H → va_S A s.heap H locs → t.heap = H → s.WarmedH t.vm → Qc args s (.returned (x.1.map (xi_mp ad))) t)
    (hct : ∀ (pc : Nat) (L : xi_L) (st : List Value) (aw : xi_W), ct pc L st aw = some x → xi_G p l e R s m args below meth c D ad ca A (MQ below Qc args s 0 0 A) N (mL k) x pc L st aw)
    (hok : xi_ok k pc (i, v, bs)) (h : xi_in cal ct i v pc L st aw = some x) : xi_G p l e R s m args below meth c D ad ca A (MQ below Qc args s 0 0 A) N (mL k) x pc L st aw := by
  have hf1 : 1 ≤ R.frames := by omega
  have hf2 : 64 ≤ R.locals := by omega
  cases i with
  | ldc n =>
    have hg := hct _ _ _ _ h
    intro H locs ls hl hP hD hS hN
    have hg2 := hg H locs ls hl hP hD hS hN
    rw [List.map_cons, hok.1 ad] at hg2
    exact hok.2 p l e R s m args below meth c H locs _ ls _ hC hg2
  | iload j => exact xi_sd_ld hC hct hok h
  | lload j => exact xi_sd_ld hC hct hok h
  | aload j => exact xi_sd_ld hC hct hok h
  | istore j => exact xi_sd_s1 hC hct hok h
  | astore j => exact xi_sd_s1 hC hct hok h
  | lstore j => exact xi_sd_s2 hC hct hok h
  | iinc j z => exact xi_sd_ic hC hct hok h
  | ifCond cn z => exact xi_sd_i0 hC hct hok h
  | if_icmp cn z => exact xi_sd_i2 hC hct hok h
  | goto z =>
    obtain ⟨off, hd, ht⟩ := hok
    have hg := hct _ _ _ _ h
    exact fun H locs ls hl hP hD hS hN => lv_goto hC.1 hC.2.1 hd ht (hg H locs ls hl hP hD hS hN)
  | lookupswitch d ps => exact xi_sd_sw hC hct hok h
  | getfield ci => exact xi_sd_gf hC hK hct hok h
  | putfield ci => exact xi_sd_pf hC hK hct hok (fun hb => by cases hb) h
  | putstatic ci => exact xi_sd_pb hC hK hct hok h
  | getstatic r =>
    have hg := hct _ _ _ _ h
    exact fun H locs ls hl hP hD hS hN => hok p l e R s m args below meth c H locs _ ls _ ad A hC hZ hS (hg H locs ls hl hP hD hS hN)
  | iaload => exact xi_sd_al hC hK hZ hct (Or.inl ⟨rfl, hok⟩) h
  | baload => exact xi_sd_al hC hK hZ hct (Or.inr (Or.inl ⟨rfl, hok⟩)) h
  | caload => exact xi_sd_al hC hK hZ hct (Or.inr (Or.inr ⟨rfl, hok⟩)) h
  | laload => exact xi_sd_ll hC hK hct hok h
  | iastore => exact xi_sd_at hC hK hct (Or.inl ⟨rfl, hok⟩) h
  | bastore => exact xi_sd_at hC hK hct (Or.inr (Or.inl ⟨rfl, hok⟩)) h
  | castore => exact xi_sd_at hC hK hct (Or.inr (Or.inr ⟨rfl, hok⟩)) h
  | lastore => exact xi_sd_lt hC hK hct hok h
  | idiv => exact xi_sd_dv hC hct hok h
  | invokedynamic c =>
    match c, hok, h with
    | 0, hok, h => exact xi_sd_mm hC hf1 hf2 hct hok h
    | 1, hok, h => exact xi_sd_ml hC hf1 hf2 hct hok h
    | 2, hok, h => exact xi_sd_nl hC hf1 hf2 hct hok h
    | 3, hok, h => exact xi_sd_cy hC hf1 hf2 hK hct hok h
    | _ + 4, hok, h => exact xi_no (show (none : Option xi_R) = some x from h)
  | invokeinterface k' ci => exact xi_sd_iv hC hK hZ hA h1 h64 hcal hct hok h
  | invokestatic k' => exact xi_sd_is hC hK hZ hA h1 h64 hcal hct hok h
  | ireturn => exact xi_sd_rt hC hlk hmr hq hok h
  | return_ => exact xi_sd_rv hC hlk hmr hq hok h
  | _ => exact xi_sd_sop hC.1 hC.2.1 hct hok h
theorem xi_go_ok {d : Nat} {tb : List (Option xi_E)} {Qc : Array Value → State → Outcome → State → Prop} (hC : CallFix p m c (mC k) (mL k) s args (mW k) (mO k)) (hlk : meth.locks = false) (hmr : meth.sig.returnType = mR k) (hK : va_K D vwCl (xi_tyL ca) s) (hZ : xi_Z ad A s) (hA : ∀ q : Nat, s.heap.size ≤ q → A q) (h1 : R.frames = d + 1) (h64 : R.locals = 64 * (d + 1)) (hcal : ∀ (k : Nat) (vs : List Value) (aw : xi_W) (y : xi_R), cal k vs aw = some y → xi_Con l d k vs aw y)
    (hq : ∀ (H : Heap) (locs : List Loc) (t : State), x.2.length = N → va_P D vwCl (xi_rl ad ca x.2) H → va_S A s.heap H locs → t.heap = H → s.WarmedH t.vm → Qc args s (.returned (x.1.map (xi_mp ad))) t)
    (ht : ∀ (pc : Nat) (q : xi_E), tb[pc]? = some (some q) → xi_ok k pc q) : ∀ (n pc : Nat) (L : xi_L) (st : List Value) (aw : xi_W), xi_go cal tb n pc L st aw = some x → xi_G p l e R s m args below meth c D ad ca A (MQ below Qc args s 0 0 A) N (mL k) x pc L st aw := by
  intro n
  induction n with
  | zero => intro pc L st aw h; exact xi_no (show (none : Option xi_R) = some x from h)
  | succ n ih =>
    intro pc L st aw h
    rw [xi_go] at h
    dsimp only at h
    split at h
    · rename_i q hq2
      obtain ⟨i, v, bs⟩ := q
      have hg := xi_sd hC hlk hmr hK hZ hA h1 h64 hcal hq ih (ht pc _ hq2) h
      exact fun H locs ls hl hP hD hS hN => hg H locs ls (hl.mask _) hP hD hS hN
    · cases h
end XISTEP
/-- a method whose table is right: what the evaluator computes is a contract -/
theorem xi_met {l : Launch} {d k F : Nat} {cal : xi_F} {tb : List (Option xi_E)} {vs : List Value} {aw : xi_W} {x : xi_R} (hcal : ∀ (k : Nat) (vs : List Value) (aw : xi_W) (y : xi_R), cal k vs aw = some y → xi_Con l d k vs aw y)
    (ht : ∀ (pc : Nat) (q : xi_E), tb[pc]? = some (some q) → xi_ok k pc q) (hpl : plainName (mY k).cls = true) (hO : mO k = (mY k).cls) {ws' : List Cond} (hw : mW k = Cond.code (mY k) (mC k) (mL k) (mR k) :: ws')
    (hlen : (xi_en vs).length ≤ mL k) (h : xi_go cal tb F 0 (xi_pd (mL k) vs) [] aw = some x) : xi_Con l (d + 1) k vs aw x := by
  intro D ad ca sz
  refine Met.ofW (cc := mC k) (maxL := mL k) (ret := mR k) hpl hw ?_
  intro p e s m args below meth c s₁ B hml hv
  obtain ⟨rfl, hsz, hP, hK, hD0, hZ⟩ := hv
  have hts := atoms_spec (ws := mW k) B.pre
  have hown : s.vm.findClass (mO k) = some m.cls := by rw [hO]; exact findClass_of_methodNamed B.named
  subst hsz
  rw [lg_entry_eq]
  have hD := hD0.self (sz := s.heap.size)
  refine xi_go_ok (N := aw.length) (d := d) (tb := tb) (cal := cal) ⟨B.exec, B.bytes, hml, hown, hts⟩ B.notSynchronized B.returns hK hZ (fun q hq => Or.inr hq) rfl rfl hcal ?_ ht F 0 (xi_pd (mL k) vs) [] aw h s.heap [] _ (xi_lh.entry ad vs hlen) hP hD va_S.rf rfl
  intro H locs t hN hP2 hS2 hth hW
  exact ⟨⟨rfl, hN, by rw [hth]; exact hP2⟩, hS2.F hth⟩
end
section
/-! A check that a table is right, and that it is enough. -/
theorem xi_and2 {a b : Bool} (h : (a && b) = true) : a = true ∧ b = true := by rwa [Bool.and_eq_true] at h
def xi_mem (h : Nat) (w : Cond) : Bool := decide (lw_tbl[h]? = some w) && goodWord w
theorem xi_mem_in {h : Nat} {w : Cond} (hm : xi_mem h w = true) : w ∈ xi_wd := by
  unfold xi_mem at hm
  rw [Bool.and_eq_true, decide_eq_true_eq] at hm
  exact List.mem_filter.mpr ⟨List.mem_of_getElem? hm.1, hm.2⟩
theorem xi_in0 : ∀ w ∈ u_ws (vwCl.getD 0 ("", xn_T0, 0)).1 xn_T0 (vwCl.getD 0 ("", xn_T0, 0)).2.2, w ∈ lw_tbl := by decide +kernel
theorem xi_gw0 : ∀ w ∈ u_ws (vwCl.getD 0 ("", xn_T0, 0)).1 xn_T0 (vwCl.getD 0 ("", xn_T0, 0)).2.2, goodWord w = true := by decide +kernel
theorem xi_in1 : ∀ w ∈ u_ws (vwCl.getD 1 ("", xn_T0, 0)).1 xn_T1 (vwCl.getD 1 ("", xn_T0, 0)).2.2, w ∈ lw_tbl := by decide +kernel
theorem xi_gw1 : ∀ w ∈ u_ws (vwCl.getD 1 ("", xn_T0, 0)).1 xn_T1 (vwCl.getD 1 ("", xn_T0, 0)).2.2, goodWord w = true := by decide +kernel
theorem xi_in2 : ∀ w ∈ u_ws (vwCl.getD 2 ("", xn_T0, 0)).1 xn_T2 (vwCl.getD 2 ("", xn_T0, 0)).2.2, w ∈ lw_tbl := by decide +kernel
theorem xi_gw2 : ∀ w ∈ u_ws (vwCl.getD 2 ("", xn_T0, 0)).1 xn_T2 (vwCl.getD 2 ("", xn_T0, 0)).2.2, goodWord w = true := by decide +kernel
theorem xi_in3 : ∀ w ∈ u_ws (vwCl.getD 3 ("", xn_T0, 0)).1 xn_T3 (vwCl.getD 3 ("", xn_T0, 0)).2.2, w ∈ lw_tbl := by decide +kernel
theorem xi_gw3 : ∀ w ∈ u_ws (vwCl.getD 3 ("", xn_T0, 0)).1 xn_T3 (vwCl.getD 3 ("", xn_T0, 0)).2.2, goodWord w = true := by decide +kernel
theorem xi_in4 : ∀ w ∈ u_ws (vwCl.getD 4 ("", xn_T0, 0)).1 xn_T4 (vwCl.getD 4 ("", xn_T0, 0)).2.2, w ∈ lw_tbl := by decide +kernel
theorem xi_gw4 : ∀ w ∈ u_ws (vwCl.getD 4 ("", xn_T0, 0)).1 xn_T4 (vwCl.getD 4 ("", xn_T0, 0)).2.2, goodWord w = true := by decide +kernel
theorem xi_in5 : ∀ w ∈ u_ws (vwCl.getD 5 ("", xn_T0, 0)).1 xn_T5 (vwCl.getD 5 ("", xn_T0, 0)).2.2, w ∈ lw_tbl := by decide +kernel
theorem xi_gw5 : ∀ w ∈ u_ws (vwCl.getD 5 ("", xn_T0, 0)).1 xn_T5 (vwCl.getD 5 ("", xn_T0, 0)).2.2, goodWord w = true := by decide +kernel
theorem xi_in6 : ∀ w ∈ u_ws (vwCl.getD 6 ("", xn_T0, 0)).1 xn_T6 (vwCl.getD 6 ("", xn_T0, 0)).2.2, w ∈ lw_tbl := by decide +kernel
theorem xi_gw6 : ∀ w ∈ u_ws (vwCl.getD 6 ("", xn_T0, 0)).1 xn_T6 (vwCl.getD 6 ("", xn_T0, 0)).2.2, goodWord w = true := by decide +kernel
theorem xi_nx0 : Cond.initialized "java/lang/Math" ∈ xi_wd := xi_mem_in (h := 69) (by decide +kernel)
theorem xi_nx1 : Cond.static Lib.Math.max.name ∈ xi_wd := xi_mem_in (h := 499) (by decide +kernel)
theorem xi_nx2 : Cond.code Lib.Math.max.name Lib.Math.max.code 2 (some .int) ∈ xi_wd := xi_mem_in (h := 500) (by decide +kernel)
theorem xi_nx3 : Cond.static Lib.MathLoose.max_long.x ∈ xi_wd := xi_mem_in (h := 496) (by decide +kernel)
theorem xi_nx4 : Cond.code Lib.MathLoose.max_long.x Lib.MathLoose.max_long.code 4 (some .long) ∈ xi_wd := xi_mem_in (h := 497) (by decide +kernel)
theorem xi_nx5 : Cond.static Lib.MathLoose.min_long.x ∈ xi_wd := xi_mem_in (h := 514) (by decide +kernel)
theorem xi_nx6 : Cond.code Lib.MathLoose.min_long.x Lib.MathLoose.min_long.code 4 (some .long) ∈ xi_wd := xi_mem_in (h := 515) (by decide +kernel)
theorem xi_nx7 : Cond.native arraycopyName ∈ xi_wd := xi_mem_in (h := 537) (by decide +kernel)
theorem xi_nx8 : Cond.static arraycopyName ∈ xi_wd := xi_mem_in (h := 536) (by decide +kernel)
theorem xi_nx9 : Cond.initialized "java/lang/System" ∈ xi_wd := xi_mem_in (h := 71) (by decide +kernel)
theorem xi_wd_good {w : Cond} (h : w ∈ xi_wd) : (w.onTables && w.keeps) = true ∨ ∃ ty, w = .arrayClass ty := good_of_word (List.mem_filter.mp h).2
theorem xi_w {p : Program} {m : MethodId} {c : Code} {s : State} {args : Array Value} {k : Nat} {w : Cond} (hC : CallFix p m c (mC k) (mL k) s args (mW k) (mO k)) (h : w ∈ xi_wd) : w.before args s = true := hC.2.2.2.2 w (List.mem_cons_of_mem _ h)
theorem xi_goodIn {k k' : Nat} (hc : Cond.code (mY k') (mC k') (mL k') (mR k') ∈ xi_wd) : GoodIn (mW k) (mW k') := by
  intro w hw
  rcases List.mem_cons.mp hw with rfl | hw
  · exact ⟨List.mem_cons_of_mem _ hc, xi_wd_good hc⟩
  · exact ⟨List.mem_cons_of_mem _ hw, xi_wd_good hw⟩
def xi_mh (k : Nat) : Nat × Nat × Nat × Nat := mH.getD k (0, 0, 0, 0)
/-- what is asked of each method once -/
def xi_FK (k : Nat) : Prop := Cond.code (mY k) (mC k) (mL k) (mR k) ∈ xi_wd ∧ (mS k = true → Cond.static (mY k) ∈ xi_wd) ∧ (mS k = false → Cond.instanceMethod (mY k) ∈ xi_wd ∧ Cond.selects (mO k) (mY k) (mY k) ∈ xi_wd) ∧ Cond.initialized (mO k) ∈ xi_wd ∧ (mO k ≠ "java/lang/invoke/MethodHandle" ∧ mO k ≠ "java/lang/invoke/VarHandle" ∧ (parseMethodDescriptor (mY k).desc).map (fun d => d.parameters.length) = some (mN k)) ∧ mL k ≤ 45 ∧ plainName (mO k) = true
theorem xi_gin {h : Nat} {w : Cond} (h1 : lw_tbl[h]? = some w) (h2 : goodWord w = true) : w ∈ xi_wd := List.mem_filter.mpr ⟨List.mem_of_getElem? h1, h2⟩
def xi_cls (ci k : Nat) : Bool := match vwCl[ci]? with
  | some q => decide (q.1 = mO k)
  | none => false
def xi_tsl (pc lo : Int) : List Int → List (Int × Int)
  | [] => []
  | a :: r => (lo, pc + a) :: xi_tsl pc (lo + 1) r
def xi_nn (l : List (Int × Int)) : Bool := l.all (fun a => decide (0 ≤ a.2))
def xi_fd (k idx ci j h : Nat) (ty : String) (fin : Bool) : Bool := match vwCl[ci]? with
  | some q => Nat.blt j q.2.2 && (decide ((q.2.1 j).1 = q.1 ∧ (ty = "" ∨ ((q.2.1 j).2.2.1 = ty ∧ (q.2.1 j).2.2.2 = fin))) && xi_mem h (.fieldLink (mO k) idx q.1 (q.2.1 j).2.1 (q.2.1 j).2.2.1))
  | none => false
def xi_pl (i : Jvm.ClassFile.Instr) : Bool := match i with
  | .iadd | .isub | .imul | .iand | .ior | .ixor | .ishl | .ishr | .ineg | .i2l | .i2c | .l2i | .ladd | .lsub | .lmul | .land | .lor | .lushr | .lshl | .lshr | .dup | .pop | .dup_x1 | .dup2 => true
  | .iaload | .baload | .caload | .laload | .iastore | .bastore | .castore | .lastore | .idiv => true
  | _ => false
def xi_df (i : Jvm.ClassFile.Instr) (len : Nat) (q : xi_E) : Bool := xi_pl i && decide (len = 1 ∧ q.1 = i)
theorem xi_df_ok {i : Jvm.ClassFile.Instr} {len : Nat} {q : xi_E} (h : xi_df i len q = true) : xi_pl i = true ∧ len = 1 ∧ q.1 = i := by
  unfold xi_df at h
  rw [Bool.and_eq_true, decide_eq_true_eq] at h
  exact h
def xi_cki (k pc : Nat) (i : Jvm.ClassFile.Instr) (len : Nat) (q : xi_E) (h : Nat) : Bool := match i with
  | .iconst z => decide (len = 1 ∧ q.1 = .ldc 1 ∧ q.2.1 = .int (Int32.ofInt z))
  | .bipush z => decide (len = 2 ∧ q.1 = .ldc 2 ∧ q.2.1 = .int (Int8.ofInt z).toInt32)
  | .sipush z => decide (len = 3 ∧ q.1 = .ldc 3 ∧ q.2.1 = .int (Int16.ofInt z).toInt32)
  | .lconst z => decide (len = 1 ∧ q.1 = .ldc 1 ∧ q.2.1 = .long (Int64.ofNat z))
  | .ldc a => (match q.2.1 with
    | .int v => decide (len = 2 ∧ q.1 = .ldc 2) && xi_mem h (.constant (mO k) a v)
    | _ => false)
  | .ldc2_w a => (match q.2.1 with
    | .long v => decide (len = 3 ∧ q.1 = .ldc 3) && xi_mem h (.constantLong (mO k) a v)
    | _ => false)
  | .iload_n f => decide (len = 1 ∧ q.1 = .iload f ∧ q.2.1 = .ref 1)
  | .iload j => decide (len = 2 ∧ q.1 = .iload j ∧ q.2.1 = .ref 2)
  | .lload_n f => decide (len = 1 ∧ q.1 = .lload f ∧ q.2.1 = .ref 1)
  | .lload j => decide (len = 2 ∧ q.1 = .lload j ∧ q.2.1 = .ref 2)
  | .aload_n f => decide (len = 1 ∧ q.1 = .aload f ∧ q.2.1 = .ref 1)
  | .aload j => decide (len = 2 ∧ q.1 = .aload j ∧ q.2.1 = .ref 2)
  | .istore_n f => decide (len = 1 ∧ q.1 = .istore f ∧ q.2.1 = .ref 1)
  | .istore j => decide (len = 2 ∧ q.1 = .istore j ∧ q.2.1 = .ref 2)
  | .lstore_n f => decide (len = 1 ∧ q.1 = .lstore f ∧ q.2.1 = .ref 1)
  | .lstore j => decide (len = 2 ∧ q.1 = .lstore j ∧ q.2.1 = .ref 2)
  | .iinc j z => decide (len = 3 ∧ q.1 = .iinc j 0 ∧ q.2.1 = .int (Int32.ofInt z))
  | .ifCond cn off => decide (len = 3 ∧ q.1 = .ifCond cn 0 ∧ (pc : Int) + off = (xi_n q.2.1 : Int))
  | .if_icmp cn off => decide (len = 3 ∧ q.1 = .if_icmp cn 0 ∧ (pc : Int) + off = (xi_n q.2.1 : Int))
  | .goto off => decide (len = 3 ∧ q.1 = .goto 0 ∧ (pc : Int) + off = (xi_n q.2.1 : Int))
  | .tableswitch d lo hi offs => (match q.1 with
    | .lookupswitch d' ps => decide (ps.toList = xi_tsl pc lo offs.toList ∧ d' = (pc : Int) + d ∧ 0 ≤ d' ∧ hi + 1 = lo + (offs.toList.length : Int)) && xi_nn ps.toList
    | _ => false)
  | .lookupswitch d ps0 => (match q.1 with
    | .lookupswitch d' ps => decide (ps.toList = ps0.toList.map (fun a => (a.1, (pc : Int) + a.2)) ∧ d' = (pc : Int) + d ∧ 0 ≤ d') && ((ps0.toList.zip (ps0.toList.drop 1)).all (fun (a, next) => a.1 < next.1) && xi_nn ps.toList)
    | _ => false)
  | .getfield a => (match q.1 with
    | .getfield ci => decide (len = 3) && xi_fd k a ci (xi_n q.2.1) h "" false
    | _ => false)
  | .putfield a => (match q.1 with
    | .putfield ci => decide (len = 3) && xi_fd k a ci (xi_n q.2.1) h "I" false
    | .putstatic ci => decide (len = 3) && xi_fd k a ci (xi_n q.2.1) h "Z" false
    | _ => false)
  | .getstatic a => (match q.1 with
    | .getstatic r => decide (len = 3 ∧ ((mO k = "TimedCompiler$Bounds" ∧ a = 67 ∧ r = 1000) ∨ (mO k = "TimedCompiler$Bounds" ∧ a = 81 ∧ r = 1001) ∨ (mO k = "TimedCompiler$Machine" ∧ a = 56 ∧ r = 1000)))
    | _ => false)
  | .invokevirtual a => (match q.1 with
    | .invokeinterface k' ci => decide (len = 3) && (xi_mem h (.methodLink (mO k) a (mY k')) && (Nat.blt k' 117 && (xi_cls ci k' && decide (mS k' = false ∧ mN k' + 1 = xi_n q.2.1))))
    | _ => false)
  | .invokestatic a => (match q.1 with
    | .invokestatic k' => decide (len = 3) && (xi_mem h (.methodLink (mO k) a (mY k')) && (Nat.blt k' 117 && decide (mO k' = mO k ∧ mS k' = true ∧ mN k' = xi_n q.2.1)))
    | .invokedynamic z => decide (len = 3) && ((decide (z = 0) && xi_mem h (.methodLink (mO k) a Lib.Math.max.name)) || ((decide (z = 1) && xi_mem h (.methodLink (mO k) a Lib.MathLoose.max_long.x)) || ((decide (z = 2) && xi_mem h (.methodLink (mO k) a Lib.MathLoose.min_long.x)) || (decide (z = 3) && xi_mem h (.methodLink (mO k) a arraycopyName)))))
    | _ => false)
  | .ireturn => decide (len = 1 ∧ q.1 = .ireturn ∧ mR k = xi_rk (xi_n q.2.1))
  | .return_ => decide (len = 1 ∧ q.1 = .return_ ∧ mR k = none)
  | i => xi_df i len q
def xi_ck (k pc : Nat) (q : xi_E) (h : Nat) : Bool := match decode (mC k) pc with
  | .ok (i, len) => xi_cki k pc i len q h
  | _ => false
def xi_ca (k : Nat) : Nat → List (Option xi_E) → List Nat → Bool
  | _, [], _ => true
  | pc, none :: r, hs => xi_ca k (pc + 1) r hs
  | _, some _ :: _, [] => false
  | pc, some q :: r, h :: hs => xi_ck k pc q h && xi_ca k (pc + 1) r hs
/-! enough -/
section XICK
variable {k pc : Nat}

theorem xi_rc_iconst {z : Int} (hd : decode (mC k) pc = .ok (.iconst z, 1)) : xi_Rc k pc 1 (.int (Int32.ofInt z)) := by
  unfold xi_Rc
  exact ⟨fun _ => rfl, fun p l e R s m args below meth c H locs Q ls rest hC kk => lv_iconst hC.1 hC.2.1 hd rfl kk⟩
theorem xi_rc_bipush {z : Int} (hd : decode (mC k) pc = .ok (.bipush z, 2)) : xi_Rc k pc 2 (.int (Int8.ofInt z).toInt32) := by
  unfold xi_Rc
  exact ⟨fun _ => rfl, fun p l e R s m args below meth c H locs Q ls rest hC kk => lv_bipush hC.1 hC.2.1 hd rfl kk⟩
theorem xi_rc_sipush {z : Int} (hd : decode (mC k) pc = .ok (.sipush z, 3)) : xi_Rc k pc 3 (.int (Int16.ofInt z).toInt32) := by
  unfold xi_Rc
  exact ⟨fun _ => rfl, fun p l e R s m args below meth c H locs Q ls rest hC kk => lv_sipush hC.1 hC.2.1 hd rfl kk⟩
theorem xi_rc_lconst {z : Fin 2} (hd : decode (mC k) pc = .ok (.lconst z, 1)) : xi_Rc k pc 1 (.long (Int64.ofNat z)) := by
  unfold xi_Rc
  exact ⟨fun _ => rfl, fun p l e R s m args below meth c H locs Q ls rest hC kk => lv_lconst hC.1 hC.2.1 hd rfl kk⟩
theorem xi_rc_ldc {a : Nat} {v : Int32} (hd : decode (mC k) pc = .ok (.ldc a, 2)) (hw : Cond.constant (mO k) a v ∈ xi_wd) : xi_Rc k pc 2 (.int v) := by
  unfold xi_Rc
  exact ⟨fun _ => rfl, fun p l e R s m args below meth c H locs Q ls rest hC kk => lv_ldc hC.1 hC.2.1 hC.2.2.2.1 (xi_w hC hw) hd kk⟩
theorem xi_rc_ldc2 {a : Nat} {v : Int64} (hd : decode (mC k) pc = .ok (.ldc2_w a, 3)) (hw : Cond.constantLong (mO k) a v ∈ xi_wd) : xi_Rc k pc 3 (.long v) := by
  unfold xi_Rc
  exact ⟨fun _ => rfl, fun p l e R s m args below meth c H locs Q ls rest hC kk => lv_ldc2 hC.1 hC.2.1 hC.2.2.2.1 (xi_w hC hw) hd kk⟩
theorem xi_rl_in {f : Fin 4} (hd : decode (mC k) pc = .ok (.iload_n f, 1)) : xi_Rl k pc 1 f 0 := by
  intro p l e R s m args below meth c H locs Q ls rest v hv hC hl kk
  cases v with
  | int y => exact lv_iload_n hC.1 hC.2.1 hd rfl hl kk
  | _ => exact absurd hv (by simp [xi_kd])
theorem xi_rl_i {j : Nat} (hd : decode (mC k) pc = .ok (.iload j, 2)) : xi_Rl k pc 2 j 0 := by
  intro p l e R s m args below meth c H locs Q ls rest v hv hC hl kk
  cases v with
  | int y => exact lv_iload hC.1 hC.2.1 hd hl kk
  | _ => exact absurd hv (by simp [xi_kd])
theorem xi_rl_ln {f : Fin 4} (hd : decode (mC k) pc = .ok (.lload_n f, 1)) : xi_Rl k pc 1 f 1 := by
  intro p l e R s m args below meth c H locs Q ls rest v hv hC hl kk
  cases v with
  | long y => exact lv_lload_n hC.1 hC.2.1 hd rfl hl kk
  | _ => exact absurd hv (by simp [xi_kd])
theorem xi_rl_l {j : Nat} (hd : decode (mC k) pc = .ok (.lload j, 2)) : xi_Rl k pc 2 j 1 := by
  intro p l e R s m args below meth c H locs Q ls rest v hv hC hl kk
  cases v with
  | long y => exact lv_lload hC.1 hC.2.1 hd hl kk
  | _ => exact absurd hv (by simp [xi_kd])
theorem xi_rl_an {f : Fin 4} (hd : decode (mC k) pc = .ok (.aload_n f, 1)) : xi_Rl k pc 1 f 2 := by
  intro p l e R s m args below meth c H locs Q ls rest v hv hC hl kk
  cases v with
  | ref y => exact lv_aload_n hC.1 hC.2.1 hd rfl hl kk
  | _ => exact absurd hv (by simp [xi_kd])
theorem xi_rl_a {j : Nat} (hd : decode (mC k) pc = .ok (.aload j, 2)) : xi_Rl k pc 2 j 2 := by
  intro p l e R s m args below meth c H locs Q ls rest v hv hC hl kk
  cases v with
  | ref y => exact lv_aload hC.1 hC.2.1 hd hl kk
  | _ => exact absurd hv (by simp [xi_kd])
theorem xi_r1_in {f : Fin 4} (hd : decode (mC k) pc = .ok (.istore_n f, 1)) : xi_R1 k pc 1 f 0 := by
  intro p l e R s m args below meth c H locs Q ls rest v lv hv hC hl hj kk
  cases v with
  | int y => exact lv_istore_n hC.1 hC.2.1 hd rfl hl hj rfl kk
  | _ => exact absurd hv (by simp [xi_kd])
theorem xi_r1_i {j : Nat} (hd : decode (mC k) pc = .ok (.istore j, 2)) : xi_R1 k pc 2 j 0 := by
  intro p l e R s m args below meth c H locs Q ls rest v lv hv hC hl hj kk
  cases v with
  | int y => exact lv_istore hC.1 hC.2.1 hd hl hj rfl kk
  | _ => exact absurd hv (by simp [xi_kd])
theorem xi_r2_n {f : Fin 4} (hd : decode (mC k) pc = .ok (.lstore_n f, 1)) : xi_R2 k pc 1 f := by
  intro p l e R s m args below meth c H locs Q ls rest y lv hC hl hj kk
  exact lv_lstore_n hC.1 hC.2.1 hd rfl hl hj rfl kk
theorem xi_r2_j {j : Nat} (hd : decode (mC k) pc = .ok (.lstore j, 2)) : xi_R2 k pc 2 j := by
  intro p l e R s m args below meth c H locs Q ls rest y lv hC hl hj kk
  exact lv_lstore hC.1 hC.2.1 hd hl hj rfl kk
theorem xi_nn_swt {y : Int32} : ∀ {l : List (Int × Int)} {d : Int}, xi_nn l = true → 0 ≤ d → 0 ≤ xi_swt y l d
  | [], _, _, hd => hd
  | (a, t) :: r, d, h, hd => by
    unfold xi_nn at h
    rw [List.all_cons, Bool.and_eq_true, decide_eq_true_eq] at h
    unfold xi_swt
    split
    · exact h.1
    · exact xi_nn_swt (l := r) h.2 hd
theorem xi_tsl_out {y : Int32} {pc : Int} : ∀ (l : List Int) (lo d : Int), y.toInt < lo ∨ lo + (l.length : Int) ≤ y.toInt → xi_swt y (xi_tsl pc lo l) d = d
  | [], _, _, _ => rfl
  | a :: r, lo, d, h => by
    unfold xi_tsl xi_swt
    rw [List.length_cons] at h
    rw [if_neg (by omega)]
    exact xi_tsl_out r (lo + 1) d (by omega)
theorem xi_tsl_in {y : Int32} {pc : Int} : ∀ (l : List Int) (lo d a : Int), ¬ y.toInt < lo → l[(y.toInt - lo).toNat]? = some a → xi_swt y (xi_tsl pc lo l) d = pc + a
  | [], _, _, _, _, h => by simp at h
  | b :: r, lo, d, a, h0, h => by
    unfold xi_tsl xi_swt
    by_cases he : y.toInt = lo
    · rw [if_pos he]
      rw [show (y.toInt - lo).toNat = 0 by omega] at h
      simp at h
      rw [h]
    · rw [if_neg he]
      rw [show (y.toInt - lo).toNat = (y.toInt - (lo + 1)).toNat + 1 by omega] at h
      exact xi_tsl_in r (lo + 1) d a (by omega) (by simpa using h)
theorem xi_rw_table {d lo hi : Int} {offs : Array Int} {len : Nat} {ps : List (Int × Int)} {d' : Int} (hd : decode (mC k) pc = .ok (.tableswitch d lo hi offs, len)) (h : ps = xi_tsl pc lo offs.toList ∧ d' = (pc : Int) + d ∧ 0 ≤ d' ∧ hi + 1 = lo + (offs.toList.length : Int)) (hn : xi_nn ps = true) : xi_Rw k pc ps d' := by
  obtain ⟨h1, h2, h3, h4⟩ := h
  intro p l e R s m args below meth c H locs Q ls rest y hC kk
  have hpos : 0 ≤ xi_swt y ps d' := xi_nn_swt hn h3
  by_cases hin : y.toInt < lo ∨ hi < y.toInt
  · have e1 : xi_swt y ps d' = (pc : Int) + d := by rw [h1, xi_tsl_out _ _ _ (by omega), h2]
    exact lv_tableOut hC.1 hC.2.1 hd hin (by rw [← e1]; omega) kk
  · have hlt : (y.toInt - lo).toNat < offs.toList.length := by omega
    have ho : offs.toList[(y.toInt - lo).toNat]? = some offs.toList[(y.toInt - lo).toNat] := List.getElem?_eq_getElem hlt
    have e1 := xi_tsl_in (pc := (pc : Int)) offs.toList lo d' _ (by omega) ho
    rw [← h1] at e1
    exact lv_tableIn hC.1 hC.2.1 hd (by omega) (by omega) (by rw [← Array.getElem?_toList]; exact ho) (by rw [← e1]; omega) kk
theorem xi_look {y : Int32} {pc : Int} : ∀ (l : List (Int × Int)) (d : Int), xi_swt y (l.map (fun a => (a.1, pc + a.2))) (pc + d) = pc + Op.lookupswitch.offset l d y.toInt
  | [], _ => by rw [Op.lookupswitch.offset_nil]; rfl
  | (a, t) :: r, d => by
    rw [List.map_cons, Op.lookupswitch.offset_cons]
    unfold xi_swt
    by_cases he : y.toInt = a
    · rw [if_pos he, if_pos (by first | exact he | exact he.symm)]
    · rw [if_neg he, if_neg (by first | exact he | exact fun q => he q.symm)]
      exact xi_look r d
theorem xi_rw_look {d : Int} {ps0 : Array (Int × Int)} {len : Nat} {ps : List (Int × Int)} {d' : Int} (hd : decode (mC k) pc = .ok (.lookupswitch d ps0, len)) (h : ps = ps0.toList.map (fun a => (a.1, (pc : Int) + a.2)) ∧ d' = (pc : Int) + d ∧ 0 ≤ d') (hs : (ps0.toList.zip (ps0.toList.drop 1)).all (fun (a, next) => a.1 < next.1) = true) (hn : xi_nn ps = true) : xi_Rw k pc ps d' := by
  obtain ⟨h1, h2, h3⟩ := h
  intro p l e R s m args below meth c H locs Q ls rest y hC kk
  have hpos : 0 ≤ xi_swt y ps d' := xi_nn_swt hn h3
  have e1 := xi_look (y := y) (pc := (pc : Int)) ps0.toList d
  rw [← h1, ← h2] at e1
  exact lv_lookup hC.1 hC.2.1 hd hs rfl (by rw [← e1]; omega) kk
theorem xi_fd_spec {idx ci j h : Nat} {ty : String} {fin : Bool} (hf : xi_fd k idx ci j h ty fin = true) : ∃ C T n, vwCl[ci]? = some (C, T, n) ∧ j < n ∧ (T j).1 = C ∧ (ty = "" ∨ ((T j).2.2.1 = ty ∧ (T j).2.2.2 = fin)) ∧ Cond.fieldLink (mO k) idx C (T j).2.1 (T j).2.2.1 ∈ xi_wd := by
  unfold xi_fd at hf
  split at hf
  · rename_i q hq
    obtain ⟨C, T, n⟩ := q
    rw [Bool.and_eq_true, Bool.and_eq_true, decide_eq_true_eq] at hf
    obtain ⟨h1, ⟨h2, h3⟩, h4⟩ := hf
    exact ⟨C, T, n, hq, Nat.le_of_ble_eq_true h1, h2, h3, xi_mem_in h4⟩
  · cases hf
/-- the fields' words of each class of the world are there -/
theorem xi_uws : ∀ (ci : Nat) (C : String) (T : u_T) (n : Nat), vwCl[ci]? = some (C, T, n) → ∀ w ∈ u_ws C T n, w ∈ xi_wd := by
  intro ci C T n h
  match ci, h with
  | 0, h =>
    cases h
    exact fun w hw => List.mem_filter.mpr ⟨xi_in0 w hw, xi_gw0 w hw⟩
  | 1, h =>
    cases h
    exact fun w hw => List.mem_filter.mpr ⟨xi_in1 w hw, xi_gw1 w hw⟩
  | 2, h =>
    cases h
    exact fun w hw => List.mem_filter.mpr ⟨xi_in2 w hw, xi_gw2 w hw⟩
  | 3, h =>
    cases h
    exact fun w hw => List.mem_filter.mpr ⟨xi_in3 w hw, xi_gw3 w hw⟩
  | 4, h =>
    cases h
    exact fun w hw => List.mem_filter.mpr ⟨xi_in4 w hw, xi_gw4 w hw⟩
  | 5, h =>
    cases h
    exact fun w hw => List.mem_filter.mpr ⟨xi_in5 w hw, xi_gw5 w hw⟩
  | 6, h =>
    cases h
    exact fun w hw => List.mem_filter.mpr ⟨xi_in6 w hw, xi_gw6 w hw⟩
  | _ + 7, h => cases h
theorem xi_names : ∀ (ci : Nat) (C : String) (T : u_T) (n : Nat), vwCl[ci]? = some (C, T, n) → (∀ a, a < n → ∀ b, b < n → a ≠ b → (T a).2.1 ≠ (T b).2.1) ∧ ∃ ty : Nat → FieldType, ∀ j, j < n → parseFieldDescriptor (T j).2.2.1 = some (ty j) := by
  intro ci C T n h
  match ci, h with
  | 0, h =>
    cases h
    exact ⟨xn_n0, xn_t0, xn_o0⟩
  | 1, h =>
    cases h
    exact ⟨xn_n1, xn_t1, xn_o1⟩
  | 2, h =>
    cases h
    exact ⟨xn_n2, xn_t2, xn_o2⟩
  | 3, h =>
    cases h
    exact ⟨xn_n3, xn_t3, xn_o3⟩
  | 4, h =>
    cases h
    exact ⟨xn_n4, xn_t4, xn_o4⟩
  | 5, h =>
    cases h
    exact ⟨xn_n5, xn_t5, xn_o5⟩
  | 6, h =>
    cases h
    exact ⟨xn_n6, xn_t6, xn_o6⟩
  | _ + 7, h => cases h
theorem xi_rf_ok {a ci j h : Nat} (hd : decode (mC k) pc = .ok (.getfield a, 3)) (hf : xi_fd k a ci j h "" false = true) : xi_Rf k pc ci j := by
  obtain ⟨C, T, n, h1, h2, h3, -, h5⟩ := xi_fd_spec hf
  intro p l e R s m args below meth c H locs Q ls rest D tys ws q0 ad fs v hC hK hP he hv kk
  exact va_get hC.1 hC.2.1 hC.2.2.2.2 (fun w hw => List.mem_cons_of_mem _ (xi_uws ci C T n h1 w hw)) hC.2.2.2.1 hK hP q0 he h1 j h2 (xi_w hC h5) (fun z hz => by rw [← h3]; exact hz) hv hd kk
theorem xi_rp_ok {a ci j h : Nat} (hd : decode (mC k) pc = .ok (.putfield a, 3)) (hf : xi_fd k a ci j h "I" false = true) : xi_Rp false k pc ci j := by
  obtain ⟨C, T, n, h1, h2, h3, h4, h5⟩ := xi_fd_spec hf
  obtain ⟨h6, h7⟩ := h4.resolve_left (by decide)
  obtain ⟨hnm, ty, hty⟩ := xi_names ci C T n h1
  intro p l e R s m args below meth c H locs Q ls rest D tys ws A H0 q0 ad fs y _ hC hK hP hD hS he hl kk
  exact va_put (ty := .int) hC.1 hC.2.1 hC.2.2.2.2 (fun w hw => List.mem_cons_of_mem _ (xi_uws ci C T n h1 w hw)) ty hty hnm hC.2.2.2.1 hK hP hD hS q0 he h1 j h2 (xi_w hC h5) (fun z hz => by rw [← h3]; exact hz) h7 (by rw [h6]; decide +kernel) rfl rfl hl hd kk
theorem xi_rb_ok {a ci j h : Nat} (hd : decode (mC k) pc = .ok (.putfield a, 3)) (hf : xi_fd k a ci j h "Z" false = true) : xi_Rp true k pc ci j := by
  obtain ⟨C, T, n, h1, h2, h3, h4, h5⟩ := xi_fd_spec hf
  obtain ⟨h6, h7⟩ := h4.resolve_left (by decide)
  obtain ⟨hnm, ty, hty⟩ := xi_names ci C T n h1
  intro p l e R s m args below meth c H locs Q ls rest D tys ws A H0 q0 ad fs y hy hC hK hP hD hS he hl kk
  have hf2 : fits .boolean (.int y) = true := by rcases hy rfl with rfl | rfl <;> rfl
  exact va_put (ty := .boolean) hC.1 hC.2.1 hC.2.2.2.2 (fun w hw => List.mem_cons_of_mem _ (xi_uws ci C T n h1 w hw)) ty hty hnm hC.2.2.2.1 hK hP hD hS q0 he h1 j h2 (xi_w hC h5) (fun z hz => by rw [← h3]; exact hz) h7 (by rw [h6]; decide +kernel) (xi_nb (hy rfl)) hf2 hl hd kk
theorem xi_rg_ok {a r : Nat} (hd : decode (mC k) pc = .ok (.getstatic a, 3)) (hf : (mO k = "TimedCompiler$Bounds" ∧ a = 67 ∧ r = 1000) ∨ (mO k = "TimedCompiler$Bounds" ∧ a = 81 ∧ r = 1001) ∨ (mO k = "TimedCompiler$Machine" ∧ a = 56 ∧ r = 1000)) : xi_Rg k pc r := by
  intro p l e R s m args below meth c H locs Q ls rest ad A hC hZ hS kk
  have hown := hC.2.2.2.1
  rcases hf with ⟨ho, rfl, rfl⟩ | ⟨ho, rfl, rfl⟩ | ⟨ho, rfl, rfl⟩
  · rw [ho] at hown
    exact va_getsN hC.1 hC.2.1 hZ.1.1 hS hown (va_Nw.use rfl hZ.2.2.1) (fun z hz => hz) hd kk
  · rw [ho] at hown
    exact va_getsN hC.1 hC.2.1 hZ.2.1.1 hS hown (va_Nw.use rfl hZ.2.2.2.1) (fun z hz => hz) hd kk
  · rw [ho] at hown
    exact va_getsN hC.1 hC.2.1 hZ.1.1 hS hown (va_Nw.use rfl hZ.2.2.2.2) (fun z hz => hz) hd kk
theorem xi_rv_ok (hF : ∀ k, k < 117 → xi_FK k) {a k' ci n h : Nat} (hd : decode (mC k) pc = .ok (.invokevirtual a, 3)) (hf : (xi_mem h (.methodLink (mO k) a (mY k')) && (Nat.blt k' 117 && (xi_cls ci k' && decide (mS k' = false ∧ mN k' + 1 = n)))) = true) : xi_Rv k pc k' ci n := by
  rw [Bool.and_eq_true, Bool.and_eq_true, Bool.and_eq_true, decide_eq_true_eq] at hf
  obtain ⟨hm, hk, hc, hs, hn⟩ := hf
  obtain ⟨f1, -, f3, f4, f5, f6, -⟩ := hF k' (Nat.le_of_ble_eq_true hk)
  obtain ⟨f7, f8⟩ := f3 hs
  refine ⟨f6, ?_, ?_⟩
  · unfold xi_cls at hc
    split at hc
    · rename_i q hq
      exact ⟨q, hq, by simpa using hc⟩
    · cases hc
  · intro p l e R s m args below meth c H locs Q ls rest rm Pc Qc free b As hC hM hrc hrs hfr hlo hp hlen hsz hcm
    have hG : GoodIn (mW k) (wsV (mO k) a (mO k') (mY k') (mW k')) := by
      unfold wsV
      intro w hw
      rcases List.mem_append.mp hw with hw | hw
      · simp only [List.mem_cons, List.not_mem_nil, or_false] at hw
        rcases hw with rfl | rfl | rfl | rfl
        · exact ⟨List.mem_cons_of_mem _ (xi_mem_in hm), xi_wd_good (xi_mem_in hm)⟩
        · exact ⟨List.mem_cons_of_mem _ f7, xi_wd_good f7⟩
        · exact ⟨List.mem_cons_of_mem _ f8, xi_wd_good f8⟩
        · exact ⟨List.mem_cons_of_mem _ f4, xi_wd_good f4⟩
      · exact xi_goodIn f1 w hw
    exact va_runV hC hM (cwV (mN k') hC.2.2.2.2 hG rfl hrc hrs ⟨rfl, f5⟩ ⟨hfr, hlo⟩) hp rfl (by omega) hsz rfl (lv_room hcm) hd ⟨Nat.zero_le _, Nat.zero_le _⟩
theorem xi_rs_ok (hF : ∀ k, k < 117 → xi_FK k) {a k' n h : Nat} (hd : decode (mC k) pc = .ok (.invokestatic a, 3)) (hf : (xi_mem h (.methodLink (mO k) a (mY k')) && (Nat.blt k' 117 && decide (mO k' = mO k ∧ mS k' = true ∧ mN k' = n))) = true) : xi_Rs k pc k' n := by
  rw [Bool.and_eq_true, Bool.and_eq_true, decide_eq_true_eq] at hf
  obtain ⟨hm, hk, ho, hs, hn⟩ := hf
  obtain ⟨f1, f2, -, f4, f5, f6, -⟩ := hF k' (Nat.le_of_ble_eq_true hk)
  have f7 := f2 hs
  refine ⟨f6, ?_⟩
  intro p l e R s m args below meth c H locs Q ls rest rm Pc Qc free As hC hM hrc hrs hfr hlo hp hlen hsz hcm
  have hG : GoodIn (mW k) (wsS (mO k) a (mY k') (mW k')) := by
    unfold wsS
    intro w hw
    rcases List.mem_append.mp hw with hw | hw
    · simp only [List.mem_cons, List.not_mem_nil, or_false] at hw
      rcases hw with rfl | rfl | rfl
      · exact ⟨List.mem_cons_of_mem _ (xi_mem_in hm), xi_wd_good (xi_mem_in hm)⟩
      · exact ⟨List.mem_cons_of_mem _ f7, xi_wd_good f7⟩
      · rw [← ho]; exact ⟨List.mem_cons_of_mem _ f4, xi_wd_good f4⟩
    · exact xi_goodIn f1 w hw
  exact va_runS hC hM (cwS (mN k') hC.2.2.2.2 hG rfl hrc hrs ⟨ho, f5⟩ ⟨hfr, hlo⟩) hp rfl (hlen.trans hn.symm) hsz rfl (lv_room hcm) hd ⟨Nat.zero_le _, Nat.zero_le _⟩
theorem xi_r0_ok {a h : Nat} (hd : decode (mC k) pc = .ok (.invokestatic a, 3)) (hm : xi_mem h (.methodLink (mO k) a Lib.Math.max.name) = true) : xi_R0 k pc := by
  intro p l e R s m args below meth c H locs Q ls rest y z hC hsz hfr hlo hcm kk
  exact va_mmax hC.1 hC.2.1 (hC.2.2.1.trans hsz.symm) hC.2.2.2.1 (xi_w hC (xi_mem_in hm)) (xi_w hC xi_nx1) (xi_w hC xi_nx0) (xi_w hC xi_nx2) hfr (by omega) (Nat.zero_le _) (Nat.zero_le _) hd kk
theorem xi_ra_ok {a h : Nat} (hd : decode (mC k) pc = .ok (.invokestatic a, 3)) (hm : xi_mem h (.methodLink (mO k) a Lib.MathLoose.max_long.x) = true) : xi_Ra k pc := by
  intro p l e R s m args below meth c H locs Q ls rest y z hC hsz hfr hlo hcm kk
  exact va_mmax_long hC.1 hC.2.1 (hC.2.2.1.trans hsz.symm) hC.2.2.2.1 (xi_w hC (xi_mem_in hm)) (xi_w hC xi_nx3) (xi_w hC xi_nx0) (xi_w hC xi_nx4) hfr (by omega) (Nat.zero_le _) (Nat.zero_le _) hd kk
theorem xi_rbb_ok {a h : Nat} (hd : decode (mC k) pc = .ok (.invokestatic a, 3)) (hm : xi_mem h (.methodLink (mO k) a Lib.MathLoose.min_long.x) = true) : xi_Rb k pc := by
  intro p l e R s m args below meth c H locs Q ls rest y z hC hsz hfr hlo hcm kk
  exact va_mmin_long hC.1 hC.2.1 (hC.2.2.1.trans hsz.symm) hC.2.2.2.1 (xi_w hC (xi_mem_in hm)) (xi_w hC xi_nx5) (xi_w hC xi_nx0) (xi_w hC xi_nx6) hfr (by omega) (Nat.zero_le _) (Nat.zero_le _) hd kk
theorem xi_ry_ok {a h : Nat} (hd : decode (mC k) pc = .ok (.invokestatic a, 3)) (hm : xi_mem h (.methodLink (mO k) a arraycopyName) = true) : xi_Ry k pc := by
  intro p l e R s m args below meth c H locs Q ls rest D tys ws A H0 q0 q1 t0 t1 a0 a c0 c1 n0 n1 f g sp dp n hC hsz hfr hlo hcm hK hP hD hS ha0 ha1 ht0 ht1 h1 h2 h3 h4 h5 kk
  exact va_copyi hC.1 hC.2.1 (hC.2.2.1.trans hsz.symm) hC.2.2.2.1 (xi_w hC (xi_mem_in hm)) (xi_w hC xi_nx7) (xi_w hC xi_nx8) (xi_w hC xi_nx9) hK hP hD hS q0 q1 t0 t1 ha0 ha1 ht0 ht1 rfl h1 h2 h3 h4 h5 (fun _ _ => rfl) hfr (Nat.le_trans (Nat.add_le_add hcm (show nativeFrameWords "java/lang/System" "arraycopy" 5 + 11 ≤ 56 by decide +kernel)) hlo) hd kk
theorem xi_cki_ok (hF : ∀ k, k < 117 → xi_FK k) {i : Jvm.ClassFile.Instr} {len h : Nat} {q : xi_E} (hd : decode (mC k) pc = .ok (i, len)) (hk : xi_cki k pc i len q h = true) : xi_ok k pc q := by
  obtain ⟨j, v, bs⟩ := q
  cases i with
  | iconst z =>
    obtain ⟨rfl, rfl, rfl⟩ := of_decide_eq_true hk
    exact xi_rc_iconst hd
  | bipush z =>
    obtain ⟨rfl, rfl, rfl⟩ := of_decide_eq_true hk
    exact xi_rc_bipush hd
  | sipush z =>
    obtain ⟨rfl, rfl, rfl⟩ := of_decide_eq_true hk
    exact xi_rc_sipush hd
  | lconst z =>
    obtain ⟨rfl, rfl, rfl⟩ := of_decide_eq_true hk
    exact xi_rc_lconst hd
  | iload_n f =>
    obtain ⟨rfl, rfl, rfl⟩ := of_decide_eq_true hk
    exact xi_rl_in hd
  | iload j =>
    obtain ⟨rfl, rfl, rfl⟩ := of_decide_eq_true hk
    exact xi_rl_i hd
  | lload_n f =>
    obtain ⟨rfl, rfl, rfl⟩ := of_decide_eq_true hk
    exact xi_rl_ln hd
  | lload j =>
    obtain ⟨rfl, rfl, rfl⟩ := of_decide_eq_true hk
    exact xi_rl_l hd
  | aload_n f =>
    obtain ⟨rfl, rfl, rfl⟩ := of_decide_eq_true hk
    exact xi_rl_an hd
  | aload j =>
    obtain ⟨rfl, rfl, rfl⟩ := of_decide_eq_true hk
    exact xi_rl_a hd
  | istore_n f =>
    obtain ⟨rfl, rfl, rfl⟩ := of_decide_eq_true hk
    exact xi_r1_in hd
  | istore j =>
    obtain ⟨rfl, rfl, rfl⟩ := of_decide_eq_true hk
    exact xi_r1_i hd
  | lstore_n f =>
    obtain ⟨rfl, rfl, rfl⟩ := of_decide_eq_true hk
    exact xi_r2_n hd
  | lstore j =>
    obtain ⟨rfl, rfl, rfl⟩ := of_decide_eq_true hk
    exact xi_r2_j hd
  | ldc a =>
    unfold xi_cki at hk
    dsimp only at hk
    split at hk
    · rw [Bool.and_eq_true, decide_eq_true_eq] at hk
      obtain ⟨⟨rfl, rfl⟩, hm⟩ := hk
      exact xi_rc_ldc hd (xi_mem_in hm)
    · cases hk
  | ldc2_w a =>
    unfold xi_cki at hk
    dsimp only at hk
    split at hk
    · rw [Bool.and_eq_true, decide_eq_true_eq] at hk
      obtain ⟨⟨rfl, rfl⟩, hm⟩ := hk
      exact xi_rc_ldc2 hd (xi_mem_in hm)
    · cases hk
  | iinc j z =>
    obtain ⟨rfl, rfl, rfl⟩ := of_decide_eq_true hk
    exact ⟨z, hd, rfl⟩
  | ifCond cn off =>
    obtain ⟨rfl, rfl, h3⟩ := of_decide_eq_true hk
    exact ⟨off, hd, h3⟩
  | if_icmp cn off =>
    obtain ⟨rfl, rfl, h3⟩ := of_decide_eq_true hk
    exact ⟨off, hd, h3⟩
  | goto off =>
    obtain ⟨rfl, rfl, h3⟩ := of_decide_eq_true hk
    exact ⟨off, hd, h3⟩
  | tableswitch d lo hi offs =>
    unfold xi_cki at hk
    dsimp only at hk
    split at hk
    · rw [Bool.and_eq_true, decide_eq_true_eq] at hk
      exact xi_rw_table hd hk.1 hk.2
    · cases hk
  | lookupswitch d ps0 =>
    unfold xi_cki at hk
    dsimp only at hk
    split at hk
    · rw [Bool.and_eq_true, Bool.and_eq_true, decide_eq_true_eq] at hk
      exact xi_rw_look hd hk.1 hk.2.1 hk.2.2
    · cases hk
  | getfield a =>
    unfold xi_cki at hk
    dsimp only at hk
    split at hk
    · rw [Bool.and_eq_true, decide_eq_true_eq] at hk
      obtain ⟨rfl, hf⟩ := hk
      exact xi_rf_ok hd hf
    · cases hk
  | putfield a =>
    unfold xi_cki at hk
    dsimp only at hk
    split at hk
    · rw [Bool.and_eq_true, decide_eq_true_eq] at hk
      obtain ⟨rfl, hf⟩ := hk
      exact xi_rp_ok hd hf
    · rw [Bool.and_eq_true, decide_eq_true_eq] at hk
      obtain ⟨rfl, hf⟩ := hk
      exact xi_rb_ok hd hf
    · cases hk
  | getstatic a =>
    unfold xi_cki at hk
    dsimp only at hk
    split at hk
    · rw [decide_eq_true_eq] at hk
      obtain ⟨rfl, hf⟩ := hk
      exact xi_rg_ok hd hf
    · cases hk
  | invokevirtual a =>
    unfold xi_cki at hk
    dsimp only at hk
    split at hk
    · rw [Bool.and_eq_true, decide_eq_true_eq] at hk
      obtain ⟨rfl, hf⟩ := hk
      exact xi_rv_ok hF hd hf
    · cases hk
  | invokestatic a =>
    unfold xi_cki at hk
    dsimp only at hk
    split at hk
    · rw [Bool.and_eq_true, decide_eq_true_eq] at hk
      obtain ⟨rfl, hf⟩ := hk
      exact xi_rs_ok hF hd hf
    · rw [Bool.and_eq_true, decide_eq_true_eq] at hk
      obtain ⟨rfl, hf⟩ := hk
      rw [Bool.or_eq_true, Bool.or_eq_true, Bool.or_eq_true, Bool.and_eq_true, Bool.and_eq_true, Bool.and_eq_true, Bool.and_eq_true, decide_eq_true_eq, decide_eq_true_eq, decide_eq_true_eq, decide_eq_true_eq] at hf
      rcases hf with ⟨rfl, hm⟩ | ⟨rfl, hm⟩ | ⟨rfl, hm⟩ | ⟨rfl, hm⟩
      · exact xi_r0_ok hd hm
      · exact xi_ra_ok hd hm
      · exact xi_rbb_ok hd hm
      · exact xi_ry_ok hd hm
    · cases hk
  | ireturn =>
    obtain ⟨rfl, rfl, h3⟩ := of_decide_eq_true hk
    exact ⟨hd, h3⟩
  | return_ =>
    obtain ⟨rfl, rfl, h3⟩ := of_decide_eq_true hk
    exact ⟨hd, h3⟩
  | _ =>
    first
    | exact absurd (show false = true from (xi_df_ok hk).1) Bool.false_ne_true
    | (obtain ⟨-, rfl, rfl⟩ := xi_df_ok hk
       exact hd)
theorem xi_ca_ok (hF : ∀ k, k < 117 → xi_FK k) : ∀ (tb : List (Option xi_E)) (hs : List Nat) (o pc : Nat) (q : xi_E), xi_ca k o tb hs = true → tb[pc]? = some (some q) → xi_ok k (o + pc) q
  | [], _, _, _, _, _, hq => by simp at hq
  | none :: r, hs, o, pc, q, h, hq => by
    cases pc with
    | zero => simp at hq
    | succ pc =>
      have := xi_ca_ok hF r hs (o + 1) pc q h (by simpa using hq)
      rw [show o + (pc + 1) = o + 1 + pc by omega]
      exact this
  | some y :: r, [], o, pc, q, h, hq => by cases h
  | some y :: r, h0 :: hs, o, pc, q, h, hq => by
    have h2 : xi_ck k o y h0 = true ∧ xi_ca k (o + 1) r hs = true := by
      have h3 : (xi_ck k o y h0 && xi_ca k (o + 1) r hs) = true := h
      rw [Bool.and_eq_true] at h3
      exact h3
    cases pc with
    | zero =>
      have : y = q := by simpa using hq
      subst this
      have h4 := h2.1
      unfold xi_ck at h4
      split at h4
      · rename_i i len hd
        exact xi_cki_ok hF hd h4
      · cases h4
    | succ pc =>
      have := xi_ca_ok hF r hs (o + 1) pc q h2.2 (by simpa using hq)
      rw [show o + (pc + 1) = o + 1 + pc by omega]
      exact this
end XICK
end
section
/-! The code tables: an entry at each program counter: the instruction with what it names resolved, its operand, which locals are alive (at a label). -/
/-- 0: TimedCompiler.type(J)Z -/
def xt_0 : List (Option xi_E) := [some (.aload 0, .ref 1, []),
  some (.getfield 0, .ref 0, []),
  none,
  none,
  some (.getfield 1, .ref 0, []),
  none,
  none,
  some (.lload 1, .ref 1, []),
  some (.invokeinterface 29 2, .ref 2, []),
  none,
  none,
  some (.ireturn, .ref 1, [])]
/-- 1: TimedCompiler.wipe()V -/
def xt_1 : List (Option xi_E) := [some (.aload 0, .ref 1, []),
  some (.getfield 0, .ref 0, []),
  none,
  none,
  some (.getfield 1, .ref 0, []),
  none,
  none,
  some (.ldc 1, .int 0, []),
  some (.putfield 2, .ref 1, []),
  none,
  none,
  some (.return_, .null, [])]
/-- 2: TimedCompiler.length()I -/
def xt_2 : List (Option xi_E) := [some (.aload 0, .ref 1, []),
  some (.getfield 0, .ref 0, []),
  none,
  none,
  some (.getfield 1, .ref 0, []),
  none,
  none,
  some (.getfield 2, .ref 1, []),
  none,
  none,
  some (.ireturn, .null, [])]
/-- 3: TimedCompiler.compile()I -/
def xt_3 : List (Option xi_E) := [some (.aload 0, .ref 1, []),
  some (.getfield 0, .ref 0, []),
  none,
  none,
  some (.invokeinterface 15 1, .ref 1, []),
  none,
  none,
  some (.ifCond .ne 0, .ref 18, []),
  none,
  none,
  none,
  none,
  none,
  none,
  none,
  none,
  none,
  none,
  some (.aload 0, .ref 1, [true]),
  some (.getfield 0, .ref 0, []),
  none,
  none,
  some (.invokeinterface 17 1, .ref 1, []),
  none,
  none,
  some (.aload 0, .ref 1, []),
  some (.getfield 0, .ref 1, []),
  none,
  none,
  some (.aload 0, .ref 1, []),
  some (.getfield 0, .ref 0, []),
  none,
  none,
  some (.getfield 1, .ref 1, []),
  none,
  none,
  some (.invokeinterface 48 4, .ref 2, []),
  none,
  none,
  some (.ifCond .ne 0, .ref 50, []),
  none,
  none,
  none,
  none,
  none,
  none,
  none,
  none,
  none,
  none,
  some (.aload 0, .ref 1, [true]),
  some (.getfield 0, .ref 2, []),
  none,
  none,
  some (.aload 0, .ref 1, []),
  some (.getfield 0, .ref 0, []),
  none,
  none,
  some (.getfield 1, .ref 1, []),
  none,
  none,
  some (.invokeinterface 41 3, .ref 2, []),
  none,
  none,
  some (.aload 0, .ref 1, []),
  some (.getfield 0, .ref 0, []),
  none,
  none,
  some (.getfield 1, .ref 0, []),
  none,
  none,
  some (.ldc 1, .int 0, []),
  some (.putfield 2, .ref 1, []),
  none,
  none,
  some (.aload 0, .ref 1, []),
  some (.getfield 0, .ref 3, []),
  none,
  none,
  some (.invokeinterface 57 5, .ref 1, []),
  none,
  none,
  some (.aload 0, .ref 1, []),
  some (.getfield 0, .ref 2, []),
  none,
  none,
  some (.getfield 3, .ref 2, []),
  none,
  none,
  some (.ireturn, .null, [])]
/-- 4: TimedCompiler.code(II)I -/
def xt_4 : List (Option xi_E) := [some (.aload 0, .ref 1, []),
  some (.invokeinterface 13 0, .ref 1, []),
  none,
  none,
  some (.iload 1, .ref 1, []),
  some (.ifCond .lt 0, .ref 19, []),
  none,
  none,
  some (.iload 1, .ref 1, [true, true, true]),
  some (.aload 0, .ref 1, []),
  some (.getfield 0, .ref 2, []),
  none,
  none,
  some (.getfield 3, .ref 2, []),
  none,
  none,
  some (.if_icmp .lt 0, .ref 21, []),
  none,
  none,
  some (.ldc 1, .int (-1), [false, false, false]),
  some (.ireturn, .null, []),
  some (.iload 2, .ref 1, [true, true, true]),
  some (.lookupswitch 68 #[(0, 48), (1, 58)], .null, []),
  none,
  none,
  none,
  none,
  none,
  none,
  none,
  none,
  none,
  none,
  none,
  none,
  none,
  none,
  none,
  none,
  none,
  none,
  none,
  none,
  none,
  none,
  none,
  none,
  none,
  some (.aload 0, .ref 1, [true, true, false]),
  some (.getfield 0, .ref 2, []),
  none,
  none,
  some (.getfield 3, .ref 0, []),
  none,
  none,
  some (.iload 1, .ref 1, []),
  some (.iaload, .null, []),
  some (.ireturn, .null, []),
  some (.aload 0, .ref 1, [true, true, false]),
  some (.getfield 0, .ref 2, []),
  none,
  none,
  some (.getfield 3, .ref 1, []),
  none,
  none,
  some (.iload 1, .ref 1, []),
  some (.iaload, .null, []),
  some (.ireturn, .null, []),
  some (.ldc 1, .int (-1), [false, false, false]),
  some (.ireturn, .null, [])]
/-- 5: TimedCompiler.time()I -/
def xt_5 : List (Option xi_E) := [some (.aload 0, .ref 1, []),
  some (.invokeinterface 13 0, .ref 1, []),
  none,
  none,
  some (.aload 0, .ref 1, []),
  some (.getfield 0, .ref 2, []),
  none,
  none,
  some (.getfield 3, .ref 5, []),
  none,
  none,
  some (.ldc 1, .int 4, []),
  some (.iaload, .null, []),
  some (.ireturn, .null, [])]
/-- 6: TimedCompiler.depth()I -/
def xt_6 : List (Option xi_E) := [some (.aload 0, .ref 1, []),
  some (.invokeinterface 13 0, .ref 1, []),
  none,
  none,
  some (.aload 0, .ref 1, []),
  some (.getfield 0, .ref 2, []),
  none,
  none,
  some (.getfield 3, .ref 6, []),
  none,
  none,
  some (.ldc 1, .int 4, []),
  some (.iaload, .null, []),
  some (.ireturn, .null, [])]
/-- 7: TimedCompiler.procedure(II)I -/
def xt_7 : List (Option xi_E) := [some (.aload 0, .ref 1, []),
  some (.invokeinterface 13 0, .ref 1, []),
  none,
  none,
  some (.iload 1, .ref 1, []),
  some (.ifCond .lt 0, .ref 24, []),
  none,
  none,
  some (.iload 1, .ref 1, [true, true, true]),
  some (.ldc 1, .int 4, []),
  some (.if_icmp .ge 0, .ref 24, []),
  none,
  none,
  some (.aload 0, .ref 1, [true, true, true]),
  some (.getfield 0, .ref 2, []),
  none,
  none,
  some (.iload 1, .ref 1, []),
  some (.invokeinterface 45 3, .ref 2, []),
  none,
  none,
  some (.ifCond .ne 0, .ref 26, []),
  none,
  none,
  some (.ldc 1, .int (-1), [false, false, false]),
  some (.ireturn, .null, []),
  some (.iload 2, .ref 1, [true, true, true]),
  some (.lookupswitch 82 #[(0, 52), (1, 62), (2, 72)], .null, []),
  none,
  none,
  none,
  none,
  none,
  none,
  none,
  none,
  none,
  none,
  none,
  none,
  none,
  none,
  none,
  none,
  none,
  none,
  none,
  none,
  none,
  none,
  none,
  none,
  some (.aload 0, .ref 1, [true, true, false]),
  some (.getfield 0, .ref 2, []),
  none,
  none,
  some (.getfield 3, .ref 3, []),
  none,
  none,
  some (.iload 1, .ref 1, []),
  some (.iaload, .null, []),
  some (.ireturn, .null, []),
  some (.aload 0, .ref 1, [true, true, false]),
  some (.getfield 0, .ref 2, []),
  none,
  none,
  some (.getfield 3, .ref 5, []),
  none,
  none,
  some (.iload 1, .ref 1, []),
  some (.iaload, .null, []),
  some (.ireturn, .null, []),
  some (.aload 0, .ref 1, [true, true, false]),
  some (.getfield 0, .ref 2, []),
  none,
  none,
  some (.getfield 3, .ref 6, []),
  none,
  none,
  some (.iload 1, .ref 1, []),
  some (.iaload, .null, []),
  some (.ireturn, .null, []),
  some (.ldc 1, .int (-1), [false, false, false]),
  some (.ireturn, .null, [])]
/-- 8: TimedCompiler.set(II)Z -/
def xt_8 : List (Option xi_E) := [some (.iload 1, .ref 1, []),
  some (.ifCond .lt 0, .ref 10, []),
  none,
  none,
  some (.iload 1, .ref 1, [true, true, true]),
  some (.ldc 2, .int 14, []),
  none,
  some (.if_icmp .lt 0, .ref 12, []),
  none,
  none,
  some (.ldc 1, .int 0, [false, false, false]),
  some (.ireturn, .ref 1, []),
  some (.aload 0, .ref 1, [true, true, true]),
  some (.getfield 0, .ref 3, []),
  none,
  none,
  some (.getfield 5, .ref 0, []),
  none,
  none,
  some (.iload 1, .ref 1, []),
  some (.iload 2, .ref 1, []),
  some (.iastore, .null, []),
  some (.ldc 1, .int 1, []),
  some (.ireturn, .ref 1, [])]
/-- 9: TimedCompiler.get(I)I -/
def xt_9 : List (Option xi_E) := [some (.iload 1, .ref 1, []),
  some (.ifCond .lt 0, .ref 10, []),
  none,
  none,
  some (.iload 1, .ref 1, [true, true]),
  some (.ldc 2, .int 14, []),
  none,
  some (.if_icmp .lt 0, .ref 18, []),
  none,
  none,
  none,
  none,
  none,
  none,
  none,
  none,
  none,
  none,
  some (.aload 0, .ref 1, [true, true]),
  some (.getfield 0, .ref 3, []),
  none,
  none,
  some (.getfield 5, .ref 0, []),
  none,
  none,
  some (.iload 1, .ref 1, []),
  some (.iaload, .null, []),
  some (.ireturn, .null, [])]
/-- 10: TimedCompiler.run()I -/
def xt_10 : List (Option xi_E) := [some (.aload 0, .ref 1, []),
  some (.invokeinterface 13 0, .ref 1, []),
  none,
  none,
  some (.aload 0, .ref 1, []),
  some (.getfield 0, .ref 3, []),
  none,
  none,
  some (.aload 0, .ref 1, []),
  some (.getfield 0, .ref 2, []),
  none,
  none,
  some (.invokeinterface 58 5, .ref 2, []),
  none,
  none,
  some (.ireturn, .null, [])]
/-- 11: TimedCompiler.latest(I)I -/
def xt_11 : List (Option xi_E) := [some (.aload 0, .ref 1, []),
  some (.getfield 0, .ref 3, []),
  none,
  none,
  some (.getfield 5, .ref 4, []),
  none,
  none,
  some (.ifCond .ne 0, .ref 12, []),
  none,
  none,
  some (.ldc 1, .int (-1), [false, false]),
  some (.ireturn, .null, []),
  some (.iload 1, .ref 1, [true, true]),
  some (.lookupswitch 76 #[(0, 44), (1, 52), (2, 60), (3, 68)], .null, []),
  none,
  none,
  none,
  none,
  none,
  none,
  none,
  none,
  none,
  none,
  none,
  none,
  none,
  none,
  none,
  none,
  none,
  none,
  none,
  none,
  none,
  none,
  none,
  none,
  none,
  none,
  none,
  none,
  none,
  none,
  some (.aload 0, .ref 1, [true, false]),
  some (.getfield 0, .ref 3, []),
  none,
  none,
  some (.getfield 5, .ref 5, []),
  none,
  none,
  some (.ireturn, .null, []),
  some (.aload 0, .ref 1, [true, false]),
  some (.getfield 0, .ref 3, []),
  none,
  none,
  some (.getfield 5, .ref 6, []),
  none,
  none,
  some (.ireturn, .null, []),
  some (.aload 0, .ref 1, [true, false]),
  some (.getfield 0, .ref 3, []),
  none,
  none,
  some (.getfield 5, .ref 7, []),
  none,
  none,
  some (.ireturn, .null, []),
  some (.aload 0, .ref 1, [true, false]),
  some (.getfield 0, .ref 3, []),
  none,
  none,
  some (.getfield 5, .ref 8, []),
  none,
  none,
  some (.ireturn, .null, []),
  some (.ldc 1, .int (-1), [false, false]),
  some (.ireturn, .null, [])]
/-- 12: TimedCompiler.output(I)I -/
def xt_12 : List (Option xi_E) := [some (.iload 1, .ref 1, []),
  some (.ifCond .lt 0, .ref 21, []),
  none,
  none,
  some (.iload 1, .ref 1, [true, true]),
  some (.ldc 2, .int 32, []),
  none,
  some (.if_icmp .ge 0, .ref 21, []),
  none,
  none,
  some (.iload 1, .ref 1, [true, true]),
  some (.aload 0, .ref 1, []),
  some (.getfield 0, .ref 3, []),
  none,
  none,
  some (.getfield 5, .ref 8, []),
  none,
  none,
  some (.if_icmp .lt 0, .ref 29, []),
  none,
  none,
  none,
  none,
  none,
  none,
  none,
  none,
  none,
  none,
  some (.aload 0, .ref 1, [true, true]),
  some (.getfield 0, .ref 3, []),
  none,
  none,
  some (.getfield 5, .ref 1, []),
  none,
  none,
  some (.iload 1, .ref 1, []),
  some (.iaload, .null, []),
  some (.ireturn, .null, [])]
/-- 13: TimedCompiler.needProgram()V -/
def xt_13 : List (Option xi_E) := [some (.aload 0, .ref 1, []),
  some (.getfield 0, .ref 2, []),
  none,
  none,
  some (.getfield 3, .ref 2, []),
  none,
  none,
  some (.ifCond .ne 0, .ref 18, []),
  none,
  none,
  none,
  none,
  none,
  none,
  none,
  none,
  none,
  none,
  some (.return_, .null, [false])]
/-- 14: TimedCompiler$Parser.begin()V -/
def xt_14 : List (Option xi_E) := [some (.aload 0, .ref 1, []),
  some (.getfield 1, .ref 0, []),
  none,
  none,
  some (.ldc 1, .int 0, []),
  some (.putfield 2, .ref 2, []),
  none,
  none,
  some (.aload 0, .ref 1, []),
  some (.getfield 1, .ref 1, []),
  none,
  none,
  some (.invokeinterface 40 3, .ref 1, []),
  none,
  none,
  some (.ldc 1, .int 0, []),
  some (.istore 1, .ref 1, []),
  some (.iload 1, .ref 1, [true, true]),
  some (.ldc 1, .int 5, []),
  some (.if_icmp .ge 0, .ref 35, []),
  none,
  none,
  some (.aload 0, .ref 1, [true, true]),
  some (.getfield 1, .ref 2, []),
  none,
  none,
  some (.iload 1, .ref 1, []),
  some (.ldc 1, .int (-1), []),
  some (.iastore, .null, []),
  some (.iinc 1 0, .int 1, []),
  none,
  none,
  some (.goto 0, .ref 17, []),
  none,
  none,
  some (.ldc 1, .int 0, [true, false]),
  some (.istore 1, .ref 1, []),
  some (.iload 1, .ref 1, [true, true]),
  some (.ldc 1, .int 4, []),
  some (.if_icmp .ge 0, .ref 55, []),
  none,
  none,
  some (.aload 0, .ref 1, [true, true]),
  some (.getfield 1, .ref 3, []),
  none,
  none,
  some (.iload 1, .ref 1, []),
  some (.ldc 1, .int 0, []),
  some (.bastore, .null, []),
  some (.iinc 1 0, .int 1, []),
  none,
  none,
  some (.goto 0, .ref 37, []),
  none,
  none,
  some (.return_, .null, [false, false])]
/-- 15: TimedCompiler$Parser.readProgram()Z -/
def xt_15 : List (Option xi_E) := [some (.aload 0, .ref 1, []),
  some (.invokeinterface 14 1, .ref 1, []),
  none,
  none,
  some (.ldc 1, .int 0, []),
  some (.istore 1, .ref 1, []),
  some (.iload 1, .ref 1, [true, true, false]),
  some (.ldc 1, .int 4, []),
  some (.if_icmp .ge 0, .ref 71, []),
  none,
  none,
  some (.aload 0, .ref 1, [true, true, false]),
  some (.getfield 1, .ref 0, []),
  none,
  none,
  some (.ldc 2, .int 65, []),
  none,
  some (.ldc 1, .int 4, []),
  some (.invokeinterface 36 2, .ref 3, []),
  none,
  none,
  some (.istore 2, .ref 1, []),
  some (.iload 2, .ref 1, []),
  some (.ldc 1, .int (-1), []),
  some (.if_icmp .ne 0, .ref 30, []),
  none,
  none,
  some (.goto 0, .ref 71, [true, false, false]),
  none,
  none,
  some (.aload 0, .ref 1, [true, true, true]),
  some (.getfield 1, .ref 2, []),
  none,
  none,
  some (.iload 2, .ref 1, []),
  some (.iaload, .null, []),
  some (.ldc 1, .int (-1), []),
  some (.if_icmp .eq 0, .ref 42, []),
  none,
  none,
  some (.ldc 1, .int 0, [false, false, false]),
  some (.ireturn, .ref 1, []),
  some (.aload 0, .ref 1, [true, true, true]),
  some (.getfield 1, .ref 2, []),
  none,
  none,
  some (.iload 2, .ref 1, []),
  some (.aload 0, .ref 1, []),
  some (.getfield 1, .ref 0, []),
  none,
  none,
  some (.getfield 2, .ref 2, []),
  none,
  none,
  some (.iastore, .null, []),
  some (.aload 0, .ref 1, []),
  some (.ldc 1, .int 1, []),
  some (.invokeinterface 20 1, .ref 2, []),
  none,
  none,
  some (.ifCond .ne 0, .ref 65, []),
  none,
  none,
  some (.ldc 1, .int 0, [false, false, false]),
  some (.ireturn, .ref 1, []),
  some (.iinc 1 0, .int 1, [true, true, false]),
  none,
  none,
  some (.goto 0, .ref 6, []),
  none,
  none,
  some (.aload 0, .ref 1, [true, false, false]),
  some (.getfield 1, .ref 2, []),
  none,
  none,
  some (.ldc 1, .int 4, []),
  some (.aload 0, .ref 1, []),
  some (.getfield 1, .ref 0, []),
  none,
  none,
  some (.getfield 2, .ref 2, []),
  none,
  none,
  some (.iastore, .null, []),
  some (.aload 0, .ref 1, []),
  some (.ldc 1, .int 1, []),
  some (.invokeinterface 20 1, .ref 2, []),
  none,
  none,
  some (.ifCond .eq 0, .ref 113, []),
  none,
  none,
  some (.aload 0, .ref 1, [true, false, false]),
  some (.getfield 1, .ref 0, []),
  none,
  none,
  some (.invokeinterface 33 2, .ref 1, []),
  none,
  none,
  some (.ifCond .eq 0, .ref 113, []),
  none,
  none,
  some (.aload 0, .ref 1, [true, false, false]),
  some (.invokeinterface 16 1, .ref 1, []),
  none,
  none,
  some (.ifCond .eq 0, .ref 113, []),
  none,
  none,
  some (.ldc 1, .int 1, [false, false, false]),
  some (.goto 0, .ref 114, []),
  none,
  none,
  some (.ldc 1, .int 0, [false, false, false]),
  some (.ireturn, .ref 1, [false, false, false])]
/-- 16: TimedCompiler$Parser.calledOnesAreThere()Z -/
def xt_16 : List (Option xi_E) := [some (.ldc 1, .int 0, []),
  some (.istore 1, .ref 1, []),
  some (.iload 1, .ref 1, [true, true]),
  some (.ldc 1, .int 4, []),
  some (.if_icmp .ge 0, .ref 34, []),
  none,
  none,
  some (.aload 0, .ref 1, [true, true]),
  some (.getfield 1, .ref 3, []),
  none,
  none,
  some (.iload 1, .ref 1, []),
  some (.baload, .null, []),
  some (.ifCond .eq 0, .ref 28, []),
  none,
  none,
  some (.aload 0, .ref 1, [true, true]),
  some (.getfield 1, .ref 2, []),
  none,
  none,
  some (.iload 1, .ref 1, []),
  some (.iaload, .null, []),
  some (.ldc 1, .int (-1), []),
  some (.if_icmp .ne 0, .ref 28, []),
  none,
  none,
  some (.ldc 1, .int 0, [false, false]),
  some (.ireturn, .ref 1, []),
  some (.iinc 1 0, .int 1, [true, true]),
  none,
  none,
  some (.goto 0, .ref 2, []),
  none,
  none,
  some (.ldc 1, .int 1, [false, false]),
  some (.ireturn, .ref 1, [])]
/-- 17: TimedCompiler$Parser.writeProgram()V -/
def xt_17 : List (Option xi_E) := [some (.aload 0, .ref 1, []),
  some (.getfield 1, .ref 1, []),
  none,
  none,
  some (.invokeinterface 40 3, .ref 1, []),
  none,
  none,
  some (.aload 0, .ref 1, []),
  some (.ldc 1, .int 4, []),
  some (.ldc 2, .int 19, []),
  none,
  some (.invokeinterface 18 1, .ref 3, []),
  none,
  none,
  some (.ldc 1, .int 0, []),
  some (.istore 1, .ref 1, []),
  some (.iload 1, .ref 1, [true, true]),
  some (.ldc 1, .int 4, []),
  some (.if_icmp .ge 0, .ref 44, []),
  none,
  none,
  some (.aload 0, .ref 1, [true, true]),
  some (.getfield 1, .ref 2, []),
  none,
  none,
  some (.iload 1, .ref 1, []),
  some (.iaload, .null, []),
  some (.ldc 1, .int (-1), []),
  some (.if_icmp .eq 0, .ref 38, []),
  none,
  none,
  some (.aload 0, .ref 1, [true, true]),
  some (.iload 1, .ref 1, []),
  some (.ldc 2, .int 18, []),
  none,
  some (.invokeinterface 18 1, .ref 3, []),
  none,
  none,
  some (.iinc 1 0, .int 1, [true, true]),
  none,
  none,
  some (.goto 0, .ref 16, []),
  none,
  none,
  some (.aload 0, .ref 1, [true, false]),
  some (.getfield 1, .ref 1, []),
  none,
  none,
  some (.invokeinterface 46 3, .ref 1, []),
  none,
  none,
  some (.return_, .null, [])]
/-- 18: TimedCompiler$Parser.writeUnit(II)V -/
def xt_18 : List (Option xi_E) := [some (.aload 0, .ref 1, []),
  some (.getfield 1, .ref 0, []),
  none,
  none,
  some (.aload 0, .ref 1, []),
  some (.getfield 1, .ref 2, []),
  none,
  none,
  some (.iload 1, .ref 1, []),
  some (.iaload, .null, []),
  some (.putfield 2, .ref 2, []),
  none,
  none,
  some (.aload 0, .ref 1, []),
  some (.getfield 1, .ref 1, []),
  none,
  none,
  some (.getfield 3, .ref 3, []),
  none,
  none,
  some (.iload 1, .ref 1, []),
  some (.aload 0, .ref 1, []),
  some (.getfield 1, .ref 1, []),
  none,
  none,
  some (.getfield 3, .ref 2, []),
  none,
  none,
  some (.iastore, .null, []),
  some (.aload 0, .ref 1, []),
  some (.ldc 1, .int 1, []),
  some (.invokeinterface 20 1, .ref 2, []),
  none,
  none,
  some (.pop, .null, []),
  some (.aload 0, .ref 1, []),
  some (.getfield 1, .ref 1, []),
  none,
  none,
  some (.getfield 3, .ref 4, []),
  none,
  none,
  some (.iload 1, .ref 1, []),
  some (.aload 0, .ref 1, []),
  some (.getfield 1, .ref 1, []),
  none,
  none,
  some (.iload 2, .ref 1, []),
  some (.ldc 1, .int 0, []),
  some (.invokeinterface 42 3, .ref 3, []),
  none,
  none,
  some (.iastore, .null, []),
  some (.return_, .null, [])]
/-- 19: TimedCompiler$Parser.write(II)Z -/
def xt_19 : List (Option xi_E) := [some (.aload 0, .ref 1, []),
  some (.getfield 1, .ref 1, []),
  none,
  none,
  some (.iload 1, .ref 1, []),
  some (.iload 2, .ref 1, []),
  some (.invokeinterface 42 3, .ref 3, []),
  none,
  none,
  some (.pop, .null, []),
  some (.ldc 1, .int 1, []),
  some (.ireturn, .ref 1, [])]
/-- 20: TimedCompiler$Parser.readBlock(I)Z -/
def xt_20 : List (Option xi_E) := [some (.iload 1, .ref 1, []),
  some (.ldc 2, .int 6, []),
  none,
  some (.if_icmp .gt 0, .ref 18, []),
  none,
  none,
  some (.aload 0, .ref 1, [true, true, false]),
  some (.getfield 1, .ref 0, []),
  none,
  none,
  some (.ldc 2, .int 123, []),
  none,
  some (.invokeinterface 35 2, .ref 2, []),
  none,
  none,
  some (.ifCond .ne 0, .ref 20, []),
  none,
  none,
  some (.ldc 1, .int 0, [false, false, false]),
  some (.ireturn, .ref 1, []),
  some (.ldc 1, .int 0, [true, true, false]),
  some (.istore 2, .ref 1, []),
  some (.iload 2, .ref 1, [true, true, true]),
  some (.ldc 3, .int 200, []),
  none,
  none,
  some (.if_icmp .ge 0, .ref 57, []),
  none,
  none,
  some (.aload 0, .ref 1, [true, true, true]),
  some (.getfield 1, .ref 0, []),
  none,
  none,
  some (.ldc 2, .int 125, []),
  none,
  some (.invokeinterface 34 2, .ref 2, []),
  none,
  none,
  some (.ifCond .ne 0, .ref 57, []),
  none,
  none,
  some (.aload 0, .ref 1, [true, true, true]),
  some (.iload 1, .ref 1, []),
  some (.invokeinterface 21 1, .ref 2, []),
  none,
  none,
  some (.ifCond .ne 0, .ref 51, []),
  none,
  none,
  some (.ldc 1, .int 0, [false, false, false]),
  some (.ireturn, .ref 1, []),
  some (.iinc 2 0, .int 1, [true, true, true]),
  none,
  none,
  some (.goto 0, .ref 22, []),
  none,
  none,
  some (.aload 0, .ref 1, [true, false, false]),
  some (.getfield 1, .ref 0, []),
  none,
  none,
  some (.ldc 2, .int 125, []),
  none,
  some (.invokeinterface 35 2, .ref 2, []),
  none,
  none,
  some (.ireturn, .ref 1, [])]
/-- 21: TimedCompiler$Parser.readStatement(I)Z -/
def xt_21 : List (Option xi_E) := [some (.aload 0, .ref 1, []),
  some (.getfield 1, .ref 0, []),
  none,
  none,
  some (.ldc 2, .int 33, []),
  none,
  some (.invokeinterface 35 2, .ref 2, []),
  none,
  none,
  some (.ifCond .eq 0, .ref 48, []),
  none,
  none,
  some (.aload 0, .ref 1, [true, true, false, false]),
  some (.iload 1, .ref 1, []),
  some (.invokeinterface 24 1, .ref 2, []),
  none,
  none,
  some (.ifCond .eq 0, .ref 46, []),
  none,
  none,
  some (.aload 0, .ref 1, [true, false, false, false]),
  some (.getfield 1, .ref 0, []),
  none,
  none,
  some (.ldc 2, .int 59, []),
  none,
  some (.invokeinterface 35 2, .ref 2, []),
  none,
  none,
  some (.ifCond .eq 0, .ref 46, []),
  none,
  none,
  some (.aload 0, .ref 1, [true, false, false, false]),
  some (.ldc 2, .int 12, []),
  none,
  some (.ldc 1, .int 0, []),
  some (.invokeinterface 19 1, .ref 3, []),
  none,
  none,
  some (.ifCond .eq 0, .ref 46, []),
  none,
  none,
  some (.ldc 1, .int 1, [false, false, false, false]),
  some (.goto 0, .ref 47, []),
  none,
  none,
  some (.ldc 1, .int 0, [false, false, false, false]),
  some (.ireturn, .ref 1, [false, false, false, false]),
  some (.aload 0, .ref 1, [true, true, false, false]),
  some (.getfield 1, .ref 0, []),
  none,
  none,
  some (.ldc 2, .int 63, []),
  none,
  some (.invokeinterface 35 2, .ref 2, []),
  none,
  none,
  some (.ifCond .eq 0, .ref 66, []),
  none,
  none,
  some (.aload 0, .ref 1, [true, true, false, false]),
  some (.iload 1, .ref 1, []),
  some (.invokeinterface 22 1, .ref 2, []),
  none,
  none,
  some (.ireturn, .ref 1, []),
  some (.aload 0, .ref 1, [true, true, false, false]),
  some (.getfield 1, .ref 0, []),
  none,
  none,
  some (.ldc 2, .int 35, []),
  none,
  some (.invokeinterface 35 2, .ref 2, []),
  none,
  none,
  some (.ifCond .eq 0, .ref 84, []),
  none,
  none,
  some (.aload 0, .ref 1, [true, true, false, false]),
  some (.iload 1, .ref 1, []),
  some (.invokeinterface 23 1, .ref 2, []),
  none,
  none,
  some (.ireturn, .ref 1, []),
  some (.aload 0, .ref 1, [true, true, false, false]),
  some (.getfield 1, .ref 0, []),
  none,
  none,
  some (.ldc 2, .int 91, []),
  none,
  some (.invokeinterface 35 2, .ref 2, []),
  none,
  none,
  some (.ifCond .eq 0, .ref 155, []),
  none,
  none,
  some (.aload 0, .ref 1, [true, true, false, false]),
  some (.ldc 2, .int 93, []),
  none,
  some (.iload 1, .ref 1, []),
  some (.ldc 1, .int 1, []),
  some (.iadd, .null, []),
  some (.invokeinterface 28 1, .ref 3, []),
  none,
  none,
  some (.ifCond .eq 0, .ref 153, []),
  none,
  none,
  some (.aload 0, .ref 1, [true, true, false, false]),
  some (.getfield 1, .ref 0, []),
  none,
  none,
  some (.ldc 2, .int 61, []),
  none,
  some (.invokeinterface 35 2, .ref 2, []),
  none,
  none,
  some (.ifCond .eq 0, .ref 153, []),
  none,
  none,
  some (.aload 0, .ref 1, [true, true, false, false]),
  some (.iload 1, .ref 1, []),
  some (.invokeinterface 24 1, .ref 2, []),
  none,
  none,
  some (.ifCond .eq 0, .ref 153, []),
  none,
  none,
  some (.aload 0, .ref 1, [true, false, false, false]),
  some (.getfield 1, .ref 0, []),
  none,
  none,
  some (.ldc 2, .int 59, []),
  none,
  some (.invokeinterface 35 2, .ref 2, []),
  none,
  none,
  some (.ifCond .eq 0, .ref 153, []),
  none,
  none,
  some (.aload 0, .ref 1, [true, false, false, false]),
  some (.ldc 1, .int 4, []),
  some (.ldc 1, .int 0, []),
  some (.invokeinterface 19 1, .ref 3, []),
  none,
  none,
  some (.ifCond .eq 0, .ref 153, []),
  none,
  none,
  some (.ldc 1, .int 1, [false, false, false, false]),
  some (.goto 0, .ref 154, []),
  none,
  none,
  some (.ldc 1, .int 0, [false, false, false, false]),
  some (.ireturn, .ref 1, [false, false, false, false]),
  some (.aload 0, .ref 1, [true, true, false, false]),
  some (.getfield 1, .ref 0, []),
  none,
  none,
  some (.ldc 2, .int 97, []),
  none,
  some (.ldc 2, .int 6, []),
  none,
  some (.invokeinterface 36 2, .ref 3, []),
  none,
  none,
  some (.istore 2, .ref 1, []),
  some (.iload 2, .ref 1, []),
  some (.ldc 1, .int (-1), []),
  some (.if_icmp .eq 0, .ref 219, []),
  none,
  none,
  some (.aload 0, .ref 1, [true, true, true, false]),
  some (.getfield 1, .ref 0, []),
  none,
  none,
  some (.ldc 2, .int 61, []),
  none,
  some (.invokeinterface 35 2, .ref 2, []),
  none,
  none,
  some (.ifCond .eq 0, .ref 217, []),
  none,
  none,
  some (.aload 0, .ref 1, [true, true, true, false]),
  some (.iload 1, .ref 1, []),
  some (.invokeinterface 24 1, .ref 2, []),
  none,
  none,
  some (.ifCond .eq 0, .ref 217, []),
  none,
  none,
  some (.aload 0, .ref 1, [true, false, true, false]),
  some (.getfield 1, .ref 0, []),
  none,
  none,
  some (.ldc 2, .int 59, []),
  none,
  some (.invokeinterface 35 2, .ref 2, []),
  none,
  none,
  some (.ifCond .eq 0, .ref 217, []),
  none,
  none,
  some (.aload 0, .ref 1, [true, false, true, false]),
  some (.ldc 1, .int 2, []),
  some (.iload 2, .ref 1, []),
  some (.invokeinterface 19 1, .ref 3, []),
  none,
  none,
  some (.ifCond .eq 0, .ref 217, []),
  none,
  none,
  some (.ldc 1, .int 1, [false, false, false, false]),
  some (.goto 0, .ref 218, []),
  none,
  none,
  some (.ldc 1, .int 0, [false, false, false, false]),
  some (.ireturn, .ref 1, [false, false, false, false]),
  some (.aload 0, .ref 1, [true, false, false, false]),
  some (.getfield 1, .ref 0, []),
  none,
  none,
  some (.ldc 2, .int 65, []),
  none,
  some (.ldc 1, .int 4, []),
  some (.invokeinterface 36 2, .ref 3, []),
  none,
  none,
  some (.istore 3, .ref 1, []),
  some (.iload 3, .ref 1, []),
  some (.ldc 1, .int (-1), []),
  some (.if_icmp .eq 0, .ref 270, []),
  none,
  none,
  some (.aload 0, .ref 1, [true, false, false, true]),
  some (.getfield 1, .ref 3, []),
  none,
  none,
  some (.iload 3, .ref 1, []),
  some (.ldc 1, .int 1, []),
  some (.bastore, .null, []),
  some (.aload 0, .ref 1, []),
  some (.getfield 1, .ref 0, []),
  none,
  none,
  some (.ldc 2, .int 59, []),
  none,
  some (.invokeinterface 35 2, .ref 2, []),
  none,
  none,
  some (.ifCond .eq 0, .ref 268, []),
  none,
  none,
  some (.aload 0, .ref 1, [true, false, false, true]),
  some (.ldc 2, .int 17, []),
  none,
  some (.iload 3, .ref 1, []),
  some (.invokeinterface 19 1, .ref 3, []),
  none,
  none,
  some (.ifCond .eq 0, .ref 268, []),
  none,
  none,
  some (.ldc 1, .int 1, [false, false, false, false]),
  some (.goto 0, .ref 269, []),
  none,
  none,
  some (.ldc 1, .int 0, [false, false, false, false]),
  some (.ireturn, .ref 1, [false, false, false, false]),
  some (.ldc 1, .int 0, [false, false, false, false]),
  some (.ireturn, .ref 1, [])]
/-- 22: TimedCompiler$Parser.readChoice(I)Z -/
def xt_22 : List (Option xi_E) := [some (.aload 0, .ref 1, []),
  some (.iload 1, .ref 1, []),
  some (.invokeinterface 24 1, .ref 2, []),
  none,
  none,
  some (.ifCond .ne 0, .ref 10, []),
  none,
  none,
  some (.ldc 1, .int 0, [false, false, false, false]),
  some (.ireturn, .ref 1, []),
  some (.aload 0, .ref 1, [true, true, false, false]),
  some (.getfield 1, .ref 1, []),
  none,
  none,
  some (.ldc 2, .int 13, []),
  none,
  some (.ldc 1, .int 0, []),
  some (.invokeinterface 42 3, .ref 3, []),
  none,
  none,
  some (.istore 2, .ref 1, []),
  some (.aload 0, .ref 1, []),
  some (.iload 1, .ref 1, []),
  some (.ldc 1, .int 1, []),
  some (.iadd, .null, []),
  some (.invokeinterface 20 1, .ref 2, []),
  none,
  none,
  some (.ifCond .ne 0, .ref 33, []),
  none,
  none,
  some (.ldc 1, .int 0, [false, false, false, false]),
  some (.ireturn, .ref 1, []),
  some (.aload 0, .ref 1, [true, true, true, false]),
  some (.getfield 1, .ref 0, []),
  none,
  none,
  some (.ldc 2, .int 123, []),
  none,
  some (.invokeinterface 34 2, .ref 2, []),
  none,
  none,
  some (.ifCond .ne 0, .ref 55, []),
  none,
  none,
  some (.aload 0, .ref 1, [true, false, true, false]),
  some (.getfield 1, .ref 1, []),
  none,
  none,
  some (.iload 2, .ref 1, []),
  some (.invokeinterface 43 3, .ref 2, []),
  none,
  none,
  some (.ldc 1, .int 1, []),
  some (.ireturn, .ref 1, []),
  some (.aload 0, .ref 1, [true, true, true, false]),
  some (.getfield 1, .ref 1, []),
  none,
  none,
  some (.ldc 2, .int 14, []),
  none,
  some (.ldc 1, .int 0, []),
  some (.invokeinterface 42 3, .ref 3, []),
  none,
  none,
  some (.istore 3, .ref 1, []),
  some (.aload 0, .ref 1, []),
  some (.getfield 1, .ref 1, []),
  none,
  none,
  some (.iload 2, .ref 1, []),
  some (.invokeinterface 43 3, .ref 2, []),
  none,
  none,
  some (.aload 0, .ref 1, []),
  some (.iload 1, .ref 1, []),
  some (.ldc 1, .int 1, []),
  some (.iadd, .null, []),
  some (.invokeinterface 20 1, .ref 2, []),
  none,
  none,
  some (.ifCond .ne 0, .ref 86, []),
  none,
  none,
  some (.ldc 1, .int 0, [false, false, false, false]),
  some (.ireturn, .ref 1, []),
  some (.aload 0, .ref 1, [true, false, false, true]),
  some (.getfield 1, .ref 1, []),
  none,
  none,
  some (.iload 3, .ref 1, []),
  some (.invokeinterface 43 3, .ref 2, []),
  none,
  none,
  some (.ldc 1, .int 1, []),
  some (.ireturn, .ref 1, [])]
/-- 23: TimedCompiler$Parser.readLoop(I)Z -/
def xt_23 : List (Option xi_E) := [some (.ldc 1, .int 0, []),
  some (.istore 2, .ref 1, []),
  some (.aload 0, .ref 1, []),
  some (.getfield 1, .ref 0, []),
  none,
  none,
  some (.invokeinterface 38 2, .ref 1, []),
  none,
  none,
  some (.ifCond .ne 0, .ref 37, []),
  none,
  none,
  some (.ldc 2, .int 16, [true, true, false, false, false]),
  none,
  some (.istore 2, .ref 1, []),
  some (.aload 0, .ref 1, []),
  some (.iload 1, .ref 1, []),
  some (.invokeinterface 25 1, .ref 2, []),
  none,
  none,
  some (.ifCond .eq 0, .ref 35, []),
  none,
  none,
  some (.aload 0, .ref 1, [true, true, true, false, false]),
  some (.getfield 1, .ref 0, []),
  none,
  none,
  some (.ldc 2, .int 60, []),
  none,
  some (.invokeinterface 35 2, .ref 2, []),
  none,
  none,
  some (.ifCond .ne 0, .ref 37, []),
  none,
  none,
  some (.ldc 1, .int 0, [false, false, false, false, false]),
  some (.ireturn, .ref 1, []),
  some (.aload 0, .ref 1, [true, true, true, false, false]),
  some (.getfield 1, .ref 0, []),
  none,
  none,
  some (.invokeinterface 39 2, .ref 1, []),
  none,
  none,
  some (.istore 3, .ref 1, []),
  some (.iload 3, .ref 1, []),
  some (.ldc 1, .int (-1), []),
  some (.if_icmp .eq 0, .ref 56, []),
  none,
  none,
  some (.iload 3, .ref 1, [true, true, true, true, false]),
  some (.ldc 2, .int 99, []),
  none,
  some (.if_icmp .le 0, .ref 58, []),
  none,
  none,
  some (.ldc 1, .int 0, [false, false, false, false, false]),
  some (.ireturn, .ref 1, []),
  some (.aload 0, .ref 1, [true, true, true, true, false]),
  some (.getfield 1, .ref 1, []),
  none,
  none,
  some (.iload 2, .ref 1, []),
  some (.iload 3, .ref 1, []),
  some (.invokeinterface 42 3, .ref 3, []),
  none,
  none,
  some (.pop, .null, []),
  some (.aload 0, .ref 1, []),
  some (.getfield 1, .ref 1, []),
  none,
  none,
  some (.ldc 2, .int 15, []),
  none,
  some (.ldc 1, .int 0, []),
  some (.invokeinterface 42 3, .ref 3, []),
  none,
  none,
  some (.istore 4, .ref 2, []),
  none,
  some (.aload 0, .ref 1, []),
  some (.iload 1, .ref 1, []),
  some (.ldc 1, .int 1, []),
  some (.iadd, .null, []),
  some (.invokeinterface 20 1, .ref 2, []),
  none,
  none,
  some (.ifCond .ne 0, .ref 92, []),
  none,
  none,
  some (.ldc 1, .int 0, [false, false, false, false, false]),
  some (.ireturn, .ref 1, []),
  some (.aload 0, .ref 1, [true, false, false, false, true]),
  some (.getfield 1, .ref 1, []),
  none,
  none,
  some (.ldc 2, .int 14, []),
  none,
  some (.iload 4, .ref 2, []),
  none,
  some (.invokeinterface 42 3, .ref 3, []),
  none,
  none,
  some (.pop, .null, []),
  some (.aload 0, .ref 1, []),
  some (.getfield 1, .ref 1, []),
  none,
  none,
  some (.iload 4, .ref 2, []),
  none,
  some (.invokeinterface 43 3, .ref 2, []),
  none,
  none,
  some (.ldc 1, .int 1, []),
  some (.ireturn, .ref 1, [])]
/-- 24: TimedCompiler$Parser.readValue(I)Z -/
def xt_24 : List (Option xi_E) := [some (.aload 0, .ref 1, []),
  some (.iload 1, .ref 1, []),
  some (.invokeinterface 25 1, .ref 2, []),
  none,
  none,
  some (.ifCond .ne 0, .ref 10, []),
  none,
  none,
  some (.ldc 1, .int 0, [false, false]),
  some (.ireturn, .ref 1, []),
  some (.aload 0, .ref 1, [true, true]),
  some (.getfield 1, .ref 0, []),
  none,
  none,
  some (.ldc 2, .int 60, []),
  none,
  some (.invokeinterface 35 2, .ref 2, []),
  none,
  none,
  some (.ifCond .eq 0, .ref 46, []),
  none,
  none,
  some (.aload 0, .ref 1, [true, true]),
  some (.iload 1, .ref 1, []),
  some (.invokeinterface 25 1, .ref 2, []),
  none,
  none,
  some (.ifCond .eq 0, .ref 44, []),
  none,
  none,
  some (.aload 0, .ref 1, [true, false]),
  some (.ldc 2, .int 9, []),
  none,
  some (.ldc 1, .int 0, []),
  some (.invokeinterface 19 1, .ref 3, []),
  none,
  none,
  some (.ifCond .eq 0, .ref 44, []),
  none,
  none,
  some (.ldc 1, .int 1, [false, false]),
  some (.goto 0, .ref 45, []),
  none,
  none,
  some (.ldc 1, .int 0, [false, false]),
  some (.ireturn, .ref 1, [false, false]),
  some (.aload 0, .ref 1, [true, true]),
  some (.getfield 1, .ref 0, []),
  none,
  none,
  some (.ldc 2, .int 61, []),
  none,
  some (.invokeinterface 35 2, .ref 2, []),
  none,
  none,
  some (.ifCond .eq 0, .ref 82, []),
  none,
  none,
  some (.aload 0, .ref 1, [true, true]),
  some (.iload 1, .ref 1, []),
  some (.invokeinterface 25 1, .ref 2, []),
  none,
  none,
  some (.ifCond .eq 0, .ref 80, []),
  none,
  none,
  some (.aload 0, .ref 1, [true, false]),
  some (.ldc 2, .int 10, []),
  none,
  some (.ldc 1, .int 0, []),
  some (.invokeinterface 19 1, .ref 3, []),
  none,
  none,
  some (.ifCond .eq 0, .ref 80, []),
  none,
  none,
  some (.ldc 1, .int 1, [false, false]),
  some (.goto 0, .ref 81, []),
  none,
  none,
  some (.ldc 1, .int 0, [false, false]),
  some (.ireturn, .ref 1, [false, false]),
  some (.ldc 1, .int 1, [false, false]),
  some (.ireturn, .ref 1, [])]
/-- 25: TimedCompiler$Parser.readSum(I)Z -/
def xt_25 : List (Option xi_E) := [some (.aload 0, .ref 1, []),
  some (.iload 1, .ref 1, []),
  some (.invokeinterface 26 1, .ref 2, []),
  none,
  none,
  some (.ifCond .ne 0, .ref 10, []),
  none,
  none,
  some (.ldc 1, .int 0, [false, false, false, false]),
  some (.ireturn, .ref 1, []),
  some (.ldc 1, .int 0, [true, true, false, false]),
  some (.istore 2, .ref 1, []),
  some (.iload 2, .ref 1, [true, true, true, false]),
  some (.ldc 3, .int 200, []),
  none,
  none,
  some (.if_icmp .ge 0, .ref 87, []),
  none,
  none,
  some (.aload 0, .ref 1, [true, true, true, false]),
  some (.getfield 1, .ref 0, []),
  none,
  none,
  some (.ldc 2, .int 43, []),
  none,
  some (.invokeinterface 35 2, .ref 2, []),
  none,
  none,
  some (.ifCond .eq 0, .ref 35, []),
  none,
  none,
  some (.ldc 1, .int 5, [true, true, true, false]),
  some (.goto 0, .ref 53, []),
  none,
  none,
  some (.aload 0, .ref 1, [true, true, true, false]),
  some (.getfield 1, .ref 0, []),
  none,
  none,
  some (.ldc 2, .int 45, []),
  none,
  some (.invokeinterface 35 2, .ref 2, []),
  none,
  none,
  some (.ifCond .eq 0, .ref 52, []),
  none,
  none,
  some (.ldc 2, .int 6, [true, true, true, false]),
  none,
  some (.goto 0, .ref 53, []),
  none,
  none,
  some (.ldc 1, .int (-1), [true, true, true, false]),
  some (.istore 3, .ref 1, [true, true, true, false]),
  some (.iload 3, .ref 1, []),
  some (.ldc 1, .int (-1), []),
  some (.if_icmp .ne 0, .ref 61, []),
  none,
  none,
  some (.ldc 1, .int 1, [false, false, false, false]),
  some (.ireturn, .ref 1, []),
  some (.aload 0, .ref 1, [true, true, true, true]),
  some (.iload 1, .ref 1, []),
  some (.invokeinterface 26 1, .ref 2, []),
  none,
  none,
  some (.ifCond .ne 0, .ref 71, []),
  none,
  none,
  some (.ldc 1, .int 0, [false, false, false, false]),
  some (.ireturn, .ref 1, []),
  some (.aload 0, .ref 1, [true, true, true, true]),
  some (.getfield 1, .ref 1, []),
  none,
  none,
  some (.iload 3, .ref 1, []),
  some (.ldc 1, .int 0, []),
  some (.invokeinterface 42 3, .ref 3, []),
  none,
  none,
  some (.pop, .null, []),
  some (.iinc 2 0, .int 1, []),
  none,
  none,
  some (.goto 0, .ref 12, []),
  none,
  none,
  some (.ldc 1, .int 1, [false, false, false, false]),
  some (.ireturn, .ref 1, [])]
/-- 26: TimedCompiler$Parser.readProduct(I)Z -/
def xt_26 : List (Option xi_E) := [some (.aload 0, .ref 1, []),
  some (.iload 1, .ref 1, []),
  some (.invokeinterface 27 1, .ref 2, []),
  none,
  none,
  some (.ifCond .ne 0, .ref 10, []),
  none,
  none,
  some (.ldc 1, .int 0, [false, false, false, false]),
  some (.ireturn, .ref 1, []),
  some (.ldc 1, .int 0, [true, true, false, false]),
  some (.istore 2, .ref 1, []),
  some (.iload 2, .ref 1, [true, true, true, false]),
  some (.ldc 3, .int 200, []),
  none,
  none,
  some (.if_icmp .ge 0, .ref 88, []),
  none,
  none,
  some (.aload 0, .ref 1, [true, true, true, false]),
  some (.getfield 1, .ref 0, []),
  none,
  none,
  some (.ldc 2, .int 42, []),
  none,
  some (.invokeinterface 35 2, .ref 2, []),
  none,
  none,
  some (.ifCond .eq 0, .ref 36, []),
  none,
  none,
  some (.ldc 2, .int 7, [true, true, true, false]),
  none,
  some (.goto 0, .ref 54, []),
  none,
  none,
  some (.aload 0, .ref 1, [true, true, true, false]),
  some (.getfield 1, .ref 0, []),
  none,
  none,
  some (.ldc 2, .int 47, []),
  none,
  some (.invokeinterface 35 2, .ref 2, []),
  none,
  none,
  some (.ifCond .eq 0, .ref 53, []),
  none,
  none,
  some (.ldc 2, .int 8, [true, true, true, false]),
  none,
  some (.goto 0, .ref 54, []),
  none,
  none,
  some (.ldc 1, .int (-1), [true, true, true, false]),
  some (.istore 3, .ref 1, [true, true, true, false]),
  some (.iload 3, .ref 1, []),
  some (.ldc 1, .int (-1), []),
  some (.if_icmp .ne 0, .ref 62, []),
  none,
  none,
  some (.ldc 1, .int 1, [false, false, false, false]),
  some (.ireturn, .ref 1, []),
  some (.aload 0, .ref 1, [true, true, true, true]),
  some (.iload 1, .ref 1, []),
  some (.invokeinterface 27 1, .ref 2, []),
  none,
  none,
  some (.ifCond .ne 0, .ref 72, []),
  none,
  none,
  some (.ldc 1, .int 0, [false, false, false, false]),
  some (.ireturn, .ref 1, []),
  some (.aload 0, .ref 1, [true, true, true, true]),
  some (.getfield 1, .ref 1, []),
  none,
  none,
  some (.iload 3, .ref 1, []),
  some (.ldc 1, .int 0, []),
  some (.invokeinterface 42 3, .ref 3, []),
  none,
  none,
  some (.pop, .null, []),
  some (.iinc 2 0, .int 1, []),
  none,
  none,
  some (.goto 0, .ref 12, []),
  none,
  none,
  some (.ldc 1, .int 1, [false, false, false, false]),
  some (.ireturn, .ref 1, [])]
/-- 27: TimedCompiler$Parser.readUnit(I)Z -/
def xt_27 : List (Option xi_E) := [some (.aload 0, .ref 1, []),
  some (.getfield 1, .ref 0, []),
  none,
  none,
  some (.ldc 2, .int 40, []),
  none,
  some (.invokeinterface 35 2, .ref 2, []),
  none,
  none,
  some (.ifCond .eq 0, .ref 22, []),
  none,
  none,
  some (.aload 0, .ref 1, [true, true, false, false]),
  some (.ldc 2, .int 41, []),
  none,
  some (.iload 1, .ref 1, []),
  some (.ldc 1, .int 1, []),
  some (.iadd, .null, []),
  some (.invokeinterface 28 1, .ref 3, []),
  none,
  none,
  some (.ireturn, .ref 1, []),
  some (.aload 0, .ref 1, [true, true, false, false]),
  some (.getfield 1, .ref 0, []),
  none,
  none,
  some (.ldc 2, .int 91, []),
  none,
  some (.invokeinterface 35 2, .ref 2, []),
  none,
  none,
  some (.ifCond .eq 0, .ref 61, []),
  none,
  none,
  some (.aload 0, .ref 1, [true, true, false, false]),
  some (.ldc 2, .int 93, []),
  none,
  some (.iload 1, .ref 1, []),
  some (.ldc 1, .int 1, []),
  some (.iadd, .null, []),
  some (.invokeinterface 28 1, .ref 3, []),
  none,
  none,
  some (.ifCond .eq 0, .ref 59, []),
  none,
  none,
  some (.aload 0, .ref 1, [true, false, false, false]),
  some (.ldc 1, .int 3, []),
  some (.ldc 1, .int 0, []),
  some (.invokeinterface 19 1, .ref 3, []),
  none,
  none,
  some (.ifCond .eq 0, .ref 59, []),
  none,
  none,
  some (.ldc 1, .int 1, [false, false, false, false]),
  some (.goto 0, .ref 60, []),
  none,
  none,
  some (.ldc 1, .int 0, [false, false, false, false]),
  some (.ireturn, .ref 1, [false, false, false, false]),
  some (.aload 0, .ref 1, [true, true, false, false]),
  some (.getfield 1, .ref 0, []),
  none,
  none,
  some (.ldc 2, .int 45, []),
  none,
  some (.invokeinterface 35 2, .ref 2, []),
  none,
  none,
  some (.ifCond .eq 0, .ref 105, []),
  none,
  none,
  some (.iload 1, .ref 1, [true, true, false, false]),
  some (.ldc 2, .int 6, []),
  none,
  some (.if_icmp .ge 0, .ref 103, []),
  none,
  none,
  some (.aload 0, .ref 1, [true, true, false, false]),
  some (.iload 1, .ref 1, []),
  some (.ldc 1, .int 1, []),
  some (.iadd, .null, []),
  some (.invokeinterface 27 1, .ref 2, []),
  none,
  none,
  some (.ifCond .eq 0, .ref 103, []),
  none,
  none,
  some (.aload 0, .ref 1, [true, false, false, false]),
  some (.ldc 2, .int 11, []),
  none,
  some (.ldc 1, .int 0, []),
  some (.invokeinterface 19 1, .ref 3, []),
  none,
  none,
  some (.ifCond .eq 0, .ref 103, []),
  none,
  none,
  some (.ldc 1, .int 1, [false, false, false, false]),
  some (.goto 0, .ref 104, []),
  none,
  none,
  some (.ldc 1, .int 0, [false, false, false, false]),
  some (.ireturn, .ref 1, [false, false, false, false]),
  some (.aload 0, .ref 1, [true, false, false, false]),
  some (.getfield 1, .ref 0, []),
  none,
  none,
  some (.ldc 2, .int 97, []),
  none,
  some (.ldc 2, .int 6, []),
  none,
  some (.invokeinterface 36 2, .ref 3, []),
  none,
  none,
  some (.istore 2, .ref 1, []),
  some (.iload 2, .ref 1, []),
  some (.ldc 1, .int (-1), []),
  some (.if_icmp .eq 0, .ref 129, []),
  none,
  none,
  some (.aload 0, .ref 1, [true, false, true, false]),
  some (.ldc 1, .int 1, []),
  some (.iload 2, .ref 1, []),
  some (.invokeinterface 19 1, .ref 3, []),
  none,
  none,
  some (.ireturn, .ref 1, []),
  some (.aload 0, .ref 1, [true, false, false, false]),
  some (.getfield 1, .ref 0, []),
  none,
  none,
  some (.invokeinterface 39 2, .ref 1, []),
  none,
  none,
  some (.istore 3, .ref 1, []),
  some (.iload 3, .ref 1, []),
  some (.ldc 1, .int (-1), []),
  some (.if_icmp .eq 0, .ref 155, []),
  none,
  none,
  some (.aload 0, .ref 1, [true, false, false, true]),
  some (.ldc 1, .int 0, []),
  some (.iload 3, .ref 1, []),
  some (.invokeinterface 19 1, .ref 3, []),
  none,
  none,
  some (.ifCond .eq 0, .ref 155, []),
  none,
  none,
  some (.ldc 1, .int 1, [false, false, false, false]),
  some (.goto 0, .ref 156, []),
  none,
  none,
  some (.ldc 1, .int 0, [false, false, false, false]),
  some (.ireturn, .ref 1, [false, false, false, false])]
/-- 28: TimedCompiler$Parser.readInner(CI)Z -/
def xt_28 : List (Option xi_E) := [some (.iload 2, .ref 1, []),
  some (.ldc 2, .int 6, []),
  none,
  some (.if_icmp .gt 0, .ref 29, []),
  none,
  none,
  some (.aload 0, .ref 1, [true, true, true]),
  some (.iload 2, .ref 1, []),
  some (.invokeinterface 24 1, .ref 2, []),
  none,
  none,
  some (.ifCond .eq 0, .ref 29, []),
  none,
  none,
  some (.aload 0, .ref 1, [true, true, false]),
  some (.getfield 1, .ref 0, []),
  none,
  none,
  some (.iload 1, .ref 1, []),
  some (.invokeinterface 35 2, .ref 2, []),
  none,
  none,
  some (.ifCond .eq 0, .ref 29, []),
  none,
  none,
  some (.ldc 1, .int 1, [false, false, false]),
  some (.goto 0, .ref 30, []),
  none,
  none,
  some (.ldc 1, .int 0, [false, false, false]),
  some (.ireturn, .ref 1, [false, false, false])]
/-- 29: TimedCompiler$Text.append(J)Z -/
def xt_29 : List (Option xi_E) := [some (.lload 1, .ref 1, []),
  some (.invokestatic 30, .ref 1, []),
  none,
  none,
  some (.istore 3, .ref 1, []),
  some (.iload 3, .ref 1, []),
  some (.ldc 1, .int (-1), []),
  some (.if_icmp .eq 0, .ref 22, []),
  none,
  none,
  some (.aload 0, .ref 1, [true, true, false, true, false, false]),
  some (.getfield 2, .ref 1, []),
  none,
  none,
  some (.iload 3, .ref 1, []),
  some (.iadd, .null, []),
  some (.ldc 3, .int 200, []),
  none,
  none,
  some (.if_icmp .le 0, .ref 24, []),
  none,
  none,
  some (.ldc 1, .int 0, [false, false, false, false, false, false]),
  some (.ireturn, .ref 1, []),
  some (.ldc 2, .int 56, [true, true, false, false, false, false]),
  none,
  some (.istore 4, .ref 2, []),
  none,
  some (.iload 4, .ref 2, [true, true, false, false, true, false]),
  none,
  some (.ifCond .lt 0, .ref 87, []),
  none,
  none,
  some (.lload 1, .ref 1, [true, true, false, false, true, false]),
  some (.iload 4, .ref 2, []),
  none,
  some (.lushr, .null, []),
  some (.l2i, .null, []),
  some (.ldc 3, .int 255, []),
  none,
  none,
  some (.iand, .null, []),
  some (.istore 5, .ref 2, []),
  none,
  some (.iload 5, .ref 2, []),
  none,
  some (.ifCond .eq 0, .ref 81, []),
  none,
  none,
  some (.aload 0, .ref 1, [true, true, false, false, true, true]),
  some (.getfield 2, .ref 1, []),
  none,
  none,
  some (.ldc 3, .int 200, []),
  none,
  none,
  some (.if_icmp .ge 0, .ref 81, []),
  none,
  none,
  some (.aload 0, .ref 1, [true, true, false, false, true, true]),
  some (.getfield 2, .ref 0, []),
  none,
  none,
  some (.aload 0, .ref 1, []),
  some (.getfield 2, .ref 1, []),
  none,
  none,
  some (.iload 5, .ref 2, []),
  none,
  some (.i2c, .null, []),
  some (.castore, .null, []),
  some (.aload 0, .ref 1, []),
  some (.dup, .null, []),
  some (.getfield 2, .ref 1, []),
  none,
  none,
  some (.ldc 1, .int 1, []),
  some (.iadd, .null, []),
  some (.putfield 2, .ref 1, []),
  none,
  none,
  some (.iinc 4 0, .int (-8), [true, true, false, false, true, false]),
  none,
  none,
  some (.goto 0, .ref 28, []),
  none,
  none,
  some (.ldc 1, .int 1, [false, false, false, false, false, false]),
  some (.ireturn, .ref 1, [])]
/-- 30: TimedCompiler$Text.countLetters(J)I -/
def xt_30 : List (Option xi_E) := [some (.ldc 1, .int 0, []),
  some (.istore 2, .ref 1, []),
  some (.ldc 2, .int 56, []),
  none,
  some (.istore 3, .ref 1, []),
  some (.iload 3, .ref 1, [true, false, true, true, false]),
  some (.ifCond .lt 0, .ref 49, []),
  none,
  none,
  some (.lload 0, .ref 1, [true, false, true, true, false]),
  some (.iload 3, .ref 1, []),
  some (.lushr, .null, []),
  some (.l2i, .null, []),
  some (.ldc 3, .int 255, []),
  none,
  none,
  some (.iand, .null, []),
  some (.istore 4, .ref 2, []),
  none,
  some (.iload 4, .ref 2, []),
  none,
  some (.ifCond .eq 0, .ref 43, []),
  none,
  none,
  some (.iload 4, .ref 2, [true, false, true, true, true]),
  none,
  some (.ldc 2, .int 33, []),
  none,
  some (.if_icmp .lt 0, .ref 38, []),
  none,
  none,
  some (.iload 4, .ref 2, [true, false, true, true, true]),
  none,
  some (.ldc 2, .int 126, []),
  none,
  some (.if_icmp .le 0, .ref 40, []),
  none,
  none,
  some (.ldc 1, .int (-1), [false, false, false, false, false]),
  some (.ireturn, .null, []),
  some (.iinc 2 0, .int 1, [true, false, true, true, false]),
  none,
  none,
  some (.iinc 3 0, .int (-8), [true, false, true, true, false]),
  none,
  none,
  some (.goto 0, .ref 5, []),
  none,
  none,
  some (.iload 2, .ref 1, [false, false, true, false, false]),
  some (.ireturn, .null, [])]
/-- 31: TimedCompiler$Text.letterAt(I)C -/
def xt_31 : List (Option xi_E) := [some (.iload 1, .ref 1, []),
  some (.ifCond .lt 0, .ref 28, []),
  none,
  none,
  some (.iload 1, .ref 1, [true, true]),
  some (.aload 0, .ref 1, []),
  some (.getfield 2, .ref 1, []),
  none,
  none,
  some (.if_icmp .ge 0, .ref 28, []),
  none,
  none,
  some (.iload 1, .ref 1, [true, true]),
  some (.ldc 3, .int 200, []),
  none,
  none,
  some (.if_icmp .ge 0, .ref 28, []),
  none,
  none,
  some (.aload 0, .ref 1, [true, true]),
  some (.getfield 2, .ref 0, []),
  none,
  none,
  some (.iload 1, .ref 1, []),
  some (.caload, .null, []),
  some (.goto 0, .ref 29, []),
  none,
  none,
  some (.ldc 1, .int 0, [false, false]),
  some (.ireturn, .ref 2, [false, false])]
/-- 32: TimedCompiler$Text.isDigit(C)Z -/
def xt_32 : List (Option xi_E) := [some (.iload 0, .ref 1, []),
  some (.ldc 2, .int 48, []),
  none,
  some (.if_icmp .lt 0, .ref 16, []),
  none,
  none,
  some (.iload 0, .ref 1, [true]),
  some (.ldc 2, .int 57, []),
  none,
  some (.if_icmp .gt 0, .ref 16, []),
  none,
  none,
  some (.ldc 1, .int 1, [false]),
  some (.goto 0, .ref 17, []),
  none,
  none,
  some (.ldc 1, .int 0, [false]),
  some (.ireturn, .ref 1, [false])]
/-- 33: TimedCompiler$Text.atEnd()Z -/
def xt_33 : List (Option xi_E) := [some (.aload 0, .ref 1, []),
  some (.getfield 2, .ref 2, []),
  none,
  none,
  some (.aload 0, .ref 1, []),
  some (.getfield 2, .ref 1, []),
  none,
  none,
  some (.if_icmp .ne 0, .ref 15, []),
  none,
  none,
  some (.ldc 1, .int 1, [false]),
  some (.goto 0, .ref 16, []),
  none,
  none,
  some (.ldc 1, .int 0, [false]),
  some (.ireturn, .ref 1, [false])]
/-- 34: TimedCompiler$Text.sees(C)Z -/
def xt_34 : List (Option xi_E) := [some (.aload 0, .ref 1, []),
  some (.aload 0, .ref 1, []),
  some (.getfield 2, .ref 2, []),
  none,
  none,
  some (.invokeinterface 31 2, .ref 2, []),
  none,
  none,
  some (.iload 1, .ref 1, []),
  some (.if_icmp .ne 0, .ref 16, []),
  none,
  none,
  some (.ldc 1, .int 1, [false, false]),
  some (.goto 0, .ref 17, []),
  none,
  none,
  some (.ldc 1, .int 0, [false, false]),
  some (.ireturn, .ref 1, [false, false])]
/-- 35: TimedCompiler$Text.takes(C)Z -/
def xt_35 : List (Option xi_E) := [some (.aload 0, .ref 1, []),
  some (.iload 1, .ref 1, []),
  some (.invokeinterface 34 2, .ref 2, []),
  none,
  none,
  some (.ifCond .ne 0, .ref 10, []),
  none,
  none,
  some (.ldc 1, .int 0, [false, false]),
  some (.ireturn, .ref 1, []),
  some (.aload 0, .ref 1, [true, false]),
  some (.dup, .null, []),
  some (.getfield 2, .ref 2, []),
  none,
  none,
  some (.ldc 1, .int 1, []),
  some (.iadd, .null, []),
  some (.putfield 2, .ref 2, []),
  none,
  none,
  some (.ldc 1, .int 1, []),
  some (.ireturn, .ref 1, [])]
/-- 36: TimedCompiler$Text.takeOneOf(CI)I -/
def xt_36 : List (Option xi_E) := [some (.aload 0, .ref 1, []),
  some (.aload 0, .ref 1, []),
  some (.getfield 2, .ref 2, []),
  none,
  none,
  some (.invokeinterface 31 2, .ref 2, []),
  none,
  none,
  some (.iload 1, .ref 1, []),
  some (.isub, .null, []),
  some (.istore 3, .ref 1, []),
  some (.iload 3, .ref 1, []),
  some (.ifCond .lt 0, .ref 20, []),
  none,
  none,
  some (.iload 3, .ref 1, [true, false, true, true]),
  some (.iload 2, .ref 1, []),
  some (.if_icmp .lt 0, .ref 22, []),
  none,
  none,
  some (.ldc 1, .int (-1), [false, false, false, false]),
  some (.ireturn, .null, []),
  some (.aload 0, .ref 1, [true, false, false, true]),
  some (.dup, .null, []),
  some (.getfield 2, .ref 2, []),
  none,
  none,
  some (.ldc 1, .int 1, []),
  some (.iadd, .null, []),
  some (.putfield 2, .ref 2, []),
  none,
  none,
  some (.iload 3, .ref 1, []),
  some (.ireturn, .null, [])]
/-- 37: TimedCompiler$Text.countDigits()I -/
def xt_37 : List (Option xi_E) := [some (.ldc 1, .int 0, []),
  some (.istore 1, .ref 1, []),
  some (.iload 1, .ref 1, [true, true]),
  some (.ldc 1, .int 3, []),
  some (.if_icmp .ge 0, .ref 29, []),
  none,
  none,
  some (.aload 0, .ref 1, [true, true]),
  some (.aload 0, .ref 1, []),
  some (.getfield 2, .ref 2, []),
  none,
  none,
  some (.iload 1, .ref 1, []),
  some (.iadd, .null, []),
  some (.invokeinterface 31 2, .ref 2, []),
  none,
  none,
  some (.invokestatic 32, .ref 1, []),
  none,
  none,
  some (.ifCond .eq 0, .ref 29, []),
  none,
  none,
  some (.iinc 1 0, .int 1, [true, true]),
  none,
  none,
  some (.goto 0, .ref 2, []),
  none,
  none,
  some (.iload 1, .ref 1, [false, true]),
  some (.ireturn, .null, [])]
/-- 38: TimedCompiler$Text.seesNumberAndBlock()Z -/
def xt_38 : List (Option xi_E) := [some (.aload 0, .ref 1, []),
  some (.invokeinterface 37 2, .ref 1, []),
  none,
  none,
  some (.istore 1, .ref 1, []),
  some (.iload 1, .ref 1, []),
  some (.ifCond .le 0, .ref 28, []),
  none,
  none,
  some (.aload 0, .ref 1, [true, true]),
  some (.aload 0, .ref 1, []),
  some (.getfield 2, .ref 2, []),
  none,
  none,
  some (.iload 1, .ref 1, []),
  some (.iadd, .null, []),
  some (.invokeinterface 31 2, .ref 2, []),
  none,
  none,
  some (.ldc 2, .int 123, []),
  none,
  some (.if_icmp .ne 0, .ref 28, []),
  none,
  none,
  some (.ldc 1, .int 1, [false, false]),
  some (.goto 0, .ref 29, []),
  none,
  none,
  some (.ldc 1, .int 0, [false, false]),
  some (.ireturn, .ref 1, [false, false])]
/-- 39: TimedCompiler$Text.takeNumber()I -/
def xt_39 : List (Option xi_E) := [some (.aload 0, .ref 1, []),
  some (.invokeinterface 37 2, .ref 1, []),
  none,
  none,
  some (.istore 1, .ref 1, []),
  some (.iload 1, .ref 1, []),
  some (.ifCond .ne 0, .ref 11, []),
  none,
  none,
  some (.ldc 1, .int (-1), [false, false, false, false]),
  some (.ireturn, .null, []),
  some (.ldc 1, .int 0, [true, true, false, false]),
  some (.istore 2, .ref 1, []),
  some (.ldc 1, .int 0, []),
  some (.istore 3, .ref 1, []),
  some (.iload 3, .ref 1, [true, true, true, true]),
  some (.iload 1, .ref 1, []),
  some (.if_icmp .ge 0, .ref 45, []),
  none,
  none,
  some (.iload 2, .ref 1, [true, true, true, true]),
  some (.ldc 2, .int 10, []),
  none,
  some (.imul, .null, []),
  some (.aload 0, .ref 1, []),
  some (.aload 0, .ref 1, []),
  some (.getfield 2, .ref 2, []),
  none,
  none,
  some (.iload 3, .ref 1, []),
  some (.iadd, .null, []),
  some (.invokeinterface 31 2, .ref 2, []),
  none,
  none,
  some (.ldc 2, .int 48, []),
  none,
  some (.isub, .null, []),
  some (.iadd, .null, []),
  some (.istore 2, .ref 1, []),
  some (.iinc 3 0, .int 1, []),
  none,
  none,
  some (.goto 0, .ref 15, []),
  none,
  none,
  some (.aload 0, .ref 1, [true, true, true, false]),
  some (.dup, .null, []),
  some (.getfield 2, .ref 2, []),
  none,
  none,
  some (.iload 1, .ref 1, []),
  some (.iadd, .null, []),
  some (.putfield 2, .ref 2, []),
  none,
  none,
  some (.iload 2, .ref 1, []),
  some (.ireturn, .null, [])]
/-- 40: TimedCompiler$Code.clear()V -/
def xt_40 : List (Option xi_E) := [some (.aload 0, .ref 1, []),
  some (.ldc 1, .int 0, []),
  some (.putfield 3, .ref 2, []),
  none,
  none,
  some (.ldc 1, .int 0, []),
  some (.istore 1, .ref 1, []),
  some (.iload 1, .ref 1, [true, true]),
  some (.ldc 1, .int 5, []),
  some (.if_icmp .ge 0, .ref 46, []),
  none,
  none,
  some (.aload 0, .ref 1, [true, true]),
  some (.getfield 3, .ref 3, []),
  none,
  none,
  some (.iload 1, .ref 1, []),
  some (.ldc 1, .int (-1), []),
  some (.iastore, .null, []),
  some (.aload 0, .ref 1, []),
  some (.getfield 3, .ref 4, []),
  none,
  none,
  some (.iload 1, .ref 1, []),
  some (.ldc 1, .int (-1), []),
  some (.iastore, .null, []),
  some (.aload 0, .ref 1, []),
  some (.getfield 3, .ref 5, []),
  none,
  none,
  some (.iload 1, .ref 1, []),
  some (.ldc 1, .int 0, []),
  some (.iastore, .null, []),
  some (.aload 0, .ref 1, []),
  some (.getfield 3, .ref 6, []),
  none,
  none,
  some (.iload 1, .ref 1, []),
  some (.ldc 1, .int 0, []),
  some (.iastore, .null, []),
  some (.iinc 1 0, .int 1, []),
  none,
  none,
  some (.goto 0, .ref 7, []),
  none,
  none,
  some (.return_, .null, [false, false])]
/-- 41: TimedCompiler$Code.copy(LTimedCompiler$Code;)V -/
def xt_41 : List (Option xi_E) := [some (.aload 0, .ref 1, []),
  some (.aload 1, .ref 1, []),
  some (.getfield 3, .ref 2, []),
  none,
  none,
  some (.putfield 3, .ref 2, []),
  none,
  none,
  some (.aload 1, .ref 1, []),
  some (.getfield 3, .ref 0, []),
  none,
  none,
  some (.ldc 1, .int 0, []),
  some (.aload 0, .ref 1, []),
  some (.getfield 3, .ref 0, []),
  none,
  none,
  some (.ldc 1, .int 0, []),
  some (.ldc 3, .int 200, []),
  none,
  none,
  some (.invokedynamic 3, .null, []),
  none,
  none,
  some (.aload 1, .ref 1, []),
  some (.getfield 3, .ref 1, []),
  none,
  none,
  some (.ldc 1, .int 0, []),
  some (.aload 0, .ref 1, []),
  some (.getfield 3, .ref 1, []),
  none,
  none,
  some (.ldc 1, .int 0, []),
  some (.ldc 3, .int 200, []),
  none,
  none,
  some (.invokedynamic 3, .null, []),
  none,
  none,
  some (.aload 1, .ref 1, []),
  some (.getfield 3, .ref 3, []),
  none,
  none,
  some (.ldc 1, .int 0, []),
  some (.aload 0, .ref 1, []),
  some (.getfield 3, .ref 3, []),
  none,
  none,
  some (.ldc 1, .int 0, []),
  some (.ldc 1, .int 5, []),
  some (.invokedynamic 3, .null, []),
  none,
  none,
  some (.aload 1, .ref 1, []),
  some (.getfield 3, .ref 4, []),
  none,
  none,
  some (.ldc 1, .int 0, []),
  some (.aload 0, .ref 1, []),
  some (.getfield 3, .ref 4, []),
  none,
  none,
  some (.ldc 1, .int 0, []),
  some (.ldc 1, .int 5, []),
  some (.invokedynamic 3, .null, []),
  none,
  none,
  some (.aload 1, .ref 1, []),
  some (.getfield 3, .ref 5, []),
  none,
  none,
  some (.ldc 1, .int 0, []),
  some (.aload 0, .ref 1, []),
  some (.getfield 3, .ref 5, []),
  none,
  none,
  some (.ldc 1, .int 0, []),
  some (.ldc 1, .int 5, []),
  some (.invokedynamic 3, .null, []),
  none,
  none,
  some (.aload 1, .ref 1, []),
  some (.getfield 3, .ref 6, []),
  none,
  none,
  some (.ldc 1, .int 0, []),
  some (.aload 0, .ref 1, []),
  some (.getfield 3, .ref 6, []),
  none,
  none,
  some (.ldc 1, .int 0, []),
  some (.ldc 1, .int 5, []),
  some (.invokedynamic 3, .null, []),
  none,
  none,
  some (.return_, .null, [])]
/-- 42: TimedCompiler$Code.add(II)I -/
def xt_42 : List (Option xi_E) := [some (.aload 0, .ref 1, []),
  some (.getfield 3, .ref 2, []),
  none,
  none,
  some (.istore 3, .ref 1, []),
  some (.iload 3, .ref 1, []),
  some (.ldc 3, .int 200, []),
  none,
  none,
  some (.if_icmp .ge 0, .ref 26, []),
  none,
  none,
  some (.aload 0, .ref 1, [true, true, true, true]),
  some (.getfield 3, .ref 0, []),
  none,
  none,
  some (.iload 3, .ref 1, []),
  some (.iload 1, .ref 1, []),
  some (.iastore, .null, []),
  some (.aload 0, .ref 1, []),
  some (.getfield 3, .ref 1, []),
  none,
  none,
  some (.iload 3, .ref 1, []),
  some (.iload 2, .ref 1, []),
  some (.iastore, .null, []),
  some (.aload 0, .ref 1, [true, false, false, true]),
  some (.dup, .null, []),
  some (.getfield 3, .ref 2, []),
  none,
  none,
  some (.ldc 1, .int 1, []),
  some (.iadd, .null, []),
  some (.putfield 3, .ref 2, []),
  none,
  none,
  some (.iload 3, .ref 1, []),
  some (.ireturn, .null, [])]
/-- 43: TimedCompiler$Code.aim(I)V -/
def xt_43 : List (Option xi_E) := [some (.iload 1, .ref 1, []),
  some (.ifCond .lt 0, .ref 21, []),
  none,
  none,
  some (.iload 1, .ref 1, [true, true]),
  some (.ldc 3, .int 200, []),
  none,
  none,
  some (.if_icmp .ge 0, .ref 21, []),
  none,
  none,
  some (.aload 0, .ref 1, [true, true]),
  some (.getfield 3, .ref 1, []),
  none,
  none,
  some (.iload 1, .ref 1, []),
  some (.aload 0, .ref 1, []),
  some (.getfield 3, .ref 2, []),
  none,
  none,
  some (.iastore, .null, []),
  some (.return_, .null, [false, false])]
/-- 44: TimedCompiler$Code.isTooLong()Z -/
def xt_44 : List (Option xi_E) := [some (.aload 0, .ref 1, []),
  some (.getfield 3, .ref 2, []),
  none,
  none,
  some (.ldc 3, .int 200, []),
  none,
  none,
  some (.if_icmp .le 0, .ref 14, []),
  none,
  none,
  some (.ldc 1, .int 1, [false]),
  some (.goto 0, .ref 15, []),
  none,
  none,
  some (.ldc 1, .int 0, [false]),
  some (.ireturn, .ref 1, [false])]
/-- 45: TimedCompiler$Code.has(I)Z -/
def xt_45 : List (Option xi_E) := [some (.aload 0, .ref 1, []),
  some (.getfield 3, .ref 3, []),
  none,
  none,
  some (.iload 1, .ref 1, []),
  some (.iaload, .null, []),
  some (.ldc 1, .int (-1), []),
  some (.if_icmp .eq 0, .ref 14, []),
  none,
  none,
  some (.ldc 1, .int 1, [false, false]),
  some (.goto 0, .ref 15, []),
  none,
  none,
  some (.ldc 1, .int 0, [false, false]),
  some (.ireturn, .ref 1, [false, false])]
/-- 46: TimedCompiler$Code.linkCalls()V -/
def xt_46 : List (Option xi_E) := [some (.ldc 1, .int 0, []),
  some (.istore 1, .ref 1, []),
  some (.iload 1, .ref 1, [true, true, false]),
  some (.aload 0, .ref 1, []),
  some (.getfield 3, .ref 2, []),
  none,
  none,
  some (.if_icmp .ge 0, .ref 62, []),
  none,
  none,
  some (.iload 1, .ref 1, [true, true, false]),
  some (.ldc 3, .int 200, []),
  none,
  none,
  some (.if_icmp .ge 0, .ref 62, []),
  none,
  none,
  some (.aload 0, .ref 1, [true, true, false]),
  some (.getfield 3, .ref 1, []),
  none,
  none,
  some (.iload 1, .ref 1, []),
  some (.iaload, .null, []),
  some (.istore 2, .ref 1, []),
  some (.aload 0, .ref 1, []),
  some (.getfield 3, .ref 0, []),
  none,
  none,
  some (.iload 1, .ref 1, []),
  some (.iaload, .null, []),
  some (.ldc 2, .int 17, []),
  none,
  some (.if_icmp .ne 0, .ref 56, []),
  none,
  none,
  some (.iload 2, .ref 1, [true, true, true]),
  some (.ifCond .lt 0, .ref 56, []),
  none,
  none,
  some (.iload 2, .ref 1, [true, true, true]),
  some (.ldc 1, .int 4, []),
  some (.if_icmp .ge 0, .ref 56, []),
  none,
  none,
  some (.aload 0, .ref 1, [true, true, true]),
  some (.getfield 3, .ref 1, []),
  none,
  none,
  some (.iload 1, .ref 1, []),
  some (.aload 0, .ref 1, []),
  some (.getfield 3, .ref 3, []),
  none,
  none,
  some (.iload 2, .ref 1, []),
  some (.iaload, .null, []),
  some (.iastore, .null, []),
  some (.iinc 1 0, .int 1, [true, true, false]),
  none,
  none,
  some (.goto 0, .ref 2, []),
  none,
  none,
  some (.return_, .null, [false, false, false])]
/-- 47: TimedCompiler$Code.procedureAt(I)I -/
def xt_47 : List (Option xi_E) := [some (.ldc 1, .int 0, []),
  some (.istore 2, .ref 1, []),
  some (.iload 2, .ref 1, [true, true, true]),
  some (.ldc 1, .int 4, []),
  some (.if_icmp .ge 0, .ref 25, []),
  none,
  none,
  some (.aload 0, .ref 1, [true, true, true]),
  some (.getfield 3, .ref 3, []),
  none,
  none,
  some (.iload 2, .ref 1, []),
  some (.iaload, .null, []),
  some (.iload 1, .ref 1, []),
  some (.if_icmp .ne 0, .ref 19, []),
  none,
  none,
  some (.iload 2, .ref 1, [false, false, true]),
  some (.ireturn, .null, []),
  some (.iinc 2 0, .int 1, [true, true, true]),
  none,
  none,
  some (.goto 0, .ref 2, []),
  none,
  none,
  some (.ldc 1, .int (-1), [false, false, false]),
  some (.ireturn, .null, [])]
/-- 48: TimedCompiler$Bounds.settle(LTimedCompiler$Code;)Z -/
def xt_48 : List (Option xi_E) := [some (.aload 1, .ref 1, []),
  some (.invokeinterface 44 3, .ref 1, []),
  none,
  none,
  some (.ifCond .ne 0, .ref 15, []),
  none,
  none,
  some (.aload 0, .ref 1, [true, true, false]),
  some (.aload 1, .ref 1, []),
  some (.invokeinterface 49 4, .ref 2, []),
  none,
  none,
  some (.ifCond .ne 0, .ref 17, []),
  none,
  none,
  some (.ldc 1, .int 0, [false, false, false]),
  some (.ireturn, .ref 1, []),
  some (.aload 0, .ref 1, [true, true, false]),
  some (.aload 1, .ref 1, []),
  some (.ldc 1, .int 4, []),
  some (.invokeinterface 51 4, .ref 3, []),
  none,
  none,
  some (.ldc 1, .int 0, []),
  some (.istore 2, .ref 1, []),
  some (.iload 2, .ref 1, [false, true, true]),
  some (.ldc 1, .int 5, []),
  some (.if_icmp .ge 0, .ref 50, []),
  none,
  none,
  some (.aload 1, .ref 1, [false, true, true]),
  some (.getfield 3, .ref 5, []),
  none,
  none,
  some (.iload 2, .ref 1, []),
  some (.iaload, .null, []),
  some (.ldc 3, .int 20000, []),
  none,
  none,
  some (.if_icmp .le 0, .ref 44, []),
  none,
  none,
  some (.ldc 1, .int 0, [false, false, false]),
  some (.ireturn, .ref 1, []),
  some (.iinc 2 0, .int 1, [false, true, true]),
  none,
  none,
  some (.goto 0, .ref 25, []),
  none,
  none,
  some (.ldc 1, .int 1, [false, false, false]),
  some (.ireturn, .ref 1, [])]
/-- 49: TimedCompiler$Bounds.settleProcedures(LTimedCompiler$Code;)Z -/
def xt_49 : List (Option xi_E) := [some (.ldc 1, .int 0, []),
  some (.istore 2, .ref 1, []),
  some (.ldc 1, .int 0, []),
  some (.istore 3, .ref 1, []),
  some (.iload 3, .ref 1, [true, true, true, true, false]),
  some (.ldc 1, .int 4, []),
  some (.if_icmp .ge 0, .ref 29, []),
  none,
  none,
  some (.aload 1, .ref 1, [true, true, true, true, false]),
  some (.iload 3, .ref 1, []),
  some (.invokeinterface 45 3, .ref 2, []),
  none,
  none,
  some (.ifCond .eq 0, .ref 23, []),
  none,
  none,
  some (.iload 2, .ref 1, [true, true, true, true, false]),
  some (.ldc 1, .int 1, []),
  some (.iload 3, .ref 1, []),
  some (.ishl, .null, []),
  some (.ior, .null, []),
  some (.istore 2, .ref 1, []),
  some (.iinc 3 0, .int 1, [true, true, true, true, false]),
  none,
  none,
  some (.goto 0, .ref 4, []),
  none,
  none,
  some (.ldc 1, .int 0, [true, true, true, false, false]),
  some (.istore 3, .ref 1, []),
  some (.iload 3, .ref 1, [true, true, true, true, false]),
  some (.ldc 1, .int 4, []),
  some (.if_icmp .ge 0, .ref 93, []),
  none,
  none,
  some (.ldc 1, .int 0, [true, true, true, true, false]),
  some (.istore 4, .ref 2, []),
  none,
  some (.iload 4, .ref 2, [true, true, true, true, true]),
  none,
  some (.ldc 1, .int 4, []),
  some (.if_icmp .ge 0, .ref 87, []),
  none,
  none,
  some (.iload 2, .ref 1, [true, true, true, true, true]),
  some (.ldc 1, .int 1, []),
  some (.iload 4, .ref 2, []),
  none,
  some (.ishl, .null, []),
  some (.iand, .null, []),
  some (.ifCond .eq 0, .ref 81, []),
  none,
  none,
  some (.aload 1, .ref 1, [true, true, true, true, true]),
  some (.iload 4, .ref 2, []),
  none,
  some (.invokestatic 50, .ref 2, []),
  none,
  none,
  some (.iload 2, .ref 1, []),
  some (.iand, .null, []),
  some (.ifCond .ne 0, .ref 81, []),
  none,
  none,
  some (.aload 0, .ref 1, [true, true, true, true, true]),
  some (.aload 1, .ref 1, []),
  some (.iload 4, .ref 2, []),
  none,
  some (.invokeinterface 51 4, .ref 3, []),
  none,
  none,
  some (.iload 2, .ref 1, []),
  some (.ldc 1, .int 1, []),
  some (.iload 4, .ref 2, []),
  none,
  some (.ishl, .null, []),
  some (.ldc 1, .int (-1), []),
  some (.ixor, .null, []),
  some (.iand, .null, []),
  some (.istore 2, .ref 1, []),
  some (.iinc 4 0, .int 1, [true, true, true, true, true]),
  none,
  none,
  some (.goto 0, .ref 39, []),
  none,
  none,
  some (.iinc 3 0, .int 1, [true, true, true, true, false]),
  none,
  none,
  some (.goto 0, .ref 31, []),
  none,
  none,
  some (.iload 2, .ref 1, [false, false, true, false, false]),
  some (.ifCond .ne 0, .ref 101, []),
  none,
  none,
  some (.ldc 1, .int 1, [false, false, false, false, false]),
  some (.goto 0, .ref 102, []),
  none,
  none,
  some (.ldc 1, .int 0, [false, false, false, false, false]),
  some (.ireturn, .ref 1, [false, false, false, false, false])]
/-- 50: TimedCompiler$Bounds.calledBy(LTimedCompiler$Code;I)I -/
def xt_50 : List (Option xi_E) := [some (.ldc 1, .int 0, []),
  some (.istore 2, .ref 1, []),
  some (.aload 0, .ref 1, []),
  some (.getfield 3, .ref 3, []),
  none,
  none,
  some (.iload 1, .ref 1, []),
  some (.iaload, .null, []),
  some (.istore 3, .ref 1, []),
  some (.iload 3, .ref 1, [true, true, true, true, false]),
  some (.aload 0, .ref 1, []),
  some (.getfield 3, .ref 4, []),
  none,
  none,
  some (.iload 1, .ref 1, []),
  some (.iaload, .null, []),
  some (.if_icmp .ge 0, .ref 65, []),
  none,
  none,
  some (.aload 0, .ref 1, [true, true, true, true, false]),
  some (.getfield 3, .ref 0, []),
  none,
  none,
  some (.iload 3, .ref 1, []),
  some (.iaload, .null, []),
  some (.ldc 2, .int 17, []),
  none,
  some (.if_icmp .ne 0, .ref 43, []),
  none,
  none,
  some (.aload 0, .ref 1, [true, true, true, true, false]),
  some (.aload 0, .ref 1, []),
  some (.getfield 3, .ref 1, []),
  none,
  none,
  some (.iload 3, .ref 1, []),
  some (.iaload, .null, []),
  some (.invokeinterface 47 3, .ref 2, []),
  none,
  none,
  some (.goto 0, .ref 44, []),
  none,
  none,
  some (.ldc 1, .int (-1), [true, true, true, true, false]),
  some (.istore 4, .ref 2, [true, true, true, true, false]),
  none,
  some (.iload 4, .ref 2, []),
  none,
  some (.ldc 1, .int (-1), []),
  some (.if_icmp .eq 0, .ref 59, []),
  none,
  none,
  some (.iload 2, .ref 1, [true, true, true, true, true]),
  some (.ldc 1, .int 1, []),
  some (.iload 4, .ref 2, []),
  none,
  some (.ishl, .null, []),
  some (.ior, .null, []),
  some (.istore 2, .ref 1, []),
  some (.iinc 3 0, .int 1, [true, true, true, true, false]),
  none,
  none,
  some (.goto 0, .ref 9, []),
  none,
  none,
  some (.iload 2, .ref 1, [false, false, true, false, false]),
  some (.ireturn, .null, [])]
/-- 51: TimedCompiler$Bounds.measure(LTimedCompiler$Code;I)V -/
def xt_51 : List (Option xi_E) := [some (.aload 1, .ref 1, []),
  some (.getfield 3, .ref 4, []),
  none,
  none,
  some (.iload 2, .ref 1, []),
  some (.iaload, .null, []),
  some (.istore 3, .ref 1, []),
  some (.aload 1, .ref 1, []),
  some (.getfield 3, .ref 3, []),
  none,
  none,
  some (.iload 2, .ref 1, []),
  some (.iaload, .null, []),
  some (.istore 4, .ref 2, []),
  none,
  some (.iload 4, .ref 2, []),
  none,
  some (.istore 5, .ref 2, []),
  none,
  some (.iload 5, .ref 2, [true, true, true, true, true, true, false]),
  none,
  some (.iload 3, .ref 1, []),
  some (.if_icmp .gt 0, .ref 47, []),
  none,
  none,
  some (.aload 0, .ref 1, [true, true, true, true, true, true, false]),
  some (.getfield 4, .ref 0, []),
  none,
  none,
  some (.iload 5, .ref 2, []),
  none,
  some (.ldc 1, .long 0, []),
  some (.lastore, .null, []),
  some (.aload 0, .ref 1, []),
  some (.getfield 4, .ref 1, []),
  none,
  none,
  some (.iload 5, .ref 2, []),
  none,
  some (.ldc 1, .int 0, []),
  some (.iastore, .null, []),
  some (.iinc 5 0, .int 1, []),
  none,
  none,
  some (.goto 0, .ref 19, []),
  none,
  none,
  some (.aload 0, .ref 1, [true, true, true, true, true, false, false]),
  some (.ldc 1, .int 0, []),
  some (.putfield 4, .ref 2, []),
  none,
  none,
  some (.ldc 1, .int 0, []),
  some (.istore 5, .ref 2, []),
  none,
  some (.iload 5, .ref 2, [true, true, true, true, true, true, false]),
  none,
  some (.ldc 3, .int 200, []),
  none,
  none,
  some (.if_icmp .ge 0, .ref 84, []),
  none,
  none,
  some (.iload 4, .ref 2, [true, true, true, true, true, true, false]),
  none,
  some (.iload 3, .ref 1, []),
  some (.if_icmp .ge 0, .ref 84, []),
  none,
  none,
  some (.aload 0, .ref 1, [true, true, true, true, true, true, false]),
  some (.aload 1, .ref 1, []),
  some (.iload 4, .ref 2, []),
  none,
  some (.invokeinterface 52 4, .ref 3, []),
  none,
  none,
  some (.istore 4, .ref 2, []),
  none,
  some (.iinc 5 0, .int 1, []),
  none,
  none,
  some (.goto 0, .ref 55, []),
  none,
  none,
  some (.aload 0, .ref 1, [true, true, true, true, false, false, false]),
  some (.getfield 4, .ref 0, []),
  none,
  none,
  some (.iload 3, .ref 1, []),
  some (.laload, .null, []),
  some (.getstatic 1000, .null, []),
  none,
  none,
  some (.aload 1, .ref 1, []),
  some (.getfield 3, .ref 0, []),
  none,
  none,
  some (.iload 3, .ref 1, []),
  some (.iaload, .null, []),
  some (.iaload, .null, []),
  some (.i2l, .null, []),
  some (.ladd, .null, []),
  some (.ldc 3, .long 20001, []),
  none,
  none,
  some (.invokedynamic 2, .null, []),
  none,
  none,
  some (.lstore 5, .ref 2, []),
  none,
  some (.aload 1, .ref 1, []),
  some (.getfield 3, .ref 5, []),
  none,
  none,
  some (.iload 2, .ref 1, []),
  some (.lload 5, .ref 2, []),
  none,
  some (.l2i, .null, []),
  some (.iastore, .null, []),
  some (.aload 1, .ref 1, []),
  some (.getfield 3, .ref 6, []),
  none,
  none,
  some (.iload 2, .ref 1, []),
  some (.aload 0, .ref 1, []),
  some (.getfield 4, .ref 2, []),
  none,
  none,
  some (.iastore, .null, []),
  some (.return_, .null, [])]
/-- 52: TimedCompiler$Bounds.pass(LTimedCompiler$Code;I)I -/
def xt_52 : List (Option xi_E) := [some (.aload 1, .ref 1, []),
  some (.getfield 3, .ref 0, []),
  none,
  none,
  some (.iload 2, .ref 1, []),
  some (.iaload, .null, []),
  some (.istore 3, .ref 1, []),
  some (.aload 1, .ref 1, []),
  some (.getfield 3, .ref 1, []),
  none,
  none,
  some (.iload 2, .ref 1, []),
  some (.iaload, .null, []),
  some (.istore 4, .ref 2, []),
  none,
  some (.aload 0, .ref 1, []),
  some (.getfield 4, .ref 0, []),
  none,
  none,
  some (.iload 2, .ref 1, []),
  some (.laload, .null, []),
  some (.getstatic 1000, .null, []),
  none,
  none,
  some (.iload 3, .ref 1, []),
  some (.iaload, .null, []),
  some (.i2l, .null, []),
  some (.ladd, .null, []),
  some (.lstore 5, .ref 2, []),
  none,
  some (.aload 0, .ref 1, []),
  some (.getfield 4, .ref 1, []),
  none,
  none,
  some (.iload 2, .ref 1, []),
  some (.iaload, .null, []),
  some (.getstatic 1001, .null, []),
  none,
  none,
  some (.iload 3, .ref 1, []),
  some (.iaload, .null, []),
  some (.iadd, .null, []),
  some (.istore 7, .ref 2, []),
  none,
  some (.iload 3, .ref 1, []),
  some (.lookupswitch 192 #[(13, 80), (14, 109), (15, 149), (16, 192), (17, 182)], .null, []),
  none,
  none,
  none,
  none,
  none,
  none,
  none,
  none,
  none,
  none,
  none,
  none,
  none,
  none,
  none,
  none,
  none,
  none,
  none,
  none,
  none,
  none,
  none,
  none,
  none,
  none,
  none,
  none,
  none,
  none,
  none,
  none,
  none,
  none,
  some (.aload 0, .ref 1, [true, false, true, false, true, true, false, true]),
  some (.iload 4, .ref 2, []),
  none,
  some (.lload 5, .ref 2, []),
  none,
  some (.ldc 3, .long 2, []),
  none,
  none,
  some (.ladd, .null, []),
  some (.iload 7, .ref 2, []),
  none,
  some (.invokeinterface 56 4, .ref 4, []),
  none,
  none,
  some (.aload 0, .ref 1, []),
  some (.iload 2, .ref 1, []),
  some (.ldc 1, .int 1, []),
  some (.iadd, .null, []),
  some (.lload 5, .ref 2, []),
  none,
  some (.iload 7, .ref 2, []),
  none,
  some (.invokeinterface 56 4, .ref 4, []),
  none,
  none,
  some (.iload 2, .ref 1, []),
  some (.ldc 1, .int 1, []),
  some (.iadd, .null, []),
  some (.ireturn, .null, []),
  some (.iload 4, .ref 2, [true, true, true, false, true, true, false, true]),
  none,
  some (.iload 2, .ref 1, []),
  some (.if_icmp .le 0, .ref 128, []),
  none,
  none,
  some (.aload 0, .ref 1, [true, false, true, false, true, true, false, true]),
  some (.iload 4, .ref 2, []),
  none,
  some (.lload 5, .ref 2, []),
  none,
  some (.iload 7, .ref 2, []),
  none,
  some (.invokeinterface 56 4, .ref 4, []),
  none,
  none,
  some (.goto 0, .ref 145, []),
  none,
  none,
  some (.aload 0, .ref 1, [true, true, true, false, true, true, false, false]),
  some (.aload 1, .ref 1, []),
  some (.iload 4, .ref 2, []),
  none,
  some (.lload 5, .ref 2, []),
  none,
  some (.aload 0, .ref 1, []),
  some (.getfield 4, .ref 0, []),
  none,
  none,
  some (.iload 4, .ref 2, []),
  none,
  some (.laload, .null, []),
  some (.lsub, .null, []),
  some (.invokeinterface 55 4, .ref 4, []),
  none,
  none,
  some (.iload 2, .ref 1, [false, false, true, false, false, false, false, false]),
  some (.ldc 1, .int 1, []),
  some (.iadd, .null, []),
  some (.ireturn, .null, []),
  some (.aload 1, .ref 1, [true, true, true, false, true, true, false, true]),
  some (.iload 2, .ref 1, []),
  some (.invokestatic 54, .ref 2, []),
  none,
  none,
  some (.ifCond .ne 0, .ref 167, []),
  none,
  none,
  some (.aload 0, .ref 1, [true, true, true, false, true, false, false, false]),
  some (.aload 1, .ref 1, []),
  some (.iload 2, .ref 1, []),
  some (.ldc 1, .long 0, []),
  some (.invokeinterface 55 4, .ref 4, []),
  none,
  none,
  some (.iload 4, .ref 2, []),
  none,
  some (.ireturn, .null, []),
  some (.aload 0, .ref 1, [true, false, true, false, false, true, false, true]),
  some (.iload 2, .ref 1, []),
  some (.ldc 1, .int 1, []),
  some (.iadd, .null, []),
  some (.lload 5, .ref 2, []),
  none,
  some (.iload 7, .ref 2, []),
  none,
  some (.invokeinterface 56 4, .ref 4, []),
  none,
  none,
  some (.iload 2, .ref 1, []),
  some (.ldc 1, .int 1, []),
  some (.iadd, .null, []),
  some (.ireturn, .null, []),
  some (.aload 0, .ref 1, [true, true, true, false, false, false, false, false]),
  some (.aload 1, .ref 1, []),
  some (.iload 2, .ref 1, []),
  some (.invokeinterface 53 4, .ref 3, []),
  none,
  none,
  some (.iload 2, .ref 1, []),
  some (.ldc 1, .int 1, []),
  some (.iadd, .null, []),
  some (.ireturn, .null, []),
  some (.aload 0, .ref 1, [true, false, true, false, false, true, false, true]),
  some (.iload 2, .ref 1, []),
  some (.ldc 1, .int 1, []),
  some (.iadd, .null, []),
  some (.lload 5, .ref 2, []),
  none,
  some (.iload 7, .ref 2, []),
  none,
  some (.invokeinterface 56 4, .ref 4, []),
  none,
  none,
  some (.iload 2, .ref 1, []),
  some (.ldc 1, .int 1, []),
  some (.iadd, .null, []),
  some (.ireturn, .null, [])]
/-- 53: TimedCompiler$Bounds.passCall(LTimedCompiler$Code;I)V -/
def xt_53 : List (Option xi_E) := [some (.aload 1, .ref 1, []),
  some (.aload 1, .ref 1, []),
  some (.getfield 3, .ref 1, []),
  none,
  none,
  some (.iload 2, .ref 1, []),
  some (.iaload, .null, []),
  some (.invokeinterface 47 3, .ref 2, []),
  none,
  none,
  some (.istore 3, .ref 1, []),
  some (.iload 3, .ref 1, []),
  some (.ldc 1, .int (-1), []),
  some (.if_icmp .eq 0, .ref 82, []),
  none,
  none,
  some (.aload 0, .ref 1, [true, true, true, true]),
  some (.aload 0, .ref 1, []),
  some (.getfield 4, .ref 2, []),
  none,
  none,
  some (.aload 0, .ref 1, []),
  some (.getfield 4, .ref 1, []),
  none,
  none,
  some (.iload 2, .ref 1, []),
  some (.iaload, .null, []),
  some (.getstatic 1001, .null, []),
  none,
  none,
  some (.ldc 2, .int 17, []),
  none,
  some (.iaload, .null, []),
  some (.iadd, .null, []),
  some (.aload 1, .ref 1, []),
  some (.getfield 3, .ref 6, []),
  none,
  none,
  some (.iload 3, .ref 1, []),
  some (.iaload, .null, []),
  some (.iadd, .null, []),
  some (.invokedynamic 0, .null, []),
  none,
  none,
  some (.putfield 4, .ref 2, []),
  none,
  none,
  some (.aload 0, .ref 1, []),
  some (.iload 2, .ref 1, []),
  some (.ldc 1, .int 1, []),
  some (.iadd, .null, []),
  some (.aload 0, .ref 1, []),
  some (.getfield 4, .ref 0, []),
  none,
  none,
  some (.iload 2, .ref 1, []),
  some (.laload, .null, []),
  some (.getstatic 1000, .null, []),
  none,
  none,
  some (.ldc 2, .int 17, []),
  none,
  some (.iaload, .null, []),
  some (.i2l, .null, []),
  some (.ladd, .null, []),
  some (.aload 1, .ref 1, []),
  some (.getfield 3, .ref 5, []),
  none,
  none,
  some (.iload 3, .ref 1, []),
  some (.iaload, .null, []),
  some (.i2l, .null, []),
  some (.ladd, .null, []),
  some (.aload 0, .ref 1, []),
  some (.getfield 4, .ref 1, []),
  none,
  none,
  some (.iload 2, .ref 1, []),
  some (.iaload, .null, []),
  some (.invokeinterface 56 4, .ref 4, []),
  none,
  none,
  some (.return_, .null, [false, false, false, false])]
/-- 54: TimedCompiler$Bounds.rounds(LTimedCompiler$Code;I)I -/
def xt_54 : List (Option xi_E) := [some (.iload 1, .ref 1, []),
  some (.ifCond .le 0, .ref 15, []),
  none,
  none,
  some (.aload 0, .ref 1, [true, true]),
  some (.getfield 3, .ref 1, []),
  none,
  none,
  some (.iload 1, .ref 1, []),
  some (.ldc 1, .int 1, []),
  some (.isub, .null, []),
  some (.iaload, .null, []),
  some (.goto 0, .ref 16, []),
  none,
  none,
  some (.ldc 1, .int 0, [false, false]),
  some (.ireturn, .null, [false, false])]
/-- 55: TimedCompiler$Bounds.leaveLoop(LTimedCompiler$Code;IJ)V -/
def xt_55 : List (Option xi_E) := [some (.aload 1, .ref 1, []),
  some (.iload 2, .ref 1, []),
  some (.invokestatic 54, .ref 2, []),
  none,
  none,
  some (.i2l, .null, []),
  some (.lload 3, .ref 1, []),
  some (.lmul, .null, []),
  some (.lstore 5, .ref 2, []),
  none,
  some (.aload 0, .ref 1, []),
  some (.aload 1, .ref 1, []),
  some (.getfield 3, .ref 1, []),
  none,
  none,
  some (.iload 2, .ref 1, []),
  some (.iaload, .null, []),
  some (.aload 0, .ref 1, []),
  some (.getfield 4, .ref 0, []),
  none,
  none,
  some (.iload 2, .ref 1, []),
  some (.laload, .null, []),
  some (.lload 5, .ref 2, []),
  none,
  some (.ladd, .null, []),
  some (.getstatic 1000, .null, []),
  none,
  none,
  some (.ldc 2, .int 15, []),
  none,
  some (.iaload, .null, []),
  some (.i2l, .null, []),
  some (.ladd, .null, []),
  some (.ldc 3, .long 2, []),
  none,
  none,
  some (.ladd, .null, []),
  some (.aload 0, .ref 1, []),
  some (.getfield 4, .ref 1, []),
  none,
  none,
  some (.iload 2, .ref 1, []),
  some (.iaload, .null, []),
  some (.ldc 1, .int 1, []),
  some (.isub, .null, []),
  some (.invokeinterface 56 4, .ref 4, []),
  none,
  none,
  some (.return_, .null, [])]
/-- 56: TimedCompiler$Bounds.reach(IJI)V -/
def xt_56 : List (Option xi_E) := [some (.iload 1, .ref 1, []),
  some (.ifCond .lt 0, .ref 48, []),
  none,
  none,
  some (.iload 1, .ref 1, [true, true, true, false, true]),
  some (.ldc 3, .int 200, []),
  none,
  none,
  some (.if_icmp .gt 0, .ref 48, []),
  none,
  none,
  some (.aload 0, .ref 1, [true, true, true, false, true]),
  some (.getfield 4, .ref 0, []),
  none,
  none,
  some (.iload 1, .ref 1, []),
  some (.aload 0, .ref 1, []),
  some (.getfield 4, .ref 0, []),
  none,
  none,
  some (.iload 1, .ref 1, []),
  some (.laload, .null, []),
  some (.lload 2, .ref 1, []),
  some (.invokedynamic 1, .null, []),
  none,
  none,
  some (.lastore, .null, []),
  some (.aload 0, .ref 1, []),
  some (.getfield 4, .ref 1, []),
  none,
  none,
  some (.iload 1, .ref 1, []),
  some (.iload 4, .ref 2, []),
  none,
  some (.iastore, .null, []),
  some (.aload 0, .ref 1, []),
  some (.aload 0, .ref 1, []),
  some (.getfield 4, .ref 2, []),
  none,
  none,
  some (.iload 4, .ref 2, []),
  none,
  some (.invokedynamic 0, .null, []),
  none,
  none,
  some (.putfield 4, .ref 2, []),
  none,
  none,
  some (.return_, .null, [false, false, false, false, false])]
/-- 57: TimedCompiler$Machine.forgetRun()V -/
def xt_57 : List (Option xi_E) := [some (.aload 0, .ref 1, []),
  some (.ldc 1, .int 0, []),
  some (.putstatic 5, .ref 4, []),
  none,
  none,
  some (.aload 0, .ref 1, []),
  some (.ldc 1, .int 0, []),
  some (.putfield 5, .ref 8, []),
  none,
  none,
  some (.return_, .null, [])]
/-- 58: TimedCompiler$Machine.carryOut(LTimedCompiler$Code;)I -/
def xt_58 : List (Option xi_E) := [some (.aload 0, .ref 1, []),
  some (.ldc 1, .int 1, []),
  some (.putstatic 5, .ref 4, []),
  none,
  none,
  some (.aload 0, .ref 1, []),
  some (.ldc 1, .int 0, []),
  some (.putfield 5, .ref 3, []),
  none,
  none,
  some (.aload 0, .ref 1, []),
  some (.ldc 1, .int 0, []),
  some (.putfield 5, .ref 6, []),
  none,
  none,
  some (.aload 0, .ref 1, []),
  some (.ldc 1, .int 0, []),
  some (.putfield 5, .ref 5, []),
  none,
  none,
  some (.aload 0, .ref 1, []),
  some (.ldc 1, .int 0, []),
  some (.putfield 5, .ref 7, []),
  none,
  none,
  some (.aload 0, .ref 1, []),
  some (.ldc 1, .int 0, []),
  some (.putfield 5, .ref 8, []),
  none,
  none,
  some (.ldc 1, .int (-1), []),
  some (.istore 2, .ref 1, []),
  some (.ldc 1, .int 0, []),
  some (.istore 3, .ref 1, []),
  some (.iload 3, .ref 1, [true, true, true, true]),
  some (.ldc 3, .int 20000, []),
  none,
  none,
  some (.if_icmp .gt 0, .ref 58, []),
  none,
  none,
  some (.iload 2, .ref 1, [true, true, true, true]),
  some (.ldc 1, .int (-1), []),
  some (.if_icmp .ne 0, .ref 58, []),
  none,
  none,
  some (.aload 0, .ref 1, [true, true, false, true]),
  some (.aload 1, .ref 1, []),
  some (.invokeinterface 59 5, .ref 2, []),
  none,
  none,
  some (.istore 2, .ref 1, []),
  some (.iinc 3 0, .int 1, []),
  none,
  none,
  some (.goto 0, .ref 34, []),
  none,
  none,
  some (.iload 2, .ref 1, [false, false, true, false]),
  some (.ireturn, .null, [])]
/-- 59: TimedCompiler$Machine.step(LTimedCompiler$Code;)I -/
def xt_59 : List (Option xi_E) := [some (.aload 0, .ref 1, []),
  some (.getfield 5, .ref 7, []),
  none,
  none,
  some (.ifCond .lt 0, .ref 28, []),
  none,
  none,
  some (.aload 0, .ref 1, [true, true, false, false, false]),
  some (.getfield 5, .ref 7, []),
  none,
  none,
  some (.aload 1, .ref 1, []),
  some (.getfield 3, .ref 2, []),
  none,
  none,
  some (.if_icmp .ge 0, .ref 28, []),
  none,
  none,
  some (.aload 0, .ref 1, [true, true, false, false, false]),
  some (.getfield 5, .ref 7, []),
  none,
  none,
  some (.ldc 3, .int 200, []),
  none,
  none,
  some (.if_icmp .lt 0, .ref 30, []),
  none,
  none,
  some (.ldc 1, .int 0, [false, false, false, false, false]),
  some (.ireturn, .null, []),
  some (.aload 1, .ref 1, [true, true, false, false, false]),
  some (.getfield 3, .ref 0, []),
  none,
  none,
  some (.aload 0, .ref 1, []),
  some (.getfield 5, .ref 7, []),
  none,
  none,
  some (.iaload, .null, []),
  some (.istore 2, .ref 1, []),
  some (.aload 1, .ref 1, []),
  some (.getfield 3, .ref 1, []),
  none,
  none,
  some (.aload 0, .ref 1, []),
  some (.getfield 5, .ref 7, []),
  none,
  none,
  some (.iaload, .null, []),
  some (.istore 3, .ref 1, []),
  some (.aload 0, .ref 1, []),
  some (.dup, .null, []),
  some (.getfield 5, .ref 5, []),
  none,
  none,
  some (.getstatic 1000, .null, []),
  none,
  none,
  some (.iload 2, .ref 1, []),
  some (.iaload, .null, []),
  some (.iadd, .null, []),
  some (.putfield 5, .ref 5, []),
  none,
  none,
  some (.iload 2, .ref 1, []),
  some (.ldc 2, .int 19, []),
  none,
  some (.if_icmp .ne 0, .ref 72, []),
  none,
  none,
  some (.ldc 1, .int 0, [false, false, false, false, false]),
  some (.ireturn, .null, []),
  some (.aload 0, .ref 1, [true, false, true, true, false]),
  some (.iload 2, .ref 1, []),
  some (.iload 3, .ref 1, []),
  some (.invokeinterface 60 5, .ref 3, []),
  none,
  none,
  some (.istore 4, .ref 2, []),
  none,
  some (.iload 4, .ref 2, []),
  none,
  some (.ifCond .eq 0, .ref 88, []),
  none,
  none,
  some (.iload 4, .ref 2, [false, false, false, false, true]),
  none,
  some (.ireturn, .null, []),
  some (.aload 0, .ref 1, [true, false, true, true, false]),
  some (.dup, .null, []),
  some (.getfield 5, .ref 7, []),
  none,
  none,
  some (.ldc 1, .int 1, []),
  some (.iadd, .null, []),
  some (.putfield 5, .ref 7, []),
  none,
  none,
  some (.iload 2, .ref 1, []),
  some (.ldc 2, .int 11, []),
  none,
  some (.if_icmp .gt 0, .ref 113, []),
  none,
  none,
  some (.aload 0, .ref 1, [true, false, true, true, false]),
  some (.iload 2, .ref 1, []),
  some (.iload 3, .ref 1, []),
  some (.invokeinterface 62 5, .ref 3, []),
  none,
  none,
  some (.goto 0, .ref 119, []),
  none,
  none,
  some (.aload 0, .ref 1, [true, false, true, true, false]),
  some (.iload 2, .ref 1, []),
  some (.iload 3, .ref 1, []),
  some (.invokeinterface 64 5, .ref 3, []),
  none,
  none,
  some (.ldc 1, .int (-1), [false, false, false, false, false]),
  some (.ireturn, .null, [])]
/-- 60: TimedCompiler$Machine.trapOf(II)I -/
def xt_60 : List (Option xi_E) := [some (.iload 1, .ref 1, []),
  some (.lookupswitch 107 #[(3, 58), (4, 75), (8, 44), (16, 92)], .null, []),
  none,
  none,
  none,
  none,
  none,
  none,
  none,
  none,
  none,
  none,
  none,
  none,
  none,
  none,
  none,
  none,
  none,
  none,
  none,
  none,
  none,
  none,
  none,
  none,
  none,
  none,
  none,
  none,
  none,
  none,
  none,
  none,
  none,
  none,
  none,
  none,
  none,
  none,
  none,
  none,
  none,
  none,
  some (.aload 0, .ref 1, [true, false, false]),
  some (.ldc 1, .int 0, []),
  some (.invokeinterface 71 5, .ref 2, []),
  none,
  none,
  some (.ifCond .ne 0, .ref 56, []),
  none,
  none,
  some (.ldc 1, .int 1, [false, false, false]),
  some (.goto 0, .ref 57, []),
  none,
  none,
  some (.ldc 1, .int 0, [false, false, false]),
  some (.ireturn, .null, [false, false, false]),
  some (.aload 0, .ref 1, [true, false, false]),
  some (.ldc 1, .int 0, []),
  some (.invokeinterface 71 5, .ref 2, []),
  none,
  none,
  some (.invokestatic 61, .ref 1, []),
  none,
  none,
  some (.ifCond .eq 0, .ref 73, []),
  none,
  none,
  some (.ldc 1, .int 0, [false, false, false]),
  some (.goto 0, .ref 74, []),
  none,
  none,
  some (.ldc 1, .int 2, [false, false, false]),
  some (.ireturn, .null, [false, false, false]),
  some (.aload 0, .ref 1, [true, false, false]),
  some (.ldc 1, .int 1, []),
  some (.invokeinterface 71 5, .ref 2, []),
  none,
  none,
  some (.invokestatic 61, .ref 1, []),
  none,
  none,
  some (.ifCond .eq 0, .ref 90, []),
  none,
  none,
  some (.ldc 1, .int 0, [false, false, false]),
  some (.goto 0, .ref 91, []),
  none,
  none,
  some (.ldc 1, .int 2, [false, false, false]),
  some (.ireturn, .null, [false, false, false]),
  some (.aload 0, .ref 1, [true, false, true]),
  some (.ldc 1, .int 0, []),
  some (.invokeinterface 71 5, .ref 2, []),
  none,
  none,
  some (.iload 2, .ref 1, []),
  some (.if_icmp .le 0, .ref 105, []),
  none,
  none,
  some (.ldc 1, .int 3, [false, false, false]),
  some (.goto 0, .ref 106, []),
  none,
  none,
  some (.ldc 1, .int 0, [false, false, false]),
  some (.ireturn, .null, [false, false, false]),
  some (.ldc 1, .int 0, [false, false, false]),
  some (.ireturn, .null, [])]
/-- 61: TimedCompiler$Machine.isWord(I)Z -/
def xt_61 : List (Option xi_E) := [some (.iload 0, .ref 1, []),
  some (.ifCond .lt 0, .ref 14, []),
  none,
  none,
  some (.iload 0, .ref 1, [true]),
  some (.ldc 2, .int 8, []),
  none,
  some (.if_icmp .ge 0, .ref 14, []),
  none,
  none,
  some (.ldc 1, .int 1, [false]),
  some (.goto 0, .ref 15, []),
  none,
  none,
  some (.ldc 1, .int 0, [false]),
  some (.ireturn, .ref 1, [false])]
/-- 62: TimedCompiler$Machine.compute(II)V -/
def xt_62 : List (Option xi_E) := [some (.iload 1, .ref 1, []),
  some (.lookupswitch 146 #[(0, 64), (1, 72), (2, 84), (3, 96), (4, 114), (5, 146), (6, 146), (7, 146), (8, 146), (9, 146), (10, 146), (11, 134)], .null, []),
  none,
  none,
  none,
  none,
  none,
  none,
  none,
  none,
  none,
  none,
  none,
  none,
  none,
  none,
  none,
  none,
  none,
  none,
  none,
  none,
  none,
  none,
  none,
  none,
  none,
  none,
  none,
  none,
  none,
  none,
  none,
  none,
  none,
  none,
  none,
  none,
  none,
  none,
  none,
  none,
  none,
  none,
  none,
  none,
  none,
  none,
  none,
  none,
  none,
  none,
  none,
  none,
  none,
  none,
  none,
  none,
  none,
  none,
  none,
  none,
  none,
  none,
  some (.aload 0, .ref 1, [true, false, true, false, false, false]),
  some (.iload 2, .ref 1, []),
  some (.invokeinterface 69 5, .ref 2, []),
  none,
  none,
  some (.goto 0, .ref 170, []),
  none,
  none,
  some (.aload 0, .ref 1, [true, false, true, false, false, false]),
  some (.aload 0, .ref 1, []),
  some (.iload 2, .ref 1, []),
  some (.invokeinterface 67 5, .ref 2, []),
  none,
  none,
  some (.invokeinterface 69 5, .ref 2, []),
  none,
  none,
  some (.goto 0, .ref 170, []),
  none,
  none,
  some (.aload 0, .ref 1, [true, false, true, false, false, false]),
  some (.iload 2, .ref 1, []),
  some (.aload 0, .ref 1, []),
  some (.invokeinterface 70 5, .ref 1, []),
  none,
  none,
  some (.invokeinterface 68 5, .ref 3, []),
  none,
  none,
  some (.goto 0, .ref 170, []),
  none,
  none,
  some (.aload 0, .ref 1, [true, false, false, false, false, false]),
  some (.aload 0, .ref 1, []),
  some (.ldc 2, .int 6, []),
  none,
  some (.aload 0, .ref 1, []),
  some (.invokeinterface 70 5, .ref 1, []),
  none,
  none,
  some (.iadd, .null, []),
  some (.invokeinterface 67 5, .ref 2, []),
  none,
  none,
  some (.invokeinterface 69 5, .ref 2, []),
  none,
  none,
  some (.goto 0, .ref 170, []),
  none,
  none,
  some (.aload 0, .ref 1, [true, false, false, false, false, false]),
  some (.invokeinterface 70 5, .ref 1, []),
  none,
  none,
  some (.istore 3, .ref 1, []),
  some (.aload 0, .ref 1, []),
  some (.ldc 2, .int 6, []),
  none,
  some (.aload 0, .ref 1, []),
  some (.invokeinterface 70 5, .ref 1, []),
  none,
  none,
  some (.iadd, .null, []),
  some (.iload 3, .ref 1, []),
  some (.invokeinterface 68 5, .ref 3, []),
  none,
  none,
  some (.goto 0, .ref 170, []),
  none,
  none,
  some (.aload 0, .ref 1, [true, false, false, false, false, false]),
  some (.aload 0, .ref 1, []),
  some (.invokeinterface 70 5, .ref 1, []),
  none,
  none,
  some (.ineg, .null, []),
  some (.invokeinterface 69 5, .ref 2, []),
  none,
  none,
  some (.goto 0, .ref 170, []),
  none,
  none,
  some (.aload 0, .ref 1, [true, true, false, false, false, false]),
  some (.invokeinterface 70 5, .ref 1, []),
  none,
  none,
  some (.istore 4, .ref 2, []),
  none,
  some (.aload 0, .ref 1, []),
  some (.invokeinterface 70 5, .ref 1, []),
  none,
  none,
  some (.istore 5, .ref 2, []),
  none,
  some (.aload 0, .ref 1, []),
  some (.iload 1, .ref 1, []),
  some (.iload 5, .ref 2, []),
  none,
  some (.iload 4, .ref 2, []),
  none,
  some (.invokestatic 63, .ref 3, []),
  none,
  none,
  some (.invokeinterface 69 5, .ref 2, []),
  none,
  none,
  some (.return_, .null, [false, false, false, false, false, false])]
/-- 63: TimedCompiler$Machine.combine(III)I -/
def xt_63 : List (Option xi_E) := [some (.iload 0, .ref 1, []),
  some (.lookupswitch 71 #[(5, 36), (6, 40), (7, 44), (8, 48), (9, 60)], .null, []),
  none,
  none,
  none,
  none,
  none,
  none,
  none,
  none,
  none,
  none,
  none,
  none,
  none,
  none,
  none,
  none,
  none,
  none,
  none,
  none,
  none,
  none,
  none,
  none,
  none,
  none,
  none,
  none,
  none,
  none,
  none,
  none,
  none,
  none,
  some (.iload 1, .ref 1, [false, true, true]),
  some (.iload 2, .ref 1, []),
  some (.iadd, .null, []),
  some (.ireturn, .null, []),
  some (.iload 1, .ref 1, [false, true, true]),
  some (.iload 2, .ref 1, []),
  some (.isub, .null, []),
  some (.ireturn, .null, []),
  some (.iload 1, .ref 1, [false, true, true]),
  some (.iload 2, .ref 1, []),
  some (.imul, .null, []),
  some (.ireturn, .null, []),
  some (.iload 2, .ref 1, [false, true, true]),
  some (.ifCond .ne 0, .ref 56, []),
  none,
  none,
  some (.ldc 1, .int 0, [false, false, false]),
  some (.goto 0, .ref 59, []),
  none,
  none,
  some (.iload 1, .ref 1, [false, true, true]),
  some (.iload 2, .ref 1, []),
  some (.idiv, .null, []),
  some (.ireturn, .null, [false, false, false]),
  some (.iload 1, .ref 1, [false, true, true]),
  some (.iload 2, .ref 1, []),
  some (.if_icmp .ge 0, .ref 69, []),
  none,
  none,
  some (.ldc 1, .int 1, [false, false, false]),
  some (.goto 0, .ref 70, []),
  none,
  none,
  some (.ldc 1, .int 0, [false, false, false]),
  some (.ireturn, .null, [false, false, false]),
  some (.iload 1, .ref 1, [false, true, true]),
  some (.iload 2, .ref 1, []),
  some (.if_icmp .ne 0, .ref 80, []),
  none,
  none,
  some (.ldc 1, .int 1, [false, false, false]),
  some (.goto 0, .ref 81, []),
  none,
  none,
  some (.ldc 1, .int 0, [false, false, false]),
  some (.ireturn, .null, [false, false, false])]
/-- 64: TimedCompiler$Machine.steer(II)V -/
def xt_64 : List (Option xi_E) := [some (.iload 1, .ref 1, []),
  some (.lookupswitch 132 #[(12, 40), (13, 51), (14, 66), (15, 74), (16, 101), (17, 116)], .null, []),
  none,
  none,
  none,
  none,
  none,
  none,
  none,
  none,
  none,
  none,
  none,
  none,
  none,
  none,
  none,
  none,
  none,
  none,
  none,
  none,
  none,
  none,
  none,
  none,
  none,
  none,
  none,
  none,
  none,
  none,
  none,
  none,
  none,
  none,
  none,
  none,
  none,
  none,
  some (.aload 0, .ref 1, [true, false, false, false]),
  some (.aload 0, .ref 1, []),
  some (.invokeinterface 70 5, .ref 1, []),
  none,
  none,
  some (.invokeinterface 66 5, .ref 2, []),
  none,
  none,
  some (.goto 0, .ref 140, []),
  none,
  none,
  some (.aload 0, .ref 1, [true, false, true, false]),
  some (.invokeinterface 70 5, .ref 1, []),
  none,
  none,
  some (.ifCond .ne 0, .ref 140, []),
  none,
  none,
  some (.aload 0, .ref 1, [true, false, true, false]),
  some (.iload 2, .ref 1, []),
  some (.invokeinterface 65 5, .ref 2, []),
  none,
  none,
  some (.goto 0, .ref 140, []),
  none,
  none,
  some (.aload 0, .ref 1, [true, false, true, false]),
  some (.iload 2, .ref 1, []),
  some (.putfield 5, .ref 7, []),
  none,
  none,
  some (.goto 0, .ref 140, []),
  none,
  none,
  some (.aload 0, .ref 1, [true, false, true, false]),
  some (.invokeinterface 70 5, .ref 1, []),
  none,
  none,
  some (.istore 3, .ref 1, []),
  some (.iload 3, .ref 1, []),
  some (.ifCond .ne 0, .ref 91, []),
  none,
  none,
  some (.aload 0, .ref 1, [true, false, true, false]),
  some (.iload 2, .ref 1, []),
  some (.invokeinterface 65 5, .ref 2, []),
  none,
  none,
  some (.goto 0, .ref 140, []),
  none,
  none,
  some (.aload 0, .ref 1, [true, false, false, true]),
  some (.iload 3, .ref 1, []),
  some (.ldc 1, .int 1, []),
  some (.isub, .null, []),
  some (.invokeinterface 69 5, .ref 2, []),
  none,
  none,
  some (.goto 0, .ref 140, []),
  none,
  none,
  some (.aload 0, .ref 1, [true, false, false, false]),
  some (.aload 0, .ref 1, []),
  some (.invokeinterface 70 5, .ref 1, []),
  none,
  none,
  some (.ldc 1, .int 0, []),
  some (.invokedynamic 0, .null, []),
  none,
  none,
  some (.invokeinterface 69 5, .ref 2, []),
  none,
  none,
  some (.goto 0, .ref 140, []),
  none,
  none,
  some (.aload 0, .ref 1, [true, false, true, false]),
  some (.aload 0, .ref 1, []),
  some (.getfield 5, .ref 7, []),
  none,
  none,
  some (.invokeinterface 69 5, .ref 2, []),
  none,
  none,
  some (.aload 0, .ref 1, []),
  some (.iload 2, .ref 1, []),
  some (.putfield 5, .ref 7, []),
  none,
  none,
  some (.goto 0, .ref 140, []),
  none,
  none,
  some (.aload 0, .ref 1, [true, false, false, false]),
  some (.aload 0, .ref 1, []),
  some (.invokeinterface 70 5, .ref 1, []),
  none,
  none,
  some (.putfield 5, .ref 7, []),
  none,
  none,
  some (.return_, .null, [false, false, false, false])]
/-- 65: TimedCompiler$Machine.goThere(I)V -/
def xt_65 : List (Option xi_E) := [some (.aload 0, .ref 1, []),
  some (.dup, .null, []),
  some (.getfield 5, .ref 5, []),
  none,
  none,
  some (.ldc 1, .int 2, []),
  some (.iadd, .null, []),
  some (.putfield 5, .ref 5, []),
  none,
  none,
  some (.aload 0, .ref 1, []),
  some (.iload 1, .ref 1, []),
  some (.putfield 5, .ref 7, []),
  none,
  none,
  some (.return_, .null, [])]
/-- 66: TimedCompiler$Machine.putOut(I)V -/
def xt_66 : List (Option xi_E) := [some (.aload 0, .ref 1, []),
  some (.getfield 5, .ref 8, []),
  none,
  none,
  some (.ldc 2, .int 32, []),
  none,
  some (.if_icmp .ge 0, .ref 19, []),
  none,
  none,
  some (.aload 0, .ref 1, [true, true]),
  some (.getfield 5, .ref 1, []),
  none,
  none,
  some (.aload 0, .ref 1, []),
  some (.getfield 5, .ref 8, []),
  none,
  none,
  some (.iload 1, .ref 1, []),
  some (.iastore, .null, []),
  some (.aload 0, .ref 1, [true, false]),
  some (.dup, .null, []),
  some (.getfield 5, .ref 8, []),
  none,
  none,
  some (.ldc 1, .int 1, []),
  some (.iadd, .null, []),
  some (.putfield 5, .ref 8, []),
  none,
  none,
  some (.return_, .null, [])]
/-- 67: TimedCompiler$Machine.placeAt(I)I -/
def xt_67 : List (Option xi_E) := [some (.iload 1, .ref 1, []),
  some (.ifCond .lt 0, .ref 19, []),
  none,
  none,
  some (.iload 1, .ref 1, [true, true]),
  some (.ldc 2, .int 14, []),
  none,
  some (.if_icmp .ge 0, .ref 19, []),
  none,
  none,
  some (.aload 0, .ref 1, [true, true]),
  some (.getfield 5, .ref 0, []),
  none,
  none,
  some (.iload 1, .ref 1, []),
  some (.iaload, .null, []),
  some (.goto 0, .ref 20, []),
  none,
  none,
  some (.ldc 1, .int 0, [false, false]),
  some (.ireturn, .null, [false, false])]
/-- 68: TimedCompiler$Machine.store(II)V -/
def xt_68 : List (Option xi_E) := [some (.iload 1, .ref 1, []),
  some (.ifCond .lt 0, .ref 17, []),
  none,
  none,
  some (.iload 1, .ref 1, [true, true, true]),
  some (.ldc 2, .int 14, []),
  none,
  some (.if_icmp .ge 0, .ref 17, []),
  none,
  none,
  some (.aload 0, .ref 1, [true, true, true]),
  some (.getfield 5, .ref 0, []),
  none,
  none,
  some (.iload 1, .ref 1, []),
  some (.iload 2, .ref 1, []),
  some (.iastore, .null, []),
  some (.return_, .null, [false, false, false])]
/-- 69: TimedCompiler$Machine.push(I)V -/
def xt_69 : List (Option xi_E) := [some (.aload 0, .ref 1, []),
  some (.getfield 5, .ref 3, []),
  none,
  none,
  some (.ldc 3, .int 200, []),
  none,
  none,
  some (.if_icmp .ge 0, .ref 45, []),
  none,
  none,
  some (.aload 0, .ref 1, [true, true]),
  some (.getfield 5, .ref 2, []),
  none,
  none,
  some (.aload 0, .ref 1, []),
  some (.getfield 5, .ref 3, []),
  none,
  none,
  some (.iload 1, .ref 1, []),
  some (.iastore, .null, []),
  some (.aload 0, .ref 1, []),
  some (.dup, .null, []),
  some (.getfield 5, .ref 3, []),
  none,
  none,
  some (.ldc 1, .int 1, []),
  some (.iadd, .null, []),
  some (.putfield 5, .ref 3, []),
  none,
  none,
  some (.aload 0, .ref 1, []),
  some (.aload 0, .ref 1, []),
  some (.getfield 5, .ref 6, []),
  none,
  none,
  some (.aload 0, .ref 1, []),
  some (.getfield 5, .ref 3, []),
  none,
  none,
  some (.invokedynamic 0, .null, []),
  none,
  none,
  some (.putfield 5, .ref 6, []),
  none,
  none,
  some (.return_, .null, [false, false])]
/-- 70: TimedCompiler$Machine.pop()I -/
def xt_70 : List (Option xi_E) := [some (.aload 0, .ref 1, []),
  some (.getfield 5, .ref 3, []),
  none,
  none,
  some (.ifCond .ne 0, .ref 9, []),
  none,
  none,
  some (.ldc 1, .int 0, [false]),
  some (.ireturn, .null, []),
  some (.aload 0, .ref 1, [true]),
  some (.dup, .null, []),
  some (.getfield 5, .ref 3, []),
  none,
  none,
  some (.ldc 1, .int 1, []),
  some (.isub, .null, []),
  some (.putfield 5, .ref 3, []),
  none,
  none,
  some (.aload 0, .ref 1, []),
  some (.getfield 5, .ref 2, []),
  none,
  none,
  some (.aload 0, .ref 1, []),
  some (.getfield 5, .ref 3, []),
  none,
  none,
  some (.iaload, .null, []),
  some (.ireturn, .null, [])]
/-- 71: TimedCompiler$Machine.below(I)I -/
def xt_71 : List (Option xi_E) := [some (.aload 0, .ref 1, []),
  some (.getfield 5, .ref 3, []),
  none,
  none,
  some (.ldc 1, .int 1, []),
  some (.isub, .null, []),
  some (.iload 1, .ref 1, []),
  some (.isub, .null, []),
  some (.istore 2, .ref 1, []),
  some (.iload 2, .ref 1, []),
  some (.ifCond .lt 0, .ref 29, []),
  none,
  none,
  some (.iload 2, .ref 1, [true, false, true]),
  some (.ldc 3, .int 200, []),
  none,
  none,
  some (.if_icmp .ge 0, .ref 29, []),
  none,
  none,
  some (.aload 0, .ref 1, [true, false, true]),
  some (.getfield 5, .ref 2, []),
  none,
  none,
  some (.iload 2, .ref 1, []),
  some (.iaload, .null, []),
  some (.goto 0, .ref 30, []),
  none,
  none,
  some (.ldc 1, .int 0, [false, false, false]),
  some (.ireturn, .null, [false, false, false])]
/-- 72: TimedCompilerModel.thrown()I -/
def xt_72 : List (Option xi_E) := [some (.aload 0, .ref 1, []),
  some (.getfield 6, .ref 0, []),
  none,
  none,
  some (.ireturn, .null, [])]
/-- 73: TimedCompilerModel.type(J)Z -/
def xt_73 : List (Option xi_E) := [some (.aload 0, .ref 1, []),
  some (.ldc 1, .int 0, []),
  some (.putfield 6, .ref 0, []),
  none,
  none,
  some (.aload 0, .ref 1, []),
  some (.getfield 6, .ref 1, []),
  none,
  none,
  some (.istore 3, .ref 1, []),
  some (.ldc 2, .int 7, []),
  none,
  some (.istore 4, .ref 2, []),
  none,
  some (.iload 4, .ref 2, [true, true, false, true, true, false]),
  none,
  some (.ifCond .lt 0, .ref 83, []),
  none,
  none,
  some (.lload 1, .ref 1, [true, true, false, true, true, false]),
  some (.ldc 2, .int 8, []),
  none,
  some (.iload 4, .ref 2, []),
  none,
  some (.imul, .null, []),
  some (.lshr, .null, []),
  some (.l2i, .null, []),
  some (.ldc 3, .int 255, []),
  none,
  none,
  some (.iand, .null, []),
  some (.istore 5, .ref 2, []),
  none,
  some (.iload 5, .ref 2, []),
  none,
  some (.ifCond .eq 0, .ref 61, []),
  none,
  none,
  some (.iload 5, .ref 2, [true, true, false, true, true, true]),
  none,
  some (.ldc 2, .int 33, []),
  none,
  some (.if_icmp .lt 0, .ref 59, []),
  none,
  none,
  some (.iload 5, .ref 2, [true, true, false, true, true, true]),
  none,
  some (.ldc 2, .int 126, []),
  none,
  some (.if_icmp .gt 0, .ref 59, []),
  none,
  none,
  some (.iload 3, .ref 1, [true, true, false, true, true, true]),
  some (.ldc 3, .int 200, []),
  none,
  none,
  some (.if_icmp .ne 0, .ref 61, []),
  none,
  none,
  some (.ldc 1, .int 0, [false, false, false, false, false, false]),
  some (.ireturn, .ref 1, []),
  some (.iload 5, .ref 2, [true, true, false, true, true, true]),
  none,
  some (.ifCond .eq 0, .ref 77, []),
  none,
  none,
  some (.aload 0, .ref 1, [true, true, false, true, true, true]),
  some (.getfield 6, .ref 2, []),
  none,
  none,
  some (.iload 3, .ref 1, []),
  some (.iload 5, .ref 2, []),
  none,
  some (.iastore, .null, []),
  some (.iinc 3 0, .int 1, []),
  none,
  none,
  some (.iinc 4 0, .int (-1), [true, true, false, true, true, false]),
  none,
  none,
  some (.goto 0, .ref 14, []),
  none,
  none,
  some (.aload 0, .ref 1, [true, false, false, true, false, false]),
  some (.iload 3, .ref 1, []),
  some (.putfield 6, .ref 1, []),
  none,
  none,
  some (.ldc 1, .int 1, []),
  some (.ireturn, .ref 1, [])]
/-- 74: TimedCompilerModel.wipe()V -/
def xt_74 : List (Option xi_E) := [some (.aload 0, .ref 1, []),
  some (.ldc 1, .int 0, []),
  some (.putfield 6, .ref 0, []),
  none,
  none,
  some (.aload 0, .ref 1, []),
  some (.ldc 1, .int 0, []),
  some (.putfield 6, .ref 1, []),
  none,
  none,
  some (.return_, .null, [])]
/-- 75: TimedCompilerModel.length()I -/
def xt_75 : List (Option xi_E) := [some (.aload 0, .ref 1, []),
  some (.ldc 1, .int 0, []),
  some (.putfield 6, .ref 0, []),
  none,
  none,
  some (.aload 0, .ref 1, []),
  some (.getfield 6, .ref 1, []),
  none,
  none,
  some (.ireturn, .null, [])]
/-- 76: TimedCompilerModel.look()I -/
def xt_76 : List (Option xi_E) := [some (.aload 0, .ref 1, []),
  some (.getfield 6, .ref 3, []),
  none,
  none,
  some (.aload 0, .ref 1, []),
  some (.getfield 6, .ref 1, []),
  none,
  none,
  some (.if_icmp .ge 0, .ref 23, []),
  none,
  none,
  some (.aload 0, .ref 1, [true]),
  some (.getfield 6, .ref 2, []),
  none,
  none,
  some (.aload 0, .ref 1, []),
  some (.getfield 6, .ref 3, []),
  none,
  none,
  some (.iaload, .null, []),
  some (.goto 0, .ref 24, []),
  none,
  none,
  some (.ldc 1, .int 0, [false]),
  some (.ireturn, .null, [false])]
/-- 77: TimedCompilerModel.eat(I)Z -/
def xt_77 : List (Option xi_E) := [some (.aload 0, .ref 1, []),
  some (.invokeinterface 76 6, .ref 1, []),
  none,
  none,
  some (.iload 1, .ref 1, []),
  some (.if_icmp .eq 0, .ref 10, []),
  none,
  none,
  some (.ldc 1, .int 0, [false, false]),
  some (.ireturn, .ref 1, []),
  some (.aload 0, .ref 1, [true, false]),
  some (.dup, .null, []),
  some (.getfield 6, .ref 3, []),
  none,
  none,
  some (.ldc 1, .int 1, []),
  some (.iadd, .null, []),
  some (.putfield 6, .ref 3, []),
  none,
  none,
  some (.ldc 1, .int 1, []),
  some (.ireturn, .ref 1, [])]
/-- 78: TimedCompilerModel.isDigit(I)Z -/
def xt_78 : List (Option xi_E) := [some (.iload 0, .ref 1, []),
  some (.ldc 2, .int 48, []),
  none,
  some (.if_icmp .lt 0, .ref 16, []),
  none,
  none,
  some (.iload 0, .ref 1, [true]),
  some (.ldc 2, .int 57, []),
  none,
  some (.if_icmp .gt 0, .ref 16, []),
  none,
  none,
  some (.ldc 1, .int 1, [false]),
  some (.goto 0, .ref 17, []),
  none,
  none,
  some (.ldc 1, .int 0, [false]),
  some (.ireturn, .ref 1, [false])]
/-- 79: TimedCompilerModel.note(II)V -/
def xt_79 : List (Option xi_E) := [some (.aload 0, .ref 1, []),
  some (.getfield 6, .ref 8, []),
  none,
  none,
  some (.aload 0, .ref 1, []),
  some (.getfield 6, .ref 7, []),
  none,
  none,
  some (.iload 1, .ref 1, []),
  some (.iastore, .null, []),
  some (.aload 0, .ref 1, []),
  some (.getfield 6, .ref 9, []),
  none,
  none,
  some (.aload 0, .ref 1, []),
  some (.getfield 6, .ref 7, []),
  none,
  none,
  some (.iload 2, .ref 1, []),
  some (.iastore, .null, []),
  some (.aload 0, .ref 1, []),
  some (.dup, .null, []),
  some (.getfield 6, .ref 7, []),
  none,
  none,
  some (.ldc 1, .int 1, []),
  some (.iadd, .null, []),
  some (.putfield 6, .ref 7, []),
  none,
  none,
  some (.return_, .null, [])]
/-- 80: TimedCompilerModel.emit(II)V -/
def xt_80 : List (Option xi_E) := [some (.aload 0, .ref 1, []),
  some (.getfield 6, .ref 5, []),
  none,
  none,
  some (.aload 0, .ref 1, []),
  some (.getfield 6, .ref 4, []),
  none,
  none,
  some (.iload 1, .ref 1, []),
  some (.iastore, .null, []),
  some (.aload 0, .ref 1, []),
  some (.getfield 6, .ref 6, []),
  none,
  none,
  some (.aload 0, .ref 1, []),
  some (.getfield 6, .ref 4, []),
  none,
  none,
  some (.iload 2, .ref 1, []),
  some (.iastore, .null, []),
  some (.aload 0, .ref 1, []),
  some (.dup, .null, []),
  some (.getfield 6, .ref 4, []),
  none,
  none,
  some (.ldc 1, .int 1, []),
  some (.iadd, .null, []),
  some (.putfield 6, .ref 4, []),
  none,
  none,
  some (.iload 1, .ref 1, []),
  some (.ldc 2, .int 13, []),
  none,
  some (.if_icmp .lt 0, .ref 54, []),
  none,
  none,
  some (.iload 1, .ref 1, [true, true, true]),
  some (.ldc 2, .int 16, []),
  none,
  some (.if_icmp .eq 0, .ref 54, []),
  none,
  none,
  some (.iload 1, .ref 1, [true, true, true]),
  some (.ldc 2, .int 17, []),
  none,
  some (.if_icmp .eq 0, .ref 54, []),
  none,
  none,
  some (.iload 1, .ref 1, [true, true, true]),
  some (.ldc 2, .int 18, []),
  none,
  some (.if_icmp .ne 0, .ref 60, []),
  none,
  none,
  some (.aload 0, .ref 1, [true, true, true]),
  some (.iload 1, .ref 1, []),
  some (.iload 2, .ref 1, []),
  some (.invokeinterface 79 6, .ref 3, []),
  none,
  none,
  some (.return_, .null, [false, false, false])]
/-- 81: TimedCompilerModel.strength(I)I -/
def xt_81 : List (Option xi_E) := [some (.iload 0, .ref 1, []),
  some (.ldc 2, .int 42, []),
  none,
  some (.if_icmp .eq 0, .ref 12, []),
  none,
  none,
  some (.iload 0, .ref 1, [true]),
  some (.ldc 2, .int 47, []),
  none,
  some (.if_icmp .ne 0, .ref 16, []),
  none,
  none,
  some (.ldc 1, .int 3, [false]),
  some (.goto 0, .ref 49, []),
  none,
  none,
  some (.iload 0, .ref 1, [true]),
  some (.ldc 2, .int 43, []),
  none,
  some (.if_icmp .eq 0, .ref 28, []),
  none,
  none,
  some (.iload 0, .ref 1, [true]),
  some (.ldc 2, .int 45, []),
  none,
  some (.if_icmp .ne 0, .ref 32, []),
  none,
  none,
  some (.ldc 1, .int 2, [false]),
  some (.goto 0, .ref 49, []),
  none,
  none,
  some (.iload 0, .ref 1, [true]),
  some (.ldc 2, .int 60, []),
  none,
  some (.if_icmp .eq 0, .ref 44, []),
  none,
  none,
  some (.iload 0, .ref 1, [true]),
  some (.ldc 2, .int 61, []),
  none,
  some (.if_icmp .ne 0, .ref 48, []),
  none,
  none,
  some (.ldc 1, .int 1, [false]),
  some (.goto 0, .ref 49, []),
  none,
  none,
  some (.ldc 1, .int 0, [false]),
  some (.ireturn, .null, [false])]
/-- 82: TimedCompilerModel.instruction(I)I -/
def xt_82 : List (Option xi_E) := [some (.iload 0, .ref 1, []),
  some (.ldc 2, .int 43, []),
  none,
  some (.if_icmp .ne 0, .ref 10, []),
  none,
  none,
  some (.ldc 1, .int 5, [false]),
  some (.goto 0, .ref 56, []),
  none,
  none,
  some (.iload 0, .ref 1, [true]),
  some (.ldc 2, .int 45, []),
  none,
  some (.if_icmp .ne 0, .ref 21, []),
  none,
  none,
  some (.ldc 2, .int 6, [false]),
  none,
  some (.goto 0, .ref 56, []),
  none,
  none,
  some (.iload 0, .ref 1, [true]),
  some (.ldc 2, .int 42, []),
  none,
  some (.if_icmp .ne 0, .ref 32, []),
  none,
  none,
  some (.ldc 2, .int 7, [false]),
  none,
  some (.goto 0, .ref 56, []),
  none,
  none,
  some (.iload 0, .ref 1, [true]),
  some (.ldc 2, .int 47, []),
  none,
  some (.if_icmp .ne 0, .ref 43, []),
  none,
  none,
  some (.ldc 2, .int 8, [false]),
  none,
  some (.goto 0, .ref 56, []),
  none,
  none,
  some (.iload 0, .ref 1, [true]),
  some (.ldc 2, .int 60, []),
  none,
  some (.if_icmp .ne 0, .ref 54, []),
  none,
  none,
  some (.ldc 2, .int 9, [false]),
  none,
  some (.goto 0, .ref 56, []),
  none,
  none,
  some (.ldc 2, .int 10, [false]),
  none,
  some (.ireturn, .null, [false])]
/-- 83: TimedCompilerModel.reduce(I)V -/
def xt_83 : List (Option xi_E) := [some (.aload 0, .ref 1, [true, true]),
  some (.getfield 6, .ref 16, []),
  none,
  none,
  some (.ifCond .le 0, .ref 55, []),
  none,
  none,
  some (.aload 0, .ref 1, [true, true]),
  some (.getfield 6, .ref 17, []),
  none,
  none,
  some (.aload 0, .ref 1, []),
  some (.getfield 6, .ref 16, []),
  none,
  none,
  some (.ldc 1, .int 1, []),
  some (.isub, .null, []),
  some (.iaload, .null, []),
  some (.invokestatic 81, .ref 1, []),
  none,
  none,
  some (.iload 1, .ref 1, []),
  some (.if_icmp .lt 0, .ref 55, []),
  none,
  none,
  some (.aload 0, .ref 1, [true, true]),
  some (.dup, .null, []),
  some (.getfield 6, .ref 16, []),
  none,
  none,
  some (.ldc 1, .int 1, []),
  some (.isub, .null, []),
  some (.putfield 6, .ref 16, []),
  none,
  none,
  some (.aload 0, .ref 1, []),
  some (.aload 0, .ref 1, []),
  some (.getfield 6, .ref 17, []),
  none,
  none,
  some (.aload 0, .ref 1, []),
  some (.getfield 6, .ref 16, []),
  none,
  none,
  some (.iaload, .null, []),
  some (.invokestatic 82, .ref 1, []),
  none,
  none,
  some (.ldc 1, .int 0, []),
  some (.invokeinterface 80 6, .ref 3, []),
  none,
  none,
  some (.goto 0, .ref 0, []),
  none,
  none,
  some (.return_, .null, [false, false])]
/-- 84: TimedCompilerModel.complete()V -/
def xt_84 : List (Option xi_E) := [some (.aload 0, .ref 1, [true]),
  some (.getfield 6, .ref 16, []),
  none,
  none,
  some (.ifCond .le 0, .ref 43, []),
  none,
  none,
  some (.aload 0, .ref 1, [true]),
  some (.getfield 6, .ref 17, []),
  none,
  none,
  some (.aload 0, .ref 1, []),
  some (.getfield 6, .ref 16, []),
  none,
  none,
  some (.ldc 1, .int 1, []),
  some (.isub, .null, []),
  some (.iaload, .null, []),
  some (.ldc 2, .int 126, []),
  none,
  some (.if_icmp .ne 0, .ref 43, []),
  none,
  none,
  some (.aload 0, .ref 1, [true]),
  some (.dup, .null, []),
  some (.getfield 6, .ref 16, []),
  none,
  none,
  some (.ldc 1, .int 1, []),
  some (.isub, .null, []),
  some (.putfield 6, .ref 16, []),
  none,
  none,
  some (.aload 0, .ref 1, []),
  some (.ldc 2, .int 11, []),
  none,
  some (.ldc 1, .int 0, []),
  some (.invokeinterface 80 6, .ref 3, []),
  none,
  none,
  some (.goto 0, .ref 0, []),
  none,
  none,
  some (.return_, .null, [false])]
/-- 85: TimedCompilerModel.deep()I -/
def xt_85 : List (Option xi_E) := [some (.ldc 1, .int 0, []),
  some (.istore 1, .ref 1, []),
  some (.ldc 1, .int 0, []),
  some (.istore 2, .ref 1, []),
  some (.iload 2, .ref 1, [true, true, true]),
  some (.aload 0, .ref 1, []),
  some (.getfield 6, .ref 16, []),
  none,
  none,
  some (.if_icmp .ge 0, .ref 38, []),
  none,
  none,
  some (.iload 1, .ref 1, [true, true, true]),
  some (.aload 0, .ref 1, []),
  some (.getfield 6, .ref 17, []),
  none,
  none,
  some (.iload 2, .ref 1, []),
  some (.iaload, .null, []),
  some (.invokestatic 81, .ref 1, []),
  none,
  none,
  some (.ifCond .ne 0, .ref 29, []),
  none,
  none,
  some (.ldc 1, .int 1, [true, false, true]),
  some (.goto 0, .ref 30, []),
  none,
  none,
  some (.ldc 1, .int 0, [true, false, true]),
  some (.iadd, .null, [true, false, true]),
  some (.istore 1, .ref 1, []),
  some (.iinc 2 0, .int 1, []),
  none,
  none,
  some (.goto 0, .ref 4, []),
  none,
  none,
  some (.iload 1, .ref 1, [false, true, false]),
  some (.ireturn, .null, [])]
/-- 86: TimedCompilerModel.unit(I)I -/
def xt_86 : List (Option xi_E) := [some (.aload 0, .ref 1, []),
  some (.invokeinterface 76 6, .ref 1, []),
  none,
  none,
  some (.istore 2, .ref 1, []),
  some (.iload 2, .ref 1, []),
  some (.ldc 2, .int 40, []),
  none,
  some (.if_icmp .eq 0, .ref 23, []),
  none,
  none,
  some (.iload 2, .ref 1, [true, true, true, false, false]),
  some (.ldc 2, .int 91, []),
  none,
  some (.if_icmp .eq 0, .ref 23, []),
  none,
  none,
  some (.iload 2, .ref 1, [true, true, true, false, false]),
  some (.ldc 2, .int 45, []),
  none,
  some (.if_icmp .ne 0, .ref 121, []),
  none,
  none,
  some (.aload 0, .ref 1, [true, true, true, false, false]),
  some (.getfield 6, .ref 17, []),
  none,
  none,
  some (.aload 0, .ref 1, []),
  some (.getfield 6, .ref 16, []),
  none,
  none,
  some (.iload 2, .ref 1, []),
  some (.ldc 2, .int 45, []),
  none,
  some (.if_icmp .ne 0, .ref 42, []),
  none,
  none,
  some (.ldc 2, .int 126, [true, true, true, false, false]),
  none,
  some (.goto 0, .ref 43, []),
  none,
  none,
  some (.iload 2, .ref 1, [true, true, true, false, false]),
  some (.iastore, .null, [true, true, true, false, false]),
  some (.aload 0, .ref 1, []),
  some (.dup, .null, []),
  some (.getfield 6, .ref 16, []),
  none,
  none,
  some (.ldc 1, .int 1, []),
  some (.iadd, .null, []),
  some (.putfield 6, .ref 16, []),
  none,
  none,
  some (.aload 0, .ref 1, []),
  some (.dup, .null, []),
  some (.getfield 6, .ref 3, []),
  none,
  none,
  some (.ldc 1, .int 1, []),
  some (.iadd, .null, []),
  some (.putfield 6, .ref 3, []),
  none,
  none,
  some (.iload 2, .ref 1, []),
  some (.ldc 2, .int 45, []),
  none,
  some (.if_icmp .eq 0, .ref 104, []),
  none,
  none,
  some (.aload 0, .ref 1, [true, true, false, false, false]),
  some (.dup, .null, []),
  some (.getfield 6, .ref 19, []),
  none,
  none,
  some (.ldc 1, .int 1, []),
  some (.iadd, .null, []),
  some (.putfield 6, .ref 19, []),
  none,
  none,
  some (.aload 0, .ref 1, []),
  some (.getfield 6, .ref 18, []),
  none,
  none,
  some (.aload 0, .ref 1, []),
  some (.getfield 6, .ref 19, []),
  none,
  none,
  some (.ldc 2, .int 9, []),
  none,
  some (.if_icmp .ge 0, .ref 100, []),
  none,
  none,
  some (.aload 0, .ref 1, [true, true, false, false, false]),
  some (.getfield 6, .ref 19, []),
  none,
  none,
  some (.goto 0, .ref 102, []),
  none,
  none,
  some (.ldc 2, .int 9, [true, true, false, false, false]),
  none,
  some (.ldc 1, .int 0, [true, true, false, false, false]),
  some (.bastore, .null, []),
  some (.iload 1, .ref 1, [true, true, false, false, false]),
  some (.aload 0, .ref 1, []),
  some (.invokeinterface 85 6, .ref 1, []),
  none,
  none,
  some (.iadd, .null, []),
  some (.ldc 2, .int 6, []),
  none,
  some (.if_icmp .le 0, .ref 119, []),
  none,
  none,
  some (.ldc 1, .int 0, [false, false, false, false, false]),
  some (.goto 0, .ref 120, []),
  none,
  none,
  some (.ldc 1, .int 1, [false, false, false, false, false]),
  some (.ireturn, .null, [false, false, false, false, false]),
  some (.iload 2, .ref 1, [true, false, true, false, false]),
  some (.ldc 2, .int 97, []),
  none,
  some (.if_icmp .lt 0, .ref 154, []),
  none,
  none,
  some (.iload 2, .ref 1, [true, false, true, false, false]),
  some (.ldc 2, .int 102, []),
  none,
  some (.if_icmp .gt 0, .ref 154, []),
  none,
  none,
  some (.aload 0, .ref 1, [true, false, true, false, false]),
  some (.dup, .null, []),
  some (.getfield 6, .ref 3, []),
  none,
  none,
  some (.ldc 1, .int 1, []),
  some (.iadd, .null, []),
  some (.putfield 6, .ref 3, []),
  none,
  none,
  some (.aload 0, .ref 1, []),
  some (.ldc 1, .int 1, []),
  some (.iload 2, .ref 1, []),
  some (.ldc 2, .int 97, []),
  none,
  some (.isub, .null, []),
  some (.invokeinterface 80 6, .ref 3, []),
  none,
  none,
  some (.ldc 1, .int 2, []),
  some (.ireturn, .null, []),
  some (.ldc 1, .int 0, [true, false, false, false, false]),
  some (.istore 3, .ref 1, []),
  some (.ldc 1, .int 0, []),
  some (.istore 4, .ref 2, []),
  none,
  some (.iload 3, .ref 1, [true, false, false, true, true]),
  some (.ldc 1, .int 3, []),
  some (.if_icmp .ge 0, .ref 205, []),
  none,
  none,
  some (.aload 0, .ref 1, [true, false, false, true, true]),
  some (.invokeinterface 76 6, .ref 1, []),
  none,
  none,
  some (.invokestatic 78, .ref 1, []),
  none,
  none,
  some (.ifCond .eq 0, .ref 205, []),
  none,
  none,
  some (.ldc 2, .int 10, [true, false, false, true, true]),
  none,
  some (.iload 4, .ref 2, []),
  none,
  some (.imul, .null, []),
  some (.aload 0, .ref 1, []),
  some (.invokeinterface 76 6, .ref 1, []),
  none,
  none,
  some (.iadd, .null, []),
  some (.ldc 2, .int 48, []),
  none,
  some (.isub, .null, []),
  some (.istore 4, .ref 2, []),
  none,
  some (.iinc 3 0, .int 1, []),
  none,
  none,
  some (.aload 0, .ref 1, []),
  some (.dup, .null, []),
  some (.getfield 6, .ref 3, []),
  none,
  none,
  some (.ldc 1, .int 1, []),
  some (.iadd, .null, []),
  some (.putfield 6, .ref 3, []),
  none,
  none,
  some (.goto 0, .ref 159, []),
  none,
  none,
  some (.iload 3, .ref 1, [true, false, false, true, true]),
  some (.ifCond .le 0, .ref 216, []),
  none,
  none,
  some (.aload 0, .ref 1, [true, false, false, true, true]),
  some (.ldc 1, .int 0, []),
  some (.iload 4, .ref 2, []),
  none,
  some (.invokeinterface 80 6, .ref 3, []),
  none,
  none,
  some (.iload 3, .ref 1, [false, false, false, true, false]),
  some (.ifCond .le 0, .ref 224, []),
  none,
  none,
  some (.ldc 1, .int 2, [false, false, false, false, false]),
  some (.goto 0, .ref 225, []),
  none,
  none,
  some (.ldc 1, .int 0, [false, false, false, false, false]),
  some (.ireturn, .null, [false, false, false, false, false])]
/-- 87: TimedCompilerModel.value(IZ)Z -/
def xt_87 : List (Option xi_E) := [some (.aload 0, .ref 1, []),
  some (.ldc 1, .int 0, []),
  some (.putfield 6, .ref 16, []),
  none,
  none,
  some (.aload 0, .ref 1, []),
  some (.ldc 1, .int 0, []),
  some (.putfield 6, .ref 19, []),
  none,
  none,
  some (.aload 0, .ref 1, []),
  some (.getfield 6, .ref 18, []),
  none,
  none,
  some (.ldc 1, .int 0, []),
  some (.iload 2, .ref 1, []),
  some (.bastore, .null, []),
  some (.ldc 1, .int 1, []),
  some (.istore 3, .ref 1, []),
  some (.ldc 1, .int 0, []),
  some (.istore 4, .ref 2, []),
  none,
  some (.iload 4, .ref 2, [true, true, false, true, true, false, false, false]),
  none,
  some (.ldc 3, .int 1000, []),
  none,
  none,
  some (.if_icmp .ge 0, .ref 315, []),
  none,
  none,
  some (.iload 3, .ref 1, [true, true, false, true, true, false, false, false]),
  some (.ifCond .eq 0, .ref 63, []),
  none,
  none,
  some (.aload 0, .ref 1, [true, true, false, false, true, false, false, false]),
  some (.iload 1, .ref 1, []),
  some (.invokeinterface 86 6, .ref 2, []),
  none,
  none,
  some (.istore 5, .ref 2, []),
  none,
  some (.iload 5, .ref 2, []),
  none,
  some (.ifCond .ne 0, .ref 48, []),
  none,
  none,
  some (.ldc 1, .int 0, [false, false, false, false, false, false, false, false]),
  some (.ireturn, .ref 1, []),
  some (.iload 5, .ref 2, [true, true, false, false, true, true, false, false]),
  none,
  some (.ldc 1, .int 1, []),
  some (.if_icmp .ne 0, .ref 58, []),
  none,
  none,
  some (.ldc 1, .int 1, [true, true, false, false, true, false, false, false]),
  some (.goto 0, .ref 59, []),
  none,
  none,
  some (.ldc 1, .int 0, [true, true, false, false, true, false, false, false]),
  some (.istore 3, .ref 1, [true, true, false, false, true, false, false, false]),
  some (.goto 0, .ref 301, []),
  none,
  none,
  some (.aload 0, .ref 1, [true, true, false, false, true, false, false, false]),
  some (.invokeinterface 76 6, .ref 1, []),
  none,
  none,
  some (.istore 5, .ref 2, []),
  none,
  some (.iload 5, .ref 2, []),
  none,
  some (.invokestatic 81, .ref 1, []),
  none,
  none,
  some (.istore 6, .ref 2, []),
  none,
  some (.aload 0, .ref 1, []),
  some (.getfield 6, .ref 19, []),
  none,
  none,
  some (.ifCond .le 0, .ref 101, []),
  none,
  none,
  some (.iload 5, .ref 2, [true, true, false, false, true, true, true, false]),
  none,
  some (.ldc 2, .int 41, []),
  none,
  some (.if_icmp .eq 0, .ref 97, []),
  none,
  none,
  some (.iload 5, .ref 2, [true, true, false, false, true, true, true, false]),
  none,
  some (.ldc 2, .int 93, []),
  none,
  some (.if_icmp .ne 0, .ref 101, []),
  none,
  none,
  some (.ldc 1, .int 1, [true, true, false, false, true, true, true, false]),
  some (.goto 0, .ref 102, []),
  none,
  none,
  some (.ldc 1, .int 0, [true, true, false, false, true, true, true, false]),
  some (.istore 7, .ref 2, [true, true, false, false, true, true, true, false]),
  none,
  some (.iload 6, .ref 2, []),
  none,
  some (.ldc 1, .int 1, []),
  some (.if_icmp .ne 0, .ref 140, []),
  none,
  none,
  some (.aload 0, .ref 1, [true, true, false, false, true, true, true, true]),
  some (.getfield 6, .ref 18, []),
  none,
  none,
  some (.aload 0, .ref 1, []),
  some (.getfield 6, .ref 19, []),
  none,
  none,
  some (.baload, .null, []),
  some (.ifCond .ne 0, .ref 140, []),
  none,
  none,
  some (.aload 0, .ref 1, [true, true, false, false, true, true, false, true]),
  some (.getfield 6, .ref 18, []),
  none,
  none,
  some (.aload 0, .ref 1, []),
  some (.getfield 6, .ref 19, []),
  none,
  none,
  some (.ldc 1, .int 1, []),
  some (.bastore, .null, []),
  some (.aload 0, .ref 1, []),
  some (.ldc 1, .int 1, []),
  some (.invokeinterface 83 6, .ref 2, []),
  none,
  none,
  some (.goto 0, .ref 254, []),
  none,
  none,
  some (.iload 6, .ref 2, [true, true, false, false, true, true, true, true]),
  none,
  some (.ldc 1, .int 1, []),
  some (.if_icmp .le 0, .ref 155, []),
  none,
  none,
  some (.aload 0, .ref 1, [true, true, false, false, true, true, true, true]),
  some (.iload 6, .ref 2, []),
  none,
  some (.invokeinterface 83 6, .ref 2, []),
  none,
  none,
  some (.goto 0, .ref 254, []),
  none,
  none,
  some (.iload 7, .ref 2, [true, true, false, false, true, true, false, true]),
  none,
  some (.ifCond .eq 0, .ref 229, []),
  none,
  none,
  some (.aload 0, .ref 1, [true, true, false, false, true, true, false, true]),
  some (.ldc 1, .int 1, []),
  some (.invokeinterface 83 6, .ref 2, []),
  none,
  none,
  some (.aload 0, .ref 1, []),
  some (.dup, .null, []),
  some (.getfield 6, .ref 16, []),
  none,
  none,
  some (.ldc 1, .int 1, []),
  some (.isub, .null, []),
  some (.putfield 6, .ref 16, []),
  none,
  none,
  some (.aload 0, .ref 1, []),
  some (.getfield 6, .ref 17, []),
  none,
  none,
  some (.aload 0, .ref 1, []),
  some (.getfield 6, .ref 16, []),
  none,
  none,
  some (.iaload, .null, []),
  some (.iload 5, .ref 2, []),
  none,
  some (.ldc 2, .int 41, []),
  none,
  some (.if_icmp .ne 0, .ref 196, []),
  none,
  none,
  some (.ldc 2, .int 40, [true, true, false, false, true, true, false, true]),
  none,
  some (.goto 0, .ref 198, []),
  none,
  none,
  some (.ldc 2, .int 91, [true, true, false, false, true, true, false, true]),
  none,
  some (.if_icmp .eq 0, .ref 203, [true, true, false, false, true, true, false, true]),
  none,
  none,
  some (.ldc 1, .int 0, [false, false, false, false, false, false, false, false]),
  some (.ireturn, .ref 1, []),
  some (.aload 0, .ref 1, [true, true, false, false, true, true, false, true]),
  some (.dup, .null, []),
  some (.getfield 6, .ref 19, []),
  none,
  none,
  some (.ldc 1, .int 1, []),
  some (.isub, .null, []),
  some (.putfield 6, .ref 19, []),
  none,
  none,
  some (.iload 5, .ref 2, []),
  none,
  some (.ldc 2, .int 93, []),
  none,
  some (.if_icmp .ne 0, .ref 254, []),
  none,
  none,
  some (.aload 0, .ref 1, [true, true, false, false, true, true, false, true]),
  some (.ldc 1, .int 3, []),
  some (.ldc 1, .int 0, []),
  some (.invokeinterface 80 6, .ref 3, []),
  none,
  none,
  some (.goto 0, .ref 254, []),
  none,
  none,
  some (.aload 0, .ref 1, [true, false, false, false, false, false, false, false]),
  some (.ldc 1, .int 1, []),
  some (.invokeinterface 83 6, .ref 2, []),
  none,
  none,
  some (.aload 0, .ref 1, []),
  some (.getfield 6, .ref 19, []),
  none,
  none,
  some (.ifCond .ne 0, .ref 252, []),
  none,
  none,
  some (.aload 0, .ref 1, [true, false, false, false, false, false, false, false]),
  some (.getfield 6, .ref 16, []),
  none,
  none,
  some (.ifCond .ne 0, .ref 252, []),
  none,
  none,
  some (.ldc 1, .int 1, [false, false, false, false, false, false, false, false]),
  some (.goto 0, .ref 253, []),
  none,
  none,
  some (.ldc 1, .int 0, [false, false, false, false, false, false, false, false]),
  some (.ireturn, .ref 1, [false, false, false, false, false, false, false, false]),
  some (.aload 0, .ref 1, [true, true, false, false, true, true, false, true]),
  some (.dup, .null, []),
  some (.getfield 6, .ref 3, []),
  none,
  none,
  some (.ldc 1, .int 1, []),
  some (.iadd, .null, []),
  some (.putfield 6, .ref 3, []),
  none,
  none,
  some (.iload 7, .ref 2, []),
  none,
  some (.ifCond .ne 0, .ref 290, []),
  none,
  none,
  some (.aload 0, .ref 1, [true, true, false, false, true, true, false, true]),
  some (.getfield 6, .ref 17, []),
  none,
  none,
  some (.aload 0, .ref 1, []),
  some (.getfield 6, .ref 16, []),
  none,
  none,
  some (.iload 5, .ref 2, []),
  none,
  some (.iastore, .null, []),
  some (.aload 0, .ref 1, []),
  some (.dup, .null, []),
  some (.getfield 6, .ref 16, []),
  none,
  none,
  some (.ldc 1, .int 1, []),
  some (.iadd, .null, []),
  some (.putfield 6, .ref 16, []),
  none,
  none,
  some (.iload 7, .ref 2, [true, true, false, false, true, false, false, true]),
  none,
  some (.ifCond .ne 0, .ref 299, []),
  none,
  none,
  some (.ldc 1, .int 1, [true, true, false, false, true, false, false, false]),
  some (.goto 0, .ref 300, []),
  none,
  none,
  some (.ldc 1, .int 0, [true, true, false, false, true, false, false, false]),
  some (.istore 3, .ref 1, [true, true, false, false, true, false, false, false]),
  some (.iload 3, .ref 1, [true, true, false, true, true, false, false, false]),
  some (.ifCond .ne 0, .ref 309, []),
  none,
  none,
  some (.aload 0, .ref 1, [true, true, false, true, true, false, false, false]),
  some (.invokeinterface 84 6, .ref 1, []),
  none,
  none,
  some (.iinc 4 0, .int 1, [true, true, false, true, true, false, false, false]),
  none,
  none,
  some (.goto 0, .ref 22, []),
  none,
  none,
  some (.ldc 1, .int 0, [false, false, false, false, false, false, false, false]),
  some (.ireturn, .ref 1, [])]
/-- 88: TimedCompilerModel.open(II)Z -/
def xt_88 : List (Option xi_E) := [some (.aload 0, .ref 1, []),
  some (.ldc 2, .int 123, []),
  none,
  some (.invokeinterface 77 6, .ref 2, []),
  none,
  none,
  some (.ifCond .eq 0, .ref 18, []),
  none,
  none,
  some (.aload 0, .ref 1, [true, true, true]),
  some (.getfield 6, .ref 20, []),
  none,
  none,
  some (.ldc 2, .int 6, []),
  none,
  some (.if_icmp .ne 0, .ref 20, []),
  none,
  none,
  some (.ldc 1, .int 0, [false, false, false]),
  some (.ireturn, .ref 1, []),
  some (.aload 0, .ref 1, [true, true, true]),
  some (.getfield 6, .ref 21, []),
  none,
  none,
  some (.aload 0, .ref 1, []),
  some (.getfield 6, .ref 20, []),
  none,
  none,
  some (.iload 1, .ref 1, []),
  some (.iastore, .null, []),
  some (.aload 0, .ref 1, []),
  some (.getfield 6, .ref 22, []),
  none,
  none,
  some (.aload 0, .ref 1, []),
  some (.getfield 6, .ref 20, []),
  none,
  none,
  some (.iload 2, .ref 1, []),
  some (.iastore, .null, []),
  some (.aload 0, .ref 1, []),
  some (.dup, .null, []),
  some (.getfield 6, .ref 20, []),
  none,
  none,
  some (.ldc 1, .int 1, []),
  some (.iadd, .null, []),
  some (.putfield 6, .ref 20, []),
  none,
  none,
  some (.ldc 1, .int 1, []),
  some (.ireturn, .ref 1, [])]
/-- 89: TimedCompilerModel.digits()I -/
def xt_89 : List (Option xi_E) := [some (.ldc 1, .int 0, []),
  some (.istore 1, .ref 1, []),
  some (.ldc 1, .int 0, []),
  some (.istore 2, .ref 1, []),
  some (.iload 1, .ref 1, [true, true, true]),
  some (.ldc 1, .int 3, []),
  some (.if_icmp .ge 0, .ref 48, []),
  none,
  none,
  some (.aload 0, .ref 1, [true, true, true]),
  some (.invokeinterface 76 6, .ref 1, []),
  none,
  none,
  some (.invokestatic 78, .ref 1, []),
  none,
  none,
  some (.ifCond .eq 0, .ref 48, []),
  none,
  none,
  some (.ldc 2, .int 10, [true, true, true]),
  none,
  some (.iload 2, .ref 1, []),
  some (.imul, .null, []),
  some (.aload 0, .ref 1, []),
  some (.invokeinterface 76 6, .ref 1, []),
  none,
  none,
  some (.iadd, .null, []),
  some (.ldc 2, .int 48, []),
  none,
  some (.isub, .null, []),
  some (.istore 2, .ref 1, []),
  some (.iinc 1 0, .int 1, []),
  none,
  none,
  some (.aload 0, .ref 1, []),
  some (.dup, .null, []),
  some (.getfield 6, .ref 3, []),
  none,
  none,
  some (.ldc 1, .int 1, []),
  some (.iadd, .null, []),
  some (.putfield 6, .ref 3, []),
  none,
  none,
  some (.goto 0, .ref 4, []),
  none,
  none,
  some (.iload 1, .ref 1, [false, true, true]),
  some (.ifCond .ne 0, .ref 56, []),
  none,
  none,
  some (.ldc 1, .int (-1), [false, false, false]),
  some (.goto 0, .ref 57, []),
  none,
  none,
  some (.iload 2, .ref 1, [false, false, true]),
  some (.ireturn, .null, [false, false, false])]
/-- 90: TimedCompilerModel.loop()Z -/
def xt_90 : List (Option xi_E) := [some (.aload 0, .ref 1, []),
  some (.getfield 6, .ref 3, []),
  none,
  none,
  some (.istore 1, .ref 1, []),
  some (.aload 0, .ref 1, []),
  some (.invokeinterface 89 6, .ref 1, []),
  none,
  none,
  some (.istore 2, .ref 1, []),
  some (.iload 2, .ref 1, []),
  some (.ifCond .lt 0, .ref 32, []),
  none,
  none,
  some (.aload 0, .ref 1, [true, true, true]),
  some (.invokeinterface 76 6, .ref 1, []),
  none,
  none,
  some (.ldc 2, .int 123, []),
  none,
  some (.if_icmp .ne 0, .ref 32, []),
  none,
  none,
  some (.aload 0, .ref 1, [true, false, true]),
  some (.ldc 1, .int 0, []),
  some (.iload 2, .ref 1, []),
  some (.invokeinterface 80 6, .ref 3, []),
  none,
  none,
  some (.goto 0, .ref 72, []),
  none,
  none,
  some (.aload 0, .ref 1, [true, true, false]),
  some (.iload 1, .ref 1, []),
  some (.putfield 6, .ref 3, []),
  none,
  none,
  some (.aload 0, .ref 1, []),
  some (.aload 0, .ref 1, []),
  some (.getfield 6, .ref 20, []),
  none,
  none,
  some (.ldc 1, .int 1, []),
  some (.invokeinterface 87 6, .ref 3, []),
  none,
  none,
  some (.ifCond .eq 0, .ref 58, []),
  none,
  none,
  some (.aload 0, .ref 1, [true, false, false]),
  some (.ldc 2, .int 60, []),
  none,
  some (.invokeinterface 77 6, .ref 2, []),
  none,
  none,
  some (.ifCond .ne 0, .ref 60, []),
  none,
  none,
  some (.ldc 1, .int 0, [false, false, false]),
  some (.ireturn, .ref 1, []),
  some (.aload 0, .ref 1, [true, false, false]),
  some (.invokeinterface 89 6, .ref 1, []),
  none,
  none,
  some (.istore 2, .ref 1, []),
  some (.aload 0, .ref 1, []),
  some (.ldc 2, .int 16, []),
  none,
  some (.iload 2, .ref 1, []),
  some (.invokeinterface 80 6, .ref 3, []),
  none,
  none,
  some (.iload 2, .ref 1, [true, false, true]),
  some (.ifCond .lt 0, .ref 82, []),
  none,
  none,
  some (.iload 2, .ref 1, [true, false, true]),
  some (.ldc 2, .int 99, []),
  none,
  some (.if_icmp .le 0, .ref 84, []),
  none,
  none,
  some (.ldc 1, .int 0, [false, false, false]),
  some (.ireturn, .ref 1, []),
  some (.aload 0, .ref 1, [true, false, true]),
  some (.ldc 2, .int 33, []),
  none,
  some (.iload 2, .ref 1, []),
  some (.invokeinterface 79 6, .ref 3, []),
  none,
  none,
  some (.aload 0, .ref 1, []),
  some (.ldc 2, .int 15, []),
  none,
  some (.ldc 1, .int 0, []),
  some (.invokeinterface 80 6, .ref 3, []),
  none,
  none,
  some (.aload 0, .ref 1, []),
  some (.ldc 2, .int 8, []),
  none,
  some (.aload 0, .ref 1, []),
  some (.getfield 6, .ref 4, []),
  none,
  none,
  some (.ldc 1, .int 1, []),
  some (.isub, .null, []),
  some (.invokeinterface 88 6, .ref 3, []),
  none,
  none,
  some (.ireturn, .ref 1, [])]
/-- 91: TimedCompilerModel.statement()Z -/
def xt_91 : List (Option xi_E) := [some (.aload 0, .ref 1, []),
  some (.invokeinterface 76 6, .ref 1, []),
  none,
  none,
  some (.istore 1, .ref 1, []),
  some (.aload 0, .ref 1, []),
  some (.dup, .null, []),
  some (.getfield 6, .ref 3, []),
  none,
  none,
  some (.ldc 1, .int 1, []),
  some (.iadd, .null, []),
  some (.putfield 6, .ref 3, []),
  none,
  none,
  some (.iload 1, .ref 1, []),
  some (.ldc 2, .int 33, []),
  none,
  some (.if_icmp .ne 0, .ref 57, []),
  none,
  none,
  some (.aload 0, .ref 1, [true, false, false]),
  some (.aload 0, .ref 1, []),
  some (.getfield 6, .ref 20, []),
  none,
  none,
  some (.ldc 1, .int 0, []),
  some (.invokeinterface 87 6, .ref 3, []),
  none,
  none,
  some (.istore 2, .ref 1, []),
  some (.aload 0, .ref 1, []),
  some (.ldc 2, .int 12, []),
  none,
  some (.ldc 1, .int 0, []),
  some (.invokeinterface 80 6, .ref 3, []),
  none,
  none,
  some (.iload 2, .ref 1, []),
  some (.ifCond .eq 0, .ref 55, []),
  none,
  none,
  some (.aload 0, .ref 1, [true, false, false]),
  some (.ldc 2, .int 59, []),
  none,
  some (.invokeinterface 77 6, .ref 2, []),
  none,
  none,
  some (.ifCond .eq 0, .ref 55, []),
  none,
  none,
  some (.ldc 1, .int 1, [false, false, false]),
  some (.goto 0, .ref 56, []),
  none,
  none,
  some (.ldc 1, .int 0, [false, false, false]),
  some (.ireturn, .ref 1, [false, false, false]),
  some (.iload 1, .ref 1, [true, true, false]),
  some (.ldc 2, .int 63, []),
  none,
  some (.if_icmp .ne 0, .ref 112, []),
  none,
  none,
  some (.aload 0, .ref 1, [true, false, false]),
  some (.aload 0, .ref 1, []),
  some (.getfield 6, .ref 20, []),
  none,
  none,
  some (.ldc 1, .int 0, []),
  some (.invokeinterface 87 6, .ref 3, []),
  none,
  none,
  some (.istore 2, .ref 1, []),
  some (.aload 0, .ref 1, []),
  some (.ldc 2, .int 13, []),
  none,
  some (.ldc 1, .int 0, []),
  some (.invokeinterface 80 6, .ref 3, []),
  none,
  none,
  some (.aload 0, .ref 1, []),
  some (.ldc 2, .int 30, []),
  none,
  some (.ldc 1, .int 0, []),
  some (.invokeinterface 79 6, .ref 3, []),
  none,
  none,
  some (.iload 2, .ref 1, []),
  some (.ifCond .eq 0, .ref 110, []),
  none,
  none,
  some (.aload 0, .ref 1, [true, false, false]),
  some (.ldc 2, .int 6, []),
  none,
  some (.aload 0, .ref 1, []),
  some (.getfield 6, .ref 4, []),
  none,
  none,
  some (.ldc 1, .int 1, []),
  some (.isub, .null, []),
  some (.invokeinterface 88 6, .ref 3, []),
  none,
  none,
  some (.ifCond .eq 0, .ref 110, []),
  none,
  none,
  some (.ldc 1, .int 1, [false, false, false]),
  some (.goto 0, .ref 111, []),
  none,
  none,
  some (.ldc 1, .int 0, [false, false, false]),
  some (.ireturn, .ref 1, [false, false, false]),
  some (.iload 1, .ref 1, [true, true, false]),
  some (.ldc 2, .int 35, []),
  none,
  some (.if_icmp .ne 0, .ref 123, []),
  none,
  none,
  some (.aload 0, .ref 1, [true, false, false]),
  some (.invokeinterface 90 6, .ref 1, []),
  none,
  none,
  some (.ireturn, .ref 1, []),
  some (.iload 1, .ref 1, [true, true, false]),
  some (.ldc 2, .int 65, []),
  none,
  some (.if_icmp .lt 0, .ref 152, []),
  none,
  none,
  some (.iload 1, .ref 1, [true, true, false]),
  some (.ldc 2, .int 68, []),
  none,
  some (.if_icmp .gt 0, .ref 152, []),
  none,
  none,
  some (.aload 0, .ref 1, [true, true, false]),
  some (.ldc 2, .int 17, []),
  none,
  some (.iload 1, .ref 1, []),
  some (.ldc 2, .int 65, []),
  none,
  some (.isub, .null, []),
  some (.invokeinterface 80 6, .ref 3, []),
  none,
  none,
  some (.aload 0, .ref 1, []),
  some (.ldc 2, .int 59, []),
  none,
  some (.invokeinterface 77 6, .ref 2, []),
  none,
  none,
  some (.ireturn, .ref 1, []),
  some (.iload 1, .ref 1, [true, true, false]),
  some (.ldc 2, .int 97, []),
  none,
  some (.if_icmp .lt 0, .ref 219, []),
  none,
  none,
  some (.iload 1, .ref 1, [true, true, false]),
  some (.ldc 2, .int 102, []),
  none,
  some (.if_icmp .gt 0, .ref 219, []),
  none,
  none,
  some (.aload 0, .ref 1, [true, true, false]),
  some (.ldc 2, .int 61, []),
  none,
  some (.invokeinterface 77 6, .ref 2, []),
  none,
  none,
  some (.ifCond .eq 0, .ref 189, []),
  none,
  none,
  some (.aload 0, .ref 1, [true, true, false]),
  some (.aload 0, .ref 1, []),
  some (.getfield 6, .ref 20, []),
  none,
  none,
  some (.ldc 1, .int 0, []),
  some (.invokeinterface 87 6, .ref 3, []),
  none,
  none,
  some (.ifCond .eq 0, .ref 189, []),
  none,
  none,
  some (.ldc 1, .int 1, [true, true, false]),
  some (.goto 0, .ref 190, []),
  none,
  none,
  some (.ldc 1, .int 0, [true, true, false]),
  some (.istore 2, .ref 1, [true, true, false]),
  some (.aload 0, .ref 1, []),
  some (.ldc 1, .int 2, []),
  some (.iload 1, .ref 1, []),
  some (.ldc 2, .int 97, []),
  none,
  some (.isub, .null, []),
  some (.invokeinterface 80 6, .ref 3, []),
  none,
  none,
  some (.iload 2, .ref 1, []),
  some (.ifCond .eq 0, .ref 217, []),
  none,
  none,
  some (.aload 0, .ref 1, [true, false, false]),
  some (.ldc 2, .int 59, []),
  none,
  some (.invokeinterface 77 6, .ref 2, []),
  none,
  none,
  some (.ifCond .eq 0, .ref 217, []),
  none,
  none,
  some (.ldc 1, .int 1, [false, false, false]),
  some (.goto 0, .ref 218, []),
  none,
  none,
  some (.ldc 1, .int 0, [false, false, false]),
  some (.ireturn, .ref 1, [false, false, false]),
  some (.iload 1, .ref 1, [true, true, false]),
  some (.ldc 2, .int 91, []),
  none,
  some (.if_icmp .ne 0, .ref 309, []),
  none,
  none,
  some (.aload 0, .ref 1, [true, false, false]),
  some (.getfield 6, .ref 20, []),
  none,
  none,
  some (.ldc 2, .int 6, []),
  none,
  some (.if_icmp .ge 0, .ref 282, []),
  none,
  none,
  some (.aload 0, .ref 1, [true, false, false]),
  some (.aload 0, .ref 1, []),
  some (.getfield 6, .ref 20, []),
  none,
  none,
  some (.ldc 1, .int 1, []),
  some (.iadd, .null, []),
  some (.ldc 1, .int 0, []),
  some (.invokeinterface 87 6, .ref 3, []),
  none,
  none,
  some (.ifCond .eq 0, .ref 282, []),
  none,
  none,
  some (.aload 0, .ref 1, [true, false, false]),
  some (.ldc 2, .int 93, []),
  none,
  some (.invokeinterface 77 6, .ref 2, []),
  none,
  none,
  some (.ifCond .eq 0, .ref 282, []),
  none,
  none,
  some (.aload 0, .ref 1, [true, false, false]),
  some (.ldc 2, .int 61, []),
  none,
  some (.invokeinterface 77 6, .ref 2, []),
  none,
  none,
  some (.ifCond .eq 0, .ref 282, []),
  none,
  none,
  some (.aload 0, .ref 1, [true, false, false]),
  some (.aload 0, .ref 1, []),
  some (.getfield 6, .ref 20, []),
  none,
  none,
  some (.ldc 1, .int 0, []),
  some (.invokeinterface 87 6, .ref 3, []),
  none,
  none,
  some (.ifCond .eq 0, .ref 282, []),
  none,
  none,
  some (.ldc 1, .int 1, [true, false, false]),
  some (.goto 0, .ref 283, []),
  none,
  none,
  some (.ldc 1, .int 0, [true, false, false]),
  some (.istore 2, .ref 1, [true, false, false]),
  some (.aload 0, .ref 1, []),
  some (.ldc 1, .int 4, []),
  some (.ldc 1, .int 0, []),
  some (.invokeinterface 80 6, .ref 3, []),
  none,
  none,
  some (.iload 2, .ref 1, []),
  some (.ifCond .eq 0, .ref 307, []),
  none,
  none,
  some (.aload 0, .ref 1, [true, false, false]),
  some (.ldc 2, .int 59, []),
  none,
  some (.invokeinterface 77 6, .ref 2, []),
  none,
  none,
  some (.ifCond .eq 0, .ref 307, []),
  none,
  none,
  some (.ldc 1, .int 1, [false, false, false]),
  some (.goto 0, .ref 308, []),
  none,
  none,
  some (.ldc 1, .int 0, [false, false, false]),
  some (.ireturn, .ref 1, [false, false, false]),
  some (.ldc 1, .int 0, [false, false, false]),
  some (.ireturn, .ref 1, [])]
/-- 92: TimedCompilerModel.close()Z -/
def xt_92 : List (Option xi_E) := [some (.aload 0, .ref 1, []),
  some (.dup, .null, []),
  some (.getfield 6, .ref 20, []),
  none,
  none,
  some (.ldc 1, .int 1, []),
  some (.isub, .null, []),
  some (.putfield 6, .ref 20, []),
  none,
  none,
  some (.aload 0, .ref 1, []),
  some (.getfield 6, .ref 21, []),
  none,
  none,
  some (.aload 0, .ref 1, []),
  some (.getfield 6, .ref 20, []),
  none,
  none,
  some (.iaload, .null, []),
  some (.istore 1, .ref 1, []),
  some (.aload 0, .ref 1, []),
  some (.getfield 6, .ref 22, []),
  none,
  none,
  some (.aload 0, .ref 1, []),
  some (.getfield 6, .ref 20, []),
  none,
  none,
  some (.iaload, .null, []),
  some (.istore 2, .ref 1, []),
  some (.iload 1, .ref 1, []),
  some (.ldc 2, .int 6, []),
  none,
  some (.if_icmp .ne 0, .ref 82, []),
  none,
  none,
  some (.aload 0, .ref 1, [true, true, true]),
  some (.invokeinterface 76 6, .ref 1, []),
  none,
  none,
  some (.ldc 2, .int 123, []),
  none,
  some (.if_icmp .ne 0, .ref 82, []),
  none,
  none,
  some (.aload 0, .ref 1, [true, false, true]),
  some (.ldc 2, .int 14, []),
  none,
  some (.ldc 1, .int 0, []),
  some (.invokeinterface 80 6, .ref 3, []),
  none,
  none,
  some (.aload 0, .ref 1, []),
  some (.getfield 6, .ref 6, []),
  none,
  none,
  some (.iload 2, .ref 1, []),
  some (.aload 0, .ref 1, []),
  some (.getfield 6, .ref 4, []),
  none,
  none,
  some (.iastore, .null, []),
  some (.aload 0, .ref 1, []),
  some (.ldc 2, .int 31, []),
  none,
  some (.ldc 1, .int 0, []),
  some (.invokeinterface 79 6, .ref 3, []),
  none,
  none,
  some (.aload 0, .ref 1, []),
  some (.ldc 2, .int 7, []),
  none,
  some (.aload 0, .ref 1, []),
  some (.getfield 6, .ref 4, []),
  none,
  none,
  some (.ldc 1, .int 1, []),
  some (.isub, .null, []),
  some (.invokeinterface 88 6, .ref 3, []),
  none,
  none,
  some (.ireturn, .ref 1, []),
  some (.iload 1, .ref 1, [true, true, true]),
  some (.ldc 2, .int 8, []),
  none,
  some (.if_icmp .ne 0, .ref 102, []),
  none,
  none,
  some (.aload 0, .ref 1, [true, true, true]),
  some (.ldc 2, .int 14, []),
  none,
  some (.iload 2, .ref 1, []),
  some (.invokeinterface 80 6, .ref 3, []),
  none,
  none,
  some (.aload 0, .ref 1, []),
  some (.ldc 2, .int 34, []),
  none,
  some (.ldc 1, .int 0, []),
  some (.invokeinterface 79 6, .ref 3, []),
  none,
  none,
  some (.iload 1, .ref 1, [true, true, true]),
  some (.ldc 1, .int 5, []),
  some (.if_icmp .le 0, .ref 117, []),
  none,
  none,
  some (.aload 0, .ref 1, [true, true, true]),
  some (.getfield 6, .ref 6, []),
  none,
  none,
  some (.iload 2, .ref 1, []),
  some (.aload 0, .ref 1, []),
  some (.getfield 6, .ref 4, []),
  none,
  none,
  some (.iastore, .null, []),
  some (.iload 1, .ref 1, [true, true, false]),
  some (.ldc 2, .int 6, []),
  none,
  some (.if_icmp .eq 0, .ref 129, []),
  none,
  none,
  some (.iload 1, .ref 1, [true, true, false]),
  some (.ldc 2, .int 7, []),
  none,
  some (.if_icmp .ne 0, .ref 136, []),
  none,
  none,
  some (.aload 0, .ref 1, [true, true, false]),
  some (.ldc 2, .int 32, []),
  none,
  some (.ldc 1, .int 0, []),
  some (.invokeinterface 79 6, .ref 3, []),
  none,
  none,
  some (.iload 1, .ref 1, [true, true, false]),
  some (.ldc 2, .int 6, []),
  none,
  some (.if_icmp .ge 0, .ref 185, []),
  none,
  none,
  some (.aload 0, .ref 1, [true, true, false]),
  some (.iload 1, .ref 1, []),
  some (.ldc 1, .int 5, []),
  some (.if_icmp .ne 0, .ref 153, []),
  none,
  none,
  some (.ldc 2, .int 18, [true, false, false]),
  none,
  some (.goto 0, .ref 155, []),
  none,
  none,
  some (.ldc 2, .int 19, [true, false, false]),
  none,
  some (.ldc 1, .int 0, [true, false, false]),
  some (.invokeinterface 80 6, .ref 3, []),
  none,
  none,
  some (.aload 0, .ref 1, []),
  some (.getfield 6, .ref 11, []),
  none,
  none,
  some (.aload 0, .ref 1, []),
  some (.getfield 6, .ref 23, []),
  none,
  none,
  some (.aload 0, .ref 1, []),
  some (.getfield 6, .ref 4, []),
  none,
  none,
  some (.iastore, .null, []),
  some (.aload 0, .ref 1, []),
  some (.getfield 6, .ref 13, []),
  none,
  none,
  some (.aload 0, .ref 1, []),
  some (.getfield 6, .ref 23, []),
  none,
  none,
  some (.aload 0, .ref 1, []),
  some (.getfield 6, .ref 7, []),
  none,
  none,
  some (.iastore, .null, []),
  some (.ldc 1, .int 1, [false, false, false]),
  some (.ireturn, .ref 1, [])]
/-- 93: TimedCompilerModel.begin()Z -/
def xt_93 : List (Option xi_E) := [some (.aload 0, .ref 1, []),
  some (.invokeinterface 76 6, .ref 1, []),
  none,
  none,
  some (.istore 1, .ref 1, []),
  some (.iload 1, .ref 1, []),
  some (.ldc 2, .int 65, []),
  none,
  some (.if_icmp .lt 0, .ref 21, []),
  none,
  none,
  some (.iload 1, .ref 1, [true, true, false]),
  some (.ldc 2, .int 68, []),
  none,
  some (.if_icmp .gt 0, .ref 21, []),
  none,
  none,
  some (.ldc 1, .int 1, [true, true, false]),
  some (.goto 0, .ref 22, []),
  none,
  none,
  some (.ldc 1, .int 0, [true, true, false]),
  some (.istore 2, .ref 1, [true, true, false]),
  some (.aload 0, .ref 1, []),
  some (.iload 2, .ref 1, []),
  some (.ifCond .eq 0, .ref 35, []),
  none,
  none,
  some (.iload 1, .ref 1, [true, true, true]),
  some (.ldc 2, .int 65, []),
  none,
  some (.isub, .null, []),
  some (.goto 0, .ref 36, []),
  none,
  none,
  some (.ldc 1, .int 4, [true, false, true]),
  some (.putfield 6, .ref 23, [true, false, true]),
  none,
  none,
  some (.aload 0, .ref 1, []),
  some (.iload 2, .ref 1, []),
  some (.ifCond .eq 0, .ref 53, []),
  none,
  none,
  some (.aload 0, .ref 1, [true, false, true]),
  some (.getfield 6, .ref 3, []),
  none,
  none,
  some (.ldc 1, .int 1, []),
  some (.iadd, .null, []),
  some (.goto 0, .ref 57, []),
  none,
  none,
  some (.aload 0, .ref 1, [true, false, true]),
  some (.getfield 6, .ref 3, []),
  none,
  none,
  some (.putfield 6, .ref 3, [true, false, true]),
  none,
  none,
  some (.aload 0, .ref 1, []),
  some (.getfield 6, .ref 14, []),
  none,
  none,
  some (.aload 0, .ref 1, []),
  some (.getfield 6, .ref 23, []),
  none,
  none,
  some (.baload, .null, []),
  some (.ifCond .eq 0, .ref 74, []),
  none,
  none,
  some (.ldc 1, .int 0, [false, false, false]),
  some (.ireturn, .ref 1, []),
  some (.aload 0, .ref 1, [true, false, true]),
  some (.getfield 6, .ref 14, []),
  none,
  none,
  some (.aload 0, .ref 1, []),
  some (.getfield 6, .ref 23, []),
  none,
  none,
  some (.ldc 1, .int 1, []),
  some (.bastore, .null, []),
  some (.aload 0, .ref 1, []),
  some (.getfield 6, .ref 10, []),
  none,
  none,
  some (.aload 0, .ref 1, []),
  some (.getfield 6, .ref 23, []),
  none,
  none,
  some (.aload 0, .ref 1, []),
  some (.getfield 6, .ref 4, []),
  none,
  none,
  some (.iastore, .null, []),
  some (.aload 0, .ref 1, []),
  some (.getfield 6, .ref 12, []),
  none,
  none,
  some (.aload 0, .ref 1, []),
  some (.getfield 6, .ref 23, []),
  none,
  none,
  some (.aload 0, .ref 1, []),
  some (.getfield 6, .ref 7, []),
  none,
  none,
  some (.iastore, .null, []),
  some (.aload 0, .ref 1, []),
  some (.iload 2, .ref 1, []),
  some (.ifCond .eq 0, .ref 119, []),
  none,
  none,
  some (.ldc 1, .int 5, [false, false, false]),
  some (.goto 0, .ref 120, []),
  none,
  none,
  some (.ldc 1, .int 4, [false, false, false]),
  some (.ldc 1, .int 0, [false, false, false]),
  some (.invokeinterface 88 6, .ref 3, []),
  none,
  none,
  some (.ireturn, .ref 1, [])]
/-- 94: TimedCompilerModel.reads()Z -/
def xt_94 : List (Option xi_E) := [some (.aload 0, .ref 1, []),
  some (.ldc 1, .int 0, []),
  some (.putfield 6, .ref 3, []),
  none,
  none,
  some (.aload 0, .ref 1, []),
  some (.ldc 1, .int 0, []),
  some (.putfield 6, .ref 4, []),
  none,
  none,
  some (.aload 0, .ref 1, []),
  some (.ldc 1, .int 0, []),
  some (.putfield 6, .ref 7, []),
  none,
  none,
  some (.aload 0, .ref 1, []),
  some (.ldc 1, .int 0, []),
  some (.putfield 6, .ref 20, []),
  none,
  none,
  some (.ldc 1, .int 0, []),
  some (.istore 1, .ref 1, []),
  some (.iload 1, .ref 1, [true, true, false]),
  some (.ldc 1, .int 5, []),
  some (.if_icmp .ge 0, .ref 40, []),
  none,
  none,
  some (.aload 0, .ref 1, [true, true, false]),
  some (.getfield 6, .ref 14, []),
  none,
  none,
  some (.iload 1, .ref 1, []),
  some (.ldc 1, .int 0, []),
  some (.bastore, .null, []),
  some (.iinc 1 0, .int 1, []),
  none,
  none,
  some (.goto 0, .ref 22, []),
  none,
  none,
  some (.aload 0, .ref 1, [true, false, false]),
  some (.getfield 6, .ref 14, []),
  none,
  none,
  some (.ldc 1, .int 4, []),
  some (.baload, .null, []),
  some (.ifCond .eq 0, .ref 56, []),
  none,
  none,
  some (.aload 0, .ref 1, [true, false, false]),
  some (.getfield 6, .ref 20, []),
  none,
  none,
  some (.ifCond .le 0, .ref 100, []),
  none,
  none,
  some (.aload 0, .ref 1, [true, false, false]),
  some (.getfield 6, .ref 20, []),
  none,
  none,
  some (.ifCond .ne 0, .ref 70, []),
  none,
  none,
  some (.aload 0, .ref 1, [true, false, false]),
  some (.invokeinterface 93 6, .ref 1, []),
  none,
  none,
  some (.goto 0, .ref 90, []),
  none,
  none,
  some (.aload 0, .ref 1, [true, false, false]),
  some (.ldc 2, .int 125, []),
  none,
  some (.invokeinterface 77 6, .ref 2, []),
  none,
  none,
  some (.ifCond .eq 0, .ref 86, []),
  none,
  none,
  some (.aload 0, .ref 1, [true, false, false]),
  some (.invokeinterface 92 6, .ref 1, []),
  none,
  none,
  some (.goto 0, .ref 90, []),
  none,
  none,
  some (.aload 0, .ref 1, [true, false, false]),
  some (.invokeinterface 91 6, .ref 1, []),
  none,
  none,
  some (.istore 1, .ref 1, [true, false, false]),
  some (.iload 1, .ref 1, []),
  some (.ifCond .ne 0, .ref 97, []),
  none,
  none,
  some (.ldc 1, .int 0, [false, false, false]),
  some (.ireturn, .ref 1, []),
  some (.goto 0, .ref 40, [true, false, false]),
  none,
  none,
  some (.aload 0, .ref 1, [true, false, false]),
  some (.getfield 6, .ref 3, []),
  none,
  none,
  some (.aload 0, .ref 1, []),
  some (.getfield 6, .ref 1, []),
  none,
  none,
  some (.if_icmp .ne 0, .ref 115, []),
  none,
  none,
  some (.ldc 1, .int 1, [true, false, false]),
  some (.goto 0, .ref 116, []),
  none,
  none,
  some (.ldc 1, .int 0, [true, false, false]),
  some (.istore 1, .ref 1, [true, false, false]),
  some (.ldc 1, .int 0, []),
  some (.istore 2, .ref 1, []),
  some (.iload 2, .ref 1, [true, true, true]),
  some (.aload 0, .ref 1, []),
  some (.getfield 6, .ref 4, []),
  none,
  none,
  some (.if_icmp .ge 0, .ref 168, []),
  none,
  none,
  some (.iload 1, .ref 1, [true, true, true]),
  some (.ifCond .eq 0, .ref 160, []),
  none,
  none,
  some (.aload 0, .ref 1, [true, false, true]),
  some (.getfield 6, .ref 5, []),
  none,
  none,
  some (.iload 2, .ref 1, []),
  some (.iaload, .null, []),
  some (.ldc 2, .int 17, []),
  none,
  some (.if_icmp .ne 0, .ref 156, []),
  none,
  none,
  some (.aload 0, .ref 1, [true, false, true]),
  some (.getfield 6, .ref 14, []),
  none,
  none,
  some (.aload 0, .ref 1, []),
  some (.getfield 6, .ref 6, []),
  none,
  none,
  some (.iload 2, .ref 1, []),
  some (.iaload, .null, []),
  some (.baload, .null, []),
  some (.ifCond .eq 0, .ref 160, []),
  none,
  none,
  some (.ldc 1, .int 1, [true, false, true]),
  some (.goto 0, .ref 161, []),
  none,
  none,
  some (.ldc 1, .int 0, [true, false, true]),
  some (.istore 1, .ref 1, [true, false, true]),
  some (.iinc 2 0, .int 1, []),
  none,
  none,
  some (.goto 0, .ref 119, []),
  none,
  none,
  some (.iload 1, .ref 1, [false, true, false]),
  some (.ireturn, .ref 1, [])]
/-- 95: TimedCompilerModel.cost(I)I -/
def xt_95 : List (Option xi_E) := [some (.iload 0, .ref 1, []),
  some (.ifCond .ne 0, .ref 8, []),
  none,
  none,
  some (.ldc 1, .int 1, [false]),
  some (.goto 0, .ref 91, []),
  none,
  none,
  some (.iload 0, .ref 1, [true]),
  some (.ldc 1, .int 1, []),
  some (.if_icmp .eq 0, .ref 24, []),
  none,
  none,
  some (.iload 0, .ref 1, [true]),
  some (.ldc 1, .int 2, []),
  some (.if_icmp .eq 0, .ref 24, []),
  none,
  none,
  some (.iload 0, .ref 1, [true]),
  some (.ldc 2, .int 16, []),
  none,
  some (.if_icmp .ne 0, .ref 28, []),
  none,
  none,
  some (.ldc 1, .int 2, [false]),
  some (.goto 0, .ref 91, []),
  none,
  none,
  some (.iload 0, .ref 1, [true]),
  some (.ldc 1, .int 3, []),
  some (.if_icmp .eq 0, .ref 44, []),
  none,
  none,
  some (.iload 0, .ref 1, [true]),
  some (.ldc 1, .int 4, []),
  some (.if_icmp .eq 0, .ref 44, []),
  none,
  none,
  some (.iload 0, .ref 1, [true]),
  some (.ldc 2, .int 17, []),
  none,
  some (.if_icmp .ne 0, .ref 48, []),
  none,
  none,
  some (.ldc 1, .int 4, [false]),
  some (.goto 0, .ref 91, []),
  none,
  none,
  some (.iload 0, .ref 1, [true]),
  some (.ldc 2, .int 7, []),
  none,
  some (.if_icmp .ne 0, .ref 58, []),
  none,
  none,
  some (.ldc 1, .int 5, [false]),
  some (.goto 0, .ref 91, []),
  none,
  none,
  some (.iload 0, .ref 1, [true]),
  some (.ldc 2, .int 8, []),
  none,
  some (.if_icmp .ne 0, .ref 69, []),
  none,
  none,
  some (.ldc 2, .int 20, [false]),
  none,
  some (.goto 0, .ref 91, []),
  none,
  none,
  some (.iload 0, .ref 1, [true]),
  some (.ldc 2, .int 12, []),
  none,
  some (.if_icmp .ne 0, .ref 80, []),
  none,
  none,
  some (.ldc 2, .int 6, [false]),
  none,
  some (.goto 0, .ref 91, []),
  none,
  none,
  some (.iload 0, .ref 1, [true]),
  some (.ldc 2, .int 18, []),
  none,
  some (.if_icmp .ne 0, .ref 90, []),
  none,
  none,
  some (.ldc 1, .int 3, [false]),
  some (.goto 0, .ref 91, []),
  none,
  none,
  some (.ldc 1, .int 1, [false]),
  some (.ireturn, .null, [false])]
/-- 96: TimedCompilerModel.grows(I)I -/
def xt_96 : List (Option xi_E) := [some (.iload 0, .ref 1, []),
  some (.ifCond .eq 0, .ref 9, []),
  none,
  none,
  some (.iload 0, .ref 1, [true]),
  some (.ldc 1, .int 1, []),
  some (.if_icmp .ne 0, .ref 13, []),
  none,
  none,
  some (.ldc 1, .int 1, [false]),
  some (.goto 0, .ref 57, []),
  none,
  none,
  some (.iload 0, .ref 1, [true]),
  some (.ldc 1, .int 3, []),
  some (.if_icmp .eq 0, .ref 42, []),
  none,
  none,
  some (.iload 0, .ref 1, [true]),
  some (.ldc 2, .int 11, []),
  none,
  some (.if_icmp .eq 0, .ref 42, []),
  none,
  none,
  some (.iload 0, .ref 1, [true]),
  some (.ldc 2, .int 16, []),
  none,
  some (.if_icmp .eq 0, .ref 42, []),
  none,
  none,
  some (.iload 0, .ref 1, [true]),
  some (.ldc 2, .int 17, []),
  none,
  some (.if_icmp .eq 0, .ref 42, []),
  none,
  none,
  some (.iload 0, .ref 1, [true]),
  some (.ldc 2, .int 18, []),
  none,
  some (.if_icmp .ne 0, .ref 46, []),
  none,
  none,
  some (.ldc 1, .int 0, [false]),
  some (.goto 0, .ref 57, []),
  none,
  none,
  some (.iload 0, .ref 1, [true]),
  some (.ldc 1, .int 4, []),
  some (.if_icmp .ne 0, .ref 56, []),
  none,
  none,
  some (.ldc 2, .int (-2), [false]),
  none,
  some (.goto 0, .ref 57, []),
  none,
  none,
  some (.ldc 1, .int (-1), [false]),
  some (.ireturn, .null, [false])]
/-- 97: TimedCompilerModel.capped(I)I -/
def xt_97 : List (Option xi_E) := [some (.iload 0, .ref 1, []),
  some (.ldc 2, .int 100000, []),
  none,
  some (.if_icmp .le 0, .ref 11, []),
  none,
  none,
  some (.ldc 2, .int 100000, [false]),
  none,
  some (.goto 0, .ref 12, []),
  none,
  none,
  some (.iload 0, .ref 1, [true]),
  some (.ireturn, .null, [false])]
/-- 98: TimedCompilerModel.greater(II)I -/
def xt_98 : List (Option xi_E) := [some (.iload 0, .ref 1, []),
  some (.iload 1, .ref 1, []),
  some (.if_icmp .le 0, .ref 9, []),
  none,
  none,
  some (.iload 0, .ref 1, [true, false]),
  some (.goto 0, .ref 10, []),
  none,
  none,
  some (.iload 1, .ref 1, [false, true]),
  some (.ireturn, .null, [false, false])]
/-- 99: TimedCompilerModel.reckon(I)V -/
def xt_99 : List (Option xi_E) := [some (.ldc 1, .int 0, []),
  some (.istore 2, .ref 1, []),
  some (.ldc 1, .int 0, []),
  some (.istore 3, .ref 1, []),
  some (.aload 0, .ref 1, []),
  some (.getfield 6, .ref 24, []),
  none,
  none,
  some (.ldc 1, .int 0, []),
  some (.ldc 1, .int 0, []),
  some (.iastore, .null, []),
  some (.aload 0, .ref 1, []),
  some (.getfield 6, .ref 25, []),
  none,
  none,
  some (.ldc 1, .int 0, []),
  some (.ldc 1, .int 0, []),
  some (.iastore, .null, []),
  some (.aload 0, .ref 1, []),
  some (.getfield 6, .ref 12, []),
  none,
  none,
  some (.iload 1, .ref 1, []),
  some (.iaload, .null, []),
  some (.istore 4, .ref 2, []),
  none,
  some (.iload 4, .ref 2, [true, true, true, true, true, false, false, false]),
  none,
  some (.aload 0, .ref 1, []),
  some (.getfield 6, .ref 13, []),
  none,
  none,
  some (.iload 1, .ref 1, []),
  some (.iaload, .null, []),
  some (.if_icmp .ge 0, .ref 310, []),
  none,
  none,
  some (.aload 0, .ref 1, [true, true, true, true, true, false, false, false]),
  some (.getfield 6, .ref 8, []),
  none,
  none,
  some (.iload 4, .ref 2, []),
  none,
  some (.iaload, .null, []),
  some (.istore 5, .ref 2, []),
  none,
  some (.aload 0, .ref 1, []),
  some (.getfield 6, .ref 9, []),
  none,
  none,
  some (.iload 4, .ref 2, []),
  none,
  some (.iaload, .null, []),
  some (.istore 6, .ref 2, []),
  none,
  some (.iload 5, .ref 2, []),
  none,
  some (.ldc 2, .int 30, []),
  none,
  some (.if_icmp .ge 0, .ref 160, []),
  none,
  none,
  some (.iload 3, .ref 1, [true, true, true, true, true, true, true, false]),
  some (.iload 5, .ref 2, []),
  none,
  some (.invokestatic 96, .ref 1, []),
  none,
  none,
  some (.iadd, .null, []),
  some (.istore 3, .ref 1, []),
  some (.iload 5, .ref 2, []),
  none,
  some (.ldc 2, .int 17, []),
  none,
  some (.if_icmp .ne 0, .ref 81, []),
  none,
  none,
  some (.ldc 1, .int 1, [true, true, true, true, true, true, true, false]),
  some (.goto 0, .ref 82, []),
  none,
  none,
  some (.ldc 1, .int 0, [true, true, true, true, true, true, true, false]),
  some (.istore 7, .ref 2, [true, true, true, true, true, true, true, false]),
  none,
  some (.aload 0, .ref 1, []),
  some (.getfield 6, .ref 24, []),
  none,
  none,
  some (.iload 2, .ref 1, []),
  some (.aload 0, .ref 1, []),
  some (.getfield 6, .ref 24, []),
  none,
  none,
  some (.iload 2, .ref 1, []),
  some (.iaload, .null, []),
  some (.iload 5, .ref 2, []),
  none,
  some (.invokestatic 95, .ref 1, []),
  none,
  none,
  some (.iadd, .null, []),
  some (.iload 7, .ref 2, []),
  none,
  some (.ifCond .eq 0, .ref 116, []),
  none,
  none,
  some (.aload 0, .ref 1, [true, true, true, true, true, false, true, true]),
  some (.getfield 6, .ref 30, []),
  none,
  none,
  some (.iload 6, .ref 2, []),
  none,
  some (.iaload, .null, []),
  some (.goto 0, .ref 117, []),
  none,
  none,
  some (.ldc 1, .int 0, [true, true, true, true, true, false, true, true]),
  some (.iadd, .null, [true, true, true, true, true, false, true, true]),
  some (.invokestatic 97, .ref 1, []),
  none,
  none,
  some (.iastore, .null, []),
  some (.aload 0, .ref 1, []),
  some (.getfield 6, .ref 25, []),
  none,
  none,
  some (.iload 2, .ref 1, []),
  some (.aload 0, .ref 1, []),
  some (.getfield 6, .ref 25, []),
  none,
  none,
  some (.iload 2, .ref 1, []),
  some (.iaload, .null, []),
  some (.iload 7, .ref 2, []),
  none,
  some (.ifCond .eq 0, .ref 152, []),
  none,
  none,
  some (.iload 3, .ref 1, [true, true, true, true, true, false, true, false]),
  some (.ldc 1, .int 1, []),
  some (.iadd, .null, []),
  some (.aload 0, .ref 1, []),
  some (.getfield 6, .ref 31, []),
  none,
  none,
  some (.iload 6, .ref 2, []),
  none,
  some (.iaload, .null, []),
  some (.iadd, .null, []),
  some (.goto 0, .ref 153, []),
  none,
  none,
  some (.iload 3, .ref 1, [true, true, true, true, true, false, false, false]),
  some (.invokestatic 98, .ref 2, [true, true, true, true, true, false, false, false]),
  none,
  none,
  some (.iastore, .null, []),
  some (.goto 0, .ref 304, []),
  none,
  none,
  some (.iload 5, .ref 2, [true, true, true, true, true, true, true, false]),
  none,
  some (.ldc 2, .int 30, []),
  none,
  some (.if_icmp .eq 0, .ref 174, []),
  none,
  none,
  some (.iload 5, .ref 2, [true, true, true, true, true, true, true, false]),
  none,
  some (.ldc 2, .int 33, []),
  none,
  some (.if_icmp .ne 0, .ref 224, []),
  none,
  none,
  some (.iload 3, .ref 1, [true, true, true, true, true, true, true, false]),
  some (.iload 5, .ref 2, []),
  none,
  some (.ldc 2, .int 30, []),
  none,
  some (.if_icmp .ne 0, .ref 186, []),
  none,
  none,
  some (.ldc 1, .int 1, [true, true, true, false, true, false, true, false]),
  some (.goto 0, .ref 187, []),
  none,
  none,
  some (.ldc 1, .int 0, [true, true, true, false, true, false, true, false]),
  some (.isub, .null, [true, true, true, false, true, false, true, false]),
  some (.istore 3, .ref 1, []),
  some (.iinc 2 0, .int 1, []),
  none,
  none,
  some (.aload 0, .ref 1, []),
  some (.getfield 6, .ref 24, []),
  none,
  none,
  some (.iload 2, .ref 1, []),
  some (.ldc 1, .int 0, []),
  some (.iastore, .null, []),
  some (.aload 0, .ref 1, []),
  some (.getfield 6, .ref 25, []),
  none,
  none,
  some (.iload 2, .ref 1, []),
  some (.iload 3, .ref 1, []),
  some (.iastore, .null, []),
  some (.aload 0, .ref 1, []),
  some (.getfield 6, .ref 28, []),
  none,
  none,
  some (.iload 2, .ref 1, []),
  some (.ldc 1, .int 0, []),
  some (.bastore, .null, []),
  some (.aload 0, .ref 1, []),
  some (.getfield 6, .ref 29, []),
  none,
  none,
  some (.iload 2, .ref 1, []),
  some (.iload 6, .ref 2, []),
  none,
  some (.iastore, .null, []),
  some (.goto 0, .ref 304, []),
  none,
  none,
  some (.iload 5, .ref 2, [true, true, true, true, true, true, false, false]),
  none,
  some (.ldc 2, .int 31, []),
  none,
  some (.if_icmp .ne 0, .ref 279, []),
  none,
  none,
  some (.aload 0, .ref 1, [true, true, true, true, true, false, false, false]),
  some (.getfield 6, .ref 26, []),
  none,
  none,
  some (.iload 2, .ref 1, []),
  some (.aload 0, .ref 1, []),
  some (.getfield 6, .ref 24, []),
  none,
  none,
  some (.iload 2, .ref 1, []),
  some (.iaload, .null, []),
  some (.iastore, .null, []),
  some (.aload 0, .ref 1, []),
  some (.getfield 6, .ref 27, []),
  none,
  none,
  some (.iload 2, .ref 1, []),
  some (.aload 0, .ref 1, []),
  some (.getfield 6, .ref 25, []),
  none,
  none,
  some (.iload 2, .ref 1, []),
  some (.iaload, .null, []),
  some (.iastore, .null, []),
  some (.aload 0, .ref 1, []),
  some (.getfield 6, .ref 28, []),
  none,
  none,
  some (.iload 2, .ref 1, []),
  some (.ldc 1, .int 1, []),
  some (.bastore, .null, []),
  some (.aload 0, .ref 1, []),
  some (.getfield 6, .ref 24, []),
  none,
  none,
  some (.iload 2, .ref 1, []),
  some (.ldc 1, .int 0, []),
  some (.iastore, .null, []),
  some (.aload 0, .ref 1, []),
  some (.getfield 6, .ref 25, []),
  none,
  none,
  some (.iload 2, .ref 1, []),
  some (.iload 3, .ref 1, []),
  some (.iastore, .null, []),
  some (.goto 0, .ref 304, []),
  none,
  none,
  some (.aload 0, .ref 1, [true, true, true, true, true, true, false, false]),
  some (.iload 2, .ref 1, []),
  some (.iload 5, .ref 2, []),
  none,
  some (.invokeinterface 100 6, .ref 3, []),
  none,
  none,
  some (.iload 3, .ref 1, []),
  some (.iload 5, .ref 2, []),
  none,
  some (.ldc 2, .int 34, []),
  none,
  some (.if_icmp .ne 0, .ref 298, []),
  none,
  none,
  some (.ldc 1, .int 1, [true, true, true, false, true, false, false, false]),
  some (.goto 0, .ref 299, []),
  none,
  none,
  some (.ldc 1, .int 0, [true, true, true, false, true, false, false, false]),
  some (.isub, .null, [true, true, true, false, true, false, false, false]),
  some (.istore 3, .ref 1, []),
  some (.iinc 2 0, .int (-1), []),
  none,
  none,
  some (.iinc 4 0, .int 1, [true, true, true, true, true, false, false, false]),
  none,
  none,
  some (.goto 0, .ref 26, []),
  none,
  none,
  some (.aload 0, .ref 1, [true, true, false, false, false, false, false, false]),
  some (.getfield 6, .ref 30, []),
  none,
  none,
  some (.iload 1, .ref 1, []),
  some (.aload 0, .ref 1, []),
  some (.getfield 6, .ref 24, []),
  none,
  none,
  some (.ldc 1, .int 0, []),
  some (.iaload, .null, []),
  some (.iastore, .null, []),
  some (.aload 0, .ref 1, []),
  some (.getfield 6, .ref 31, []),
  none,
  none,
  some (.iload 1, .ref 1, []),
  some (.aload 0, .ref 1, []),
  some (.getfield 6, .ref 25, []),
  none,
  none,
  some (.ldc 1, .int 0, []),
  some (.iaload, .null, []),
  some (.iastore, .null, []),
  some (.return_, .null, [])]
/-- 100: TimedCompilerModel.shut(II)V -/
def xt_100 : List (Option xi_E) := [some (.aload 0, .ref 1, []),
  some (.getfield 6, .ref 24, []),
  none,
  none,
  some (.iload 1, .ref 1, []),
  some (.iaload, .null, []),
  some (.istore 3, .ref 1, []),
  some (.aload 0, .ref 1, []),
  some (.getfield 6, .ref 25, []),
  none,
  none,
  some (.iload 1, .ref 1, []),
  some (.iaload, .null, []),
  some (.istore 4, .ref 2, []),
  none,
  some (.iload 2, .ref 1, []),
  some (.ldc 2, .int 34, []),
  none,
  some (.if_icmp .ne 0, .ref 54, []),
  none,
  none,
  some (.aload 0, .ref 1, [true, true, false, true, true]),
  some (.getfield 6, .ref 29, []),
  none,
  none,
  some (.iload 1, .ref 1, []),
  some (.iaload, .null, []),
  some (.ldc 1, .int 3, []),
  some (.iload 3, .ref 1, []),
  some (.iadd, .null, []),
  some (.imul, .null, []),
  some (.ldc 1, .int 3, []),
  some (.iadd, .null, []),
  some (.istore 3, .ref 1, []),
  some (.aload 0, .ref 1, []),
  some (.getfield 6, .ref 29, []),
  none,
  none,
  some (.iload 1, .ref 1, []),
  some (.iaload, .null, []),
  some (.ifCond .le 0, .ref 48, []),
  none,
  none,
  some (.iload 4, .ref 2, [true, true, false, true, true]),
  none,
  some (.goto 0, .ref 49, []),
  none,
  none,
  some (.ldc 1, .int 0, [true, true, false, true, false]),
  some (.istore 4, .ref 2, [true, true, false, true, false]),
  none,
  some (.goto 0, .ref 102, []),
  none,
  none,
  some (.aload 0, .ref 1, [true, true, false, true, true]),
  some (.getfield 6, .ref 28, []),
  none,
  none,
  some (.iload 1, .ref 1, []),
  some (.baload, .null, []),
  some (.ifCond .eq 0, .ref 94, []),
  none,
  none,
  some (.aload 0, .ref 1, [true, true, false, true, true]),
  some (.getfield 6, .ref 26, []),
  none,
  none,
  some (.iload 1, .ref 1, []),
  some (.iaload, .null, []),
  some (.ldc 1, .int 3, []),
  some (.iadd, .null, []),
  some (.iload 3, .ref 1, []),
  some (.ldc 1, .int 3, []),
  some (.iadd, .null, []),
  some (.invokestatic 98, .ref 2, []),
  none,
  none,
  some (.istore 3, .ref 1, []),
  some (.iload 4, .ref 2, []),
  none,
  some (.aload 0, .ref 1, []),
  some (.getfield 6, .ref 27, []),
  none,
  none,
  some (.iload 1, .ref 1, []),
  some (.iaload, .null, []),
  some (.invokestatic 98, .ref 2, []),
  none,
  none,
  some (.istore 4, .ref 2, []),
  none,
  some (.goto 0, .ref 102, []),
  none,
  none,
  some (.iload 3, .ref 1, [true, true, false, true, true]),
  some (.ldc 1, .int 1, []),
  some (.iadd, .null, []),
  some (.ldc 1, .int 3, []),
  some (.invokestatic 98, .ref 2, []),
  none,
  none,
  some (.istore 3, .ref 1, []),
  some (.aload 0, .ref 1, [true, true, false, true, true]),
  some (.getfield 6, .ref 24, []),
  none,
  none,
  some (.iload 1, .ref 1, []),
  some (.ldc 1, .int 1, []),
  some (.isub, .null, []),
  some (.aload 0, .ref 1, []),
  some (.getfield 6, .ref 24, []),
  none,
  none,
  some (.iload 1, .ref 1, []),
  some (.ldc 1, .int 1, []),
  some (.isub, .null, []),
  some (.iaload, .null, []),
  some (.iload 3, .ref 1, []),
  some (.iadd, .null, []),
  some (.invokestatic 97, .ref 1, []),
  none,
  none,
  some (.iastore, .null, []),
  some (.aload 0, .ref 1, []),
  some (.getfield 6, .ref 25, []),
  none,
  none,
  some (.iload 1, .ref 1, []),
  some (.ldc 1, .int 1, []),
  some (.isub, .null, []),
  some (.aload 0, .ref 1, []),
  some (.getfield 6, .ref 25, []),
  none,
  none,
  some (.iload 1, .ref 1, []),
  some (.ldc 1, .int 1, []),
  some (.isub, .null, []),
  some (.iaload, .null, []),
  some (.iload 4, .ref 2, []),
  none,
  some (.invokestatic 98, .ref 2, []),
  none,
  none,
  some (.iastore, .null, []),
  some (.return_, .null, [])]
/-- 101: TimedCompilerModel.reckonAll()Z -/
def xt_101 : List (Option xi_E) := [some (.ldc 1, .int 0, []),
  some (.istore 1, .ref 1, []),
  some (.ldc 1, .int 0, []),
  some (.istore 2, .ref 1, []),
  some (.iload 2, .ref 1, [true, true, true, false, false, false]),
  some (.ldc 1, .int 5, []),
  some (.if_icmp .ge 0, .ref 132, []),
  none,
  none,
  some (.ldc 1, .int 0, [true, true, true, false, false, false]),
  some (.istore 3, .ref 1, []),
  some (.iload 3, .ref 1, [true, true, true, true, false, false]),
  some (.ldc 1, .int 5, []),
  some (.if_icmp .ge 0, .ref 126, []),
  none,
  none,
  some (.aload 0, .ref 1, [true, true, true, true, false, false]),
  some (.getfield 6, .ref 14, []),
  none,
  none,
  some (.iload 3, .ref 1, []),
  some (.baload, .null, []),
  some (.ifCond .eq 0, .ref 37, []),
  none,
  none,
  some (.iload 1, .ref 1, [true, true, true, true, false, false]),
  some (.iload 3, .ref 1, []),
  some (.ishr, .null, []),
  some (.ldc 1, .int 1, []),
  some (.iand, .null, []),
  some (.ifCond .ne 0, .ref 37, []),
  none,
  none,
  some (.ldc 1, .int 1, [true, true, true, true, false, false]),
  some (.goto 0, .ref 38, []),
  none,
  none,
  some (.ldc 1, .int 0, [true, true, true, true, false, false]),
  some (.istore 4, .ref 2, [true, true, true, true, false, false]),
  none,
  some (.aload 0, .ref 1, []),
  some (.getfield 6, .ref 10, []),
  none,
  none,
  some (.iload 3, .ref 1, []),
  some (.iaload, .null, []),
  some (.istore 5, .ref 2, []),
  none,
  some (.iload 4, .ref 2, [true, true, true, true, true, true]),
  none,
  some (.ifCond .eq 0, .ref 104, []),
  none,
  none,
  some (.iload 5, .ref 2, [true, true, true, true, true, true]),
  none,
  some (.aload 0, .ref 1, []),
  some (.getfield 6, .ref 11, []),
  none,
  none,
  some (.iload 3, .ref 1, []),
  some (.iaload, .null, []),
  some (.if_icmp .ge 0, .ref 104, []),
  none,
  none,
  some (.aload 0, .ref 1, [true, true, true, true, false, true]),
  some (.getfield 6, .ref 5, []),
  none,
  none,
  some (.iload 5, .ref 2, []),
  none,
  some (.iaload, .null, []),
  some (.ldc 2, .int 17, []),
  none,
  some (.if_icmp .ne 0, .ref 91, []),
  none,
  none,
  some (.iload 1, .ref 1, [true, true, true, true, false, true]),
  some (.aload 0, .ref 1, []),
  some (.getfield 6, .ref 6, []),
  none,
  none,
  some (.iload 5, .ref 2, []),
  none,
  some (.iaload, .null, []),
  some (.ishr, .null, []),
  some (.ldc 1, .int 1, []),
  some (.iand, .null, []),
  some (.ldc 1, .int 1, []),
  some (.if_icmp .ne 0, .ref 95, []),
  none,
  none,
  some (.ldc 1, .int 1, [true, true, true, true, false, true]),
  some (.goto 0, .ref 96, []),
  none,
  none,
  some (.ldc 1, .int 0, [true, true, true, true, false, true]),
  some (.istore 4, .ref 2, [true, true, true, true, false, true]),
  none,
  some (.iinc 5 0, .int 1, []),
  none,
  none,
  some (.goto 0, .ref 48, []),
  none,
  none,
  some (.iload 4, .ref 2, [true, true, true, true, true, false]),
  none,
  some (.ifCond .eq 0, .ref 120, []),
  none,
  none,
  some (.aload 0, .ref 1, [true, true, true, true, false, false]),
  some (.iload 3, .ref 1, []),
  some (.invokeinterface 99 6, .ref 2, []),
  none,
  none,
  some (.iload 1, .ref 1, []),
  some (.ldc 1, .int 1, []),
  some (.iload 3, .ref 1, []),
  some (.ishl, .null, []),
  some (.ior, .null, []),
  some (.istore 1, .ref 1, []),
  some (.iinc 3 0, .int 1, [true, true, true, true, false, false]),
  none,
  none,
  some (.goto 0, .ref 11, []),
  none,
  none,
  some (.iinc 2 0, .int 1, [true, true, true, false, false, false]),
  none,
  none,
  some (.goto 0, .ref 4, []),
  none,
  none,
  some (.ldc 1, .int 1, [true, true, false, false, false, false]),
  some (.istore 2, .ref 1, []),
  some (.ldc 1, .int 0, []),
  some (.istore 3, .ref 1, []),
  some (.iload 3, .ref 1, [true, true, true, true, false, false]),
  some (.ldc 1, .int 5, []),
  some (.if_icmp .ge 0, .ref 175, []),
  none,
  none,
  some (.iload 2, .ref 1, [true, true, true, true, false, false]),
  some (.ifCond .eq 0, .ref 167, []),
  none,
  none,
  some (.aload 0, .ref 1, [true, true, false, true, false, false]),
  some (.getfield 6, .ref 14, []),
  none,
  none,
  some (.iload 3, .ref 1, []),
  some (.baload, .null, []),
  some (.ifCond .eq 0, .ref 163, []),
  none,
  none,
  some (.iload 1, .ref 1, [true, true, false, true, false, false]),
  some (.iload 3, .ref 1, []),
  some (.ishr, .null, []),
  some (.ldc 1, .int 1, []),
  some (.iand, .null, []),
  some (.ldc 1, .int 1, []),
  some (.if_icmp .ne 0, .ref 167, []),
  none,
  none,
  some (.ldc 1, .int 1, [true, true, false, true, false, false]),
  some (.goto 0, .ref 168, []),
  none,
  none,
  some (.ldc 1, .int 0, [true, true, false, true, false, false]),
  some (.istore 2, .ref 1, [true, true, false, true, false, false]),
  some (.iinc 3 0, .int 1, []),
  none,
  none,
  some (.goto 0, .ref 136, []),
  none,
  none,
  some (.iload 2, .ref 1, [false, false, true, false, false, false]),
  some (.ireturn, .ref 1, [])]
/-- 102: TimedCompilerModel.isShort()Z -/
def xt_102 : List (Option xi_E) := [some (.aload 0, .ref 1, []),
  some (.getfield 6, .ref 4, []),
  none,
  none,
  some (.ldc 3, .int 200, []),
  none,
  none,
  some (.if_icmp .gt 0, .ref 14, []),
  none,
  none,
  some (.ldc 1, .int 1, [true, false, false]),
  some (.goto 0, .ref 15, []),
  none,
  none,
  some (.ldc 1, .int 0, [true, false, false]),
  some (.istore 1, .ref 1, [true, false, false]),
  some (.ldc 1, .int 0, []),
  some (.istore 2, .ref 1, []),
  some (.iload 2, .ref 1, [true, true, true]),
  some (.ldc 1, .int 5, []),
  some (.if_icmp .ge 0, .ref 60, []),
  none,
  none,
  some (.iload 1, .ref 1, [true, true, true]),
  some (.ifCond .eq 0, .ref 52, []),
  none,
  none,
  some (.aload 0, .ref 1, [true, false, true]),
  some (.getfield 6, .ref 14, []),
  none,
  none,
  some (.iload 2, .ref 1, []),
  some (.baload, .null, []),
  some (.ifCond .eq 0, .ref 48, []),
  none,
  none,
  some (.aload 0, .ref 1, [true, false, true]),
  some (.getfield 6, .ref 30, []),
  none,
  none,
  some (.iload 2, .ref 1, []),
  some (.iaload, .null, []),
  some (.ldc 3, .int 20000, []),
  none,
  none,
  some (.if_icmp .gt 0, .ref 52, []),
  none,
  none,
  some (.ldc 1, .int 1, [true, false, true]),
  some (.goto 0, .ref 53, []),
  none,
  none,
  some (.ldc 1, .int 0, [true, false, true]),
  some (.istore 1, .ref 1, [true, false, true]),
  some (.iinc 2 0, .int 1, []),
  none,
  none,
  some (.goto 0, .ref 18, []),
  none,
  none,
  some (.iload 1, .ref 1, [false, true, false]),
  some (.ireturn, .ref 1, [])]
/-- 103: TimedCompilerModel.arrange()V -/
def xt_103 : List (Option xi_E) := [some (.ldc 1, .int 0, []),
  some (.istore 1, .ref 1, []),
  some (.ldc 1, .int 0, []),
  some (.istore 2, .ref 1, []),
  some (.iload 2, .ref 1, [true, true, true, false, false]),
  some (.ldc 1, .int 5, []),
  some (.if_icmp .ge 0, .ref 115, []),
  none,
  none,
  some (.iload 2, .ref 1, [true, true, true, false, false]),
  some (.ifCond .ne 0, .ref 17, []),
  none,
  none,
  some (.ldc 1, .int 4, [true, true, true, false, false]),
  some (.goto 0, .ref 20, []),
  none,
  none,
  some (.iload 2, .ref 1, [true, true, true, false, false]),
  some (.ldc 1, .int 1, []),
  some (.isub, .null, []),
  some (.istore 3, .ref 1, [true, true, true, false, false]),
  some (.aload 0, .ref 1, []),
  some (.getfield 6, .ref 36, []),
  none,
  none,
  some (.iload 3, .ref 1, []),
  some (.aload 0, .ref 1, []),
  some (.getfield 6, .ref 14, []),
  none,
  none,
  some (.iload 3, .ref 1, []),
  some (.baload, .null, []),
  some (.bastore, .null, []),
  some (.aload 0, .ref 1, []),
  some (.getfield 6, .ref 14, []),
  none,
  none,
  some (.iload 3, .ref 1, []),
  some (.baload, .null, []),
  some (.ifCond .eq 0, .ref 109, []),
  none,
  none,
  some (.aload 0, .ref 1, [true, true, true, true, false]),
  some (.getfield 6, .ref 37, []),
  none,
  none,
  some (.iload 3, .ref 1, []),
  some (.iload 1, .ref 1, []),
  some (.iastore, .null, []),
  some (.aload 0, .ref 1, []),
  some (.getfield 6, .ref 38, []),
  none,
  none,
  some (.iload 3, .ref 1, []),
  some (.aload 0, .ref 1, []),
  some (.getfield 6, .ref 30, []),
  none,
  none,
  some (.iload 3, .ref 1, []),
  some (.iaload, .null, []),
  some (.iastore, .null, []),
  some (.aload 0, .ref 1, []),
  some (.getfield 6, .ref 39, []),
  none,
  none,
  some (.iload 3, .ref 1, []),
  some (.aload 0, .ref 1, []),
  some (.getfield 6, .ref 31, []),
  none,
  none,
  some (.iload 3, .ref 1, []),
  some (.iaload, .null, []),
  some (.iastore, .null, []),
  some (.aload 0, .ref 1, []),
  some (.getfield 6, .ref 10, []),
  none,
  none,
  some (.iload 3, .ref 1, []),
  some (.iaload, .null, []),
  some (.istore 4, .ref 2, []),
  none,
  some (.iload 4, .ref 2, [true, true, true, true, true]),
  none,
  some (.aload 0, .ref 1, []),
  some (.getfield 6, .ref 11, []),
  none,
  none,
  some (.iload 3, .ref 1, []),
  some (.iaload, .null, []),
  some (.if_icmp .ge 0, .ref 109, []),
  none,
  none,
  some (.aload 0, .ref 1, [true, true, true, true, true]),
  some (.getfield 6, .ref 15, []),
  none,
  none,
  some (.iload 4, .ref 2, []),
  none,
  some (.iload 1, .ref 1, []),
  some (.iastore, .null, []),
  some (.iinc 1 0, .int 1, []),
  none,
  none,
  some (.iinc 4 0, .int 1, []),
  none,
  none,
  some (.goto 0, .ref 81, []),
  none,
  none,
  some (.iinc 2 0, .int 1, [true, true, true, false, false]),
  none,
  none,
  some (.goto 0, .ref 4, []),
  none,
  none,
  some (.aload 0, .ref 1, [true, true, false, false, false]),
  some (.iload 1, .ref 1, []),
  some (.putfield 6, .ref 33, []),
  none,
  none,
  some (.ldc 1, .int 0, []),
  some (.istore 2, .ref 1, []),
  some (.iload 2, .ref 1, [true, false, true, false, false]),
  some (.aload 0, .ref 1, []),
  some (.getfield 6, .ref 4, []),
  none,
  none,
  some (.if_icmp .ge 0, .ref 236, []),
  none,
  none,
  some (.aload 0, .ref 1, [true, false, true, false, false]),
  some (.getfield 6, .ref 5, []),
  none,
  none,
  some (.iload 2, .ref 1, []),
  some (.iaload, .null, []),
  some (.istore 3, .ref 1, []),
  some (.iload 3, .ref 1, []),
  some (.ldc 2, .int 13, []),
  none,
  some (.if_icmp .eq 0, .ref 155, []),
  none,
  none,
  some (.iload 3, .ref 1, [true, false, true, true, false]),
  some (.ldc 2, .int 14, []),
  none,
  some (.if_icmp .eq 0, .ref 155, []),
  none,
  none,
  some (.iload 3, .ref 1, [true, false, true, true, false]),
  some (.ldc 2, .int 15, []),
  none,
  some (.if_icmp .ne 0, .ref 159, []),
  none,
  none,
  some (.ldc 1, .int 1, [true, false, true, true, false]),
  some (.goto 0, .ref 160, []),
  none,
  none,
  some (.ldc 1, .int 0, [true, false, true, true, false]),
  some (.istore 4, .ref 2, [true, false, true, true, false]),
  none,
  some (.aload 0, .ref 1, []),
  some (.getfield 6, .ref 34, []),
  none,
  none,
  some (.aload 0, .ref 1, []),
  some (.getfield 6, .ref 15, []),
  none,
  none,
  some (.iload 2, .ref 1, []),
  some (.iaload, .null, []),
  some (.iload 3, .ref 1, []),
  some (.iastore, .null, []),
  some (.aload 0, .ref 1, []),
  some (.getfield 6, .ref 35, []),
  none,
  none,
  some (.aload 0, .ref 1, []),
  some (.getfield 6, .ref 15, []),
  none,
  none,
  some (.iload 2, .ref 1, []),
  some (.iaload, .null, []),
  some (.iload 3, .ref 1, []),
  some (.ldc 2, .int 17, []),
  none,
  some (.if_icmp .ne 0, .ref 204, []),
  none,
  none,
  some (.aload 0, .ref 1, [true, false, true, false, false]),
  some (.getfield 6, .ref 37, []),
  none,
  none,
  some (.aload 0, .ref 1, []),
  some (.getfield 6, .ref 6, []),
  none,
  none,
  some (.iload 2, .ref 1, []),
  some (.iaload, .null, []),
  some (.iaload, .null, []),
  some (.goto 0, .ref 229, []),
  none,
  none,
  some (.iload 4, .ref 2, [true, false, true, false, true]),
  none,
  some (.ifCond .eq 0, .ref 223, []),
  none,
  none,
  some (.aload 0, .ref 1, [true, false, true, false, false]),
  some (.getfield 6, .ref 15, []),
  none,
  none,
  some (.aload 0, .ref 1, []),
  some (.getfield 6, .ref 6, []),
  none,
  none,
  some (.iload 2, .ref 1, []),
  some (.iaload, .null, []),
  some (.iaload, .null, []),
  some (.goto 0, .ref 229, []),
  none,
  none,
  some (.aload 0, .ref 1, [true, false, true, false, false]),
  some (.getfield 6, .ref 6, []),
  none,
  none,
  some (.iload 2, .ref 1, []),
  some (.iaload, .null, []),
  some (.iastore, .null, [true, false, true, false, false]),
  some (.iinc 2 0, .int 1, []),
  none,
  none,
  some (.goto 0, .ref 122, []),
  none,
  none,
  some (.return_, .null, [false, false, false, false, false])]
/-- 104: TimedCompilerModel.compile()I -/
def xt_104 : List (Option xi_E) := [some (.aload 0, .ref 1, []),
  some (.aload 0, .ref 1, []),
  some (.invokeinterface 94 6, .ref 1, []),
  none,
  none,
  some (.ifCond .ne 0, .ref 12, []),
  none,
  none,
  some (.ldc 1, .int 1, [true]),
  some (.goto 0, .ref 31, []),
  none,
  none,
  some (.aload 0, .ref 1, [true]),
  some (.invokeinterface 101 6, .ref 1, []),
  none,
  none,
  some (.ifCond .eq 0, .ref 26, []),
  none,
  none,
  some (.aload 0, .ref 1, [true]),
  some (.invokeinterface 102 6, .ref 1, []),
  none,
  none,
  some (.ifCond .ne 0, .ref 30, []),
  none,
  none,
  some (.ldc 1, .int 2, [true]),
  some (.goto 0, .ref 31, []),
  none,
  none,
  some (.ldc 1, .int 0, [true]),
  some (.putfield 6, .ref 0, [true]),
  none,
  none,
  some (.aload 0, .ref 1, []),
  some (.getfield 6, .ref 0, []),
  none,
  none,
  some (.ifCond .le 0, .ref 43, []),
  none,
  none,
  some (.ldc 1, .int 0, [false]),
  some (.ireturn, .null, []),
  some (.aload 0, .ref 1, [true]),
  some (.invokeinterface 103 6, .ref 1, []),
  none,
  none,
  some (.aload 0, .ref 1, []),
  some (.ldc 1, .int 1, []),
  some (.putstatic 6, .ref 32, []),
  none,
  none,
  some (.aload 0, .ref 1, []),
  some (.ldc 1, .int 0, []),
  some (.putstatic 6, .ref 42, []),
  none,
  none,
  some (.aload 0, .ref 1, []),
  some (.ldc 1, .int 0, []),
  some (.putfield 6, .ref 46, []),
  none,
  none,
  some (.aload 0, .ref 1, []),
  some (.ldc 1, .int 0, []),
  some (.putfield 6, .ref 1, []),
  none,
  none,
  some (.aload 0, .ref 1, []),
  some (.getfield 6, .ref 33, []),
  none,
  none,
  some (.ireturn, .null, [])]
/-- 105: TimedCompilerModel.code(II)I -/
def xt_105 : List (Option xi_E) := [some (.aload 0, .ref 1, []),
  some (.aload 0, .ref 1, []),
  some (.getfield 6, .ref 32, []),
  none,
  none,
  some (.ifCond .eq 0, .ref 12, []),
  none,
  none,
  some (.ldc 1, .int 0, [true, true, true]),
  some (.goto 0, .ref 13, []),
  none,
  none,
  some (.ldc 1, .int 1, [true, true, true]),
  some (.putfield 6, .ref 0, [true, true, true]),
  none,
  none,
  some (.aload 0, .ref 1, []),
  some (.getfield 6, .ref 32, []),
  none,
  none,
  some (.ifCond .eq 0, .ref 44, []),
  none,
  none,
  some (.iload 1, .ref 1, [true, true, true]),
  some (.ifCond .lt 0, .ref 44, []),
  none,
  none,
  some (.iload 1, .ref 1, [true, true, true]),
  some (.aload 0, .ref 1, []),
  some (.getfield 6, .ref 33, []),
  none,
  none,
  some (.if_icmp .ge 0, .ref 44, []),
  none,
  none,
  some (.iload 2, .ref 1, [true, true, true]),
  some (.ifCond .lt 0, .ref 44, []),
  none,
  none,
  some (.iload 2, .ref 1, [true, true, true]),
  some (.ldc 1, .int 1, []),
  some (.if_icmp .le 0, .ref 57, []),
  none,
  none,
  some (.aload 0, .ref 1, [true, false, false]),
  some (.getfield 6, .ref 32, []),
  none,
  none,
  some (.ifCond .eq 0, .ref 55, []),
  none,
  none,
  some (.ldc 1, .int (-1), [false, false, false]),
  some (.goto 0, .ref 56, []),
  none,
  none,
  some (.ldc 1, .int 0, [false, false, false]),
  some (.ireturn, .null, [false, false, false]),
  some (.iload 2, .ref 1, [true, true, true]),
  some (.ifCond .ne 0, .ref 70, []),
  none,
  none,
  some (.aload 0, .ref 1, [true, true, false]),
  some (.getfield 6, .ref 34, []),
  none,
  none,
  some (.iload 1, .ref 1, []),
  some (.iaload, .null, []),
  some (.goto 0, .ref 76, []),
  none,
  none,
  some (.aload 0, .ref 1, [true, true, false]),
  some (.getfield 6, .ref 35, []),
  none,
  none,
  some (.iload 1, .ref 1, []),
  some (.iaload, .null, []),
  some (.ireturn, .null, [false, false, false])]
/-- 106: TimedCompilerModel.time()I -/
def xt_106 : List (Option xi_E) := [some (.aload 0, .ref 1, []),
  some (.aload 0, .ref 1, []),
  some (.getfield 6, .ref 32, []),
  none,
  none,
  some (.ifCond .eq 0, .ref 12, []),
  none,
  none,
  some (.ldc 1, .int 0, [true]),
  some (.goto 0, .ref 13, []),
  none,
  none,
  some (.ldc 1, .int 1, [true]),
  some (.putfield 6, .ref 0, [true]),
  none,
  none,
  some (.aload 0, .ref 1, []),
  some (.getfield 6, .ref 32, []),
  none,
  none,
  some (.ifCond .eq 0, .ref 32, []),
  none,
  none,
  some (.aload 0, .ref 1, [true]),
  some (.getfield 6, .ref 38, []),
  none,
  none,
  some (.ldc 1, .int 4, []),
  some (.iaload, .null, []),
  some (.goto 0, .ref 33, []),
  none,
  none,
  some (.ldc 1, .int 0, [false]),
  some (.ireturn, .null, [false])]
/-- 107: TimedCompilerModel.depth()I -/
def xt_107 : List (Option xi_E) := [some (.aload 0, .ref 1, []),
  some (.aload 0, .ref 1, []),
  some (.getfield 6, .ref 32, []),
  none,
  none,
  some (.ifCond .eq 0, .ref 12, []),
  none,
  none,
  some (.ldc 1, .int 0, [true]),
  some (.goto 0, .ref 13, []),
  none,
  none,
  some (.ldc 1, .int 1, [true]),
  some (.putfield 6, .ref 0, [true]),
  none,
  none,
  some (.aload 0, .ref 1, []),
  some (.getfield 6, .ref 32, []),
  none,
  none,
  some (.ifCond .eq 0, .ref 32, []),
  none,
  none,
  some (.aload 0, .ref 1, [true]),
  some (.getfield 6, .ref 39, []),
  none,
  none,
  some (.ldc 1, .int 4, []),
  some (.iaload, .null, []),
  some (.goto 0, .ref 33, []),
  none,
  none,
  some (.ldc 1, .int 0, [false]),
  some (.ireturn, .null, [false])]
/-- 108: TimedCompilerModel.procedure(II)I -/
def xt_108 : List (Option xi_E) := [some (.aload 0, .ref 1, []),
  some (.aload 0, .ref 1, []),
  some (.getfield 6, .ref 32, []),
  none,
  none,
  some (.ifCond .eq 0, .ref 12, []),
  none,
  none,
  some (.ldc 1, .int 0, [true, true, true]),
  some (.goto 0, .ref 13, []),
  none,
  none,
  some (.ldc 1, .int 1, [true, true, true]),
  some (.putfield 6, .ref 0, [true, true, true]),
  none,
  none,
  some (.aload 0, .ref 1, []),
  some (.getfield 6, .ref 32, []),
  none,
  none,
  some (.ifCond .eq 0, .ref 41, []),
  none,
  none,
  some (.iload 1, .ref 1, [true, true, true]),
  some (.ifCond .lt 0, .ref 41, []),
  none,
  none,
  some (.iload 1, .ref 1, [true, true, true]),
  some (.ldc 1, .int 3, []),
  some (.if_icmp .gt 0, .ref 41, []),
  none,
  none,
  some (.iload 2, .ref 1, [true, true, true]),
  some (.ifCond .lt 0, .ref 41, []),
  none,
  none,
  some (.iload 2, .ref 1, [true, true, true]),
  some (.ldc 1, .int 2, []),
  some (.if_icmp .le 0, .ref 54, []),
  none,
  none,
  some (.aload 0, .ref 1, [true, false, false]),
  some (.getfield 6, .ref 32, []),
  none,
  none,
  some (.ifCond .eq 0, .ref 52, []),
  none,
  none,
  some (.ldc 1, .int (-1), [false, false, false]),
  some (.goto 0, .ref 53, []),
  none,
  none,
  some (.ldc 1, .int 0, [false, false, false]),
  some (.ireturn, .null, [false, false, false]),
  some (.aload 0, .ref 1, [true, true, true]),
  some (.getfield 6, .ref 36, []),
  none,
  none,
  some (.iload 1, .ref 1, []),
  some (.baload, .null, []),
  some (.ifCond .ne 0, .ref 67, []),
  none,
  none,
  some (.ldc 1, .int (-1), [false, false, false]),
  some (.goto 0, .ref 100, []),
  none,
  none,
  some (.iload 2, .ref 1, [true, true, true]),
  some (.ifCond .ne 0, .ref 80, []),
  none,
  none,
  some (.aload 0, .ref 1, [true, true, false]),
  some (.getfield 6, .ref 37, []),
  none,
  none,
  some (.iload 1, .ref 1, []),
  some (.iaload, .null, []),
  some (.goto 0, .ref 100, []),
  none,
  none,
  some (.iload 2, .ref 1, [true, true, true]),
  some (.ldc 1, .int 1, []),
  some (.if_icmp .ne 0, .ref 94, []),
  none,
  none,
  some (.aload 0, .ref 1, [true, true, false]),
  some (.getfield 6, .ref 38, []),
  none,
  none,
  some (.iload 1, .ref 1, []),
  some (.iaload, .null, []),
  some (.goto 0, .ref 100, []),
  none,
  none,
  some (.aload 0, .ref 1, [true, true, false]),
  some (.getfield 6, .ref 39, []),
  none,
  none,
  some (.iload 1, .ref 1, []),
  some (.iaload, .null, []),
  some (.ireturn, .null, [false, false, false])]
/-- 109: TimedCompilerModel.set(II)Z -/
def xt_109 : List (Option xi_E) := [some (.aload 0, .ref 1, []),
  some (.ldc 1, .int 0, []),
  some (.putfield 6, .ref 0, []),
  none,
  none,
  some (.iload 1, .ref 1, []),
  some (.ifCond .lt 0, .ref 15, []),
  none,
  none,
  some (.iload 1, .ref 1, [true, true, true]),
  some (.ldc 2, .int 13, []),
  none,
  some (.if_icmp .le 0, .ref 17, []),
  none,
  none,
  some (.ldc 1, .int 0, [false, false, false]),
  some (.ireturn, .ref 1, []),
  some (.aload 0, .ref 1, [true, true, true]),
  some (.getfield 6, .ref 40, []),
  none,
  none,
  some (.iload 1, .ref 1, []),
  some (.iload 2, .ref 1, []),
  some (.iastore, .null, []),
  some (.ldc 1, .int 1, []),
  some (.ireturn, .ref 1, [])]
/-- 110: TimedCompilerModel.get(I)I -/
def xt_110 : List (Option xi_E) := [some (.aload 0, .ref 1, []),
  some (.iload 1, .ref 1, []),
  some (.ifCond .lt 0, .ref 11, []),
  none,
  none,
  some (.iload 1, .ref 1, [true, true]),
  some (.ldc 2, .int 13, []),
  none,
  some (.if_icmp .le 0, .ref 15, []),
  none,
  none,
  some (.ldc 1, .int 1, [true, true]),
  some (.goto 0, .ref 16, []),
  none,
  none,
  some (.ldc 1, .int 0, [true, true]),
  some (.putfield 6, .ref 0, [true, true]),
  none,
  none,
  some (.aload 0, .ref 1, []),
  some (.getfield 6, .ref 0, []),
  none,
  none,
  some (.ifCond .le 0, .ref 30, []),
  none,
  none,
  some (.ldc 1, .int 0, [false, false]),
  some (.goto 0, .ref 36, []),
  none,
  none,
  some (.aload 0, .ref 1, [true, true]),
  some (.getfield 6, .ref 40, []),
  none,
  none,
  some (.iload 1, .ref 1, []),
  some (.iaload, .null, []),
  some (.ireturn, .null, [false, false])]
/-- 111: TimedCompilerModel.apply(III)I -/
def xt_111 : List (Option xi_E) := [some (.iload 0, .ref 1, []),
  some (.lookupswitch 71 #[(5, 36), (6, 40), (7, 44), (8, 48), (9, 60)], .null, []),
  none,
  none,
  none,
  none,
  none,
  none,
  none,
  none,
  none,
  none,
  none,
  none,
  none,
  none,
  none,
  none,
  none,
  none,
  none,
  none,
  none,
  none,
  none,
  none,
  none,
  none,
  none,
  none,
  none,
  none,
  none,
  none,
  none,
  none,
  some (.iload 1, .ref 1, [false, true, true]),
  some (.iload 2, .ref 1, []),
  some (.iadd, .null, []),
  some (.ireturn, .null, []),
  some (.iload 1, .ref 1, [false, true, true]),
  some (.iload 2, .ref 1, []),
  some (.isub, .null, []),
  some (.ireturn, .null, []),
  some (.iload 1, .ref 1, [false, true, true]),
  some (.iload 2, .ref 1, []),
  some (.imul, .null, []),
  some (.ireturn, .null, []),
  some (.iload 2, .ref 1, [false, true, true]),
  some (.ifCond .ne 0, .ref 56, []),
  none,
  none,
  some (.ldc 1, .int 0, [false, false, false]),
  some (.goto 0, .ref 59, []),
  none,
  none,
  some (.iload 1, .ref 1, [false, true, true]),
  some (.iload 2, .ref 1, []),
  some (.idiv, .null, []),
  some (.ireturn, .null, [false, false, false]),
  some (.iload 1, .ref 1, [false, true, true]),
  some (.iload 2, .ref 1, []),
  some (.if_icmp .ge 0, .ref 69, []),
  none,
  none,
  some (.ldc 1, .int 1, [false, false, false]),
  some (.goto 0, .ref 70, []),
  none,
  none,
  some (.ldc 1, .int 0, [false, false, false]),
  some (.ireturn, .null, [false, false, false]),
  some (.iload 1, .ref 1, [false, true, true]),
  some (.iload 2, .ref 1, []),
  some (.if_icmp .ne 0, .ref 80, []),
  none,
  none,
  some (.ldc 1, .int 1, [false, false, false]),
  some (.goto 0, .ref 81, []),
  none,
  none,
  some (.ldc 1, .int 0, [false, false, false]),
  some (.ireturn, .null, [false, false, false])]
/-- 112: TimedCompilerModel.trap(II)I -/
def xt_112 : List (Option xi_E) := [some (.aload 0, .ref 1, []),
  some (.getfield 6, .ref 34, []),
  none,
  none,
  some (.iload 1, .ref 1, []),
  some (.iaload, .null, []),
  some (.istore 3, .ref 1, []),
  some (.iload 2, .ref 1, []),
  some (.ifCond .le 0, .ref 22, []),
  none,
  none,
  some (.aload 0, .ref 1, [true, true, true, true, false, false, false]),
  some (.getfield 6, .ref 41, []),
  none,
  none,
  some (.iload 2, .ref 1, []),
  some (.ldc 1, .int 1, []),
  some (.isub, .null, []),
  some (.iaload, .null, []),
  some (.goto 0, .ref 23, []),
  none,
  none,
  some (.ldc 1, .int 0, [true, true, true, true, false, false, false]),
  some (.istore 4, .ref 2, [true, true, true, true, false, false, false]),
  none,
  some (.iload 2, .ref 1, []),
  some (.ldc 1, .int 1, []),
  some (.if_icmp .le 0, .ref 41, []),
  none,
  none,
  some (.aload 0, .ref 1, [true, true, true, true, true, false, false]),
  some (.getfield 6, .ref 41, []),
  none,
  none,
  some (.iload 2, .ref 1, []),
  some (.ldc 1, .int 2, []),
  some (.isub, .null, []),
  some (.iaload, .null, []),
  some (.goto 0, .ref 42, []),
  none,
  none,
  some (.ldc 1, .int 0, [true, true, false, true, true, false, false]),
  some (.istore 5, .ref 2, [true, true, false, true, true, false, false]),
  none,
  some (.iload 3, .ref 1, []),
  some (.ldc 1, .int 4, []),
  some (.if_icmp .ne 0, .ref 54, []),
  none,
  none,
  some (.iload 5, .ref 2, [true, true, false, true, true, true, false]),
  none,
  some (.goto 0, .ref 56, []),
  none,
  none,
  some (.iload 4, .ref 2, [true, true, false, true, true, false, false]),
  none,
  some (.istore 6, .ref 2, [true, true, false, true, true, false, false]),
  none,
  some (.iload 3, .ref 1, []),
  some (.ldc 2, .int 8, []),
  none,
  some (.if_icmp .ne 0, .ref 73, []),
  none,
  none,
  some (.iload 4, .ref 2, [true, true, false, true, true, false, true]),
  none,
  some (.ifCond .ne 0, .ref 73, []),
  none,
  none,
  some (.ldc 1, .int 1, [false, false, false, false, false, false, false]),
  some (.goto 0, .ref 121, []),
  none,
  none,
  some (.iload 3, .ref 1, [true, true, false, true, true, false, true]),
  some (.ldc 1, .int 3, []),
  some (.if_icmp .eq 0, .ref 83, []),
  none,
  none,
  some (.iload 3, .ref 1, [true, true, false, true, true, false, true]),
  some (.ldc 1, .int 4, []),
  some (.if_icmp .ne 0, .ref 99, []),
  none,
  none,
  some (.iload 6, .ref 2, [true, true, false, true, true, false, true]),
  none,
  some (.ifCond .lt 0, .ref 95, []),
  none,
  none,
  some (.iload 6, .ref 2, [true, true, false, true, true, false, true]),
  none,
  some (.ldc 2, .int 7, []),
  none,
  some (.if_icmp .le 0, .ref 99, []),
  none,
  none,
  some (.ldc 1, .int 2, [false, false, false, false, false, false, false]),
  some (.goto 0, .ref 121, []),
  none,
  none,
  some (.iload 3, .ref 1, [true, true, false, true, true, false, false]),
  some (.ldc 2, .int 16, []),
  none,
  some (.if_icmp .ne 0, .ref 120, []),
  none,
  none,
  some (.iload 4, .ref 2, [true, true, false, false, true, false, false]),
  none,
  some (.aload 0, .ref 1, []),
  some (.getfield 6, .ref 35, []),
  none,
  none,
  some (.iload 1, .ref 1, []),
  some (.iaload, .null, []),
  some (.if_icmp .le 0, .ref 120, []),
  none,
  none,
  some (.ldc 1, .int 3, [false, false, false, false, false, false, false]),
  some (.goto 0, .ref 121, []),
  none,
  none,
  some (.ldc 1, .int 0, [false, false, false, false, false, false, false]),
  some (.ireturn, .null, [false, false, false, false, false, false, false])]
/-- 113: TimedCompilerModel.does(II)I -/
def xt_113 : List (Option xi_E) := [some (.aload 0, .ref 1, []),
  some (.getfield 6, .ref 34, []),
  none,
  none,
  some (.iload 1, .ref 1, []),
  some (.iaload, .null, []),
  some (.istore 3, .ref 1, []),
  some (.aload 0, .ref 1, []),
  some (.getfield 6, .ref 35, []),
  none,
  none,
  some (.iload 1, .ref 1, []),
  some (.iaload, .null, []),
  some (.istore 4, .ref 2, []),
  none,
  some (.iload 2, .ref 1, []),
  some (.ifCond .le 0, .ref 30, []),
  none,
  none,
  some (.aload 0, .ref 1, [true, false, true, true, true, false, false]),
  some (.getfield 6, .ref 41, []),
  none,
  none,
  some (.iload 2, .ref 1, []),
  some (.ldc 1, .int 1, []),
  some (.isub, .null, []),
  some (.iaload, .null, []),
  some (.goto 0, .ref 31, []),
  none,
  none,
  some (.ldc 1, .int 0, [true, false, true, true, true, false, false]),
  some (.istore 5, .ref 2, [true, false, true, true, true, false, false]),
  none,
  some (.iload 2, .ref 1, []),
  some (.ldc 1, .int 1, []),
  some (.if_icmp .le 0, .ref 49, []),
  none,
  none,
  some (.aload 0, .ref 1, [true, false, true, true, true, true, false]),
  some (.getfield 6, .ref 41, []),
  none,
  none,
  some (.iload 2, .ref 1, []),
  some (.ldc 1, .int 2, []),
  some (.isub, .null, []),
  some (.iaload, .null, []),
  some (.goto 0, .ref 50, []),
  none,
  none,
  some (.ldc 1, .int 0, [true, false, true, true, true, true, false]),
  some (.istore 6, .ref 2, [true, false, true, true, true, true, false]),
  none,
  some (.iload 3, .ref 1, []),
  some (.ifCond .eq 0, .ref 61, []),
  none,
  none,
  some (.iload 3, .ref 1, [true, false, true, true, true, true, true]),
  some (.ldc 1, .int 1, []),
  some (.if_icmp .ne 0, .ref 87, []),
  none,
  none,
  some (.aload 0, .ref 1, [true, false, true, true, true, false, false]),
  some (.getfield 6, .ref 41, []),
  none,
  none,
  some (.iload 2, .ref 1, []),
  some (.iload 3, .ref 1, []),
  some (.ifCond .ne 0, .ref 75, []),
  none,
  none,
  some (.iload 4, .ref 2, [false, false, true, false, true, false, false]),
  none,
  some (.goto 0, .ref 82, []),
  none,
  none,
  some (.aload 0, .ref 1, [true, false, true, false, true, false, false]),
  some (.getfield 6, .ref 40, []),
  none,
  none,
  some (.iload 4, .ref 2, []),
  none,
  some (.iaload, .null, []),
  some (.iastore, .null, [false, false, true, false, false, false, false]),
  some (.iload 2, .ref 1, []),
  some (.ldc 1, .int 1, []),
  some (.iadd, .null, []),
  some (.ireturn, .null, []),
  some (.iload 3, .ref 1, [true, false, true, true, true, true, true]),
  some (.ldc 1, .int 3, []),
  some (.if_icmp .eq 0, .ref 104, []),
  none,
  none,
  some (.iload 3, .ref 1, [true, false, true, true, true, true, true]),
  some (.ldc 2, .int 11, []),
  none,
  some (.if_icmp .eq 0, .ref 104, []),
  none,
  none,
  some (.iload 3, .ref 1, [true, false, true, true, true, true, true]),
  some (.ldc 2, .int 16, []),
  none,
  some (.if_icmp .ne 0, .ref 155, []),
  none,
  none,
  some (.aload 0, .ref 1, [true, false, true, true, false, true, false]),
  some (.getfield 6, .ref 41, []),
  none,
  none,
  some (.iload 2, .ref 1, []),
  some (.ldc 1, .int 1, []),
  some (.isub, .null, []),
  some (.iload 3, .ref 1, []),
  some (.ldc 1, .int 3, []),
  some (.if_icmp .ne 0, .ref 129, []),
  none,
  none,
  some (.aload 0, .ref 1, [true, false, true, false, false, true, false]),
  some (.getfield 6, .ref 40, []),
  none,
  none,
  some (.ldc 2, .int 6, []),
  none,
  some (.iload 5, .ref 2, []),
  none,
  some (.iadd, .null, []),
  some (.iaload, .null, []),
  some (.goto 0, .ref 152, []),
  none,
  none,
  some (.iload 3, .ref 1, [false, false, true, true, false, true, false]),
  some (.ldc 2, .int 11, []),
  none,
  some (.if_icmp .ne 0, .ref 141, []),
  none,
  none,
  some (.iload 5, .ref 2, [false, false, true, false, false, true, false]),
  none,
  some (.ineg, .null, []),
  some (.goto 0, .ref 152, []),
  none,
  none,
  some (.iload 5, .ref 2, [false, false, true, false, false, true, false]),
  none,
  some (.ifCond .ge 0, .ref 150, []),
  none,
  none,
  some (.ldc 1, .int 0, [false, false, true, false, false, false, false]),
  some (.goto 0, .ref 152, []),
  none,
  none,
  some (.iload 5, .ref 2, [false, false, true, false, false, true, false]),
  none,
  some (.iastore, .null, [false, false, true, false, false, false, false]),
  some (.iload 2, .ref 1, []),
  some (.ireturn, .null, []),
  some (.iload 3, .ref 1, [true, false, true, true, true, true, true]),
  some (.ldc 1, .int 2, []),
  some (.if_icmp .ne 0, .ref 173, []),
  none,
  none,
  some (.aload 0, .ref 1, [true, false, true, false, true, true, false]),
  some (.getfield 6, .ref 40, []),
  none,
  none,
  some (.iload 4, .ref 2, []),
  none,
  some (.iload 5, .ref 2, []),
  none,
  some (.iastore, .null, []),
  some (.iload 2, .ref 1, []),
  some (.ldc 1, .int 1, []),
  some (.isub, .null, []),
  some (.ireturn, .null, []),
  some (.iload 3, .ref 1, [true, false, true, true, false, true, true]),
  some (.ldc 1, .int 4, []),
  some (.if_icmp .ne 0, .ref 194, []),
  none,
  none,
  some (.aload 0, .ref 1, [true, false, true, false, false, true, true]),
  some (.getfield 6, .ref 40, []),
  none,
  none,
  some (.ldc 2, .int 6, []),
  none,
  some (.iload 6, .ref 2, []),
  none,
  some (.iadd, .null, []),
  some (.iload 5, .ref 2, []),
  none,
  some (.iastore, .null, []),
  some (.iload 2, .ref 1, []),
  some (.ldc 1, .int 2, []),
  some (.isub, .null, []),
  some (.ireturn, .null, []),
  some (.iload 3, .ref 1, [true, false, true, true, false, true, true]),
  some (.ldc 2, .int 12, []),
  none,
  some (.if_icmp .ne 0, .ref 234, []),
  none,
  none,
  some (.aload 0, .ref 1, [true, false, true, false, false, true, false]),
  some (.getfield 6, .ref 46, []),
  none,
  none,
  some (.ldc 2, .int 32, []),
  none,
  some (.if_icmp .ge 0, .ref 220, []),
  none,
  none,
  some (.aload 0, .ref 1, [true, false, true, false, false, true, false]),
  some (.getfield 6, .ref 47, []),
  none,
  none,
  some (.aload 0, .ref 1, []),
  some (.getfield 6, .ref 46, []),
  none,
  none,
  some (.iload 5, .ref 2, []),
  none,
  some (.iastore, .null, []),
  some (.aload 0, .ref 1, [true, false, true, false, false, false, false]),
  some (.dup, .null, []),
  some (.getfield 6, .ref 46, []),
  none,
  none,
  some (.ldc 1, .int 1, []),
  some (.iadd, .null, []),
  some (.putfield 6, .ref 46, []),
  none,
  none,
  some (.iload 2, .ref 1, []),
  some (.ldc 1, .int 1, []),
  some (.isub, .null, []),
  some (.ireturn, .null, []),
  some (.aload 0, .ref 1, [true, false, true, true, false, true, true]),
  some (.getfield 6, .ref 41, []),
  none,
  none,
  some (.iload 2, .ref 1, []),
  some (.ldc 1, .int 2, []),
  some (.isub, .null, []),
  some (.iload 3, .ref 1, []),
  some (.iload 6, .ref 2, []),
  none,
  some (.iload 5, .ref 2, []),
  none,
  some (.invokestatic 111, .ref 3, []),
  none,
  none,
  some (.iastore, .null, []),
  some (.iload 2, .ref 1, []),
  some (.ldc 1, .int 1, []),
  some (.isub, .null, []),
  some (.ireturn, .null, [])]
/-- 114: TimedCompilerModel.run()I -/
def xt_114 : List (Option xi_E) := [some (.aload 0, .ref 1, []),
  some (.aload 0, .ref 1, []),
  some (.getfield 6, .ref 32, []),
  none,
  none,
  some (.ifCond .eq 0, .ref 12, []),
  none,
  none,
  some (.ldc 1, .int 0, [true, false, false, false, false, false]),
  some (.goto 0, .ref 13, []),
  none,
  none,
  some (.ldc 1, .int 1, [true, false, false, false, false, false]),
  some (.putfield 6, .ref 0, [true, false, false, false, false, false]),
  none,
  none,
  some (.aload 0, .ref 1, []),
  some (.getfield 6, .ref 32, []),
  none,
  none,
  some (.ifCond .ne 0, .ref 25, []),
  none,
  none,
  some (.ldc 1, .int 0, [false, false, false, false, false, false]),
  some (.ireturn, .null, []),
  some (.aload 0, .ref 1, [true, false, false, false, false, false]),
  some (.ldc 1, .int 1, []),
  some (.putstatic 6, .ref 42, []),
  none,
  none,
  some (.aload 0, .ref 1, []),
  some (.ldc 1, .int 0, []),
  some (.putfield 6, .ref 43, []),
  none,
  none,
  some (.aload 0, .ref 1, []),
  some (.ldc 1, .int 0, []),
  some (.putfield 6, .ref 44, []),
  none,
  none,
  some (.aload 0, .ref 1, []),
  some (.ldc 1, .int 0, []),
  some (.putfield 6, .ref 46, []),
  none,
  none,
  some (.ldc 1, .int 0, []),
  some (.istore 1, .ref 1, []),
  some (.ldc 1, .int 0, []),
  some (.istore 2, .ref 1, []),
  some (.aload 0, .ref 1, [true, true, true, false, false, false]),
  some (.getfield 6, .ref 34, []),
  none,
  none,
  some (.iload 2, .ref 1, []),
  some (.iaload, .null, []),
  some (.ldc 2, .int 19, []),
  none,
  some (.if_icmp .eq 0, .ref 356, []),
  none,
  none,
  some (.aload 0, .ref 1, [true, true, true, false, false, false]),
  some (.getfield 6, .ref 34, []),
  none,
  none,
  some (.iload 2, .ref 1, []),
  some (.iaload, .null, []),
  some (.istore 3, .ref 1, []),
  some (.iload 1, .ref 1, []),
  some (.ifCond .le 0, .ref 82, []),
  none,
  none,
  some (.aload 0, .ref 1, [true, true, true, true, false, false]),
  some (.getfield 6, .ref 41, []),
  none,
  none,
  some (.iload 1, .ref 1, []),
  some (.ldc 1, .int 1, []),
  some (.isub, .null, []),
  some (.iaload, .null, []),
  some (.goto 0, .ref 83, []),
  none,
  none,
  some (.ldc 1, .int 0, [true, true, true, true, false, false]),
  some (.istore 4, .ref 2, [true, true, true, true, false, false]),
  none,
  some (.aload 0, .ref 1, []),
  some (.iload 2, .ref 1, []),
  some (.iload 1, .ref 1, []),
  some (.invokeinterface 112 6, .ref 3, []),
  none,
  none,
  some (.istore 5, .ref 2, []),
  none,
  some (.iload 5, .ref 2, []),
  none,
  some (.ifCond .le 0, .ref 119, []),
  none,
  none,
  some (.aload 0, .ref 1, [true, false, true, true, false, true]),
  some (.dup, .null, []),
  some (.getfield 6, .ref 43, []),
  none,
  none,
  some (.iload 3, .ref 1, []),
  some (.invokestatic 95, .ref 1, []),
  none,
  none,
  some (.iadd, .null, []),
  some (.putfield 6, .ref 43, []),
  none,
  none,
  some (.aload 0, .ref 1, []),
  some (.iload 2, .ref 1, []),
  some (.putfield 6, .ref 45, []),
  none,
  none,
  some (.iload 5, .ref 2, []),
  none,
  some (.ireturn, .null, []),
  some (.iload 3, .ref 1, [true, true, true, true, true, false]),
  some (.ldc 2, .int 13, []),
  none,
  some (.if_icmp .eq 0, .ref 131, []),
  none,
  none,
  some (.iload 3, .ref 1, [true, true, true, true, true, false]),
  some (.ldc 2, .int 15, []),
  none,
  some (.if_icmp .ne 0, .ref 213, []),
  none,
  none,
  some (.aload 0, .ref 1, [true, true, true, true, true, false]),
  some (.dup, .null, []),
  some (.getfield 6, .ref 43, []),
  none,
  none,
  some (.iload 4, .ref 2, []),
  none,
  some (.ifCond .ne 0, .ref 145, []),
  none,
  none,
  some (.ldc 1, .int 3, [true, true, true, true, true, false]),
  some (.goto 0, .ref 146, []),
  none,
  none,
  some (.ldc 1, .int 1, [true, true, true, true, true, false]),
  some (.iadd, .null, [true, true, true, true, true, false]),
  some (.putfield 6, .ref 43, []),
  none,
  none,
  some (.iload 3, .ref 1, []),
  some (.ldc 2, .int 13, []),
  none,
  some (.if_icmp .eq 0, .ref 161, []),
  none,
  none,
  some (.iload 4, .ref 2, [true, true, true, true, true, false]),
  none,
  some (.ifCond .ne 0, .ref 167, []),
  none,
  none,
  some (.iload 1, .ref 1, [true, true, true, true, true, false]),
  some (.ldc 1, .int 1, []),
  some (.isub, .null, []),
  some (.goto 0, .ref 168, []),
  none,
  none,
  some (.iload 1, .ref 1, [true, true, true, true, true, false]),
  some (.istore 1, .ref 1, [true, false, true, true, true, false]),
  some (.iload 3, .ref 1, []),
  some (.ldc 2, .int 15, []),
  none,
  some (.if_icmp .ne 0, .ref 192, []),
  none,
  none,
  some (.iload 4, .ref 2, [true, true, true, false, true, false]),
  none,
  some (.ifCond .eq 0, .ref 192, []),
  none,
  none,
  some (.aload 0, .ref 1, [true, true, true, false, true, false]),
  some (.getfield 6, .ref 41, []),
  none,
  none,
  some (.iload 1, .ref 1, []),
  some (.ldc 1, .int 1, []),
  some (.isub, .null, []),
  some (.iload 4, .ref 2, []),
  none,
  some (.ldc 1, .int 1, []),
  some (.isub, .null, []),
  some (.iastore, .null, []),
  some (.iload 4, .ref 2, [true, true, true, false, true, false]),
  none,
  some (.ifCond .ne 0, .ref 206, []),
  none,
  none,
  some (.aload 0, .ref 1, [true, true, true, false, false, false]),
  some (.getfield 6, .ref 35, []),
  none,
  none,
  some (.iload 2, .ref 1, []),
  some (.iaload, .null, []),
  some (.goto 0, .ref 209, []),
  none,
  none,
  some (.iload 2, .ref 1, [true, true, true, false, false, false]),
  some (.ldc 1, .int 1, []),
  some (.iadd, .null, []),
  some (.istore 2, .ref 1, [true, true, false, false, false, false]),
  some (.goto 0, .ref 341, []),
  none,
  none,
  some (.iload 3, .ref 1, [true, true, true, true, true, false]),
  some (.ldc 2, .int 14, []),
  none,
  some (.if_icmp .eq 0, .ref 225, []),
  none,
  none,
  some (.iload 3, .ref 1, [true, true, true, true, true, false]),
  some (.ldc 2, .int 18, []),
  none,
  some (.if_icmp .ne 0, .ref 280, []),
  none,
  none,
  some (.aload 0, .ref 1, [true, true, true, true, true, false]),
  some (.dup, .null, []),
  some (.getfield 6, .ref 43, []),
  none,
  none,
  some (.iload 3, .ref 1, []),
  some (.ldc 2, .int 14, []),
  none,
  some (.if_icmp .ne 0, .ref 240, []),
  none,
  none,
  some (.ldc 1, .int 2, [true, true, true, true, true, false]),
  some (.goto 0, .ref 241, []),
  none,
  none,
  some (.ldc 1, .int 3, [true, true, true, true, true, false]),
  some (.iadd, .null, [true, true, true, true, true, false]),
  some (.putfield 6, .ref 43, []),
  none,
  none,
  some (.iload 3, .ref 1, []),
  some (.ldc 2, .int 14, []),
  none,
  some (.if_icmp .ne 0, .ref 255, []),
  none,
  none,
  some (.iload 1, .ref 1, [true, true, true, true, true, false]),
  some (.goto 0, .ref 258, []),
  none,
  none,
  some (.iload 1, .ref 1, [true, true, true, true, true, false]),
  some (.ldc 1, .int 1, []),
  some (.isub, .null, []),
  some (.istore 1, .ref 1, [true, false, true, true, true, false]),
  some (.iload 3, .ref 1, []),
  some (.ldc 2, .int 14, []),
  none,
  some (.if_icmp .ne 0, .ref 274, []),
  none,
  none,
  some (.aload 0, .ref 1, [true, true, true, false, false, false]),
  some (.getfield 6, .ref 35, []),
  none,
  none,
  some (.iload 2, .ref 1, []),
  some (.iaload, .null, []),
  some (.goto 0, .ref 276, []),
  none,
  none,
  some (.iload 4, .ref 2, [true, true, false, false, true, false]),
  none,
  some (.istore 2, .ref 1, [true, true, false, false, false, false]),
  some (.goto 0, .ref 341, []),
  none,
  none,
  some (.iload 3, .ref 1, [true, true, true, true, false, false]),
  some (.ldc 2, .int 17, []),
  none,
  some (.if_icmp .ne 0, .ref 318, []),
  none,
  none,
  some (.aload 0, .ref 1, [true, true, true, false, false, false]),
  some (.dup, .null, []),
  some (.getfield 6, .ref 43, []),
  none,
  none,
  some (.ldc 1, .int 4, []),
  some (.iadd, .null, []),
  some (.putfield 6, .ref 43, []),
  none,
  none,
  some (.aload 0, .ref 1, []),
  some (.getfield 6, .ref 41, []),
  none,
  none,
  some (.iload 1, .ref 1, []),
  some (.iload 2, .ref 1, []),
  some (.ldc 1, .int 1, []),
  some (.iadd, .null, []),
  some (.iastore, .null, []),
  some (.iinc 1 0, .int 1, []),
  none,
  none,
  some (.aload 0, .ref 1, []),
  some (.getfield 6, .ref 35, []),
  none,
  none,
  some (.iload 2, .ref 1, []),
  some (.iaload, .null, []),
  some (.istore 2, .ref 1, []),
  some (.goto 0, .ref 341, []),
  none,
  none,
  some (.aload 0, .ref 1, [true, true, true, true, false, false]),
  some (.dup, .null, []),
  some (.getfield 6, .ref 43, []),
  none,
  none,
  some (.iload 3, .ref 1, []),
  some (.invokestatic 95, .ref 1, []),
  none,
  none,
  some (.iadd, .null, []),
  some (.putfield 6, .ref 43, []),
  none,
  none,
  some (.aload 0, .ref 1, []),
  some (.iload 2, .ref 1, []),
  some (.iload 1, .ref 1, []),
  some (.invokeinterface 113 6, .ref 3, []),
  none,
  none,
  some (.istore 1, .ref 1, []),
  some (.iinc 2 0, .int 1, []),
  none,
  none,
  some (.aload 0, .ref 1, [true, true, true, false, false, false]),
  some (.aload 0, .ref 1, []),
  some (.getfield 6, .ref 44, []),
  none,
  none,
  some (.iload 1, .ref 1, []),
  some (.invokestatic 98, .ref 2, []),
  none,
  none,
  some (.putfield 6, .ref 44, []),
  none,
  none,
  some (.goto 0, .ref 49, []),
  none,
  none,
  some (.aload 0, .ref 1, [true, false, true, false, false, false]),
  some (.iload 2, .ref 1, []),
  some (.putfield 6, .ref 45, []),
  none,
  none,
  some (.ldc 1, .int 0, []),
  some (.ireturn, .null, [])]
/-- 115: TimedCompilerModel.latest(I)I -/
def xt_115 : List (Option xi_E) := [some (.aload 0, .ref 1, []),
  some (.ldc 1, .int 0, []),
  some (.putfield 6, .ref 0, []),
  none,
  none,
  some (.aload 0, .ref 1, []),
  some (.getfield 6, .ref 42, []),
  none,
  none,
  some (.ifCond .eq 0, .ref 21, []),
  none,
  none,
  some (.iload 1, .ref 1, [true, true]),
  some (.ifCond .lt 0, .ref 21, []),
  none,
  none,
  some (.iload 1, .ref 1, [true, true]),
  some (.ldc 1, .int 3, []),
  some (.if_icmp .le 0, .ref 25, []),
  none,
  none,
  some (.ldc 1, .int (-1), [false, false]),
  some (.goto 0, .ref 64, []),
  none,
  none,
  some (.iload 1, .ref 1, [true, true]),
  some (.ifCond .ne 0, .ref 36, []),
  none,
  none,
  some (.aload 0, .ref 1, [true, false]),
  some (.getfield 6, .ref 43, []),
  none,
  none,
  some (.goto 0, .ref 64, []),
  none,
  none,
  some (.iload 1, .ref 1, [true, true]),
  some (.ldc 1, .int 1, []),
  some (.if_icmp .ne 0, .ref 48, []),
  none,
  none,
  some (.aload 0, .ref 1, [true, false]),
  some (.getfield 6, .ref 44, []),
  none,
  none,
  some (.goto 0, .ref 64, []),
  none,
  none,
  some (.iload 1, .ref 1, [true, true]),
  some (.ldc 1, .int 2, []),
  some (.if_icmp .ne 0, .ref 60, []),
  none,
  none,
  some (.aload 0, .ref 1, [true, false]),
  some (.getfield 6, .ref 45, []),
  none,
  none,
  some (.goto 0, .ref 64, []),
  none,
  none,
  some (.aload 0, .ref 1, [true, false]),
  some (.getfield 6, .ref 46, []),
  none,
  none,
  some (.ireturn, .null, [false, false])]
/-- 116: TimedCompilerModel.output(I)I -/
def xt_116 : List (Option xi_E) := [some (.aload 0, .ref 1, []),
  some (.iload 1, .ref 1, []),
  some (.ifCond .lt 0, .ref 19, []),
  none,
  none,
  some (.iload 1, .ref 1, [true, true]),
  some (.aload 0, .ref 1, []),
  some (.getfield 6, .ref 46, []),
  none,
  none,
  some (.if_icmp .ge 0, .ref 19, []),
  none,
  none,
  some (.iload 1, .ref 1, [true, true]),
  some (.ldc 2, .int 32, []),
  none,
  some (.if_icmp .lt 0, .ref 23, []),
  none,
  none,
  some (.ldc 1, .int 1, [true, true]),
  some (.goto 0, .ref 24, []),
  none,
  none,
  some (.ldc 1, .int 0, [true, true]),
  some (.putfield 6, .ref 0, [true, true]),
  none,
  none,
  some (.aload 0, .ref 1, []),
  some (.getfield 6, .ref 0, []),
  none,
  none,
  some (.ifCond .le 0, .ref 38, []),
  none,
  none,
  some (.ldc 1, .int 0, [false, false]),
  some (.goto 0, .ref 44, []),
  none,
  none,
  some (.aload 0, .ref 1, [true, true]),
  some (.getfield 6, .ref 47, []),
  none,
  none,
  some (.iload 1, .ref 1, []),
  some (.iaload, .null, []),
  some (.ireturn, .null, [false, false])]
def xi_tbs : List (Nat × List (Option xi_E)) := [(3, xt_0), (1, xt_1), (1, xt_2), (1, xt_3), (3, xt_4), (1, xt_5), (1, xt_6), (3, xt_7), (3, xt_8), (2, xt_9), (1, xt_10), (2, xt_11), (2, xt_12), (1, xt_13), (2, xt_14), (3, xt_15), (2, xt_16), (2, xt_17), (3, xt_18), (3, xt_19), (3, xt_20), (4, xt_21), (4, xt_22), (5, xt_23), (2, xt_24), (4, xt_25), (4, xt_26), (4, xt_27), (3, xt_28), (6, xt_29), (5, xt_30), (2, xt_31), (1, xt_32), (1, xt_33), (2, xt_34), (2, xt_35), (4, xt_36), (2, xt_37), (2, xt_38), (4, xt_39), (2, xt_40), (2, xt_41), (4, xt_42), (2, xt_43), (1, xt_44), (2, xt_45), (3, xt_46), (3, xt_47), (3, xt_48), (5, xt_49), (5, xt_50), (7, xt_51), (8, xt_52), (4, xt_53), (2, xt_54), (7, xt_55), (5, xt_56), (1, xt_57), (4, xt_58), (5, xt_59), (3, xt_60), (1, xt_61), (6, xt_62), (3, xt_63), (4, xt_64), (2, xt_65), (2, xt_66), (2, xt_67), (3, xt_68), (2, xt_69), (1, xt_70), (3, xt_71), (1, xt_72), (6, xt_73), (1, xt_74), (1, xt_75), (1, xt_76), (2, xt_77), (1, xt_78), (3, xt_79), (3, xt_80), (1, xt_81), (1, xt_82), (2, xt_83), (1, xt_84), (3, xt_85), (5, xt_86), (8, xt_87), (3, xt_88), (3, xt_89), (3, xt_90), (3, xt_91), (3, xt_92), (3, xt_93), (3, xt_94), (1, xt_95), (1, xt_96), (1, xt_97), (2, xt_98), (8, xt_99), (5, xt_100), (6, xt_101), (3, xt_102), (5, xt_103), (1, xt_104), (3, xt_105), (1, xt_106), (1, xt_107), (3, xt_108), (3, xt_109), (2, xt_110), (3, xt_111), (7, xt_112), (7, xt_113), (6, xt_114), (2, xt_115), (2, xt_116)]
def xh_0 : List Nat := [0, 230, 155, 0, 247, 0]
def xh_1 : List Nat := [0, 230, 155, 0, 96, 0]
def xh_2 : List Nat := [0, 230, 155, 96, 0]
def xh_3 : List Nat := [0, 230, 279, 0, 0, 230, 443, 0, 231, 0, 230, 157, 455, 0, 0, 232, 0, 230, 157, 531, 0, 230, 155, 0, 96, 0, 233, 538, 0, 232, 123, 0]
def xh_4 : List Nat := [0, 550, 0, 0, 0, 0, 232, 123, 0, 0, 0, 0, 0, 0, 232, 116, 0, 0, 0, 0, 232, 120, 0, 0, 0, 0, 0]
def xh_5 : List Nat := [0, 550, 0, 232, 134, 0, 0, 0]
def xh_6 : List Nat := [0, 550, 0, 232, 137, 0, 0, 0]
def xh_7 : List Nat := [0, 550, 0, 0, 0, 0, 0, 0, 232, 0, 590, 0, 0, 0, 0, 0, 0, 232, 128, 0, 0, 0, 0, 232, 134, 0, 0, 0, 0, 232, 137, 0, 0, 0, 0, 0]
def xh_8 : List Nat := [0, 0, 0, 0, 0, 0, 0, 0, 233, 196, 0, 0, 0, 0, 0]
def xh_9 : List Nat := [0, 0, 0, 0, 0, 0, 233, 196, 0, 0, 0]
def xh_10 : List Nat := [0, 550, 0, 233, 0, 232, 621, 0]
def xh_11 : List Nat := [0, 233, 202, 0, 0, 0, 0, 0, 0, 233, 204, 0, 0, 233, 206, 0, 0, 233, 208, 0, 0, 233, 210, 0, 0, 0]
def xh_12 : List Nat := [0, 0, 0, 0, 0, 0, 0, 233, 210, 0, 0, 233, 198, 0, 0, 0]
def xh_13 : List Nat := [0, 232, 123, 0, 0]
def xh_14 : List Nat := [0, 154, 0, 97, 0, 156, 287, 0, 0, 0, 0, 0, 0, 158, 0, 0, 0, 0, 0, 0, 0, 0, 0, 0, 0, 159, 0, 0, 0, 0, 0, 0]
def xh_15 : List Nat := [0, 283, 0, 0, 0, 0, 0, 0, 154, 0, 0, 291, 0, 0, 0, 0, 0, 0, 158, 0, 0, 0, 0, 0, 0, 0, 158, 0, 0, 154, 97, 0, 0, 0, 299, 0, 0, 0, 0, 0, 0, 158, 0, 0, 154, 97, 0, 0, 0, 299, 0, 0, 154, 371, 0, 0, 375, 0, 0, 0, 0, 0]
def xh_16 : List Nat := [0, 0, 0, 0, 0, 0, 159, 0, 0, 0, 0, 158, 0, 0, 0, 0, 0, 0, 0, 0, 0, 0]
def xh_17 : List Nat := [0, 156, 287, 0, 0, 0, 447, 0, 0, 0, 0, 0, 0, 158, 0, 0, 0, 0, 0, 0, 0, 447, 0, 0, 0, 156, 451, 0]
def xh_18 : List Nat := [0, 154, 0, 158, 0, 0, 97, 0, 156, 127, 0, 0, 156, 124, 0, 0, 0, 299, 0, 0, 156, 131, 0, 0, 156, 0, 0, 340, 0, 0]
def xh_19 : List Nat := [0, 156, 0, 0, 340, 0, 0, 0]
def xh_20 : List Nat := [0, 0, 0, 0, 154, 0, 303, 0, 0, 0, 0, 0, 0, 0, 0, 0, 154, 0, 311, 0, 0, 0, 312, 0, 0, 0, 0, 0, 0, 154, 0, 303, 0]
def xh_21 : List Nat := [0, 154, 0, 303, 0, 0, 0, 316, 0, 0, 154, 0, 303, 0, 0, 0, 0, 336, 0, 0, 0, 0, 0, 0, 154, 0, 303, 0, 0, 0, 355, 0, 0, 154, 0, 303, 0, 0, 0, 363, 0, 0, 154, 0, 303, 0, 0, 0, 0, 0, 0, 332, 0, 0, 154, 0, 303, 0, 0, 0, 316, 0, 0, 154, 0, 303, 0, 0, 0, 0, 336, 0, 0, 0, 0, 0, 0, 154, 0, 0, 291, 0, 0, 0, 0, 0, 154, 0, 303, 0, 0, 0, 316, 0, 0, 154, 0, 303, 0, 0, 0, 0, 336, 0, 0, 0, 0, 0, 0, 154, 0, 0, 291, 0, 0, 0, 0, 0, 159, 0, 0, 0, 0, 154, 0, 303, 0, 0, 0, 0, 336, 0, 0, 0, 0, 0, 0, 0]
def xh_22 : List Nat := [0, 0, 316, 0, 0, 0, 0, 156, 0, 0, 340, 0, 0, 0, 0, 0, 299, 0, 0, 0, 0, 154, 0, 311, 0, 0, 156, 0, 359, 0, 0, 0, 156, 0, 0, 340, 0, 0, 156, 0, 359, 0, 0, 0, 0, 299, 0, 0, 0, 0, 156, 0, 359, 0, 0]
def xh_23 : List Nat := [0, 0, 0, 154, 367, 0, 0, 0, 0, 0, 320, 0, 0, 154, 0, 303, 0, 0, 0, 0, 154, 344, 0, 0, 0, 0, 0, 0, 0, 0, 0, 0, 156, 0, 0, 340, 0, 0, 156, 0, 0, 340, 0, 0, 0, 0, 0, 299, 0, 0, 0, 0, 156, 0, 0, 340, 0, 0, 156, 0, 359, 0, 0]
def xh_24 : List Nat := [0, 0, 320, 0, 0, 0, 0, 154, 0, 303, 0, 0, 0, 320, 0, 0, 0, 0, 336, 0, 0, 0, 0, 0, 0, 154, 0, 303, 0, 0, 0, 320, 0, 0, 0, 0, 336, 0, 0, 0, 0, 0, 0, 0]
def xh_25 : List Nat := [0, 0, 324, 0, 0, 0, 0, 0, 0, 0, 0, 0, 154, 0, 303, 0, 0, 0, 0, 154, 0, 303, 0, 0, 0, 0, 0, 0, 0, 0, 0, 0, 0, 0, 324, 0, 0, 0, 0, 156, 0, 0, 340, 0, 0, 0, 0, 0]
def xh_26 : List Nat := [0, 0, 328, 0, 0, 0, 0, 0, 0, 0, 0, 0, 154, 0, 303, 0, 0, 0, 0, 154, 0, 303, 0, 0, 0, 0, 0, 0, 0, 0, 0, 0, 0, 0, 328, 0, 0, 0, 0, 156, 0, 0, 340, 0, 0, 0, 0, 0]
def xh_27 : List Nat := [0, 154, 0, 303, 0, 0, 0, 0, 0, 0, 332, 0, 0, 154, 0, 303, 0, 0, 0, 0, 0, 0, 332, 0, 0, 0, 0, 336, 0, 0, 0, 0, 0, 0, 154, 0, 303, 0, 0, 0, 0, 0, 0, 0, 0, 328, 0, 0, 0, 0, 336, 0, 0, 0, 0, 0, 0, 154, 0, 0, 291, 0, 0, 0, 0, 0, 0, 0, 336, 0, 0, 154, 344, 0, 0, 0, 0, 0, 0, 0, 336, 0, 0, 0, 0, 0]
def xh_28 : List Nat := [0, 0, 0, 0, 0, 316, 0, 0, 154, 0, 303, 0, 0, 0, 0, 0]
def xh_29 : List Nat := [0, 251, 0, 0, 0, 0, 0, 95, 0, 0, 0, 0, 0, 0, 0, 0, 0, 0, 0, 0, 0, 0, 0, 0, 0, 0, 0, 0, 95, 0, 0, 0, 94, 0, 95, 0, 0, 0, 0, 0, 95, 0, 0, 95, 0, 0, 0, 0]
def xh_30 : List Nat := [0, 0, 0, 0, 0, 0, 0, 0, 0, 0, 0, 0, 0, 0, 0, 0, 0, 0, 0, 0, 0, 0, 0, 0, 0, 0, 0, 0]
def xh_31 : List Nat := [0, 0, 0, 0, 95, 0, 0, 0, 0, 0, 94, 0, 0, 0, 0, 0]
def xh_32 : List Nat := [0, 0, 0, 0, 0, 0, 0, 0, 0, 0]
def xh_33 : List Nat := [0, 98, 0, 95, 0, 0, 0, 0, 0]
def xh_34 : List Nat := [0, 0, 98, 295, 0, 0, 0, 0, 0, 0]
def xh_35 : List Nat := [0, 0, 307, 0, 0, 0, 0, 0, 98, 0, 0, 98, 0, 0]
def xh_36 : List Nat := [0, 0, 98, 295, 0, 0, 0, 0, 0, 0, 0, 0, 0, 0, 0, 0, 98, 0, 0, 98, 0, 0]
def xh_37 : List Nat := [0, 0, 0, 0, 0, 0, 0, 98, 0, 0, 295, 352, 0, 0, 0, 0, 0]
def xh_38 : List Nat := [0, 348, 0, 0, 0, 0, 0, 98, 0, 0, 295, 0, 0, 0, 0, 0, 0]
def xh_39 : List Nat := [0, 348, 0, 0, 0, 0, 0, 0, 0, 0, 0, 0, 0, 0, 0, 0, 0, 0, 0, 98, 0, 0, 295, 0, 0, 0, 0, 0, 0, 0, 0, 98, 0, 0, 98, 0, 0]
def xh_40 : List Nat := [0, 0, 121, 0, 0, 0, 0, 0, 0, 125, 0, 0, 0, 0, 129, 0, 0, 0, 0, 132, 0, 0, 0, 0, 135, 0, 0, 0, 0, 0, 0]
def xh_41 : List Nat := [0, 0, 121, 121, 0, 113, 0, 0, 113, 0, 0, 535, 0, 117, 0, 0, 117, 0, 0, 535, 0, 125, 0, 0, 125, 0, 0, 535, 0, 129, 0, 0, 129, 0, 0, 535, 0, 132, 0, 0, 132, 0, 0, 535, 0, 135, 0, 0, 135, 0, 0, 535, 0]
def xh_42 : List Nat := [0, 121, 0, 0, 0, 0, 0, 113, 0, 0, 0, 0, 117, 0, 0, 0, 0, 0, 121, 0, 0, 121, 0, 0]
def xh_43 : List Nat := [0, 0, 0, 0, 0, 0, 117, 0, 0, 121, 0, 0]
def xh_44 : List Nat := [0, 121, 0, 0, 0, 0, 0, 0]
def xh_45 : List Nat := [0, 125, 0, 0, 0, 0, 0, 0, 0, 0]
def xh_46 : List Nat := [0, 0, 0, 0, 121, 0, 0, 0, 0, 0, 117, 0, 0, 0, 0, 113, 0, 0, 0, 0, 0, 0, 0, 0, 0, 0, 117, 0, 0, 125, 0, 0, 0, 0, 0, 0]
def xh_47 : List Nat := [0, 0, 0, 0, 0, 0, 125, 0, 0, 0, 0, 0, 0, 0, 0, 0, 0]
def xh_48 : List Nat := [0, 459, 0, 0, 0, 463, 0, 0, 0, 0, 0, 0, 478, 0, 0, 0, 0, 0, 0, 133, 0, 0, 0, 0, 0, 0, 0, 0, 0, 0]
def xh_49 : List Nat := [0, 0, 0, 0, 0, 0, 0, 0, 0, 467, 0, 0, 0, 0, 0, 0, 0, 0, 0, 0, 0, 0, 0, 0, 0, 0, 0, 0, 0, 0, 0, 0, 0, 0, 0, 0, 0, 471, 0, 0, 0, 0, 0, 0, 478, 0, 0, 0, 0, 0, 0, 0, 0, 0, 0, 0, 0, 0, 0, 0, 0, 0, 0]
def xh_50 : List Nat := [0, 0, 0, 126, 0, 0, 0, 0, 0, 130, 0, 0, 0, 0, 114, 0, 0, 0, 0, 0, 0, 118, 0, 0, 474, 0, 0, 0, 0, 0, 0, 0, 0, 0, 0, 0, 0, 0, 0, 0, 0]
def xh_51 : List Nat := [0, 130, 0, 0, 0, 0, 126, 0, 0, 0, 0, 0, 0, 0, 0, 0, 176, 0, 0, 0, 0, 177, 0, 0, 0, 0, 0, 0, 0, 178, 0, 0, 0, 0, 0, 0, 0, 0, 0, 0, 0, 482, 0, 0, 0, 0, 176, 0, 0, 486, 0, 114, 0, 0, 0, 0, 0, 512, 513, 0, 0, 133, 0, 0, 0, 0, 0, 136, 0, 0, 178, 0, 0]
def xh_52 : List Nat := [0, 114, 0, 0, 0, 0, 118, 0, 0, 0, 0, 176, 0, 0, 486, 0, 0, 0, 0, 0, 0, 177, 0, 0, 488, 0, 0, 0, 0, 0, 0, 0, 0, 0, 490, 0, 0, 491, 0, 0, 0, 0, 0, 0, 491, 0, 0, 0, 0, 0, 0, 0, 0, 0, 0, 0, 491, 0, 0, 0, 0, 0, 0, 176, 0, 0, 0, 501, 0, 0, 0, 0, 0, 0, 505, 0, 0, 0, 0, 0, 501, 0, 0, 0, 0, 0, 0, 0, 0, 491, 0, 0, 0, 0, 0, 0, 0, 508, 0, 0, 0, 0, 0, 0, 0, 0, 0, 0, 491, 0, 0, 0, 0]
def xh_53 : List Nat := [0, 0, 118, 0, 0, 474, 0, 0, 0, 0, 0, 0, 178, 0, 177, 0, 0, 488, 0, 0, 0, 0, 136, 0, 0, 0, 498, 178, 0, 0, 0, 0, 0, 176, 0, 0, 486, 0, 0, 0, 0, 0, 133, 0, 0, 0, 0, 0, 177, 0, 0, 491, 0]
def xh_54 : List Nat := [0, 0, 0, 118, 0, 0, 0, 0, 0, 0, 0]
def xh_55 : List Nat := [0, 0, 505, 0, 0, 0, 0, 0, 0, 118, 0, 0, 0, 176, 0, 0, 0, 0, 486, 0, 0, 0, 0, 490, 0, 0, 177, 0, 0, 0, 0, 491, 0]
def xh_56 : List Nat := [0, 0, 0, 0, 0, 0, 176, 0, 0, 176, 0, 0, 0, 495, 0, 0, 177, 0, 0, 0, 0, 0, 178, 0, 498, 178, 0]
def xh_57 : List Nat := [0, 0, 201, 0, 0, 209, 0]
def xh_58 : List Nat := [0, 0, 201, 0, 0, 200, 0, 0, 205, 0, 0, 203, 0, 0, 207, 0, 0, 209, 0, 0, 0, 0, 0, 0, 0, 0, 0, 0, 0, 0, 625, 0, 0, 0, 0, 0]
def xh_59 : List Nat := [0, 207, 0, 0, 207, 0, 122, 0, 0, 207, 0, 0, 0, 0, 0, 115, 0, 207, 0, 0, 0, 119, 0, 207, 0, 0, 0, 0, 203, 629, 0, 0, 0, 203, 0, 0, 0, 0, 0, 0, 0, 0, 630, 0, 0, 0, 0, 0, 0, 0, 207, 0, 0, 207, 0, 0, 0, 0, 0, 0, 641, 0, 0, 0, 0, 665, 0, 0]
def xh_60 : List Nat := [0, 0, 0, 0, 634, 0, 0, 0, 0, 0, 0, 0, 634, 638, 0, 0, 0, 0, 0, 0, 0, 634, 638, 0, 0, 0, 0, 0, 0, 0, 634, 0, 0, 0, 0, 0, 0, 0, 0]
def xh_61 : List Nat := [0, 0, 0, 0, 0, 0, 0, 0, 0]
def xh_62 : List Nat := [0, 0, 0, 0, 645, 0, 0, 0, 0, 650, 645, 0, 0, 0, 0, 654, 658, 0, 0, 0, 0, 0, 654, 0, 650, 645, 0, 0, 654, 0, 0, 0, 0, 654, 0, 0, 658, 0, 0, 0, 654, 0, 645, 0, 0, 654, 0, 0, 654, 0, 0, 0, 0, 0, 662, 645, 0]
def xh_63 : List Nat := [0, 0, 0, 0, 0, 0, 0, 0, 0, 0, 0, 0, 0, 0, 0, 0, 0, 0, 0, 0, 0, 0, 0, 0, 0, 0, 0, 0, 0, 0, 0, 0, 0, 0, 0, 0]
def xh_64 : List Nat := [0, 0, 0, 0, 654, 669, 0, 0, 654, 0, 0, 0, 673, 0, 0, 0, 207, 0, 0, 654, 0, 0, 0, 0, 0, 673, 0, 0, 0, 0, 0, 645, 0, 0, 0, 654, 0, 649, 645, 0, 0, 0, 207, 645, 0, 0, 207, 0, 0, 0, 654, 207, 0]
def xh_65 : List Nat := [0, 0, 203, 0, 0, 203, 0, 0, 207, 0]
def xh_66 : List Nat := [0, 209, 0, 0, 0, 197, 0, 209, 0, 0, 0, 0, 209, 0, 0, 209, 0]
def xh_67 : List Nat := [0, 0, 0, 0, 0, 0, 195, 0, 0, 0, 0, 0]
def xh_68 : List Nat := [0, 0, 0, 0, 0, 0, 195, 0, 0, 0, 0]
def xh_69 : List Nat := [0, 200, 0, 0, 0, 199, 0, 200, 0, 0, 0, 0, 200, 0, 0, 200, 0, 0, 205, 0, 200, 649, 205, 0]
def xh_70 : List Nat := [0, 200, 0, 0, 0, 0, 0, 200, 0, 0, 200, 0, 199, 0, 200, 0, 0]
def xh_71 : List Nat := [0, 200, 0, 0, 0, 0, 0, 0, 0, 0, 0, 0, 0, 199, 0, 0, 0, 0, 0]
def xh_72 : List Nat := [0, 690, 0]
def xh_73 : List Nat := [0, 0, 690, 0, 691, 0, 0, 0, 0, 0, 0, 0, 0, 0, 0, 0, 0, 0, 0, 0, 0, 0, 0, 0, 0, 0, 0, 0, 0, 0, 0, 0, 0, 0, 0, 692, 0, 0, 0, 0, 0, 0, 0, 0, 691, 0, 0]
def xh_74 : List Nat := [0, 0, 690, 0, 0, 691, 0]
def xh_75 : List Nat := [0, 0, 690, 0, 691, 0]
def xh_76 : List Nat := [0, 693, 0, 691, 0, 0, 692, 0, 693, 0, 0, 0, 0]
def xh_77 : List Nat := [0, 863, 0, 0, 0, 0, 0, 0, 693, 0, 0, 693, 0, 0]
def xh_78 : List Nat := [0, 0, 0, 0, 0, 0, 0, 0, 0, 0]
def xh_79 : List Nat := [0, 698, 0, 697, 0, 0, 0, 699, 0, 697, 0, 0, 0, 0, 697, 0, 0, 697, 0]
def xh_80 : List Nat := [0, 695, 0, 694, 0, 0, 0, 696, 0, 694, 0, 0, 0, 0, 694, 0, 0, 694, 0, 0, 0, 0, 0, 0, 0, 0, 0, 0, 0, 0, 0, 0, 0, 883, 0]
def xh_81 : List Nat := [0, 0, 0, 0, 0, 0, 0, 0, 0, 0, 0, 0, 0, 0, 0, 0, 0, 0, 0, 0, 0, 0, 0, 0, 0, 0]
def xh_82 : List Nat := [0, 0, 0, 0, 0, 0, 0, 0, 0, 0, 0, 0, 0, 0, 0, 0, 0, 0, 0, 0, 0, 0, 0, 0, 0, 0, 0]
def xh_83 : List Nat := [0, 706, 0, 0, 707, 0, 706, 0, 0, 0, 903, 0, 0, 0, 0, 706, 0, 0, 706, 0, 0, 707, 0, 706, 0, 913, 0, 879, 0, 0]
def xh_84 : List Nat := [0, 706, 0, 0, 707, 0, 706, 0, 0, 0, 0, 0, 0, 0, 706, 0, 0, 706, 0, 0, 0, 879, 0, 0]
def xh_85 : List Nat := [0, 0, 0, 0, 0, 0, 706, 0, 0, 0, 707, 0, 0, 903, 0, 0, 0, 0, 0, 0, 0, 0, 0, 0]
def xh_86 : List Nat := [0, 863, 0, 0, 0, 0, 0, 0, 0, 0, 0, 0, 0, 707, 0, 706, 0, 0, 0, 0, 0, 0, 0, 0, 0, 706, 0, 0, 706, 0, 0, 693, 0, 0, 693, 0, 0, 0, 0, 0, 709, 0, 0, 709, 0, 708, 0, 709, 0, 0, 0, 709, 0, 0, 0, 0, 0, 0, 899, 0, 0, 0, 0, 0, 0, 0, 0, 0, 0, 0, 0, 0, 0, 0, 693, 0, 0, 693, 0, 0, 0, 0, 0, 879, 0, 0, 0, 0, 0, 0, 0, 0, 0, 0, 863, 906, 0, 0, 0, 0, 0, 863, 0, 0, 0, 0, 0, 0, 0, 693, 0, 0, 693, 0, 0, 0, 0, 0, 0, 879, 0, 0, 0, 0, 0, 0]
def xh_87 : List Nat := [0, 0, 706, 0, 0, 709, 0, 708, 0, 0, 0, 0, 0, 0, 0, 0, 0, 0, 0, 0, 0, 0, 895, 0, 0, 0, 0, 0, 0, 0, 0, 0, 0, 0, 0, 0, 0, 863, 0, 0, 903, 0, 0, 709, 0, 0, 0, 0, 0, 0, 0, 0, 0, 0, 0, 0, 0, 0, 0, 708, 0, 709, 0, 0, 0, 708, 0, 709, 0, 0, 0, 0, 909, 0, 0, 0, 0, 0, 0, 909, 0, 0, 0, 0, 0, 909, 0, 0, 706, 0, 0, 706, 0, 707, 0, 706, 0, 0, 0, 0, 0, 0, 0, 0, 0, 0, 0, 0, 709, 0, 0, 709, 0, 0, 0, 0, 0, 0, 879, 0, 0, 0, 909, 0, 709, 0, 0, 706, 0, 0, 0, 0, 0, 0, 0, 693, 0, 0, 693, 0, 0, 0, 707, 0, 706, 0, 0, 0, 0, 706, 0, 0, 706, 0, 0, 0, 0, 0, 0, 0, 0, 0, 916, 0, 0, 0, 0]
def xh_88 : List Nat := [0, 0, 871, 0, 0, 710, 0, 0, 0, 0, 0, 711, 0, 710, 0, 0, 0, 712, 0, 710, 0, 0, 0, 0, 710, 0, 0, 710, 0, 0]
def xh_89 : List Nat := [0, 0, 0, 0, 0, 0, 0, 0, 863, 906, 0, 0, 0, 0, 0, 863, 0, 0, 0, 0, 0, 0, 0, 693, 0, 0, 693, 0, 0, 0, 0, 0, 0, 0]
def xh_90 : List Nat := [0, 693, 0, 0, 924, 0, 0, 0, 0, 863, 0, 0, 0, 0, 0, 879, 0, 0, 0, 693, 0, 0, 710, 0, 891, 0, 0, 0, 871, 0, 0, 0, 0, 924, 0, 0, 0, 0, 879, 0, 0, 0, 0, 0, 0, 0, 0, 0, 0, 883, 0, 0, 0, 879, 0, 0, 0, 694, 0, 0, 867, 0]
def xh_91 : List Nat := [0, 863, 0, 0, 0, 693, 0, 0, 693, 0, 0, 0, 0, 0, 710, 0, 891, 0, 0, 0, 0, 879, 0, 0, 0, 0, 871, 0, 0, 0, 0, 0, 0, 0, 0, 0, 0, 710, 0, 891, 0, 0, 0, 0, 879, 0, 0, 0, 883, 0, 0, 0, 0, 0, 694, 0, 0, 867, 0, 0, 0, 0, 0, 0, 0, 0, 0, 920, 0, 0, 0, 0, 0, 0, 0, 0, 0, 0, 0, 0, 879, 0, 0, 871, 0, 0, 0, 0, 0, 0, 0, 0, 0, 871, 0, 0, 0, 710, 0, 891, 0, 0, 0, 0, 0, 0, 0, 0, 0, 0, 879, 0, 0, 0, 0, 871, 0, 0, 0, 0, 0, 0, 0, 0, 0, 710, 0, 0, 0, 0, 710, 0, 0, 0, 891, 0, 0, 0, 871, 0, 0, 0, 871, 0, 0, 0, 710, 0, 891, 0, 0, 0, 0, 0, 0, 0, 0, 879, 0, 0, 0, 0, 871, 0, 0, 0, 0, 0, 0, 0]
def xh_92 : List Nat := [0, 0, 710, 0, 0, 710, 0, 711, 0, 710, 0, 0, 0, 712, 0, 710, 0, 0, 0, 0, 0, 0, 863, 0, 0, 0, 0, 0, 879, 0, 696, 0, 0, 694, 0, 0, 0, 0, 883, 0, 0, 0, 694, 0, 0, 867, 0, 0, 0, 0, 0, 0, 0, 879, 0, 0, 0, 883, 0, 0, 0, 0, 696, 0, 0, 694, 0, 0, 0, 0, 0, 0, 0, 0, 0, 0, 883, 0, 0, 0, 0, 0, 0, 0, 0, 0, 0, 0, 879, 0, 701, 0, 713, 0, 694, 0, 0, 703, 0, 713, 0, 697, 0, 0, 0]
def xh_93 : List Nat := [0, 863, 0, 0, 0, 0, 0, 0, 0, 0, 0, 0, 0, 0, 0, 0, 0, 0, 0, 0, 0, 713, 0, 0, 0, 0, 693, 0, 0, 0, 0, 693, 693, 0, 704, 0, 713, 0, 0, 0, 0, 0, 704, 0, 713, 0, 0, 0, 700, 0, 713, 0, 694, 0, 0, 702, 0, 713, 0, 697, 0, 0, 0, 0, 0, 0, 0, 0, 867, 0]
def xh_94 : List Nat := [0, 0, 693, 0, 0, 694, 0, 0, 697, 0, 0, 710, 0, 0, 0, 0, 0, 0, 704, 0, 0, 0, 0, 0, 0, 704, 0, 0, 0, 0, 710, 0, 0, 710, 0, 0, 859, 0, 0, 0, 871, 0, 0, 875, 0, 0, 887, 0, 0, 0, 0, 0, 0, 0, 693, 0, 691, 0, 0, 0, 0, 0, 0, 0, 0, 0, 694, 0, 0, 0, 0, 695, 0, 0, 0, 0, 0, 704, 0, 696, 0, 0, 0, 0, 0, 0, 0, 0, 0, 0, 0, 0]
def xh_95 : List Nat := [0, 0, 0, 0, 0, 0, 0, 0, 0, 0, 0, 0, 0, 0, 0, 0, 0, 0, 0, 0, 0, 0, 0, 0, 0, 0, 0, 0, 0, 0, 0, 0, 0, 0, 0, 0, 0, 0, 0, 0, 0, 0, 0, 0, 0, 0, 0, 0]
def xh_96 : List Nat := [0, 0, 0, 0, 0, 0, 0, 0, 0, 0, 0, 0, 0, 0, 0, 0, 0, 0, 0, 0, 0, 0, 0, 0, 0, 0, 0, 0, 0, 0, 0]
def xh_97 : List Nat := [0, 945, 0, 945, 0, 0, 0]
def xh_98 : List Nat := [0, 0, 0, 0, 0, 0, 0]
def xh_99 : List Nat := [0, 0, 0, 0, 0, 714, 0, 0, 0, 0, 715, 0, 0, 0, 0, 702, 0, 0, 0, 0, 0, 703, 0, 0, 0, 0, 698, 0, 0, 0, 0, 699, 0, 0, 0, 0, 0, 0, 0, 0, 936, 0, 0, 0, 0, 0, 0, 0, 0, 0, 0, 714, 0, 0, 714, 0, 0, 0, 939, 0, 0, 0, 0, 720, 0, 0, 0, 0, 0, 942, 0, 0, 715, 0, 0, 715, 0, 0, 0, 0, 0, 0, 0, 0, 721, 0, 0, 0, 0, 0, 946, 0, 0, 0, 0, 0, 0, 0, 0, 0, 0, 0, 0, 0, 0, 0, 0, 0, 0, 0, 714, 0, 0, 0, 0, 715, 0, 0, 0, 0, 718, 0, 0, 0, 0, 719, 0, 0, 0, 0, 0, 0, 0, 0, 716, 0, 0, 714, 0, 0, 0, 0, 717, 0, 0, 715, 0, 0, 0, 0, 718, 0, 0, 0, 0, 714, 0, 0, 0, 0, 715, 0, 0, 0, 0, 0, 0, 0, 949, 0, 0, 0, 0, 0, 0, 0, 0, 0, 0, 0, 0, 0, 720, 0, 0, 714, 0, 0, 0, 0, 721, 0, 0, 715, 0, 0, 0, 0]
def xh_100 : List Nat := [0, 714, 0, 0, 0, 0, 715, 0, 0, 0, 0, 0, 0, 0, 719, 0, 0, 0, 0, 0, 0, 0, 0, 0, 0, 719, 0, 0, 0, 0, 0, 0, 0, 0, 0, 718, 0, 0, 0, 0, 716, 0, 0, 0, 0, 0, 0, 0, 946, 0, 0, 0, 717, 0, 0, 946, 0, 0, 0, 0, 0, 0, 946, 0, 0, 714, 0, 0, 0, 0, 714, 0, 0, 0, 0, 0, 0, 942, 0, 0, 715, 0, 0, 0, 0, 715, 0, 0, 0, 0, 0, 946, 0, 0]
def xh_101 : List Nat := [0, 0, 0, 0, 0, 0, 0, 0, 0, 0, 0, 0, 0, 704, 0, 0, 0, 0, 0, 0, 0, 0, 0, 0, 0, 0, 0, 0, 700, 0, 0, 0, 0, 0, 0, 0, 701, 0, 0, 0, 0, 695, 0, 0, 0, 0, 0, 0, 696, 0, 0, 0, 0, 0, 0, 0, 0, 0, 0, 0, 0, 0, 0, 0, 0, 0, 932, 0, 0, 0, 0, 0, 0, 0, 0, 0, 0, 0, 0, 0, 0, 0, 0, 0, 0, 0, 0, 704, 0, 0, 0, 0, 0, 0, 0, 0, 0, 0, 0, 0, 0, 0, 0, 0, 0, 0]
def xh_102 : List Nat := [0, 694, 0, 0, 0, 0, 0, 0, 0, 0, 0, 0, 0, 0, 0, 0, 704, 0, 0, 0, 0, 720, 0, 0, 0, 0, 0, 0, 0, 0, 0, 0, 0, 0]
def xh_103 : List Nat := [0, 0, 0, 0, 0, 0, 0, 0, 0, 0, 0, 0, 0, 0, 0, 0, 726, 0, 0, 704, 0, 0, 0, 0, 704, 0, 0, 0, 0, 727, 0, 0, 0, 0, 728, 0, 0, 720, 0, 0, 0, 0, 729, 0, 0, 721, 0, 0, 0, 0, 700, 0, 0, 0, 0, 0, 701, 0, 0, 0, 0, 705, 0, 0, 0, 0, 0, 0, 0, 0, 0, 0, 723, 0, 0, 0, 0, 694, 0, 0, 695, 0, 0, 0, 0, 0, 0, 0, 0, 0, 0, 0, 0, 0, 0, 0, 0, 0, 724, 0, 705, 0, 0, 0, 0, 0, 725, 0, 705, 0, 0, 0, 0, 0, 0, 727, 0, 696, 0, 0, 0, 0, 0, 0, 0, 705, 0, 696, 0, 0, 0, 0, 0, 696, 0, 0, 0, 0, 0, 0]
def xh_104 : List Nat := [0, 0, 855, 0, 0, 0, 0, 928, 0, 0, 953, 0, 0, 0, 0, 690, 0, 690, 0, 0, 0, 0, 957, 0, 0, 722, 0, 0, 732, 0, 0, 736, 0, 0, 691, 0, 723, 0]
def xh_105 : List Nat := [0, 0, 722, 0, 0, 0, 0, 690, 0, 722, 0, 0, 0, 0, 0, 723, 0, 0, 0, 0, 0, 0, 0, 722, 0, 0, 0, 0, 0, 0, 0, 0, 724, 0, 0, 0, 0, 725, 0, 0, 0]
def xh_106 : List Nat := [0, 0, 722, 0, 0, 0, 0, 690, 0, 722, 0, 0, 728, 0, 0, 0, 0, 0]
def xh_107 : List Nat := [0, 0, 722, 0, 0, 0, 0, 690, 0, 722, 0, 0, 729, 0, 0, 0, 0, 0]
def xh_108 : List Nat := [0, 0, 722, 0, 0, 0, 0, 690, 0, 722, 0, 0, 0, 0, 0, 0, 0, 0, 0, 0, 0, 0, 722, 0, 0, 0, 0, 0, 0, 726, 0, 0, 0, 0, 0, 0, 0, 0, 727, 0, 0, 0, 0, 0, 0, 0, 728, 0, 0, 0, 0, 729, 0, 0, 0]
def xh_109 : List Nat := [0, 0, 690, 0, 0, 0, 0, 0, 0, 0, 0, 730, 0, 0, 0, 0, 0]
def xh_110 : List Nat := [0, 0, 0, 0, 0, 0, 0, 0, 0, 690, 0, 690, 0, 0, 0, 0, 730, 0, 0, 0]
def xh_111 : List Nat := [0, 0, 0, 0, 0, 0, 0, 0, 0, 0, 0, 0, 0, 0, 0, 0, 0, 0, 0, 0, 0, 0, 0, 0, 0, 0, 0, 0, 0, 0, 0, 0, 0, 0, 0, 0]
def xh_112 : List Nat := [0, 724, 0, 0, 0, 0, 0, 0, 731, 0, 0, 0, 0, 0, 0, 0, 0, 0, 0, 0, 731, 0, 0, 0, 0, 0, 0, 0, 0, 0, 0, 0, 0, 0, 0, 0, 0, 0, 0, 0, 0, 0, 0, 0, 0, 0, 0, 0, 0, 0, 0, 0, 0, 0, 0, 0, 0, 0, 0, 0, 725, 0, 0, 0, 0, 0, 0, 0]
def xh_113 : List Nat := [0, 724, 0, 0, 0, 0, 725, 0, 0, 0, 0, 0, 0, 731, 0, 0, 0, 0, 0, 0, 0, 0, 0, 0, 0, 731, 0, 0, 0, 0, 0, 0, 0, 0, 0, 0, 0, 0, 0, 731, 0, 0, 0, 0, 0, 0, 730, 0, 0, 0, 0, 0, 0, 0, 0, 0, 0, 0, 0, 0, 0, 0, 0, 0, 731, 0, 0, 0, 0, 0, 0, 0, 730, 0, 0, 0, 0, 0, 0, 0, 0, 0, 0, 0, 0, 0, 0, 0, 0, 0, 0, 0, 0, 0, 0, 0, 730, 0, 0, 0, 0, 0, 0, 0, 0, 0, 0, 0, 730, 0, 0, 0, 0, 0, 0, 0, 0, 0, 0, 0, 0, 0, 736, 0, 0, 0, 737, 0, 736, 0, 0, 0, 0, 736, 0, 0, 736, 0, 0, 0, 0, 0, 731, 0, 0, 0, 0, 0, 0, 997, 0, 0, 0, 0, 0]
def xh_114 : List Nat := [0, 0, 722, 0, 0, 0, 0, 690, 0, 722, 0, 0, 0, 0, 0, 732, 0, 0, 733, 0, 0, 734, 0, 0, 736, 0, 0, 0, 0, 0, 724, 0, 0, 0, 0, 0, 724, 0, 0, 0, 0, 0, 0, 731, 0, 0, 0, 0, 0, 0, 0, 0, 0, 0, 989, 0, 0, 0, 0, 0, 733, 0, 939, 0, 733, 0, 0, 735, 0, 0, 0, 0, 0, 0, 0, 0, 0, 0, 733, 0, 0, 0, 0, 0, 0, 733, 0, 0, 0, 0, 0, 0, 0, 0, 0, 0, 0, 0, 0, 0, 0, 0, 0, 731, 0, 0, 0, 0, 0, 0, 0, 0, 0, 0, 725, 0, 0, 0, 0, 0, 0, 0, 0, 0, 0, 0, 0, 0, 0, 0, 0, 733, 0, 0, 0, 0, 0, 0, 0, 733, 0, 0, 0, 0, 0, 0, 0, 0, 0, 0, 0, 0, 0, 725, 0, 0, 0, 0, 0, 0, 0, 0, 0, 0, 0, 733, 0, 0, 733, 0, 731, 0, 0, 0, 0, 0, 0, 0, 725, 0, 0, 0, 0, 0, 0, 733, 0, 939, 0, 733, 0, 0, 0, 993, 0, 0, 0, 0, 734, 0, 946, 734, 0, 0, 0, 735, 0, 0]
def xh_115 : List Nat := [0, 0, 690, 0, 732, 0, 0, 0, 0, 0, 0, 0, 0, 0, 0, 0, 733, 0, 0, 0, 0, 0, 734, 0, 0, 0, 0, 0, 735, 0, 0, 736, 0]
def xh_116 : List Nat := [0, 0, 0, 0, 0, 736, 0, 0, 0, 0, 0, 0, 0, 690, 0, 690, 0, 0, 0, 0, 737, 0, 0, 0]
end
section
/-! What is asked of each method once. -/
theorem xi_FK.v {k : Nat} (hs : mS k = false) (a : Cond.code (mY k) (mC k) (mL k) (mR k) ∈ xi_wd) (b : Cond.instanceMethod (mY k) ∈ xi_wd) (c : Cond.selects (mO k) (mY k) (mY k) ∈ xi_wd) (d : Cond.initialized (mO k) ∈ xi_wd) (e : mO k ≠ "java/lang/invoke/MethodHandle" ∧ mO k ≠ "java/lang/invoke/VarHandle" ∧ (parseMethodDescriptor (mY k).desc).map (fun d => d.parameters.length) = some (mN k)) (f : mL k ≤ 45) (g : plainName (mO k) = true) : xi_FK k :=
  ⟨a, fun h => absurd (hs.symm.trans h) (by decide), fun _ => ⟨b, c⟩, d, e, f, g⟩
theorem xi_FK.s {k : Nat} (hs : mS k = true) (a : Cond.code (mY k) (mC k) (mL k) (mR k) ∈ xi_wd) (b : Cond.static (mY k) ∈ xi_wd) (d : Cond.initialized (mO k) ∈ xi_wd) (e : mO k ≠ "java/lang/invoke/MethodHandle" ∧ mO k ≠ "java/lang/invoke/VarHandle" ∧ (parseMethodDescriptor (mY k).desc).map (fun d => d.parameters.length) = some (mN k)) (f : mL k ≤ 45) (g : plainName (mO k) = true) : xi_FK k :=
  ⟨a, fun _ => b, fun h => absurd (hs.symm.trans h) (by decide), d, e, f, g⟩
set_option maxRecDepth 100000 in
theorem xf_0 : xi_FK 0 := xi_FK.v rfl (xi_gin (h := 246) rfl rfl) (xi_gin (h := 244) (by decide +kernel) (by decide +kernel)) (xi_gin (h := 245) (by decide +kernel) (by decide +kernel)) (xi_gin (h := 58) (by decide +kernel) (by decide +kernel)) (by decide +kernel) (by decide +kernel) (by decide +kernel)
set_option maxRecDepth 100000 in
theorem xf_1 : xi_FK 1 := xi_FK.v rfl (xi_gin (h := 257) rfl rfl) (xi_gin (h := 255) (by decide +kernel) (by decide +kernel)) (xi_gin (h := 256) (by decide +kernel) (by decide +kernel)) (xi_gin (h := 58) (by decide +kernel) (by decide +kernel)) (by decide +kernel) (by decide +kernel) (by decide +kernel)
set_option maxRecDepth 100000 in
theorem xf_2 : xi_FK 2 := xi_FK.v rfl (xi_gin (h := 261) rfl rfl) (xi_gin (h := 259) (by decide +kernel) (by decide +kernel)) (xi_gin (h := 260) (by decide +kernel) (by decide +kernel)) (xi_gin (h := 58) (by decide +kernel) (by decide +kernel)) (by decide +kernel) (by decide +kernel) (by decide +kernel)
set_option maxRecDepth 100000 in
theorem xf_3 : xi_FK 3 := xi_FK.v rfl (xi_gin (h := 278) rfl rfl) (xi_gin (h := 276) (by decide +kernel) (by decide +kernel)) (xi_gin (h := 277) (by decide +kernel) (by decide +kernel)) (xi_gin (h := 58) (by decide +kernel) (by decide +kernel)) (by decide +kernel) (by decide +kernel) (by decide +kernel)
set_option maxRecDepth 100000 in
theorem xf_4 : xi_FK 4 := xi_FK.v rfl (xi_gin (h := 549) rfl rfl) (xi_gin (h := 547) (by decide +kernel) (by decide +kernel)) (xi_gin (h := 548) (by decide +kernel) (by decide +kernel)) (xi_gin (h := 58) (by decide +kernel) (by decide +kernel)) (by decide +kernel) (by decide +kernel) (by decide +kernel)
set_option maxRecDepth 100000 in
theorem xf_5 : xi_FK 5 := xi_FK.v rfl (xi_gin (h := 575) rfl rfl) (xi_gin (h := 573) (by decide +kernel) (by decide +kernel)) (xi_gin (h := 574) (by decide +kernel) (by decide +kernel)) (xi_gin (h := 58) (by decide +kernel) (by decide +kernel)) (by decide +kernel) (by decide +kernel) (by decide +kernel)
set_option maxRecDepth 100000 in
theorem xf_6 : xi_FK 6 := xi_FK.v rfl (xi_gin (h := 582) rfl rfl) (xi_gin (h := 580) (by decide +kernel) (by decide +kernel)) (xi_gin (h := 581) (by decide +kernel) (by decide +kernel)) (xi_gin (h := 58) (by decide +kernel) (by decide +kernel)) (by decide +kernel) (by decide +kernel) (by decide +kernel)
set_option maxRecDepth 100000 in
theorem xf_7 : xi_FK 7 := xi_FK.v rfl (xi_gin (h := 589) rfl rfl) (xi_gin (h := 587) (by decide +kernel) (by decide +kernel)) (xi_gin (h := 588) (by decide +kernel) (by decide +kernel)) (xi_gin (h := 58) (by decide +kernel) (by decide +kernel)) (by decide +kernel) (by decide +kernel) (by decide +kernel)
set_option maxRecDepth 100000 in
theorem xf_8 : xi_FK 8 := xi_FK.v rfl (xi_gin (h := 265) rfl rfl) (xi_gin (h := 263) (by decide +kernel) (by decide +kernel)) (xi_gin (h := 264) (by decide +kernel) (by decide +kernel)) (xi_gin (h := 58) (by decide +kernel) (by decide +kernel)) (by decide +kernel) (by decide +kernel) (by decide +kernel)
set_option maxRecDepth 100000 in
theorem xf_9 : xi_FK 9 := xi_FK.v rfl (xi_gin (h := 598) rfl rfl) (xi_gin (h := 596) (by decide +kernel) (by decide +kernel)) (xi_gin (h := 597) (by decide +kernel) (by decide +kernel)) (xi_gin (h := 58) (by decide +kernel) (by decide +kernel)) (by decide +kernel) (by decide +kernel) (by decide +kernel)
set_option maxRecDepth 100000 in
theorem xf_10 : xi_FK 10 := xi_FK.v rfl (xi_gin (h := 620) rfl rfl) (xi_gin (h := 618) (by decide +kernel) (by decide +kernel)) (xi_gin (h := 619) (by decide +kernel) (by decide +kernel)) (xi_gin (h := 58) (by decide +kernel) (by decide +kernel)) (by decide +kernel) (by decide +kernel) (by decide +kernel)
set_option maxRecDepth 100000 in
theorem xf_11 : xi_FK 11 := xi_FK.v rfl (xi_gin (h := 269) rfl rfl) (xi_gin (h := 267) (by decide +kernel) (by decide +kernel)) (xi_gin (h := 268) (by decide +kernel) (by decide +kernel)) (xi_gin (h := 58) (by decide +kernel) (by decide +kernel)) (by decide +kernel) (by decide +kernel) (by decide +kernel)
set_option maxRecDepth 100000 in
theorem xf_12 : xi_FK 12 := xi_FK.v rfl (xi_gin (h := 683) rfl rfl) (xi_gin (h := 681) (by decide +kernel) (by decide +kernel)) (xi_gin (h := 682) (by decide +kernel) (by decide +kernel)) (xi_gin (h := 58) (by decide +kernel) (by decide +kernel)) (by decide +kernel) (by decide +kernel) (by decide +kernel)
set_option maxRecDepth 100000 in
theorem xf_13 : xi_FK 13 := xi_FK.v rfl (xi_gin (h := 553) rfl rfl) (xi_gin (h := 552) (by decide +kernel) (by decide +kernel)) (xi_gin (h := 22) (by decide +kernel) (by decide +kernel)) (xi_gin (h := 58) (by decide +kernel) (by decide +kernel)) (by decide +kernel) (by decide +kernel) (by decide +kernel)
set_option maxRecDepth 100000 in
theorem xf_14 : xi_FK 14 := xi_FK.v rfl (xi_gin (h := 286) rfl rfl) (xi_gin (h := 285) (by decide +kernel) (by decide +kernel)) (xi_gin (h := 0) (by decide +kernel) (by decide +kernel)) (xi_gin (h := 59) (by decide +kernel) (by decide +kernel)) (by decide +kernel) (by decide +kernel) (by decide +kernel)
set_option maxRecDepth 100000 in
theorem xf_15 : xi_FK 15 := xi_FK.v rfl (xi_gin (h := 282) rfl rfl) (xi_gin (h := 280) (by decide +kernel) (by decide +kernel)) (xi_gin (h := 281) (by decide +kernel) (by decide +kernel)) (xi_gin (h := 59) (by decide +kernel) (by decide +kernel)) (by decide +kernel) (by decide +kernel) (by decide +kernel)
set_option maxRecDepth 100000 in
theorem xf_16 : xi_FK 16 := xi_FK.v rfl (xi_gin (h := 378) rfl rfl) (xi_gin (h := 377) (by decide +kernel) (by decide +kernel)) (xi_gin (h := 13) (by decide +kernel) (by decide +kernel)) (xi_gin (h := 59) (by decide +kernel) (by decide +kernel)) (by decide +kernel) (by decide +kernel) (by decide +kernel)
set_option maxRecDepth 100000 in
theorem xf_17 : xi_FK 17 := xi_FK.v rfl (xi_gin (h := 446) rfl rfl) (xi_gin (h := 444) (by decide +kernel) (by decide +kernel)) (xi_gin (h := 445) (by decide +kernel) (by decide +kernel)) (xi_gin (h := 59) (by decide +kernel) (by decide +kernel)) (by decide +kernel) (by decide +kernel) (by decide +kernel)
set_option maxRecDepth 100000 in
theorem xf_18 : xi_FK 18 := xi_FK.v rfl (xi_gin (h := 450) rfl rfl) (xi_gin (h := 449) (by decide +kernel) (by decide +kernel)) (xi_gin (h := 15) (by decide +kernel) (by decide +kernel)) (xi_gin (h := 59) (by decide +kernel) (by decide +kernel)) (by decide +kernel) (by decide +kernel) (by decide +kernel)
set_option maxRecDepth 100000 in
theorem xf_19 : xi_FK 19 := xi_FK.v rfl (xi_gin (h := 339) rfl rfl) (xi_gin (h := 338) (by decide +kernel) (by decide +kernel)) (xi_gin (h := 9) (by decide +kernel) (by decide +kernel)) (xi_gin (h := 59) (by decide +kernel) (by decide +kernel)) (by decide +kernel) (by decide +kernel) (by decide +kernel)
set_option maxRecDepth 100000 in
theorem xf_20 : xi_FK 20 := xi_FK.v rfl (xi_gin (h := 302) rfl rfl) (xi_gin (h := 301) (by decide +kernel) (by decide +kernel)) (xi_gin (h := 2) (by decide +kernel) (by decide +kernel)) (xi_gin (h := 59) (by decide +kernel) (by decide +kernel)) (by decide +kernel) (by decide +kernel) (by decide +kernel)
set_option maxRecDepth 100000 in
theorem xf_21 : xi_FK 21 := xi_FK.v rfl (xi_gin (h := 315) rfl rfl) (xi_gin (h := 314) (by decide +kernel) (by decide +kernel)) (xi_gin (h := 3) (by decide +kernel) (by decide +kernel)) (xi_gin (h := 59) (by decide +kernel) (by decide +kernel)) (by decide +kernel) (by decide +kernel) (by decide +kernel)
set_option maxRecDepth 100000 in
theorem xf_22 : xi_FK 22 := xi_FK.v rfl (xi_gin (h := 358) rfl rfl) (xi_gin (h := 357) (by decide +kernel) (by decide +kernel)) (xi_gin (h := 11) (by decide +kernel) (by decide +kernel)) (xi_gin (h := 59) (by decide +kernel) (by decide +kernel)) (by decide +kernel) (by decide +kernel) (by decide +kernel)
set_option maxRecDepth 100000 in
theorem xf_23 : xi_FK 23 := xi_FK.v rfl (xi_gin (h := 366) rfl rfl) (xi_gin (h := 365) (by decide +kernel) (by decide +kernel)) (xi_gin (h := 12) (by decide +kernel) (by decide +kernel)) (xi_gin (h := 59) (by decide +kernel) (by decide +kernel)) (by decide +kernel) (by decide +kernel) (by decide +kernel)
set_option maxRecDepth 100000 in
theorem xf_24 : xi_FK 24 := xi_FK.v rfl (xi_gin (h := 319) rfl rfl) (xi_gin (h := 318) (by decide +kernel) (by decide +kernel)) (xi_gin (h := 4) (by decide +kernel) (by decide +kernel)) (xi_gin (h := 59) (by decide +kernel) (by decide +kernel)) (by decide +kernel) (by decide +kernel) (by decide +kernel)
set_option maxRecDepth 100000 in
theorem xf_25 : xi_FK 25 := xi_FK.v rfl (xi_gin (h := 323) rfl rfl) (xi_gin (h := 322) (by decide +kernel) (by decide +kernel)) (xi_gin (h := 5) (by decide +kernel) (by decide +kernel)) (xi_gin (h := 59) (by decide +kernel) (by decide +kernel)) (by decide +kernel) (by decide +kernel) (by decide +kernel)
set_option maxRecDepth 100000 in
theorem xf_26 : xi_FK 26 := xi_FK.v rfl (xi_gin (h := 327) rfl rfl) (xi_gin (h := 326) (by decide +kernel) (by decide +kernel)) (xi_gin (h := 6) (by decide +kernel) (by decide +kernel)) (xi_gin (h := 59) (by decide +kernel) (by decide +kernel)) (by decide +kernel) (by decide +kernel) (by decide +kernel)
set_option maxRecDepth 100000 in
theorem xf_27 : xi_FK 27 := xi_FK.v rfl (xi_gin (h := 331) rfl rfl) (xi_gin (h := 330) (by decide +kernel) (by decide +kernel)) (xi_gin (h := 7) (by decide +kernel) (by decide +kernel)) (xi_gin (h := 59) (by decide +kernel) (by decide +kernel)) (by decide +kernel) (by decide +kernel) (by decide +kernel)
set_option maxRecDepth 100000 in
theorem xf_28 : xi_FK 28 := xi_FK.v rfl (xi_gin (h := 335) rfl rfl) (xi_gin (h := 334) (by decide +kernel) (by decide +kernel)) (xi_gin (h := 8) (by decide +kernel) (by decide +kernel)) (xi_gin (h := 59) (by decide +kernel) (by decide +kernel)) (by decide +kernel) (by decide +kernel) (by decide +kernel)
set_option maxRecDepth 100000 in
theorem xf_29 : xi_FK 29 := xi_FK.v rfl (xi_gin (h := 250) rfl rfl) (xi_gin (h := 248) (by decide +kernel) (by decide +kernel)) (xi_gin (h := 249) (by decide +kernel) (by decide +kernel)) (xi_gin (h := 60) (by decide +kernel) (by decide +kernel)) (by decide +kernel) (by decide +kernel) (by decide +kernel)
set_option maxRecDepth 100000 in
theorem xf_30 : xi_FK 30 := xi_FK.s rfl (xi_gin (h := 253) rfl rfl) (xi_gin (h := 252) (by decide +kernel) (by decide +kernel)) (xi_gin (h := 60) (by decide +kernel) (by decide +kernel)) (by decide +kernel) (by decide +kernel) (by decide +kernel)
set_option maxRecDepth 100000 in
theorem xf_31 : xi_FK 31 := xi_FK.v rfl (xi_gin (h := 298) rfl rfl) (xi_gin (h := 297) (by decide +kernel) (by decide +kernel)) (xi_gin (h := 1) (by decide +kernel) (by decide +kernel)) (xi_gin (h := 60) (by decide +kernel) (by decide +kernel)) (by decide +kernel) (by decide +kernel) (by decide +kernel)
set_option maxRecDepth 100000 in
theorem xf_32 : xi_FK 32 := xi_FK.s rfl (xi_gin (h := 354) rfl rfl) (xi_gin (h := 353) (by decide +kernel) (by decide +kernel)) (xi_gin (h := 60) (by decide +kernel) (by decide +kernel)) (by decide +kernel) (by decide +kernel) (by decide +kernel)
set_option maxRecDepth 100000 in
theorem xf_33 : xi_FK 33 := xi_FK.v rfl (xi_gin (h := 374) rfl rfl) (xi_gin (h := 372) (by decide +kernel) (by decide +kernel)) (xi_gin (h := 373) (by decide +kernel) (by decide +kernel)) (xi_gin (h := 60) (by decide +kernel) (by decide +kernel)) (by decide +kernel) (by decide +kernel) (by decide +kernel)
set_option maxRecDepth 100000 in
theorem xf_34 : xi_FK 34 := xi_FK.v rfl (xi_gin (h := 310) rfl rfl) (xi_gin (h := 308) (by decide +kernel) (by decide +kernel)) (xi_gin (h := 309) (by decide +kernel) (by decide +kernel)) (xi_gin (h := 60) (by decide +kernel) (by decide +kernel)) (by decide +kernel) (by decide +kernel) (by decide +kernel)
set_option maxRecDepth 100000 in
theorem xf_35 : xi_FK 35 := xi_FK.v rfl (xi_gin (h := 306) rfl rfl) (xi_gin (h := 304) (by decide +kernel) (by decide +kernel)) (xi_gin (h := 305) (by decide +kernel) (by decide +kernel)) (xi_gin (h := 60) (by decide +kernel) (by decide +kernel)) (by decide +kernel) (by decide +kernel) (by decide +kernel)
set_option maxRecDepth 100000 in
theorem xf_36 : xi_FK 36 := xi_FK.v rfl (xi_gin (h := 294) rfl rfl) (xi_gin (h := 292) (by decide +kernel) (by decide +kernel)) (xi_gin (h := 293) (by decide +kernel) (by decide +kernel)) (xi_gin (h := 60) (by decide +kernel) (by decide +kernel)) (by decide +kernel) (by decide +kernel) (by decide +kernel)
set_option maxRecDepth 100000 in
theorem xf_37 : xi_FK 37 := xi_FK.v rfl (xi_gin (h := 351) rfl rfl) (xi_gin (h := 350) (by decide +kernel) (by decide +kernel)) (xi_gin (h := 10) (by decide +kernel) (by decide +kernel)) (xi_gin (h := 60) (by decide +kernel) (by decide +kernel)) (by decide +kernel) (by decide +kernel) (by decide +kernel)
set_option maxRecDepth 100000 in
theorem xf_38 : xi_FK 38 := xi_FK.v rfl (xi_gin (h := 370) rfl rfl) (xi_gin (h := 368) (by decide +kernel) (by decide +kernel)) (xi_gin (h := 369) (by decide +kernel) (by decide +kernel)) (xi_gin (h := 60) (by decide +kernel) (by decide +kernel)) (by decide +kernel) (by decide +kernel) (by decide +kernel)
set_option maxRecDepth 100000 in
theorem xf_39 : xi_FK 39 := xi_FK.v rfl (xi_gin (h := 347) rfl rfl) (xi_gin (h := 345) (by decide +kernel) (by decide +kernel)) (xi_gin (h := 346) (by decide +kernel) (by decide +kernel)) (xi_gin (h := 60) (by decide +kernel) (by decide +kernel)) (by decide +kernel) (by decide +kernel) (by decide +kernel)
set_option maxRecDepth 100000 in
theorem xf_40 : xi_FK 40 := xi_FK.v rfl (xi_gin (h := 290) rfl rfl) (xi_gin (h := 288) (by decide +kernel) (by decide +kernel)) (xi_gin (h := 289) (by decide +kernel) (by decide +kernel)) (xi_gin (h := 61) (by decide +kernel) (by decide +kernel)) (by decide +kernel) (by decide +kernel) (by decide +kernel)
set_option maxRecDepth 100000 in
theorem xf_41 : xi_FK 41 := xi_FK.v rfl (xi_gin (h := 534) rfl rfl) (xi_gin (h := 532) (by decide +kernel) (by decide +kernel)) (xi_gin (h := 533) (by decide +kernel) (by decide +kernel)) (xi_gin (h := 61) (by decide +kernel) (by decide +kernel)) (by decide +kernel) (by decide +kernel) (by decide +kernel)
set_option maxRecDepth 100000 in
theorem xf_42 : xi_FK 42 := xi_FK.v rfl (xi_gin (h := 343) rfl rfl) (xi_gin (h := 341) (by decide +kernel) (by decide +kernel)) (xi_gin (h := 342) (by decide +kernel) (by decide +kernel)) (xi_gin (h := 61) (by decide +kernel) (by decide +kernel)) (by decide +kernel) (by decide +kernel) (by decide +kernel)
set_option maxRecDepth 100000 in
theorem xf_43 : xi_FK 43 := xi_FK.v rfl (xi_gin (h := 362) rfl rfl) (xi_gin (h := 360) (by decide +kernel) (by decide +kernel)) (xi_gin (h := 361) (by decide +kernel) (by decide +kernel)) (xi_gin (h := 61) (by decide +kernel) (by decide +kernel)) (by decide +kernel) (by decide +kernel) (by decide +kernel)
set_option maxRecDepth 100000 in
theorem xf_44 : xi_FK 44 := xi_FK.v rfl (xi_gin (h := 462) rfl rfl) (xi_gin (h := 460) (by decide +kernel) (by decide +kernel)) (xi_gin (h := 461) (by decide +kernel) (by decide +kernel)) (xi_gin (h := 61) (by decide +kernel) (by decide +kernel)) (by decide +kernel) (by decide +kernel) (by decide +kernel)
set_option maxRecDepth 100000 in
theorem xf_45 : xi_FK 45 := xi_FK.v rfl (xi_gin (h := 470) rfl rfl) (xi_gin (h := 468) (by decide +kernel) (by decide +kernel)) (xi_gin (h := 469) (by decide +kernel) (by decide +kernel)) (xi_gin (h := 61) (by decide +kernel) (by decide +kernel)) (by decide +kernel) (by decide +kernel) (by decide +kernel)
set_option maxRecDepth 100000 in
theorem xf_46 : xi_FK 46 := xi_FK.v rfl (xi_gin (h := 454) rfl rfl) (xi_gin (h := 452) (by decide +kernel) (by decide +kernel)) (xi_gin (h := 453) (by decide +kernel) (by decide +kernel)) (xi_gin (h := 61) (by decide +kernel) (by decide +kernel)) (by decide +kernel) (by decide +kernel) (by decide +kernel)
set_option maxRecDepth 100000 in
theorem xf_47 : xi_FK 47 := xi_FK.v rfl (xi_gin (h := 477) rfl rfl) (xi_gin (h := 475) (by decide +kernel) (by decide +kernel)) (xi_gin (h := 476) (by decide +kernel) (by decide +kernel)) (xi_gin (h := 61) (by decide +kernel) (by decide +kernel)) (by decide +kernel) (by decide +kernel) (by decide +kernel)
set_option maxRecDepth 100000 in
theorem xf_48 : xi_FK 48 := xi_FK.v rfl (xi_gin (h := 458) rfl rfl) (xi_gin (h := 456) (by decide +kernel) (by decide +kernel)) (xi_gin (h := 457) (by decide +kernel) (by decide +kernel)) (xi_gin (h := 62) (by decide +kernel) (by decide +kernel)) (by decide +kernel) (by decide +kernel) (by decide +kernel)
set_option maxRecDepth 100000 in
theorem xf_49 : xi_FK 49 := xi_FK.v rfl (xi_gin (h := 466) rfl rfl) (xi_gin (h := 465) (by decide +kernel) (by decide +kernel)) (xi_gin (h := 16) (by decide +kernel) (by decide +kernel)) (xi_gin (h := 62) (by decide +kernel) (by decide +kernel)) (by decide +kernel) (by decide +kernel) (by decide +kernel)
set_option maxRecDepth 100000 in
theorem xf_50 : xi_FK 50 := xi_FK.s rfl (xi_gin (h := 473) rfl rfl) (xi_gin (h := 472) (by decide +kernel) (by decide +kernel)) (xi_gin (h := 62) (by decide +kernel) (by decide +kernel)) (by decide +kernel) (by decide +kernel) (by decide +kernel)
set_option maxRecDepth 100000 in
theorem xf_51 : xi_FK 51 := xi_FK.v rfl (xi_gin (h := 481) rfl rfl) (xi_gin (h := 480) (by decide +kernel) (by decide +kernel)) (xi_gin (h := 17) (by decide +kernel) (by decide +kernel)) (xi_gin (h := 62) (by decide +kernel) (by decide +kernel)) (by decide +kernel) (by decide +kernel) (by decide +kernel)
set_option maxRecDepth 100000 in
theorem xf_52 : xi_FK 52 := xi_FK.v rfl (xi_gin (h := 485) rfl rfl) (xi_gin (h := 484) (by decide +kernel) (by decide +kernel)) (xi_gin (h := 18) (by decide +kernel) (by decide +kernel)) (xi_gin (h := 62) (by decide +kernel) (by decide +kernel)) (by decide +kernel) (by decide +kernel) (by decide +kernel)
set_option maxRecDepth 100000 in
theorem xf_53 : xi_FK 53 := xi_FK.v rfl (xi_gin (h := 511) rfl rfl) (xi_gin (h := 510) (by decide +kernel) (by decide +kernel)) (xi_gin (h := 21) (by decide +kernel) (by decide +kernel)) (xi_gin (h := 62) (by decide +kernel) (by decide +kernel)) (by decide +kernel) (by decide +kernel) (by decide +kernel)
set_option maxRecDepth 100000 in
theorem xf_54 : xi_FK 54 := xi_FK.s rfl (xi_gin (h := 507) rfl rfl) (xi_gin (h := 506) (by decide +kernel) (by decide +kernel)) (xi_gin (h := 62) (by decide +kernel) (by decide +kernel)) (by decide +kernel) (by decide +kernel) (by decide +kernel)
set_option maxRecDepth 100000 in
theorem xf_55 : xi_FK 55 := xi_FK.v rfl (xi_gin (h := 504) rfl rfl) (xi_gin (h := 503) (by decide +kernel) (by decide +kernel)) (xi_gin (h := 20) (by decide +kernel) (by decide +kernel)) (xi_gin (h := 62) (by decide +kernel) (by decide +kernel)) (by decide +kernel) (by decide +kernel) (by decide +kernel)
set_option maxRecDepth 100000 in
theorem xf_56 : xi_FK 56 := xi_FK.v rfl (xi_gin (h := 494) rfl rfl) (xi_gin (h := 493) (by decide +kernel) (by decide +kernel)) (xi_gin (h := 19) (by decide +kernel) (by decide +kernel)) (xi_gin (h := 62) (by decide +kernel) (by decide +kernel)) (by decide +kernel) (by decide +kernel) (by decide +kernel)
set_option maxRecDepth 100000 in
theorem xf_57 : xi_FK 57 := xi_FK.v rfl (xi_gin (h := 541) rfl rfl) (xi_gin (h := 539) (by decide +kernel) (by decide +kernel)) (xi_gin (h := 540) (by decide +kernel) (by decide +kernel)) (xi_gin (h := 63) (by decide +kernel) (by decide +kernel)) (by decide +kernel) (by decide +kernel) (by decide +kernel)
set_option maxRecDepth 100000 in
theorem xf_58 : xi_FK 58 := xi_FK.v rfl (xi_gin (h := 624) rfl rfl) (xi_gin (h := 622) (by decide +kernel) (by decide +kernel)) (xi_gin (h := 623) (by decide +kernel) (by decide +kernel)) (xi_gin (h := 63) (by decide +kernel) (by decide +kernel)) (by decide +kernel) (by decide +kernel) (by decide +kernel)
set_option maxRecDepth 100000 in
theorem xf_59 : xi_FK 59 := xi_FK.v rfl (xi_gin (h := 628) rfl rfl) (xi_gin (h := 627) (by decide +kernel) (by decide +kernel)) (xi_gin (h := 23) (by decide +kernel) (by decide +kernel)) (xi_gin (h := 63) (by decide +kernel) (by decide +kernel)) (by decide +kernel) (by decide +kernel) (by decide +kernel)
set_option maxRecDepth 100000 in
theorem xf_60 : xi_FK 60 := xi_FK.v rfl (xi_gin (h := 633) rfl rfl) (xi_gin (h := 632) (by decide +kernel) (by decide +kernel)) (xi_gin (h := 24) (by decide +kernel) (by decide +kernel)) (xi_gin (h := 63) (by decide +kernel) (by decide +kernel)) (by decide +kernel) (by decide +kernel) (by decide +kernel)
set_option maxRecDepth 100000 in
theorem xf_61 : xi_FK 61 := xi_FK.s rfl (xi_gin (h := 640) rfl rfl) (xi_gin (h := 639) (by decide +kernel) (by decide +kernel)) (xi_gin (h := 63) (by decide +kernel) (by decide +kernel)) (by decide +kernel) (by decide +kernel) (by decide +kernel)
set_option maxRecDepth 100000 in
theorem xf_62 : xi_FK 62 := xi_FK.v rfl (xi_gin (h := 644) rfl rfl) (xi_gin (h := 643) (by decide +kernel) (by decide +kernel)) (xi_gin (h := 26) (by decide +kernel) (by decide +kernel)) (xi_gin (h := 63) (by decide +kernel) (by decide +kernel)) (by decide +kernel) (by decide +kernel) (by decide +kernel)
set_option maxRecDepth 100000 in
theorem xf_63 : xi_FK 63 := xi_FK.s rfl (xi_gin (h := 664) rfl rfl) (xi_gin (h := 663) (by decide +kernel) (by decide +kernel)) (xi_gin (h := 63) (by decide +kernel) (by decide +kernel)) (by decide +kernel) (by decide +kernel) (by decide +kernel)
set_option maxRecDepth 100000 in
theorem xf_64 : xi_FK 64 := xi_FK.v rfl (xi_gin (h := 668) rfl rfl) (xi_gin (h := 667) (by decide +kernel) (by decide +kernel)) (xi_gin (h := 31) (by decide +kernel) (by decide +kernel)) (xi_gin (h := 63) (by decide +kernel) (by decide +kernel)) (by decide +kernel) (by decide +kernel) (by decide +kernel)
set_option maxRecDepth 100000 in
theorem xf_65 : xi_FK 65 := xi_FK.v rfl (xi_gin (h := 676) rfl rfl) (xi_gin (h := 675) (by decide +kernel) (by decide +kernel)) (xi_gin (h := 33) (by decide +kernel) (by decide +kernel)) (xi_gin (h := 63) (by decide +kernel) (by decide +kernel)) (by decide +kernel) (by decide +kernel) (by decide +kernel)
set_option maxRecDepth 100000 in
theorem xf_66 : xi_FK 66 := xi_FK.v rfl (xi_gin (h := 672) rfl rfl) (xi_gin (h := 671) (by decide +kernel) (by decide +kernel)) (xi_gin (h := 32) (by decide +kernel) (by decide +kernel)) (xi_gin (h := 63) (by decide +kernel) (by decide +kernel)) (by decide +kernel) (by decide +kernel) (by decide +kernel)
set_option maxRecDepth 100000 in
theorem xf_67 : xi_FK 67 := xi_FK.v rfl (xi_gin (h := 653) rfl rfl) (xi_gin (h := 652) (by decide +kernel) (by decide +kernel)) (xi_gin (h := 28) (by decide +kernel) (by decide +kernel)) (xi_gin (h := 63) (by decide +kernel) (by decide +kernel)) (by decide +kernel) (by decide +kernel) (by decide +kernel)
set_option maxRecDepth 100000 in
theorem xf_68 : xi_FK 68 := xi_FK.v rfl (xi_gin (h := 661) rfl rfl) (xi_gin (h := 660) (by decide +kernel) (by decide +kernel)) (xi_gin (h := 30) (by decide +kernel) (by decide +kernel)) (xi_gin (h := 63) (by decide +kernel) (by decide +kernel)) (by decide +kernel) (by decide +kernel) (by decide +kernel)
set_option maxRecDepth 100000 in
theorem xf_69 : xi_FK 69 := xi_FK.v rfl (xi_gin (h := 648) rfl rfl) (xi_gin (h := 647) (by decide +kernel) (by decide +kernel)) (xi_gin (h := 27) (by decide +kernel) (by decide +kernel)) (xi_gin (h := 63) (by decide +kernel) (by decide +kernel)) (by decide +kernel) (by decide +kernel) (by decide +kernel)
set_option maxRecDepth 100000 in
theorem xf_70 : xi_FK 70 := xi_FK.v rfl (xi_gin (h := 657) rfl rfl) (xi_gin (h := 656) (by decide +kernel) (by decide +kernel)) (xi_gin (h := 29) (by decide +kernel) (by decide +kernel)) (xi_gin (h := 63) (by decide +kernel) (by decide +kernel)) (by decide +kernel) (by decide +kernel) (by decide +kernel)
set_option maxRecDepth 100000 in
theorem xf_71 : xi_FK 71 := xi_FK.v rfl (xi_gin (h := 637) rfl rfl) (xi_gin (h := 636) (by decide +kernel) (by decide +kernel)) (xi_gin (h := 25) (by decide +kernel) (by decide +kernel)) (xi_gin (h := 63) (by decide +kernel) (by decide +kernel)) (by decide +kernel) (by decide +kernel) (by decide +kernel)
set_option maxRecDepth 100000 in
theorem xf_72 : xi_FK 72 := xi_FK.v rfl (xi_gin (h := 838) rfl rfl) (xi_gin (h := 836) (by decide +kernel) (by decide +kernel)) (xi_gin (h := 837) (by decide +kernel) (by decide +kernel)) (xi_gin (h := 64) (by decide +kernel) (by decide +kernel)) (by decide +kernel) (by decide +kernel) (by decide +kernel)
set_option maxRecDepth 100000 in
theorem xf_73 : xi_FK 73 := xi_FK.v rfl (xi_gin (h := 842) rfl rfl) (xi_gin (h := 840) (by decide +kernel) (by decide +kernel)) (xi_gin (h := 841) (by decide +kernel) (by decide +kernel)) (xi_gin (h := 64) (by decide +kernel) (by decide +kernel)) (by decide +kernel) (by decide +kernel) (by decide +kernel)
set_option maxRecDepth 100000 in
theorem xf_74 : xi_FK 74 := xi_FK.v rfl (xi_gin (h := 846) rfl rfl) (xi_gin (h := 844) (by decide +kernel) (by decide +kernel)) (xi_gin (h := 845) (by decide +kernel) (by decide +kernel)) (xi_gin (h := 64) (by decide +kernel) (by decide +kernel)) (by decide +kernel) (by decide +kernel) (by decide +kernel)
set_option maxRecDepth 100000 in
theorem xf_75 : xi_FK 75 := xi_FK.v rfl (xi_gin (h := 850) rfl rfl) (xi_gin (h := 848) (by decide +kernel) (by decide +kernel)) (xi_gin (h := 849) (by decide +kernel) (by decide +kernel)) (xi_gin (h := 64) (by decide +kernel) (by decide +kernel)) (by decide +kernel) (by decide +kernel) (by decide +kernel)
set_option maxRecDepth 100000 in
theorem xf_76 : xi_FK 76 := xi_FK.v rfl (xi_gin (h := 866) rfl rfl) (xi_gin (h := 865) (by decide +kernel) (by decide +kernel)) (xi_gin (h := 36) (by decide +kernel) (by decide +kernel)) (xi_gin (h := 64) (by decide +kernel) (by decide +kernel)) (by decide +kernel) (by decide +kernel) (by decide +kernel)
set_option maxRecDepth 100000 in
theorem xf_77 : xi_FK 77 := xi_FK.v rfl (xi_gin (h := 874) rfl rfl) (xi_gin (h := 873) (by decide +kernel) (by decide +kernel)) (xi_gin (h := 38) (by decide +kernel) (by decide +kernel)) (xi_gin (h := 64) (by decide +kernel) (by decide +kernel)) (by decide +kernel) (by decide +kernel) (by decide +kernel)
set_option maxRecDepth 100000 in
theorem xf_78 : xi_FK 78 := xi_FK.s rfl (xi_gin (h := 908) rfl rfl) (xi_gin (h := 907) (by decide +kernel) (by decide +kernel)) (xi_gin (h := 64) (by decide +kernel) (by decide +kernel)) (by decide +kernel) (by decide +kernel) (by decide +kernel)
set_option maxRecDepth 100000 in
theorem xf_79 : xi_FK 79 := xi_FK.v rfl (xi_gin (h := 886) rfl rfl) (xi_gin (h := 885) (by decide +kernel) (by decide +kernel)) (xi_gin (h := 41) (by decide +kernel) (by decide +kernel)) (xi_gin (h := 64) (by decide +kernel) (by decide +kernel)) (by decide +kernel) (by decide +kernel) (by decide +kernel)
set_option maxRecDepth 100000 in
theorem xf_80 : xi_FK 80 := xi_FK.v rfl (xi_gin (h := 882) rfl rfl) (xi_gin (h := 881) (by decide +kernel) (by decide +kernel)) (xi_gin (h := 40) (by decide +kernel) (by decide +kernel)) (xi_gin (h := 64) (by decide +kernel) (by decide +kernel)) (by decide +kernel) (by decide +kernel) (by decide +kernel)
set_option maxRecDepth 100000 in
theorem xf_81 : xi_FK 81 := xi_FK.s rfl (xi_gin (h := 905) rfl rfl) (xi_gin (h := 904) (by decide +kernel) (by decide +kernel)) (xi_gin (h := 64) (by decide +kernel) (by decide +kernel)) (by decide +kernel) (by decide +kernel) (by decide +kernel)
set_option maxRecDepth 100000 in
theorem xf_82 : xi_FK 82 := xi_FK.s rfl (xi_gin (h := 915) rfl rfl) (xi_gin (h := 914) (by decide +kernel) (by decide +kernel)) (xi_gin (h := 64) (by decide +kernel) (by decide +kernel)) (by decide +kernel) (by decide +kernel) (by decide +kernel)
set_option maxRecDepth 100000 in
theorem xf_83 : xi_FK 83 := xi_FK.v rfl (xi_gin (h := 912) rfl rfl) (xi_gin (h := 911) (by decide +kernel) (by decide +kernel)) (xi_gin (h := 46) (by decide +kernel) (by decide +kernel)) (xi_gin (h := 64) (by decide +kernel) (by decide +kernel)) (by decide +kernel) (by decide +kernel) (by decide +kernel)
set_option maxRecDepth 100000 in
theorem xf_84 : xi_FK 84 := xi_FK.v rfl (xi_gin (h := 919) rfl rfl) (xi_gin (h := 918) (by decide +kernel) (by decide +kernel)) (xi_gin (h := 47) (by decide +kernel) (by decide +kernel)) (xi_gin (h := 64) (by decide +kernel) (by decide +kernel)) (by decide +kernel) (by decide +kernel) (by decide +kernel)
set_option maxRecDepth 100000 in
theorem xf_85 : xi_FK 85 := xi_FK.v rfl (xi_gin (h := 902) rfl rfl) (xi_gin (h := 901) (by decide +kernel) (by decide +kernel)) (xi_gin (h := 45) (by decide +kernel) (by decide +kernel)) (xi_gin (h := 64) (by decide +kernel) (by decide +kernel)) (by decide +kernel) (by decide +kernel) (by decide +kernel)
set_option maxRecDepth 100000 in
theorem xf_86 : xi_FK 86 := xi_FK.v rfl (xi_gin (h := 898) rfl rfl) (xi_gin (h := 897) (by decide +kernel) (by decide +kernel)) (xi_gin (h := 44) (by decide +kernel) (by decide +kernel)) (xi_gin (h := 64) (by decide +kernel) (by decide +kernel)) (by decide +kernel) (by decide +kernel) (by decide +kernel)
set_option maxRecDepth 100000 in
theorem xf_87 : xi_FK 87 := xi_FK.v rfl (xi_gin (h := 894) rfl rfl) (xi_gin (h := 893) (by decide +kernel) (by decide +kernel)) (xi_gin (h := 43) (by decide +kernel) (by decide +kernel)) (xi_gin (h := 64) (by decide +kernel) (by decide +kernel)) (by decide +kernel) (by decide +kernel) (by decide +kernel)
set_option maxRecDepth 100000 in
theorem xf_88 : xi_FK 88 := xi_FK.v rfl (xi_gin (h := 870) rfl rfl) (xi_gin (h := 869) (by decide +kernel) (by decide +kernel)) (xi_gin (h := 37) (by decide +kernel) (by decide +kernel)) (xi_gin (h := 64) (by decide +kernel) (by decide +kernel)) (by decide +kernel) (by decide +kernel) (by decide +kernel)
set_option maxRecDepth 100000 in
theorem xf_89 : xi_FK 89 := xi_FK.v rfl (xi_gin (h := 927) rfl rfl) (xi_gin (h := 926) (by decide +kernel) (by decide +kernel)) (xi_gin (h := 49) (by decide +kernel) (by decide +kernel)) (xi_gin (h := 64) (by decide +kernel) (by decide +kernel)) (by decide +kernel) (by decide +kernel) (by decide +kernel)
set_option maxRecDepth 100000 in
theorem xf_90 : xi_FK 90 := xi_FK.v rfl (xi_gin (h := 923) rfl rfl) (xi_gin (h := 922) (by decide +kernel) (by decide +kernel)) (xi_gin (h := 48) (by decide +kernel) (by decide +kernel)) (xi_gin (h := 64) (by decide +kernel) (by decide +kernel)) (by decide +kernel) (by decide +kernel) (by decide +kernel)
set_option maxRecDepth 100000 in
theorem xf_91 : xi_FK 91 := xi_FK.v rfl (xi_gin (h := 890) rfl rfl) (xi_gin (h := 889) (by decide +kernel) (by decide +kernel)) (xi_gin (h := 42) (by decide +kernel) (by decide +kernel)) (xi_gin (h := 64) (by decide +kernel) (by decide +kernel)) (by decide +kernel) (by decide +kernel) (by decide +kernel)
set_option maxRecDepth 100000 in
theorem xf_92 : xi_FK 92 := xi_FK.v rfl (xi_gin (h := 878) rfl rfl) (xi_gin (h := 877) (by decide +kernel) (by decide +kernel)) (xi_gin (h := 39) (by decide +kernel) (by decide +kernel)) (xi_gin (h := 64) (by decide +kernel) (by decide +kernel)) (by decide +kernel) (by decide +kernel) (by decide +kernel)
set_option maxRecDepth 100000 in
theorem xf_93 : xi_FK 93 := xi_FK.v rfl (xi_gin (h := 862) rfl rfl) (xi_gin (h := 861) (by decide +kernel) (by decide +kernel)) (xi_gin (h := 35) (by decide +kernel) (by decide +kernel)) (xi_gin (h := 64) (by decide +kernel) (by decide +kernel)) (by decide +kernel) (by decide +kernel) (by decide +kernel)
set_option maxRecDepth 100000 in
theorem xf_94 : xi_FK 94 := xi_FK.v rfl (xi_gin (h := 858) rfl rfl) (xi_gin (h := 857) (by decide +kernel) (by decide +kernel)) (xi_gin (h := 34) (by decide +kernel) (by decide +kernel)) (xi_gin (h := 64) (by decide +kernel) (by decide +kernel)) (by decide +kernel) (by decide +kernel) (by decide +kernel)
set_option maxRecDepth 100000 in
theorem xf_95 : xi_FK 95 := xi_FK.s rfl (xi_gin (h := 941) rfl rfl) (xi_gin (h := 940) (by decide +kernel) (by decide +kernel)) (xi_gin (h := 64) (by decide +kernel) (by decide +kernel)) (by decide +kernel) (by decide +kernel) (by decide +kernel)
set_option maxRecDepth 100000 in
theorem xf_96 : xi_FK 96 := xi_FK.s rfl (xi_gin (h := 938) rfl rfl) (xi_gin (h := 937) (by decide +kernel) (by decide +kernel)) (xi_gin (h := 64) (by decide +kernel) (by decide +kernel)) (by decide +kernel) (by decide +kernel) (by decide +kernel)
set_option maxRecDepth 100000 in
theorem xf_97 : xi_FK 97 := xi_FK.s rfl (xi_gin (h := 944) rfl rfl) (xi_gin (h := 943) (by decide +kernel) (by decide +kernel)) (xi_gin (h := 64) (by decide +kernel) (by decide +kernel)) (by decide +kernel) (by decide +kernel) (by decide +kernel)
set_option maxRecDepth 100000 in
theorem xf_98 : xi_FK 98 := xi_FK.s rfl (xi_gin (h := 948) rfl rfl) (xi_gin (h := 947) (by decide +kernel) (by decide +kernel)) (xi_gin (h := 64) (by decide +kernel) (by decide +kernel)) (by decide +kernel) (by decide +kernel) (by decide +kernel)
set_option maxRecDepth 100000 in
theorem xf_99 : xi_FK 99 := xi_FK.v rfl (xi_gin (h := 935) rfl rfl) (xi_gin (h := 934) (by decide +kernel) (by decide +kernel)) (xi_gin (h := 51) (by decide +kernel) (by decide +kernel)) (xi_gin (h := 64) (by decide +kernel) (by decide +kernel)) (by decide +kernel) (by decide +kernel) (by decide +kernel)
set_option maxRecDepth 100000 in
theorem xf_100 : xi_FK 100 := xi_FK.v rfl (xi_gin (h := 952) rfl rfl) (xi_gin (h := 951) (by decide +kernel) (by decide +kernel)) (xi_gin (h := 52) (by decide +kernel) (by decide +kernel)) (xi_gin (h := 64) (by decide +kernel) (by decide +kernel)) (by decide +kernel) (by decide +kernel) (by decide +kernel)
set_option maxRecDepth 100000 in
theorem xf_101 : xi_FK 101 := xi_FK.v rfl (xi_gin (h := 931) rfl rfl) (xi_gin (h := 930) (by decide +kernel) (by decide +kernel)) (xi_gin (h := 50) (by decide +kernel) (by decide +kernel)) (xi_gin (h := 64) (by decide +kernel) (by decide +kernel)) (by decide +kernel) (by decide +kernel) (by decide +kernel)
set_option maxRecDepth 100000 in
theorem xf_102 : xi_FK 102 := xi_FK.v rfl (xi_gin (h := 956) rfl rfl) (xi_gin (h := 955) (by decide +kernel) (by decide +kernel)) (xi_gin (h := 53) (by decide +kernel) (by decide +kernel)) (xi_gin (h := 64) (by decide +kernel) (by decide +kernel)) (by decide +kernel) (by decide +kernel) (by decide +kernel)
set_option maxRecDepth 100000 in
theorem xf_103 : xi_FK 103 := xi_FK.v rfl (xi_gin (h := 960) rfl rfl) (xi_gin (h := 959) (by decide +kernel) (by decide +kernel)) (xi_gin (h := 54) (by decide +kernel) (by decide +kernel)) (xi_gin (h := 64) (by decide +kernel) (by decide +kernel)) (by decide +kernel) (by decide +kernel) (by decide +kernel)
set_option maxRecDepth 100000 in
theorem xf_104 : xi_FK 104 := xi_FK.v rfl (xi_gin (h := 854) rfl rfl) (xi_gin (h := 852) (by decide +kernel) (by decide +kernel)) (xi_gin (h := 853) (by decide +kernel) (by decide +kernel)) (xi_gin (h := 64) (by decide +kernel) (by decide +kernel)) (by decide +kernel) (by decide +kernel) (by decide +kernel)
set_option maxRecDepth 100000 in
theorem xf_105 : xi_FK 105 := xi_FK.v rfl (xi_gin (h := 964) rfl rfl) (xi_gin (h := 962) (by decide +kernel) (by decide +kernel)) (xi_gin (h := 963) (by decide +kernel) (by decide +kernel)) (xi_gin (h := 64) (by decide +kernel) (by decide +kernel)) (by decide +kernel) (by decide +kernel) (by decide +kernel)
set_option maxRecDepth 100000 in
theorem xf_106 : xi_FK 106 := xi_FK.v rfl (xi_gin (h := 968) rfl rfl) (xi_gin (h := 966) (by decide +kernel) (by decide +kernel)) (xi_gin (h := 967) (by decide +kernel) (by decide +kernel)) (xi_gin (h := 64) (by decide +kernel) (by decide +kernel)) (by decide +kernel) (by decide +kernel) (by decide +kernel)
set_option maxRecDepth 100000 in
theorem xf_107 : xi_FK 107 := xi_FK.v rfl (xi_gin (h := 972) rfl rfl) (xi_gin (h := 970) (by decide +kernel) (by decide +kernel)) (xi_gin (h := 971) (by decide +kernel) (by decide +kernel)) (xi_gin (h := 64) (by decide +kernel) (by decide +kernel)) (by decide +kernel) (by decide +kernel) (by decide +kernel)
set_option maxRecDepth 100000 in
theorem xf_108 : xi_FK 108 := xi_FK.v rfl (xi_gin (h := 976) rfl rfl) (xi_gin (h := 974) (by decide +kernel) (by decide +kernel)) (xi_gin (h := 975) (by decide +kernel) (by decide +kernel)) (xi_gin (h := 64) (by decide +kernel) (by decide +kernel)) (by decide +kernel) (by decide +kernel) (by decide +kernel)
set_option maxRecDepth 100000 in
theorem xf_109 : xi_FK 109 := xi_FK.v rfl (xi_gin (h := 980) rfl rfl) (xi_gin (h := 978) (by decide +kernel) (by decide +kernel)) (xi_gin (h := 979) (by decide +kernel) (by decide +kernel)) (xi_gin (h := 64) (by decide +kernel) (by decide +kernel)) (by decide +kernel) (by decide +kernel) (by decide +kernel)
set_option maxRecDepth 100000 in
theorem xf_110 : xi_FK 110 := xi_FK.v rfl (xi_gin (h := 984) rfl rfl) (xi_gin (h := 982) (by decide +kernel) (by decide +kernel)) (xi_gin (h := 983) (by decide +kernel) (by decide +kernel)) (xi_gin (h := 64) (by decide +kernel) (by decide +kernel)) (by decide +kernel) (by decide +kernel) (by decide +kernel)
set_option maxRecDepth 100000 in
theorem xf_111 : xi_FK 111 := xi_FK.s rfl (xi_gin (h := 999) rfl rfl) (xi_gin (h := 998) (by decide +kernel) (by decide +kernel)) (xi_gin (h := 64) (by decide +kernel) (by decide +kernel)) (by decide +kernel) (by decide +kernel) (by decide +kernel)
set_option maxRecDepth 100000 in
theorem xf_112 : xi_FK 112 := xi_FK.v rfl (xi_gin (h := 992) rfl rfl) (xi_gin (h := 991) (by decide +kernel) (by decide +kernel)) (xi_gin (h := 55) (by decide +kernel) (by decide +kernel)) (xi_gin (h := 64) (by decide +kernel) (by decide +kernel)) (by decide +kernel) (by decide +kernel) (by decide +kernel)
set_option maxRecDepth 100000 in
theorem xf_113 : xi_FK 113 := xi_FK.v rfl (xi_gin (h := 996) rfl rfl) (xi_gin (h := 995) (by decide +kernel) (by decide +kernel)) (xi_gin (h := 56) (by decide +kernel) (by decide +kernel)) (xi_gin (h := 64) (by decide +kernel) (by decide +kernel)) (by decide +kernel) (by decide +kernel) (by decide +kernel)
set_option maxRecDepth 100000 in
theorem xf_114 : xi_FK 114 := xi_FK.v rfl (xi_gin (h := 988) rfl rfl) (xi_gin (h := 986) (by decide +kernel) (by decide +kernel)) (xi_gin (h := 987) (by decide +kernel) (by decide +kernel)) (xi_gin (h := 64) (by decide +kernel) (by decide +kernel)) (by decide +kernel) (by decide +kernel) (by decide +kernel)
set_option maxRecDepth 100000 in
theorem xf_115 : xi_FK 115 := xi_FK.v rfl (xi_gin (h := 1003) rfl rfl) (xi_gin (h := 1001) (by decide +kernel) (by decide +kernel)) (xi_gin (h := 1002) (by decide +kernel) (by decide +kernel)) (xi_gin (h := 64) (by decide +kernel) (by decide +kernel)) (by decide +kernel) (by decide +kernel) (by decide +kernel)
set_option maxRecDepth 100000 in
theorem xf_116 : xi_FK 116 := xi_FK.v rfl (xi_gin (h := 1007) rfl rfl) (xi_gin (h := 1005) (by decide +kernel) (by decide +kernel)) (xi_gin (h := 1006) (by decide +kernel) (by decide +kernel)) (xi_gin (h := 64) (by decide +kernel) (by decide +kernel)) (by decide +kernel) (by decide +kernel) (by decide +kernel)
set_option maxRecDepth 100000 in
set_option maxHeartbeats 4000000 in
theorem xo_0 : xi_ca 0 0 xt_0 xh_0 = true := by decide +kernel
set_option maxRecDepth 100000 in
set_option maxHeartbeats 4000000 in
theorem xo_1 : xi_ca 1 0 xt_1 xh_1 = true := by decide +kernel
set_option maxRecDepth 100000 in
set_option maxHeartbeats 4000000 in
theorem xo_2 : xi_ca 2 0 xt_2 xh_2 = true := by decide +kernel
set_option maxRecDepth 100000 in
set_option maxHeartbeats 4000000 in
theorem xo_3 : xi_ca 3 0 xt_3 xh_3 = true := by decide +kernel
set_option maxRecDepth 100000 in
set_option maxHeartbeats 4000000 in
theorem xo_4 : xi_ca 4 0 xt_4 xh_4 = true := by decide +kernel
set_option maxRecDepth 100000 in
set_option maxHeartbeats 4000000 in
theorem xo_5 : xi_ca 5 0 xt_5 xh_5 = true := by decide +kernel
set_option maxRecDepth 100000 in
set_option maxHeartbeats 4000000 in
theorem xo_6 : xi_ca 6 0 xt_6 xh_6 = true := by decide +kernel
set_option maxRecDepth 100000 in
set_option maxHeartbeats 4000000 in
theorem xo_7 : xi_ca 7 0 xt_7 xh_7 = true := by decide +kernel
set_option maxRecDepth 100000 in
set_option maxHeartbeats 4000000 in
theorem xo_8 : xi_ca 8 0 xt_8 xh_8 = true := by decide +kernel
set_option maxRecDepth 100000 in
set_option maxHeartbeats 4000000 in
theorem xo_9 : xi_ca 9 0 xt_9 xh_9 = true := by decide +kernel
set_option maxRecDepth 100000 in
set_option maxHeartbeats 4000000 in
theorem xo_10 : xi_ca 10 0 xt_10 xh_10 = true := by decide +kernel
set_option maxRecDepth 100000 in
set_option maxHeartbeats 4000000 in
theorem xo_11 : xi_ca 11 0 xt_11 xh_11 = true := by decide +kernel
set_option maxRecDepth 100000 in
set_option maxHeartbeats 4000000 in
theorem xo_12 : xi_ca 12 0 xt_12 xh_12 = true := by decide +kernel
set_option maxRecDepth 100000 in
set_option maxHeartbeats 4000000 in
theorem xo_13 : xi_ca 13 0 xt_13 xh_13 = true := by decide +kernel
set_option maxRecDepth 100000 in
set_option maxHeartbeats 4000000 in
theorem xo_14 : xi_ca 14 0 xt_14 xh_14 = true := by decide +kernel
set_option maxRecDepth 100000 in
set_option maxHeartbeats 4000000 in
theorem xo_15 : xi_ca 15 0 xt_15 xh_15 = true := by decide +kernel
set_option maxRecDepth 100000 in
set_option maxHeartbeats 4000000 in
theorem xo_16 : xi_ca 16 0 xt_16 xh_16 = true := by decide +kernel
set_option maxRecDepth 100000 in
set_option maxHeartbeats 4000000 in
theorem xo_17 : xi_ca 17 0 xt_17 xh_17 = true := by decide +kernel
set_option maxRecDepth 100000 in
set_option maxHeartbeats 4000000 in
theorem xo_18 : xi_ca 18 0 xt_18 xh_18 = true := by decide +kernel
set_option maxRecDepth 100000 in
set_option maxHeartbeats 4000000 in
theorem xo_19 : xi_ca 19 0 xt_19 xh_19 = true := by decide +kernel
set_option maxRecDepth 100000 in
set_option maxHeartbeats 4000000 in
theorem xo_20 : xi_ca 20 0 xt_20 xh_20 = true := by decide +kernel
set_option maxRecDepth 100000 in
set_option maxHeartbeats 4000000 in
theorem xo_21 : xi_ca 21 0 xt_21 xh_21 = true := by decide +kernel
set_option maxRecDepth 100000 in
set_option maxHeartbeats 4000000 in
theorem xo_22 : xi_ca 22 0 xt_22 xh_22 = true := by decide +kernel
set_option maxRecDepth 100000 in
set_option maxHeartbeats 4000000 in
theorem xo_23 : xi_ca 23 0 xt_23 xh_23 = true := by decide +kernel
set_option maxRecDepth 100000 in
set_option maxHeartbeats 4000000 in
theorem xo_24 : xi_ca 24 0 xt_24 xh_24 = true := by decide +kernel
set_option maxRecDepth 100000 in
set_option maxHeartbeats 4000000 in
theorem xo_25 : xi_ca 25 0 xt_25 xh_25 = true := by decide +kernel
set_option maxRecDepth 100000 in
set_option maxHeartbeats 4000000 in
theorem xo_26 : xi_ca 26 0 xt_26 xh_26 = true := by decide +kernel
set_option maxRecDepth 100000 in
set_option maxHeartbeats 4000000 in
theorem xo_27 : xi_ca 27 0 xt_27 xh_27 = true := by decide +kernel
set_option maxRecDepth 100000 in
set_option maxHeartbeats 4000000 in
theorem xo_28 : xi_ca 28 0 xt_28 xh_28 = true := by decide +kernel
set_option maxRecDepth 100000 in
set_option maxHeartbeats 4000000 in
theorem xo_29 : xi_ca 29 0 xt_29 xh_29 = true := by decide +kernel
set_option maxRecDepth 100000 in
set_option maxHeartbeats 4000000 in
theorem xo_30 : xi_ca 30 0 xt_30 xh_30 = true := by decide +kernel
set_option maxRecDepth 100000 in
set_option maxHeartbeats 4000000 in
theorem xo_31 : xi_ca 31 0 xt_31 xh_31 = true := by decide +kernel
set_option maxRecDepth 100000 in
set_option maxHeartbeats 4000000 in
theorem xo_32 : xi_ca 32 0 xt_32 xh_32 = true := by decide +kernel
set_option maxRecDepth 100000 in
set_option maxHeartbeats 4000000 in
theorem xo_33 : xi_ca 33 0 xt_33 xh_33 = true := by decide +kernel
set_option maxRecDepth 100000 in
set_option maxHeartbeats 4000000 in
theorem xo_34 : xi_ca 34 0 xt_34 xh_34 = true := by decide +kernel
set_option maxRecDepth 100000 in
set_option maxHeartbeats 4000000 in
theorem xo_35 : xi_ca 35 0 xt_35 xh_35 = true := by decide +kernel
set_option maxRecDepth 100000 in
set_option maxHeartbeats 4000000 in
theorem xo_36 : xi_ca 36 0 xt_36 xh_36 = true := by decide +kernel
set_option maxRecDepth 100000 in
set_option maxHeartbeats 4000000 in
theorem xo_37 : xi_ca 37 0 xt_37 xh_37 = true := by decide +kernel
set_option maxRecDepth 100000 in
set_option maxHeartbeats 4000000 in
theorem xo_38 : xi_ca 38 0 xt_38 xh_38 = true := by decide +kernel
set_option maxRecDepth 100000 in
set_option maxHeartbeats 4000000 in
theorem xo_39 : xi_ca 39 0 xt_39 xh_39 = true := by decide +kernel
set_option maxRecDepth 100000 in
set_option maxHeartbeats 4000000 in
theorem xo_40 : xi_ca 40 0 xt_40 xh_40 = true := by decide +kernel
set_option maxRecDepth 100000 in
set_option maxHeartbeats 4000000 in
theorem xo_41 : xi_ca 41 0 xt_41 xh_41 = true := by decide +kernel
set_option maxRecDepth 100000 in
set_option maxHeartbeats 4000000 in
theorem xo_42 : xi_ca 42 0 xt_42 xh_42 = true := by decide +kernel
set_option maxRecDepth 100000 in
set_option maxHeartbeats 4000000 in
theorem xo_43 : xi_ca 43 0 xt_43 xh_43 = true := by decide +kernel
set_option maxRecDepth 100000 in
set_option maxHeartbeats 4000000 in
theorem xo_44 : xi_ca 44 0 xt_44 xh_44 = true := by decide +kernel
set_option maxRecDepth 100000 in
set_option maxHeartbeats 4000000 in
theorem xo_45 : xi_ca 45 0 xt_45 xh_45 = true := by decide +kernel
set_option maxRecDepth 100000 in
set_option maxHeartbeats 4000000 in
theorem xo_46 : xi_ca 46 0 xt_46 xh_46 = true := by decide +kernel
set_option maxRecDepth 100000 in
set_option maxHeartbeats 4000000 in
theorem xo_47 : xi_ca 47 0 xt_47 xh_47 = true := by decide +kernel
set_option maxRecDepth 100000 in
set_option maxHeartbeats 4000000 in
theorem xo_48 : xi_ca 48 0 xt_48 xh_48 = true := by decide +kernel
set_option maxRecDepth 100000 in
set_option maxHeartbeats 4000000 in
theorem xo_49 : xi_ca 49 0 xt_49 xh_49 = true := by decide +kernel
set_option maxRecDepth 100000 in
set_option maxHeartbeats 4000000 in
theorem xo_50 : xi_ca 50 0 xt_50 xh_50 = true := by decide +kernel
set_option maxRecDepth 100000 in
set_option maxHeartbeats 4000000 in
theorem xo_51 : xi_ca 51 0 xt_51 xh_51 = true := by decide +kernel
set_option maxRecDepth 100000 in
set_option maxHeartbeats 4000000 in
theorem xo_52 : xi_ca 52 0 xt_52 xh_52 = true := by decide +kernel
set_option maxRecDepth 100000 in
set_option maxHeartbeats 4000000 in
theorem xo_53 : xi_ca 53 0 xt_53 xh_53 = true := by decide +kernel
set_option maxRecDepth 100000 in
set_option maxHeartbeats 4000000 in
theorem xo_54 : xi_ca 54 0 xt_54 xh_54 = true := by decide +kernel
set_option maxRecDepth 100000 in
set_option maxHeartbeats 4000000 in
theorem xo_55 : xi_ca 55 0 xt_55 xh_55 = true := by decide +kernel
set_option maxRecDepth 100000 in
set_option maxHeartbeats 4000000 in
theorem xo_56 : xi_ca 56 0 xt_56 xh_56 = true := by decide +kernel
set_option maxRecDepth 100000 in
set_option maxHeartbeats 4000000 in
theorem xo_57 : xi_ca 57 0 xt_57 xh_57 = true := by decide +kernel
set_option maxRecDepth 100000 in
set_option maxHeartbeats 4000000 in
theorem xo_58 : xi_ca 58 0 xt_58 xh_58 = true := by decide +kernel
set_option maxRecDepth 100000 in
set_option maxHeartbeats 4000000 in
theorem xo_59 : xi_ca 59 0 xt_59 xh_59 = true := by decide +kernel
set_option maxRecDepth 100000 in
set_option maxHeartbeats 4000000 in
theorem xo_60 : xi_ca 60 0 xt_60 xh_60 = true := by decide +kernel
set_option maxRecDepth 100000 in
set_option maxHeartbeats 4000000 in
theorem xo_61 : xi_ca 61 0 xt_61 xh_61 = true := by decide +kernel
set_option maxRecDepth 100000 in
set_option maxHeartbeats 4000000 in
theorem xo_62 : xi_ca 62 0 xt_62 xh_62 = true := by decide +kernel
set_option maxRecDepth 100000 in
set_option maxHeartbeats 4000000 in
theorem xo_63 : xi_ca 63 0 xt_63 xh_63 = true := by decide +kernel
set_option maxRecDepth 100000 in
set_option maxHeartbeats 4000000 in
theorem xo_64 : xi_ca 64 0 xt_64 xh_64 = true := by decide +kernel
set_option maxRecDepth 100000 in
set_option maxHeartbeats 4000000 in
theorem xo_65 : xi_ca 65 0 xt_65 xh_65 = true := by decide +kernel
set_option maxRecDepth 100000 in
set_option maxHeartbeats 4000000 in
theorem xo_66 : xi_ca 66 0 xt_66 xh_66 = true := by decide +kernel
set_option maxRecDepth 100000 in
set_option maxHeartbeats 4000000 in
theorem xo_67 : xi_ca 67 0 xt_67 xh_67 = true := by decide +kernel
set_option maxRecDepth 100000 in
set_option maxHeartbeats 4000000 in
theorem xo_68 : xi_ca 68 0 xt_68 xh_68 = true := by decide +kernel
set_option maxRecDepth 100000 in
set_option maxHeartbeats 4000000 in
theorem xo_69 : xi_ca 69 0 xt_69 xh_69 = true := by decide +kernel
set_option maxRecDepth 100000 in
set_option maxHeartbeats 4000000 in
theorem xo_70 : xi_ca 70 0 xt_70 xh_70 = true := by decide +kernel
set_option maxRecDepth 100000 in
set_option maxHeartbeats 4000000 in
theorem xo_71 : xi_ca 71 0 xt_71 xh_71 = true := by decide +kernel
set_option maxRecDepth 100000 in
set_option maxHeartbeats 4000000 in
theorem xo_72 : xi_ca 72 0 xt_72 xh_72 = true := by decide +kernel
set_option maxRecDepth 100000 in
set_option maxHeartbeats 4000000 in
theorem xo_73 : xi_ca 73 0 xt_73 xh_73 = true := by decide +kernel
set_option maxRecDepth 100000 in
set_option maxHeartbeats 4000000 in
theorem xo_74 : xi_ca 74 0 xt_74 xh_74 = true := by decide +kernel
set_option maxRecDepth 100000 in
set_option maxHeartbeats 4000000 in
theorem xo_75 : xi_ca 75 0 xt_75 xh_75 = true := by decide +kernel
set_option maxRecDepth 100000 in
set_option maxHeartbeats 4000000 in
theorem xo_76 : xi_ca 76 0 xt_76 xh_76 = true := by decide +kernel
set_option maxRecDepth 100000 in
set_option maxHeartbeats 4000000 in
theorem xo_77 : xi_ca 77 0 xt_77 xh_77 = true := by decide +kernel
set_option maxRecDepth 100000 in
set_option maxHeartbeats 4000000 in
theorem xo_78 : xi_ca 78 0 xt_78 xh_78 = true := by decide +kernel
set_option maxRecDepth 100000 in
set_option maxHeartbeats 4000000 in
theorem xo_79 : xi_ca 79 0 xt_79 xh_79 = true := by decide +kernel
set_option maxRecDepth 100000 in
set_option maxHeartbeats 4000000 in
theorem xo_80 : xi_ca 80 0 xt_80 xh_80 = true := by decide +kernel
set_option maxRecDepth 100000 in
set_option maxHeartbeats 4000000 in
theorem xo_81 : xi_ca 81 0 xt_81 xh_81 = true := by decide +kernel
set_option maxRecDepth 100000 in
set_option maxHeartbeats 4000000 in
theorem xo_82 : xi_ca 82 0 xt_82 xh_82 = true := by decide +kernel
set_option maxRecDepth 100000 in
set_option maxHeartbeats 4000000 in
theorem xo_83 : xi_ca 83 0 xt_83 xh_83 = true := by decide +kernel
set_option maxRecDepth 100000 in
set_option maxHeartbeats 4000000 in
theorem xo_84 : xi_ca 84 0 xt_84 xh_84 = true := by decide +kernel
set_option maxRecDepth 100000 in
set_option maxHeartbeats 4000000 in
theorem xo_85 : xi_ca 85 0 xt_85 xh_85 = true := by decide +kernel
set_option maxRecDepth 100000 in
set_option maxHeartbeats 4000000 in
theorem xo_86 : xi_ca 86 0 xt_86 xh_86 = true := by decide +kernel
set_option maxRecDepth 100000 in
set_option maxHeartbeats 4000000 in
theorem xo_87 : xi_ca 87 0 xt_87 xh_87 = true := by decide +kernel
set_option maxRecDepth 100000 in
set_option maxHeartbeats 4000000 in
theorem xo_88 : xi_ca 88 0 xt_88 xh_88 = true := by decide +kernel
set_option maxRecDepth 100000 in
set_option maxHeartbeats 4000000 in
theorem xo_89 : xi_ca 89 0 xt_89 xh_89 = true := by decide +kernel
set_option maxRecDepth 100000 in
set_option maxHeartbeats 4000000 in
theorem xo_90 : xi_ca 90 0 xt_90 xh_90 = true := by decide +kernel
set_option maxRecDepth 100000 in
set_option maxHeartbeats 4000000 in
theorem xo_91 : xi_ca 91 0 xt_91 xh_91 = true := by decide +kernel
set_option maxRecDepth 100000 in
set_option maxHeartbeats 4000000 in
theorem xo_92 : xi_ca 92 0 xt_92 xh_92 = true := by decide +kernel
set_option maxRecDepth 100000 in
set_option maxHeartbeats 4000000 in
theorem xo_93 : xi_ca 93 0 xt_93 xh_93 = true := by decide +kernel
set_option maxRecDepth 100000 in
set_option maxHeartbeats 4000000 in
theorem xo_94 : xi_ca 94 0 xt_94 xh_94 = true := by decide +kernel
set_option maxRecDepth 100000 in
set_option maxHeartbeats 4000000 in
theorem xo_95 : xi_ca 95 0 xt_95 xh_95 = true := by decide +kernel
set_option maxRecDepth 100000 in
set_option maxHeartbeats 4000000 in
theorem xo_96 : xi_ca 96 0 xt_96 xh_96 = true := by decide +kernel
set_option maxRecDepth 100000 in
set_option maxHeartbeats 4000000 in
theorem xo_97 : xi_ca 97 0 xt_97 xh_97 = true := by decide +kernel
set_option maxRecDepth 100000 in
set_option maxHeartbeats 4000000 in
theorem xo_98 : xi_ca 98 0 xt_98 xh_98 = true := by decide +kernel
set_option maxRecDepth 100000 in
set_option maxHeartbeats 4000000 in
theorem xo_99 : xi_ca 99 0 xt_99 xh_99 = true := by decide +kernel
set_option maxRecDepth 100000 in
set_option maxHeartbeats 4000000 in
theorem xo_100 : xi_ca 100 0 xt_100 xh_100 = true := by decide +kernel
set_option maxRecDepth 100000 in
set_option maxHeartbeats 4000000 in
theorem xo_101 : xi_ca 101 0 xt_101 xh_101 = true := by decide +kernel
set_option maxRecDepth 100000 in
set_option maxHeartbeats 4000000 in
theorem xo_102 : xi_ca 102 0 xt_102 xh_102 = true := by decide +kernel
set_option maxRecDepth 100000 in
set_option maxHeartbeats 4000000 in
theorem xo_103 : xi_ca 103 0 xt_103 xh_103 = true := by decide +kernel
set_option maxRecDepth 100000 in
set_option maxHeartbeats 4000000 in
theorem xo_104 : xi_ca 104 0 xt_104 xh_104 = true := by decide +kernel
set_option maxRecDepth 100000 in
set_option maxHeartbeats 4000000 in
theorem xo_105 : xi_ca 105 0 xt_105 xh_105 = true := by decide +kernel
set_option maxRecDepth 100000 in
set_option maxHeartbeats 4000000 in
theorem xo_106 : xi_ca 106 0 xt_106 xh_106 = true := by decide +kernel
set_option maxRecDepth 100000 in
set_option maxHeartbeats 4000000 in
theorem xo_107 : xi_ca 107 0 xt_107 xh_107 = true := by decide +kernel
set_option maxRecDepth 100000 in
set_option maxHeartbeats 4000000 in
theorem xo_108 : xi_ca 108 0 xt_108 xh_108 = true := by decide +kernel
set_option maxRecDepth 100000 in
set_option maxHeartbeats 4000000 in
theorem xo_109 : xi_ca 109 0 xt_109 xh_109 = true := by decide +kernel
set_option maxRecDepth 100000 in
set_option maxHeartbeats 4000000 in
theorem xo_110 : xi_ca 110 0 xt_110 xh_110 = true := by decide +kernel
set_option maxRecDepth 100000 in
set_option maxHeartbeats 4000000 in
theorem xo_111 : xi_ca 111 0 xt_111 xh_111 = true := by decide +kernel
set_option maxRecDepth 100000 in
set_option maxHeartbeats 4000000 in
theorem xo_112 : xi_ca 112 0 xt_112 xh_112 = true := by decide +kernel
set_option maxRecDepth 100000 in
set_option maxHeartbeats 4000000 in
theorem xo_113 : xi_ca 113 0 xt_113 xh_113 = true := by decide +kernel
set_option maxRecDepth 100000 in
set_option maxHeartbeats 4000000 in
theorem xo_114 : xi_ca 114 0 xt_114 xh_114 = true := by decide +kernel
set_option maxRecDepth 100000 in
set_option maxHeartbeats 4000000 in
theorem xo_115 : xi_ca 115 0 xt_115 xh_115 = true := by decide +kernel
set_option maxRecDepth 100000 in
set_option maxHeartbeats 4000000 in
theorem xo_116 : xi_ca 116 0 xt_116 xh_116 = true := by decide +kernel
end
section
def xi_run (F : Nat) : Nat → xi_F
  | 0 => fun _ _ _ => none
  | d + 1 => fun k vs aw => match xi_tbs[k]? with
    | some q => (match Nat.ble (xi_en vs).length q.1 with
      | true => xi_go (xi_run F d) q.2 F 0 (xi_pd q.1 vs) [] aw
      | false => none)
    | none => none

/-! what comes out, with fuel enough -/
def xe (d : Nat) (tb : List (Option xi_E)) (pc : Nat) (L : xi_L) (st : List Value) (aw : xi_W) (x : xi_R) : Prop := ∃ N : Nat, ∀ n F : Nat, N ≤ n → N ≤ F → xi_go (xi_run F d) tb n pc L st aw = some x
def xm (d k : Nat) (vs : List Value) (aw : xi_W) (x : xi_R) : Prop := ∃ N : Nat, ∀ F : Nat, N ≤ F → xi_run F d k vs aw = some x
section XE
variable {d : Nat} {tb : List (Option xi_E)} {pc p1 p2 : Nat} {L L1 L2 : xi_L} {st s1 s2 : List Value} {aw w1 w2 : xi_W} {x : xi_R}
theorem xe_seq (m : Nat) (h : ∀ n F : Nat, xi_go (xi_run F d) tb (n + m) pc L st aw = xi_go (xi_run F d) tb n p1 L1 s1 w1) (k : xe d tb p1 L1 s1 w1 x) : xe d tb pc L st aw x := by
  obtain ⟨N, hN⟩ := k
  refine ⟨N + m, fun n F h1 h2 => ?_⟩
  obtain ⟨j, rfl⟩ : ∃ j, n = j + m := ⟨n - m, by omega⟩
  rw [h]
  exact hN j F (by omega) (by omega)
theorem xe_ite {c : Prop} [Decidable c] (m : Nat) (h : ∀ n F : Nat, xi_go (xi_run F d) tb (n + m) pc L st aw = if c then xi_go (xi_run F d) tb n p1 L1 s1 w1 else xi_go (xi_run F d) tb n p2 L2 s2 w2) (k1 : c → xe d tb p1 L1 s1 w1 x) (k2 : ¬ c → xe d tb p2 L2 s2 w2 x) : xe d tb pc L st aw x := by
  by_cases hc : c
  · exact xe_seq m (fun n F => by rw [h, if_pos hc]) (k1 hc)
  · exact xe_seq m (fun n F => by rw [h, if_neg hc]) (k2 hc)
theorem xe_if {c : Prop} [Decidable c] (m : Nat) (h : ∀ n F : Nat, xi_go (xi_run F d) tb (n + m) pc L st aw = if c then xi_go (xi_run F d) tb n p1 L1 s1 w1 else none) (hc : c) (k1 : xe d tb p1 L1 s1 w1 x) : xe d tb pc L st aw x :=
  xe_seq m (fun n F => by rw [h, if_pos hc]) k1
theorem xe_nif {c : Prop} [Decidable c] (m : Nat) (h : ∀ n F : Nat, xi_go (xi_run F d) tb (n + m) pc L st aw = if c then none else xi_go (xi_run F d) tb n p1 L1 s1 w1) (hc : ¬ c) (k1 : xe d tb p1 L1 s1 w1 x) : xe d tb pc L st aw x :=
  xe_seq m (fun n F => by rw [h, if_neg hc]) k1
theorem xe_call {k : Nat} {vs rest : List Value} {y : xi_R} (m : Nat) (h : ∀ n F : Nat, xi_go (xi_run F d) tb (n + m) pc L st aw = xi_bd (xi_run F d k vs w1) (fun y => xi_go (xi_run F d) tb n p1 L1 (y.1.toList ++ rest) y.2)) (hm : xm d k vs w1 y) (kk : xe d tb p1 L1 (y.1.toList ++ rest) y.2 x) : xe d tb pc L st aw x := by
  obtain ⟨N, hN⟩ := kk
  obtain ⟨M, hM⟩ := hm
  refine ⟨N + m + M, fun n F h1 h2 => ?_⟩
  obtain ⟨j, rfl⟩ : ∃ j, n = j + m := ⟨n - m, by omega⟩
  rw [h, hM F (by omega)]
  exact hN j F (by omega) (by omega)
theorem xe_ret (m : Nat) (h : ∀ n F : Nat, xi_go (xi_run F d) tb (n + m) pc L st aw = some x) : xe d tb pc L st aw x := by
  refine ⟨m, fun n F h1 _ => ?_⟩
  obtain ⟨j, rfl⟩ : ∃ j, n = j + m := ⟨n - m, by omega⟩
  exact h j F
theorem xe_rif {c : Prop} [Decidable c] (m : Nat) (h : ∀ n F : Nat, xi_go (xi_run F d) tb (n + m) pc L st aw = if c then some x else none) (hc : c) : xe d tb pc L st aw x :=
  xe_ret m (fun n F => by rw [h, if_pos hc])
theorem xm_of {k nL : Nat} {vs : List Value} (ht : xi_tbs[k]? = some (nL, tb)) (hl : Nat.ble (xi_en vs).length nL = true) (h : xe d tb 0 (xi_pd nL vs) [] aw x) : xm (d + 1) k vs aw x := by
  obtain ⟨N, hN⟩ := h
  refine ⟨N, fun F hF => ?_⟩
  show (match xi_tbs[k]? with
    | some q => (match Nat.ble (xi_en vs).length q.1 with
      | true => xi_go (xi_run F d) q.2 F 0 (xi_pd q.1 vs) [] aw
      | false => none)
    | none => none) = some x
  rw [ht]
  show (match Nat.ble (xi_en vs).length nL with
      | true => xi_go (xi_run F d) tb F 0 (xi_pd nL vs) [] aw
      | false => none) = some x
  rw [hl]
  exact hN F F hF hF
end XE
/-! What the evaluator computes is a contract. -/
set_option maxRecDepth 100000 in
theorem xo_all : ∀ (k nL : Nat) (tb : List (Option xi_E)), xi_tbs[k]? = some (nL, tb) → (∃ hs : List Nat, xi_ca k 0 tb hs = true) ∧ nL = mL k ∧ k < 117 ∧ xi_FK k := by
  intro k nL tb h
  match k, h with
  | 0, h => cases h; exact ⟨⟨xh_0, xo_0⟩, rfl, by decide, xf_0⟩
  | 1, h => cases h; exact ⟨⟨xh_1, xo_1⟩, rfl, by decide, xf_1⟩
  | 2, h => cases h; exact ⟨⟨xh_2, xo_2⟩, rfl, by decide, xf_2⟩
  | 3, h => cases h; exact ⟨⟨xh_3, xo_3⟩, rfl, by decide, xf_3⟩
  | 4, h => cases h; exact ⟨⟨xh_4, xo_4⟩, rfl, by decide, xf_4⟩
  | 5, h => cases h; exact ⟨⟨xh_5, xo_5⟩, rfl, by decide, xf_5⟩
  | 6, h => cases h; exact ⟨⟨xh_6, xo_6⟩, rfl, by decide, xf_6⟩
  | 7, h => cases h; exact ⟨⟨xh_7, xo_7⟩, rfl, by decide, xf_7⟩
  | 8, h => cases h; exact ⟨⟨xh_8, xo_8⟩, rfl, by decide, xf_8⟩
  | 9, h => cases h; exact ⟨⟨xh_9, xo_9⟩, rfl, by decide, xf_9⟩
  | 10, h => cases h; exact ⟨⟨xh_10, xo_10⟩, rfl, by decide, xf_10⟩
  | 11, h => cases h; exact ⟨⟨xh_11, xo_11⟩, rfl, by decide, xf_11⟩
  | 12, h => cases h; exact ⟨⟨xh_12, xo_12⟩, rfl, by decide, xf_12⟩
  | 13, h => cases h; exact ⟨⟨xh_13, xo_13⟩, rfl, by decide, xf_13⟩
  | 14, h => cases h; exact ⟨⟨xh_14, xo_14⟩, rfl, by decide, xf_14⟩
  | 15, h => cases h; exact ⟨⟨xh_15, xo_15⟩, rfl, by decide, xf_15⟩
  | 16, h => cases h; exact ⟨⟨xh_16, xo_16⟩, rfl, by decide, xf_16⟩
  | 17, h => cases h; exact ⟨⟨xh_17, xo_17⟩, rfl, by decide, xf_17⟩
  | 18, h => cases h; exact ⟨⟨xh_18, xo_18⟩, rfl, by decide, xf_18⟩
  | 19, h => cases h; exact ⟨⟨xh_19, xo_19⟩, rfl, by decide, xf_19⟩
  | 20, h => cases h; exact ⟨⟨xh_20, xo_20⟩, rfl, by decide, xf_20⟩
  | 21, h => cases h; exact ⟨⟨xh_21, xo_21⟩, rfl, by decide, xf_21⟩
  | 22, h => cases h; exact ⟨⟨xh_22, xo_22⟩, rfl, by decide, xf_22⟩
  | 23, h => cases h; exact ⟨⟨xh_23, xo_23⟩, rfl, by decide, xf_23⟩
  | 24, h => cases h; exact ⟨⟨xh_24, xo_24⟩, rfl, by decide, xf_24⟩
  | 25, h => cases h; exact ⟨⟨xh_25, xo_25⟩, rfl, by decide, xf_25⟩
  | 26, h => cases h; exact ⟨⟨xh_26, xo_26⟩, rfl, by decide, xf_26⟩
  | 27, h => cases h; exact ⟨⟨xh_27, xo_27⟩, rfl, by decide, xf_27⟩
  | 28, h => cases h; exact ⟨⟨xh_28, xo_28⟩, rfl, by decide, xf_28⟩
  | 29, h => cases h; exact ⟨⟨xh_29, xo_29⟩, rfl, by decide, xf_29⟩
  | 30, h => cases h; exact ⟨⟨xh_30, xo_30⟩, rfl, by decide, xf_30⟩
  | 31, h => cases h; exact ⟨⟨xh_31, xo_31⟩, rfl, by decide, xf_31⟩
  | 32, h => cases h; exact ⟨⟨xh_32, xo_32⟩, rfl, by decide, xf_32⟩
  | 33, h => cases h; exact ⟨⟨xh_33, xo_33⟩, rfl, by decide, xf_33⟩
  | 34, h => cases h; exact ⟨⟨xh_34, xo_34⟩, rfl, by decide, xf_34⟩
  | 35, h => cases h; exact ⟨⟨xh_35, xo_35⟩, rfl, by decide, xf_35⟩
  | 36, h => cases h; exact ⟨⟨xh_36, xo_36⟩, rfl, by decide, xf_36⟩
  | 37, h => cases h; exact ⟨⟨xh_37, xo_37⟩, rfl, by decide, xf_37⟩
  | 38, h => cases h; exact ⟨⟨xh_38, xo_38⟩, rfl, by decide, xf_38⟩
  | 39, h => cases h; exact ⟨⟨xh_39, xo_39⟩, rfl, by decide, xf_39⟩
  | 40, h => cases h; exact ⟨⟨xh_40, xo_40⟩, rfl, by decide, xf_40⟩
  | 41, h => cases h; exact ⟨⟨xh_41, xo_41⟩, rfl, by decide, xf_41⟩
  | 42, h => cases h; exact ⟨⟨xh_42, xo_42⟩, rfl, by decide, xf_42⟩
  | 43, h => cases h; exact ⟨⟨xh_43, xo_43⟩, rfl, by decide, xf_43⟩
  | 44, h => cases h; exact ⟨⟨xh_44, xo_44⟩, rfl, by decide, xf_44⟩
  | 45, h => cases h; exact ⟨⟨xh_45, xo_45⟩, rfl, by decide, xf_45⟩
  | 46, h => cases h; exact ⟨⟨xh_46, xo_46⟩, rfl, by decide, xf_46⟩
  | 47, h => cases h; exact ⟨⟨xh_47, xo_47⟩, rfl, by decide, xf_47⟩
  | 48, h => cases h; exact ⟨⟨xh_48, xo_48⟩, rfl, by decide, xf_48⟩
  | 49, h => cases h; exact ⟨⟨xh_49, xo_49⟩, rfl, by decide, xf_49⟩
  | 50, h => cases h; exact ⟨⟨xh_50, xo_50⟩, rfl, by decide, xf_50⟩
  | 51, h => cases h; exact ⟨⟨xh_51, xo_51⟩, rfl, by decide, xf_51⟩
  | 52, h => cases h; exact ⟨⟨xh_52, xo_52⟩, rfl, by decide, xf_52⟩
  | 53, h => cases h; exact ⟨⟨xh_53, xo_53⟩, rfl, by decide, xf_53⟩
  | 54, h => cases h; exact ⟨⟨xh_54, xo_54⟩, rfl, by decide, xf_54⟩
  | 55, h => cases h; exact ⟨⟨xh_55, xo_55⟩, rfl, by decide, xf_55⟩
  | 56, h => cases h; exact ⟨⟨xh_56, xo_56⟩, rfl, by decide, xf_56⟩
  | 57, h => cases h; exact ⟨⟨xh_57, xo_57⟩, rfl, by decide, xf_57⟩
  | 58, h => cases h; exact ⟨⟨xh_58, xo_58⟩, rfl, by decide, xf_58⟩
  | 59, h => cases h; exact ⟨⟨xh_59, xo_59⟩, rfl, by decide, xf_59⟩
  | 60, h => cases h; exact ⟨⟨xh_60, xo_60⟩, rfl, by decide, xf_60⟩
  | 61, h => cases h; exact ⟨⟨xh_61, xo_61⟩, rfl, by decide, xf_61⟩
  | 62, h => cases h; exact ⟨⟨xh_62, xo_62⟩, rfl, by decide, xf_62⟩
  | 63, h => cases h; exact ⟨⟨xh_63, xo_63⟩, rfl, by decide, xf_63⟩
  | 64, h => cases h; exact ⟨⟨xh_64, xo_64⟩, rfl, by decide, xf_64⟩
  | 65, h => cases h; exact ⟨⟨xh_65, xo_65⟩, rfl, by decide, xf_65⟩
  | 66, h => cases h; exact ⟨⟨xh_66, xo_66⟩, rfl, by decide, xf_66⟩
  | 67, h => cases h; exact ⟨⟨xh_67, xo_67⟩, rfl, by decide, xf_67⟩
  | 68, h => cases h; exact ⟨⟨xh_68, xo_68⟩, rfl, by decide, xf_68⟩
  | 69, h => cases h; exact ⟨⟨xh_69, xo_69⟩, rfl, by decide, xf_69⟩
  | 70, h => cases h; exact ⟨⟨xh_70, xo_70⟩, rfl, by decide, xf_70⟩
  | 71, h => cases h; exact ⟨⟨xh_71, xo_71⟩, rfl, by decide, xf_71⟩
  | 72, h => cases h; exact ⟨⟨xh_72, xo_72⟩, rfl, by decide, xf_72⟩
  | 73, h => cases h; exact ⟨⟨xh_73, xo_73⟩, rfl, by decide, xf_73⟩
  | 74, h => cases h; exact ⟨⟨xh_74, xo_74⟩, rfl, by decide, xf_74⟩
  | 75, h => cases h; exact ⟨⟨xh_75, xo_75⟩, rfl, by decide, xf_75⟩
  | 76, h => cases h; exact ⟨⟨xh_76, xo_76⟩, rfl, by decide, xf_76⟩
  | 77, h => cases h; exact ⟨⟨xh_77, xo_77⟩, rfl, by decide, xf_77⟩
  | 78, h => cases h; exact ⟨⟨xh_78, xo_78⟩, rfl, by decide, xf_78⟩
  | 79, h => cases h; exact ⟨⟨xh_79, xo_79⟩, rfl, by decide, xf_79⟩
  | 80, h => cases h; exact ⟨⟨xh_80, xo_80⟩, rfl, by decide, xf_80⟩
  | 81, h => cases h; exact ⟨⟨xh_81, xo_81⟩, rfl, by decide, xf_81⟩
  | 82, h => cases h; exact ⟨⟨xh_82, xo_82⟩, rfl, by decide, xf_82⟩
  | 83, h => cases h; exact ⟨⟨xh_83, xo_83⟩, rfl, by decide, xf_83⟩
  | 84, h => cases h; exact ⟨⟨xh_84, xo_84⟩, rfl, by decide, xf_84⟩
  | 85, h => cases h; exact ⟨⟨xh_85, xo_85⟩, rfl, by decide, xf_85⟩
  | 86, h => cases h; exact ⟨⟨xh_86, xo_86⟩, rfl, by decide, xf_86⟩
  | 87, h => cases h; exact ⟨⟨xh_87, xo_87⟩, rfl, by decide, xf_87⟩
  | 88, h => cases h; exact ⟨⟨xh_88, xo_88⟩, rfl, by decide, xf_88⟩
  | 89, h => cases h; exact ⟨⟨xh_89, xo_89⟩, rfl, by decide, xf_89⟩
  | 90, h => cases h; exact ⟨⟨xh_90, xo_90⟩, rfl, by decide, xf_90⟩
  | 91, h => cases h; exact ⟨⟨xh_91, xo_91⟩, rfl, by decide, xf_91⟩
  | 92, h => cases h; exact ⟨⟨xh_92, xo_92⟩, rfl, by decide, xf_92⟩
  | 93, h => cases h; exact ⟨⟨xh_93, xo_93⟩, rfl, by decide, xf_93⟩
  | 94, h => cases h; exact ⟨⟨xh_94, xo_94⟩, rfl, by decide, xf_94⟩
  | 95, h => cases h; exact ⟨⟨xh_95, xo_95⟩, rfl, by decide, xf_95⟩
  | 96, h => cases h; exact ⟨⟨xh_96, xo_96⟩, rfl, by decide, xf_96⟩
  | 97, h => cases h; exact ⟨⟨xh_97, xo_97⟩, rfl, by decide, xf_97⟩
  | 98, h => cases h; exact ⟨⟨xh_98, xo_98⟩, rfl, by decide, xf_98⟩
  | 99, h => cases h; exact ⟨⟨xh_99, xo_99⟩, rfl, by decide, xf_99⟩
  | 100, h => cases h; exact ⟨⟨xh_100, xo_100⟩, rfl, by decide, xf_100⟩
  | 101, h => cases h; exact ⟨⟨xh_101, xo_101⟩, rfl, by decide, xf_101⟩
  | 102, h => cases h; exact ⟨⟨xh_102, xo_102⟩, rfl, by decide, xf_102⟩
  | 103, h => cases h; exact ⟨⟨xh_103, xo_103⟩, rfl, by decide, xf_103⟩
  | 104, h => cases h; exact ⟨⟨xh_104, xo_104⟩, rfl, by decide, xf_104⟩
  | 105, h => cases h; exact ⟨⟨xh_105, xo_105⟩, rfl, by decide, xf_105⟩
  | 106, h => cases h; exact ⟨⟨xh_106, xo_106⟩, rfl, by decide, xf_106⟩
  | 107, h => cases h; exact ⟨⟨xh_107, xo_107⟩, rfl, by decide, xf_107⟩
  | 108, h => cases h; exact ⟨⟨xh_108, xo_108⟩, rfl, by decide, xf_108⟩
  | 109, h => cases h; exact ⟨⟨xh_109, xo_109⟩, rfl, by decide, xf_109⟩
  | 110, h => cases h; exact ⟨⟨xh_110, xo_110⟩, rfl, by decide, xf_110⟩
  | 111, h => cases h; exact ⟨⟨xh_111, xo_111⟩, rfl, by decide, xf_111⟩
  | 112, h => cases h; exact ⟨⟨xh_112, xo_112⟩, rfl, by decide, xf_112⟩
  | 113, h => cases h; exact ⟨⟨xh_113, xo_113⟩, rfl, by decide, xf_113⟩
  | 114, h => cases h; exact ⟨⟨xh_114, xo_114⟩, rfl, by decide, xf_114⟩
  | 115, h => cases h; exact ⟨⟨xh_115, xo_115⟩, rfl, by decide, xf_115⟩
  | 116, h => cases h; exact ⟨⟨xh_116, xo_116⟩, rfl, by decide, xf_116⟩
  | _ + 117, h => cases h
set_option maxRecDepth 100000 in
theorem xo_fks : ∀ k, k < 117 → xi_FK k := by
  intro k h
  match k, h with
  | 0, _ => exact xf_0
  | 1, _ => exact xf_1
  | 2, _ => exact xf_2
  | 3, _ => exact xf_3
  | 4, _ => exact xf_4
  | 5, _ => exact xf_5
  | 6, _ => exact xf_6
  | 7, _ => exact xf_7
  | 8, _ => exact xf_8
  | 9, _ => exact xf_9
  | 10, _ => exact xf_10
  | 11, _ => exact xf_11
  | 12, _ => exact xf_12
  | 13, _ => exact xf_13
  | 14, _ => exact xf_14
  | 15, _ => exact xf_15
  | 16, _ => exact xf_16
  | 17, _ => exact xf_17
  | 18, _ => exact xf_18
  | 19, _ => exact xf_19
  | 20, _ => exact xf_20
  | 21, _ => exact xf_21
  | 22, _ => exact xf_22
  | 23, _ => exact xf_23
  | 24, _ => exact xf_24
  | 25, _ => exact xf_25
  | 26, _ => exact xf_26
  | 27, _ => exact xf_27
  | 28, _ => exact xf_28
  | 29, _ => exact xf_29
  | 30, _ => exact xf_30
  | 31, _ => exact xf_31
  | 32, _ => exact xf_32
  | 33, _ => exact xf_33
  | 34, _ => exact xf_34
  | 35, _ => exact xf_35
  | 36, _ => exact xf_36
  | 37, _ => exact xf_37
  | 38, _ => exact xf_38
  | 39, _ => exact xf_39
  | 40, _ => exact xf_40
  | 41, _ => exact xf_41
  | 42, _ => exact xf_42
  | 43, _ => exact xf_43
  | 44, _ => exact xf_44
  | 45, _ => exact xf_45
  | 46, _ => exact xf_46
  | 47, _ => exact xf_47
  | 48, _ => exact xf_48
  | 49, _ => exact xf_49
  | 50, _ => exact xf_50
  | 51, _ => exact xf_51
  | 52, _ => exact xf_52
  | 53, _ => exact xf_53
  | 54, _ => exact xf_54
  | 55, _ => exact xf_55
  | 56, _ => exact xf_56
  | 57, _ => exact xf_57
  | 58, _ => exact xf_58
  | 59, _ => exact xf_59
  | 60, _ => exact xf_60
  | 61, _ => exact xf_61
  | 62, _ => exact xf_62
  | 63, _ => exact xf_63
  | 64, _ => exact xf_64
  | 65, _ => exact xf_65
  | 66, _ => exact xf_66
  | 67, _ => exact xf_67
  | 68, _ => exact xf_68
  | 69, _ => exact xf_69
  | 70, _ => exact xf_70
  | 71, _ => exact xf_71
  | 72, _ => exact xf_72
  | 73, _ => exact xf_73
  | 74, _ => exact xf_74
  | 75, _ => exact xf_75
  | 76, _ => exact xf_76
  | 77, _ => exact xf_77
  | 78, _ => exact xf_78
  | 79, _ => exact xf_79
  | 80, _ => exact xf_80
  | 81, _ => exact xf_81
  | 82, _ => exact xf_82
  | 83, _ => exact xf_83
  | 84, _ => exact xf_84
  | 85, _ => exact xf_85
  | 86, _ => exact xf_86
  | 87, _ => exact xf_87
  | 88, _ => exact xf_88
  | 89, _ => exact xf_89
  | 90, _ => exact xf_90
  | 91, _ => exact xf_91
  | 92, _ => exact xf_92
  | 93, _ => exact xf_93
  | 94, _ => exact xf_94
  | 95, _ => exact xf_95
  | 96, _ => exact xf_96
  | 97, _ => exact xf_97
  | 98, _ => exact xf_98
  | 99, _ => exact xf_99
  | 100, _ => exact xf_100
  | 101, _ => exact xf_101
  | 102, _ => exact xf_102
  | 103, _ => exact xf_103
  | 104, _ => exact xf_104
  | 105, _ => exact xf_105
  | 106, _ => exact xf_106
  | 107, _ => exact xf_107
  | 108, _ => exact xf_108
  | 109, _ => exact xf_109
  | 110, _ => exact xf_110
  | 111, _ => exact xf_111
  | 112, _ => exact xf_112
  | 113, _ => exact xf_113
  | 114, _ => exact xf_114
  | 115, _ => exact xf_115
  | 116, _ => exact xf_116
  | j + 117, h => exact absurd h (by omega)
theorem xi_sound (l : Launch) (F : Nat) : ∀ (d k : Nat) (vs : List Value) (aw : xi_W) (x : xi_R), xi_run F d k vs aw = some x → xi_Con l d k vs aw x := by
  intro d
  induction d with
  | zero => intro k vs aw x h; exact xi_no (show (none : Option xi_R) = some x from h)
  | succ d ih =>
    intro k vs aw x h
    rw [xi_run] at h
    dsimp only at h
    split at h
    · rename_i q hq
      obtain ⟨nL, tb⟩ := q
      split at h
      · rename_i hl
        obtain ⟨⟨hs, hca⟩, rfl, hk, hF⟩ := xo_all k nL tb hq
        exact xi_met ih (fun pc q hpc => by have := xi_ca_ok xo_fks tb hs 0 pc q hca hpc; rw [Nat.zero_add] at this; exact this) hF.2.2.2.2.2.2 rfl rfl (Nat.le_of_ble_eq_true hl) h
      · cases h
    · cases h
theorem xm_sound {l : Launch} {d k : Nat} {vs : List Value} {aw : xi_W} {x : xi_R} (h : xm d k vs aw x) : xi_Con l d k vs aw x := by
  obtain ⟨N, hN⟩ := h
  exact xi_sound l N d k vs aw x (hN N (Nat.le_refl _))
end
