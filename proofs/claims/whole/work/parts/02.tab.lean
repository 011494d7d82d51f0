/-! The methods, the classes, the world; by program out of javap's listing and the words of tables_1 -/
def mZ : List (MethodName × ByteArray × Nat × Option FieldType × Nat × Bool) := [(⟨"TimedCompiler", "type", "(J)Z"⟩, prog_1_method_2_code, 3, some .boolean, 1, false),
  (⟨"TimedCompiler", "wipe", "()V"⟩, prog_1_method_3_code, 1, none, 0, false),
  (⟨"TimedCompiler", "length", "()I"⟩, prog_1_method_4_code, 1, some .int, 0, false),
  (⟨"TimedCompiler", "compile", "()I"⟩, prog_1_method_5_code, 1, some .int, 0, false),
  (⟨"TimedCompiler", "code", "(II)I"⟩, prog_1_method_6_code, 3, some .int, 2, false),
  (⟨"TimedCompiler", "time", "()I"⟩, prog_1_method_7_code, 1, some .int, 0, false),
  (⟨"TimedCompiler", "depth", "()I"⟩, prog_1_method_8_code, 1, some .int, 0, false),
  (⟨"TimedCompiler", "procedure", "(II)I"⟩, prog_1_method_9_code, 3, some .int, 2, false),
  (⟨"TimedCompiler", "set", "(II)Z"⟩, prog_1_method_10_code, 3, some .boolean, 2, false),
  (⟨"TimedCompiler", "get", "(I)I"⟩, prog_1_method_11_code, 2, some .int, 1, false),
  (⟨"TimedCompiler", "run", "()I"⟩, prog_1_method_12_code, 1, some .int, 0, false),
  (⟨"TimedCompiler", "latest", "(I)I"⟩, prog_1_method_13_code, 2, some .int, 1, false),
  (⟨"TimedCompiler", "output", "(I)I"⟩, prog_1_method_14_code, 2, some .int, 1, false),
  (⟨"TimedCompiler", "needProgram", "()V"⟩, prog_1_method_15_code, 1, none, 0, false),
  (⟨"TimedCompiler$Parser", "begin", "()V"⟩, prog_5_method_2_code, 2, none, 0, false),
  (⟨"TimedCompiler$Parser", "readProgram", "()Z"⟩, prog_5_method_3_code, 3, some .boolean, 0, false),
  (⟨"TimedCompiler$Parser", "calledOnesAreThere", "()Z"⟩, prog_5_method_4_code, 2, some .boolean, 0, false),
  (⟨"TimedCompiler$Parser", "writeProgram", "()V"⟩, prog_5_method_5_code, 2, none, 0, false),
  (⟨"TimedCompiler$Parser", "writeUnit", "(II)V"⟩, prog_5_method_6_code, 3, none, 2, false),
  (⟨"TimedCompiler$Parser", "write", "(II)Z"⟩, prog_5_method_7_code, 3, some .boolean, 2, false),
  (⟨"TimedCompiler$Parser", "readBlock", "(I)Z"⟩, prog_5_method_8_code, 3, some .boolean, 1, false),
  (⟨"TimedCompiler$Parser", "readStatement", "(I)Z"⟩, prog_5_method_9_code, 4, some .boolean, 1, false),
  (⟨"TimedCompiler$Parser", "readChoice", "(I)Z"⟩, prog_5_method_10_code, 4, some .boolean, 1, false),
  (⟨"TimedCompiler$Parser", "readLoop", "(I)Z"⟩, prog_5_method_11_code, 5, some .boolean, 1, false),
  (⟨"TimedCompiler$Parser", "readValue", "(I)Z"⟩, prog_5_method_12_code, 2, some .boolean, 1, false),
  (⟨"TimedCompiler$Parser", "readSum", "(I)Z"⟩, prog_5_method_13_code, 4, some .boolean, 1, false),
  (⟨"TimedCompiler$Parser", "readProduct", "(I)Z"⟩, prog_5_method_14_code, 4, some .boolean, 1, false),
  (⟨"TimedCompiler$Parser", "readUnit", "(I)Z"⟩, prog_5_method_15_code, 4, some .boolean, 1, false),
  (⟨"TimedCompiler$Parser", "readInner", "(CI)Z"⟩, prog_5_method_16_code, 3, some .boolean, 2, false),
  (⟨"TimedCompiler$Text", "append", "(J)Z"⟩, prog_6_method_2_code, 6, some .boolean, 1, false),
  (⟨"TimedCompiler$Text", "countLetters", "(J)I"⟩, prog_6_method_3_code, 5, some .int, 1, true),
  (⟨"TimedCompiler$Text", "letterAt", "(I)C"⟩, prog_6_method_4_code, 2, some .char, 1, false),
  (⟨"TimedCompiler$Text", "isDigit", "(C)Z"⟩, prog_6_method_5_code, 1, some .boolean, 1, true),
  (⟨"TimedCompiler$Text", "atEnd", "()Z"⟩, prog_6_method_6_code, 1, some .boolean, 0, false),
  (⟨"TimedCompiler$Text", "sees", "(C)Z"⟩, prog_6_method_7_code, 2, some .boolean, 1, false),
  (⟨"TimedCompiler$Text", "takes", "(C)Z"⟩, prog_6_method_8_code, 2, some .boolean, 1, false),
  (⟨"TimedCompiler$Text", "takeOneOf", "(CI)I"⟩, prog_6_method_9_code, 4, some .int, 2, false),
  (⟨"TimedCompiler$Text", "countDigits", "()I"⟩, prog_6_method_10_code, 2, some .int, 0, false),
  (⟨"TimedCompiler$Text", "seesNumberAndBlock", "()Z"⟩, prog_6_method_11_code, 2, some .boolean, 0, false),
  (⟨"TimedCompiler$Text", "takeNumber", "()I"⟩, prog_6_method_12_code, 4, some .int, 0, false),
  (⟨"TimedCompiler$Code", "clear", "()V"⟩, prog_3_method_2_code, 2, none, 0, false),
  (⟨"TimedCompiler$Code", "copy", "(LTimedCompiler$Code;)V"⟩, prog_3_method_3_code, 2, none, 1, false),
  (⟨"TimedCompiler$Code", "add", "(II)I"⟩, prog_3_method_4_code, 4, some .int, 2, false),
  (⟨"TimedCompiler$Code", "aim", "(I)V"⟩, prog_3_method_5_code, 2, none, 1, false),
  (⟨"TimedCompiler$Code", "isTooLong", "()Z"⟩, prog_3_method_6_code, 1, some .boolean, 0, false),
  (⟨"TimedCompiler$Code", "has", "(I)Z"⟩, prog_3_method_7_code, 2, some .boolean, 1, false),
  (⟨"TimedCompiler$Code", "linkCalls", "()V"⟩, prog_3_method_8_code, 3, none, 0, false),
  (⟨"TimedCompiler$Code", "procedureAt", "(I)I"⟩, prog_3_method_9_code, 3, some .int, 1, false),
  (⟨"TimedCompiler$Bounds", "settle", "(LTimedCompiler$Code;)Z"⟩, prog_2_method_2_code, 3, some .boolean, 1, false),
  (⟨"TimedCompiler$Bounds", "settleProcedures", "(LTimedCompiler$Code;)Z"⟩, prog_2_method_3_code, 5, some .boolean, 1, false),
  (⟨"TimedCompiler$Bounds", "calledBy", "(LTimedCompiler$Code;I)I"⟩, prog_2_method_4_code, 5, some .int, 2, true),
  (⟨"TimedCompiler$Bounds", "measure", "(LTimedCompiler$Code;I)V"⟩, prog_2_method_5_code, 7, none, 2, false),
  (⟨"TimedCompiler$Bounds", "pass", "(LTimedCompiler$Code;I)I"⟩, prog_2_method_6_code, 8, some .int, 2, false),
  (⟨"TimedCompiler$Bounds", "passCall", "(LTimedCompiler$Code;I)V"⟩, prog_2_method_7_code, 4, none, 2, false),
  (⟨"TimedCompiler$Bounds", "rounds", "(LTimedCompiler$Code;I)I"⟩, prog_2_method_8_code, 2, some .int, 2, true),
  (⟨"TimedCompiler$Bounds", "leaveLoop", "(LTimedCompiler$Code;IJ)V"⟩, prog_2_method_9_code, 7, none, 3, false),
  (⟨"TimedCompiler$Bounds", "reach", "(IJI)V"⟩, prog_2_method_10_code, 5, none, 3, false),
  (⟨"TimedCompiler$Machine", "forgetRun", "()V"⟩, prog_4_method_2_code, 1, none, 0, false),
  (⟨"TimedCompiler$Machine", "carryOut", "(LTimedCompiler$Code;)I"⟩, prog_4_method_3_code, 4, some .int, 1, false),
  (⟨"TimedCompiler$Machine", "step", "(LTimedCompiler$Code;)I"⟩, prog_4_method_4_code, 5, some .int, 1, false),
  (⟨"TimedCompiler$Machine", "trapOf", "(II)I"⟩, prog_4_method_5_code, 3, some .int, 2, false),
  (⟨"TimedCompiler$Machine", "isWord", "(I)Z"⟩, prog_4_method_6_code, 1, some .boolean, 1, true),
  (⟨"TimedCompiler$Machine", "compute", "(II)V"⟩, prog_4_method_7_code, 6, none, 2, false),
  (⟨"TimedCompiler$Machine", "combine", "(III)I"⟩, prog_4_method_8_code, 3, some .int, 3, true),
  (⟨"TimedCompiler$Machine", "steer", "(II)V"⟩, prog_4_method_9_code, 4, none, 2, false),
  (⟨"TimedCompiler$Machine", "goThere", "(I)V"⟩, prog_4_method_10_code, 2, none, 1, false),
  (⟨"TimedCompiler$Machine", "putOut", "(I)V"⟩, prog_4_method_11_code, 2, none, 1, false),
  (⟨"TimedCompiler$Machine", "placeAt", "(I)I"⟩, prog_4_method_12_code, 2, some .int, 1, false),
  (⟨"TimedCompiler$Machine", "store", "(II)V"⟩, prog_4_method_13_code, 3, none, 2, false),
  (⟨"TimedCompiler$Machine", "push", "(I)V"⟩, prog_4_method_14_code, 2, none, 1, false),
  (⟨"TimedCompiler$Machine", "pop", "()I"⟩, prog_4_method_15_code, 1, some .int, 0, false),
  (⟨"TimedCompiler$Machine", "below", "(I)I"⟩, prog_4_method_16_code, 3, some .int, 1, false),
  (⟨"TimedCompilerModel", "thrown", "()I"⟩, prog_8_method_2_code, 1, some .int, 0, false),
  (⟨"TimedCompilerModel", "type", "(J)Z"⟩, prog_8_method_3_code, 6, some .boolean, 1, false),
  (⟨"TimedCompilerModel", "wipe", "()V"⟩, prog_8_method_4_code, 1, none, 0, false),
  (⟨"TimedCompilerModel", "length", "()I"⟩, prog_8_method_5_code, 1, some .int, 0, false),
  (⟨"TimedCompilerModel", "look", "()I"⟩, prog_8_method_6_code, 1, some .int, 0, false),
  (⟨"TimedCompilerModel", "eat", "(I)Z"⟩, prog_8_method_7_code, 2, some .boolean, 1, false),
  (⟨"TimedCompilerModel", "isDigit", "(I)Z"⟩, prog_8_method_8_code, 1, some .boolean, 1, true),
  (⟨"TimedCompilerModel", "note", "(II)V"⟩, prog_8_method_9_code, 3, none, 2, false),
  (⟨"TimedCompilerModel", "emit", "(II)V"⟩, prog_8_method_10_code, 3, none, 2, false),
  (⟨"TimedCompilerModel", "strength", "(I)I"⟩, prog_8_method_11_code, 1, some .int, 1, true),
  (⟨"TimedCompilerModel", "instruction", "(I)I"⟩, prog_8_method_12_code, 1, some .int, 1, true),
  (⟨"TimedCompilerModel", "reduce", "(I)V"⟩, prog_8_method_13_code, 2, none, 1, false),
  (⟨"TimedCompilerModel", "complete", "()V"⟩, prog_8_method_14_code, 1, none, 0, false),
  (⟨"TimedCompilerModel", "deep", "()I"⟩, prog_8_method_15_code, 3, some .int, 0, false),
  (⟨"TimedCompilerModel", "unit", "(I)I"⟩, prog_8_method_16_code, 5, some .int, 1, false),
  (⟨"TimedCompilerModel", "value", "(IZ)Z"⟩, prog_8_method_17_code, 8, some .boolean, 2, false),
  (⟨"TimedCompilerModel", "open", "(II)Z"⟩, prog_8_method_18_code, 3, some .boolean, 2, false),
  (⟨"TimedCompilerModel", "digits", "()I"⟩, prog_8_method_19_code, 3, some .int, 0, false),
  (⟨"TimedCompilerModel", "loop", "()Z"⟩, prog_8_method_20_code, 3, some .boolean, 0, false),
  (⟨"TimedCompilerModel", "statement", "()Z"⟩, prog_8_method_21_code, 3, some .boolean, 0, false),
  (⟨"TimedCompilerModel", "close", "()Z"⟩, prog_8_method_22_code, 3, some .boolean, 0, false),
  (⟨"TimedCompilerModel", "begin", "()Z"⟩, prog_8_method_23_code, 3, some .boolean, 0, false),
  (⟨"TimedCompilerModel", "reads", "()Z"⟩, prog_8_method_24_code, 3, some .boolean, 0, false),
  (⟨"TimedCompilerModel", "cost", "(I)I"⟩, prog_8_method_25_code, 1, some .int, 1, true),
  (⟨"TimedCompilerModel", "grows", "(I)I"⟩, prog_8_method_26_code, 1, some .int, 1, true),
  (⟨"TimedCompilerModel", "capped", "(I)I"⟩, prog_8_method_27_code, 1, some .int, 1, true),
  (⟨"TimedCompilerModel", "greater", "(II)I"⟩, prog_8_method_28_code, 2, some .int, 2, true),
  (⟨"TimedCompilerModel", "reckon", "(I)V"⟩, prog_8_method_29_code, 8, none, 1, false),
  (⟨"TimedCompilerModel", "shut", "(II)V"⟩, prog_8_method_30_code, 5, none, 2, false),
  (⟨"TimedCompilerModel", "reckonAll", "()Z"⟩, prog_8_method_31_code, 6, some .boolean, 0, false),
  (⟨"TimedCompilerModel", "isShort", "()Z"⟩, prog_8_method_32_code, 3, some .boolean, 0, false),
  (⟨"TimedCompilerModel", "arrange", "()V"⟩, prog_8_method_33_code, 5, none, 0, false),
  (⟨"TimedCompilerModel", "compile", "()I"⟩, prog_8_method_34_code, 1, some .int, 0, false),
  (⟨"TimedCompilerModel", "code", "(II)I"⟩, prog_8_method_35_code, 3, some .int, 2, false),
  (⟨"TimedCompilerModel", "time", "()I"⟩, prog_8_method_36_code, 1, some .int, 0, false),
  (⟨"TimedCompilerModel", "depth", "()I"⟩, prog_8_method_37_code, 1, some .int, 0, false),
  (⟨"TimedCompilerModel", "procedure", "(II)I"⟩, prog_8_method_38_code, 3, some .int, 2, false),
  (⟨"TimedCompilerModel", "set", "(II)Z"⟩, prog_8_method_39_code, 3, some .boolean, 2, false),
  (⟨"TimedCompilerModel", "get", "(I)I"⟩, prog_8_method_40_code, 2, some .int, 1, false),
  (⟨"TimedCompilerModel", "apply", "(III)I"⟩, prog_8_method_41_code, 3, some .int, 3, true),
  (⟨"TimedCompilerModel", "trap", "(II)I"⟩, prog_8_method_42_code, 7, some .int, 2, false),
  (⟨"TimedCompilerModel", "does", "(II)I"⟩, prog_8_method_43_code, 7, some .int, 2, false),
  (⟨"TimedCompilerModel", "run", "()I"⟩, prog_8_method_44_code, 6, some .int, 0, false),
  (⟨"TimedCompilerModel", "latest", "(I)I"⟩, prog_8_method_45_code, 2, some .int, 1, false),
  (⟨"TimedCompilerModel", "output", "(I)I"⟩, prog_8_method_46_code, 2, some .int, 1, false)]
def mz (k : Nat) : MethodName × ByteArray × Nat × Option FieldType × Nat × Bool := mZ.getD k (⟨"", "", ""⟩, ByteArray.empty, 0, none, 0, false)
def mY (k : Nat) : MethodName := (mz k).1
def mC (k : Nat) : ByteArray := (mz k).2.1
def mL (k : Nat) : Nat := (mz k).2.2.1
def mR (k : Nat) : Option FieldType := (mz k).2.2.2.1
def mN (k : Nat) : Nat := (mz k).2.2.2.2.1
def mS (k : Nat) : Bool := (mz k).2.2.2.2.2
def mO (k : Nat) : String := (mY k).cls
def mH : List (Nat × Nat × Nat × Nat) := [(246, 244, 245, 58), (257, 255, 256, 58), (261, 259, 260, 58), (278, 276, 277, 58), (549, 547, 548, 58), (575, 573, 574, 58), (582, 580, 581, 58), (589, 587, 588, 58), (265, 263, 264, 58), (598, 596, 597, 58), (620, 618, 619, 58), (269, 267, 268, 58), (683, 681, 682, 58), (553, 552, 22, 58), (286, 285, 0, 59), (282, 280, 281, 59), (378, 377, 13, 59), (446, 444, 445, 59), (450, 449, 15, 59), (339, 338, 9, 59), (302, 301, 2, 59), (315, 314, 3, 59), (358, 357, 11, 59), (366, 365, 12, 59), (319, 318, 4, 59), (323, 322, 5, 59), (327, 326, 6, 59), (331, 330, 7, 59), (335, 334, 8, 59), (250, 248, 249, 60), (253, 252, 0, 60), (298, 297, 1, 60), (354, 353, 0, 60), (374, 372, 373, 60), (310, 308, 309, 60), (306, 304, 305, 60), (294, 292, 293, 60), (351, 350, 10, 60), (370, 368, 369, 60), (347, 345, 346, 60), (290, 288, 289, 61), (534, 532, 533, 61), (343, 341, 342, 61), (362, 360, 361, 61), (462, 460, 461, 61), (470, 468, 469, 61), (454, 452, 453, 61), (477, 475, 476, 61), (458, 456, 457, 62), (466, 465, 16, 62), (473, 472, 0, 62), (481, 480, 17, 62), (485, 484, 18, 62), (511, 510, 21, 62), (507, 506, 0, 62), (504, 503, 20, 62), (494, 493, 19, 62), (541, 539, 540, 63), (624, 622, 623, 63), (628, 627, 23, 63), (633, 632, 24, 63), (640, 639, 0, 63), (644, 643, 26, 63), (664, 663, 0, 63), (668, 667, 31, 63), (676, 675, 33, 63), (672, 671, 32, 63), (653, 652, 28, 63), (661, 660, 30, 63), (648, 647, 27, 63), (657, 656, 29, 63), (637, 636, 25, 63), (838, 836, 837, 64), (842, 840, 841, 64), (846, 844, 845, 64), (850, 848, 849, 64), (866, 865, 36, 64), (874, 873, 38, 64), (908, 907, 0, 64), (886, 885, 41, 64), (882, 881, 40, 64), (905, 904, 0, 64), (915, 914, 0, 64), (912, 911, 46, 64), (919, 918, 47, 64), (902, 901, 45, 64), (898, 897, 44, 64), (894, 893, 43, 64), (870, 869, 37, 64), (927, 926, 49, 64), (923, 922, 48, 64), (890, 889, 42, 64), (878, 877, 39, 64), (862, 861, 35, 64), (858, 857, 34, 64), (941, 940, 0, 64), (938, 937, 0, 64), (944, 943, 0, 64), (948, 947, 0, 64), (935, 934, 51, 64), (952, 951, 52, 64), (931, 930, 50, 64), (956, 955, 53, 64), (960, 959, 54, 64), (854, 852, 853, 64), (964, 962, 963, 64), (968, 966, 967, 64), (972, 970, 971, 64), (976, 974, 975, 64), (980, 978, 979, 64), (984, 982, 983, 64), (999, 998, 0, 64), (992, 991, 55, 64), (996, 995, 56, 64), (988, 986, 987, 64), (1003, 1001, 1002, 64), (1007, 1005, 1006, 64)]
def xi_wd : List Cond := lw_tbl.filter goodWord
def mW (k : Nat) : List Cond := Cond.code (mY k) (mC k) (mL k) (mR k) :: xi_wd
def xn_T0 : u_T := fun k => match k with
  | 0 => ("TimedCompiler", "parser", "LTimedCompiler$Parser;", true)
  | 1 => ("TimedCompiler", "bounds", "LTimedCompiler$Bounds;", true)
  | 2 => ("TimedCompiler", "program", "LTimedCompiler$Code;", true)
  | _ => ("TimedCompiler", "machine", "LTimedCompiler$Machine;", true)
def xn_t0 : Nat → FieldType := fun k => match k with
  | 0 => .object "TimedCompiler$Parser"
  | 1 => .object "TimedCompiler$Bounds"
  | 2 => .object "TimedCompiler$Code"
  | _ => .object "TimedCompiler$Machine"
theorem xn_n0 : ∀ a, a < 4 → ∀ b, b < 4 → a ≠ b → (xn_T0 a).2.1 ≠ (xn_T0 b).2.1 := by decide +kernel
theorem xn_o0 : ∀ k, k < 4 → parseFieldDescriptor (xn_T0 k).2.2.1 = some (xn_t0 k) := by decide +kernel
def xn_T1 : u_T := fun k => match k with
  | 0 => ("TimedCompiler$Parser", "text", "LTimedCompiler$Text;", true)
  | 1 => ("TimedCompiler$Parser", "draft", "LTimedCompiler$Code;", true)
  | 2 => ("TimedCompiler$Parser", "blocks", "[I", true)
  | _ => ("TimedCompiler$Parser", "called", "[Z", true)
def xn_t1 : Nat → FieldType := fun k => match k with
  | 0 => .object "TimedCompiler$Text"
  | 1 => .object "TimedCompiler$Code"
  | 2 => .array .int
  | _ => .array .boolean
theorem xn_n1 : ∀ a, a < 4 → ∀ b, b < 4 → a ≠ b → (xn_T1 a).2.1 ≠ (xn_T1 b).2.1 := by decide +kernel
theorem xn_o1 : ∀ k, k < 4 → parseFieldDescriptor (xn_T1 k).2.2.1 = some (xn_t1 k) := by decide +kernel
def xn_T2 : u_T := fun k => match k with
  | 0 => ("TimedCompiler$Text", "letters", "[C", true)
  | 1 => ("TimedCompiler$Text", "size", "I", false)
  | _ => ("TimedCompiler$Text", "at", "I", false)
def xn_t2 : Nat → FieldType := fun k => match k with
  | 0 => .array .char
  | 1 => .int
  | _ => .int
theorem xn_n2 : ∀ a, a < 3 → ∀ b, b < 3 → a ≠ b → (xn_T2 a).2.1 ≠ (xn_T2 b).2.1 := by decide +kernel
theorem xn_o2 : ∀ k, k < 3 → parseFieldDescriptor (xn_T2 k).2.2.1 = some (xn_t2 k) := by decide +kernel
def xn_T3 : u_T := fun k => match k with
  | 0 => ("TimedCompiler$Code", "numbers", "[I", true)
  | 1 => ("TimedCompiler$Code", "arguments", "[I", true)
  | 2 => ("TimedCompiler$Code", "size", "I", false)
  | 3 => ("TimedCompiler$Code", "first", "[I", true)
  | 4 => ("TimedCompiler$Code", "last", "[I", true)
  | 5 => ("TimedCompiler$Code", "times", "[I", true)
  | _ => ("TimedCompiler$Code", "depths", "[I", true)
def xn_t3 : Nat → FieldType := fun k => match k with
  | 0 => .array .int
  | 1 => .array .int
  | 2 => .int
  | 3 => .array .int
  | 4 => .array .int
  | 5 => .array .int
  | _ => .array .int
theorem xn_n3 : ∀ a, a < 7 → ∀ b, b < 7 → a ≠ b → (xn_T3 a).2.1 ≠ (xn_T3 b).2.1 := by decide +kernel
theorem xn_o3 : ∀ k, k < 7 → parseFieldDescriptor (xn_T3 k).2.2.1 = some (xn_t3 k) := by decide +kernel
def xn_T4 : u_T := fun k => match k with
  | 0 => ("TimedCompiler$Bounds", "cycles", "[J", true)
  | 1 => ("TimedCompiler$Bounds", "words", "[I", true)
  | _ => ("TimedCompiler$Bounds", "deepest", "I", false)
def xn_t4 : Nat → FieldType := fun k => match k with
  | 0 => .array .long
  | 1 => .array .int
  | _ => .int
theorem xn_n4 : ∀ a, a < 3 → ∀ b, b < 3 → a ≠ b → (xn_T4 a).2.1 ≠ (xn_T4 b).2.1 := by decide +kernel
theorem xn_o4 : ∀ k, k < 3 → parseFieldDescriptor (xn_T4 k).2.2.1 = some (xn_t4 k) := by decide +kernel
def xn_T5 : u_T := fun k => match k with
  | 0 => ("TimedCompiler$Machine", "places", "[I", true)
  | 1 => ("TimedCompiler$Machine", "outputs", "[I", true)
  | 2 => ("TimedCompiler$Machine", "stack", "[I", true)
  | 3 => ("TimedCompiler$Machine", "height", "I", false)
  | 4 => ("TimedCompiler$Machine", "hasRun", "Z", false)
  | 5 => ("TimedCompiler$Machine", "cycles", "I", false)
  | 6 => ("TimedCompiler$Machine", "highest", "I", false)
  | 7 => ("TimedCompiler$Machine", "at", "I", false)
  | _ => ("TimedCompiler$Machine", "outputCount", "I", false)
def xn_t5 : Nat → FieldType := fun k => match k with
  | 0 => .array .int
  | 1 => .array .int
  | 2 => .array .int
  | 3 => .int
  | 4 => .boolean
  | 5 => .int
  | 6 => .int
  | 7 => .int
  | _ => .int
theorem xn_n5 : ∀ a, a < 9 → ∀ b, b < 9 → a ≠ b → (xn_T5 a).2.1 ≠ (xn_T5 b).2.1 := by decide +kernel
theorem xn_o5 : ∀ k, k < 9 → parseFieldDescriptor (xn_T5 k).2.2.1 = some (xn_t5 k) := by decide +kernel
def xn_T6 : u_T := fun k => match k with
  | 0 => ("TimedCompilerModel", "thrown", "I", false)
  | 1 => ("TimedCompilerModel", "length", "I", false)
  | 2 => ("TimedCompilerModel", "text", "[I", false)
  | 3 => ("TimedCompilerModel", "at", "I", false)
  | 4 => ("TimedCompilerModel", "made", "I", false)
  | 5 => ("TimedCompilerModel", "kind", "[I", false)
  | 6 => ("TimedCompilerModel", "argument", "[I", false)
  | 7 => ("TimedCompilerModel", "marks", "I", false)
  | 8 => ("TimedCompilerModel", "mark", "[I", false)
  | 9 => ("TimedCompilerModel", "markValue", "[I", false)
  | 10 => ("TimedCompilerModel", "from", "[I", false)
  | 11 => ("TimedCompilerModel", "to", "[I", false)
  | 12 => ("TimedCompilerModel", "markFrom", "[I", false)
  | 13 => ("TimedCompilerModel", "markTo", "[I", false)
  | 14 => ("TimedCompilerModel", "there", "[Z", false)
  | 15 => ("TimedCompilerModel", "place", "[I", false)
  | 16 => ("TimedCompilerModel", "waiting", "I", false)
  | 17 => ("TimedCompilerModel", "operator", "[I", false)
  | 18 => ("TimedCompilerModel", "compared", "[Z", false)
  | 19 => ("TimedCompilerModel", "opened", "I", false)
  | 20 => ("TimedCompilerModel", "blocks", "I", false)
  | 21 => ("TimedCompilerModel", "block", "[I", false)
  | 22 => ("TimedCompilerModel", "patch", "[I", false)
  | 23 => ("TimedCompilerModel", "piece", "I", false)
  | 24 => ("TimedCompilerModel", "cycles", "[I", false)
  | 25 => ("TimedCompilerModel", "words", "[I", false)
  | 26 => ("TimedCompilerModel", "firstCycles", "[I", false)
  | 27 => ("TimedCompilerModel", "firstWords", "[I", false)
  | 28 => ("TimedCompilerModel", "second", "[Z", false)
  | 29 => ("TimedCompilerModel", "rounds", "[I", false)
  | 30 => ("TimedCompilerModel", "timeOf", "[I", false)
  | 31 => ("TimedCompilerModel", "depthOf", "[I", false)
  | 32 => ("TimedCompilerModel", "loaded", "Z", false)
  | 33 => ("TimedCompilerModel", "size", "I", false)
  | 34 => ("TimedCompilerModel", "code", "[I", false)
  | 35 => ("TimedCompilerModel", "value", "[I", false)
  | 36 => ("TimedCompilerModel", "has", "[Z", false)
  | 37 => ("TimedCompilerModel", "first", "[I", false)
  | 38 => ("TimedCompilerModel", "time", "[I", false)
  | 39 => ("TimedCompilerModel", "depth", "[I", false)
  | 40 => ("TimedCompilerModel", "places", "[I", false)
  | 41 => ("TimedCompilerModel", "stack", "[I", false)
  | 42 => ("TimedCompilerModel", "ran", "Z", false)
  | 43 => ("TimedCompilerModel", "took", "I", false)
  | 44 => ("TimedCompilerModel", "most", "I", false)
  | 45 => ("TimedCompilerModel", "ended", "I", false)
  | 46 => ("TimedCompilerModel", "outs", "I", false)
  | _ => ("TimedCompilerModel", "out", "[I", false)
def xn_t6 : Nat → FieldType := fun k => match k with
  | 0 => .int
  | 1 => .int
  | 2 => .array .int
  | 3 => .int
  | 4 => .int
  | 5 => .array .int
  | 6 => .array .int
  | 7 => .int
  | 8 => .array .int
  | 9 => .array .int
  | 10 => .array .int
  | 11 => .array .int
  | 12 => .array .int
  | 13 => .array .int
  | 14 => .array .boolean
  | 15 => .array .int
  | 16 => .int
  | 17 => .array .int
  | 18 => .array .boolean
  | 19 => .int
  | 20 => .int
  | 21 => .array .int
  | 22 => .array .int
  | 23 => .int
  | 24 => .array .int
  | 25 => .array .int
  | 26 => .array .int
  | 27 => .array .int
  | 28 => .array .boolean
  | 29 => .array .int
  | 30 => .array .int
  | 31 => .array .int
  | 32 => .boolean
  | 33 => .int
  | 34 => .array .int
  | 35 => .array .int
  | 36 => .array .boolean
  | 37 => .array .int
  | 38 => .array .int
  | 39 => .array .int
  | 40 => .array .int
  | 41 => .array .int
  | 42 => .boolean
  | 43 => .int
  | 44 => .int
  | 45 => .int
  | 46 => .int
  | _ => .array .int
theorem xn_n6 : ∀ a, a < 48 → ∀ b, b < 48 → a ≠ b → (xn_T6 a).2.1 ≠ (xn_T6 b).2.1 := by decide +kernel
theorem xn_o6 : ∀ k, k < 48 → parseFieldDescriptor (xn_T6 k).2.2.1 = some (xn_t6 k) := by decide +kernel
def vwCl : List vw_C := [("TimedCompiler", xn_T0, 4), ("TimedCompiler$Parser", xn_T1, 4), ("TimedCompiler$Text", xn_T2, 3), ("TimedCompiler$Code", xn_T3, 7), ("TimedCompiler$Bounds", xn_T4, 3), ("TimedCompiler$Machine", xn_T5, 9), ("TimedCompilerModel", xn_T6, 48)]
def xi_tys : List Nat := [0, 0, 0, 3, 0, 1, 1, 1, 1, 1, 1, 1, 2, 0, 4, 1, 0, 1, 1, 1, 1, 1, 1, 0, 1, 1, 1, 0, 1, 1, 1, 1, 1, 1, 1, 1, 1, 2, 1, 1, 2, 1, 1, 1, 1, 1, 1, 2, 1, 1, 1, 1, 1, 2, 1, 1, 1, 1, 1, 1, 4]
def xi_tn (r : Nat) : Nat := xi_tys.getD r 0
def xi_tc (n : Nat) : FieldType := match n with
  | 1 => .int
  | 2 => .boolean
  | 3 => .char
  | _ => .long
def xi_tyL (ca : Nat → ClassId) : List (ClassId × FieldType) := ((List.range xi_tys.length).filter (fun i => xi_tn i != 0)).map (fun i => (ca i, xi_tc (xi_tn i)))
theorem xi_ty (ca : Nat → ClassId) {r : Nat} (h : xi_tn r ≠ 0) : ∃ t : Nat, (xi_tyL ca)[t]? = some (ca r, xi_tc (xi_tn r)) := by
  have hr : r < xi_tys.length := by
    by_cases hr : r < xi_tys.length
    · exact hr
    · exfalso
      apply h
      unfold xi_tn
      rw [List.getD_eq_getElem?_getD, List.getElem?_eq_none (by omega)]
      rfl
  have hm : (ca r, xi_tc (xi_tn r)) ∈ xi_tyL ca := by
    unfold xi_tyL
    rw [List.mem_map]
    exact ⟨r, List.mem_filter.mpr ⟨List.mem_range.mpr hr, by simpa using h⟩, rfl⟩
  exact List.getElem?_of_mem hm
theorem xi_ty1 (ca : Nat → ClassId) {r : Nat} (h : xi_tn r = 1) : ∃ t : Nat, (xi_tyL ca)[t]? = some (ca r, .int) := by
  obtain ⟨t, ht⟩ := xi_ty ca (r := r) (by rw [h]; decide)
  rw [h] at ht; exact ⟨t, ht⟩
theorem xi_ty2 (ca : Nat → ClassId) {r : Nat} (h : xi_tn r = 2) : ∃ t : Nat, (xi_tyL ca)[t]? = some (ca r, .boolean) := by
  obtain ⟨t, ht⟩ := xi_ty ca (r := r) (by rw [h]; decide)
  rw [h] at ht; exact ⟨t, ht⟩
theorem xi_ty3 (ca : Nat → ClassId) {r : Nat} (h : xi_tn r = 3) : ∃ t : Nat, (xi_tyL ca)[t]? = some (ca r, .char) := by
  obtain ⟨t, ht⟩ := xi_ty ca (r := r) (by rw [h]; decide)
  rw [h] at ht; exact ⟨t, ht⟩
theorem xi_ty4 (ca : Nat → ClassId) {r : Nat} (h : xi_tn r = 4) : ∃ t : Nat, (xi_tyL ca)[t]? = some (ca r, .long) := by
  obtain ⟨t, ht⟩ := xi_ty ca (r := r) (by rw [h]; decide)
  rw [h] at ht; exact ⟨t, ht⟩
def xi_cost (j : Nat) : Int32 := ([1, 2, 2, 4, 4, 1, 1, 5, 20, 1, 1, 1, 6, 1, 2, 1, 2, 4, 3, 0] : List Int32).getD j 0
def xi_grow (j : Nat) : Int32 := ([1, 1, -1, 0, -2, -1, -1, -1, -1, -1, -1, 0, -1, -1, 0, 0, 0, 1, -1, 0] : List Int32).getD j 0
def xi_sa (r : Nat) : Option (Nat × (Nat → Int32)) := match Nat.beq r 1000 with
  | true => some (20, xi_cost)
  | false => (match Nat.beq r 1001 with
    | true => some (20, xi_grow)
    | false => none)
def xi_nw1 : Cond := .fieldLinkNest "TimedCompiler$Bounds" 67 "TimedCompiler" "COST" "[I" "TimedCompiler"
def xi_nw2 : Cond := .fieldLinkNest "TimedCompiler$Bounds" 81 "TimedCompiler" "GROWTH" "[I" "TimedCompiler"
def xi_nw3 : Cond := .fieldLinkNest "TimedCompiler$Machine" 56 "TimedCompiler" "COST" "[I" "TimedCompiler"
def xi_Z (ad : Nat → Nat) (A : Nat → Prop) (U : State) : Prop := (va_Z "TimedCompiler" "COST" "[I" (.ref (ad 1000)) A U U.heap ∧ va_T .int (ad 1000) 20 (fun j => .int (xi_cost j)) A U U.heap) ∧ (va_Z "TimedCompiler" "GROWTH" "[I" (.ref (ad 1001)) A U U.heap ∧ va_T .int (ad 1001) 20 (fun j => .int (xi_grow j)) A U U.heap) ∧ va_Nw xi_nw1 U ∧ va_Nw xi_nw2 U ∧ va_Nw xi_nw3 U
theorem xi_Z.calling {ad : Nat → Nat} {A : Nat → Prop} {U : State} {g : JFrame} {mk : MethodId} {a : Array Value} (h : xi_Z ad A U) : xi_Z ad A (U.calling g mk a) :=
  ⟨⟨va_Z.moved (u := U) (U := U.calling g mk a) (Vm.Alike.refl U.vm) h.1.1, va_T.moved (u := U) (U := U.calling g mk a) (Vm.Alike.refl U.vm) h.1.2⟩, ⟨va_Z.moved (u := U) (U := U.calling g mk a) (Vm.Alike.refl U.vm) h.2.1.1, va_T.moved (u := U) (U := U.calling g mk a) (Vm.Alike.refl U.vm) h.2.1.2⟩, va_Nw.same (u := U) (U := U.calling g mk a) rfl rfl h.2.2.1, va_Nw.same (u := U) (U := U.calling g mk a) rfl rfl h.2.2.2.1, va_Nw.same (u := U) (U := U.calling g mk a) rfl rfl h.2.2.2.2⟩
theorem xi_Z.at {ad : Nat → Nat} {A B : Nat → Prop} {s U : State} {H : Heap} {locs : List Loc} (h : xi_Z ad A s) (hS : va_S A s.heap H locs) (hB : ∀ q, B q → A q) (hU : U.heap = H) (hW : s.WarmedH U.vm) : xi_Z ad B U := by
  subst hU
  exact ⟨⟨((h.1.1.kept hS.2.1).moved hW.alike).narrow hB, ((h.1.2.kept hS.2.1).moved hW.alike).narrow hB⟩, ⟨((h.2.1.1.kept hS.2.1).moved hW.alike).narrow hB, ((h.2.1.2.kept hS.2.1).moved hW.alike).narrow hB⟩, va_Nw.warmF hW h.2.2.1, va_Nw.warmF hW h.2.2.2.1, va_Nw.warmF hW h.2.2.2.2⟩
theorem xi_Z.tab {ad : Nat → Nat} {A : Nat → Prop} {s : State} {r : Nat} {q : Nat × (Nat → Int32)} (h : xi_Z ad A s) (hq : xi_sa r = some q) : va_T .int (ad r) q.1 (fun j => .int (q.2 j)) A s s.heap := by
  unfold xi_sa at hq
  split at hq
  · rename_i h1
    have := Nat.eq_of_beq_eq_true h1
    subst this
    cases hq
    exact h.1.2
  · split at hq
    · rename_i h1
      have := Nat.eq_of_beq_eq_true h1
      subst this
      cases hq
      exact h.2.1.2
    · cases hq
