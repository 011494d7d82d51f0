/-! What is asked of each method once. -/
theorem xi_FK.v {k : Nat} (hs : mS k = false) (a : Cond.code (mY k) (mC k) (mL k) (mR k) ∈ xi_wd) (b : Cond.instanceMethod (mY k) ∈ xi_wd) (c : Cond.selects (mO k) (mY k) (mY k) ∈ xi_wd) (d : Cond.initialized (mO k) ∈ xi_wd) (e : mO k ≠ "java/lang/invoke/MethodHandle" ∧ mO k ≠ "java/lang/invoke/VarHandle" ∧ (parseMethodDescriptor (mY k).desc).map (fun d => d.parameters.length) = some (mN k)) (f : mL k ≤ 45) (g : plainName (mO k) = true) : xi_FK k :=
  ⟨a, fun h => absurd (hs.symm.trans h) (by decide), fun _ => ⟨b, c⟩, d, e, f, g⟩
theorem xi_FK.s {k : Nat} (hs : mS k = true) (a : Cond.code (mY k) (mC k) (mL k) (mR k) ∈ xi_wd) (b : Cond.static (mY k) ∈ xi_wd) (d : Cond.initialized (mO k) ∈ xi_wd) (e : mO k ≠ "java/lang/invoke/MethodHandle" ∧ mO k ≠ "java/lang/invoke/VarHandle" ∧ (parseMethodDescriptor (mY k).desc).map (fun d => d.parameters.length) = some (mN k)) (f : mL k ≤ 45) (g : plainName (mO k) = true) : xi_FK k :=
  ⟨a, fun _ => b, fun h => absurd (hs.symm.trans h) (by decide), d, e, f, g⟩
set_option maxRecDepth 100000 in
theorem xf_0 : xi_FK 0 := xi_FK.v rfl (xi_gin (h := 246) rfl rfl) (xi_gin (h := 244) (by decide +kernel) (by decide +kernel)) (xi_gin (h := 245) (by decide +kernel) (by decide +kernel)) (xi_gin (h := 58) (by decide +kernel) (by decide +kernel)) (by decide +kernel) (by decide +kernel) (by decide +kernel)
set_option maxRecDepth 100000 in
theorem xf_1 : xi_FK 1 := xi_FK.v rfl (xi_gin (h := 257) rfl rfl) (xi_gin (h := 255) (by decide +kernel) (by decide +kernel)) (xi_gin (h := 256) (by decide +kernel) (by decide +kernel)) (xi_gin (h := 58) (by decide +kernel) (by decide +kernel)) (by decide +kernel) (by decide +kernel) (by decide +kernel)
set_option maxRecDepth 100000 in
theorem xf_2 : xi_FK 2 := xi_FK.v rfl (xi_gin (h := 261) rfl rfl) (xi_gin (h := 259) (by decide +kernel) (by decide +kernel)) (xi_gin (h := 260) (by decide +kernel) (by decide +kernel)) (xi_gin (h := 58) (by decide +kernel) (by decide +kernel)) (by decide +kernel) (by decide +kernel) (by decide +kernel)
set_option maxRecDepth 100000 in
theorem xf_3 : xi_FK 3 := xi_FK.v rfl (xi_gin (h := 278) rfl rfl) (xi_gin (h := 276) (by decide +kernel) (by decide +kernel)) (xi_gin (h := 277) (by decide +kernel) (by decide +kernel)) (xi_gin (h := 58) (by decide +kernel) (by decide +kernel)) (by decide +kernel) (by decide +kernel) (by decide +kernel)
set_option maxRecDepth 100000 in
theorem xf_4 : xi_FK 4 := xi_FK.v rfl (xi_gin (h := 549) rfl rfl) (xi_gin (h := 547) (by decide +kernel) (by decide +kernel)) (xi_gin (h := 548) (by decide +kernel) (by decide +kernel)) (xi_gin (h := 58) (by decide +kernel) (by decide +kernel)) (by decide +kernel) (by decide +kernel) (by decide +kernel)
set_option maxRecDepth 100000 in
theorem xf_5 : xi_FK 5 := xi_FK.v rfl (xi_gin (h := 575) rfl rfl) (xi_gin (h := 573) (by decide +kernel) (by decide +kernel)) (xi_gin (h := 574) (by decide +kernel) (by decide +kernel)) (xi_gin (h := 58) (by decide +kernel) (by decide +kernel)) (by decide +kernel) (by decide +kernel) (by decide +kernel)
set_option maxRecDepth 100000 in
theorem xf_6 : xi_FK 6 := xi_FK.v rfl (xi_gin (h := 582) rfl rfl) (xi_gin (h := 580) (by decide +kernel) (by decide +kernel)) (xi_gin (h := 581) (by decide +kernel) (by decide +kernel)) (xi_gin (h := 58) (by decide +kernel) (by decide +kernel)) (by decide +kernel) (by decide +kernel) (by decide +kernel)
set_option maxRecDepth 100000 in
theorem xf_7 : xi_FK 7 := xi_FK.v rfl (xi_gin (h := 589) rfl rfl) (xi_gin (h := 587) (by decide +kernel) (by decide +kernel)) (xi_gin (h := 588) (by decide +kernel) (by decide +kernel)) (xi_gin (h := 58) (by decide +kernel) (by decide +kernel)) (by decide +kernel) (by decide +kernel) (by decide +kernel)
set_option maxRecDepth 100000 in
theorem xf_8 : xi_FK 8 := xi_FK.v rfl (xi_gin (h := 265) rfl rfl) (xi_gin (h := 263) (by decide +kernel) (by decide +kernel)) (xi_gin (h := 264) (by decide +kernel) (by decide +kernel)) (xi_gin (h := 58) (by decide +kernel) (by decide +kernel)) (by decide +kernel) (by decide +kernel) (by decide +kernel)
set_option maxRecDepth 100000 in
theorem xf_9 : xi_FK 9 := xi_FK.v rfl (xi_gin (h := 598) rfl rfl) (xi_gin (h := 596) (by decide +kernel) (by decide +kernel)) (xi_gin (h := 597) (by decide +kernel) (by decide +kernel)) (xi_gin (h := 58) (by decide +kernel) (by decide +kernel)) (by decide +kernel) (by decide +kernel) (by decide +kernel)
set_option maxRecDepth 100000 in
theorem xf_10 : xi_FK 10 := xi_FK.v rfl (xi_gin (h := 620) rfl rfl) (xi_gin (h := 618) (by decide +kernel) (by decide +kernel)) (xi_gin (h := 619) (by decide +kernel) (by decide +kernel)) (xi_gin (h := 58) (by decide +kernel) (by decide +kernel)) (by decide +kernel) (by decide +kernel) (by decide +kernel)
set_option maxRecDepth 100000 in
theorem xf_11 : xi_FK 11 := xi_FK.v rfl (xi_gin (h := 269) rfl rfl) (xi_gin (h := 267) (by decide +kernel) (by decide +kernel)) (xi_gin (h := 268) (by decide +kernel) (by decide +kernel)) (xi_gin (h := 58) (by decide +kernel) (by decide +kernel)) (by decide +kernel) (by decide +kernel) (by decide +kernel)
set_option maxRecDepth 100000 in
theorem xf_12 : xi_FK 12 := xi_FK.v rfl (xi_gin (h := 683) rfl rfl) (xi_gin (h := 681) (by decide +kernel) (by decide +kernel)) (xi_gin (h := 682) (by decide +kernel) (by decide +kernel)) (xi_gin (h := 58) (by decide +kernel) (by decide +kernel)) (by decide +kernel) (by decide +kernel) (by decide +kernel)
set_option maxRecDepth 100000 in
theorem xf_13 : xi_FK 13 := xi_FK.v rfl (xi_gin (h := 553) rfl rfl) (xi_gin (h := 552) (by decide +kernel) (by decide +kernel)) (xi_gin (h := 22) (by decide +kernel) (by decide +kernel)) (xi_gin (h := 58) (by decide +kernel) (by decide +kernel)) (by decide +kernel) (by decide +kernel) (by decide +kernel)
set_option maxRecDepth 100000 in
theorem xf_14 : xi_FK 14 := xi_FK.v rfl (xi_gin (h := 286) rfl rfl) (xi_gin (h := 285) (by decide +kernel) (by decide +kernel)) (xi_gin (h := 0) (by decide +kernel) (by decide +kernel)) (xi_gin (h := 59) (by decide +kernel) (by decide +kernel)) (by decide +kernel) (by decide +kernel) (by decide +kernel)
set_option maxRecDepth 100000 in
theorem xf_15 : xi_FK 15 := xi_FK.v rfl (xi_gin (h := 282) rfl rfl) (xi_gin (h := 280) (by decide +kernel) (by decide +kernel)) (xi_gin (h := 281) (by decide +kernel) (by decide +kernel)) (xi_gin (h := 59) (by decide +kernel) (by decide +kernel)) (by decide +kernel) (by decide +kernel) (by decide +kernel)
set_option maxRecDepth 100000 in
theorem xf_16 : xi_FK 16 := xi_FK.v rfl (xi_gin (h := 378) rfl rfl) (xi_gin (h := 377) (by decide +kernel) (by decide +kernel)) (xi_gin (h := 13) (by decide +kernel) (by decide +kernel)) (xi_gin (h := 59) (by decide +kernel) (by decide +kernel)) (by decide +kernel) (by decide +kernel) (by decide +kernel)
set_option maxRecDepth 100000 in
theorem xf_17 : xi_FK 17 := xi_FK.v rfl (xi_gin (h := 446) rfl rfl) (xi_gin (h := 444) (by decide +kernel) (by decide +kernel)) (xi_gin (h := 445) (by decide +kernel) (by decide +kernel)) (xi_gin (h := 59) (by decide +kernel) (by decide +kernel)) (by decide +kernel) (by decide +kernel) (by decide +kernel)
set_option maxRecDepth 100000 in
theorem xf_18 : xi_FK 18 := xi_FK.v rfl (xi_gin (h := 450) rfl rfl) (xi_gin (h := 449) (by decide +kernel) (by decide +kernel)) (xi_gin (h := 15) (by decide +kernel) (by decide +kernel)) (xi_gin (h := 59) (by decide +kernel) (by decide +kernel)) (by decide +kernel) (by decide +kernel) (by decide +kernel)
set_option maxRecDepth 100000 in
theorem xf_19 : xi_FK 19 := xi_FK.v rfl (xi_gin (h := 339) rfl rfl) (xi_gin (h := 338) (by decide +kernel) (by decide +kernel)) (xi_gin (h := 9) (by decide +kernel) (by decide +kernel)) (xi_gin (h := 59) (by decide +kernel) (by decide +kernel)) (by decide +kernel) (by decide +kernel) (by decide +kernel)
set_option maxRecDepth 100000 in
theorem xf_20 : xi_FK 20 := xi_FK.v rfl (xi_gin (h := 302) rfl rfl) (xi_gin (h := 301) (by decide +kernel) (by decide +kernel)) (xi_gin (h := 2) (by decide +kernel) (by decide +kernel)) (xi_gin (h := 59) (by decide +kernel) (by decide +kernel)) (by decide +kernel) (by decide +kernel) (by decide +kernel)
set_option maxRecDepth 100000 in
theorem xf_21 : xi_FK 21 := xi_FK.v rfl (xi_gin (h := 315) rfl rfl) (xi_gin (h := 314) (by decide +kernel) (by decide +kernel)) (xi_gin (h := 3) (by decide +kernel) (by decide +kernel)) (xi_gin (h := 59) (by decide +kernel) (by decide +kernel)) (by decide +kernel) (by decide +kernel) (by decide +kernel)
set_option maxRecDepth 100000 in
theorem xf_22 : xi_FK 22 := xi_FK.v rfl (xi_gin (h := 358) rfl rfl) (xi_gin (h := 357) (by decide +kernel) (by decide +kernel)) (xi_gin (h := 11) (by decide +kernel) (by decide +kernel)) (xi_gin (h := 59) (by decide +kernel) (by decide +kernel)) (by decide +kernel) (by decide +kernel) (by decide +kernel)
set_option maxRecDepth 100000 in
theorem xf_23 : xi_FK 23 := xi_FK.v rfl (xi_gin (h := 366) rfl rfl) (xi_gin (h := 365) (by decide +kernel) (by decide +kernel)) (xi_gin (h := 12) (by decide +kernel) (by decide +kernel)) (xi_gin (h := 59) (by decide +kernel) (by decide +kernel)) (by decide +kernel) (by decide +kernel) (by decide +kernel)
set_option maxRecDepth 100000 in
theorem xf_24 : xi_FK 24 := xi_FK.v rfl (xi_gin (h := 319) rfl rfl) (xi_gin (h := 318) (by decide +kernel) (by decide +kernel)) (xi_gin (h := 4) (by decide +kernel) (by decide +kernel)) (xi_gin (h := 59) (by decide +kernel) (by decide +kernel)) (by decide +kernel) (by decide +kernel) (by decide +kernel)
set_option maxRecDepth 100000 in
theorem xf_25 : xi_FK 25 := xi_FK.v rfl (xi_gin (h := 323) rfl rfl) (xi_gin (h := 322) (by decide +kernel) (by decide +kernel)) (xi_gin (h := 5) (by decide +kernel) (by decide +kernel)) (xi_gin (h := 59) (by decide +kernel) (by decide +kernel)) (by decide +kernel) (by decide +kernel) (by decide +kernel)
set_option maxRecDepth 100000 in
theorem xf_26 : xi_FK 26 := xi_FK.v rfl (xi_gin (h := 327) rfl rfl) (xi_gin (h := 326) (by decide +kernel) (by decide +kernel)) (xi_gin (h := 6) (by decide +kernel) (by decide +kernel)) (xi_gin (h := 59) (by decide +kernel) (by decide +kernel)) (by decide +kernel) (by decide +kernel) (by decide +kernel)
set_option maxRecDepth 100000 in
theorem xf_27 : xi_FK 27 := xi_FK.v rfl (xi_gin (h := 331) rfl rfl) (xi_gin (h := 330) (by decide +kernel) (by decide +kernel)) (xi_gin (h := 7) (by decide +kernel) (by decide +kernel)) (xi_gin (h := 59) (by decide +kernel) (by decide +kernel)) (by decide +kernel) (by decide +kernel) (by decide +kernel)
set_option maxRecDepth 100000 in
theorem xf_28 : xi_FK 28 := xi_FK.v rfl (xi_gin (h := 335) rfl rfl) (xi_gin (h := 334) (by decide +kernel) (by decide +kernel)) (xi_gin (h := 8) (by decide +kernel) (by decide +kernel)) (xi_gin (h := 59) (by decide +kernel) (by decide +kernel)) (by decide +kernel) (by decide +kernel) (by decide +kernel)
set_option maxRecDepth 100000 in
theorem xf_29 : xi_FK 29 := xi_FK.v rfl (xi_gin (h := 250) rfl rfl) (xi_gin (h := 248) (by decide +kernel) (by decide +kernel)) (xi_gin (h := 249) (by decide +kernel) (by decide +kernel)) (xi_gin (h := 60) (by decide +kernel) (by decide +kernel)) (by decide +kernel) (by decide +kernel) (by decide +kernel)
set_option maxRecDepth 100000 in
theorem xf_30 : xi_FK 30 := xi_FK.s rfl (xi_gin (h := 253) rfl rfl) (xi_gin (h := 252) (by decide +kernel) (by decide +kernel)) (xi_gin (h := 60) (by decide +kernel) (by decide +kernel)) (by decide +kernel) (by decide +kernel) (by decide +kernel)
set_option maxRecDepth 100000 in
theorem xf_31 : xi_FK 31 := xi_FK.v rfl (xi_gin (h := 298) rfl rfl) (xi_gin (h := 297) (by decide +kernel) (by decide +kernel)) (xi_gin (h := 1) (by decide +kernel) (by decide +kernel)) (xi_gin (h := 60) (by decide +kernel) (by decide +kernel)) (by decide +kernel) (by decide +kernel) (by decide +kernel)
set_option maxRecDepth 100000 in
theorem xf_32 : xi_FK 32 := xi_FK.s rfl (xi_gin (h := 354) rfl rfl) (xi_gin (h := 353) (by decide +kernel) (by decide +kernel)) (xi_gin (h := 60) (by decide +kernel) (by decide +kernel)) (by decide +kernel) (by decide +kernel) (by decide +kernel)
set_option maxRecDepth 100000 in
theorem xf_33 : xi_FK 33 := xi_FK.v rfl (xi_gin (h := 374) rfl rfl) (xi_gin (h := 372) (by decide +kernel) (by decide +kernel)) (xi_gin (h := 373) (by decide +kernel) (by decide +kernel)) (xi_gin (h := 60) (by decide +kernel) (by decide +kernel)) (by decide +kernel) (by decide +kernel) (by decide +kernel)
set_option maxRecDepth 100000 in
theorem xf_34 : xi_FK 34 := xi_FK.v rfl (xi_gin (h := 310) rfl rfl) (xi_gin (h := 308) (by decide +kernel) (by decide +kernel)) (xi_gin (h := 309) (by decide +kernel) (by decide +kernel)) (xi_gin (h := 60) (by decide +kernel) (by decide +kernel)) (by decide +kernel) (by decide +kernel) (by decide +kernel)
set_option maxRecDepth 100000 in
theorem xf_35 : xi_FK 35 := xi_FK.v rfl (xi_gin (h := 306) rfl rfl) (xi_gin (h := 304) (by decide +kernel) (by decide +kernel)) (xi_gin (h := 305) (by decide +kernel) (by decide +kernel)) (xi_gin (h := 60) (by decide +kernel) (by decide +kernel)) (by decide +kernel) (by decide +kernel) (by decide +kernel)
set_option maxRecDepth 100000 in
theorem xf_36 : xi_FK 36 := xi_FK.v rfl (xi_gin (h := 294) rfl rfl) (xi_gin (h := 292) (by decide +kernel) (by decide +kernel)) (xi_gin (h := 293) (by decide +kernel) (by decide +kernel)) (xi_gin (h := 60) (by decide +kernel) (by decide +kernel)) (by decide +kernel) (by decide +kernel) (by decide +kernel)
set_option maxRecDepth 100000 in
theorem xf_37 : xi_FK 37 := xi_FK.v rfl (xi_gin (h := 351) rfl rfl) (xi_gin (h := 350) (by decide +kernel) (by decide +kernel)) (xi_gin (h := 10) (by decide +kernel) (by decide +kernel)) (xi_gin (h := 60) (by decide +kernel) (by decide +kernel)) (by decide +kernel) (by decide +kernel) (by decide +kernel)
set_option maxRecDepth 100000 in
theorem xf_38 : xi_FK 38 := xi_FK.v rfl (xi_gin (h := 370) rfl rfl) (xi_gin (h := 368) (by decide +kernel) (by decide +kernel)) (xi_gin (h := 369) (by decide +kernel) (by decide +kernel)) (xi_gin (h := 60) (by decide +kernel) (by decide +kernel)) (by decide +kernel) (by decide +kernel) (by decide +kernel)
set_option maxRecDepth 100000 in
theorem xf_39 : xi_FK 39 := xi_FK.v rfl (xi_gin (h := 347) rfl rfl) (xi_gin (h := 345) (by decide +kernel) (by decide +kernel)) (xi_gin (h := 346) (by decide +kernel) (by decide +kernel)) (xi_gin (h := 60) (by decide +kernel) (by decide +kernel)) (by decide +kernel) (by decide +kernel) (by decide +kernel)
set_option maxRecDepth 100000 in
theorem xf_40 : xi_FK 40 := xi_FK.v rfl (xi_gin (h := 290) rfl rfl) (xi_gin (h := 288) (by decide +kernel) (by decide +kernel)) (xi_gin (h := 289) (by decide +kernel) (by decide +kernel)) (xi_gin (h := 61) (by decide +kernel) (by decide +kernel)) (by decide +kernel) (by decide +kernel) (by decide +kernel)
set_option maxRecDepth 100000 in
theorem xf_41 : xi_FK 41 := xi_FK.v rfl (xi_gin (h := 534) rfl rfl) (xi_gin (h := 532) (by decide +kernel) (by decide +kernel)) (xi_gin (h := 533) (by decide +kernel) (by decide +kernel)) (xi_gin (h := 61) (by decide +kernel) (by decide +kernel)) (by decide +kernel) (by decide +kernel) (by decide +kernel)
set_option maxRecDepth 100000 in
theorem xf_42 : xi_FK 42 := xi_FK.v rfl (xi_gin (h := 343) rfl rfl) (xi_gin (h := 341) (by decide +kernel) (by decide +kernel)) (xi_gin (h := 342) (by decide +kernel) (by decide +kernel)) (xi_gin (h := 61) (by decide +kernel) (by decide +kernel)) (by decide +kernel) (by decide +kernel) (by decide +kernel)
set_option maxRecDepth 100000 in
theorem xf_43 : xi_FK 43 := xi_FK.v rfl (xi_gin (h := 362) rfl rfl) (xi_gin (h := 360) (by decide +kernel) (by decide +kernel)) (xi_gin (h := 361) (by decide +kernel) (by decide +kernel)) (xi_gin (h := 61) (by decide +kernel) (by decide +kernel)) (by decide +kernel) (by decide +kernel) (by decide +kernel)
set_option maxRecDepth 100000 in
theorem xf_44 : xi_FK 44 := xi_FK.v rfl (xi_gin (h := 462) rfl rfl) (xi_gin (h := 460) (by decide +kernel) (by decide +kernel)) (xi_gin (h := 461) (by decide +kernel) (by decide +kernel)) (xi_gin (h := 61) (by decide +kernel) (by decide +kernel)) (by decide +kernel) (by decide +kernel) (by decide +kernel)
set_option maxRecDepth 100000 in
theorem xf_45 : xi_FK 45 := xi_FK.v rfl (xi_gin (h := 470) rfl rfl) (xi_gin (h := 468) (by decide +kernel) (by decide +kernel)) (xi_gin (h := 469) (by decide +kernel) (by decide +kernel)) (xi_gin (h := 61) (by decide +kernel) (by decide +kernel)) (by decide +kernel) (by decide +kernel) (by decide +kernel)
set_option maxRecDepth 100000 in
theorem xf_46 : xi_FK 46 := xi_FK.v rfl (xi_gin (h := 454) rfl rfl) (xi_gin (h := 452) (by decide +kernel) (by decide +kernel)) (xi_gin (h := 453) (by decide +kernel) (by decide +kernel)) (xi_gin (h := 61) (by decide +kernel) (by decide +kernel)) (by decide +kernel) (by decide +kernel) (by decide +kernel)
set_option maxRecDepth 100000 in
theorem xf_47 : xi_FK 47 := xi_FK.v rfl (xi_gin (h := 477) rfl rfl) (xi_gin (h := 475) (by decide +kernel) (by decide +kernel)) (xi_gin (h := 476) (by decide +kernel) (by decide +kernel)) (xi_gin (h := 61) (by decide +kernel) (by decide +kernel)) (by decide +kernel) (by decide +kernel) (by decide +kernel)
set_option maxRecDepth 100000 in
theorem xf_48 : xi_FK 48 := xi_FK.v rfl (xi_gin (h := 458) rfl rfl) (xi_gin (h := 456) (by decide +kernel) (by decide +kernel)) (xi_gin (h := 457) (by decide +kernel) (by decide +kernel)) (xi_gin (h := 62) (by decide +kernel) (by decide +kernel)) (by decide +kernel) (by decide +kernel) (by decide +kernel)
set_option maxRecDepth 100000 in
theorem xf_49 : xi_FK 49 := xi_FK.v rfl (xi_gin (h := 466) rfl rfl) (xi_gin (h := 465) (by decide +kernel) (by decide +kernel)) (xi_gin (h := 16) (by decide +kernel) (by decide +kernel)) (xi_gin (h := 62) (by decide +kernel) (by decide +kernel)) (by decide +kernel) (by decide +kernel) (by decide +kernel)
set_option maxRecDepth 100000 in
theorem xf_50 : xi_FK 50 := xi_FK.s rfl (xi_gin (h := 473) rfl rfl) (xi_gin (h := 472) (by decide +kernel) (by decide +kernel)) (xi_gin (h := 62) (by decide +kernel) (by decide +kernel)) (by decide +kernel) (by decide +kernel) (by decide +kernel)
set_option maxRecDepth 100000 in
theorem xf_51 : xi_FK 51 := xi_FK.v rfl (xi_gin (h := 481) rfl rfl) (xi_gin (h := 480) (by decide +kernel) (by decide +kernel)) (xi_gin (h := 17) (by decide +kernel) (by decide +kernel)) (xi_gin (h := 62) (by decide +kernel) (by decide +kernel)) (by decide +kernel) (by decide +kernel) (by decide +kernel)
set_option maxRecDepth 100000 in
theorem xf_52 : xi_FK 52 := xi_FK.v rfl (xi_gin (h := 485) rfl rfl) (xi_gin (h := 484) (by decide +kernel) (by decide +kernel)) (xi_gin (h := 18) (by decide +kernel) (by decide +kernel)) (xi_gin (h := 62) (by decide +kernel) (by decide +kernel)) (by decide +kernel) (by decide +kernel) (by decide +kernel)
set_option maxRecDepth 100000 in
theorem xf_53 : xi_FK 53 := xi_FK.v rfl (xi_gin (h := 511) rfl rfl) (xi_gin (h := 510) (by decide +kernel) (by decide +kernel)) (xi_gin (h := 21) (by decide +kernel) (by decide +kernel)) (xi_gin (h := 62) (by decide +kernel) (by decide +kernel)) (by decide +kernel) (by decide +kernel) (by decide +kernel)
set_option maxRecDepth 100000 in
theorem xf_54 : xi_FK 54 := xi_FK.s rfl (xi_gin (h := 507) rfl rfl) (xi_gin (h := 506) (by decide +kernel) (by decide +kernel)) (xi_gin (h := 62) (by decide +kernel) (by decide +kernel)) (by decide +kernel) (by decide +kernel) (by decide +kernel)
set_option maxRecDepth 100000 in
theorem xf_55 : xi_FK 55 := xi_FK.v rfl (xi_gin (h := 504) rfl rfl) (xi_gin (h := 503) (by decide +kernel) (by decide +kernel)) (xi_gin (h := 20) (by decide +kernel) (by decide +kernel)) (xi_gin (h := 62) (by decide +kernel) (by decide +kernel)) (by decide +kernel) (by decide +kernel) (by decide +kernel)
set_option maxRecDepth 100000 in
theorem xf_56 : xi_FK 56 := xi_FK.v rfl (xi_gin (h := 494) rfl rfl) (xi_gin (h := 493) (by decide +kernel) (by decide +kernel)) (xi_gin (h := 19) (by decide +kernel) (by decide +kernel)) (xi_gin (h := 62) (by decide +kernel) (by decide +kernel)) (by decide +kernel) (by decide +kernel) (by decide +kernel)
set_option maxRecDepth 100000 in
theorem xf_57 : xi_FK 57 := xi_FK.v rfl (xi_gin (h := 541) rfl rfl) (xi_gin (h := 539) (by decide +kernel) (by decide +kernel)) (xi_gin (h := 540) (by decide +kernel) (by decide +kernel)) (xi_gin (h := 63) (by decide +kernel) (by decide +kernel)) (by decide +kernel) (by decide +kernel) (by decide +kernel)
set_option maxRecDepth 100000 in
theorem xf_58 : xi_FK 58 := xi_FK.v rfl (xi_gin (h := 624) rfl rfl) (xi_gin (h := 622) (by decide +kernel) (by decide +kernel)) (xi_gin (h := 623) (by decide +kernel) (by decide +kernel)) (xi_gin (h := 63) (by decide +kernel) (by decide +kernel)) (by decide +kernel) (by decide +kernel) (by decide +kernel)
set_option maxRecDepth 100000 in
theorem xf_59 : xi_FK 59 := xi_FK.v rfl (xi_gin (h := 628) rfl rfl) (xi_gin (h := 627) (by decide +kernel) (by decide +kernel)) (xi_gin (h := 23) (by decide +kernel) (by decide +kernel)) (xi_gin (h := 63) (by decide +kernel) (by decide +kernel)) (by decide +kernel) (by decide +kernel) (by decide +kernel)
set_option maxRecDepth 100000 in
theorem xf_60 : xi_FK 60 := xi_FK.v rfl (xi_gin (h := 633) rfl rfl) (xi_gin (h := 632) (by decide +kernel) (by decide +kernel)) (xi_gin (h := 24) (by decide +kernel) (by decide +kernel)) (xi_gin (h := 63) (by decide +kernel) (by decide +kernel)) (by decide +kernel) (by decide +kernel) (by decide +kernel)
set_option maxRecDepth 100000 in
theorem xf_61 : xi_FK 61 := xi_FK.s rfl (xi_gin (h := 640) rfl rfl) (xi_gin (h := 639) (by decide +kernel) (by decide +kernel)) (xi_gin (h := 63) (by decide +kernel) (by decide +kernel)) (by decide +kernel) (by decide +kernel) (by decide +kernel)
set_option maxRecDepth 100000 in
theorem xf_62 : xi_FK 62 := xi_FK.v rfl (xi_gin (h := 644) rfl rfl) (xi_gin (h := 643) (by decide +kernel) (by decide +kernel)) (xi_gin (h := 26) (by decide +kernel) (by decide +kernel)) (xi_gin (h := 63) (by decide +kernel) (by decide +kernel)) (by decide +kernel) (by decide +kernel) (by decide +kernel)
set_option maxRecDepth 100000 in
theorem xf_63 : xi_FK 63 := xi_FK.s rfl (xi_gin (h := 664) rfl rfl) (xi_gin (h := 663) (by decide +kernel) (by decide +kernel)) (xi_gin (h := 63) (by decide +kernel) (by decide +kernel)) (by decide +kernel) (by decide +kernel) (by decide +kernel)
set_option maxRecDepth 100000 in
theorem xf_64 : xi_FK 64 := xi_FK.v rfl (xi_gin (h := 668) rfl rfl) (xi_gin (h := 667) (by decide +kernel) (by decide +kernel)) (xi_gin (h := 31) (by decide +kernel) (by decide +kernel)) (xi_gin (h := 63) (by decide +kernel) (by decide +kernel)) (by decide +kernel) (by decide +kernel) (by decide +kernel)
set_option maxRecDepth 100000 in
theorem xf_65 : xi_FK 65 := xi_FK.v rfl (xi_gin (h := 676) rfl rfl) (xi_gin (h := 675) (by decide +kernel) (by decide +kernel)) (xi_gin (h := 33) (by decide +kernel) (by decide +kernel)) (xi_gin (h := 63) (by decide +kernel) (by decide +kernel)) (by decide +kernel) (by decide +kernel) (by decide +kernel)
set_option maxRecDepth 100000 in
theorem xf_66 : xi_FK 66 := xi_FK.v rfl (xi_gin (h := 672) rfl rfl) (xi_gin (h := 671) (by decide +kernel) (by decide +kernel)) (xi_gin (h := 32) (by decide +kernel) (by decide +kernel)) (xi_gin (h := 63) (by decide +kernel) (by decide +kernel)) (by decide +kernel) (by decide +kernel) (by decide +kernel)
set_option maxRecDepth 100000 in
theorem xf_67 : xi_FK 67 := xi_FK.v rfl (xi_gin (h := 653) rfl rfl) (xi_gin (h := 652) (by decide +kernel) (by decide +kernel)) (xi_gin (h := 28) (by decide +kernel) (by decide +kernel)) (xi_gin (h := 63) (by decide +kernel) (by decide +kernel)) (by decide +kernel) (by decide +kernel) (by decide +kernel)
set_option maxRecDepth 100000 in
theorem xf_68 : xi_FK 68 := xi_FK.v rfl (xi_gin (h := 661) rfl rfl) (xi_gin (h := 660) (by decide +kernel) (by decide +kernel)) (xi_gin (h := 30) (by decide +kernel) (by decide +kernel)) (xi_gin (h := 63) (by decide +kernel) (by decide +kernel)) (by decide +kernel) (by decide +kernel) (by decide +kernel)
set_option maxRecDepth 100000 in
theorem xf_69 : xi_FK 69 := xi_FK.v rfl (xi_gin (h := 648) rfl rfl) (xi_gin (h := 647) (by decide +kernel) (by decide +kernel)) (xi_gin (h := 27) (by decide +kernel) (by decide +kernel)) (xi_gin (h := 63) (by decide +kernel) (by decide +kernel)) (by decide +kernel) (by decide +kernel) (by decide +kernel)
set_option maxRecDepth 100000 in
theorem xf_70 : xi_FK 70 := xi_FK.v rfl (xi_gin (h := 657) rfl rfl) (xi_gin (h := 656) (by decide +kernel) (by decide +kernel)) (xi_gin (h := 29) (by decide +kernel) (by decide +kernel)) (xi_gin (h := 63) (by decide +kernel) (by decide +kernel)) (by decide +kernel) (by decide +kernel) (by decide +kernel)
set_option maxRecDepth 100000 in
theorem xf_71 : xi_FK 71 := xi_FK.v rfl (xi_gin (h := 637) rfl rfl) (xi_gin (h := 636) (by decide +kernel) (by decide +kernel)) (xi_gin (h := 25) (by decide +kernel) (by decide +kernel)) (xi_gin (h := 63) (by decide +kernel) (by decide +kernel)) (by decide +kernel) (by decide +kernel) (by decide +kernel)
set_option maxRecDepth 100000 in
theorem xf_72 : xi_FK 72 := xi_FK.v rfl (xi_gin (h := 838) rfl rfl) (xi_gin (h := 836) (by decide +kernel) (by decide +kernel)) (xi_gin (h := 837) (by decide +kernel) (by decide +kernel)) (xi_gin (h := 64) (by decide +kernel) (by decide +kernel)) (by decide +kernel) (by decide +kernel) (by decide +kernel)
set_option maxRecDepth 100000 in
theorem xf_73 : xi_FK 73 := xi_FK.v rfl (xi_gin (h := 842) rfl rfl) (xi_gin (h := 840) (by decide +kernel) (by decide +kernel)) (xi_gin (h := 841) (by decide +kernel) (by decide +kernel)) (xi_gin (h := 64) (by decide +kernel) (by decide +kernel)) (by decide +kernel) (by decide +kernel) (by decide +kernel)
set_option maxRecDepth 100000 in
theorem xf_74 : xi_FK 74 := xi_FK.v rfl (xi_gin (h := 846) rfl rfl) (xi_gin (h := 844) (by decide +kernel) (by decide +kernel)) (xi_gin (h := 845) (by decide +kernel) (by decide +kernel)) (xi_gin (h := 64) (by decide +kernel) (by decide +kernel)) (by decide +kernel) (by decide +kernel) (by decide +kernel)
set_option maxRecDepth 100000 in
theorem xf_75 : xi_FK 75 := xi_FK.v rfl (xi_gin (h := 850) rfl rfl) (xi_gin (h := 848) (by decide +kernel) (by decide +kernel)) (xi_gin (h := 849) (by decide +kernel) (by decide +kernel)) (xi_gin (h := 64) (by decide +kernel) (by decide +kernel)) (by decide +kernel) (by decide +kernel) (by decide +kernel)
set_option maxRecDepth 100000 in
theorem xf_76 : xi_FK 76 := xi_FK.v rfl (xi_gin (h := 866) rfl rfl) (xi_gin (h := 865) (by decide +kernel) (by decide +kernel)) (xi_gin (h := 36) (by decide +kernel) (by decide +kernel)) (xi_gin (h := 64) (by decide +kernel) (by decide +kernel)) (by decide +kernel) (by decide +kernel) (by decide +kernel)
set_option maxRecDepth 100000 in
theorem xf_77 : xi_FK 77 := xi_FK.v rfl (xi_gin (h := 874) rfl rfl) (xi_gin (h := 873) (by decide +kernel) (by decide +kernel)) (xi_gin (h := 38) (by decide +kernel) (by decide +kernel)) (xi_gin (h := 64) (by decide +kernel) (by decide +kernel)) (by decide +kernel) (by decide +kernel) (by decide +kernel)
set_option maxRecDepth 100000 in
theorem xf_78 : xi_FK 78 := xi_FK.s rfl (xi_gin (h := 908) rfl rfl) (xi_gin (h := 907) (by decide +kernel) (by decide +kernel)) (xi_gin (h := 64) (by decide +kernel) (by decide +kernel)) (by decide +kernel) (by decide +kernel) (by decide +kernel)
set_option maxRecDepth 100000 in
theorem xf_79 : xi_FK 79 := xi_FK.v rfl (xi_gin (h := 886) rfl rfl) (xi_gin (h := 885) (by decide +kernel) (by decide +kernel)) (xi_gin (h := 41) (by decide +kernel) (by decide +kernel)) (xi_gin (h := 64) (by decide +kernel) (by decide +kernel)) (by decide +kernel) (by decide +kernel) (by decide +kernel)
set_option maxRecDepth 100000 in
theorem xf_80 : xi_FK 80 := xi_FK.v rfl (xi_gin (h := 882) rfl rfl) (xi_gin (h := 881) (by decide +kernel) (by decide +kernel)) (xi_gin (h := 40) (by decide +kernel) (by decide +kernel)) (xi_gin (h := 64) (by decide +kernel) (by decide +kernel)) (by decide +kernel) (by decide +kernel) (by decide +kernel)
set_option maxRecDepth 100000 in
theorem xf_81 : xi_FK 81 := xi_FK.s rfl (xi_gin (h := 905) rfl rfl) (xi_gin (h := 904) (by decide +kernel) (by decide +kernel)) (xi_gin (h := 64) (by decide +kernel) (by decide +kernel)) (by decide +kernel) (by decide +kernel) (by decide +kernel)
set_option maxRecDepth 100000 in
theorem xf_82 : xi_FK 82 := xi_FK.s rfl (xi_gin (h := 915) rfl rfl) (xi_gin (h := 914) (by decide +kernel) (by decide +kernel)) (xi_gin (h := 64) (by decide +kernel) (by decide +kernel)) (by decide +kernel) (by decide +kernel) (by decide +kernel)
set_option maxRecDepth 100000 in
theorem xf_83 : xi_FK 83 := xi_FK.v rfl (xi_gin (h := 912) rfl rfl) (xi_gin (h := 911) (by decide +kernel) (by decide +kernel)) (xi_gin (h := 46) (by decide +kernel) (by decide +kernel)) (xi_gin (h := 64) (by decide +kernel) (by decide +kernel)) (by decide +kernel) (by decide +kernel) (by decide +kernel)
set_option maxRecDepth 100000 in
theorem xf_84 : xi_FK 84 := xi_FK.v rfl (xi_gin (h := 919) rfl rfl) (xi_gin (h := 918) (by decide +kernel) (by decide +kernel)) (xi_gin (h := 47) (by decide +kernel) (by decide +kernel)) (xi_gin (h := 64) (by decide +kernel) (by decide +kernel)) (by decide +kernel) (by decide +kernel) (by decide +kernel)
set_option maxRecDepth 100000 in
theorem xf_85 : xi_FK 85 := xi_FK.v rfl (xi_gin (h := 902) rfl rfl) (xi_gin (h := 901) (by decide +kernel) (by decide +kernel)) (xi_gin (h := 45) (by decide +kernel) (by decide +kernel)) (xi_gin (h := 64) (by decide +kernel) (by decide +kernel)) (by decide +kernel) (by decide +kernel) (by decide +kernel)
set_option maxRecDepth 100000 in
theorem xf_86 : xi_FK 86 := xi_FK.v rfl (xi_gin (h := 898) rfl rfl) (xi_gin (h := 897) (by decide +kernel) (by decide +kernel)) (xi_gin (h := 44) (by decide +kernel) (by decide +kernel)) (xi_gin (h := 64) (by decide +kernel) (by decide +kernel)) (by decide +kernel) (by decide +kernel) (by decide +kernel)
set_option maxRecDepth 100000 in
theorem xf_87 : xi_FK 87 := xi_FK.v rfl (xi_gin (h := 894) rfl rfl) (xi_gin (h := 893) (by decide +kernel) (by decide +kernel)) (xi_gin (h := 43) (by decide +kernel) (by decide +kernel)) (xi_gin (h := 64) (by decide +kernel) (by decide +kernel)) (by decide +kernel) (by decide +kernel) (by decide +kernel)
set_option maxRecDepth 100000 in
theorem xf_88 : xi_FK 88 := xi_FK.v rfl (xi_gin (h := 870) rfl rfl) (xi_gin (h := 869) (by decide +kernel) (by decide +kernel)) (xi_gin (h := 37) (by decide +kernel) (by decide +kernel)) (xi_gin (h := 64) (by decide +kernel) (by decide +kernel)) (by decide +kernel) (by decide +kernel) (by decide +kernel)
set_option maxRecDepth 100000 in
theorem xf_89 : xi_FK 89 := xi_FK.v rfl (xi_gin (h := 927) rfl rfl) (xi_gin (h := 926) (by decide +kernel) (by decide +kernel)) (xi_gin (h := 49) (by decide +kernel) (by decide +kernel)) (xi_gin (h := 64) (by decide +kernel) (by decide +kernel)) (by decide +kernel) (by decide +kernel) (by decide +kernel)
set_option maxRecDepth 100000 in
theorem xf_90 : xi_FK 90 := xi_FK.v rfl (xi_gin (h := 923) rfl rfl) (xi_gin (h := 922) (by decide +kernel) (by decide +kernel)) (xi_gin (h := 48) (by decide +kernel) (by decide +kernel)) (xi_gin (h := 64) (by decide +kernel) (by decide +kernel)) (by decide +kernel) (by decide +kernel) (by decide +kernel)
set_option maxRecDepth 100000 in
theorem xf_91 : xi_FK 91 := xi_FK.v rfl (xi_gin (h := 890) rfl rfl) (xi_gin (h := 889) (by decide +kernel) (by decide +kernel)) (xi_gin (h := 42) (by decide +kernel) (by decide +kernel)) (xi_gin (h := 64) (by decide +kernel) (by decide +kernel)) (by decide +kernel) (by decide +kernel) (by decide +kernel)
set_option maxRecDepth 100000 in
theorem xf_92 : xi_FK 92 := xi_FK.v rfl (xi_gin (h := 878) rfl rfl) (xi_gin (h := 877) (by decide +kernel) (by decide +kernel)) (xi_gin (h := 39) (by decide +kernel) (by decide +kernel)) (xi_gin (h := 64) (by decide +kernel) (by decide +kernel)) (by decide +kernel) (by decide +kernel) (by decide +kernel)
set_option maxRecDepth 100000 in
theorem xf_93 : xi_FK 93 := xi_FK.v rfl (xi_gin (h := 862) rfl rfl) (xi_gin (h := 861) (by decide +kernel) (by decide +kernel)) (xi_gin (h := 35) (by decide +kernel) (by decide +kernel)) (xi_gin (h := 64) (by decide +kernel) (by decide +kernel)) (by decide +kernel) (by decide +kernel) (by decide +kernel)
set_option maxRecDepth 100000 in
theorem xf_94 : xi_FK 94 := xi_FK.v rfl (xi_gin (h := 858) rfl rfl) (xi_gin (h := 857) (by decide +kernel) (by decide +kernel)) (xi_gin (h := 34) (by decide +kernel) (by decide +kernel)) (xi_gin (h := 64) (by decide +kernel) (by decide +kernel)) (by decide +kernel) (by decide +kernel) (by decide +kernel)
set_option maxRecDepth 100000 in
theorem xf_95 : xi_FK 95 := xi_FK.s rfl (xi_gin (h := 941) rfl rfl) (xi_gin (h := 940) (by decide +kernel) (by decide +kernel)) (xi_gin (h := 64) (by decide +kernel) (by decide +kernel)) (by decide +kernel) (by decide +kernel) (by decide +kernel)
set_option maxRecDepth 100000 in
theorem xf_96 : xi_FK 96 := xi_FK.s rfl (xi_gin (h := 938) rfl rfl) (xi_gin (h := 937) (by decide +kernel) (by decide +kernel)) (xi_gin (h := 64) (by decide +kernel) (by decide +kernel)) (by decide +kernel) (by decide +kernel) (by decide +kernel)
set_option maxRecDepth 100000 in
theorem xf_97 : xi_FK 97 := xi_FK.s rfl (xi_gin (h := 944) rfl rfl) (xi_gin (h := 943) (by decide +kernel) (by decide +kernel)) (xi_gin (h := 64) (by decide +kernel) (by decide +kernel)) (by decide +kernel) (by decide +kernel) (by decide +kernel)
set_option maxRecDepth 100000 in
theorem xf_98 : xi_FK 98 := xi_FK.s rfl (xi_gin (h := 948) rfl rfl) (xi_gin (h := 947) (by decide +kernel) (by decide +kernel)) (xi_gin (h := 64) (by decide +kernel) (by decide +kernel)) (by decide +kernel) (by decide +kernel) (by decide +kernel)
set_option maxRecDepth 100000 in
theorem xf_99 : xi_FK 99 := xi_FK.v rfl (xi_gin (h := 935) rfl rfl) (xi_gin (h := 934) (by decide +kernel) (by decide +kernel)) (xi_gin (h := 51) (by decide +kernel) (by decide +kernel)) (xi_gin (h := 64) (by decide +kernel) (by decide +kernel)) (by decide +kernel) (by decide +kernel) (by decide +kernel)
set_option maxRecDepth 100000 in
theorem xf_100 : xi_FK 100 := xi_FK.v rfl (xi_gin (h := 952) rfl rfl) (xi_gin (h := 951) (by decide +kernel) (by decide +kernel)) (xi_gin (h := 52) (by decide +kernel) (by decide +kernel)) (xi_gin (h := 64) (by decide +kernel) (by decide +kernel)) (by decide +kernel) (by decide +kernel) (by decide +kernel)
set_option maxRecDepth 100000 in
theorem xf_101 : xi_FK 101 := xi_FK.v rfl (xi_gin (h := 931) rfl rfl) (xi_gin (h := 930) (by decide +kernel) (by decide +kernel)) (xi_gin (h := 50) (by decide +kernel) (by decide +kernel)) (xi_gin (h := 64) (by decide +kernel) (by decide +kernel)) (by decide +kernel) (by decide +kernel) (by decide +kernel)
set_option maxRecDepth 100000 in
theorem xf_102 : xi_FK 102 := xi_FK.v rfl (xi_gin (h := 956) rfl rfl) (xi_gin (h := 955) (by decide +kernel) (by decide +kernel)) (xi_gin (h := 53) (by decide +kernel) (by decide +kernel)) (xi_gin (h := 64) (by decide +kernel) (by decide +kernel)) (by decide +kernel) (by decide +kernel) (by decide +kernel)
set_option maxRecDepth 100000 in
theorem xf_103 : xi_FK 103 := xi_FK.v rfl (xi_gin (h := 960) rfl rfl) (xi_gin (h := 959) (by decide +kernel) (by decide +kernel)) (xi_gin (h := 54) (by decide +kernel) (by decide +kernel)) (xi_gin (h := 64) (by decide +kernel) (by decide +kernel)) (by decide +kernel) (by decide +kernel) (by decide +kernel)
set_option maxRecDepth 100000 in
theorem xf_104 : xi_FK 104 := xi_FK.v rfl (xi_gin (h := 854) rfl rfl) (xi_gin (h := 852) (by decide +kernel) (by decide +kernel)) (xi_gin (h := 853) (by decide +kernel) (by decide +kernel)) (xi_gin (h := 64) (by decide +kernel) (by decide +kernel)) (by decide +kernel) (by decide +kernel) (by decide +kernel)
set_option maxRecDepth 100000 in
theorem xf_105 : xi_FK 105 := xi_FK.v rfl (xi_gin (h := 964) rfl rfl) (xi_gin (h := 962) (by decide +kernel) (by decide +kernel)) (xi_gin (h := 963) (by decide +kernel) (by decide +kernel)) (xi_gin (h := 64) (by decide +kernel) (by decide +kernel)) (by decide +kernel) (by decide +kernel) (by decide +kernel)
set_option maxRecDepth 100000 in
theorem xf_106 : xi_FK 106 := xi_FK.v rfl (xi_gin (h := 968) rfl rfl) (xi_gin (h := 966) (by decide +kernel) (by decide +kernel)) (xi_gin (h := 967) (by decide +kernel) (by decide +kernel)) (xi_gin (h := 64) (by decide +kernel) (by decide +kernel)) (by decide +kernel) (by decide +kernel) (by decide +kernel)
set_option maxRecDepth 100000 in
theorem xf_107 : xi_FK 107 := xi_FK.v rfl (xi_gin (h := 972) rfl rfl) (xi_gin (h := 970) (by decide +kernel) (by decide +kernel)) (xi_gin (h := 971) (by decide +kernel) (by decide +kernel)) (xi_gin (h := 64) (by decide +kernel) (by decide +kernel)) (by decide +kernel) (by decide +kernel) (by decide +kernel)
set_option maxRecDepth 100000 in
theorem xf_108 : xi_FK 108 := xi_FK.v rfl (xi_gin (h := 976) rfl rfl) (xi_gin (h := 974) (by decide +kernel) (by decide +kernel)) (xi_gin (h := 975) (by decide +kernel) (by decide +kernel)) (xi_gin (h := 64) (by decide +kernel) (by decide +kernel)) (by decide +kernel) (by decide +kernel) (by decide +kernel)
set_option maxRecDepth 100000 in
theorem xf_109 : xi_FK 109 := xi_FK.v rfl (xi_gin (h := 980) rfl rfl) (xi_gin (h := 978) (by decide +kernel) (by decide +kernel)) (xi_gin (h := 979) (by decide +kernel) (by decide +kernel)) (xi_gin (h := 64) (by decide +kernel) (by decide +kernel)) (by decide +kernel) (by decide +kernel) (by decide +kernel)
set_option maxRecDepth 100000 in
theorem xf_110 : xi_FK 110 := xi_FK.v rfl (xi_gin (h := 984) rfl rfl) (xi_gin (h := 982) (by decide +kernel) (by decide +kernel)) (xi_gin (h := 983) (by decide +kernel) (by decide +kernel)) (xi_gin (h := 64) (by decide +kernel) (by decide +kernel)) (by decide +kernel) (by decide +kernel) (by decide +kernel)
set_option maxRecDepth 100000 in
theorem xf_111 : xi_FK 111 := xi_FK.s rfl (xi_gin (h := 999) rfl rfl) (xi_gin (h := 998) (by decide +kernel) (by decide +kernel)) (xi_gin (h := 64) (by decide +kernel) (by decide +kernel)) (by decide +kernel) (by decide +kernel) (by decide +kernel)
set_option maxRecDepth 100000 in
theorem xf_112 : xi_FK 112 := xi_FK.v rfl (xi_gin (h := 992) rfl rfl) (xi_gin (h := 991) (by decide +kernel) (by decide +kernel)) (xi_gin (h := 55) (by decide +kernel) (by decide +kernel)) (xi_gin (h := 64) (by decide +kernel) (by decide +kernel)) (by decide +kernel) (by decide +kernel) (by decide +kernel)
set_option maxRecDepth 100000 in
theorem xf_113 : xi_FK 113 := xi_FK.v rfl (xi_gin (h := 996) rfl rfl) (xi_gin (h := 995) (by decide +kernel) (by decide +kernel)) (xi_gin (h := 56) (by decide +kernel) (by decide +kernel)) (xi_gin (h := 64) (by decide +kernel) (by decide +kernel)) (by decide +kernel) (by decide +kernel) (by decide +kernel)
set_option maxRecDepth 100000 in
theorem xf_114 : xi_FK 114 := xi_FK.v rfl (xi_gin (h := 988) rfl rfl) (xi_gin (h := 986) (by decide +kernel) (by decide +kernel)) (xi_gin (h := 987) (by decide +kernel) (by decide +kernel)) (xi_gin (h := 64) (by decide +kernel) (by decide +kernel)) (by decide +kernel) (by decide +kernel) (by decide +kernel)
set_option maxRecDepth 100000 in
theorem xf_115 : xi_FK 115 := xi_FK.v rfl (xi_gin (h := 1003) rfl rfl) (xi_gin (h := 1001) (by decide +kernel) (by decide +kernel)) (xi_gin (h := 1002) (by decide +kernel) (by decide +kernel)) (xi_gin (h := 64) (by decide +kernel) (by decide +kernel)) (by decide +kernel) (by decide +kernel) (by decide +kernel)
set_option maxRecDepth 100000 in
theorem xf_116 : xi_FK 116 := xi_FK.v rfl (xi_gin (h := 1007) rfl rfl) (xi_gin (h := 1005) (by decide +kernel) (by decide +kernel)) (xi_gin (h := 1006) (by decide +kernel) (by decide +kernel)) (xi_gin (h := 64) (by decide +kernel) (by decide +kernel)) (by decide +kernel) (by decide +kernel) (by decide +kernel)
set_option maxRecDepth 100000 in
set_option maxHeartbeats 4000000 in
theorem xo_0 : xi_ca 0 0 xt_0 xh_0 = true := by decide +kernel
set_option maxRecDepth 100000 in
set_option maxHeartbeats 4000000 in
theorem xo_1 : xi_ca 1 0 xt_1 xh_1 = true := by decide +kernel
set_option maxRecDepth 100000 in
set_option maxHeartbeats 4000000 in
theorem xo_2 : xi_ca 2 0 xt_2 xh_2 = true := by decide +kernel
set_option maxRecDepth 100000 in
set_option maxHeartbeats 4000000 in
theorem xo_3 : xi_ca 3 0 xt_3 xh_3 = true := by decide +kernel
set_option maxRecDepth 100000 in
set_option maxHeartbeats 4000000 in
theorem xo_4 : xi_ca 4 0 xt_4 xh_4 = true := by decide +kernel
set_option maxRecDepth 100000 in
set_option maxHeartbeats 4000000 in
theorem xo_5 : xi_ca 5 0 xt_5 xh_5 = true := by decide +kernel
set_option maxRecDepth 100000 in
set_option maxHeartbeats 4000000 in
theorem xo_6 : xi_ca 6 0 xt_6 xh_6 = true := by decide +kernel
set_option maxRecDepth 100000 in
set_option maxHeartbeats 4000000 in
theorem xo_7 : xi_ca 7 0 xt_7 xh_7 = true := by decide +kernel
set_option maxRecDepth 100000 in
set_option maxHeartbeats 4000000 in
theorem xo_8 : xi_ca 8 0 xt_8 xh_8 = true := by decide +kernel
set_option maxRecDepth 100000 in
set_option maxHeartbeats 4000000 in
theorem xo_9 : xi_ca 9 0 xt_9 xh_9 = true := by decide +kernel
set_option maxRecDepth 100000 in
set_option maxHeartbeats 4000000 in
theorem xo_10 : xi_ca 10 0 xt_10 xh_10 = true := by decide +kernel
set_option maxRecDepth 100000 in
set_option maxHeartbeats 4000000 in
theorem xo_11 : xi_ca 11 0 xt_11 xh_11 = true := by decide +kernel
set_option maxRecDepth 100000 in
set_option maxHeartbeats 4000000 in
theorem xo_12 : xi_ca 12 0 xt_12 xh_12 = true := by decide +kernel
set_option maxRecDepth 100000 in
set_option maxHeartbeats 4000000 in
theorem xo_13 : xi_ca 13 0 xt_13 xh_13 = true := by decide +kernel
set_option maxRecDepth 100000 in
set_option maxHeartbeats 4000000 in
theorem xo_14 : xi_ca 14 0 xt_14 xh_14 = true := by decide +kernel
set_option maxRecDepth 100000 in
set_option maxHeartbeats 4000000 in
theorem xo_15 : xi_ca 15 0 xt_15 xh_15 = true := by decide +kernel
set_option maxRecDepth 100000 in
set_option maxHeartbeats 4000000 in
theorem xo_16 : xi_ca 16 0 xt_16 xh_16 = true := by decide +kernel
set_option maxRecDepth 100000 in
set_option maxHeartbeats 4000000 in
theorem xo_17 : xi_ca 17 0 xt_17 xh_17 = true := by decide +kernel
set_option maxRecDepth 100000 in
set_option maxHeartbeats 4000000 in
theorem xo_18 : xi_ca 18 0 xt_18 xh_18 = true := by decide +kernel
set_option maxRecDepth 100000 in
set_option maxHeartbeats 4000000 in
theorem xo_19 : xi_ca 19 0 xt_19 xh_19 = true := by decide +kernel
set_option maxRecDepth 100000 in
set_option maxHeartbeats 4000000 in
theorem xo_20 : xi_ca 20 0 xt_20 xh_20 = true := by decide +kernel
set_option maxRecDepth 100000 in
set_option maxHeartbeats 4000000 in
theorem xo_21 : xi_ca 21 0 xt_21 xh_21 = true := by decide +kernel
set_option maxRecDepth 100000 in
set_option maxHeartbeats 4000000 in
theorem xo_22 : xi_ca 22 0 xt_22 xh_22 = true := by decide +kernel
set_option maxRecDepth 100000 in
set_option maxHeartbeats 4000000 in
theorem xo_23 : xi_ca 23 0 xt_23 xh_23 = true := by decide +kernel
set_option maxRecDepth 100000 in
set_option maxHeartbeats 4000000 in
theorem xo_24 : xi_ca 24 0 xt_24 xh_24 = true := by decide +kernel
set_option maxRecDepth 100000 in
set_option maxHeartbeats 4000000 in
theorem xo_25 : xi_ca 25 0 xt_25 xh_25 = true := by decide +kernel
set_option maxRecDepth 100000 in
set_option maxHeartbeats 4000000 in
theorem xo_26 : xi_ca 26 0 xt_26 xh_26 = true := by decide +kernel
set_option maxRecDepth 100000 in
set_option maxHeartbeats 4000000 in
theorem xo_27 : xi_ca 27 0 xt_27 xh_27 = true := by decide +kernel
set_option maxRecDepth 100000 in
set_option maxHeartbeats 4000000 in
theorem xo_28 : xi_ca 28 0 xt_28 xh_28 = true := by decide +kernel
set_option maxRecDepth 100000 in
set_option maxHeartbeats 4000000 in
theorem xo_29 : xi_ca 29 0 xt_29 xh_29 = true := by decide +kernel
set_option maxRecDepth 100000 in
set_option maxHeartbeats 4000000 in
theorem xo_30 : xi_ca 30 0 xt_30 xh_30 = true := by decide +kernel
set_option maxRecDepth 100000 in
set_option maxHeartbeats 4000000 in
theorem xo_31 : xi_ca 31 0 xt_31 xh_31 = true := by decide +kernel
set_option maxRecDepth 100000 in
set_option maxHeartbeats 4000000 in
theorem xo_32 : xi_ca 32 0 xt_32 xh_32 = true := by decide +kernel
set_option maxRecDepth 100000 in
set_option maxHeartbeats 4000000 in
theorem xo_33 : xi_ca 33 0 xt_33 xh_33 = true := by decide +kernel
set_option maxRecDepth 100000 in
set_option maxHeartbeats 4000000 in
theorem xo_34 : xi_ca 34 0 xt_34 xh_34 = true := by decide +kernel
set_option maxRecDepth 100000 in
set_option maxHeartbeats 4000000 in
theorem xo_35 : xi_ca 35 0 xt_35 xh_35 = true := by decide +kernel
set_option maxRecDepth 100000 in
set_option maxHeartbeats 4000000 in
theorem xo_36 : xi_ca 36 0 xt_36 xh_36 = true := by decide +kernel
set_option maxRecDepth 100000 in
set_option maxHeartbeats 4000000 in
theorem xo_37 : xi_ca 37 0 xt_37 xh_37 = true := by decide +kernel
set_option maxRecDepth 100000 in
set_option maxHeartbeats 4000000 in
theorem xo_38 : xi_ca 38 0 xt_38 xh_38 = true := by decide +kernel
set_option maxRecDepth 100000 in
set_option maxHeartbeats 4000000 in
theorem xo_39 : xi_ca 39 0 xt_39 xh_39 = true := by decide +kernel
set_option maxRecDepth 100000 in
set_option maxHeartbeats 4000000 in
theorem xo_40 : xi_ca 40 0 xt_40 xh_40 = true := by decide +kernel
set_option maxRecDepth 100000 in
set_option maxHeartbeats 4000000 in
theorem xo_41 : xi_ca 41 0 xt_41 xh_41 = true := by decide +kernel
set_option maxRecDepth 100000 in
set_option maxHeartbeats 4000000 in
theorem xo_42 : xi_ca 42 0 xt_42 xh_42 = true := by decide +kernel
set_option maxRecDepth 100000 in
set_option maxHeartbeats 4000000 in
theorem xo_43 : xi_ca 43 0 xt_43 xh_43 = true := by decide +kernel
set_option maxRecDepth 100000 in
set_option maxHeartbeats 4000000 in
theorem xo_44 : xi_ca 44 0 xt_44 xh_44 = true := by decide +kernel
set_option maxRecDepth 100000 in
set_option maxHeartbeats 4000000 in
theorem xo_45 : xi_ca 45 0 xt_45 xh_45 = true := by decide +kernel
set_option maxRecDepth 100000 in
set_option maxHeartbeats 4000000 in
theorem xo_46 : xi_ca 46 0 xt_46 xh_46 = true := by decide +kernel
set_option maxRecDepth 100000 in
set_option maxHeartbeats 4000000 in
theorem xo_47 : xi_ca 47 0 xt_47 xh_47 = true := by decide +kernel
set_option maxRecDepth 100000 in
set_option maxHeartbeats 4000000 in
theorem xo_48 : xi_ca 48 0 xt_48 xh_48 = true := by decide +kernel
set_option maxRecDepth 100000 in
set_option maxHeartbeats 4000000 in
theorem xo_49 : xi_ca 49 0 xt_49 xh_49 = true := by decide +kernel
set_option maxRecDepth 100000 in
set_option maxHeartbeats 4000000 in
theorem xo_50 : xi_ca 50 0 xt_50 xh_50 = true := by decide +kernel
set_option maxRecDepth 100000 in
set_option maxHeartbeats 4000000 in
theorem xo_51 : xi_ca 51 0 xt_51 xh_51 = true := by decide +kernel
set_option maxRecDepth 100000 in
set_option maxHeartbeats 4000000 in
theorem xo_52 : xi_ca 52 0 xt_52 xh_52 = true := by decide +kernel
set_option maxRecDepth 100000 in
set_option maxHeartbeats 4000000 in
theorem xo_53 : xi_ca 53 0 xt_53 xh_53 = true := by decide +kernel
set_option maxRecDepth 100000 in
set_option maxHeartbeats 4000000 in
theorem xo_54 : xi_ca 54 0 xt_54 xh_54 = true := by decide +kernel
set_option maxRecDepth 100000 in
set_option maxHeartbeats 4000000 in
theorem xo_55 : xi_ca 55 0 xt_55 xh_55 = true := by decide +kernel
set_option maxRecDepth 100000 in
set_option maxHeartbeats 4000000 in
theorem xo_56 : xi_ca 56 0 xt_56 xh_56 = true := by decide +kernel
set_option maxRecDepth 100000 in
set_option maxHeartbeats 4000000 in
theorem xo_57 : xi_ca 57 0 xt_57 xh_57 = true := by decide +kernel
set_option maxRecDepth 100000 in
set_option maxHeartbeats 4000000 in
theorem xo_58 : xi_ca 58 0 xt_58 xh_58 = true := by decide +kernel
set_option maxRecDepth 100000 in
set_option maxHeartbeats 4000000 in
theorem xo_59 : xi_ca 59 0 xt_59 xh_59 = true := by decide +kernel
set_option maxRecDepth 100000 in
set_option maxHeartbeats 4000000 in
theorem xo_60 : xi_ca 60 0 xt_60 xh_60 = true := by decide +kernel
set_option maxRecDepth 100000 in
set_option maxHeartbeats 4000000 in
theorem xo_61 : xi_ca 61 0 xt_61 xh_61 = true := by decide +kernel
set_option maxRecDepth 100000 in
set_option maxHeartbeats 4000000 in
theorem xo_62 : xi_ca 62 0 xt_62 xh_62 = true := by decide +kernel
set_option maxRecDepth 100000 in
set_option maxHeartbeats 4000000 in
theorem xo_63 : xi_ca 63 0 xt_63 xh_63 = true := by decide +kernel
set_option maxRecDepth 100000 in
set_option maxHeartbeats 4000000 in
theorem xo_64 : xi_ca 64 0 xt_64 xh_64 = true := by decide +kernel
set_option maxRecDepth 100000 in
set_option maxHeartbeats 4000000 in
theorem xo_65 : xi_ca 65 0 xt_65 xh_65 = true := by decide +kernel
set_option maxRecDepth 100000 in
set_option maxHeartbeats 4000000 in
theorem xo_66 : xi_ca 66 0 xt_66 xh_66 = true := by decide +kernel
set_option maxRecDepth 100000 in
set_option maxHeartbeats 4000000 in
theorem xo_67 : xi_ca 67 0 xt_67 xh_67 = true := by decide +kernel
set_option maxRecDepth 100000 in
set_option maxHeartbeats 4000000 in
theorem xo_68 : xi_ca 68 0 xt_68 xh_68 = true := by decide +kernel
set_option maxRecDepth 100000 in
set_option maxHeartbeats 4000000 in
theorem xo_69 : xi_ca 69 0 xt_69 xh_69 = true := by decide +kernel
set_option maxRecDepth 100000 in
set_option maxHeartbeats 4000000 in
theorem xo_70 : xi_ca 70 0 xt_70 xh_70 = true := by decide +kernel
set_option maxRecDepth 100000 in
set_option maxHeartbeats 4000000 in
theorem xo_71 : xi_ca 71 0 xt_71 xh_71 = true := by decide +kernel
set_option maxRecDepth 100000 in
set_option maxHeartbeats 4000000 in
theorem xo_72 : xi_ca 72 0 xt_72 xh_72 = true := by decide +kernel
set_option maxRecDepth 100000 in
set_option maxHeartbeats 4000000 in
theorem xo_73 : xi_ca 73 0 xt_73 xh_73 = true := by decide +kernel
set_option maxRecDepth 100000 in
set_option maxHeartbeats 4000000 in
theorem xo_74 : xi_ca 74 0 xt_74 xh_74 = true := by decide +kernel
set_option maxRecDepth 100000 in
set_option maxHeartbeats 4000000 in
theorem xo_75 : xi_ca 75 0 xt_75 xh_75 = true := by decide +kernel
set_option maxRecDepth 100000 in
set_option maxHeartbeats 4000000 in
theorem xo_76 : xi_ca 76 0 xt_76 xh_76 = true := by decide +kernel
set_option maxRecDepth 100000 in
set_option maxHeartbeats 4000000 in
theorem xo_77 : xi_ca 77 0 xt_77 xh_77 = true := by decide +kernel
set_option maxRecDepth 100000 in
set_option maxHeartbeats 4000000 in
theorem xo_78 : xi_ca 78 0 xt_78 xh_78 = true := by decide +kernel
set_option maxRecDepth 100000 in
set_option maxHeartbeats 4000000 in
theorem xo_79 : xi_ca 79 0 xt_79 xh_79 = true := by decide +kernel
set_option maxRecDepth 100000 in
set_option maxHeartbeats 4000000 in
theorem xo_80 : xi_ca 80 0 xt_80 xh_80 = true := by decide +kernel
set_option maxRecDepth 100000 in
set_option maxHeartbeats 4000000 in
theorem xo_81 : xi_ca 81 0 xt_81 xh_81 = true := by decide +kernel
set_option maxRecDepth 100000 in
set_option maxHeartbeats 4000000 in
theorem xo_82 : xi_ca 82 0 xt_82 xh_82 = true := by decide +kernel
set_option maxRecDepth 100000 in
set_option maxHeartbeats 4000000 in
theorem xo_83 : xi_ca 83 0 xt_83 xh_83 = true := by decide +kernel
set_option maxRecDepth 100000 in
set_option maxHeartbeats 4000000 in
theorem xo_84 : xi_ca 84 0 xt_84 xh_84 = true := by decide +kernel
set_option maxRecDepth 100000 in
set_option maxHeartbeats 4000000 in
theorem xo_85 : xi_ca 85 0 xt_85 xh_85 = true := by decide +kernel
set_option maxRecDepth 100000 in
set_option maxHeartbeats 4000000 in
theorem xo_86 : xi_ca 86 0 xt_86 xh_86 = true := by decide +kernel
set_option maxRecDepth 100000 in
set_option maxHeartbeats 4000000 in
theorem xo_87 : xi_ca 87 0 xt_87 xh_87 = true := by decide +kernel
set_option maxRecDepth 100000 in
set_option maxHeartbeats 4000000 in
theorem xo_88 : xi_ca 88 0 xt_88 xh_88 = true := by decide +kernel
set_option maxRecDepth 100000 in
set_option maxHeartbeats 4000000 in
theorem xo_89 : xi_ca 89 0 xt_89 xh_89 = true := by decide +kernel
set_option maxRecDepth 100000 in
set_option maxHeartbeats 4000000 in
theorem xo_90 : xi_ca 90 0 xt_90 xh_90 = true := by decide +kernel
set_option maxRecDepth 100000 in
set_option maxHeartbeats 4000000 in
theorem xo_91 : xi_ca 91 0 xt_91 xh_91 = true := by decide +kernel
set_option maxRecDepth 100000 in
set_option maxHeartbeats 4000000 in
theorem xo_92 : xi_ca 92 0 xt_92 xh_92 = true := by decide +kernel
set_option maxRecDepth 100000 in
set_option maxHeartbeats 4000000 in
theorem xo_93 : xi_ca 93 0 xt_93 xh_93 = true := by decide +kernel
set_option maxRecDepth 100000 in
set_option maxHeartbeats 4000000 in
theorem xo_94 : xi_ca 94 0 xt_94 xh_94 = true := by decide +kernel
set_option maxRecDepth 100000 in
set_option maxHeartbeats 4000000 in
theorem xo_95 : xi_ca 95 0 xt_95 xh_95 = true := by decide +kernel
set_option maxRecDepth 100000 in
set_option maxHeartbeats 4000000 in
theorem xo_96 : xi_ca 96 0 xt_96 xh_96 = true := by decide +kernel
set_option maxRecDepth 100000 in
set_option maxHeartbeats 4000000 in
theorem xo_97 : xi_ca 97 0 xt_97 xh_97 = true := by decide +kernel
set_option maxRecDepth 100000 in
set_option maxHeartbeats 4000000 in
theorem xo_98 : xi_ca 98 0 xt_98 xh_98 = true := by decide +kernel
set_option maxRecDepth 100000 in
set_option maxHeartbeats 4000000 in
theorem xo_99 : xi_ca 99 0 xt_99 xh_99 = true := by decide +kernel
set_option maxRecDepth 100000 in
set_option maxHeartbeats 4000000 in
theorem xo_100 : xi_ca 100 0 xt_100 xh_100 = true := by decide +kernel
set_option maxRecDepth 100000 in
set_option maxHeartbeats 4000000 in
theorem xo_101 : xi_ca 101 0 xt_101 xh_101 = true := by decide +kernel
set_option maxRecDepth 100000 in
set_option maxHeartbeats 4000000 in
theorem xo_102 : xi_ca 102 0 xt_102 xh_102 = true := by decide +kernel
set_option maxRecDepth 100000 in
set_option maxHeartbeats 4000000 in
theorem xo_103 : xi_ca 103 0 xt_103 xh_103 = true := by decide +kernel
set_option maxRecDepth 100000 in
set_option maxHeartbeats 4000000 in
theorem xo_104 : xi_ca 104 0 xt_104 xh_104 = true := by decide +kernel
set_option maxRecDepth 100000 in
set_option maxHeartbeats 4000000 in
theorem xo_105 : xi_ca 105 0 xt_105 xh_105 = true := by decide +kernel
set_option maxRecDepth 100000 in
set_option maxHeartbeats 4000000 in
theorem xo_106 : xi_ca 106 0 xt_106 xh_106 = true := by decide +kernel
set_option maxRecDepth 100000 in
set_option maxHeartbeats 4000000 in
theorem xo_107 : xi_ca 107 0 xt_107 xh_107 = true := by decide +kernel
set_option maxRecDepth 100000 in
set_option maxHeartbeats 4000000 in
theorem xo_108 : xi_ca 108 0 xt_108 xh_108 = true := by decide +kernel
set_option maxRecDepth 100000 in
set_option maxHeartbeats 4000000 in
theorem xo_109 : xi_ca 109 0 xt_109 xh_109 = true := by decide +kernel
set_option maxRecDepth 100000 in
set_option maxHeartbeats 4000000 in
theorem xo_110 : xi_ca 110 0 xt_110 xh_110 = true := by decide +kernel
set_option maxRecDepth 100000 in
set_option maxHeartbeats 4000000 in
theorem xo_111 : xi_ca 111 0 xt_111 xh_111 = true := by decide +kernel
set_option maxRecDepth 100000 in
set_option maxHeartbeats 4000000 in
theorem xo_112 : xi_ca 112 0 xt_112 xh_112 = true := by decide +kernel
set_option maxRecDepth 100000 in
set_option maxHeartbeats 4000000 in
theorem xo_113 : xi_ca 113 0 xt_113 xh_113 = true := by decide +kernel
set_option maxRecDepth 100000 in
set_option maxHeartbeats 4000000 in
theorem xo_114 : xi_ca 114 0 xt_114 xh_114 = true := by decide +kernel
set_option maxRecDepth 100000 in
set_option maxHeartbeats 4000000 in
theorem xo_115 : xi_ca 115 0 xt_115 xh_115 = true := by decide +kernel
set_option maxRecDepth 100000 in
set_option maxHeartbeats 4000000 in
theorem xo_116 : xi_ca 116 0 xt_116 xh_116 = true := by decide +kernel
