/-! words of fields, classes, constants and calls (by program) -/
theorem nw_r (t : FieldType) (G : AG) {x : Nat} : narrow (.array t) (rv G (vr x)) = rv G (vr x) := by cases x <;> rfl
theorem ft_r (t : FieldType) (G : AG) {x : Nat} : fits (.array t) (rv G (vr x)) = true := by cases x <;> rfl
theorem nw_o (t : String) (G : AG) {x : Nat} : narrow (.object t) (rv G (vr x)) = rv G (vr x) := by cases x <;> rfl
theorem ft_o (t : String) (G : AG) {x : Nat} : fits (.object t) (rv G (vr x)) = true := by cases x <;> rfl
theorem zn_ok {v : Int32} (h : (v == 0 || v == 1) = true) : narrow .boolean (.int v) = .int v := by
  simp at h; rcases h with rfl | rfl <;> rfl
theorem nw_z (G : AG) {v : Int32} (h : (v == 0 || v == 1) = true) : narrow .boolean (rv G (vi v)) = rv G (vi v) := zn_ok h
theorem ft_z (G : AG) {v : Int32} (h : (v == 0 || v == 1) = true) : fits .boolean (rv G (vi v)) = true := by
  simp at h; rcases h with rfl | rfl <;> rfl
theorem ci_0 : CI 0 R0 T0 12 ty0 := ⟨rfl, fun w h => List.mem_filter.mpr ⟨in0 w h, List.all_eq_true.mp (by decide +kernel : (u_ws R0 T0 12).all goodWord = true) w h⟩, ty0_ok, nm0, by decide⟩
theorem ci_1 : CI 1 R1 T1 5 ty1 := ⟨rfl, fun w h => List.mem_filter.mpr ⟨in1 w h, List.all_eq_true.mp (by decide +kernel : (u_ws R1 T1 5).all goodWord = true) w h⟩, ty1_ok, nm1, by decide⟩
theorem ci_2 : CI 2 R2 T2 1 ty2 := ⟨rfl, fun w h => List.mem_filter.mpr ⟨in2 w h, List.all_eq_true.mp (by decide +kernel : (u_ws R2 T2 1).all goodWord = true) w h⟩, ty2_ok, nm2, by decide⟩
theorem ci_3 : CI 3 R3 T3 17 ty3 := ⟨rfl, fun w h => List.mem_filter.mpr ⟨in3 w h, List.all_eq_true.mp (by decide +kernel : (u_ws R3 T3 17).all goodWord = true) w h⟩, ty3_ok, nm3, by decide⟩
theorem ci_4 : CI 4 R4 T4 8 ty4 := ⟨rfl, fun w h => List.mem_filter.mpr ⟨in4 w h, List.all_eq_true.mp (by decide +kernel : (u_ws R4 T4 8).all goodWord = true) w h⟩, ty4_ok, nm4, by decide⟩
theorem ci_5 : CI 5 R5 T5 6 ty5 := ⟨rfl, fun w h => List.mem_filter.mpr ⟨in5 w h, List.all_eq_true.mp (by decide +kernel : (u_ws R5 T5 6).all goodWord = true) w h⟩, ty5_ok, nm5, by decide⟩
theorem ci_6 : CI 6 R6 T6 1 ty6 := ⟨rfl, fun w h => List.mem_filter.mpr ⟨in6 w h, List.all_eq_true.mp (by decide +kernel : (u_ws R6 T6 1).all goodWord = true) w h⟩, ty6_ok, nm6, by decide⟩
theorem ci_7 : CI 7 R7 T7 1 ty7 := ⟨rfl, fun w h => List.mem_filter.mpr ⟨in7 w h, List.all_eq_true.mp (by decide +kernel : (u_ws R7 T7 1).all goodWord = true) w h⟩, ty7_ok, nm7, by decide⟩
theorem ci_8 : CI 8 R8 T8 11 ty8 := ⟨rfl, fun w h => List.mem_filter.mpr ⟨in8 w h, List.all_eq_true.mp (by decide +kernel : (u_ws R8 T8 11).all goodWord = true) w h⟩, ty8_ok, nm8, by decide⟩
theorem ci_9 : CI 9 R9 T9 16 ty9 := ⟨rfl, fun w h => List.mem_filter.mpr ⟨in9 w h, List.all_eq_true.mp (by decide +kernel : (u_ws R9 T9 16).all goodWord = true) w h⟩, ty9_ok, nm9, by decide⟩
theorem ci_10 : CI 10 R10 T10 3 ty10 := ⟨rfl, fun w h => List.mem_filter.mpr ⟨in10 w h, List.all_eq_true.mp (by decide +kernel : (u_ws R10 T10 3).all goodWord = true) w h⟩, ty10_ok, nm10, by decide⟩
theorem ci_11 : CI 11 R11 T11 9 ty11 := ⟨rfl, fun w h => List.mem_filter.mpr ⟨in11 w h, List.all_eq_true.mp (by decide +kernel : (u_ws R11 T11 9).all goodWord = true) w h⟩, ty11_ok, nm11, by decide⟩
theorem ci_12 : CI 12 R12 T12 49 ty12 := ⟨rfl, fun w h => List.mem_filter.mpr ⟨in12 w h, List.all_eq_true.mp (by decide +kernel : (u_ws R12 T12 49).all goodWord = true) w h⟩, ty12_ok, nm12, by decide⟩
theorem fl_A_10 : Cond.fieldLink "RedSky" 10 (T0 0).1 (T0 0).2.1 (T0 0).2.2.1 ∈ tb := tb_mem 500 (by decide +kernel) (by decide +kernel)
theorem fl_A_18 : Cond.fieldLink "RedSky" 18 (T0 1).1 (T0 1).2.1 (T0 1).2.2.1 ∈ tb := tb_mem 501 (by decide +kernel) (by decide +kernel)
theorem fl_A_25 : Cond.fieldLink "RedSky" 25 (T0 2).1 (T0 2).2.1 (T0 2).2.2.1 ∈ tb := tb_mem 502 (by decide +kernel) (by decide +kernel)
theorem fl_A_31 : Cond.fieldLink "RedSky" 31 (T0 3).1 (T0 3).2.1 (T0 3).2.2.1 ∈ tb := tb_mem 503 (by decide +kernel) (by decide +kernel)
theorem fl_A_35 : Cond.fieldLink "RedSky" 35 (T0 4).1 (T0 4).2.1 (T0 4).2.2.1 ∈ tb := tb_mem 504 (by decide +kernel) (by decide +kernel)
theorem fl_A_42 : Cond.fieldLink "RedSky" 42 (T0 5).1 (T0 5).2.1 (T0 5).2.2.1 ∈ tb := tb_mem 505 (by decide +kernel) (by decide +kernel)
theorem fl_A_49 : Cond.fieldLink "RedSky" 49 (T0 6).1 (T0 6).2.1 (T0 6).2.2.1 ∈ tb := tb_mem 506 (by decide +kernel) (by decide +kernel)
theorem fl_A_53 : Cond.fieldLink "RedSky" 53 (T0 7).1 (T0 7).2.1 (T0 7).2.2.1 ∈ tb := tb_mem 507 (by decide +kernel) (by decide +kernel)
theorem fl_A_59 : Cond.fieldLink "RedSky" 59 (T0 8).1 (T0 8).2.1 (T0 8).2.2.1 ∈ tb := tb_mem 508 (by decide +kernel) (by decide +kernel)
theorem fl_A_66 : Cond.fieldLink "RedSky" 66 (T0 9).1 (T0 9).2.1 (T0 9).2.2.1 ∈ tb := tb_mem 509 (by decide +kernel) (by decide +kernel)
theorem fl_A_72 : Cond.fieldLink "RedSky" 72 (T0 10).1 (T0 10).2.1 (T0 10).2.2.1 ∈ tb := tb_mem 510 (by decide +kernel) (by decide +kernel)
theorem fl_A_79 : Cond.fieldLink "RedSky" 79 (T0 11).1 (T0 11).2.1 (T0 11).2.2.1 ∈ tb := tb_mem 511 (by decide +kernel) (by decide +kernel)
theorem fl_A_90 : Cond.fieldLink "RedSky" 90 (T1 0).1 (T1 0).2.1 (T1 0).2.2.1 ∈ tb := tb_mem 130 (by decide +kernel) (by decide +kernel)
theorem fl_A_124 : Cond.fieldLink "RedSky" 124 (T1 1).1 (T1 1).2.1 (T1 1).2.2.1 ∈ tb := tb_mem 132 (by decide +kernel) (by decide +kernel)
theorem fl_A_128 : Cond.fieldLink "RedSky" 128 (T1 2).1 (T1 2).2.1 (T1 2).2.2.1 ∈ tb := tb_mem 134 (by decide +kernel) (by decide +kernel)
theorem fl_A_131 : Cond.fieldLink "RedSky" 131 (T1 3).1 (T1 3).2.1 (T1 3).2.2.1 ∈ tb := tb_mem 136 (by decide +kernel) (by decide +kernel)
theorem fl_A_134 : Cond.fieldLink "RedSky" 134 (T1 4).1 (T1 4).2.1 (T1 4).2.2.1 ∈ tb := tb_mem 138 (by decide +kernel) (by decide +kernel)
theorem fl_A_161 : Cond.fieldLink "RedSky" 161 "RedSky$Diary" "LOWEST" "[I" ∈ tb := tb_mem 681 (by decide +kernel) (by decide +kernel)
theorem fl_A_164 : Cond.fieldLink "RedSky" 164 "RedSky$Diary" "HIGHEST" "[I" ∈ tb := tb_mem 682 (by decide +kernel) (by decide +kernel)
theorem fl_A_178 : Cond.fieldLink "RedSky" 178 (T3 0).1 (T3 0).2.1 (T3 0).2.2.1 ∈ tb := tb_mem 240 (by decide +kernel) (by decide +kernel)
theorem fl_A_196 : Cond.fieldLink "RedSky" 196 (T3 2).1 (T3 2).2.1 (T3 2).2.2.1 ∈ tb := tb_mem 243 (by decide +kernel) (by decide +kernel)
theorem cw_A_234 : Cond.constant "RedSky" 234 (-100000001) ∈ tb := tb_mem 1113 (by decide +kernel) (by decide +kernel)
theorem fl_A_242 : Cond.fieldLink "RedSky" 242 (T8 7).1 (T8 7).2.1 (T8 7).2.2.1 ∈ tb := tb_mem 340 (by decide +kernel) (by decide +kernel)
theorem fl_A_248 : Cond.fieldLink "RedSky" 248 (T8 6).1 (T8 6).2.1 (T8 6).2.2.1 ∈ tb := tb_mem 338 (by decide +kernel) (by decide +kernel)
theorem fl_A_255 : Cond.fieldLink "RedSky" 255 (T9 0).1 (T9 0).2.1 (T9 0).2.2.1 ∈ tb := tb_mem 379 (by decide +kernel) (by decide +kernel)
theorem fl_A_262 : Cond.fieldLink "RedSky" 262 (T8 3).1 (T8 3).2.1 (T8 3).2.2.1 ∈ tb := tb_mem 332 (by decide +kernel) (by decide +kernel)
theorem fl_A_265 : Cond.fieldLink "RedSky" 265 (T8 4).1 (T8 4).2.1 (T8 4).2.2.1 ∈ tb := tb_mem 334 (by decide +kernel) (by decide +kernel)
theorem fl_A_275 : Cond.fieldLink "RedSky" 275 (T8 0).1 (T8 0).2.1 (T8 0).2.2.1 ∈ tb := tb_mem 326 (by decide +kernel) (by decide +kernel)
theorem fl_A_278 : Cond.fieldLink "RedSky" 278 (T8 2).1 (T8 2).2.1 (T8 2).2.2.1 ∈ tb := tb_mem 330 (by decide +kernel) (by decide +kernel)
theorem fl_A_288 : Cond.fieldLink "RedSky" 288 (T9 1).1 (T9 1).2.1 (T9 1).2.2.1 ∈ tb := tb_mem 381 (by decide +kernel) (by decide +kernel)
theorem fl_A_299 : Cond.fieldLink "RedSky" 299 (T10 0).1 (T10 0).2.1 (T10 0).2.2.1 ∈ tb := tb_mem 488 (by decide +kernel) (by decide +kernel)
theorem fl_A_323 : Cond.fieldLink "RedSky" 323 (T11 2).1 (T11 2).2.1 (T11 2).2.2.1 ∈ tb := tb_mem 444 (by decide +kernel) (by decide +kernel)
theorem cw_A_334 : Cond.constantLong "RedSky" 334 (199) ∈ tb := tb_mem 1339 (by decide +kernel) (by decide +kernel)
theorem cw_A_348 : Cond.constant "RedSky" 348 (1103515245) ∈ tb := tb_mem 648 (by decide +kernel) (by decide +kernel)
theorem cw_A_349 : Cond.constant "RedSky" 349 (2147483647) ∈ tb := tb_mem 649 (by decide +kernel) (by decide +kernel)
theorem cw_A_350 : Cond.constantLong "RedSky" 350 (31) ∈ tb := tb_mem 1343 (by decide +kernel) (by decide +kernel)
theorem fl_A_352 : Cond.fieldLink "RedSky" 352 (T8 5).1 (T8 5).2.1 (T8 5).2.2.1 ∈ tb := tb_mem 336 (by decide +kernel) (by decide +kernel)
theorem fl_A_355 : Cond.fieldLink "RedSky" 355 (T8 8).1 (T8 8).2.1 (T8 8).2.2.1 ∈ tb := tb_mem 342 (by decide +kernel) (by decide +kernel)
theorem fl_A_368 : Cond.fieldLink "RedSky" 368 (T8 1).1 (T8 1).2.1 (T8 1).2.2.1 ∈ tb := tb_mem 328 (by decide +kernel) (by decide +kernel)
theorem fl_A_374 : Cond.fieldLink "RedSky" 374 (T11 1).1 (T11 1).2.1 (T11 1).2.2.1 ∈ tb := tb_mem 442 (by decide +kernel) (by decide +kernel)
theorem fl_Al_9 : Cond.fieldLink "RedSky$Almanac" 9 (T10 0).1 (T10 0).2.1 (T10 0).2.2.1 ∈ tb := tb_mem 487 (by decide +kernel) (by decide +kernel)
theorem fl_Al_18 : Cond.fieldLink "RedSky$Almanac" 18 (T10 1).1 (T10 1).2.1 (T10 1).2.2.1 ∈ tb := tb_mem 489 (by decide +kernel) (by decide +kernel)
theorem fl_Al_22 : Cond.fieldLink "RedSky$Almanac" 22 (T10 2).1 (T10 2).2.1 (T10 2).2.2.1 ∈ tb := tb_mem 491 (by decide +kernel) (by decide +kernel)
theorem cw_Al_43 : Cond.constant "RedSky$Almanac" 43 (65536) ∈ tb := tb_mem 1254 (by decide +kernel) (by decide +kernel)
theorem fl_Ca_9 : Cond.fieldLink "RedSky$Calendar" 9 (T1 0).1 (T1 0).2.1 (T1 0).2.2.1 ∈ tb := tb_mem 129 (by decide +kernel) (by decide +kernel)
theorem fl_Ca_15 : Cond.fieldLink "RedSky$Calendar" 15 (T1 1).1 (T1 1).2.1 (T1 1).2.2.1 ∈ tb := tb_mem 131 (by decide +kernel) (by decide +kernel)
theorem fl_Ca_19 : Cond.fieldLink "RedSky$Calendar" 19 (T1 2).1 (T1 2).2.1 (T1 2).2.2.1 ∈ tb := tb_mem 133 (by decide +kernel) (by decide +kernel)
theorem fl_Ca_22 : Cond.fieldLink "RedSky$Calendar" 22 (T1 3).1 (T1 3).2.1 (T1 3).2.2.1 ∈ tb := tb_mem 135 (by decide +kernel) (by decide +kernel)
theorem fl_Ca_25 : Cond.fieldLink "RedSky$Calendar" 25 (T1 4).1 (T1 4).2.1 (T1 4).2.2.1 ∈ tb := tb_mem 137 (by decide +kernel) (by decide +kernel)
theorem fl_Ca_42 : Cond.fieldLink "RedSky$Calendar" 42 "RedSky$Calendar" "LENGTHS" "[I" ∈ tb := tb_mem 585 (by decide +kernel) (by decide +kernel)
theorem fl_Ca_78 : Cond.fieldLink "RedSky$Calendar" 78 (T4 7).1 (T4 7).2.1 (T4 7).2.2.1 ∈ tb := tb_mem 220 (by decide +kernel) (by decide +kernel)
theorem fl_Ca_90 : Cond.fieldLink "RedSky$Calendar" 90 (T4 5).1 (T4 5).2.1 (T4 5).2.2.1 ∈ tb := tb_mem 214 (by decide +kernel) (by decide +kernel)
theorem fl_Ca_93 : Cond.fieldLink "RedSky$Calendar" 93 (T4 6).1 (T4 6).2.1 (T4 6).2.2.1 ∈ tb := tb_mem 218 (by decide +kernel) (by decide +kernel)
theorem fl_Co_9 : Cond.fieldLink "RedSky$Condition" 9 (T5 0).1 (T5 0).2.1 (T5 0).2.2.1 ∈ tb := tb_mem 171 (by decide +kernel) (by decide +kernel)
theorem fl_Co_15 : Cond.fieldLink "RedSky$Condition" 15 (T5 1).1 (T5 1).2.1 (T5 1).2.2.1 ∈ tb := tb_mem 172 (by decide +kernel) (by decide +kernel)
theorem fl_Co_19 : Cond.fieldLink "RedSky$Condition" 19 (T5 2).1 (T5 2).2.1 (T5 2).2.2.1 ∈ tb := tb_mem 173 (by decide +kernel) (by decide +kernel)
theorem fl_Co_23 : Cond.fieldLink "RedSky$Condition" 23 (T5 3).1 (T5 3).2.1 (T5 3).2.2.1 ∈ tb := tb_mem 175 (by decide +kernel) (by decide +kernel)
theorem fl_Co_26 : Cond.fieldLink "RedSky$Condition" 26 (T5 4).1 (T5 4).2.1 (T5 4).2.2.1 ∈ tb := tb_mem 178 (by decide +kernel) (by decide +kernel)
theorem fl_Co_29 : Cond.fieldLink "RedSky$Condition" 29 (T5 5).1 (T5 5).2.1 (T5 5).2.2.1 ∈ tb := tb_mem 180 (by decide +kernel) (by decide +kernel)
theorem fl_Dy_11 : Cond.fieldLink "RedSky$Days" 11 (T7 0).1 (T7 0).2.1 (T7 0).2.2.1 ∈ tb := tb_mem 308 (by decide +kernel) (by decide +kernel)
theorem cw_Dy_27 : Cond.constantLong "RedSky$Days" 27 (-1) ∈ tb := tb_mem 988 (by decide +kernel) (by decide +kernel)
theorem cw_Dy_39 : Cond.constantLong "RedSky$Days" 39 (9007199254740991) ∈ tb := tb_mem 989 (by decide +kernel) (by decide +kernel)
theorem fl_Di_9 : Cond.fieldLink "RedSky$Diary" 9 (T2 0).1 (T2 0).2.1 (T2 0).2.2.1 ∈ tb := tb_mem 475 (by decide +kernel) (by decide +kernel)
theorem fl_Di_28 : Cond.fieldLink "RedSky$Diary" 28 "RedSky$Diary" "SHIFTS" "[I" ∈ tb := tb_mem 666 (by decide +kernel) (by decide +kernel)
theorem fl_Di_31 : Cond.fieldLink "RedSky$Diary" 31 "RedSky$Diary" "MASKS" "[I" ∈ tb := tb_mem 664 (by decide +kernel) (by decide +kernel)
theorem fl_Di_34 : Cond.fieldLink "RedSky$Diary" 34 "RedSky$Diary" "LOWEST" "[I" ∈ tb := tb_mem 662 (by decide +kernel) (by decide +kernel)
theorem cw_Di_41 : Cond.constant "RedSky$Diary" 41 (65536) ∈ tb := tb_mem 650 (by decide +kernel) (by decide +kernel)
theorem fl_Le_9 : Cond.fieldLink "RedSky$Learner" 9 (T9 0).1 (T9 0).2.1 (T9 0).2.2.1 ∈ tb := tb_mem 378 (by decide +kernel) (by decide +kernel)
theorem fl_Le_15 : Cond.fieldLink "RedSky$Learner" 15 (T9 1).1 (T9 1).2.1 (T9 1).2.2.1 ∈ tb := tb_mem 380 (by decide +kernel) (by decide +kernel)
theorem fl_Le_20 : Cond.fieldLink "RedSky$Learner" 20 (T9 2).1 (T9 2).2.1 (T9 2).2.2.1 ∈ tb := tb_mem 382 (by decide +kernel) (by decide +kernel)
theorem fl_Le_25 : Cond.fieldLink "RedSky$Learner" 25 (T9 3).1 (T9 3).2.1 (T9 3).2.2.1 ∈ tb := tb_mem 383 (by decide +kernel) (by decide +kernel)
theorem fl_Le_29 : Cond.fieldLink "RedSky$Learner" 29 (T9 4).1 (T9 4).2.1 (T9 4).2.2.1 ∈ tb := tb_mem 384 (by decide +kernel) (by decide +kernel)
theorem fl_Le_32 : Cond.fieldLink "RedSky$Learner" 32 (T9 5).1 (T9 5).2.1 (T9 5).2.2.1 ∈ tb := tb_mem 385 (by decide +kernel) (by decide +kernel)
theorem fl_Le_35 : Cond.fieldLink "RedSky$Learner" 35 (T9 6).1 (T9 6).2.1 (T9 6).2.2.1 ∈ tb := tb_mem 386 (by decide +kernel) (by decide +kernel)
theorem fl_Le_38 : Cond.fieldLink "RedSky$Learner" 38 (T9 7).1 (T9 7).2.1 (T9 7).2.2.1 ∈ tb := tb_mem 387 (by decide +kernel) (by decide +kernel)
theorem fl_Le_41 : Cond.fieldLink "RedSky$Learner" 41 (T9 8).1 (T9 8).2.1 (T9 8).2.2.1 ∈ tb := tb_mem 388 (by decide +kernel) (by decide +kernel)
theorem fl_Le_45 : Cond.fieldLink "RedSky$Learner" 45 (T9 9).1 (T9 9).2.1 (T9 9).2.2.1 ∈ tb := tb_mem 389 (by decide +kernel) (by decide +kernel)
theorem fl_Le_48 : Cond.fieldLink "RedSky$Learner" 48 (T9 10).1 (T9 10).2.1 (T9 10).2.2.1 ∈ tb := tb_mem 390 (by decide +kernel) (by decide +kernel)
theorem fl_Le_52 : Cond.fieldLink "RedSky$Learner" 52 (T9 11).1 (T9 11).2.1 (T9 11).2.2.1 ∈ tb := tb_mem 391 (by decide +kernel) (by decide +kernel)
theorem fl_Le_55 : Cond.fieldLink "RedSky$Learner" 55 (T9 12).1 (T9 12).2.1 (T9 12).2.2.1 ∈ tb := tb_mem 392 (by decide +kernel) (by decide +kernel)
theorem fl_Le_59 : Cond.fieldLink "RedSky$Learner" 59 (T9 13).1 (T9 13).2.1 (T9 13).2.2.1 ∈ tb := tb_mem 393 (by decide +kernel) (by decide +kernel)
theorem fl_Le_62 : Cond.fieldLink "RedSky$Learner" 62 (T9 14).1 (T9 14).2.1 (T9 14).2.2.1 ∈ tb := tb_mem 394 (by decide +kernel) (by decide +kernel)
theorem fl_Le_65 : Cond.fieldLink "RedSky$Learner" 65 (T9 15).1 (T9 15).2.1 (T9 15).2.2.1 ∈ tb := tb_mem 395 (by decide +kernel) (by decide +kernel)
theorem fl_Li_9 : Cond.fieldLink "RedSky$Likeness" 9 (T11 0).1 (T11 0).2.1 (T11 0).2.2.1 ∈ tb := tb_mem 440 (by decide +kernel) (by decide +kernel)
theorem fl_Li_15 : Cond.fieldLink "RedSky$Likeness" 15 (T11 1).1 (T11 1).2.1 (T11 1).2.2.1 ∈ tb := tb_mem 441 (by decide +kernel) (by decide +kernel)
theorem fl_Li_18 : Cond.fieldLink "RedSky$Likeness" 18 (T11 2).1 (T11 2).2.1 (T11 2).2.2.1 ∈ tb := tb_mem 443 (by decide +kernel) (by decide +kernel)
theorem fl_Li_21 : Cond.fieldLink "RedSky$Likeness" 21 (T11 3).1 (T11 3).2.1 (T11 3).2.2.1 ∈ tb := tb_mem 445 (by decide +kernel) (by decide +kernel)
theorem fl_Li_27 : Cond.fieldLink "RedSky$Likeness" 27 (T11 4).1 (T11 4).2.1 (T11 4).2.2.1 ∈ tb := tb_mem 446 (by decide +kernel) (by decide +kernel)
theorem fl_Li_31 : Cond.fieldLink "RedSky$Likeness" 31 (T11 5).1 (T11 5).2.1 (T11 5).2.2.1 ∈ tb := tb_mem 447 (by decide +kernel) (by decide +kernel)
theorem fl_Li_34 : Cond.fieldLink "RedSky$Likeness" 34 (T11 6).1 (T11 6).2.1 (T11 6).2.2.1 ∈ tb := tb_mem 448 (by decide +kernel) (by decide +kernel)
theorem fl_Li_37 : Cond.fieldLink "RedSky$Likeness" 37 (T11 7).1 (T11 7).2.1 (T11 7).2.2.1 ∈ tb := tb_mem 449 (by decide +kernel) (by decide +kernel)
theorem fl_Li_40 : Cond.fieldLink "RedSky$Likeness" 40 (T11 8).1 (T11 8).2.1 (T11 8).2.2.1 ∈ tb := tb_mem 450 (by decide +kernel) (by decide +kernel)
theorem fl_Li_57 : Cond.fieldLink "RedSky$Likeness" 57 (T10 1).1 (T10 1).2.1 (T10 1).2.2.1 ∈ tb := tb_mem 490 (by decide +kernel) (by decide +kernel)
theorem fl_Li_77 : Cond.fieldLink "RedSky$Likeness" 77 (T10 2).1 (T10 2).2.1 (T10 2).2.2.1 ∈ tb := tb_mem 492 (by decide +kernel) (by decide +kernel)
theorem fl_Pg_9 : Cond.fieldLink "RedSky$Page" 9 (T3 0).1 (T3 0).2.1 (T3 0).2.2.1 ∈ tb := tb_mem 239 (by decide +kernel) (by decide +kernel)
theorem fl_Pg_15 : Cond.fieldLink "RedSky$Page" 15 (T3 1).1 (T3 1).2.1 (T3 1).2.2.1 ∈ tb := tb_mem 241 (by decide +kernel) (by decide +kernel)
theorem fl_Pg_22 : Cond.fieldLink "RedSky$Page" 22 (T3 2).1 (T3 2).2.1 (T3 2).2.2.1 ∈ tb := tb_mem 242 (by decide +kernel) (by decide +kernel)
theorem fl_Pg_26 : Cond.fieldLink "RedSky$Page" 26 (T4 0).1 (T4 0).2.1 (T4 0).2.2.1 ∈ tb := tb_mem 199 (by decide +kernel) (by decide +kernel)
theorem fl_Pg_30 : Cond.fieldLink "RedSky$Page" 30 (T3 3).1 (T3 3).2.1 (T3 3).2.2.1 ∈ tb := tb_mem 244 (by decide +kernel) (by decide +kernel)
theorem fl_Pg_33 : Cond.fieldLink "RedSky$Page" 33 (T3 4).1 (T3 4).2.1 (T3 4).2.2.1 ∈ tb := tb_mem 245 (by decide +kernel) (by decide +kernel)
theorem fl_Pg_37 : Cond.fieldLink "RedSky$Page" 37 (T3 5).1 (T3 5).2.1 (T3 5).2.2.1 ∈ tb := tb_mem 246 (by decide +kernel) (by decide +kernel)
theorem fl_Pg_40 : Cond.fieldLink "RedSky$Page" 40 (T3 6).1 (T3 6).2.1 (T3 6).2.2.1 ∈ tb := tb_mem 247 (by decide +kernel) (by decide +kernel)
theorem fl_Pg_43 : Cond.fieldLink "RedSky$Page" 43 (T3 7).1 (T3 7).2.1 (T3 7).2.2.1 ∈ tb := tb_mem 248 (by decide +kernel) (by decide +kernel)
theorem fl_Pg_46 : Cond.fieldLink "RedSky$Page" 46 (T3 8).1 (T3 8).2.1 (T3 8).2.2.1 ∈ tb := tb_mem 249 (by decide +kernel) (by decide +kernel)
theorem fl_Pg_49 : Cond.fieldLink "RedSky$Page" 49 (T3 9).1 (T3 9).2.1 (T3 9).2.2.1 ∈ tb := tb_mem 250 (by decide +kernel) (by decide +kernel)
theorem fl_Pg_52 : Cond.fieldLink "RedSky$Page" 52 (T3 10).1 (T3 10).2.1 (T3 10).2.2.1 ∈ tb := tb_mem 251 (by decide +kernel) (by decide +kernel)
theorem fl_Pg_55 : Cond.fieldLink "RedSky$Page" 55 (T3 11).1 (T3 11).2.1 (T3 11).2.2.1 ∈ tb := tb_mem 252 (by decide +kernel) (by decide +kernel)
theorem fl_Pg_58 : Cond.fieldLink "RedSky$Page" 58 (T3 12).1 (T3 12).2.1 (T3 12).2.2.1 ∈ tb := tb_mem 253 (by decide +kernel) (by decide +kernel)
theorem fl_Pg_62 : Cond.fieldLink "RedSky$Page" 62 (T3 13).1 (T3 13).2.1 (T3 13).2.2.1 ∈ tb := tb_mem 254 (by decide +kernel) (by decide +kernel)
theorem fl_Pg_65 : Cond.fieldLink "RedSky$Page" 65 (T3 14).1 (T3 14).2.1 (T3 14).2.2.1 ∈ tb := tb_mem 255 (by decide +kernel) (by decide +kernel)
theorem fl_Pg_68 : Cond.fieldLink "RedSky$Page" 68 (T3 15).1 (T3 15).2.1 (T3 15).2.2.1 ∈ tb := tb_mem 256 (by decide +kernel) (by decide +kernel)
theorem fl_Pg_71 : Cond.fieldLink "RedSky$Page" 71 (T3 16).1 (T3 16).2.1 (T3 16).2.2.1 ∈ tb := tb_mem 257 (by decide +kernel) (by decide +kernel)
theorem cw_Pg_78 : Cond.constantLong "RedSky$Page" 78 (255) ∈ tb := tb_mem 704 (by decide +kernel) (by decide +kernel)
theorem fl_Pg_103 : Cond.fieldLink "RedSky$Page" 103 (T5 5).1 (T5 5).2.1 (T5 5).2.2.1 ∈ tb := tb_mem 182 (by decide +kernel) (by decide +kernel)
theorem fl_Pg_108 : Cond.fieldLink "RedSky$Page" 108 (T4 6).1 (T4 6).2.1 (T4 6).2.2.1 ∈ tb := tb_mem 217 (by decide +kernel) (by decide +kernel)
theorem fl_Pg_196 : Cond.fieldLink "RedSky$Page" 196 (T4 4).1 (T4 4).2.1 (T4 4).2.2.1 ∈ tb := tb_mem 212 (by decide +kernel) (by decide +kernel)
theorem fl_Pg_199 : Cond.fieldLink "RedSky$Page" 199 (T4 1).1 (T4 1).2.1 (T4 1).2.2.1 ∈ tb := tb_mem 203 (by decide +kernel) (by decide +kernel)
theorem fl_Pg_202 : Cond.fieldLink "RedSky$Page" 202 (T4 2).1 (T4 2).2.1 (T4 2).2.2.1 ∈ tb := tb_mem 206 (by decide +kernel) (by decide +kernel)
theorem fl_Pg_205 : Cond.fieldLink "RedSky$Page" 205 (T4 3).1 (T4 3).2.1 (T4 3).2.2.1 ∈ tb := tb_mem 209 (by decide +kernel) (by decide +kernel)
theorem fl_Pg_208 : Cond.fieldLink "RedSky$Page" 208 (T4 7).1 (T4 7).2.1 (T4 7).2.2.1 ∈ tb := tb_mem 221 (by decide +kernel) (by decide +kernel)
theorem fl_Pg_211 : Cond.fieldLink "RedSky$Page" 211 (T4 5).1 (T4 5).2.1 (T4 5).2.2.1 ∈ tb := tb_mem 215 (by decide +kernel) (by decide +kernel)
theorem fl_Rd_12 : Cond.fieldLink "RedSky$Reading" 12 (T8 0).1 (T8 0).2.1 (T8 0).2.2.1 ∈ tb := tb_mem 325 (by decide +kernel) (by decide +kernel)
theorem fl_Rd_18 : Cond.fieldLink "RedSky$Reading" 18 (T8 1).1 (T8 1).2.1 (T8 1).2.2.1 ∈ tb := tb_mem 327 (by decide +kernel) (by decide +kernel)
theorem fl_Rd_21 : Cond.fieldLink "RedSky$Reading" 21 (T8 2).1 (T8 2).2.1 (T8 2).2.2.1 ∈ tb := tb_mem 329 (by decide +kernel) (by decide +kernel)
theorem fl_Rd_24 : Cond.fieldLink "RedSky$Reading" 24 (T8 3).1 (T8 3).2.1 (T8 3).2.2.1 ∈ tb := tb_mem 331 (by decide +kernel) (by decide +kernel)
theorem fl_Rd_27 : Cond.fieldLink "RedSky$Reading" 27 (T8 4).1 (T8 4).2.1 (T8 4).2.2.1 ∈ tb := tb_mem 333 (by decide +kernel) (by decide +kernel)
theorem fl_Rd_30 : Cond.fieldLink "RedSky$Reading" 30 (T8 5).1 (T8 5).2.1 (T8 5).2.2.1 ∈ tb := tb_mem 335 (by decide +kernel) (by decide +kernel)
theorem fl_Rd_33 : Cond.fieldLink "RedSky$Reading" 33 (T8 6).1 (T8 6).2.1 (T8 6).2.2.1 ∈ tb := tb_mem 337 (by decide +kernel) (by decide +kernel)
theorem fl_Rd_36 : Cond.fieldLink "RedSky$Reading" 36 (T8 7).1 (T8 7).2.1 (T8 7).2.2.1 ∈ tb := tb_mem 339 (by decide +kernel) (by decide +kernel)
theorem fl_Rd_39 : Cond.fieldLink "RedSky$Reading" 39 (T8 8).1 (T8 8).2.1 (T8 8).2.2.1 ∈ tb := tb_mem 341 (by decide +kernel) (by decide +kernel)
theorem fl_Rd_42 : Cond.fieldLink "RedSky$Reading" 42 (T8 9).1 (T8 9).2.1 (T8 9).2.2.1 ∈ tb := tb_mem 343 (by decide +kernel) (by decide +kernel)
theorem fl_Rd_45 : Cond.fieldLink "RedSky$Reading" 45 (T8 10).1 (T8 10).2.1 (T8 10).2.2.1 ∈ tb := tb_mem 344 (by decide +kernel) (by decide +kernel)
theorem fl_Rd_54 : Cond.fieldLink "RedSky$Reading" 54 (T4 0).1 (T4 0).2.1 (T4 0).2.2.1 ∈ tb := tb_mem 200 (by decide +kernel) (by decide +kernel)
theorem fl_Rd_66 : Cond.fieldLink "RedSky$Reading" 66 (T4 1).1 (T4 1).2.1 (T4 1).2.2.1 ∈ tb := tb_mem 202 (by decide +kernel) (by decide +kernel)
theorem fl_Rd_83 : Cond.fieldLink "RedSky$Reading" 83 (T4 4).1 (T4 4).2.1 (T4 4).2.2.1 ∈ tb := tb_mem 211 (by decide +kernel) (by decide +kernel)
theorem fl_Rd_87 : Cond.fieldLink "RedSky$Reading" 87 (T4 2).1 (T4 2).2.1 (T4 2).2.2.1 ∈ tb := tb_mem 205 (by decide +kernel) (by decide +kernel)
theorem fl_Rd_91 : Cond.fieldLink "RedSky$Reading" 91 (T4 3).1 (T4 3).2.1 (T4 3).2.2.1 ∈ tb := tb_mem 208 (by decide +kernel) (by decide +kernel)
theorem fl_Sa_12 : Cond.fieldLink "RedSky$Saying" 12 (T4 0).1 (T4 0).2.1 (T4 0).2.2.1 ∈ tb := tb_mem 198 (by decide +kernel) (by decide +kernel)
theorem fl_Sa_18 : Cond.fieldLink "RedSky$Saying" 18 (T4 1).1 (T4 1).2.1 (T4 1).2.2.1 ∈ tb := tb_mem 201 (by decide +kernel) (by decide +kernel)
theorem fl_Sa_24 : Cond.fieldLink "RedSky$Saying" 24 (T4 2).1 (T4 2).2.1 (T4 2).2.2.1 ∈ tb := tb_mem 204 (by decide +kernel) (by decide +kernel)
theorem fl_Sa_28 : Cond.fieldLink "RedSky$Saying" 28 (T4 3).1 (T4 3).2.1 (T4 3).2.2.1 ∈ tb := tb_mem 207 (by decide +kernel) (by decide +kernel)
theorem fl_Sa_31 : Cond.fieldLink "RedSky$Saying" 31 (T4 4).1 (T4 4).2.1 (T4 4).2.2.1 ∈ tb := tb_mem 210 (by decide +kernel) (by decide +kernel)
theorem fl_Sa_35 : Cond.fieldLink "RedSky$Saying" 35 (T4 5).1 (T4 5).2.1 (T4 5).2.2.1 ∈ tb := tb_mem 213 (by decide +kernel) (by decide +kernel)
theorem fl_Sa_38 : Cond.fieldLink "RedSky$Saying" 38 (T4 6).1 (T4 6).2.1 (T4 6).2.2.1 ∈ tb := tb_mem 216 (by decide +kernel) (by decide +kernel)
theorem fl_Sa_41 : Cond.fieldLink "RedSky$Saying" 41 (T4 7).1 (T4 7).2.1 (T4 7).2.2.1 ∈ tb := tb_mem 219 (by decide +kernel) (by decide +kernel)
theorem fl_Sa_44 : Cond.fieldLink "RedSky$Saying" 44 (T5 3).1 (T5 3).2.1 (T5 3).2.2.1 ∈ tb := tb_mem 177 (by decide +kernel) (by decide +kernel)
theorem fl_Sa_47 : Cond.fieldLink "RedSky$Saying" 47 (T5 4).1 (T5 4).2.1 (T5 4).2.2.1 ∈ tb := tb_mem 179 (by decide +kernel) (by decide +kernel)
theorem fl_Sa_50 : Cond.fieldLink "RedSky$Saying" 50 (T5 5).1 (T5 5).2.1 (T5 5).2.2.1 ∈ tb := tb_mem 181 (by decide +kernel) (by decide +kernel)
theorem fl_Sc_11 : Cond.fieldLink "RedSky$Scales" 11 (T6 0).1 (T6 0).2.1 (T6 0).2.2.1 ∈ tb := tb_mem 313 (by decide +kernel) (by decide +kernel)
theorem fl_Sc_16 : Cond.fieldLink "RedSky$Scales" 16 (T5 2).1 (T5 2).2.1 (T5 2).2.2.1 ∈ tb := tb_mem 174 (by decide +kernel) (by decide +kernel)
theorem fl_Sc_33 : Cond.fieldLink "RedSky$Scales" 33 (T5 3).1 (T5 3).2.1 (T5 3).2.2.1 ∈ tb := tb_mem 176 (by decide +kernel) (by decide +kernel)
theorem cw_Lw_55 : Cond.constantLong "RedSkyLaw" 55 (4294967295) ∈ tb := tb_mem 1913 (by decide +kernel) (by decide +kernel)
theorem fl_M_7 : Cond.fieldLink "RedSkyModel" 7 (T12 1).1 (T12 1).2.1 (T12 1).2.2.1 ∈ tb := tb_mem 1366 (by decide +kernel) (by decide +kernel)
theorem fl_M_13 : Cond.fieldLink "RedSkyModel" 13 (T12 2).1 (T12 2).2.1 (T12 2).2.2.1 ∈ tb := tb_mem 1367 (by decide +kernel) (by decide +kernel)
theorem fl_M_16 : Cond.fieldLink "RedSkyModel" 16 (T12 3).1 (T12 3).2.1 (T12 3).2.2.1 ∈ tb := tb_mem 1368 (by decide +kernel) (by decide +kernel)
theorem fl_M_19 : Cond.fieldLink "RedSkyModel" 19 (T12 4).1 (T12 4).2.1 (T12 4).2.2.1 ∈ tb := tb_mem 1369 (by decide +kernel) (by decide +kernel)
theorem fl_M_22 : Cond.fieldLink "RedSkyModel" 22 (T12 5).1 (T12 5).2.1 (T12 5).2.2.1 ∈ tb := tb_mem 1370 (by decide +kernel) (by decide +kernel)
theorem fl_M_25 : Cond.fieldLink "RedSkyModel" 25 (T12 6).1 (T12 6).2.1 (T12 6).2.2.1 ∈ tb := tb_mem 1371 (by decide +kernel) (by decide +kernel)
theorem fl_M_28 : Cond.fieldLink "RedSkyModel" 28 (T12 7).1 (T12 7).2.1 (T12 7).2.2.1 ∈ tb := tb_mem 1372 (by decide +kernel) (by decide +kernel)
theorem fl_M_31 : Cond.fieldLink "RedSkyModel" 31 (T12 8).1 (T12 8).2.1 (T12 8).2.2.1 ∈ tb := tb_mem 1373 (by decide +kernel) (by decide +kernel)
theorem fl_M_34 : Cond.fieldLink "RedSkyModel" 34 (T12 24).1 (T12 24).2.1 (T12 24).2.2.1 ∈ tb := tb_mem 1389 (by decide +kernel) (by decide +kernel)
theorem fl_M_37 : Cond.fieldLink "RedSkyModel" 37 (T12 25).1 (T12 25).2.1 (T12 25).2.2.1 ∈ tb := tb_mem 1390 (by decide +kernel) (by decide +kernel)
theorem fl_M_40 : Cond.fieldLink "RedSkyModel" 40 (T12 26).1 (T12 26).2.1 (T12 26).2.2.1 ∈ tb := tb_mem 1391 (by decide +kernel) (by decide +kernel)
theorem fl_M_43 : Cond.fieldLink "RedSkyModel" 43 (T12 27).1 (T12 27).2.1 (T12 27).2.2.1 ∈ tb := tb_mem 1392 (by decide +kernel) (by decide +kernel)
theorem fl_M_46 : Cond.fieldLink "RedSkyModel" 46 (T12 30).1 (T12 30).2.1 (T12 30).2.2.1 ∈ tb := tb_mem 1395 (by decide +kernel) (by decide +kernel)
theorem fl_M_49 : Cond.fieldLink "RedSkyModel" 49 (T12 31).1 (T12 31).2.1 (T12 31).2.2.1 ∈ tb := tb_mem 1396 (by decide +kernel) (by decide +kernel)
theorem fl_M_52 : Cond.fieldLink "RedSkyModel" 52 (T12 32).1 (T12 32).2.1 (T12 32).2.2.1 ∈ tb := tb_mem 1397 (by decide +kernel) (by decide +kernel)
theorem fl_M_55 : Cond.fieldLink "RedSkyModel" 55 (T12 33).1 (T12 33).2.1 (T12 33).2.2.1 ∈ tb := tb_mem 1398 (by decide +kernel) (by decide +kernel)
theorem fl_M_58 : Cond.fieldLink "RedSkyModel" 58 (T12 34).1 (T12 34).2.1 (T12 34).2.2.1 ∈ tb := tb_mem 1399 (by decide +kernel) (by decide +kernel)
theorem fl_M_61 : Cond.fieldLink "RedSkyModel" 61 (T12 35).1 (T12 35).2.1 (T12 35).2.2.1 ∈ tb := tb_mem 1400 (by decide +kernel) (by decide +kernel)
theorem fl_M_64 : Cond.fieldLink "RedSkyModel" 64 (T12 36).1 (T12 36).2.1 (T12 36).2.2.1 ∈ tb := tb_mem 1401 (by decide +kernel) (by decide +kernel)
theorem fl_M_67 : Cond.fieldLink "RedSkyModel" 67 (T12 37).1 (T12 37).2.1 (T12 37).2.2.1 ∈ tb := tb_mem 1402 (by decide +kernel) (by decide +kernel)
theorem fl_M_70 : Cond.fieldLink "RedSkyModel" 70 (T12 38).1 (T12 38).2.1 (T12 38).2.2.1 ∈ tb := tb_mem 1403 (by decide +kernel) (by decide +kernel)
theorem fl_M_73 : Cond.fieldLink "RedSkyModel" 73 (T12 39).1 (T12 39).2.1 (T12 39).2.2.1 ∈ tb := tb_mem 1404 (by decide +kernel) (by decide +kernel)
theorem fl_M_77 : Cond.fieldLink "RedSkyModel" 77 (T12 42).1 (T12 42).2.1 (T12 42).2.2.1 ∈ tb := tb_mem 1407 (by decide +kernel) (by decide +kernel)
theorem fl_M_80 : Cond.fieldLink "RedSkyModel" 80 (T12 43).1 (T12 43).2.1 (T12 43).2.2.1 ∈ tb := tb_mem 1408 (by decide +kernel) (by decide +kernel)
theorem fl_M_83 : Cond.fieldLink "RedSkyModel" 83 (T12 44).1 (T12 44).2.1 (T12 44).2.2.1 ∈ tb := tb_mem 1409 (by decide +kernel) (by decide +kernel)
theorem fl_M_86 : Cond.fieldLink "RedSkyModel" 86 (T12 46).1 (T12 46).2.1 (T12 46).2.2.1 ∈ tb := tb_mem 1411 (by decide +kernel) (by decide +kernel)
theorem fl_M_89 : Cond.fieldLink "RedSkyModel" 89 (T12 47).1 (T12 47).2.1 (T12 47).2.2.1 ∈ tb := tb_mem 1412 (by decide +kernel) (by decide +kernel)
theorem fl_M_92 : Cond.fieldLink "RedSkyModel" 92 (T12 48).1 (T12 48).2.1 (T12 48).2.2.1 ∈ tb := tb_mem 1413 (by decide +kernel) (by decide +kernel)
theorem fl_M_95 : Cond.fieldLink "RedSkyModel" 95 (T12 0).1 (T12 0).2.1 (T12 0).2.2.1 ∈ tb := tb_mem 1365 (by decide +kernel) (by decide +kernel)
theorem cw_M_120 : Cond.constantLong "RedSkyModel" 120 (1460) ∈ tb := tb_mem 1550 (by decide +kernel) (by decide +kernel)
theorem cw_M_126 : Cond.constantLong "RedSkyModel" 126 (3) ∈ tb := tb_mem 1517 (by decide +kernel) (by decide +kernel)
theorem cw_M_128 : Cond.constantLong "RedSkyModel" 128 (12) ∈ tb := tb_mem 1525 (by decide +kernel) (by decide +kernel)
theorem cw_M_130 : Cond.constantLong "RedSkyModel" 130 (31) ∈ tb := tb_mem 1526 (by decide +kernel) (by decide +kernel)
theorem cw_M_142 : Cond.constantLong "RedSkyModel" 142 (7) ∈ tb := tb_mem 1567 (by decide +kernel) (by decide +kernel)
theorem cw_M_144 : Cond.constantLong "RedSkyModel" 144 (-30) ∈ tb := tb_mem 1568 (by decide +kernel) (by decide +kernel)
theorem cw_M_146 : Cond.constantLong "RedSkyModel" 146 (30) ∈ tb := tb_mem 1569 (by decide +kernel) (by decide +kernel)
theorem cw_M_151 : Cond.constantLong "RedSkyModel" 151 (2) ∈ tb := tb_mem 1585 (by decide +kernel) (by decide +kernel)
theorem cw_M_153 : Cond.constant "RedSkyModel" 153 (1103515245) ∈ tb := tb_mem 1594 (by decide +kernel) (by decide +kernel)
theorem cw_M_154 : Cond.constant "RedSkyModel" 154 (2147483647) ∈ tb := tb_mem 1595 (by decide +kernel) (by decide +kernel)
theorem cw_M_158 : Cond.constantLong "RedSkyModel" 158 (1000) ∈ tb := tb_mem 1586 (by decide +kernel) (by decide +kernel)
theorem cw_M_166 : Cond.constant "RedSkyModel" 166 (65536) ∈ tb := tb_mem 1596 (by decide +kernel) (by decide +kernel)
theorem cw_M_170 : Cond.constantLong "RedSkyModel" 170 (9) ∈ tb := tb_mem 1604 (by decide +kernel) (by decide +kernel)
theorem cw_M_172 : Cond.constantLong "RedSkyModel" 172 (99) ∈ tb := tb_mem 1605 (by decide +kernel) (by decide +kernel)
theorem cw_M_174 : Cond.constantLong "RedSkyModel" 174 (40) ∈ tb := tb_mem 1606 (by decide +kernel) (by decide +kernel)
theorem cw_M_176 : Cond.constantLong "RedSkyModel" 176 (255) ∈ tb := tb_mem 1619 (by decide +kernel) (by decide +kernel)
theorem fl_M_178 : Cond.fieldLink "RedSkyModel" 178 (T12 9).1 (T12 9).2.1 (T12 9).2.2.1 ∈ tb := tb_mem 1374 (by decide +kernel) (by decide +kernel)
theorem fl_M_181 : Cond.fieldLink "RedSkyModel" 181 (T12 10).1 (T12 10).2.1 (T12 10).2.2.1 ∈ tb := tb_mem 1375 (by decide +kernel) (by decide +kernel)
theorem fl_M_184 : Cond.fieldLink "RedSkyModel" 184 (T12 11).1 (T12 11).2.1 (T12 11).2.2.1 ∈ tb := tb_mem 1376 (by decide +kernel) (by decide +kernel)
theorem fl_M_187 : Cond.fieldLink "RedSkyModel" 187 (T12 12).1 (T12 12).2.1 (T12 12).2.2.1 ∈ tb := tb_mem 1377 (by decide +kernel) (by decide +kernel)
theorem fl_M_190 : Cond.fieldLink "RedSkyModel" 190 (T12 28).1 (T12 28).2.1 (T12 28).2.2.1 ∈ tb := tb_mem 1393 (by decide +kernel) (by decide +kernel)
theorem fl_M_193 : Cond.fieldLink "RedSkyModel" 193 (T12 21).1 (T12 21).2.1 (T12 21).2.2.1 ∈ tb := tb_mem 1386 (by decide +kernel) (by decide +kernel)
theorem fl_M_196 : Cond.fieldLink "RedSkyModel" 196 (T12 22).1 (T12 22).2.1 (T12 22).2.2.1 ∈ tb := tb_mem 1387 (by decide +kernel) (by decide +kernel)
theorem fl_M_199 : Cond.fieldLink "RedSkyModel" 199 (T12 23).1 (T12 23).2.1 (T12 23).2.2.1 ∈ tb := tb_mem 1388 (by decide +kernel) (by decide +kernel)
theorem fl_M_206 : Cond.fieldLink "RedSkyModel" 206 (T12 16).1 (T12 16).2.1 (T12 16).2.2.1 ∈ tb := tb_mem 1381 (by decide +kernel) (by decide +kernel)
theorem fl_M_209 : Cond.fieldLink "RedSkyModel" 209 (T12 17).1 (T12 17).2.1 (T12 17).2.2.1 ∈ tb := tb_mem 1382 (by decide +kernel) (by decide +kernel)
theorem fl_M_212 : Cond.fieldLink "RedSkyModel" 212 (T12 15).1 (T12 15).2.1 (T12 15).2.2.1 ∈ tb := tb_mem 1380 (by decide +kernel) (by decide +kernel)
theorem fl_M_216 : Cond.fieldLink "RedSkyModel" 216 (T12 14).1 (T12 14).2.1 (T12 14).2.2.1 ∈ tb := tb_mem 1379 (by decide +kernel) (by decide +kernel)
theorem cw_M_219 : Cond.constantLong "RedSkyModel" 219 (48) ∈ tb := tb_mem 1650 (by decide +kernel) (by decide +kernel)
theorem cw_M_221 : Cond.constantLong "RedSkyModel" 221 (57) ∈ tb := tb_mem 1651 (by decide +kernel) (by decide +kernel)
theorem fl_M_230 : Cond.fieldLink "RedSkyModel" 230 (T12 13).1 (T12 13).2.1 (T12 13).2.2.1 ∈ tb := tb_mem 1378 (by decide +kernel) (by decide +kernel)
theorem fl_M_236 : Cond.fieldLink "RedSkyModel" 236 (T12 18).1 (T12 18).2.1 (T12 18).2.2.1 ∈ tb := tb_mem 1383 (by decide +kernel) (by decide +kernel)
theorem fl_M_239 : Cond.fieldLink "RedSkyModel" 239 (T12 19).1 (T12 19).2.1 (T12 19).2.2.1 ∈ tb := tb_mem 1384 (by decide +kernel) (by decide +kernel)
theorem fl_M_245 : Cond.fieldLink "RedSkyModel" 245 (T12 20).1 (T12 20).2.1 (T12 20).2.2.1 ∈ tb := tb_mem 1385 (by decide +kernel) (by decide +kernel)
theorem cw_M_248 : Cond.constantLong "RedSkyModel" 248 (55) ∈ tb := tb_mem 1676 (by decide +kernel) (by decide +kernel)
theorem fl_M_294 : Cond.fieldLink "RedSkyModel" 294 (T12 29).1 (T12 29).2.1 (T12 29).2.2.1 ∈ tb := tb_mem 1394 (by decide +kernel) (by decide +kernel)
theorem cw_M_309 : Cond.constantLong "RedSkyModel" 309 (11) ∈ tb := tb_mem 1729 (by decide +kernel) (by decide +kernel)
theorem cw_M_345 : Cond.constant "RedSkyModel" 345 (-100000001) ∈ tb := tb_mem 1794 (by decide +kernel) (by decide +kernel)
theorem cw_M_352 : Cond.constantLong "RedSkyModel" 352 (15) ∈ tb := tb_mem 1827 (by decide +kernel) (by decide +kernel)
theorem fl_M_354 : Cond.fieldLink "RedSkyModel" 354 (T12 40).1 (T12 40).2.1 (T12 40).2.2.1 ∈ tb := tb_mem 1405 (by decide +kernel) (by decide +kernel)
theorem fl_M_364 : Cond.fieldLink "RedSkyModel" 364 (T12 41).1 (T12 41).2.1 (T12 41).2.2.1 ∈ tb := tb_mem 1406 (by decide +kernel) (by decide +kernel)
theorem fl_M_367 : Cond.fieldLink "RedSkyModel" 367 (T12 45).1 (T12 45).2.1 (T12 45).2.2.1 ∈ tb := tb_mem 1410 (by decide +kernel) (by decide +kernel)
theorem cw_M_370 : Cond.constantLong "RedSkyModel" 370 (5) ∈ tb := tb_mem 1844 (by decide +kernel) (by decide +kernel)
theorem cw_M_375 : Cond.constantLong "RedSkyModel" 375 (9999) ∈ tb := tb_mem 1852 (by decide +kernel) (by decide +kernel)
theorem cw_M_377 : Cond.constantLong "RedSkyModel" 377 (400) ∈ tb := tb_mem 1861 (by decide +kernel) (by decide +kernel)
theorem cw_M_379 : Cond.constantLong "RedSkyModel" 379 (-1) ∈ tb := tb_mem 1866 (by decide +kernel) (by decide +kernel)
theorem cw_M_387 : Cond.constantLong "RedSkyModel" 387 (100) ∈ tb := tb_mem 1887 (by decide +kernel) (by decide +kernel)
theorem cw_M_395 : Cond.constantLong "RedSkyModel" 395 (6169) ∈ tb := tb_mem 1912 (by decide +kernel) (by decide +kernel)
theorem cw_Jlong_314 : Cond.constantLong "java/lang/Long" 314 (6148914691236517205) ∈ tb := tb_mem 1093 (by decide +kernel) (by decide +kernel)
theorem cw_Jlong_316 : Cond.constantLong "java/lang/Long" 316 (3689348814741910323) ∈ tb := tb_mem 1094 (by decide +kernel) (by decide +kernel)
theorem cw_Jlong_318 : Cond.constantLong "java/lang/Long" 318 (1085102592571150095) ∈ tb := tb_mem 1095 (by decide +kernel) (by decide +kernel)
theorem fl_Jstr_9 : Cond.fieldLink "java/lang/String" 9 "java/lang/String" "value" "[B" ∈ tb := tb_mem 1915 (by decide +kernel) (by decide +kernel)
theorem fl_Jstr_15 : Cond.fieldLink "java/lang/String" 15 "java/lang/String" "coder" "B" ∈ tb := tb_mem 1914 (by decide +kernel) (by decide +kernel)
theorem fl_Jstr_38 : Cond.fieldLink "java/lang/String" 38 "java/lang/String" "COMPACT_STRINGS" "Z" ∈ tb := tb_mem 767 (by decide +kernel) (by decide +kernel)
theorem df_0 : ∀ j, j < 12 → defaultValue (ty0 j) = if isR (0 + 1) j = true then .null else .int 0 := by decide +kernel
theorem df_1 : ∀ j, j < 5 → defaultValue (ty1 j) = if isR (1 + 1) j = true then .null else .int 0 := by decide +kernel
theorem df_2 : ∀ j, j < 1 → defaultValue (ty2 j) = if isR (2 + 1) j = true then .null else .int 0 := by decide +kernel
theorem df_3 : ∀ j, j < 17 → defaultValue (ty3 j) = if isR (3 + 1) j = true then .null else .int 0 := by decide +kernel
theorem df_4 : ∀ j, j < 8 → defaultValue (ty4 j) = if isR (4 + 1) j = true then .null else .int 0 := by decide +kernel
theorem df_5 : ∀ j, j < 6 → defaultValue (ty5 j) = if isR (5 + 1) j = true then .null else .int 0 := by decide +kernel
theorem df_6 : ∀ j, j < 1 → defaultValue (ty6 j) = if isR (6 + 1) j = true then .null else .int 0 := by decide +kernel
theorem df_7 : ∀ j, j < 1 → defaultValue (ty7 j) = if isR (7 + 1) j = true then .null else .int 0 := by decide +kernel
theorem df_8 : ∀ j, j < 11 → defaultValue (ty8 j) = if isR (8 + 1) j = true then .null else .int 0 := by decide +kernel
theorem df_9 : ∀ j, j < 16 → defaultValue (ty9 j) = if isR (9 + 1) j = true then .null else .int 0 := by decide +kernel
theorem df_10 : ∀ j, j < 3 → defaultValue (ty10 j) = if isR (10 + 1) j = true then .null else .int 0 := by decide +kernel
theorem df_11 : ∀ j, j < 9 → defaultValue (ty11 j) = if isR (11 + 1) j = true then .null else .int 0 := by decide +kernel
theorem df_12 : ∀ j, j < 49 → defaultValue (ty12 j) = if isR (12 + 1) j = true then .null else .int 0 := by decide +kernel
theorem cn_A_7 : Cond.classLink "RedSky" 7 R1 ∈ tb ∧ Cond.instantiable R1 5 ∈ tb ∧ Cond.initialized R1 ∈ tb := ⟨tb_mem 120 (by decide +kernel) (by decide +kernel), tb_mem 121 (by decide +kernel) (by decide +kernel), tb_mem 90 (by decide +kernel) (by decide +kernel)⟩
theorem cl_A_16 : Cond.classLink "RedSky" 16 "RedSky$Diary" ∈ tb := tb_mem 151 (by decide +kernel) (by decide +kernel)
theorem cn_A_16 : Cond.classLink "RedSky" 16 R2 ∈ tb ∧ Cond.instantiable R2 1 ∈ tb ∧ Cond.initialized R2 ∈ tb := ⟨tb_mem 151 (by decide +kernel) (by decide +kernel), tb_mem 470 (by decide +kernel) (by decide +kernel), tb_mem 100 (by decide +kernel) (by decide +kernel)⟩
theorem cn_A_22 : Cond.classLink "RedSky" 22 R3 ∈ tb ∧ Cond.instantiable R3 17 ∈ tb ∧ Cond.initialized R3 ∈ tb := ⟨tb_mem 153 (by decide +kernel) (by decide +kernel), tb_mem 154 (by decide +kernel) (by decide +kernel), tb_mem 92 (by decide +kernel) (by decide +kernel)⟩
theorem cl_A_29 : Cond.classLink "RedSky" 29 "RedSky$Saying" ∈ tb := tb_mem 293 (by decide +kernel) (by decide +kernel)
theorem cn_A_29 : Cond.classLink "RedSky" 29 R4 ∈ tb ∧ Cond.instantiable R4 8 ∈ tb ∧ Cond.initialized R4 ∈ tb := ⟨tb_mem 293 (by decide +kernel) (by decide +kernel), tb_mem 160 (by decide +kernel) (by decide +kernel), tb_mem 93 (by decide +kernel) (by decide +kernel)⟩
theorem cn_A_39 : Cond.classLink "RedSky" 39 R6 ∈ tb ∧ Cond.instantiable R6 1 ∈ tb ∧ Cond.initialized R6 ∈ tb := ⟨tb_mem 295 (by decide +kernel) (by decide +kernel), tb_mem 296 (by decide +kernel) (by decide +kernel), tb_mem 95 (by decide +kernel) (by decide +kernel)⟩
theorem cn_A_46 : Cond.classLink "RedSky" 46 R8 ∈ tb ∧ Cond.instantiable R8 11 ∈ tb ∧ Cond.initialized R8 ∈ tb := ⟨tb_mem 317 (by decide +kernel) (by decide +kernel), tb_mem 318 (by decide +kernel) (by decide +kernel), tb_mem 97 (by decide +kernel) (by decide +kernel)⟩
theorem cn_A_56 : Cond.classLink "RedSky" 56 R7 ∈ tb ∧ Cond.instantiable R7 1 ∈ tb ∧ Cond.initialized R7 ∈ tb := ⟨tb_mem 368 (by decide +kernel) (by decide +kernel), tb_mem 303 (by decide +kernel) (by decide +kernel), tb_mem 96 (by decide +kernel) (by decide +kernel)⟩
theorem cn_A_63 : Cond.classLink "RedSky" 63 R9 ∈ tb ∧ Cond.instantiable R9 16 ∈ tb ∧ Cond.initialized R9 ∈ tb := ⟨tb_mem 370 (by decide +kernel) (by decide +kernel), tb_mem 371 (by decide +kernel) (by decide +kernel), tb_mem 98 (by decide +kernel) (by decide +kernel)⟩
theorem cl_A_70 : Cond.classLink "RedSky" 70 "RedSky$Almanac" ∈ tb := tb_mem 430 (by decide +kernel) (by decide +kernel)
theorem cn_A_70 : Cond.classLink "RedSky" 70 R10 ∈ tb ∧ Cond.instantiable R10 3 ∈ tb ∧ Cond.initialized R10 ∈ tb := ⟨tb_mem 430 (by decide +kernel) (by decide +kernel), tb_mem 480 (by decide +kernel) (by decide +kernel), tb_mem 101 (by decide +kernel) (by decide +kernel)⟩
theorem cn_A_76 : Cond.classLink "RedSky" 76 R11 ∈ tb ∧ Cond.instantiable R11 9 ∈ tb ∧ Cond.initialized R11 ∈ tb := ⟨tb_mem 432 (by decide +kernel) (by decide +kernel), tb_mem 433 (by decide +kernel) (by decide +kernel), tb_mem 99 (by decide +kernel) (by decide +kernel)⟩
theorem cn_Al_15 : Cond.classLink "RedSky$Almanac" 15 R7 ∈ tb ∧ Cond.instantiable R7 1 ∈ tb ∧ Cond.initialized R7 ∈ tb := ⟨tb_mem 485 (by decide +kernel) (by decide +kernel), tb_mem 303 (by decide +kernel) (by decide +kernel), tb_mem 96 (by decide +kernel) (by decide +kernel)⟩
theorem cl_Le_18 : Cond.classLink "RedSky$Learner" 18 "RedSky$Days" ∈ tb := tb_mem 376 (by decide +kernel) (by decide +kernel)
theorem cn_Le_18 : Cond.classLink "RedSky$Learner" 18 R7 ∈ tb ∧ Cond.instantiable R7 1 ∈ tb ∧ Cond.initialized R7 ∈ tb := ⟨tb_mem 376 (by decide +kernel) (by decide +kernel), tb_mem 303 (by decide +kernel) (by decide +kernel), tb_mem 96 (by decide +kernel) (by decide +kernel)⟩
theorem cn_Li_24 : Cond.classLink "RedSky$Likeness" 24 R7 ∈ tb ∧ Cond.instantiable R7 1 ∈ tb ∧ Cond.initialized R7 ∈ tb := ⟨tb_mem 438 (by decide +kernel) (by decide +kernel), tb_mem 303 (by decide +kernel) (by decide +kernel), tb_mem 96 (by decide +kernel) (by decide +kernel)⟩
theorem cn_Pg_19 : Cond.classLink "RedSky$Page" 19 R4 ∈ tb ∧ Cond.instantiable R4 8 ∈ tb ∧ Cond.initialized R4 ∈ tb := ⟨tb_mem 159 (by decide +kernel) (by decide +kernel), tb_mem 160 (by decide +kernel) (by decide +kernel), tb_mem 93 (by decide +kernel) (by decide +kernel)⟩
theorem cn_Rd_9 : Cond.classLink "RedSky$Reading" 9 R7 ∈ tb ∧ Cond.instantiable R7 1 ∈ tb ∧ Cond.initialized R7 ∈ tb := ⟨tb_mem 323 (by decide +kernel) (by decide +kernel), tb_mem 303 (by decide +kernel) (by decide +kernel), tb_mem 96 (by decide +kernel) (by decide +kernel)⟩
theorem cn_Sa_9 : Cond.classLink "RedSky$Saying" 9 R5 ∈ tb ∧ Cond.instantiable R5 6 ∈ tb ∧ Cond.initialized R5 ∈ tb := ⟨tb_mem 165 (by decide +kernel) (by decide +kernel), tb_mem 166 (by decide +kernel) (by decide +kernel), tb_mem 94 (by decide +kernel) (by decide +kernel)⟩
theorem cl_Sc_9 : Cond.classLink "RedSky$Scales" 9 "RedSky$Days" ∈ tb := tb_mem 301 (by decide +kernel) (by decide +kernel)
theorem cn_Sc_9 : Cond.classLink "RedSky$Scales" 9 R7 ∈ tb ∧ Cond.instantiable R7 1 ∈ tb ∧ Cond.initialized R7 ∈ tb := ⟨tb_mem 301 (by decide +kernel) (by decide +kernel), tb_mem 303 (by decide +kernel) (by decide +kernel), tb_mem 96 (by decide +kernel) (by decide +kernel)⟩
theorem cn_Lw_7 : Cond.classLink "RedSkyLaw" 7 R0 ∈ tb ∧ Cond.instantiable R0 12 ∈ tb ∧ Cond.initialized R0 ∈ tb := ⟨tb_mem 112 (by decide +kernel) (by decide +kernel), tb_mem 113 (by decide +kernel) (by decide +kernel), tb_mem 89 (by decide +kernel) (by decide +kernel)⟩
theorem cn_Lw_10 : Cond.classLink "RedSkyLaw" 10 R12 ∈ tb ∧ Cond.instantiable R12 49 ∈ tb ∧ Cond.initialized R12 ∈ tb := ⟨tb_mem 1355 (by decide +kernel) (by decide +kernel), tb_mem 1356 (by decide +kernel) (by decide +kernel), tb_mem 102 (by decide +kernel) (by decide +kernel)⟩
theorem aw_int : Cond.arrayClass (newarray.typeOf .int) ∈ tb := tb_mem 150 (by decide +kernel) (by decide +kernel)
theorem aw_long : Cond.arrayClass (newarray.typeOf .long) ∈ tb := tb_mem 312 (by decide +kernel) (by decide +kernel)
theorem aw_byte : Cond.arrayClass (newarray.typeOf .byte) ∈ tb := tb_mem 196 (by decide +kernel) (by decide +kernel)
theorem aw_short : Cond.arrayClass (newarray.typeOf .short) ∈ tb := tb_mem 197 (by decide +kernel) (by decide +kernel)
theorem aw_boolean : Cond.arrayClass (newarray.typeOf .boolean) ∈ tb := tb_mem 429 (by decide +kernel) (by decide +kernel)
theorem ao_Dy : Cond.arrayOver (.object "RedSky$Days") ∈ lw_tbl := List.mem_of_getElem? (i := 302) (by decide +kernel)
theorem ao_Di : Cond.arrayOver (.object "RedSky$Diary") ∈ lw_tbl := List.mem_of_getElem? (i := 152) (by decide +kernel)
theorem ao_Sa : Cond.arrayOver (.object "RedSky$Saying") ∈ lw_tbl := List.mem_of_getElem? (i := 294) (by decide +kernel)
theorem ao_Al : Cond.arrayOver (.object "RedSky$Almanac") ∈ lw_tbl := List.mem_of_getElem? (i := 431) (by decide +kernel)
theorem ow_Ca : Cond.methodLink "RedSky$Calendar" 3 objectInit ∈ tb ∧ Cond.instanceMethod objectInit ∈ tb ∧ Cond.code objectInit ⟨#[0xb1]⟩ 1 none ∈ tb := ⟨tb_mem 125 (by decide +kernel) (by decide +kernel), tb_mem 118 (by decide +kernel) (by decide +kernel), tb_mem 119 (by decide +kernel) (by decide +kernel)⟩
theorem ow_Co : Cond.methodLink "RedSky$Condition" 3 objectInit ∈ tb ∧ Cond.instanceMethod objectInit ∈ tb ∧ Cond.code objectInit ⟨#[0xb1]⟩ 1 none ∈ tb := ⟨tb_mem 170 (by decide +kernel) (by decide +kernel), tb_mem 118 (by decide +kernel) (by decide +kernel), tb_mem 119 (by decide +kernel) (by decide +kernel)⟩
theorem ow_Sa : Cond.methodLink "RedSky$Saying" 3 objectInit ∈ tb ∧ Cond.instanceMethod objectInit ∈ tb ∧ Cond.code objectInit ⟨#[0xb1]⟩ 1 none ∈ tb := ⟨tb_mem 164 (by decide +kernel) (by decide +kernel), tb_mem 118 (by decide +kernel) (by decide +kernel), tb_mem 119 (by decide +kernel) (by decide +kernel)⟩
theorem ow_Pg : Cond.methodLink "RedSky$Page" 3 objectInit ∈ tb ∧ Cond.instanceMethod objectInit ∈ tb ∧ Cond.code objectInit ⟨#[0xb1]⟩ 1 none ∈ tb := ⟨tb_mem 158 (by decide +kernel) (by decide +kernel), tb_mem 118 (by decide +kernel) (by decide +kernel), tb_mem 119 (by decide +kernel) (by decide +kernel)⟩
theorem ow_Dy : Cond.methodLink "RedSky$Days" 3 objectInit ∈ tb ∧ Cond.instanceMethod objectInit ∈ tb ∧ Cond.code objectInit ⟨#[0xb1]⟩ 1 none ∈ tb := ⟨tb_mem 307 (by decide +kernel) (by decide +kernel), tb_mem 118 (by decide +kernel) (by decide +kernel), tb_mem 119 (by decide +kernel) (by decide +kernel)⟩
theorem ow_Sc : Cond.methodLink "RedSky$Scales" 1 objectInit ∈ tb ∧ Cond.instanceMethod objectInit ∈ tb ∧ Cond.code objectInit ⟨#[0xb1]⟩ 1 none ∈ tb := ⟨tb_mem 300 (by decide +kernel) (by decide +kernel), tb_mem 118 (by decide +kernel) (by decide +kernel), tb_mem 119 (by decide +kernel) (by decide +kernel)⟩
theorem ow_Rd : Cond.methodLink "RedSky$Reading" 3 objectInit ∈ tb ∧ Cond.instanceMethod objectInit ∈ tb ∧ Cond.code objectInit ⟨#[0xb1]⟩ 1 none ∈ tb := ⟨tb_mem 322 (by decide +kernel) (by decide +kernel), tb_mem 118 (by decide +kernel) (by decide +kernel), tb_mem 119 (by decide +kernel) (by decide +kernel)⟩
theorem ow_Le : Cond.methodLink "RedSky$Learner" 3 objectInit ∈ tb ∧ Cond.instanceMethod objectInit ∈ tb ∧ Cond.code objectInit ⟨#[0xb1]⟩ 1 none ∈ tb := ⟨tb_mem 375 (by decide +kernel) (by decide +kernel), tb_mem 118 (by decide +kernel) (by decide +kernel), tb_mem 119 (by decide +kernel) (by decide +kernel)⟩
theorem ow_Li : Cond.methodLink "RedSky$Likeness" 3 objectInit ∈ tb ∧ Cond.instanceMethod objectInit ∈ tb ∧ Cond.code objectInit ⟨#[0xb1]⟩ 1 none ∈ tb := ⟨tb_mem 437 (by decide +kernel) (by decide +kernel), tb_mem 118 (by decide +kernel) (by decide +kernel), tb_mem 119 (by decide +kernel) (by decide +kernel)⟩
theorem ow_Di : Cond.methodLink "RedSky$Diary" 3 objectInit ∈ tb ∧ Cond.instanceMethod objectInit ∈ tb ∧ Cond.code objectInit ⟨#[0xb1]⟩ 1 none ∈ tb := ⟨tb_mem 474 (by decide +kernel) (by decide +kernel), tb_mem 118 (by decide +kernel) (by decide +kernel), tb_mem 119 (by decide +kernel) (by decide +kernel)⟩
theorem ow_Al : Cond.methodLink "RedSky$Almanac" 3 objectInit ∈ tb ∧ Cond.instanceMethod objectInit ∈ tb ∧ Cond.code objectInit ⟨#[0xb1]⟩ 1 none ∈ tb := ⟨tb_mem 484 (by decide +kernel) (by decide +kernel), tb_mem 118 (by decide +kernel) (by decide +kernel), tb_mem 119 (by decide +kernel) (by decide +kernel)⟩
theorem ow_A : Cond.methodLink "RedSky" 1 objectInit ∈ tb ∧ Cond.instanceMethod objectInit ∈ tb ∧ Cond.code objectInit ⟨#[0xb1]⟩ 1 none ∈ tb := ⟨tb_mem 117 (by decide +kernel) (by decide +kernel), tb_mem 118 (by decide +kernel) (by decide +kernel), tb_mem 119 (by decide +kernel) (by decide +kernel)⟩
theorem ow_M : Cond.methodLink "RedSkyModel" 1 objectInit ∈ tb ∧ Cond.instanceMethod objectInit ∈ tb ∧ Cond.code objectInit ⟨#[0xb1]⟩ 1 none ∈ tb := ⟨tb_mem 1360 (by decide +kernel) (by decide +kernel), tb_mem 118 (by decide +kernel) (by decide +kernel), tb_mem 119 (by decide +kernel) (by decide +kernel)⟩
