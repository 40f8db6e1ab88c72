theorem fl_JS_342 : FL R_JS 342 6 9 := FL.of rfl (by decide) rfl 357 (by decide +kernel)
theorem fl_JS_345 : FL R_JS 345 6 2 := FL.of rfl (by decide) rfl 342 (by decide +kernel)
theorem fl_JS_346 : FL R_JS 346 6 4 := FL.of rfl (by decide) rfl 345 (by decide +kernel)
theorem fl_JS_349 : FL R_JS 349 6 5 := FL.of rfl (by decide) rfl 347 (by decide +kernel)
theorem fl_JS_352 : FL R_JS 352 6 6 := FL.of rfl (by decide) rfl 349 (by decide +kernel)
theorem fl_JS_354 : FL R_JS 354 6 7 := FL.of rfl (by decide) rfl 352 (by decide +kernel)
theorem fl_JS_356 : FL R_JS 356 6 8 := FL.of rfl (by decide) rfl 355 (by decide +kernel)
theorem fl_JS_365 : FL R_JS 365 7 5 := FL.of rfl (by decide) rfl 398 (by decide +kernel)
theorem fl_JS_366 : FL R_JS 366 7 1 := FL.of rfl (by decide) rfl 390 (by decide +kernel)
theorem fl_JS_367 : FL R_JS 367 7 2 := FL.of rfl (by decide) rfl 392 (by decide +kernel)
theorem fl_JS_368 : FL R_JS 368 7 3 := FL.of rfl (by decide) rfl 394 (by decide +kernel)
theorem fl_JS_371 : FL R_JS 371 7 4 := FL.of rfl (by decide) rfl 396 (by decide +kernel)
theorem fl_JS_53 : FL R_JS 53 0 5 := FL.of rfl (by decide) rfl 538 (by decide +kernel)
theorem fl_JS_62 : FL R_JS 62 0 6 := FL.of rfl (by decide) rfl 539 (by decide +kernel)
theorem fl_JS_89 : FL R_JS 89 0 13 := FL.of rfl (by decide) rfl 546 (by decide +kernel)
theorem fl_JS_92 : FL R_JS 92 0 14 := FL.of rfl (by decide) rfl 547 (by decide +kernel)
theorem fl_MO_249 : FL R_MO 249 8 6 := FL.of rfl (by decide) rfl 1112 (by decide +kernel)
theorem fl_MO_257 : FL R_MO 257 8 17 := FL.of rfl (by decide) rfl 1123 (by decide +kernel)
theorem fl_MO_26 : FL R_MO 26 8 5 := FL.of rfl (by decide) rfl 1111 (by decide +kernel)
theorem fl_MO_260 : FL R_MO 260 8 68 := FL.of rfl (by decide) rfl 1174 (by decide +kernel)
theorem fl_MO_264 : FL R_MO 264 8 91 := FL.of rfl (by decide) rfl 1197 (by decide +kernel)
theorem fl_MO_267 : FL R_MO 267 8 100 := FL.of rfl (by decide) rfl 1206 (by decide +kernel)
theorem fl_MO_270 : FL R_MO 270 8 109 := FL.of rfl (by decide) rfl 1215 (by decide +kernel)
theorem fl_MO_273 : FL R_MO 273 8 26 := FL.of rfl (by decide) rfl 1132 (by decide +kernel)
theorem fl_MO_59 : FL R_MO 59 8 19 := FL.of rfl (by decide) rfl 1125 (by decide +kernel)
theorem fl_MO_7 : FL R_MO 7 8 0 := FL.of rfl (by decide) rfl 1106 (by decide +kernel)
theorem fl_PA_15 : FL R_PA 15 6 3 := FL.of rfl (by decide) rfl 343 (by decide +kernel)
theorem fl_PA_18 : FL R_PA 18 6 4 := FL.of rfl (by decide) rfl 344 (by decide +kernel)
theorem fl_PA_22 : FL R_PA 22 6 5 := FL.of rfl (by decide) rfl 346 (by decide +kernel)
theorem fl_PA_25 : FL R_PA 25 6 6 := FL.of rfl (by decide) rfl 348 (by decide +kernel)
theorem fl_PA_28 : FL R_PA 28 6 7 := FL.of rfl (by decide) rfl 350 (by decide +kernel)
theorem fl_PA_31 : FL R_PA 31 6 8 := FL.of rfl (by decide) rfl 353 (by decide +kernel)
theorem fl_PA_34 : FL R_PA 34 6 9 := FL.of rfl (by decide) rfl 356 (by decide +kernel)
theorem fl_PA_37 : FL R_PA 37 6 10 := FL.of rfl (by decide) rfl 358 (by decide +kernel)
theorem fl_PA_40 : FL R_PA 40 6 0 := FL.of rfl (by decide) rfl 338 (by decide +kernel)
theorem fl_PA_44 : FL R_PA 44 6 1 := FL.of rfl (by decide) rfl 339 (by decide +kernel)
theorem fl_PA_48 : FL R_PA 48 4 3 := FL.of rfl (by decide) rfl 223 (by decide +kernel)
theorem fl_PA_58 : FL R_PA 58 4 10 := FL.of rfl (by decide) rfl 241 (by decide +kernel)
theorem fl_PA_66 : FL R_PA 66 4 9 := FL.of rfl (by decide) rfl 238 (by decide +kernel)
theorem fl_PA_9 : FL R_PA 9 6 2 := FL.of rfl (by decide) rfl 340 (by decide +kernel)
theorem fl_PG_15 : FL R_PG 15 7 2 := FL.of rfl (by decide) rfl 391 (by decide +kernel)
theorem fl_PG_19 : FL R_PG 19 7 3 := FL.of rfl (by decide) rfl 393 (by decide +kernel)
theorem fl_PG_22 : FL R_PG 22 7 4 := FL.of rfl (by decide) rfl 395 (by decide +kernel)
theorem fl_PG_25 : FL R_PG 25 7 5 := FL.of rfl (by decide) rfl 397 (by decide +kernel)
theorem fl_PG_28 : FL R_PG 28 7 6 := FL.of rfl (by decide) rfl 399 (by decide +kernel)
theorem fl_PG_31 : FL R_PG 31 7 0 := FL.of rfl (by decide) rfl 388 (by decide +kernel)
theorem fl_PG_35 : FL R_PG 35 6 2 := FL.of rfl (by decide) rfl 341 (by decide +kernel)
theorem fl_PG_43 : FL R_PG 43 6 7 := FL.of rfl (by decide) rfl 351 (by decide +kernel)
theorem fl_PG_46 : FL R_PG 46 6 8 := FL.of rfl (by decide) rfl 354 (by decide +kernel)
theorem fl_PG_9 : FL R_PG 9 7 1 := FL.of rfl (by decide) rfl 389 (by decide +kernel)
theorem lm_JS_328 : Cond.methodLink R_JS 328 (yM m_UN_lackMarks) ∈ gt := gt_at 1002 (by decide +kernel) rfl
theorem lm_JS_331 : Cond.methodLink R_JS 331 (yM m_CL_setBy) ∈ gt := gt_at 1003 (by decide +kernel) rfl
theorem lm_JS_335 : Cond.methodLink R_JS 335 (yM m_PA_search) ∈ gt := gt_at 1031 (by decide +kernel) rfl
theorem lm_JS_338 : Cond.methodLink R_JS 338 (yM m_PA_keep) ∈ gt := gt_at 1052 (by decide +kernel) rfl
theorem lm_JS_358 : Cond.methodLink R_JS 358 (yM m_PA_setLine) ∈ gt := gt_at 1073 (by decide +kernel) rfl
theorem lm_JS_361 : Cond.methodLink R_JS 361 (yM m_PG_search) ∈ gt := gt_at 1078 (by decide +kernel) rfl
theorem lm_JS_362 : Cond.methodLink R_JS 362 (yM m_PG_keep) ∈ gt := gt_at 1087 (by decide +kernel) rfl
theorem lm_MO_253 : Cond.methodLink R_MO 253 (yM m_MO_in) ∈ gt := gt_at 1460 (by decide +kernel) rfl
theorem lm_MO_276 : Cond.methodLink R_MO 276 (yM m_MO_changed) ∈ gt := gt_at 1467 (by decide +kernel) rfl
theorem lm_PA_101 : Cond.methodLink R_PA 101 (yM m_LN_setPlain) ∈ gt := gt_at 1060 (by decide +kernel) rfl
theorem lm_PA_104 : Cond.methodLink R_PA 104 (yM m_FI_trace) ∈ gt := gt_at 1061 (by decide +kernel) rfl
theorem lm_PA_54 : Cond.methodLink R_PA 54 (yM m_PA_offerLinesTo) ∈ gt := gt_at 1036 (by decide +kernel) rfl
theorem lm_PA_61 : Cond.methodLink R_PA 61 (yM m_FI_beginBehind) ∈ gt := gt_at 1040 (by decide +kernel) rfl
theorem lm_PA_69 : Cond.methodLink R_PA 69 (yM m_FI_goBack) ∈ gt := gt_at 1041 (by decide +kernel) rfl
theorem lm_PA_72 : Cond.methodLink R_PA 72 (yM m_FI_canBeSet) ∈ gt := gt_at 1042 (by decide +kernel) rfl
theorem lm_PA_76 : Cond.methodLink R_PA 76 (yM m_PA_isPlain) ∈ gt := gt_at 1046 (by decide +kernel) rfl
theorem lm_PA_80 : Cond.methodLink R_PA 80 (yM m_FI_leastPrice) ∈ gt := gt_at 1051 (by decide +kernel) rfl
theorem lm_PA_84 : Cond.methodLink R_PA 84 (yM m_UN_plainWidth) ∈ gt := gt_at 1050 (by decide +kernel) rfl
theorem lm_PA_87 : Cond.methodLink R_PA 87 (yM m_PA_setLine) ∈ gt := gt_at 1056 (by decide +kernel) rfl
theorem lm_PA_91 : Cond.methodLink R_PA 91 (yM m_LN_putMarks) ∈ gt := gt_at 1062 (by decide +kernel) rfl
theorem lm_PA_96 : Cond.methodLink R_PA 96 (yM m_LN_height) ∈ gt := gt_at 1063 (by decide +kernel) rfl
theorem lm_PA_99 : Cond.methodLink R_PA 99 (yM m_LN_depth) ∈ gt := gt_at 1064 (by decide +kernel) rfl
theorem lm_PG_39 : Cond.methodLink R_PG 39 (yM m_PG_offerPagesFrom) ∈ gt := gt_at 1083 (by decide +kernel) rfl
theorem mk_CL_setBy : MKV m_CL_setBy 3 4 := ⟨⟨gt_at 1006 (by decide +kernel) rfl, gt_at 74 (by decide +kernel) rfl, by decide +kernel, by decide +kernel, by decide +kernel⟩, gt_at 1004 (by decide +kernel) rfl, gt_at 1005 (by decide +kernel) rfl, _, _, rfl⟩
theorem mk_FI_canBeSet : MKV m_FI_canBeSet 5 1 := ⟨⟨gt_at 1045 (by decide +kernel) rfl, gt_at 76 (by decide +kernel) rfl, by decide +kernel, by decide +kernel, by decide +kernel⟩, gt_at 1043 (by decide +kernel) rfl, gt_at 1044 (by decide +kernel) rfl, _, _, rfl⟩
theorem mk_PG_keep : MKV m_PG_keep 7 1 := ⟨⟨gt_at 1090 (by decide +kernel) rfl, gt_at 78 (by decide +kernel) rfl, by decide +kernel, by decide +kernel, by decide +kernel⟩, gt_at 1088 (by decide +kernel) rfl, gt_at 1089 (by decide +kernel) rfl, _, _, rfl⟩
theorem mk_PG_offerPagesFrom : MKV m_PG_offerPagesFrom 7 2 := ⟨⟨gt_at 1086 (by decide +kernel) rfl, gt_at 78 (by decide +kernel) rfl, by decide +kernel, by decide +kernel, by decide +kernel⟩, gt_at 1085 (by decide +kernel) rfl, gt_at 25 (by decide +kernel) rfl, _, _, rfl⟩
theorem mk_PG_search : MKV m_PG_search 7 1 := ⟨⟨gt_at 1081 (by decide +kernel) rfl, gt_at 78 (by decide +kernel) rfl, by decide +kernel, by decide +kernel, by decide +kernel⟩, gt_at 1079 (by decide +kernel) rfl, gt_at 1080 (by decide +kernel) rfl, _, _, rfl⟩
theorem mk_PA_isPlain : MKV m_PA_isPlain 6 3 := ⟨⟨gt_at 1049 (by decide +kernel) rfl, gt_at 77 (by decide +kernel) rfl, by decide +kernel, by decide +kernel, by decide +kernel⟩, gt_at 1048 (by decide +kernel) rfl, gt_at 24 (by decide +kernel) rfl, _, _, rfl⟩
theorem mk_PA_keep : MKV m_PA_keep 6 2 := ⟨⟨gt_at 1055 (by decide +kernel) rfl, gt_at 77 (by decide +kernel) rfl, by decide +kernel, by decide +kernel, by decide +kernel⟩, gt_at 1053 (by decide +kernel) rfl, gt_at 1054 (by decide +kernel) rfl, _, _, rfl⟩
theorem mk_PA_offerLinesTo : MKV m_PA_offerLinesTo 6 2 := ⟨⟨gt_at 1039 (by decide +kernel) rfl, gt_at 77 (by decide +kernel) rfl, by decide +kernel, by decide +kernel, by decide +kernel⟩, gt_at 1038 (by decide +kernel) rfl, gt_at 23 (by decide +kernel) rfl, _, _, rfl⟩
theorem mk_PA_search : MKV m_PA_search 6 1 := ⟨⟨gt_at 1034 (by decide +kernel) rfl, gt_at 77 (by decide +kernel) rfl, by decide +kernel, by decide +kernel, by decide +kernel⟩, gt_at 1032 (by decide +kernel) rfl, gt_at 1033 (by decide +kernel) rfl, _, _, rfl⟩
theorem mk_PA_setLine : MKV m_PA_setLine 6 2 := ⟨⟨gt_at 1059 (by decide +kernel) rfl, gt_at 77 (by decide +kernel) rfl, by decide +kernel, by decide +kernel, by decide +kernel⟩, gt_at 1057 (by decide +kernel) rfl, gt_at 1058 (by decide +kernel) rfl, _, _, rfl⟩
theorem mk_MO_changed : MKV m_MO_changed 8 0 := ⟨⟨gt_at 1470 (by decide +kernel) rfl, gt_at 82 (by decide +kernel) rfl, by decide +kernel, by decide +kernel, by decide +kernel⟩, gt_at 1469 (by decide +kernel) rfl, gt_at 27 (by decide +kernel) rfl, _, _, rfl⟩
theorem mk_MO_in : MKS m_MO_in 3 := ⟨⟨gt_at 1462 (by decide +kernel) rfl, gt_at 82 (by decide +kernel) rfl, by decide +kernel, by decide +kernel, by decide +kernel⟩, gt_at 1461 (by decide +kernel) rfl⟩
theorem pf_0_13 : ∀ C T N, classes[0]? = some (C, T, N) → (T 13).2.2.2 = false := fun _ _ _ h => by cases h; rfl
theorem pf_0_14 : ∀ C T N, classes[0]? = some (C, T, N) → (T 14).2.2.2 = false := fun _ _ _ h => by cases h; rfl
theorem pf_6_2 : ∀ C T N, classes[6]? = some (C, T, N) → (T 2).2.2.2 = false := fun _ _ _ h => by cases h; rfl
theorem pf_6_3 : ∀ C T N, classes[6]? = some (C, T, N) → (T 3).2.2.2 = false := fun _ _ _ h => by cases h; rfl
theorem pf_7_1 : ∀ C T N, classes[7]? = some (C, T, N) → (T 1).2.2.2 = false := fun _ _ _ h => by cases h; rfl
theorem pf_8_100 : ∀ C T N, classes[8]? = some (C, T, N) → (T 100).2.2.2 = false := fun _ _ _ h => by cases h; rfl
theorem pf_8_109 : ∀ C T N, classes[8]? = some (C, T, N) → (T 109).2.2.2 = false := fun _ _ _ h => by cases h; rfl
theorem pf_8_26 : ∀ C T N, classes[8]? = some (C, T, N) → (T 26).2.2.2 = false := fun _ _ _ h => by cases h; rfl
theorem pf_8_6 : ∀ C T N, classes[8]? = some (C, T, N) → (T 6).2.2.2 = false := fun _ _ _ h => by cases h; rfl
theorem pf_8_68 : ∀ C T N, classes[8]? = some (C, T, N) → (T 68).2.2.2 = false := fun _ _ _ h => by cases h; rfl
theorem pf_8_91 : ∀ C T N, classes[8]? = some (C, T, N) → (T 91).2.2.2 = false := fun _ _ _ h => by cases h; rfl
def tb_JS_check : List (Nat × Instr × Nat) := [(0, .aload_n 0, 1), (1, .invokevirtual 192, 3), (4, .aload_n 0, 1), (5, .getfield 35, 3), (8, .iload_n 1, 1), (9, .iload_n 2, 1), (10, .invokevirtual 219, 3), (13, .ifCond .ne 5, 3), (16, .iconst (-1), 1), (17, .ireturn, 1), (18, .aload_n 0, 1), (19, .getfield 35, 3), (22, .getfield 222, 3), (25, .iload_n 1, 1), (26, .iaload, 1), (27, .istore_n 3, 1), (28, .aload_n 0, 1), (29, .getfield 35, 3), (32, .getfield 225, 3), (35, .iload_n 2, 1), (36, .iaload, 1), (37, .istore 4, 2), (39, .aload_n 0, 1), (40, .getfield 35, 3), (43, .iload_n 3, 1), (44, .iload 4, 2), (46, .invokevirtual 328, 3), (49, .ifCond .eq 6, 3), (52, .bipush (-5), 2), (54, .ireturn, 1), (55, .aload_n 0, 1), (56, .getfield 26, 3), (59, .iload_n 3, 1), (60, .iload 4, 2), (62, .aload_n 0, 1), (63, .getfield 35, 3), (66, .aload_n 0, 1), (67, .getfield 73, 3), (70, .invokevirtual 331, 3), (73, .istore 5, 2), (75, .iload 5, 2), (77, .bipush (-6), 2), (79, .if_icmp .eq 9, 3), (82, .bipush (-100), 2), (84, .iload 5, 2), (86, .isub, 1), (87, .ireturn, 1), (88, .aload_n 0, 1), (89, .invokevirtual 245, 3), (92, .iconst 1, 1), (93, .ireturn, 1)]
theorem dt_JS_check : DT (cM m_JS_check) tb_JS_check := by unfold DT; decide +kernel
abbrev a_JS_check_0 (G : GT)  (v1 : Int) (v2 : Int) (σ : St) (P : Int → St → Prop) : Prop := A G m_JS_check 0 [(0, O 0), (1, I v1), (2, I v2)] [] σ P
set_option maxRecDepth 20000 in
theorem k_JS_check_0 {G : GT} {σ : St} {P : Int → St → Prop}  {v1 : Int} {v2 : Int}  
    (h : CJ G m_JS_lookAtText [O 0] σ (fun _ u1 => rng v1 ∧ (0 ≤ v1 → rng v2) ∧ (0 ≤ v1 ∧ (v1 ≤ v2 ∧ v2 < u1.2.1 4 3) → (0 ≤ v1 ∧ v1 < 80) ∧ (0 ≤ v2 ∧ v2 < 80) ∧ CJ G m_UN_lackMarks [O 4, I (u1.1 66 v1.toNat), I (u1.1 67 v2.toNat)] u1 (fun r10 u9 => (r10 = 0 → CJ G m_CL_setBy [O 3, I (u1.1 66 v1.toNat), I (u1.1 67 v2.toNat), O 4, O u9.2.2.2] u9 (fun r13 u12 => (r13 = (-6) → CJ G m_JS_takeSpare [O 0] u12 (fun _ u15 => P 1 u15)) ∧ (r13 ≠ (-6) → rng ((-100) - r13) ∧ P ((-100) - r13) u12))) ∧ (r10 ≠ 0 → P (-5) u9))) ∧ (¬ (0 ≤ v1 ∧ (v1 ≤ v2 ∧ v2 < u1.2.1 4 3)) → P (-1) u1))) :
    a_JS_check_0 G v1 v2 σ P := by
  refine r_aload_n (q := 1) (dc dt_JS_check 0 rfl) rfl rfl 0 rfl ?_
  refine r_callVv (q := 4) mk_JS_lookAtText lm_JS_192 (RMO.of rfl) rfl (dc dt_JS_check 1 rfl) rfl ly0 [] [] rfl rfl (Nat.le_of_ble_eq_true rfl) h (fun u1 h => ?_)
  refine r_aload_n (q := 5) (dc dt_JS_check 2 rfl) rfl rfl 0 rfl ?_
  refine r_getO (q := 8) (v := 4) fl_JS_35 (dc dt_JS_check 3 rfl) rfl ly0 rfl ?_
  refine r_iload_n (q := 9) (dc dt_JS_check 4 rfl) rfl rfl 1 rfl ?_
  refine r_iload_n (q := 10) (dc dt_JS_check 5 rfl) rfl rfl 2 rfl ?_
  obtain ⟨o2, h⟩ := h
  obtain ⟨o3, h⟩ := h
  refine r_callVi (q := 13) mk_UN_hasWords lm_JS_219 (RMO.of rfl) rfl (dc dt_JS_check 6 rfl) rfl ly4 [I v1, I v2] [] rfl rfl (Nat.le_of_ble_eq_true rfl) (sp_UN_hasWords o2 o3) (fun _ _ g4 z => ?_)
  obtain ⟨z, w⟩ := z
  subst z
  replace w := w.symm
  subst w
  refine r_ifb_ne (q := 16) (t := 18) (dc dt_JS_check 7 rfl) rfl (by decide) (fun q_ => ?_) (fun q_ => ?_)
  · have h := h.1 q_
    refine r_aload_n (q := 19) (dc dt_JS_check 10 rfl) rfl rfl 0 rfl ?_
    refine r_getO (q := 22) (v := 4) fl_JS_35 (dc dt_JS_check 11 rfl) rfl ly0 rfl ?_
    refine r_getO (q := 25) (v := 66) fl_JS_222 (dc dt_JS_check 12 rfl) rfl ly4 rfl ?_
    refine r_iload_n (q := 26) (dc dt_JS_check 13 rfl) rfl rfl 1 rfl ?_
    obtain ⟨o5, h⟩ := h
    refine r_iald (q := 27) (v := u1.1 66 v1.toNat) (dc dt_JS_check 14 rfl) rfl ly66 o5 rfl (fun g6 => ?_)
    refine r_istore_n (q := 28) (dc dt_JS_check 15 rfl) rfl rfl (by decide) rfl ?_
    refine r_aload_n (q := 29) (dc dt_JS_check 16 rfl) rfl rfl 1 rfl ?_
    refine r_getO (q := 32) (v := 4) fl_JS_35 (dc dt_JS_check 17 rfl) rfl ly0 rfl ?_
    refine r_getO (q := 35) (v := 67) fl_JS_225 (dc dt_JS_check 18 rfl) rfl ly4 rfl ?_
    refine r_iload_n (q := 36) (dc dt_JS_check 19 rfl) rfl rfl 3 rfl ?_
    obtain ⟨o7, h⟩ := h
    refine r_iald (q := 37) (v := u1.1 67 v2.toNat) (dc dt_JS_check 20 rfl) rfl ly67 o7 rfl (fun g8 => ?_)
    refine r_istore (q := 39) (dc dt_JS_check 21 rfl) rfl (by decide) rfl ?_
    refine r_aload_n (q := 40) (dc dt_JS_check 22 rfl) rfl rfl 2 rfl ?_
    refine r_getO (q := 43) (v := 4) fl_JS_35 (dc dt_JS_check 23 rfl) rfl ly0 rfl ?_
    refine r_iload_n (q := 44) (dc dt_JS_check 24 rfl) rfl rfl 1 rfl ?_
    refine r_iload (q := 46) (dc dt_JS_check 25 rfl) rfl 0 rfl ?_
    refine r_callVi (q := 49) mk_UN_lackMarks lm_JS_328 (RMO.of rfl) rfl (dc dt_JS_check 26 rfl) rfl ly4 [I (u1.1 66 v1.toNat), I (u1.1 67 v2.toNat)] [] rfl rfl (Nat.le_of_ble_eq_true rfl) h (fun r10 u9 g11 h => ?_)
    refine r_if_eq (q := 52) (t := 55) (dc dt_JS_check 27 rfl) rfl (by decide) g11 (fun q_ => ?_) (fun q_ => ?_)
    · have h := h.1 q_
      refine r_aload_n (q := 56) (dc dt_JS_check 30 rfl) rfl rfl 2 rfl ?_
      refine r_getO (q := 59) (v := 3) fl_JS_26 (dc dt_JS_check 31 rfl) rfl ly0 rfl ?_
      refine r_iload_n (q := 60) (dc dt_JS_check 32 rfl) rfl rfl 1 rfl ?_
      refine r_iload (q := 62) (dc dt_JS_check 33 rfl) rfl 0 rfl ?_
      refine r_aload_n (q := 63) (dc dt_JS_check 34 rfl) rfl rfl 2 rfl ?_
      refine r_getO (q := 66) (v := 4) fl_JS_35 (dc dt_JS_check 35 rfl) rfl ly0 rfl ?_
      refine r_aload_n (q := 67) (dc dt_JS_check 36 rfl) rfl rfl 2 rfl ?_
      refine r_getO (q := 70) (v := u9.2.2.2) fl_JS_73 (dc dt_JS_check 37 rfl) rfl ly0 rfl ?_
      refine r_callVi (q := 73) mk_CL_setBy lm_JS_331 (RMO.of rfl) rfl (dc dt_JS_check 38 rfl) rfl ly3 [I (u1.1 66 v1.toNat), I (u1.1 67 v2.toNat), O 4, O u9.2.2.2] [] rfl rfl (Nat.le_of_ble_eq_true rfl) h (fun r13 u12 g14 h => ?_)
      refine r_istore (q := 75) (dc dt_JS_check 39 rfl) rfl (by decide) rfl ?_
      refine r_iload (q := 77) (dc dt_JS_check 40 rfl) rfl 0 rfl ?_
      refine r_bipush (q := 79) (dc dt_JS_check 41 rfl) rfl (by decide) ?_
      refine r_icmp_eq (q := 82) (t := 88) (dc dt_JS_check 42 rfl) rfl (by decide) g14 (⟨by decide, by decide⟩ : rng (-6)) (fun q_ => ?_) (fun q_ => ?_)
      · have h := h.1 q_
        refine r_aload_n (q := 89) (dc dt_JS_check 47 rfl) rfl rfl 3 rfl ?_
        refine r_callVv (q := 92) mk_JS_takeSpare lm_JS_245 (RMO.of rfl) rfl (dc dt_JS_check 48 rfl) rfl ly0 [] [] rfl rfl (Nat.le_of_ble_eq_true rfl) h (fun u15 h => ?_)
        refine r_iconst (q := 93) (dc dt_JS_check 49 rfl) rfl rfl ?_
        exact r_iret rfl (dc dt_JS_check 50 rfl) (⟨by decide, by decide⟩ : rng 1) h
      · have h := h.2 q_
        refine r_bipush (q := 84) (dc dt_JS_check 43 rfl) rfl (by decide) ?_
        refine r_iload (q := 86) (dc dt_JS_check 44 rfl) rfl 0 rfl ?_
        refine r_isub (q := 87) (dc dt_JS_check 45 rfl) rfl ?_
        obtain ⟨o16, h⟩ := h
        exact r_iret rfl (dc dt_JS_check 46 rfl) o16 h
    · have h := h.2 q_
      refine r_bipush (q := 54) (dc dt_JS_check 28 rfl) rfl (by decide) ?_
      exact r_iret rfl (dc dt_JS_check 29 rfl) (⟨by decide, by decide⟩ : rng (-5)) h
  · have h := h.2 q_
    refine r_iconst (q := 17) (dc dt_JS_check 8 rfl) rfl rfl ?_
    exact r_iret rfl (dc dt_JS_check 9 rfl) (⟨by decide, by decide⟩ : rng (-1)) h
def tb_FI_canBeSet : List (Nat × Instr × Nat) := [(0, .aload_n 0, 1), (1, .getfield 20, 3), (4, .iload_n 1, 1), (5, .iconst 3, 1), (6, .imul, 1), (7, .iaload, 1), (8, .ifCond .lt 7, 3), (11, .iconst 1, 1), (12, .goto 4, 3), (15, .iconst 0, 1), (16, .ireturn, 1)]
theorem dt_FI_canBeSet : DT (cM m_FI_canBeSet) tb_FI_canBeSet := by unfold DT; decide +kernel
abbrev a_FI_canBeSet_0 (G : GT)  (v1 : Int) (σ : St) (P : Int → St → Prop) : Prop := A G m_FI_canBeSet 0 [(0, O 5), (1, I v1)] [] σ P
set_option maxRecDepth 20000 in
theorem k_FI_canBeSet_0 {G : GT} {σ : St} {P : Int → St → Prop}  {v1 : Int}  
    (h : (0 ≤ v1 * 3 ∧ v1 * 3 < 243) ∧ P (if 0 ≤ σ.1 76 ((v1 * 3).toNat) then 1 else 0) σ) :
    a_FI_canBeSet_0 G v1 σ P := by
  refine r_aload_n (q := 1) (dc dt_FI_canBeSet 0 rfl) rfl rfl 0 rfl ?_
  refine r_getO (q := 4) (v := 76) fl_FI_20 (dc dt_FI_canBeSet 1 rfl) rfl ly5 rfl ?_
  refine r_iload_n (q := 5) (dc dt_FI_canBeSet 2 rfl) rfl rfl 1 rfl ?_
  refine r_iconst (q := 6) (dc dt_FI_canBeSet 3 rfl) rfl rfl ?_
  refine r_imul (q := 7) (dc dt_FI_canBeSet 4 rfl) rfl ?_
  obtain ⟨o1, h⟩ := h
  refine r_iald (q := 8) (v := σ.1 76 ((v1 * 3).toNat)) (dc dt_FI_canBeSet 5 rfl) rfl ly76 o1 rfl (fun g2 => ?_)
  have hJ : ∀ (w_0 : Int), w_0 = (if 0 ≤ σ.1 76 ((v1 * 3).toNat) then 1 else 0) → A G m_FI_canBeSet 16 [(0, O 5), (1, I v1)] [I w_0] σ P := by
    intro w_0 z_0
    subst z_0
    exact r_zret rfl (dc dt_FI_canBeSet 10 rfl) b01_or h
  clear h
  refine r_if_lt (q := 11) (t := 15) (dc dt_FI_canBeSet 6 rfl) rfl (by decide) g2 (fun q_ => ?_) (fun q_ => ?_)
  · have q3 := q_
    refine r_iconst (q := 16) (dc dt_FI_canBeSet 9 rfl) rfl rfl ?_
    exact (hJ 0 ((if_neg (by first | omega | grind)).symm))
  · have q3 := q_
    refine r_iconst (q := 12) (dc dt_FI_canBeSet 7 rfl) rfl rfl ?_
    refine r_goto (q := 16) (dc dt_FI_canBeSet 8 rfl) (by decide) ?_
    exact (hJ 1 ((if_pos (by first | omega | grind)).symm))
set_option maxRecDepth 20000 in
theorem sp_FI_canBeSet {G : GT} {σ : St} {v1 : Int}  (j0 : 0 ≤ v1 * 3 ∧ v1 * 3 < 243) : CJ G m_FI_canBeSet [O 5, I v1] σ (fun r u => r = (if 0 ≤ σ.1 76 ((v1 * 3).toNat) then 1 else 0) ∧ u = σ) := by
  refine CJ.intro (by decide) (by simp [catA]; decide) (fun _ => k_FI_canBeSet_0  ?_)
  refine ⟨by first | assumption | omega | grind, ?_⟩
  exact ⟨rfl, rfl⟩
def tb_PA_isPlain : List (Nat × Instr × Nat) := [(0, .iload_n 2, 1), (1, .aload_n 0, 1), (2, .getfield 40, 3), (5, .getfield 48, 3), (8, .iconst 1, 1), (9, .isub, 1), (10, .if_icmp .eq 5, 3), (13, .iconst 0, 1), (14, .ireturn, 1), (15, .aload_n 0, 1), (16, .getfield 40, 3), (19, .aload_n 0, 1), (20, .getfield 40, 3), (23, .getfield 66, 3), (26, .iload_n 1, 1), (27, .iaload, 1), (28, .aload_n 0, 1), (29, .getfield 40, 3), (32, .getfield 58, 3), (35, .iload_n 2, 1), (36, .iaload, 1), (37, .invokevirtual 84, 3), (40, .istore 4, 2), (42, .iload 4, 2), (44, .bipush (-6), 2), (46, .if_icmp .eq 13, 3), (49, .iload 4, 2), (51, .iload_n 3, 1), (52, .if_icmp .gt 7, 3), (55, .iconst 1, 1), (56, .goto 4, 3), (59, .iconst 0, 1), (60, .ireturn, 1)]
theorem dt_PA_isPlain : DT (cM m_PA_isPlain) tb_PA_isPlain := by unfold DT; decide +kernel
abbrev a_PA_isPlain_0 (G : GT)  (v1 : Int) (v2 : Int) (v3 : Int) (σ : St) (P : Int → St → Prop) : Prop := A G m_PA_isPlain 0 [(0, O 6), (1, I v1), (2, I v2), (3, I v3)] [] σ P
set_option maxRecDepth 20000 in
theorem k_PA_isPlain_0 {G : GT} {σ : St} {P : Int → St → Prop}  {v1 : Int} {v2 : Int} {v3 : Int}  
    (h : rng v2 ∧ rng ((σ.2.1 4 3) - 1) ∧ (v2 = (σ.2.1 4 3) - 1 → (0 ≤ v1 ∧ v1 < 80) ∧ (0 ≤ v2 ∧ v2 < 80) ∧ CJ G m_UN_plainWidth [O 4, I (σ.1 66 v1.toNat), I (σ.1 67 v2.toNat)] σ (fun r9 u8 => ((r9 ≠ (-6) → rng v3)) ∧ P (if r9 ≠ (-6) ∧ r9 ≤ v3 then 1 else 0) u8)) ∧ (v2 ≠ (σ.2.1 4 3) - 1 → P 0 σ)) :
    a_PA_isPlain_0 G v1 v2 v3 σ P := by
  refine r_iload_n (q := 1) (dc dt_PA_isPlain 0 rfl) rfl rfl 2 rfl ?_
  refine r_aload_n (q := 2) (dc dt_PA_isPlain 1 rfl) rfl rfl 0 rfl ?_
  refine r_getO (q := 5) (v := 4) fl_PA_40 (dc dt_PA_isPlain 2 rfl) rfl ly6 rfl ?_
  refine r_getI (q := 8) (v := σ.2.1 4 3) fl_PA_48 (dc dt_PA_isPlain 3 rfl) rfl ly4 rfl rfl (fun g1 => ?_)
  refine r_iconst (q := 9) (dc dt_PA_isPlain 4 rfl) rfl rfl ?_
  refine r_isub (q := 10) (dc dt_PA_isPlain 5 rfl) rfl ?_
  obtain ⟨o2, h⟩ := h
  obtain ⟨o3, h⟩ := h
  refine r_icmp_eq (q := 13) (t := 15) (dc dt_PA_isPlain 6 rfl) rfl (by decide) o2 o3 (fun q_ => ?_) (fun q_ => ?_)
  · have h := h.1 q_
    refine r_aload_n (q := 16) (dc dt_PA_isPlain 9 rfl) rfl rfl 0 rfl ?_
    refine r_getO (q := 19) (v := 4) fl_PA_40 (dc dt_PA_isPlain 10 rfl) rfl ly6 rfl ?_
    refine r_aload_n (q := 20) (dc dt_PA_isPlain 11 rfl) rfl rfl 0 rfl ?_
    refine r_getO (q := 23) (v := 4) fl_PA_40 (dc dt_PA_isPlain 12 rfl) rfl ly6 rfl ?_
    refine r_getO (q := 26) (v := 66) fl_PA_66 (dc dt_PA_isPlain 13 rfl) rfl ly4 rfl ?_
    refine r_iload_n (q := 27) (dc dt_PA_isPlain 14 rfl) rfl rfl 1 rfl ?_
    obtain ⟨o4, h⟩ := h
    refine r_iald (q := 28) (v := σ.1 66 v1.toNat) (dc dt_PA_isPlain 15 rfl) rfl ly66 o4 rfl (fun g5 => ?_)
    refine r_aload_n (q := 29) (dc dt_PA_isPlain 16 rfl) rfl rfl 0 rfl ?_
    refine r_getO (q := 32) (v := 4) fl_PA_40 (dc dt_PA_isPlain 17 rfl) rfl ly6 rfl ?_
    refine r_getO (q := 35) (v := 67) fl_PA_58 (dc dt_PA_isPlain 18 rfl) rfl ly4 rfl ?_
    refine r_iload_n (q := 36) (dc dt_PA_isPlain 19 rfl) rfl rfl 2 rfl ?_
    obtain ⟨o6, h⟩ := h
    refine r_iald (q := 37) (v := σ.1 67 v2.toNat) (dc dt_PA_isPlain 20 rfl) rfl ly67 o6 rfl (fun g7 => ?_)
    refine r_callVi (q := 40) mk_UN_plainWidth lm_PA_84 (RMO.of rfl) rfl (dc dt_PA_isPlain 21 rfl) rfl ly4 [I (σ.1 66 v1.toNat), I (σ.1 67 v2.toNat)] [] rfl rfl (Nat.le_of_ble_eq_true rfl) h (fun r9 u8 g10 h => ?_)
    refine r_istore (q := 42) (dc dt_PA_isPlain 22 rfl) rfl (by decide) rfl ?_
    refine r_iload (q := 44) (dc dt_PA_isPlain 23 rfl) rfl 0 rfl ?_
    refine r_bipush (q := 46) (dc dt_PA_isPlain 24 rfl) rfl (by decide) ?_
    obtain ⟨ho, h⟩ := h
    have hJ : ∀ (w_0 : Int), w_0 = (if r9 ≠ (-6) ∧ r9 ≤ v3 then 1 else 0) → A G m_PA_isPlain 60 [(4, I r9), (0, O 6), (1, I v1), (2, I v2), (3, I v3)] [I w_0] u8 P := by
      intro w_0 z_0
      subst z_0
      exact r_zret rfl (dc dt_PA_isPlain 32 rfl) b01_or h
    clear h
    refine r_icmp_eq (q := 49) (t := 59) (dc dt_PA_isPlain 25 rfl) rfl (by decide) g10 (⟨by decide, by decide⟩ : rng (-6)) (fun q_ => ?_) (fun q_ => ?_)
    · have q12 := q_
      refine r_iconst (q := 60) (dc dt_PA_isPlain 31 rfl) rfl rfl ?_
      exact (hJ 0 ((if_neg (by first | omega | grind)).symm))
    · have q12 := q_
      have ho := ho q_
      refine r_iload (q := 51) (dc dt_PA_isPlain 26 rfl) rfl 0 rfl ?_
      refine r_iload_n (q := 52) (dc dt_PA_isPlain 27 rfl) rfl rfl 4 rfl ?_
      have o11 := ho
      refine r_icmp_gt (q := 55) (t := 59) (dc dt_PA_isPlain 28 rfl) rfl (by decide) g10 o11 (fun q_ => ?_) (fun q_ => ?_)
      · have q13 := q_
        refine r_iconst (q := 60) (dc dt_PA_isPlain 31 rfl) rfl rfl ?_
        exact (hJ 0 ((if_neg (by first | omega | grind)).symm))
      · have q13 := q_
        refine r_iconst (q := 56) (dc dt_PA_isPlain 29 rfl) rfl rfl ?_
        refine r_goto (q := 60) (dc dt_PA_isPlain 30 rfl) (by decide) ?_
        exact (hJ 1 ((if_pos (by first | omega | grind)).symm))
  · have h := h.2 q_
    refine r_iconst (q := 14) (dc dt_PA_isPlain 7 rfl) rfl rfl ?_
    exact r_zret rfl (dc dt_PA_isPlain 8 rfl) (by decide) h
def tb_PA_offerLinesTo : List (Nat × Instr × Nat) := [(0, .aload_n 0, 1), (1, .getfield 40, 3), (4, .getfield 58, 3), (7, .iload_n 1, 1), (8, .iaload, 1), (9, .istore_n 3, 1), (10, .aload_n 0, 1), (11, .getfield 44, 3), (14, .iload_n 3, 1), (15, .iload_n 2, 1), (16, .invokevirtual 61, 3), (19, .iload_n 1, 1), (20, .istore 4, 2), (22, .iload 4, 2), (24, .ifCond .lt 138, 3), (27, .aload_n 0, 1), (28, .getfield 40, 3), (31, .getfield 66, 3), (34, .iload 4, 2), (36, .iaload, 1), (37, .istore 5, 2), (39, .aload_n 0, 1), (40, .getfield 44, 3), (43, .iload 5, 2), (45, .iload 4, 2), (47, .iload_n 1, 1), (48, .if_icmp .ne 7, 3), (51, .iload_n 3, 1), (52, .goto 17, 3), (55, .aload_n 0, 1), (56, .getfield 40, 3), (59, .getfield 66, 3), (62, .iload 4, 2), (64, .iconst 1, 1), (65, .iadd, 1), (66, .iaload, 1), (67, .iconst 1, 1), (68, .isub, 1), (69, .invokevirtual 69, 3), (72, .aload_n 0, 1), (73, .getfield 44, 3), (76, .iload 5, 2), (78, .invokevirtual 72, 3), (81, .ifCond .ne 6, 3), (84, .goto 78, 3), (87, .aload_n 0, 1), (88, .iload 4, 2), (90, .iload_n 1, 1), (91, .iload_n 2, 1), (92, .invokevirtual 76, 3), (95, .ifCond .eq 7, 3), (98, .iconst 0, 1), (99, .goto 13, 3), (102, .aload_n 0, 1), (103, .getfield 44, 3), (106, .iload 5, 2), (108, .iload_n 2, 1), (109, .invokevirtual 80, 3), (112, .istore 6, 2), (114, .iload 6, 2), (116, .aload_n 0, 1), (117, .getfield 34, 3), (120, .iload_n 1, 1), (121, .iconst 1, 1), (122, .iadd, 1), (123, .iaload, 1), (124, .iadd, 1), (125, .istore 7, 2), (127, .iload 7, 2), (129, .aload_n 0, 1), (130, .getfield 34, 3), (133, .iload 4, 2), (135, .iaload, 1), (136, .if_icmp .ge 20, 3), (139, .aload_n 0, 1), (140, .getfield 34, 3), (143, .iload 4, 2), (145, .iload 7, 2), (147, .iastore, 1), (148, .aload_n 0, 1), (149, .getfield 37, 3), (152, .iload 4, 2), (154, .iload_n 1, 1), (155, .iastore, 1), (156, .iinc 4 (-1), 3), (159, .goto (-137), 3), (162, .return_, 1)]
theorem dt_PA_offerLinesTo : DT (cM m_PA_offerLinesTo) tb_PA_offerLinesTo := by unfold DT; decide +kernel
abbrev a_PA_offerLinesTo_0 (G : GT)  (v1 : Int) (v2 : Int) (σ : St) (P : Int → St → Prop) : Prop := A G m_PA_offerLinesTo 0 [(0, O 6), (1, I v1), (2, I v2)] [] σ P
abbrev a_PA_offerLinesTo_22 (G : GT)  (v1 : Int) (v2 : Int) (v3 : Int) (v4 : Int) (σ : St) (P : Int → St → Prop) : Prop := A G m_PA_offerLinesTo 22 [(0, O 6), (1, I v1), (2, I v2), (3, I v3), (4, I v4)] [] σ P
set_option maxRecDepth 20000 in
theorem k_PA_offerLinesTo_0 {G : GT} {σ : St} {P : Int → St → Prop}  {v1 : Int} {v2 : Int}  
    (h : (0 ≤ v1 ∧ v1 < 80) ∧ CJ G m_FI_beginBehind [O 5, I (σ.1 67 v1.toNat), I v2] σ (fun _ u3 => a_PA_offerLinesTo_22 G v1 v2 (σ.1 67 v1.toNat) v1 u3 P)) :
    a_PA_offerLinesTo_0 G v1 v2 σ P := by
  refine r_aload_n (q := 1) (dc dt_PA_offerLinesTo 0 rfl) rfl rfl 0 rfl ?_
  refine r_getO (q := 4) (v := 4) fl_PA_40 (dc dt_PA_offerLinesTo 1 rfl) rfl ly6 rfl ?_
  refine r_getO (q := 7) (v := 67) fl_PA_58 (dc dt_PA_offerLinesTo 2 rfl) rfl ly4 rfl ?_
  refine r_iload_n (q := 8) (dc dt_PA_offerLinesTo 3 rfl) rfl rfl 1 rfl ?_
  obtain ⟨o1, h⟩ := h
  refine r_iald (q := 9) (v := σ.1 67 v1.toNat) (dc dt_PA_offerLinesTo 4 rfl) rfl ly67 o1 rfl (fun g2 => ?_)
  refine r_istore_n (q := 10) (dc dt_PA_offerLinesTo 5 rfl) rfl rfl (by decide) rfl ?_
  refine r_aload_n (q := 11) (dc dt_PA_offerLinesTo 6 rfl) rfl rfl 1 rfl ?_
  refine r_getO (q := 14) (v := 5) fl_PA_44 (dc dt_PA_offerLinesTo 7 rfl) rfl ly6 rfl ?_
  refine r_iload_n (q := 15) (dc dt_PA_offerLinesTo 8 rfl) rfl rfl 0 rfl ?_
  refine r_iload_n (q := 16) (dc dt_PA_offerLinesTo 9 rfl) rfl rfl 3 rfl ?_
  refine r_callVv (q := 19) mk_FI_beginBehind lm_PA_61 (RMO.of rfl) rfl (dc dt_PA_offerLinesTo 10 rfl) rfl ly5 [I (σ.1 67 v1.toNat), I v2] [] rfl rfl (Nat.le_of_ble_eq_true rfl) h (fun u3 h => ?_)
  refine r_iload_n (q := 20) (dc dt_PA_offerLinesTo 11 rfl) rfl rfl 2 rfl ?_
  refine r_istore (q := 22) (dc dt_PA_offerLinesTo 12 rfl) rfl (by decide) rfl ?_
  exact r_loc [2, 3, 4, 1, 0] rfl h
set_option maxRecDepth 20000 in
theorem k_PA_offerLinesTo_22 {G : GT} {σ : St} {P : Int → St → Prop}  {v1 : Int} {v2 : Int} {v3 : Int} {v4 : Int}  
    (h : rng v4 ∧ (v4 < 0 → P 0 σ) ∧ (0 ≤ v4 → (0 ≤ v4 ∧ v4 < 80) ∧ rng v1 ∧ ((v4 ≠ v1 → 0 ≤ v4 + 1 ∧ v4 + 1 < 80)) ∧ CJ G m_FI_goBack [O 5, I (σ.1 66 v4.toNat), I (if v4 ≠ v1 then (σ.1 66 ((v4 + 1).toNat)) - 1 else v3)] σ (fun _ u17 => (0 ≤ (σ.1 66 v4.toNat) * 3 ∧ (σ.1 66 v4.toNat) * 3 < 243) ∧ (0 ≤ u17.1 76 (((σ.1 66 v4.toNat) * 3).toNat) → CJ G m_PA_isPlain [O 6, I v4, I v1, I v2] u17 (fun r21 u20 => ((r21 = 0 → 0 ≤ v2 ∧ v2 < 301)) ∧ (0 ≤ v1 + 1 ∧ v1 + 1 < 81) ∧ (0 ≤ v4 ∧ v4 < 81) ∧ rng ((if r21 = 0 then u20.1 (376 + ((σ.1 66 v4.toNat) * 3).toNat) v2.toNat else (0 : Int)) + (u20.1 82 ((v1 + 1).toNat))) ∧ (u20.1 82 v4.toNat ≤ (if r21 = 0 then u20.1 (376 + ((σ.1 66 v4.toNat) * 3).toNat) v2.toNat else (0 : Int)) + (u20.1 82 ((v1 + 1).toNat)) → a_PA_offerLinesTo_22 G v1 v2 v3 (v4 + (-1)) u20 P) ∧ ((if r21 = 0 then u20.1 (376 + ((σ.1 66 v4.toNat) * 3).toNat) v2.toNat else (0 : Int)) + (u20.1 82 ((v1 + 1).toNat)) < u20.1 82 v4.toNat → (∀ σ30, σ30 = sa u20 82 v4.toNat ((if r21 = 0 then u20.1 (376 + ((σ.1 66 v4.toNat) * 3).toNat) v2.toNat else (0 : Int)) + (u20.1 82 ((v1 + 1).toNat))) → (∀ σ32, σ32 = sa σ30 83 v4.toNat v1 → a_PA_offerLinesTo_22 G v1 v2 v3 (v4 + (-1)) σ32 P))))) ∧ (¬ (0 ≤ u17.1 76 (((σ.1 66 v4.toNat) * 3).toNat)) → P 0 u17)))) :
    a_PA_offerLinesTo_22 G v1 v2 v3 v4 σ P := by
  refine r_iload (q := 24) (dc dt_PA_offerLinesTo 13 rfl) rfl 4 rfl ?_
  obtain ⟨o4, h⟩ := h
  refine r_if_lt (q := 27) (t := 162) (dc dt_PA_offerLinesTo 14 rfl) rfl (by decide) o4 (fun q_ => ?_) (fun q_ => ?_)
  · have h := h.1 q_
    exact r_vret rfl (dc dt_PA_offerLinesTo 86 rfl) h
  · have h := h.2 q_
    refine r_aload_n (q := 28) (dc dt_PA_offerLinesTo 15 rfl) rfl rfl 0 rfl ?_
    refine r_getO (q := 31) (v := 4) fl_PA_40 (dc dt_PA_offerLinesTo 16 rfl) rfl ly6 rfl ?_
    refine r_getO (q := 34) (v := 66) fl_PA_66 (dc dt_PA_offerLinesTo 17 rfl) rfl ly4 rfl ?_
    refine r_iload (q := 36) (dc dt_PA_offerLinesTo 18 rfl) rfl 4 rfl ?_
    obtain ⟨o12, h⟩ := h
    refine r_iald (q := 37) (v := σ.1 66 v4.toNat) (dc dt_PA_offerLinesTo 19 rfl) rfl ly66 o12 rfl (fun g13 => ?_)
    refine r_istore (q := 39) (dc dt_PA_offerLinesTo 20 rfl) rfl (by decide) rfl ?_
    refine r_aload_n (q := 40) (dc dt_PA_offerLinesTo 21 rfl) rfl rfl 1 rfl ?_
    refine r_getO (q := 43) (v := 5) fl_PA_44 (dc dt_PA_offerLinesTo 22 rfl) rfl ly6 rfl ?_
    refine r_iload (q := 45) (dc dt_PA_offerLinesTo 23 rfl) rfl 0 rfl ?_
    refine r_iload (q := 47) (dc dt_PA_offerLinesTo 24 rfl) rfl 5 rfl ?_
    refine r_iload_n (q := 48) (dc dt_PA_offerLinesTo 25 rfl) rfl rfl 2 rfl ?_
    obtain ⟨o14, h⟩ := h
    obtain ⟨ho, h⟩ := h
    have hJ : ∀ (w_0 : Int), w_0 = (if v4 ≠ v1 then (σ.1 66 ((v4 + 1).toNat)) - 1 else v3) → A G m_PA_offerLinesTo 69 [(5, I (σ.1 66 v4.toNat)), (0, O 6), (1, I v1), (2, I v2), (3, I v3), (4, I v4)] [I w_0, I (σ.1 66 v4.toNat), O 5] σ P := by
      intro w_0 z_0
      subst z_0
      refine r_callVv (q := 72) mk_FI_goBack lm_PA_69 (RMO.of rfl) rfl (dc dt_PA_offerLinesTo 38 rfl) rfl ly5 [I (σ.1 66 v4.toNat), I (if v4 ≠ v1 then (σ.1 66 ((v4 + 1).toNat)) - 1 else v3)] [] rfl rfl (Nat.le_of_ble_eq_true rfl) h (fun u17 h => ?_)
      refine r_aload_n (q := 73) (dc dt_PA_offerLinesTo 39 rfl) rfl rfl 1 rfl ?_
      refine r_getO (q := 76) (v := 5) fl_PA_44 (dc dt_PA_offerLinesTo 40 rfl) rfl ly6 rfl ?_
      refine r_iload (q := 78) (dc dt_PA_offerLinesTo 41 rfl) rfl 0 rfl ?_
      obtain ⟨o18, h⟩ := h
      refine r_callVi (q := 81) mk_FI_canBeSet lm_PA_72 (RMO.of rfl) rfl (dc dt_PA_offerLinesTo 42 rfl) rfl ly5 [I (σ.1 66 v4.toNat)] [] rfl rfl (Nat.le_of_ble_eq_true rfl) (sp_FI_canBeSet o18) (fun _ _ g19 z => ?_)
      obtain ⟨z, w⟩ := z
      subst z
      replace w := w.symm
      subst w
      refine r_ifb_ne (q := 84) (t := 87) (dc dt_PA_offerLinesTo 43 rfl) rfl (by decide) (fun q_ => ?_) (fun q_ => ?_)
      · have h := h.1 q_
        refine r_aload_n (q := 88) (dc dt_PA_offerLinesTo 45 rfl) rfl rfl 1 rfl ?_
        refine r_iload (q := 90) (dc dt_PA_offerLinesTo 46 rfl) rfl 5 rfl ?_
        refine r_iload_n (q := 91) (dc dt_PA_offerLinesTo 47 rfl) rfl rfl 2 rfl ?_
        refine r_iload_n (q := 92) (dc dt_PA_offerLinesTo 48 rfl) rfl rfl 3 rfl ?_
        refine r_callVi (q := 95) mk_PA_isPlain lm_PA_76 (RMO.of rfl) rfl (dc dt_PA_offerLinesTo 49 rfl) rfl ly6 [I v4, I v1, I v2] [] rfl rfl (Nat.le_of_ble_eq_true rfl) h (fun r21 u20 g22 h => ?_)
        obtain ⟨ho, h⟩ := h
        have hJ : ∀ (w_0 : Int), w_0 = (if r21 = 0 then u20.1 (376 + ((σ.1 66 v4.toNat) * 3).toNat) v2.toNat else (0 : Int)) → A G m_PA_offerLinesTo 112 [(5, I (σ.1 66 v4.toNat)), (0, O 6), (1, I v1), (2, I v2), (3, I v3), (4, I v4)] [I w_0] u20 P := by
          intro w_0 z_0
          subst z_0
          refine r_istore (q := 114) (dc dt_PA_offerLinesTo 58 rfl) rfl (by decide) rfl ?_
          refine r_iload (q := 116) (dc dt_PA_offerLinesTo 59 rfl) rfl 0 rfl ?_
          refine r_aload_n (q := 117) (dc dt_PA_offerLinesTo 60 rfl) rfl rfl 2 rfl ?_
          refine r_getO (q := 120) (v := 82) fl_PA_34 (dc dt_PA_offerLinesTo 61 rfl) rfl ly6 rfl ?_
          refine r_iload_n (q := 121) (dc dt_PA_offerLinesTo 62 rfl) rfl rfl 3 rfl ?_
          refine r_iconst (q := 122) (dc dt_PA_offerLinesTo 63 rfl) rfl rfl ?_
          refine r_iadd (q := 123) (dc dt_PA_offerLinesTo 64 rfl) rfl ?_
          obtain ⟨o25, h⟩ := h
          refine r_iald (q := 124) (v := u20.1 82 ((v1 + 1).toNat)) (dc dt_PA_offerLinesTo 65 rfl) rfl ly82 o25 rfl (fun g26 => ?_)
          refine r_iadd (q := 125) (dc dt_PA_offerLinesTo 66 rfl) rfl ?_
          refine r_istore (q := 127) (dc dt_PA_offerLinesTo 67 rfl) rfl (by decide) rfl ?_
          refine r_iload (q := 129) (dc dt_PA_offerLinesTo 68 rfl) rfl 0 rfl ?_
          refine r_aload_n (q := 130) (dc dt_PA_offerLinesTo 69 rfl) rfl rfl 3 rfl ?_
          refine r_getO (q := 133) (v := 82) fl_PA_34 (dc dt_PA_offerLinesTo 70 rfl) rfl ly6 rfl ?_
          refine r_iload (q := 135) (dc dt_PA_offerLinesTo 71 rfl) rfl 7 rfl ?_
          obtain ⟨o27, h⟩ := h
          refine r_iald (q := 136) (v := u20.1 82 v4.toNat) (dc dt_PA_offerLinesTo 72 rfl) rfl ly82 o27 rfl (fun g28 => ?_)
          obtain ⟨o29, h⟩ := h
          refine r_icmp_ge (q := 139) (t := 156) (dc dt_PA_offerLinesTo 73 rfl) rfl (by decide) o29 g28 (fun q_ => ?_) (fun q_ => ?_)
          · have h := h.1 q_
            refine r_iinc (q := 159) (k := 7) (dc dt_PA_offerLinesTo 84 rfl) rfl rfl (by decide) rfl ?_
            refine r_goto (q := 22) (dc dt_PA_offerLinesTo 85 rfl) (by decide) ?_
            exact r_loc [4, 5, 6, 7, 0] rfl h
          · have h := h.2 q_
            refine r_aload_n (q := 140) (dc dt_PA_offerLinesTo 74 rfl) rfl rfl 3 rfl ?_
            refine r_getO (q := 143) (v := 82) fl_PA_34 (dc dt_PA_offerLinesTo 75 rfl) rfl ly6 rfl ?_
            refine r_iload (q := 145) (dc dt_PA_offerLinesTo 76 rfl) rfl 7 rfl ?_
            refine r_iload (q := 147) (dc dt_PA_offerLinesTo 77 rfl) rfl 0 rfl ?_
            refine r_iast (q := 148) (dc dt_PA_offerLinesTo 78 rfl) rfl ly82 o27 o29 (fun σ30 e31 => ?_)
            have h := h σ30 e31
            refine r_aload_n (q := 149) (dc dt_PA_offerLinesTo 79 rfl) rfl rfl 3 rfl ?_
            refine r_getO (q := 152) (v := 83) fl_PA_37 (dc dt_PA_offerLinesTo 80 rfl) rfl ly6 rfl ?_
            refine r_iload (q := 154) (dc dt_PA_offerLinesTo 81 rfl) rfl 7 rfl ?_
            refine r_iload_n (q := 155) (dc dt_PA_offerLinesTo 82 rfl) rfl rfl 4 rfl ?_
            refine r_iast (q := 156) (dc dt_PA_offerLinesTo 83 rfl) rfl ly83 o12 o14 (fun σ32 e33 => ?_)
            have h := h σ32 e33
            refine r_iinc (q := 159) (k := 7) (dc dt_PA_offerLinesTo 84 rfl) rfl rfl (by decide) rfl ?_
            refine r_goto (q := 22) (dc dt_PA_offerLinesTo 85 rfl) (by decide) ?_
            exact r_loc [4, 5, 6, 7, 0] rfl h
        clear h
        refine r_if_eq (q := 98) (t := 102) (dc dt_PA_offerLinesTo 50 rfl) rfl (by decide) g22 (fun q_ => ?_) (fun q_ => ?_)
        · have q34 := q_
          have ho := ho q_
          refine r_aload_n (q := 103) (dc dt_PA_offerLinesTo 53 rfl) rfl rfl 1 rfl ?_
          refine r_getO (q := 106) (v := 5) fl_PA_44 (dc dt_PA_offerLinesTo 54 rfl) rfl ly6 rfl ?_
          refine r_iload (q := 108) (dc dt_PA_offerLinesTo 55 rfl) rfl 0 rfl ?_
          refine r_iload_n (q := 109) (dc dt_PA_offerLinesTo 56 rfl) rfl rfl 3 rfl ?_
          have o23 := ho
          refine r_callVi (q := 112) mk_FI_leastPrice lm_PA_80 (RMO.of rfl) rfl (dc dt_PA_offerLinesTo 57 rfl) rfl ly5 [I (σ.1 66 v4.toNat), I v2] [] rfl rfl (Nat.le_of_ble_eq_true rfl) (sp_FI_leastPrice o18 o23) (fun _ _ g24 z => ?_)
          obtain ⟨z, w⟩ := z
          subst z
          replace w := w.symm
          subst w
          exact (hJ (u20.1 (376 + ((σ.1 66 v4.toNat) * 3).toNat) v2.toNat) ((if_pos (by first | omega | grind)).symm))
        · have q34 := q_
          refine r_iconst (q := 99) (dc dt_PA_offerLinesTo 51 rfl) rfl rfl ?_
          refine r_goto (q := 112) (dc dt_PA_offerLinesTo 52 rfl) (by decide) ?_
          exact (hJ 0 ((if_neg (by first | omega | grind)).symm))
      · have h := h.2 q_
        refine r_goto (q := 162) (dc dt_PA_offerLinesTo 44 rfl) (by decide) ?_
        exact r_vret rfl (dc dt_PA_offerLinesTo 86 rfl) h
    clear h
    refine r_icmp_ne (q := 51) (t := 55) (dc dt_PA_offerLinesTo 26 rfl) rfl (by decide) o4 o14 (fun q_ => ?_) (fun q_ => ?_)
    · have q35 := q_
      have ho := ho q_
      refine r_aload_n (q := 56) (dc dt_PA_offerLinesTo 29 rfl) rfl rfl 1 rfl ?_
      refine r_getO (q := 59) (v := 4) fl_PA_40 (dc dt_PA_offerLinesTo 30 rfl) rfl ly6 rfl ?_
      refine r_getO (q := 62) (v := 66) fl_PA_66 (dc dt_PA_offerLinesTo 31 rfl) rfl ly4 rfl ?_
      refine r_iload (q := 64) (dc dt_PA_offerLinesTo 32 rfl) rfl 5 rfl ?_
      refine r_iconst (q := 65) (dc dt_PA_offerLinesTo 33 rfl) rfl rfl ?_
      refine r_iadd (q := 66) (dc dt_PA_offerLinesTo 34 rfl) rfl ?_
      have o15 := ho
      refine r_iald (q := 67) (v := σ.1 66 ((v4 + 1).toNat)) (dc dt_PA_offerLinesTo 35 rfl) rfl ly66 o15 rfl (fun g16 => ?_)
      refine r_iconst (q := 68) (dc dt_PA_offerLinesTo 36 rfl) rfl rfl ?_
      refine r_isub (q := 69) (dc dt_PA_offerLinesTo 37 rfl) rfl ?_
      exact (hJ ((σ.1 66 ((v4 + 1).toNat)) - 1) ((if_pos (by first | omega | grind)).symm))
    · have q35 := q_
      refine r_iload_n (q := 52) (dc dt_PA_offerLinesTo 27 rfl) rfl rfl 4 rfl ?_
      refine r_goto (q := 69) (dc dt_PA_offerLinesTo 28 rfl) (by decide) ?_
      exact (hJ v3 ((if_neg (by first | omega | grind)).symm))
def tb_PA_search : List (Nat × Instr × Nat) := [(0, .iconst 0, 1), (1, .istore_n 2, 1), (2, .iload_n 2, 1), (3, .aload_n 0, 1), (4, .getfield 40, 3), (7, .getfield 48, 3), (10, .if_icmp .ge 17, 3), (13, .aload_n 0, 1), (14, .getfield 34, 3), (17, .iload_n 2, 1), (18, .ldc 53, 2), (20, .iastore, 1), (21, .iinc 2 1, 3), (24, .goto (-22), 3), (27, .aload_n 0, 1), (28, .getfield 34, 3), (31, .aload_n 0, 1), (32, .getfield 40, 3), (35, .getfield 48, 3), (38, .iconst 0, 1), (39, .iastore, 1), (40, .aload_n 0, 1), (41, .getfield 40, 3), (44, .getfield 48, 3), (47, .iconst 1, 1), (48, .isub, 1), (49, .istore_n 2, 1), (50, .iload_n 2, 1), (51, .ifCond .lt 28, 3), (54, .aload_n 0, 1), (55, .getfield 34, 3), (58, .iload_n 2, 1), (59, .iconst 1, 1), (60, .iadd, 1), (61, .iaload, 1), (62, .ldc 53, 2), (64, .if_icmp .ge 9, 3), (67, .aload_n 0, 1), (68, .iload_n 2, 1), (69, .iload_n 1, 1), (70, .invokevirtual 54, 3), (73, .iinc 2 (-1), 3), (76, .goto (-26), 3), (79, .aload_n 0, 1), (80, .getfield 34, 3), (83, .iconst 0, 1), (84, .iaload, 1), (85, .ldc 53, 2), (87, .if_icmp .ge 7, 3), (90, .iconst 1, 1), (91, .goto 4, 3), (94, .iconst 0, 1), (95, .ireturn, 1)]
theorem dt_PA_search : DT (cM m_PA_search) tb_PA_search := by unfold DT; decide +kernel
abbrev a_PA_search_0 (G : GT)  (v1 : Int) (σ : St) (P : Int → St → Prop) : Prop := A G m_PA_search 0 [(0, O 6), (1, I v1)] [] σ P
abbrev a_PA_search_2 (G : GT)  (v1 : Int) (v2 : Int) (σ : St) (P : Int → St → Prop) : Prop := A G m_PA_search 2 [(0, O 6), (1, I v1), (2, I v2)] [] σ P
abbrev a_PA_search_50 (G : GT)  (v1 : Int) (v2 : Int) (σ : St) (P : Int → St → Prop) : Prop := A G m_PA_search 50 [(0, O 6), (1, I v1), (2, I v2)] [] σ P
set_option maxRecDepth 20000 in
theorem k_PA_search_0 {G : GT} {σ : St} {P : Int → St → Prop}  {v1 : Int}  
    (h : a_PA_search_2 G v1 0 σ P) :
    a_PA_search_0 G v1 σ P := by
  refine r_iconst (q := 1) (dc dt_PA_search 0 rfl) rfl rfl ?_
  refine r_istore_n (q := 2) (dc dt_PA_search 1 rfl) rfl rfl (by decide) rfl ?_
  exact r_loc [1, 2, 0] rfl h
set_option maxRecDepth 20000 in
theorem k_PA_search_2 {G : GT} {σ : St} {P : Int → St → Prop}  {v1 : Int} {v2 : Int}  
    (h : rng v2 ∧ (σ.2.1 4 3 ≤ v2 → (0 ≤ σ.2.1 4 3 ∧ σ.2.1 4 3 < 81) ∧ (∀ σ5, σ5 = sa σ 82 ((σ.2.1 4 3).toNat) 0 → a_PA_search_50 G v1 ((σ.2.1 4 3) - 1) σ5 P)) ∧ (v2 < σ.2.1 4 3 → (0 ≤ v2 ∧ v2 < 81) ∧ (∀ σ9, σ9 = sa σ 82 v2.toNat 536870912 → a_PA_search_2 G v1 (v2 + 1) σ9 P))) :
    a_PA_search_2 G v1 v2 σ P := by
  refine r_iload_n (q := 3) (dc dt_PA_search 2 rfl) rfl rfl 2 rfl ?_
  refine r_aload_n (q := 4) (dc dt_PA_search 3 rfl) rfl rfl 0 rfl ?_
  refine r_getO (q := 7) (v := 4) fl_PA_40 (dc dt_PA_search 4 rfl) rfl ly6 rfl ?_
  refine r_getI (q := 10) (v := σ.2.1 4 3) fl_PA_48 (dc dt_PA_search 5 rfl) rfl ly4 rfl rfl (fun g1 => ?_)
  obtain ⟨o2, h⟩ := h
  refine r_icmp_ge (q := 13) (t := 27) (dc dt_PA_search 6 rfl) rfl (by decide) o2 g1 (fun q_ => ?_) (fun q_ => ?_)
  · have h := h.1 q_
    refine r_aload_n (q := 28) (dc dt_PA_search 14 rfl) rfl rfl 0 rfl ?_
    refine r_getO (q := 31) (v := 82) fl_PA_34 (dc dt_PA_search 15 rfl) rfl ly6 rfl ?_
    refine r_aload_n (q := 32) (dc dt_PA_search 16 rfl) rfl rfl 0 rfl ?_
    refine r_getO (q := 35) (v := 4) fl_PA_40 (dc dt_PA_search 17 rfl) rfl ly6 rfl ?_
    refine r_getI (q := 38) (v := σ.2.1 4 3) fl_PA_48 (dc dt_PA_search 18 rfl) rfl ly4 rfl rfl (fun g3 => ?_)
    refine r_iconst (q := 39) (dc dt_PA_search 19 rfl) rfl rfl ?_
    obtain ⟨o4, h⟩ := h
    refine r_iast (q := 40) (dc dt_PA_search 20 rfl) rfl ly82 o4 (⟨by decide, by decide⟩ : rng 0) (fun σ5 e6 => ?_)
    have h := h σ5 e6
    refine r_aload_n (q := 41) (dc dt_PA_search 21 rfl) rfl rfl 0 rfl ?_
    refine r_getO (q := 44) (v := 4) fl_PA_40 (dc dt_PA_search 22 rfl) rfl ly6 rfl ?_
    refine r_getI (q := 47) (v := σ.2.1 4 3) fl_PA_48 (dc dt_PA_search 23 rfl) rfl ly4 rfl (by rw [e6]; rfl) (fun g7 => ?_)
    refine r_iconst (q := 48) (dc dt_PA_search 24 rfl) rfl rfl ?_
    refine r_isub (q := 49) (dc dt_PA_search 25 rfl) rfl ?_
    refine r_istore_n (q := 50) (dc dt_PA_search 26 rfl) rfl rfl (by decide) rfl ?_
    exact r_loc [1, 2, 0] rfl h
  · have h := h.2 q_
    refine r_aload_n (q := 14) (dc dt_PA_search 7 rfl) rfl rfl 0 rfl ?_
    refine r_getO (q := 17) (v := 82) fl_PA_34 (dc dt_PA_search 8 rfl) rfl ly6 rfl ?_
    refine r_iload_n (q := 18) (dc dt_PA_search 9 rfl) rfl rfl 2 rfl ?_
    refine r_ldc (q := 20) (n := 536870912) (dc dt_PA_search 10 rfl) rfl (gt_at 1035 (by decide +kernel) rfl) ?_
    obtain ⟨o8, h⟩ := h
    refine r_iast (q := 21) (dc dt_PA_search 11 rfl) rfl ly82 o8 (⟨by decide, by decide⟩ : rng 536870912) (fun σ9 e10 => ?_)
    have h := h σ9 e10
    refine r_iinc (q := 24) (k := 2) (dc dt_PA_search 12 rfl) rfl rfl (by decide) rfl ?_
    refine r_goto (q := 2) (dc dt_PA_search 13 rfl) (by decide) ?_
    exact r_loc [1, 2, 0] rfl h
set_option maxRecDepth 20000 in
theorem k_PA_search_50 {G : GT} {σ : St} {P : Int → St → Prop}  {v1 : Int} {v2 : Int}  
    (h : rng v2 ∧ (v2 < 0 → P (if σ.1 82 0 < 536870912 then 1 else 0) σ) ∧ (0 ≤ v2 → (0 ≤ v2 + 1 ∧ v2 + 1 < 81) ∧ (536870912 ≤ σ.1 82 ((v2 + 1).toNat) → a_PA_search_50 G v1 (v2 + (-1)) σ P) ∧ (σ.1 82 ((v2 + 1).toNat) < 536870912 → CJ G m_PA_offerLinesTo [O 6, I v2, I v1] σ (fun _ u17 => a_PA_search_50 G v1 (v2 + (-1)) u17 P)))) :
    a_PA_search_50 G v1 v2 σ P := by
  refine r_iload_n (q := 51) (dc dt_PA_search 27 rfl) rfl rfl 2 rfl ?_
  obtain ⟨o11, h⟩ := h
  refine r_if_lt (q := 54) (t := 79) (dc dt_PA_search 28 rfl) rfl (by decide) o11 (fun q_ => ?_) (fun q_ => ?_)
  · have h := h.1 q_
    refine r_aload_n (q := 80) (dc dt_PA_search 43 rfl) rfl rfl 0 rfl ?_
    refine r_getO (q := 83) (v := 82) fl_PA_34 (dc dt_PA_search 44 rfl) rfl ly6 rfl ?_
    refine r_iconst (q := 84) (dc dt_PA_search 45 rfl) rfl rfl ?_
    refine r_iald (q := 85) (v := σ.1 82 0) (dc dt_PA_search 46 rfl) rfl ly82 ⟨by decide, by decide⟩ rfl (fun g14 => ?_)
    refine r_ldc (q := 87) (n := 536870912) (dc dt_PA_search 47 rfl) rfl (gt_at 1035 (by decide +kernel) rfl) ?_
    have hJ : ∀ (w_0 : Int), w_0 = (if σ.1 82 0 < 536870912 then 1 else 0) → A G m_PA_search 95 [(0, O 6), (1, I v1), (2, I v2)] [I w_0] σ P := by
      intro w_0 z_0
      subst z_0
      exact r_zret rfl (dc dt_PA_search 52 rfl) b01_or h
    clear h
    refine r_icmp_ge (q := 90) (t := 94) (dc dt_PA_search 48 rfl) rfl (by decide) g14 (⟨by decide, by decide⟩ : rng 536870912) (fun q_ => ?_) (fun q_ => ?_)
    · have q18 := q_
      refine r_iconst (q := 95) (dc dt_PA_search 51 rfl) rfl rfl ?_
      exact (hJ 0 ((if_neg (by first | omega | grind)).symm))
    · have q18 := q_
      refine r_iconst (q := 91) (dc dt_PA_search 49 rfl) rfl rfl ?_
      refine r_goto (q := 95) (dc dt_PA_search 50 rfl) (by decide) ?_
      exact (hJ 1 ((if_pos (by first | omega | grind)).symm))
  · have h := h.2 q_
    refine r_aload_n (q := 55) (dc dt_PA_search 29 rfl) rfl rfl 0 rfl ?_
    refine r_getO (q := 58) (v := 82) fl_PA_34 (dc dt_PA_search 30 rfl) rfl ly6 rfl ?_
    refine r_iload_n (q := 59) (dc dt_PA_search 31 rfl) rfl rfl 2 rfl ?_
    refine r_iconst (q := 60) (dc dt_PA_search 32 rfl) rfl rfl ?_
    refine r_iadd (q := 61) (dc dt_PA_search 33 rfl) rfl ?_
    obtain ⟨o15, h⟩ := h
    refine r_iald (q := 62) (v := σ.1 82 ((v2 + 1).toNat)) (dc dt_PA_search 34 rfl) rfl ly82 o15 rfl (fun g16 => ?_)
    refine r_ldc (q := 64) (n := 536870912) (dc dt_PA_search 35 rfl) rfl (gt_at 1035 (by decide +kernel) rfl) ?_
    refine r_icmp_ge (q := 67) (t := 73) (dc dt_PA_search 36 rfl) rfl (by decide) g16 (⟨by decide, by decide⟩ : rng 536870912) (fun q_ => ?_) (fun q_ => ?_)
    · have h := h.1 q_
      refine r_iinc (q := 76) (k := 2) (dc dt_PA_search 41 rfl) rfl rfl (by decide) rfl ?_
      refine r_goto (q := 50) (dc dt_PA_search 42 rfl) (by decide) ?_
      exact r_loc [1, 2, 0] rfl h
    · have h := h.2 q_
      refine r_aload_n (q := 68) (dc dt_PA_search 37 rfl) rfl rfl 0 rfl ?_
      refine r_iload_n (q := 69) (dc dt_PA_search 38 rfl) rfl rfl 2 rfl ?_
      refine r_iload_n (q := 70) (dc dt_PA_search 39 rfl) rfl rfl 1 rfl ?_
      refine r_callVv (q := 73) mk_PA_offerLinesTo lm_PA_54 (RMO.of rfl) rfl (dc dt_PA_search 40 rfl) rfl ly6 [I v2, I v1] [] rfl rfl (Nat.le_of_ble_eq_true rfl) h (fun u17 h => ?_)
      refine r_iinc (q := 76) (k := 2) (dc dt_PA_search 41 rfl) rfl rfl (by decide) rfl ?_
      refine r_goto (q := 50) (dc dt_PA_search 42 rfl) (by decide) ?_
      exact r_loc [1, 2, 0] rfl h
def tb_PA_setLine : List (Nat × Instr × Nat) := [(0, .aload_n 0, 1), (1, .getfield 18, 3), (4, .iload_n 1, 1), (5, .iaload, 1), (6, .aload_n 0, 1), (7, .getfield 22, 3), (10, .iload_n 1, 1), (11, .iaload, 1), (12, .iadd, 1), (13, .iconst 1, 1), (14, .isub, 1), (15, .istore_n 3, 1), (16, .aload_n 0, 1), (17, .getfield 40, 3), (20, .getfield 66, 3), (23, .aload_n 0, 1), (24, .getfield 18, 3), (27, .iload_n 1, 1), (28, .iaload, 1), (29, .iaload, 1), (30, .istore 4, 2), (32, .aload_n 0, 1), (33, .getfield 40, 3), (36, .getfield 58, 3), (39, .iload_n 3, 1), (40, .iaload, 1), (41, .istore 5, 2), (43, .aload_n 0, 1), (44, .aload_n 0, 1), (45, .getfield 18, 3), (48, .iload_n 1, 1), (49, .iaload, 1), (50, .iload_n 3, 1), (51, .aload_n 0, 1), (52, .getfield 15, 3), (55, .invokevirtual 76, 3), (58, .ifCond .eq 14, 3), (61, .aload_n 2, 1), (62, .iload 4, 2), (64, .iload 5, 2), (66, .invokevirtual 101, 3), (69, .goto 41, 3), (72, .aload_n 0, 1), (73, .getfield 44, 3), (76, .iload 5, 2), (78, .aload_n 0, 1), (79, .getfield 15, 3), (82, .invokevirtual 61, 3), (85, .aload_n 0, 1), (86, .getfield 44, 3), (89, .iload 4, 2), (91, .iload 5, 2), (93, .invokevirtual 69, 3), (96, .aload_n 0, 1), (97, .getfield 44, 3), (100, .iload 4, 2), (102, .aload_n 0, 1), (103, .getfield 15, 3), (106, .aload_n 2, 1), (107, .invokevirtual 104, 3), (110, .return_, 1)]
theorem dt_PA_setLine : DT (cM m_PA_setLine) tb_PA_setLine := by unfold DT; decide +kernel
abbrev a_PA_setLine_0 (G : GT) (q2 : Nat) (v1 : Int) (σ : St) (P : Int → St → Prop) : Prop := A G m_PA_setLine 0 [(0, O 6), (1, I v1), (2, O q2)] [] σ P
set_option maxRecDepth 20000 in
theorem k_PA_setLine_0 {G : GT} {σ : St} {P : Int → St → Prop} {q2 : Nat} {v1 : Int} (hq2 : isL q2) 
    (h : (0 ≤ v1 ∧ v1 < 80) ∧ (0 ≤ σ.1 77 v1.toNat ∧ σ.1 77 v1.toNat < 80) ∧ (0 ≤ ((σ.1 77 v1.toNat) + (σ.1 78 v1.toNat)) - 1 ∧ ((σ.1 77 v1.toNat) + (σ.1 78 v1.toNat)) - 1 < 80) ∧ CJ G m_PA_isPlain [O 6, I (σ.1 77 v1.toNat), I (((σ.1 77 v1.toNat) + (σ.1 78 v1.toNat)) - 1), I (σ.2.1 6 3)] σ (fun r12 u11 => (r12 = 0 → CJ G m_FI_beginBehind [O 5, I (σ.1 67 ((((σ.1 77 v1.toNat) + (σ.1 78 v1.toNat)) - 1).toNat)), I (u11.2.1 6 3)] u11 (fun _ u16 => CJ G m_FI_goBack [O 5, I (σ.1 66 ((σ.1 77 v1.toNat).toNat)), I (σ.1 67 ((((σ.1 77 v1.toNat) + (σ.1 78 v1.toNat)) - 1).toNat))] u16 (fun _ u17 => CJ G m_FI_trace [O 5, I (σ.1 66 ((σ.1 77 v1.toNat).toNat)), I (u17.2.1 6 3), O q2] u17 (fun _ u19 => P 0 u19)))) ∧ (r12 ≠ 0 → CJ G m_LN_setPlain [O q2, I (σ.1 66 ((σ.1 77 v1.toNat).toNat)), I (σ.1 67 ((((σ.1 77 v1.toNat) + (σ.1 78 v1.toNat)) - 1).toNat))] u11 (fun _ u20 => P 0 u20)))) :
    a_PA_setLine_0 G q2 v1 σ P := by
  rcases hq2 with rfl | rfl
  ·
    refine r_aload_n (q := 1) (dc dt_PA_setLine 0 rfl) rfl rfl 0 rfl ?_
    refine r_getO (q := 4) (v := 77) fl_PA_18 (dc dt_PA_setLine 1 rfl) rfl ly6 rfl ?_
    refine r_iload_n (q := 5) (dc dt_PA_setLine 2 rfl) rfl rfl 1 rfl ?_
    obtain ⟨o1, h⟩ := h
    refine r_iald (q := 6) (v := σ.1 77 v1.toNat) (dc dt_PA_setLine 3 rfl) rfl ly77 o1 rfl (fun g2 => ?_)
    refine r_aload_n (q := 7) (dc dt_PA_setLine 4 rfl) rfl rfl 0 rfl ?_
    refine r_getO (q := 10) (v := 78) fl_PA_22 (dc dt_PA_setLine 5 rfl) rfl ly6 rfl ?_
    refine r_iload_n (q := 11) (dc dt_PA_setLine 6 rfl) rfl rfl 1 rfl ?_
    refine r_iald (q := 12) (v := σ.1 78 v1.toNat) (dc dt_PA_setLine 7 rfl) rfl ly78 o1 rfl (fun g3 => ?_)
    refine r_iadd (q := 13) (dc dt_PA_setLine 8 rfl) rfl ?_
    refine r_iconst (q := 14) (dc dt_PA_setLine 9 rfl) rfl rfl ?_
    refine r_isub (q := 15) (dc dt_PA_setLine 10 rfl) rfl ?_
    refine r_istore_n (q := 16) (dc dt_PA_setLine 11 rfl) rfl rfl (by decide) rfl ?_
    refine r_aload_n (q := 17) (dc dt_PA_setLine 12 rfl) rfl rfl 1 rfl ?_
    refine r_getO (q := 20) (v := 4) fl_PA_40 (dc dt_PA_setLine 13 rfl) rfl ly6 rfl ?_
    refine r_getO (q := 23) (v := 66) fl_PA_66 (dc dt_PA_setLine 14 rfl) rfl ly4 rfl ?_
    refine r_aload_n (q := 24) (dc dt_PA_setLine 15 rfl) rfl rfl 1 rfl ?_
    refine r_getO (q := 27) (v := 77) fl_PA_18 (dc dt_PA_setLine 16 rfl) rfl ly6 rfl ?_
    refine r_iload_n (q := 28) (dc dt_PA_setLine 17 rfl) rfl rfl 2 rfl ?_
    refine r_iald (q := 29) (v := σ.1 77 v1.toNat) (dc dt_PA_setLine 18 rfl) rfl ly77 o1 rfl (fun g4 => ?_)
    obtain ⟨o5, h⟩ := h
    refine r_iald (q := 30) (v := σ.1 66 ((σ.1 77 v1.toNat).toNat)) (dc dt_PA_setLine 19 rfl) rfl ly66 o5 rfl (fun g6 => ?_)
    refine r_istore (q := 32) (dc dt_PA_setLine 20 rfl) rfl (by decide) rfl ?_
    refine r_aload_n (q := 33) (dc dt_PA_setLine 21 rfl) rfl rfl 2 rfl ?_
    refine r_getO (q := 36) (v := 4) fl_PA_40 (dc dt_PA_setLine 22 rfl) rfl ly6 rfl ?_
    refine r_getO (q := 39) (v := 67) fl_PA_58 (dc dt_PA_setLine 23 rfl) rfl ly4 rfl ?_
    refine r_iload_n (q := 40) (dc dt_PA_setLine 24 rfl) rfl rfl 1 rfl ?_
    obtain ⟨o7, h⟩ := h
    refine r_iald (q := 41) (v := σ.1 67 ((((σ.1 77 v1.toNat) + (σ.1 78 v1.toNat)) - 1).toNat)) (dc dt_PA_setLine 25 rfl) rfl ly67 o7 rfl (fun g8 => ?_)
    refine r_istore (q := 43) (dc dt_PA_setLine 26 rfl) rfl (by decide) rfl ?_
    refine r_aload_n (q := 44) (dc dt_PA_setLine 27 rfl) rfl rfl 3 rfl ?_
    refine r_aload_n (q := 45) (dc dt_PA_setLine 28 rfl) rfl rfl 3 rfl ?_
    refine r_getO (q := 48) (v := 77) fl_PA_18 (dc dt_PA_setLine 29 rfl) rfl ly6 rfl ?_
    refine r_iload_n (q := 49) (dc dt_PA_setLine 30 rfl) rfl rfl 4 rfl ?_
    refine r_iald (q := 50) (v := σ.1 77 v1.toNat) (dc dt_PA_setLine 31 rfl) rfl ly77 o1 rfl (fun g9 => ?_)
    refine r_iload_n (q := 51) (dc dt_PA_setLine 32 rfl) rfl rfl 2 rfl ?_
    refine r_aload_n (q := 52) (dc dt_PA_setLine 33 rfl) rfl rfl 3 rfl ?_
    refine r_getI (q := 55) (v := σ.2.1 6 3) fl_PA_15 (dc dt_PA_setLine 34 rfl) rfl ly6 rfl rfl (fun g10 => ?_)
    refine r_callVi (q := 58) mk_PA_isPlain lm_PA_76 (RMO.of rfl) rfl (dc dt_PA_setLine 35 rfl) rfl ly6 [I (σ.1 77 v1.toNat), I (((σ.1 77 v1.toNat) + (σ.1 78 v1.toNat)) - 1), I (σ.2.1 6 3)] [] rfl rfl (Nat.le_of_ble_eq_true rfl) h (fun r12 u11 g13 h => ?_)
    refine r_if_eq (q := 61) (t := 72) (dc dt_PA_setLine 36 rfl) rfl (by decide) g13 (fun q_ => ?_) (fun q_ => ?_)
    · have h := h.1 q_
      refine r_aload_n (q := 73) (dc dt_PA_setLine 42 rfl) rfl rfl 3 rfl ?_
      refine r_getO (q := 76) (v := 5) fl_PA_44 (dc dt_PA_setLine 43 rfl) rfl ly6 rfl ?_
      refine r_iload (q := 78) (dc dt_PA_setLine 44 rfl) rfl 0 rfl ?_
      refine r_aload_n (q := 79) (dc dt_PA_setLine 45 rfl) rfl rfl 3 rfl ?_
      refine r_getI (q := 82) (v := u11.2.1 6 3) fl_PA_15 (dc dt_PA_setLine 46 rfl) rfl ly6 rfl rfl (fun g15 => ?_)
      refine r_callVv (q := 85) mk_FI_beginBehind lm_PA_61 (RMO.of rfl) rfl (dc dt_PA_setLine 47 rfl) rfl ly5 [I (σ.1 67 ((((σ.1 77 v1.toNat) + (σ.1 78 v1.toNat)) - 1).toNat)), I (u11.2.1 6 3)] [] rfl rfl (Nat.le_of_ble_eq_true rfl) h (fun u16 h => ?_)
      refine r_aload_n (q := 86) (dc dt_PA_setLine 48 rfl) rfl rfl 3 rfl ?_
      refine r_getO (q := 89) (v := 5) fl_PA_44 (dc dt_PA_setLine 49 rfl) rfl ly6 rfl ?_
      refine r_iload (q := 91) (dc dt_PA_setLine 50 rfl) rfl 1 rfl ?_
      refine r_iload (q := 93) (dc dt_PA_setLine 51 rfl) rfl 0 rfl ?_
      refine r_callVv (q := 96) mk_FI_goBack lm_PA_69 (RMO.of rfl) rfl (dc dt_PA_setLine 52 rfl) rfl ly5 [I (σ.1 66 ((σ.1 77 v1.toNat).toNat)), I (σ.1 67 ((((σ.1 77 v1.toNat) + (σ.1 78 v1.toNat)) - 1).toNat))] [] rfl rfl (Nat.le_of_ble_eq_true rfl) h (fun u17 h => ?_)
      refine r_aload_n (q := 97) (dc dt_PA_setLine 53 rfl) rfl rfl 3 rfl ?_
      refine r_getO (q := 100) (v := 5) fl_PA_44 (dc dt_PA_setLine 54 rfl) rfl ly6 rfl ?_
      refine r_iload (q := 102) (dc dt_PA_setLine 55 rfl) rfl 1 rfl ?_
      refine r_aload_n (q := 103) (dc dt_PA_setLine 56 rfl) rfl rfl 3 rfl ?_
      refine r_getI (q := 106) (v := u17.2.1 6 3) fl_PA_15 (dc dt_PA_setLine 57 rfl) rfl ly6 rfl rfl (fun g18 => ?_)
      refine r_aload_n (q := 107) (dc dt_PA_setLine 58 rfl) rfl rfl 5 rfl ?_
      refine r_callVv (q := 110) mk_FI_trace lm_PA_104 (RMO.of rfl) rfl (dc dt_PA_setLine 59 rfl) rfl ly5 [I (σ.1 66 ((σ.1 77 v1.toNat).toNat)), I (u17.2.1 6 3), O 9] [] rfl rfl (Nat.le_of_ble_eq_true rfl) h (fun u19 h => ?_)
      exact r_vret rfl (dc dt_PA_setLine 60 rfl) h
    · have h := h.2 q_
      refine r_aload_n (q := 62) (dc dt_PA_setLine 37 rfl) rfl rfl 5 rfl ?_
      refine r_iload (q := 64) (dc dt_PA_setLine 38 rfl) rfl 1 rfl ?_
      refine r_iload (q := 66) (dc dt_PA_setLine 39 rfl) rfl 0 rfl ?_
      refine r_callVv (q := 69) mk_LN_setPlain lm_PA_101 (RMO.of rfl) rfl (dc dt_PA_setLine 40 rfl) rfl rfl [I (σ.1 66 ((σ.1 77 v1.toNat).toNat)), I (σ.1 67 ((((σ.1 77 v1.toNat) + (σ.1 78 v1.toNat)) - 1).toNat))] [] rfl rfl (Nat.le_of_ble_eq_true rfl) h (fun u20 h => ?_)
      refine r_goto (q := 110) (dc dt_PA_setLine 41 rfl) (by decide) ?_
      exact r_vret rfl (dc dt_PA_setLine 60 rfl) h
  ·
    refine r_aload_n (q := 1) (dc dt_PA_setLine 0 rfl) rfl rfl 0 rfl ?_
    refine r_getO (q := 4) (v := 77) fl_PA_18 (dc dt_PA_setLine 1 rfl) rfl ly6 rfl ?_
    refine r_iload_n (q := 5) (dc dt_PA_setLine 2 rfl) rfl rfl 1 rfl ?_
    obtain ⟨o1, h⟩ := h
    refine r_iald (q := 6) (v := σ.1 77 v1.toNat) (dc dt_PA_setLine 3 rfl) rfl ly77 o1 rfl (fun g2 => ?_)
    refine r_aload_n (q := 7) (dc dt_PA_setLine 4 rfl) rfl rfl 0 rfl ?_
    refine r_getO (q := 10) (v := 78) fl_PA_22 (dc dt_PA_setLine 5 rfl) rfl ly6 rfl ?_
    refine r_iload_n (q := 11) (dc dt_PA_setLine 6 rfl) rfl rfl 1 rfl ?_
    refine r_iald (q := 12) (v := σ.1 78 v1.toNat) (dc dt_PA_setLine 7 rfl) rfl ly78 o1 rfl (fun g3 => ?_)
    refine r_iadd (q := 13) (dc dt_PA_setLine 8 rfl) rfl ?_
    refine r_iconst (q := 14) (dc dt_PA_setLine 9 rfl) rfl rfl ?_
    refine r_isub (q := 15) (dc dt_PA_setLine 10 rfl) rfl ?_
    refine r_istore_n (q := 16) (dc dt_PA_setLine 11 rfl) rfl rfl (by decide) rfl ?_
    refine r_aload_n (q := 17) (dc dt_PA_setLine 12 rfl) rfl rfl 1 rfl ?_
    refine r_getO (q := 20) (v := 4) fl_PA_40 (dc dt_PA_setLine 13 rfl) rfl ly6 rfl ?_
    refine r_getO (q := 23) (v := 66) fl_PA_66 (dc dt_PA_setLine 14 rfl) rfl ly4 rfl ?_
    refine r_aload_n (q := 24) (dc dt_PA_setLine 15 rfl) rfl rfl 1 rfl ?_
    refine r_getO (q := 27) (v := 77) fl_PA_18 (dc dt_PA_setLine 16 rfl) rfl ly6 rfl ?_
    refine r_iload_n (q := 28) (dc dt_PA_setLine 17 rfl) rfl rfl 2 rfl ?_
    refine r_iald (q := 29) (v := σ.1 77 v1.toNat) (dc dt_PA_setLine 18 rfl) rfl ly77 o1 rfl (fun g4 => ?_)
    obtain ⟨o5, h⟩ := h
    refine r_iald (q := 30) (v := σ.1 66 ((σ.1 77 v1.toNat).toNat)) (dc dt_PA_setLine 19 rfl) rfl ly66 o5 rfl (fun g6 => ?_)
    refine r_istore (q := 32) (dc dt_PA_setLine 20 rfl) rfl (by decide) rfl ?_
    refine r_aload_n (q := 33) (dc dt_PA_setLine 21 rfl) rfl rfl 2 rfl ?_
    refine r_getO (q := 36) (v := 4) fl_PA_40 (dc dt_PA_setLine 22 rfl) rfl ly6 rfl ?_
    refine r_getO (q := 39) (v := 67) fl_PA_58 (dc dt_PA_setLine 23 rfl) rfl ly4 rfl ?_
    refine r_iload_n (q := 40) (dc dt_PA_setLine 24 rfl) rfl rfl 1 rfl ?_
    obtain ⟨o7, h⟩ := h
    refine r_iald (q := 41) (v := σ.1 67 ((((σ.1 77 v1.toNat) + (σ.1 78 v1.toNat)) - 1).toNat)) (dc dt_PA_setLine 25 rfl) rfl ly67 o7 rfl (fun g8 => ?_)
    refine r_istore (q := 43) (dc dt_PA_setLine 26 rfl) rfl (by decide) rfl ?_
    refine r_aload_n (q := 44) (dc dt_PA_setLine 27 rfl) rfl rfl 3 rfl ?_
    refine r_aload_n (q := 45) (dc dt_PA_setLine 28 rfl) rfl rfl 3 rfl ?_
    refine r_getO (q := 48) (v := 77) fl_PA_18 (dc dt_PA_setLine 29 rfl) rfl ly6 rfl ?_
    refine r_iload_n (q := 49) (dc dt_PA_setLine 30 rfl) rfl rfl 4 rfl ?_
    refine r_iald (q := 50) (v := σ.1 77 v1.toNat) (dc dt_PA_setLine 31 rfl) rfl ly77 o1 rfl (fun g9 => ?_)
    refine r_iload_n (q := 51) (dc dt_PA_setLine 32 rfl) rfl rfl 2 rfl ?_
    refine r_aload_n (q := 52) (dc dt_PA_setLine 33 rfl) rfl rfl 3 rfl ?_
    refine r_getI (q := 55) (v := σ.2.1 6 3) fl_PA_15 (dc dt_PA_setLine 34 rfl) rfl ly6 rfl rfl (fun g10 => ?_)
    refine r_callVi (q := 58) mk_PA_isPlain lm_PA_76 (RMO.of rfl) rfl (dc dt_PA_setLine 35 rfl) rfl ly6 [I (σ.1 77 v1.toNat), I (((σ.1 77 v1.toNat) + (σ.1 78 v1.toNat)) - 1), I (σ.2.1 6 3)] [] rfl rfl (Nat.le_of_ble_eq_true rfl) h (fun r12 u11 g13 h => ?_)
    refine r_if_eq (q := 61) (t := 72) (dc dt_PA_setLine 36 rfl) rfl (by decide) g13 (fun q_ => ?_) (fun q_ => ?_)
    · have h := h.1 q_
      refine r_aload_n (q := 73) (dc dt_PA_setLine 42 rfl) rfl rfl 3 rfl ?_
      refine r_getO (q := 76) (v := 5) fl_PA_44 (dc dt_PA_setLine 43 rfl) rfl ly6 rfl ?_
      refine r_iload (q := 78) (dc dt_PA_setLine 44 rfl) rfl 0 rfl ?_
      refine r_aload_n (q := 79) (dc dt_PA_setLine 45 rfl) rfl rfl 3 rfl ?_
      refine r_getI (q := 82) (v := u11.2.1 6 3) fl_PA_15 (dc dt_PA_setLine 46 rfl) rfl ly6 rfl rfl (fun g15 => ?_)
      refine r_callVv (q := 85) mk_FI_beginBehind lm_PA_61 (RMO.of rfl) rfl (dc dt_PA_setLine 47 rfl) rfl ly5 [I (σ.1 67 ((((σ.1 77 v1.toNat) + (σ.1 78 v1.toNat)) - 1).toNat)), I (u11.2.1 6 3)] [] rfl rfl (Nat.le_of_ble_eq_true rfl) h (fun u16 h => ?_)
      refine r_aload_n (q := 86) (dc dt_PA_setLine 48 rfl) rfl rfl 3 rfl ?_
      refine r_getO (q := 89) (v := 5) fl_PA_44 (dc dt_PA_setLine 49 rfl) rfl ly6 rfl ?_
      refine r_iload (q := 91) (dc dt_PA_setLine 50 rfl) rfl 1 rfl ?_
      refine r_iload (q := 93) (dc dt_PA_setLine 51 rfl) rfl 0 rfl ?_
      refine r_callVv (q := 96) mk_FI_goBack lm_PA_69 (RMO.of rfl) rfl (dc dt_PA_setLine 52 rfl) rfl ly5 [I (σ.1 66 ((σ.1 77 v1.toNat).toNat)), I (σ.1 67 ((((σ.1 77 v1.toNat) + (σ.1 78 v1.toNat)) - 1).toNat))] [] rfl rfl (Nat.le_of_ble_eq_true rfl) h (fun u17 h => ?_)
      refine r_aload_n (q := 97) (dc dt_PA_setLine 53 rfl) rfl rfl 3 rfl ?_
      refine r_getO (q := 100) (v := 5) fl_PA_44 (dc dt_PA_setLine 54 rfl) rfl ly6 rfl ?_
      refine r_iload (q := 102) (dc dt_PA_setLine 55 rfl) rfl 1 rfl ?_
      refine r_aload_n (q := 103) (dc dt_PA_setLine 56 rfl) rfl rfl 3 rfl ?_
      refine r_getI (q := 106) (v := u17.2.1 6 3) fl_PA_15 (dc dt_PA_setLine 57 rfl) rfl ly6 rfl rfl (fun g18 => ?_)
      refine r_aload_n (q := 107) (dc dt_PA_setLine 58 rfl) rfl rfl 5 rfl ?_
      refine r_callVv (q := 110) mk_FI_trace lm_PA_104 (RMO.of rfl) rfl (dc dt_PA_setLine 59 rfl) rfl ly5 [I (σ.1 66 ((σ.1 77 v1.toNat).toNat)), I (u17.2.1 6 3), O 28] [] rfl rfl (Nat.le_of_ble_eq_true rfl) h (fun u19 h => ?_)
      exact r_vret rfl (dc dt_PA_setLine 60 rfl) h
    · have h := h.2 q_
      refine r_aload_n (q := 62) (dc dt_PA_setLine 37 rfl) rfl rfl 5 rfl ?_
      refine r_iload (q := 64) (dc dt_PA_setLine 38 rfl) rfl 1 rfl ?_
      refine r_iload (q := 66) (dc dt_PA_setLine 39 rfl) rfl 0 rfl ?_
      refine r_callVv (q := 69) mk_LN_setPlain lm_PA_101 (RMO.of rfl) rfl (dc dt_PA_setLine 40 rfl) rfl rfl [I (σ.1 66 ((σ.1 77 v1.toNat).toNat)), I (σ.1 67 ((((σ.1 77 v1.toNat) + (σ.1 78 v1.toNat)) - 1).toNat))] [] rfl rfl (Nat.le_of_ble_eq_true rfl) h (fun u20 h => ?_)
      refine r_goto (q := 110) (dc dt_PA_setLine 41 rfl) (by decide) ?_
      exact r_vret rfl (dc dt_PA_setLine 60 rfl) h
def tb_PA_keep : List (Nat × Instr × Nat) := [(0, .aload_n 0, 1), (1, .iload_n 1, 1), (2, .putfield 15, 3), (5, .aload_n 0, 1), (6, .iconst 0, 1), (7, .putfield 9, 3), (10, .iconst 0, 1), (11, .istore_n 3, 1), (12, .iconst 0, 1), (13, .istore 4, 2), (15, .iload 4, 2), (17, .bipush 80, 2), (19, .if_icmp .ge 128, 3), (22, .iload_n 3, 1), (23, .aload_n 0, 1), (24, .getfield 40, 3), (27, .getfield 48, 3), (30, .if_icmp .ge 117, 3), (33, .aload_n 0, 1), (34, .getfield 37, 3), (37, .iload_n 3, 1), (38, .iaload, 1), (39, .iconst 1, 1), (40, .iadd, 1), (41, .istore 5, 2), (43, .aload_n 0, 1), (44, .getfield 18, 3), (47, .aload_n 0, 1), (48, .getfield 9, 3), (51, .iload_n 3, 1), (52, .iastore, 1), (53, .aload_n 0, 1), (54, .getfield 22, 3), (57, .aload_n 0, 1), (58, .getfield 9, 3), (61, .iload 5, 2), (63, .iload_n 3, 1), (64, .isub, 1), (65, .iastore, 1), (66, .aload_n 0, 1), (67, .getfield 25, 3), (70, .aload_n 0, 1), (71, .getfield 9, 3), (74, .aload_n 0, 1), (75, .getfield 34, 3), (78, .iload_n 3, 1), (79, .iaload, 1), (80, .aload_n 0, 1), (81, .getfield 34, 3), (84, .iload 5, 2), (86, .iaload, 1), (87, .isub, 1), (88, .iastore, 1), (89, .aload_n 0, 1), (90, .aload_n 0, 1), (91, .getfield 9, 3), (94, .aload_n 2, 1), (95, .invokevirtual 87, 3), (98, .aload_n 2, 1), (99, .invokevirtual 91, 3), (102, .aload_n 0, 1), (103, .getfield 28, 3), (106, .aload_n 0, 1), (107, .getfield 9, 3), (110, .aload_n 2, 1), (111, .invokevirtual 96, 3), (114, .iastore, 1), (115, .aload_n 0, 1), (116, .getfield 31, 3), (119, .aload_n 0, 1), (120, .getfield 9, 3), (123, .aload_n 2, 1), (124, .invokevirtual 99, 3), (127, .iastore, 1), (128, .aload_n 0, 1), (129, .dup, 1), (130, .getfield 9, 3), (133, .iconst 1, 1), (134, .iadd, 1), (135, .putfield 9, 3), (138, .iload 5, 2), (140, .istore_n 3, 1), (141, .iinc 4 1, 3), (144, .goto (-129), 3), (147, .return_, 1)]
theorem dt_PA_keep : DT (cM m_PA_keep) tb_PA_keep := by unfold DT; decide +kernel
abbrev a_PA_keep_0 (G : GT) (q2 : Nat) (v1 : Int) (σ : St) (P : Int → St → Prop) : Prop := A G m_PA_keep 0 [(0, O 6), (1, I v1), (2, O q2)] [] σ P
abbrev a_PA_keep_15 (G : GT) (q2 : Nat) (v3 : Int) (v4 : Int) (σ : St) (P : Int → St → Prop) : Prop := A G m_PA_keep 15 [(0, O 6), (2, O q2), (3, I v3), (4, I v4)] [] σ P
set_option maxRecDepth 20000 in
theorem k_PA_keep_0 {G : GT} {σ : St} {P : Int → St → Prop} {q2 : Nat} {v1 : Int} (hq2 : isL q2) 
    (h : rng v1 ∧ (∀ σ1, σ1 = sf σ 6 3 v1 → (∀ σ4, σ4 = sf σ1 6 2 0 → a_PA_keep_15 G q2 0 0 σ4 P))) :
    a_PA_keep_0 G q2 v1 σ P := by
  rcases hq2 with rfl | rfl
  ·
    refine r_aload_n (q := 1) (dc dt_PA_keep 0 rfl) rfl rfl 0 rfl ?_
    refine r_iload_n (q := 2) (dc dt_PA_keep 1 rfl) rfl rfl 1 rfl ?_
    obtain ⟨o3, h⟩ := h
    refine r_put (q := 5) fl_PA_15 (dc dt_PA_keep 2 rfl) rfl ly6 (fun _ => rfl) (Or.inl rfl) pf_6_3 o3 (fun σ1 e2 => ?_)
    have h := h σ1 e2
    refine r_aload_n (q := 6) (dc dt_PA_keep 3 rfl) rfl rfl 0 rfl ?_
    refine r_iconst (q := 7) (dc dt_PA_keep 4 rfl) rfl rfl ?_
    refine r_put (q := 10) fl_PA_9 (dc dt_PA_keep 5 rfl) rfl ly6 (fun _ => rfl) (Or.inl rfl) pf_6_2 (⟨by decide, by decide⟩ : rng 0) (fun σ4 e5 => ?_)
    have h := h σ4 e5
    refine r_iconst (q := 11) (dc dt_PA_keep 6 rfl) rfl rfl ?_
    refine r_istore_n (q := 12) (dc dt_PA_keep 7 rfl) rfl rfl (by decide) rfl ?_
    refine r_iconst (q := 13) (dc dt_PA_keep 8 rfl) rfl rfl ?_
    refine r_istore (q := 15) (dc dt_PA_keep 9 rfl) rfl (by decide) rfl ?_
    exact r_loc [2, 4, 1, 0] rfl h
  ·
    refine r_aload_n (q := 1) (dc dt_PA_keep 0 rfl) rfl rfl 0 rfl ?_
    refine r_iload_n (q := 2) (dc dt_PA_keep 1 rfl) rfl rfl 1 rfl ?_
    obtain ⟨o3, h⟩ := h
    refine r_put (q := 5) fl_PA_15 (dc dt_PA_keep 2 rfl) rfl ly6 (fun _ => rfl) (Or.inl rfl) pf_6_3 o3 (fun σ1 e2 => ?_)
    have h := h σ1 e2
    refine r_aload_n (q := 6) (dc dt_PA_keep 3 rfl) rfl rfl 0 rfl ?_
    refine r_iconst (q := 7) (dc dt_PA_keep 4 rfl) rfl rfl ?_
    refine r_put (q := 10) fl_PA_9 (dc dt_PA_keep 5 rfl) rfl ly6 (fun _ => rfl) (Or.inl rfl) pf_6_2 (⟨by decide, by decide⟩ : rng 0) (fun σ4 e5 => ?_)
    have h := h σ4 e5
    refine r_iconst (q := 11) (dc dt_PA_keep 6 rfl) rfl rfl ?_
    refine r_istore_n (q := 12) (dc dt_PA_keep 7 rfl) rfl rfl (by decide) rfl ?_
    refine r_iconst (q := 13) (dc dt_PA_keep 8 rfl) rfl rfl ?_
    refine r_istore (q := 15) (dc dt_PA_keep 9 rfl) rfl (by decide) rfl ?_
    exact r_loc [2, 4, 1, 0] rfl h
set_option maxRecDepth 20000 in
theorem k_PA_keep_15 {G : GT} {σ : St} {P : Int → St → Prop} {q2 : Nat} {v3 : Int} {v4 : Int} (hq2 : isL q2) 
    (h : rng v4 ∧ (80 ≤ v4 → P 0 σ) ∧ (v4 < 80 → rng v3 ∧ (σ.2.1 4 3 ≤ v3 → P 0 σ) ∧ (v3 < σ.2.1 4 3 → (0 ≤ v3 ∧ v3 < 80) ∧ (0 ≤ σ.2.1 6 2 ∧ σ.2.1 6 2 < 80) ∧ (∀ σ21, σ21 = sa σ 77 ((σ.2.1 6 2).toNat) v3 → rng (((σ.1 83 v3.toNat) + 1) - v3) ∧ (∀ σ25, σ25 = sa σ21 78 ((σ.2.1 6 2).toNat) (((σ.1 83 v3.toNat) + 1) - v3) → (0 ≤ v3 ∧ v3 < 81) ∧ (0 ≤ (σ.1 83 v3.toNat) + 1 ∧ (σ.1 83 v3.toNat) + 1 < 81) ∧ rng ((σ.1 82 v3.toNat) - (σ.1 82 (((σ.1 83 v3.toNat) + 1).toNat))) ∧ (∀ σ33, σ33 = sa σ25 79 ((σ.2.1 6 2).toNat) ((σ.1 82 v3.toNat) - (σ.1 82 (((σ.1 83 v3.toNat) + 1).toNat))) → CJ G m_PA_setLine [O 6, I (σ.2.1 6 2), O q2] σ33 (fun _ u36 => CJ G m_LN_putMarks [O q2] u36 (fun _ u37 => CJ G m_LN_height [O q2] u37 (fun r40 u39 => (0 ≤ u37.2.1 6 2 ∧ u37.2.1 6 2 < 80) ∧ (∀ σ43, σ43 = sa u39 80 ((u37.2.1 6 2).toNat) r40 → CJ G m_LN_depth [O q2] σ43 (fun r47 u46 => (0 ≤ u39.2.1 6 2 ∧ u39.2.1 6 2 < 80) ∧ (∀ σ50, σ50 = sa u46 81 ((u39.2.1 6 2).toNat) r47 → rng ((u46.2.1 6 2) + 1) ∧ (∀ σ53, σ53 = sf σ50 6 2 ((u46.2.1 6 2) + 1) → a_PA_keep_15 G q2 ((σ.1 83 v3.toNat) + 1) (v4 + 1) σ53 P))))))))))))) :
    a_PA_keep_15 G q2 v3 v4 σ P := by
  rcases hq2 with rfl | rfl
  ·
    refine r_iload (q := 17) (dc dt_PA_keep 10 rfl) rfl 3 rfl ?_
    refine r_bipush (q := 19) (dc dt_PA_keep 11 rfl) rfl (by decide) ?_
    obtain ⟨o6, h⟩ := h
    refine r_icmp_ge (q := 22) (t := 147) (dc dt_PA_keep 12 rfl) rfl (by decide) o6 (⟨by decide, by decide⟩ : rng 80) (fun q_ => ?_) (fun q_ => ?_)
    · have h := h.1 q_
      exact r_vret rfl (dc dt_PA_keep 84 rfl) h
    · have h := h.2 q_
      refine r_iload_n (q := 23) (dc dt_PA_keep 13 rfl) rfl rfl 2 rfl ?_
      refine r_aload_n (q := 24) (dc dt_PA_keep 14 rfl) rfl rfl 0 rfl ?_
      refine r_getO (q := 27) (v := 4) fl_PA_40 (dc dt_PA_keep 15 rfl) rfl ly6 rfl ?_
      refine r_getI (q := 30) (v := σ.2.1 4 3) fl_PA_48 (dc dt_PA_keep 16 rfl) rfl ly4 rfl rfl (fun g12 => ?_)
      obtain ⟨o13, h⟩ := h
      refine r_icmp_ge (q := 33) (t := 147) (dc dt_PA_keep 17 rfl) rfl (by decide) o13 g12 (fun q_ => ?_) (fun q_ => ?_)
      · have h := h.1 q_
        exact r_vret rfl (dc dt_PA_keep 84 rfl) h
      · have h := h.2 q_
        refine r_aload_n (q := 34) (dc dt_PA_keep 18 rfl) rfl rfl 0 rfl ?_
        refine r_getO (q := 37) (v := 83) fl_PA_37 (dc dt_PA_keep 19 rfl) rfl ly6 rfl ?_
        refine r_iload_n (q := 38) (dc dt_PA_keep 20 rfl) rfl rfl 2 rfl ?_
        obtain ⟨o17, h⟩ := h
        refine r_iald (q := 39) (v := σ.1 83 v3.toNat) (dc dt_PA_keep 21 rfl) rfl ly83 o17 rfl (fun g18 => ?_)
        refine r_iconst (q := 40) (dc dt_PA_keep 22 rfl) rfl rfl ?_
        refine r_iadd (q := 41) (dc dt_PA_keep 23 rfl) rfl ?_
        refine r_istore (q := 43) (dc dt_PA_keep 24 rfl) rfl (by decide) rfl ?_
        refine r_aload_n (q := 44) (dc dt_PA_keep 25 rfl) rfl rfl 1 rfl ?_
        refine r_getO (q := 47) (v := 77) fl_PA_18 (dc dt_PA_keep 26 rfl) rfl ly6 rfl ?_
        refine r_aload_n (q := 48) (dc dt_PA_keep 27 rfl) rfl rfl 1 rfl ?_
        refine r_getI (q := 51) (v := σ.2.1 6 2) fl_PA_9 (dc dt_PA_keep 28 rfl) rfl ly6 rfl rfl (fun g19 => ?_)
        refine r_iload_n (q := 52) (dc dt_PA_keep 29 rfl) rfl rfl 3 rfl ?_
        obtain ⟨o20, h⟩ := h
        refine r_iast (q := 53) (dc dt_PA_keep 30 rfl) rfl ly77 o20 o13 (fun σ21 e22 => ?_)
        have h := h σ21 e22
        refine r_aload_n (q := 54) (dc dt_PA_keep 31 rfl) rfl rfl 1 rfl ?_
        refine r_getO (q := 57) (v := 78) fl_PA_22 (dc dt_PA_keep 32 rfl) rfl ly6 rfl ?_
        refine r_aload_n (q := 58) (dc dt_PA_keep 33 rfl) rfl rfl 1 rfl ?_
        refine r_getI (q := 61) (v := σ.2.1 6 2) fl_PA_9 (dc dt_PA_keep 34 rfl) rfl ly6 rfl (by rw [e22]; rfl) (fun g23 => ?_)
        refine r_iload (q := 63) (dc dt_PA_keep 35 rfl) rfl 0 rfl ?_
        refine r_iload_n (q := 64) (dc dt_PA_keep 36 rfl) rfl rfl 3 rfl ?_
        refine r_isub (q := 65) (dc dt_PA_keep 37 rfl) rfl ?_
        obtain ⟨o24, h⟩ := h
        refine r_iast (q := 66) (dc dt_PA_keep 38 rfl) rfl ly78 o20 o24 (fun σ25 e26 => ?_)
        have h := h σ25 e26
        refine r_aload_n (q := 67) (dc dt_PA_keep 39 rfl) rfl rfl 1 rfl ?_
        refine r_getO (q := 70) (v := 79) fl_PA_25 (dc dt_PA_keep 40 rfl) rfl ly6 rfl ?_
        refine r_aload_n (q := 71) (dc dt_PA_keep 41 rfl) rfl rfl 1 rfl ?_
        refine r_getI (q := 74) (v := σ.2.1 6 2) fl_PA_9 (dc dt_PA_keep 42 rfl) rfl ly6 rfl (by rw [e26, e22]; rfl) (fun g27 => ?_)
        refine r_aload_n (q := 75) (dc dt_PA_keep 43 rfl) rfl rfl 1 rfl ?_
        refine r_getO (q := 78) (v := 82) fl_PA_34 (dc dt_PA_keep 44 rfl) rfl ly6 rfl ?_
        refine r_iload_n (q := 79) (dc dt_PA_keep 45 rfl) rfl rfl 3 rfl ?_
        obtain ⟨o28, h⟩ := h
        refine r_iald (q := 80) (v := σ.1 82 v3.toNat) (dc dt_PA_keep 46 rfl) rfl ly82 o28 (by rw [e26, e22]; rfl) (fun g29 => ?_)
        refine r_aload_n (q := 81) (dc dt_PA_keep 47 rfl) rfl rfl 1 rfl ?_
        refine r_getO (q := 84) (v := 82) fl_PA_34 (dc dt_PA_keep 48 rfl) rfl ly6 rfl ?_
        refine r_iload (q := 86) (dc dt_PA_keep 49 rfl) rfl 0 rfl ?_
        obtain ⟨o30, h⟩ := h
        refine r_iald (q := 87) (v := σ.1 82 (((σ.1 83 v3.toNat) + 1).toNat)) (dc dt_PA_keep 50 rfl) rfl ly82 o30 (by rw [e26, e22]; rfl) (fun g31 => ?_)
        refine r_isub (q := 88) (dc dt_PA_keep 51 rfl) rfl ?_
        obtain ⟨o32, h⟩ := h
        refine r_iast (q := 89) (dc dt_PA_keep 52 rfl) rfl ly79 o20 o32 (fun σ33 e34 => ?_)
        have h := h σ33 e34
        refine r_aload_n (q := 90) (dc dt_PA_keep 53 rfl) rfl rfl 1 rfl ?_
        refine r_aload_n (q := 91) (dc dt_PA_keep 54 rfl) rfl rfl 1 rfl ?_
        refine r_getI (q := 94) (v := σ.2.1 6 2) fl_PA_9 (dc dt_PA_keep 55 rfl) rfl ly6 rfl (by rw [e34, e26, e22]; rfl) (fun g35 => ?_)
        refine r_aload_n (q := 95) (dc dt_PA_keep 56 rfl) rfl rfl 2 rfl ?_
        refine r_callVv (q := 98) mk_PA_setLine lm_PA_87 (RMO.of rfl) rfl (dc dt_PA_keep 57 rfl) rfl ly6 [I (σ.2.1 6 2), O 9] [] rfl rfl (Nat.le_of_ble_eq_true rfl) h (fun u36 h => ?_)
        refine r_aload_n (q := 99) (dc dt_PA_keep 58 rfl) rfl rfl 2 rfl ?_
        refine r_callVv (q := 102) mk_LN_putMarks lm_PA_91 (RMO.of rfl) rfl (dc dt_PA_keep 59 rfl) rfl rfl [] [] rfl rfl (Nat.le_of_ble_eq_true rfl) h (fun u37 h => ?_)
        refine r_aload_n (q := 103) (dc dt_PA_keep 60 rfl) rfl rfl 1 rfl ?_
        refine r_getO (q := 106) (v := 80) fl_PA_28 (dc dt_PA_keep 61 rfl) rfl ly6 rfl ?_
        refine r_aload_n (q := 107) (dc dt_PA_keep 62 rfl) rfl rfl 1 rfl ?_
        refine r_getI (q := 110) (v := u37.2.1 6 2) fl_PA_9 (dc dt_PA_keep 63 rfl) rfl ly6 rfl rfl (fun g38 => ?_)
        refine r_aload_n (q := 111) (dc dt_PA_keep 64 rfl) rfl rfl 2 rfl ?_
        refine r_callVi (q := 114) mk_LN_height lm_PA_96 (RMO.of rfl) rfl (dc dt_PA_keep 65 rfl) rfl rfl [] [I (u37.2.1 6 2), O 80] rfl rfl (Nat.le_of_ble_eq_true rfl) h (fun r40 u39 g41 h => ?_)
        obtain ⟨o42, h⟩ := h
        refine r_iast (q := 115) (dc dt_PA_keep 66 rfl) rfl ly80 o42 g41 (fun σ43 e44 => ?_)
        have h := h σ43 e44
        refine r_aload_n (q := 116) (dc dt_PA_keep 67 rfl) rfl rfl 1 rfl ?_
        refine r_getO (q := 119) (v := 81) fl_PA_31 (dc dt_PA_keep 68 rfl) rfl ly6 rfl ?_
        refine r_aload_n (q := 120) (dc dt_PA_keep 69 rfl) rfl rfl 1 rfl ?_
        refine r_getI (q := 123) (v := u39.2.1 6 2) fl_PA_9 (dc dt_PA_keep 70 rfl) rfl ly6 rfl (by rw [e44]; rfl) (fun g45 => ?_)
        refine r_aload_n (q := 124) (dc dt_PA_keep 71 rfl) rfl rfl 2 rfl ?_
        refine r_callVi (q := 127) mk_LN_depth lm_PA_99 (RMO.of rfl) rfl (dc dt_PA_keep 72 rfl) rfl rfl [] [I (u39.2.1 6 2), O 81] rfl rfl (Nat.le_of_ble_eq_true rfl) h (fun r47 u46 g48 h => ?_)
        obtain ⟨o49, h⟩ := h
        refine r_iast (q := 128) (dc dt_PA_keep 73 rfl) rfl ly81 o49 g48 (fun σ50 e51 => ?_)
        have h := h σ50 e51
        refine r_aload_n (q := 129) (dc dt_PA_keep 74 rfl) rfl rfl 1 rfl ?_
        refine r_dupo (q := 130) (dc dt_PA_keep 75 rfl) rfl ?_
        refine r_getI (q := 133) (v := u46.2.1 6 2) fl_PA_9 (dc dt_PA_keep 76 rfl) rfl ly6 rfl (by rw [e51]; rfl) (fun g52 => ?_)
        refine r_iconst (q := 134) (dc dt_PA_keep 77 rfl) rfl rfl ?_
        refine r_iadd (q := 135) (dc dt_PA_keep 78 rfl) rfl ?_
        obtain ⟨o55, h⟩ := h
        refine r_put (q := 138) fl_PA_9 (dc dt_PA_keep 79 rfl) rfl ly6 (fun _ => rfl) (Or.inl rfl) pf_6_2 o55 (fun σ53 e54 => ?_)
        have h := h σ53 e54
        refine r_iload (q := 140) (dc dt_PA_keep 80 rfl) rfl 0 rfl ?_
        refine r_istore_n (q := 141) (dc dt_PA_keep 81 rfl) rfl rfl (by decide) rfl ?_
        refine r_iinc (q := 144) (k := 4) (dc dt_PA_keep 82 rfl) rfl rfl (by decide) rfl ?_
        refine r_goto (q := 15) (dc dt_PA_keep 83 rfl) (by decide) ?_
        exact r_loc [3, 4, 1, 0] rfl h
  ·
    refine r_iload (q := 17) (dc dt_PA_keep 10 rfl) rfl 3 rfl ?_
    refine r_bipush (q := 19) (dc dt_PA_keep 11 rfl) rfl (by decide) ?_
    obtain ⟨o6, h⟩ := h
    refine r_icmp_ge (q := 22) (t := 147) (dc dt_PA_keep 12 rfl) rfl (by decide) o6 (⟨by decide, by decide⟩ : rng 80) (fun q_ => ?_) (fun q_ => ?_)
    · have h := h.1 q_
      exact r_vret rfl (dc dt_PA_keep 84 rfl) h
    · have h := h.2 q_
      refine r_iload_n (q := 23) (dc dt_PA_keep 13 rfl) rfl rfl 2 rfl ?_
      refine r_aload_n (q := 24) (dc dt_PA_keep 14 rfl) rfl rfl 0 rfl ?_
      refine r_getO (q := 27) (v := 4) fl_PA_40 (dc dt_PA_keep 15 rfl) rfl ly6 rfl ?_
      refine r_getI (q := 30) (v := σ.2.1 4 3) fl_PA_48 (dc dt_PA_keep 16 rfl) rfl ly4 rfl rfl (fun g12 => ?_)
      obtain ⟨o13, h⟩ := h
      refine r_icmp_ge (q := 33) (t := 147) (dc dt_PA_keep 17 rfl) rfl (by decide) o13 g12 (fun q_ => ?_) (fun q_ => ?_)
      · have h := h.1 q_
        exact r_vret rfl (dc dt_PA_keep 84 rfl) h
      · have h := h.2 q_
        refine r_aload_n (q := 34) (dc dt_PA_keep 18 rfl) rfl rfl 0 rfl ?_
        refine r_getO (q := 37) (v := 83) fl_PA_37 (dc dt_PA_keep 19 rfl) rfl ly6 rfl ?_
        refine r_iload_n (q := 38) (dc dt_PA_keep 20 rfl) rfl rfl 2 rfl ?_
        obtain ⟨o17, h⟩ := h
        refine r_iald (q := 39) (v := σ.1 83 v3.toNat) (dc dt_PA_keep 21 rfl) rfl ly83 o17 rfl (fun g18 => ?_)
        refine r_iconst (q := 40) (dc dt_PA_keep 22 rfl) rfl rfl ?_
        refine r_iadd (q := 41) (dc dt_PA_keep 23 rfl) rfl ?_
        refine r_istore (q := 43) (dc dt_PA_keep 24 rfl) rfl (by decide) rfl ?_
        refine r_aload_n (q := 44) (dc dt_PA_keep 25 rfl) rfl rfl 1 rfl ?_
        refine r_getO (q := 47) (v := 77) fl_PA_18 (dc dt_PA_keep 26 rfl) rfl ly6 rfl ?_
        refine r_aload_n (q := 48) (dc dt_PA_keep 27 rfl) rfl rfl 1 rfl ?_
        refine r_getI (q := 51) (v := σ.2.1 6 2) fl_PA_9 (dc dt_PA_keep 28 rfl) rfl ly6 rfl rfl (fun g19 => ?_)
        refine r_iload_n (q := 52) (dc dt_PA_keep 29 rfl) rfl rfl 3 rfl ?_
        obtain ⟨o20, h⟩ := h
        refine r_iast (q := 53) (dc dt_PA_keep 30 rfl) rfl ly77 o20 o13 (fun σ21 e22 => ?_)
        have h := h σ21 e22
        refine r_aload_n (q := 54) (dc dt_PA_keep 31 rfl) rfl rfl 1 rfl ?_
        refine r_getO (q := 57) (v := 78) fl_PA_22 (dc dt_PA_keep 32 rfl) rfl ly6 rfl ?_
        refine r_aload_n (q := 58) (dc dt_PA_keep 33 rfl) rfl rfl 1 rfl ?_
        refine r_getI (q := 61) (v := σ.2.1 6 2) fl_PA_9 (dc dt_PA_keep 34 rfl) rfl ly6 rfl (by rw [e22]; rfl) (fun g23 => ?_)
        refine r_iload (q := 63) (dc dt_PA_keep 35 rfl) rfl 0 rfl ?_
        refine r_iload_n (q := 64) (dc dt_PA_keep 36 rfl) rfl rfl 3 rfl ?_
        refine r_isub (q := 65) (dc dt_PA_keep 37 rfl) rfl ?_
        obtain ⟨o24, h⟩ := h
        refine r_iast (q := 66) (dc dt_PA_keep 38 rfl) rfl ly78 o20 o24 (fun σ25 e26 => ?_)
        have h := h σ25 e26
        refine r_aload_n (q := 67) (dc dt_PA_keep 39 rfl) rfl rfl 1 rfl ?_
        refine r_getO (q := 70) (v := 79) fl_PA_25 (dc dt_PA_keep 40 rfl) rfl ly6 rfl ?_
        refine r_aload_n (q := 71) (dc dt_PA_keep 41 rfl) rfl rfl 1 rfl ?_
        refine r_getI (q := 74) (v := σ.2.1 6 2) fl_PA_9 (dc dt_PA_keep 42 rfl) rfl ly6 rfl (by rw [e26, e22]; rfl) (fun g27 => ?_)
        refine r_aload_n (q := 75) (dc dt_PA_keep 43 rfl) rfl rfl 1 rfl ?_
        refine r_getO (q := 78) (v := 82) fl_PA_34 (dc dt_PA_keep 44 rfl) rfl ly6 rfl ?_
        refine r_iload_n (q := 79) (dc dt_PA_keep 45 rfl) rfl rfl 3 rfl ?_
        obtain ⟨o28, h⟩ := h
        refine r_iald (q := 80) (v := σ.1 82 v3.toNat) (dc dt_PA_keep 46 rfl) rfl ly82 o28 (by rw [e26, e22]; rfl) (fun g29 => ?_)
        refine r_aload_n (q := 81) (dc dt_PA_keep 47 rfl) rfl rfl 1 rfl ?_
        refine r_getO (q := 84) (v := 82) fl_PA_34 (dc dt_PA_keep 48 rfl) rfl ly6 rfl ?_
        refine r_iload (q := 86) (dc dt_PA_keep 49 rfl) rfl 0 rfl ?_
        obtain ⟨o30, h⟩ := h
        refine r_iald (q := 87) (v := σ.1 82 (((σ.1 83 v3.toNat) + 1).toNat)) (dc dt_PA_keep 50 rfl) rfl ly82 o30 (by rw [e26, e22]; rfl) (fun g31 => ?_)
        refine r_isub (q := 88) (dc dt_PA_keep 51 rfl) rfl ?_
        obtain ⟨o32, h⟩ := h
        refine r_iast (q := 89) (dc dt_PA_keep 52 rfl) rfl ly79 o20 o32 (fun σ33 e34 => ?_)
        have h := h σ33 e34
        refine r_aload_n (q := 90) (dc dt_PA_keep 53 rfl) rfl rfl 1 rfl ?_
        refine r_aload_n (q := 91) (dc dt_PA_keep 54 rfl) rfl rfl 1 rfl ?_
        refine r_getI (q := 94) (v := σ.2.1 6 2) fl_PA_9 (dc dt_PA_keep 55 rfl) rfl ly6 rfl (by rw [e34, e26, e22]; rfl) (fun g35 => ?_)
        refine r_aload_n (q := 95) (dc dt_PA_keep 56 rfl) rfl rfl 2 rfl ?_
        refine r_callVv (q := 98) mk_PA_setLine lm_PA_87 (RMO.of rfl) rfl (dc dt_PA_keep 57 rfl) rfl ly6 [I (σ.2.1 6 2), O 28] [] rfl rfl (Nat.le_of_ble_eq_true rfl) h (fun u36 h => ?_)
        refine r_aload_n (q := 99) (dc dt_PA_keep 58 rfl) rfl rfl 2 rfl ?_
        refine r_callVv (q := 102) mk_LN_putMarks lm_PA_91 (RMO.of rfl) rfl (dc dt_PA_keep 59 rfl) rfl rfl [] [] rfl rfl (Nat.le_of_ble_eq_true rfl) h (fun u37 h => ?_)
        refine r_aload_n (q := 103) (dc dt_PA_keep 60 rfl) rfl rfl 1 rfl ?_
        refine r_getO (q := 106) (v := 80) fl_PA_28 (dc dt_PA_keep 61 rfl) rfl ly6 rfl ?_
        refine r_aload_n (q := 107) (dc dt_PA_keep 62 rfl) rfl rfl 1 rfl ?_
        refine r_getI (q := 110) (v := u37.2.1 6 2) fl_PA_9 (dc dt_PA_keep 63 rfl) rfl ly6 rfl rfl (fun g38 => ?_)
        refine r_aload_n (q := 111) (dc dt_PA_keep 64 rfl) rfl rfl 2 rfl ?_
        refine r_callVi (q := 114) mk_LN_height lm_PA_96 (RMO.of rfl) rfl (dc dt_PA_keep 65 rfl) rfl rfl [] [I (u37.2.1 6 2), O 80] rfl rfl (Nat.le_of_ble_eq_true rfl) h (fun r40 u39 g41 h => ?_)
        obtain ⟨o42, h⟩ := h
        refine r_iast (q := 115) (dc dt_PA_keep 66 rfl) rfl ly80 o42 g41 (fun σ43 e44 => ?_)
        have h := h σ43 e44
        refine r_aload_n (q := 116) (dc dt_PA_keep 67 rfl) rfl rfl 1 rfl ?_
        refine r_getO (q := 119) (v := 81) fl_PA_31 (dc dt_PA_keep 68 rfl) rfl ly6 rfl ?_
        refine r_aload_n (q := 120) (dc dt_PA_keep 69 rfl) rfl rfl 1 rfl ?_
        refine r_getI (q := 123) (v := u39.2.1 6 2) fl_PA_9 (dc dt_PA_keep 70 rfl) rfl ly6 rfl (by rw [e44]; rfl) (fun g45 => ?_)
        refine r_aload_n (q := 124) (dc dt_PA_keep 71 rfl) rfl rfl 2 rfl ?_
        refine r_callVi (q := 127) mk_LN_depth lm_PA_99 (RMO.of rfl) rfl (dc dt_PA_keep 72 rfl) rfl rfl [] [I (u39.2.1 6 2), O 81] rfl rfl (Nat.le_of_ble_eq_true rfl) h (fun r47 u46 g48 h => ?_)
        obtain ⟨o49, h⟩ := h
        refine r_iast (q := 128) (dc dt_PA_keep 73 rfl) rfl ly81 o49 g48 (fun σ50 e51 => ?_)
        have h := h σ50 e51
        refine r_aload_n (q := 129) (dc dt_PA_keep 74 rfl) rfl rfl 1 rfl ?_
        refine r_dupo (q := 130) (dc dt_PA_keep 75 rfl) rfl ?_
        refine r_getI (q := 133) (v := u46.2.1 6 2) fl_PA_9 (dc dt_PA_keep 76 rfl) rfl ly6 rfl (by rw [e51]; rfl) (fun g52 => ?_)
        refine r_iconst (q := 134) (dc dt_PA_keep 77 rfl) rfl rfl ?_
        refine r_iadd (q := 135) (dc dt_PA_keep 78 rfl) rfl ?_
        obtain ⟨o55, h⟩ := h
        refine r_put (q := 138) fl_PA_9 (dc dt_PA_keep 79 rfl) rfl ly6 (fun _ => rfl) (Or.inl rfl) pf_6_2 o55 (fun σ53 e54 => ?_)
        have h := h σ53 e54
        refine r_iload (q := 140) (dc dt_PA_keep 80 rfl) rfl 0 rfl ?_
        refine r_istore_n (q := 141) (dc dt_PA_keep 81 rfl) rfl rfl (by decide) rfl ?_
        refine r_iinc (q := 144) (k := 4) (dc dt_PA_keep 82 rfl) rfl rfl (by decide) rfl ?_
        refine r_goto (q := 15) (dc dt_PA_keep 83 rfl) (by decide) ?_
        exact r_loc [3, 4, 1, 0] rfl h
def tb_JS_best : List (Nat × Instr × Nat) := [(0, .iload_n 1, 1), (1, .iconst 1, 1), (2, .sipush 300, 3), (5, .invokestatic 134, 3), (8, .ifCond .ne 6, 3), (11, .bipush (-2), 2), (13, .ireturn, 1), (14, .aload_n 0, 1), (15, .invokevirtual 192, 3), (18, .aload_n 0, 1), (19, .getfield 35, 3), (22, .getfield 216, 3), (25, .ifCond .ne 6, 3), (28, .bipush (-3), 2), (30, .ireturn, 1), (31, .aload_n 0, 1), (32, .getfield 53, 3), (35, .iload_n 1, 1), (36, .invokevirtual 335, 3), (39, .ifCond .ne 6, 3), (42, .bipush (-5), 2), (44, .ireturn, 1), (45, .aload_n 0, 1), (46, .getfield 53, 3), (49, .iload_n 1, 1), (50, .aload_n 0, 1), (51, .getfield 73, 3), (54, .invokevirtual 338, 3), (57, .aload_n 0, 1), (58, .aload_n 0, 1), (59, .getfield 76, 3), (62, .putfield 89, 3), (65, .aload_n 0, 1), (66, .bipush (-6), 2), (68, .putfield 92, 3), (71, .aload_n 0, 1), (72, .getfield 53, 3), (75, .getfield 342, 3), (78, .iconst 0, 1), (79, .iaload, 1), (80, .ireturn, 1)]
theorem dt_JS_best : DT (cM m_JS_best) tb_JS_best := by unfold DT; decide +kernel
abbrev a_JS_best_0 (G : GT)  (v1 : Int) (σ : St) (P : Int → St → Prop) : Prop := A G m_JS_best 0 [(0, O 0), (1, I v1)] [] σ P
set_option maxRecDepth 20000 in
theorem k_JS_best_0 {G : GT} {σ : St} {P : Int → St → Prop}  {v1 : Int}  
    (h : rng v1 ∧ (1 ≤ v1 → rng 300) ∧ (1 ≤ v1 ∧ v1 ≤ 300 → CJ G m_JS_lookAtText [O 0] σ (fun _ u4 => (u4.2.1 4 3 ≠ 0 → CJ G m_PA_search [O 6, I v1] u4 (fun r7 u6 => (r7 ≠ 0 → CJ G m_PA_keep [O 6, I v1, O u6.2.2.2] u6 (fun _ u9 => (∀ σ11, σ11 = sf u9 0 13 (u9.2.1 0 9) → (∀ σ13, σ13 = sf σ11 0 14 (-6) → P (u9.1 82 0) σ13)))) ∧ (r7 = 0 → P (-5) u6))) ∧ (u4.2.1 4 3 = 0 → P (-3) u4))) ∧ (¬ (1 ≤ v1 ∧ v1 ≤ 300) → P (-2) σ)) :
    a_JS_best_0 G v1 σ P := by
  refine r_iload_n (q := 1) (dc dt_JS_best 0 rfl) rfl rfl 1 rfl ?_
  refine r_iconst (q := 2) (dc dt_JS_best 1 rfl) rfl rfl ?_
  refine r_sipush (q := 5) (dc dt_JS_best 2 rfl) rfl (by decide) ?_
  obtain ⟨o1, h⟩ := h
  obtain ⟨o2, h⟩ := h
  refine r_callSi (q := 8) mk_JS_within lm_JS_134 (RMO.of rfl) rfl (dc dt_JS_best 3 rfl) rfl [I v1, I 1, I 300] [] rfl rfl (Nat.le_of_ble_eq_true rfl) (sp_JS_within o1 (⟨by decide, by decide⟩ : rng 1) o2) (fun _ _ g3 z => ?_)
  obtain ⟨z, w⟩ := z
  subst z
  replace w := w.symm
  subst w
  refine r_ifb_ne (q := 11) (t := 14) (dc dt_JS_best 4 rfl) rfl (by decide) (fun q_ => ?_) (fun q_ => ?_)
  · have h := h.1 q_
    refine r_aload_n (q := 15) (dc dt_JS_best 7 rfl) rfl rfl 0 rfl ?_
    refine r_callVv (q := 18) mk_JS_lookAtText lm_JS_192 (RMO.of rfl) rfl (dc dt_JS_best 8 rfl) rfl ly0 [] [] rfl rfl (Nat.le_of_ble_eq_true rfl) h (fun u4 h => ?_)
    refine r_aload_n (q := 19) (dc dt_JS_best 9 rfl) rfl rfl 0 rfl ?_
    refine r_getO (q := 22) (v := 4) fl_JS_35 (dc dt_JS_best 10 rfl) rfl ly0 rfl ?_
    refine r_getI (q := 25) (v := u4.2.1 4 3) fl_JS_216 (dc dt_JS_best 11 rfl) rfl ly4 rfl rfl (fun g5 => ?_)
    refine r_if_ne (q := 28) (t := 31) (dc dt_JS_best 12 rfl) rfl (by decide) g5 (fun q_ => ?_) (fun q_ => ?_)
    · have h := h.1 q_
      refine r_aload_n (q := 32) (dc dt_JS_best 15 rfl) rfl rfl 0 rfl ?_
      refine r_getO (q := 35) (v := 6) fl_JS_53 (dc dt_JS_best 16 rfl) rfl ly0 rfl ?_
      refine r_iload_n (q := 36) (dc dt_JS_best 17 rfl) rfl rfl 1 rfl ?_
      refine r_callVi (q := 39) mk_PA_search lm_JS_335 (RMO.of rfl) rfl (dc dt_JS_best 18 rfl) rfl ly6 [I v1] [] rfl rfl (Nat.le_of_ble_eq_true rfl) h (fun r7 u6 g8 h => ?_)
      refine r_if_ne (q := 42) (t := 45) (dc dt_JS_best 19 rfl) rfl (by decide) g8 (fun q_ => ?_) (fun q_ => ?_)
      · have h := h.1 q_
        refine r_aload_n (q := 46) (dc dt_JS_best 22 rfl) rfl rfl 0 rfl ?_
        refine r_getO (q := 49) (v := 6) fl_JS_53 (dc dt_JS_best 23 rfl) rfl ly0 rfl ?_
        refine r_iload_n (q := 50) (dc dt_JS_best 24 rfl) rfl rfl 1 rfl ?_
        refine r_aload_n (q := 51) (dc dt_JS_best 25 rfl) rfl rfl 0 rfl ?_
        refine r_getO (q := 54) (v := u6.2.2.2) fl_JS_73 (dc dt_JS_best 26 rfl) rfl ly0 rfl ?_
        refine r_callVv (q := 57) mk_PA_keep lm_JS_338 (RMO.of rfl) rfl (dc dt_JS_best 27 rfl) rfl ly6 [I v1, O u6.2.2.2] [] rfl rfl (Nat.le_of_ble_eq_true rfl) h (fun u9 h => ?_)
        refine r_aload_n (q := 58) (dc dt_JS_best 28 rfl) rfl rfl 0 rfl ?_
        refine r_aload_n (q := 59) (dc dt_JS_best 29 rfl) rfl rfl 0 rfl ?_
        refine r_getI (q := 62) (v := u9.2.1 0 9) fl_JS_76 (dc dt_JS_best 30 rfl) rfl ly0 rfl rfl (fun g10 => ?_)
        refine r_put (q := 65) fl_JS_89 (dc dt_JS_best 31 rfl) rfl ly0 (fun _ => rfl) (Or.inl rfl) pf_0_13 g10 (fun σ11 e12 => ?_)
        have h := h σ11 e12
        refine r_aload_n (q := 66) (dc dt_JS_best 32 rfl) rfl rfl 0 rfl ?_
        refine r_bipush (q := 68) (dc dt_JS_best 33 rfl) rfl (by decide) ?_
        refine r_put (q := 71) fl_JS_92 (dc dt_JS_best 34 rfl) rfl ly0 (fun _ => rfl) (Or.inl rfl) pf_0_14 (⟨by decide, by decide⟩ : rng (-6)) (fun σ13 e14 => ?_)
        have h := h σ13 e14
        refine r_aload_n (q := 72) (dc dt_JS_best 35 rfl) rfl rfl 0 rfl ?_
        refine r_getO (q := 75) (v := 6) fl_JS_53 (dc dt_JS_best 36 rfl) rfl ly0 rfl ?_
        refine r_getO (q := 78) (v := 82) fl_JS_342 (dc dt_JS_best 37 rfl) rfl ly6 rfl ?_
        refine r_iconst (q := 79) (dc dt_JS_best 38 rfl) rfl rfl ?_
        refine r_iald (q := 80) (v := u9.1 82 0) (dc dt_JS_best 39 rfl) rfl ly82 ⟨by decide, by decide⟩ (by rw [e14, e12]; rfl) (fun g15 => ?_)
        exact r_iret rfl (dc dt_JS_best 40 rfl) g15 h
      · have h := h.2 q_
        refine r_bipush (q := 44) (dc dt_JS_best 20 rfl) rfl (by decide) ?_
        exact r_iret rfl (dc dt_JS_best 21 rfl) (⟨by decide, by decide⟩ : rng (-5)) h
    · have h := h.2 q_
      refine r_bipush (q := 30) (dc dt_JS_best 13 rfl) rfl (by decide) ?_
      exact r_iret rfl (dc dt_JS_best 14 rfl) (⟨by decide, by decide⟩ : rng (-3)) h
  · have h := h.2 q_
    refine r_bipush (q := 13) (dc dt_JS_best 5 rfl) rfl (by decide) ?_
    exact r_iret rfl (dc dt_JS_best 6 rfl) (⟨by decide, by decide⟩ : rng (-2)) h
def tb_JS_lines : List (Nat × Instr × Nat) := [(0, .aload_n 0, 1), (1, .getfield 89, 3), (4, .aload_n 0, 1), (5, .getfield 76, 3), (8, .if_icmp .eq 6, 3), (11, .bipush (-3), 2), (13, .ireturn, 1), (14, .iload_n 1, 1), (15, .iconst (-1), 1), (16, .if_icmp .ne 11, 3), (19, .aload_n 0, 1), (20, .getfield 53, 3), (23, .getfield 345, 3), (26, .ireturn, 1), (27, .iload_n 1, 1), (28, .iconst 0, 1), (29, .aload_n 0, 1), (30, .getfield 53, 3), (33, .getfield 345, 3), (36, .iconst 1, 1), (37, .isub, 1), (38, .invokestatic 134, 3), (41, .ifCond .ne 5, 3), (44, .iconst (-1), 1), (45, .ireturn, 1), (46, .iload_n 2, 1), (47, .tableswitch 83 0 4 #[33, 43, 53, 63, 73], 33), (80, .aload_n 0, 1), (81, .getfield 53, 3), (84, .getfield 346, 3), (87, .iload_n 1, 1), (88, .iaload, 1), (89, .ireturn, 1), (90, .aload_n 0, 1), (91, .getfield 53, 3), (94, .getfield 349, 3), (97, .iload_n 1, 1), (98, .iaload, 1), (99, .ireturn, 1), (100, .aload_n 0, 1), (101, .getfield 53, 3), (104, .getfield 352, 3), (107, .iload_n 1, 1), (108, .iaload, 1), (109, .ireturn, 1), (110, .aload_n 0, 1), (111, .getfield 53, 3), (114, .getfield 354, 3), (117, .iload_n 1, 1), (118, .iaload, 1), (119, .ireturn, 1), (120, .aload_n 0, 1), (121, .getfield 53, 3), (124, .getfield 356, 3), (127, .iload_n 1, 1), (128, .iaload, 1), (129, .ireturn, 1), (130, .bipush (-2), 2), (132, .ireturn, 1)]
theorem dt_JS_lines : DT (cM m_JS_lines) tb_JS_lines := by unfold DT; decide +kernel
abbrev a_JS_lines_0 (G : GT)  (v1 : Int) (v2 : Int) (σ : St) (P : Int → St → Prop) : Prop := A G m_JS_lines 0 [(0, O 0), (1, I v1), (2, I v2)] [] σ P
set_option maxRecDepth 20000 in
theorem k_JS_lines_0 {G : GT} {σ : St} {P : Int → St → Prop}  {v1 : Int} {v2 : Int}  
    (h : (σ.2.1 0 13 = σ.2.1 0 9 → rng v1 ∧ (v1 ≠ (-1) → (0 ≤ v1 → rng ((σ.2.1 6 2) - 1)) ∧ (0 ≤ v1 ∧ v1 ≤ ((σ.2.1 6 2) - 1) → rng v2 ∧ (v2 = 0 → (0 ≤ v1 ∧ v1 < 80) ∧ P (σ.1 77 v1.toNat) σ) ∧ (v2 = 1 → (0 ≤ v1 ∧ v1 < 80) ∧ P (σ.1 78 v1.toNat) σ) ∧ (v2 = 2 → (0 ≤ v1 ∧ v1 < 80) ∧ P (σ.1 79 v1.toNat) σ) ∧ (v2 = 3 → (0 ≤ v1 ∧ v1 < 80) ∧ P (σ.1 80 v1.toNat) σ) ∧ (v2 = 4 → (0 ≤ v1 ∧ v1 < 80) ∧ P (σ.1 81 v1.toNat) σ) ∧ ((v2 < 0 ∨ 4 < v2) → P (-2) σ)) ∧ (¬ (0 ≤ v1 ∧ v1 ≤ ((σ.2.1 6 2) - 1)) → P (-1) σ)) ∧ (v1 = (-1) → P (σ.2.1 6 2) σ)) ∧ (σ.2.1 0 13 ≠ σ.2.1 0 9 → P (-3) σ)) :
    a_JS_lines_0 G v1 v2 σ P := by
  refine r_aload_n (q := 1) (dc dt_JS_lines 0 rfl) rfl rfl 0 rfl ?_
  refine r_getI (q := 4) (v := σ.2.1 0 13) fl_JS_89 (dc dt_JS_lines 1 rfl) rfl ly0 rfl rfl (fun g1 => ?_)
  refine r_aload_n (q := 5) (dc dt_JS_lines 2 rfl) rfl rfl 0 rfl ?_
  refine r_getI (q := 8) (v := σ.2.1 0 9) fl_JS_76 (dc dt_JS_lines 3 rfl) rfl ly0 rfl rfl (fun g2 => ?_)
  refine r_icmp_eq (q := 11) (t := 14) (dc dt_JS_lines 4 rfl) rfl (by decide) g1 g2 (fun q_ => ?_) (fun q_ => ?_)
  · have h := h.1 q_
    refine r_iload_n (q := 15) (dc dt_JS_lines 7 rfl) rfl rfl 1 rfl ?_
    refine r_iconst (q := 16) (dc dt_JS_lines 8 rfl) rfl rfl ?_
    obtain ⟨o3, h⟩ := h
    refine r_icmp_ne (q := 19) (t := 27) (dc dt_JS_lines 9 rfl) rfl (by decide) o3 (⟨by decide, by decide⟩ : rng (-1)) (fun q_ => ?_) (fun q_ => ?_)
    · have h := h.1 q_
      refine r_iload_n (q := 28) (dc dt_JS_lines 14 rfl) rfl rfl 1 rfl ?_
      refine r_iconst (q := 29) (dc dt_JS_lines 15 rfl) rfl rfl ?_
      refine r_aload_n (q := 30) (dc dt_JS_lines 16 rfl) rfl rfl 0 rfl ?_
      refine r_getO (q := 33) (v := 6) fl_JS_53 (dc dt_JS_lines 17 rfl) rfl ly0 rfl ?_
      refine r_getI (q := 36) (v := σ.2.1 6 2) fl_JS_345 (dc dt_JS_lines 18 rfl) rfl ly6 rfl rfl (fun g4 => ?_)
      refine r_iconst (q := 37) (dc dt_JS_lines 19 rfl) rfl rfl ?_
      refine r_isub (q := 38) (dc dt_JS_lines 20 rfl) rfl ?_
      obtain ⟨o5, h⟩ := h
      refine r_callSi (q := 41) mk_JS_within lm_JS_134 (RMO.of rfl) rfl (dc dt_JS_lines 21 rfl) rfl [I v1, I 0, I ((σ.2.1 6 2) - 1)] [] rfl rfl (Nat.le_of_ble_eq_true rfl) (sp_JS_within o3 (⟨by decide, by decide⟩ : rng 0) o5) (fun _ _ g6 z => ?_)
      obtain ⟨z, w⟩ := z
      subst z
      replace w := w.symm
      subst w
      refine r_ifb_ne (q := 44) (t := 46) (dc dt_JS_lines 22 rfl) rfl (by decide) (fun q_ => ?_) (fun q_ => ?_)
      · have h := h.1 q_
        refine r_iload_n (q := 47) (dc dt_JS_lines 25 rfl) rfl rfl 2 rfl ?_
        obtain ⟨o7, h⟩ := h
        by_cases qo : (v2 < 0 ∨ 4 < v2)
        · have q_ := qo
          have h := h.2.2.2.2.2 q_
          refine r_swOut (t := 130) (dc dt_JS_lines 26 rfl) (by decide) o7 q_ ?_
          refine r_bipush (q := 132) (dc dt_JS_lines 57 rfl) rfl (by decide) ?_
          exact r_iret rfl (dc dt_JS_lines 58 rfl) (⟨by decide, by decide⟩ : rng (-2)) h
        · by_cases q_ : v2 = 0
          · have h := h.1 q_
            refine r_swIn (t := 80) (dc dt_JS_lines 26 rfl) o7 (by omega) (by omega) (by rw [q_]; rfl) (by decide) ?_
            refine r_aload_n (q := 81) (dc dt_JS_lines 27 rfl) rfl rfl 0 rfl ?_
            refine r_getO (q := 84) (v := 6) fl_JS_53 (dc dt_JS_lines 28 rfl) rfl ly0 rfl ?_
            refine r_getO (q := 87) (v := 77) fl_JS_346 (dc dt_JS_lines 29 rfl) rfl ly6 rfl ?_
            refine r_iload_n (q := 88) (dc dt_JS_lines 30 rfl) rfl rfl 1 rfl ?_
            obtain ⟨o8, h⟩ := h
            refine r_iald (q := 89) (v := σ.1 77 v1.toNat) (dc dt_JS_lines 31 rfl) rfl ly77 o8 rfl (fun g9 => ?_)
            exact r_iret rfl (dc dt_JS_lines 32 rfl) g9 h
          · by_cases q_ : v2 = 1
            · have h := h.2.1 q_
              refine r_swIn (t := 90) (dc dt_JS_lines 26 rfl) o7 (by omega) (by omega) (by rw [q_]; rfl) (by decide) ?_
              refine r_aload_n (q := 91) (dc dt_JS_lines 33 rfl) rfl rfl 0 rfl ?_
              refine r_getO (q := 94) (v := 6) fl_JS_53 (dc dt_JS_lines 34 rfl) rfl ly0 rfl ?_
              refine r_getO (q := 97) (v := 78) fl_JS_349 (dc dt_JS_lines 35 rfl) rfl ly6 rfl ?_
              refine r_iload_n (q := 98) (dc dt_JS_lines 36 rfl) rfl rfl 1 rfl ?_
              obtain ⟨o10, h⟩ := h
              refine r_iald (q := 99) (v := σ.1 78 v1.toNat) (dc dt_JS_lines 37 rfl) rfl ly78 o10 rfl (fun g11 => ?_)
              exact r_iret rfl (dc dt_JS_lines 38 rfl) g11 h
            · by_cases q_ : v2 = 2
              · have h := h.2.2.1 q_
                refine r_swIn (t := 100) (dc dt_JS_lines 26 rfl) o7 (by omega) (by omega) (by rw [q_]; rfl) (by decide) ?_
                refine r_aload_n (q := 101) (dc dt_JS_lines 39 rfl) rfl rfl 0 rfl ?_
                refine r_getO (q := 104) (v := 6) fl_JS_53 (dc dt_JS_lines 40 rfl) rfl ly0 rfl ?_
                refine r_getO (q := 107) (v := 79) fl_JS_352 (dc dt_JS_lines 41 rfl) rfl ly6 rfl ?_
                refine r_iload_n (q := 108) (dc dt_JS_lines 42 rfl) rfl rfl 1 rfl ?_
                obtain ⟨o12, h⟩ := h
                refine r_iald (q := 109) (v := σ.1 79 v1.toNat) (dc dt_JS_lines 43 rfl) rfl ly79 o12 rfl (fun g13 => ?_)
                exact r_iret rfl (dc dt_JS_lines 44 rfl) g13 h
              · by_cases q_ : v2 = 3
                · have h := h.2.2.2.1 q_
                  refine r_swIn (t := 110) (dc dt_JS_lines 26 rfl) o7 (by omega) (by omega) (by rw [q_]; rfl) (by decide) ?_
                  refine r_aload_n (q := 111) (dc dt_JS_lines 45 rfl) rfl rfl 0 rfl ?_
                  refine r_getO (q := 114) (v := 6) fl_JS_53 (dc dt_JS_lines 46 rfl) rfl ly0 rfl ?_
                  refine r_getO (q := 117) (v := 80) fl_JS_354 (dc dt_JS_lines 47 rfl) rfl ly6 rfl ?_
                  refine r_iload_n (q := 118) (dc dt_JS_lines 48 rfl) rfl rfl 1 rfl ?_
                  obtain ⟨o14, h⟩ := h
                  refine r_iald (q := 119) (v := σ.1 80 v1.toNat) (dc dt_JS_lines 49 rfl) rfl ly80 o14 rfl (fun g15 => ?_)
                  exact r_iret rfl (dc dt_JS_lines 50 rfl) g15 h
                · have q_ : v2 = 4 := by omega
                  have h := h.2.2.2.2.1 q_
                  refine r_swIn (t := 120) (dc dt_JS_lines 26 rfl) o7 (by omega) (by omega) (by rw [q_]; rfl) (by decide) ?_
                  refine r_aload_n (q := 121) (dc dt_JS_lines 51 rfl) rfl rfl 0 rfl ?_
                  refine r_getO (q := 124) (v := 6) fl_JS_53 (dc dt_JS_lines 52 rfl) rfl ly0 rfl ?_
                  refine r_getO (q := 127) (v := 81) fl_JS_356 (dc dt_JS_lines 53 rfl) rfl ly6 rfl ?_
                  refine r_iload_n (q := 128) (dc dt_JS_lines 54 rfl) rfl rfl 1 rfl ?_
                  obtain ⟨o16, h⟩ := h
                  refine r_iald (q := 129) (v := σ.1 81 v1.toNat) (dc dt_JS_lines 55 rfl) rfl ly81 o16 rfl (fun g17 => ?_)
                  exact r_iret rfl (dc dt_JS_lines 56 rfl) g17 h
      · have h := h.2 q_
        refine r_iconst (q := 45) (dc dt_JS_lines 23 rfl) rfl rfl ?_
        exact r_iret rfl (dc dt_JS_lines 24 rfl) (⟨by decide, by decide⟩ : rng (-1)) h
    · have h := h.2 q_
      refine r_aload_n (q := 20) (dc dt_JS_lines 10 rfl) rfl rfl 0 rfl ?_
      refine r_getO (q := 23) (v := 6) fl_JS_53 (dc dt_JS_lines 11 rfl) rfl ly0 rfl ?_
      refine r_getI (q := 26) (v := σ.2.1 6 2) fl_JS_345 (dc dt_JS_lines 12 rfl) rfl ly6 rfl rfl (fun g18 => ?_)
      exact r_iret rfl (dc dt_JS_lines 13 rfl) g18 h
  · have h := h.2 q_
    refine r_bipush (q := 13) (dc dt_JS_lines 5 rfl) rfl (by decide) ?_
    exact r_iret rfl (dc dt_JS_lines 6 rfl) (⟨by decide, by decide⟩ : rng (-3)) h
def tb_JS_take : List (Nat × Instr × Nat) := [(0, .aload_n 0, 1), (1, .getfield 89, 3), (4, .aload_n 0, 1), (5, .getfield 76, 3), (8, .if_icmp .eq 6, 3), (11, .bipush (-3), 2), (13, .ireturn, 1), (14, .iload_n 1, 1), (15, .iconst 0, 1), (16, .aload_n 0, 1), (17, .getfield 53, 3), (20, .getfield 345, 3), (23, .iconst 1, 1), (24, .isub, 1), (25, .invokestatic 134, 3), (28, .ifCond .ne 5, 3), (31, .iconst (-1), 1), (32, .ireturn, 1), (33, .aload_n 0, 1), (34, .getfield 53, 3), (37, .iload_n 1, 1), (38, .aload_n 0, 1), (39, .getfield 73, 3), (42, .invokevirtual 358, 3), (45, .aload_n 0, 1), (46, .invokevirtual 245, 3), (49, .aload_n 0, 1), (50, .getfield 69, 3), (53, .getfield 254, 3), (56, .ireturn, 1)]
theorem dt_JS_take : DT (cM m_JS_take) tb_JS_take := by unfold DT; decide +kernel
abbrev a_JS_take_0 (G : GT)  (v1 : Int) (σ : St) (P : Int → St → Prop) : Prop := A G m_JS_take 0 [(0, O 0), (1, I v1)] [] σ P
set_option maxRecDepth 20000 in
theorem k_JS_take_0 {G : GT} {σ : St} {P : Int → St → Prop}  {v1 : Int}  
    (h : (σ.2.1 0 13 = σ.2.1 0 9 → rng v1 ∧ (0 ≤ v1 → rng ((σ.2.1 6 2) - 1)) ∧ (0 ≤ v1 ∧ v1 ≤ ((σ.2.1 6 2) - 1) → CJ G m_PA_setLine [O 6, I v1, O σ.2.2.2] σ (fun _ u7 => CJ G m_JS_takeSpare [O 0] u7 (fun _ u8 => isL u8.2.2.1 ∧ P (u8.2.1 u8.2.2.1 2) u8))) ∧ (¬ (0 ≤ v1 ∧ v1 ≤ ((σ.2.1 6 2) - 1)) → P (-1) σ)) ∧ (σ.2.1 0 13 ≠ σ.2.1 0 9 → P (-3) σ)) :
    a_JS_take_0 G v1 σ P := by
  refine r_aload_n (q := 1) (dc dt_JS_take 0 rfl) rfl rfl 0 rfl ?_
  refine r_getI (q := 4) (v := σ.2.1 0 13) fl_JS_89 (dc dt_JS_take 1 rfl) rfl ly0 rfl rfl (fun g1 => ?_)
  refine r_aload_n (q := 5) (dc dt_JS_take 2 rfl) rfl rfl 0 rfl ?_
  refine r_getI (q := 8) (v := σ.2.1 0 9) fl_JS_76 (dc dt_JS_take 3 rfl) rfl ly0 rfl rfl (fun g2 => ?_)
  refine r_icmp_eq (q := 11) (t := 14) (dc dt_JS_take 4 rfl) rfl (by decide) g1 g2 (fun q_ => ?_) (fun q_ => ?_)
  · have h := h.1 q_
    refine r_iload_n (q := 15) (dc dt_JS_take 7 rfl) rfl rfl 1 rfl ?_
    refine r_iconst (q := 16) (dc dt_JS_take 8 rfl) rfl rfl ?_
    refine r_aload_n (q := 17) (dc dt_JS_take 9 rfl) rfl rfl 0 rfl ?_
    refine r_getO (q := 20) (v := 6) fl_JS_53 (dc dt_JS_take 10 rfl) rfl ly0 rfl ?_
    refine r_getI (q := 23) (v := σ.2.1 6 2) fl_JS_345 (dc dt_JS_take 11 rfl) rfl ly6 rfl rfl (fun g3 => ?_)
    refine r_iconst (q := 24) (dc dt_JS_take 12 rfl) rfl rfl ?_
    refine r_isub (q := 25) (dc dt_JS_take 13 rfl) rfl ?_
    obtain ⟨o4, h⟩ := h
    obtain ⟨o5, h⟩ := h
    refine r_callSi (q := 28) mk_JS_within lm_JS_134 (RMO.of rfl) rfl (dc dt_JS_take 14 rfl) rfl [I v1, I 0, I ((σ.2.1 6 2) - 1)] [] rfl rfl (Nat.le_of_ble_eq_true rfl) (sp_JS_within o4 (⟨by decide, by decide⟩ : rng 0) o5) (fun _ _ g6 z => ?_)
    obtain ⟨z, w⟩ := z
    subst z
    replace w := w.symm
    subst w
    refine r_ifb_ne (q := 31) (t := 33) (dc dt_JS_take 15 rfl) rfl (by decide) (fun q_ => ?_) (fun q_ => ?_)
    · have h := h.1 q_
      refine r_aload_n (q := 34) (dc dt_JS_take 18 rfl) rfl rfl 0 rfl ?_
      refine r_getO (q := 37) (v := 6) fl_JS_53 (dc dt_JS_take 19 rfl) rfl ly0 rfl ?_
      refine r_iload_n (q := 38) (dc dt_JS_take 20 rfl) rfl rfl 1 rfl ?_
      refine r_aload_n (q := 39) (dc dt_JS_take 21 rfl) rfl rfl 0 rfl ?_
      refine r_getO (q := 42) (v := σ.2.2.2) fl_JS_73 (dc dt_JS_take 22 rfl) rfl ly0 rfl ?_
      refine r_callVv (q := 45) mk_PA_setLine lm_JS_358 (RMO.of rfl) rfl (dc dt_JS_take 23 rfl) rfl ly6 [I v1, O σ.2.2.2] [] rfl rfl (Nat.le_of_ble_eq_true rfl) h (fun u7 h => ?_)
      refine r_aload_n (q := 46) (dc dt_JS_take 24 rfl) rfl rfl 0 rfl ?_
      refine r_callVv (q := 49) mk_JS_takeSpare lm_JS_245 (RMO.of rfl) rfl (dc dt_JS_take 25 rfl) rfl ly0 [] [] rfl rfl (Nat.le_of_ble_eq_true rfl) h (fun u8 h => ?_)
      refine r_aload_n (q := 50) (dc dt_JS_take 26 rfl) rfl rfl 0 rfl ?_
      refine r_getO (q := 53) (v := u8.2.2.1) fl_JS_69 (dc dt_JS_take 27 rfl) rfl ly0 rfl ?_
      obtain ⟨o9, h⟩ := h
      refine r_getI (q := 56) (v := u8.2.1 u8.2.2.1 2) fl_JS_254 (dc dt_JS_take 28 rfl) rfl (lyL_0 o9) rfl rfl (fun g10 => ?_)
      exact r_iret rfl (dc dt_JS_take 29 rfl) g10 h
    · have h := h.2 q_
      refine r_iconst (q := 32) (dc dt_JS_take 16 rfl) rfl rfl ?_
      exact r_iret rfl (dc dt_JS_take 17 rfl) (⟨by decide, by decide⟩ : rng (-1)) h
  · have h := h.2 q_
    refine r_bipush (q := 13) (dc dt_JS_take 5 rfl) rfl (by decide) ?_
    exact r_iret rfl (dc dt_JS_take 6 rfl) (⟨by decide, by decide⟩ : rng (-3)) h
def tb_PG_offerPagesFrom : List (Nat × Instr × Nat) := [(0, .aload_n 0, 1), (1, .getfield 31, 3), (4, .getfield 35, 3), (7, .istore_n 3, 1), (8, .iload_n 3, 1), (9, .iconst 1, 1), (10, .if_icmp .le 7, 3), (13, .iconst 1, 1), (14, .goto 4, 3), (17, .iconst 0, 1), (18, .istore 4, 2), (20, .iload 4, 2), (22, .ifCond .eq 11, 3), (25, .iload_n 1, 1), (26, .iload_n 3, 1), (27, .iconst 1, 1), (28, .isub, 1), (29, .if_icmp .ne 4, 3), (32, .return_, 1), (33, .iload_n 2, 1), (34, .istore 5, 2), (36, .iload_n 1, 1), (37, .istore 6, 2), (39, .iload 6, 2), (41, .iload_n 3, 1), (42, .if_icmp .ge 135, 3), (45, .iload 5, 2), (47, .aload_n 0, 1), (48, .getfield 31, 3), (51, .getfield 43, 3), (54, .iload 6, 2), (56, .iaload, 1), (57, .aload_n 0, 1), (58, .getfield 31, 3), (61, .getfield 46, 3), (64, .iload 6, 2), (66, .iaload, 1), (67, .iadd, 1), (68, .isub, 1), (69, .istore 5, 2), (71, .iload 5, 2), (73, .ifCond .ge 6, 3), (76, .goto 101, 3), (79, .iload 4, 2), (81, .ifCond .eq 8, 3), (84, .iload 6, 2), (86, .ifCond .eq 21, 3), (89, .aload_n 0, 1), (90, .getfield 25, 3), (93, .iload 6, 2), (95, .iconst 1, 1), (96, .iadd, 1), (97, .iaload, 1), (98, .ldc 38, 2), (100, .if_icmp .ge 7, 3), (103, .iconst 1, 1), (104, .goto 4, 3), (107, .iconst 0, 1), (108, .istore 7, 2), (110, .aload_n 0, 1), (111, .getfield 25, 3), (114, .iload 6, 2), (116, .iconst 1, 1), (117, .iadd, 1), (118, .iaload, 1), (119, .iload 6, 2), (121, .iload_n 3, 1), (122, .iconst 1, 1), (123, .isub, 1), (124, .if_icmp .ne 7, 3), (127, .iconst 0, 1), (128, .goto 8, 3), (131, .iload 5, 2), (133, .iload 5, 2), (135, .imul, 1), (136, .iadd, 1), (137, .istore 8, 2), (139, .iload 7, 2), (141, .ifCond .eq 30, 3), (144, .iload 8, 2), (146, .aload_n 0, 1), (147, .getfield 25, 3), (150, .iload_n 1, 1), (151, .iaload, 1), (152, .if_icmp .gt 19, 3), (155, .aload_n 0, 1), (156, .getfield 25, 3), (159, .iload_n 1, 1), (160, .iload 8, 2), (162, .iastore, 1), (163, .aload_n 0, 1), (164, .getfield 28, 3), (167, .iload_n 1, 1), (168, .iload 6, 2), (170, .iastore, 1), (171, .iinc 6 1, 3), (174, .goto (-135), 3), (177, .return_, 1)]
theorem dt_PG_offerPagesFrom : DT (cM m_PG_offerPagesFrom) tb_PG_offerPagesFrom := by unfold DT; decide +kernel
abbrev a_PG_offerPagesFrom_0 (G : GT)  (v1 : Int) (v2 : Int) (σ : St) (P : Int → St → Prop) : Prop := A G m_PG_offerPagesFrom 0 [(0, O 7), (1, I v1), (2, I v2)] [] σ P
abbrev a_PG_offerPagesFrom_39 (G : GT)  (v1 : Int) (v3 : Int) (v4 : Int) (v5 : Int) (v6 : Int) (σ : St) (P : Int → St → Prop) : Prop := A G m_PG_offerPagesFrom 39 [(0, O 7), (1, I v1), (3, I v3), (4, I v4), (5, I v5), (6, I v6)] [] σ P
set_option maxRecDepth 20000 in
theorem k_PG_offerPagesFrom_0 {G : GT} {σ : St} {P : Int → St → Prop}  {v1 : Int} {v2 : Int}  
    (h : (¬ (1 < σ.2.1 6 2) → a_PG_offerPagesFrom_39 G v1 (σ.2.1 6 2) (if 1 < σ.2.1 6 2 then 1 else 0) v2 v1 σ P) ∧ (1 < σ.2.1 6 2 → rng v1 ∧ rng ((σ.2.1 6 2) - 1) ∧ (v1 ≠ (σ.2.1 6 2) - 1 → a_PG_offerPagesFrom_39 G v1 (σ.2.1 6 2) (if 1 < σ.2.1 6 2 then 1 else 0) v2 v1 σ P) ∧ (v1 = (σ.2.1 6 2) - 1 → P 0 σ))) :
    a_PG_offerPagesFrom_0 G v1 v2 σ P := by
  refine r_aload_n (q := 1) (dc dt_PG_offerPagesFrom 0 rfl) rfl rfl 0 rfl ?_
  refine r_getO (q := 4) (v := 6) fl_PG_31 (dc dt_PG_offerPagesFrom 1 rfl) rfl ly7 rfl ?_
  refine r_getI (q := 7) (v := σ.2.1 6 2) fl_PG_35 (dc dt_PG_offerPagesFrom 2 rfl) rfl ly6 rfl rfl (fun g1 => ?_)
  refine r_istore_n (q := 8) (dc dt_PG_offerPagesFrom 3 rfl) rfl rfl (by decide) rfl ?_
  refine r_iload_n (q := 9) (dc dt_PG_offerPagesFrom 4 rfl) rfl rfl 0 rfl ?_
  refine r_iconst (q := 10) (dc dt_PG_offerPagesFrom 5 rfl) rfl rfl ?_
  have hJ : ∀ (w_0 : Int), w_0 = (if 1 < σ.2.1 6 2 then 1 else 0) → A G m_PG_offerPagesFrom 18 [(3, I (σ.2.1 6 2)), (0, O 7), (1, I v1), (2, I v2)] [I w_0] σ P := by
    intro w_0 z_0
    subst z_0
    refine r_istore (q := 20) (dc dt_PG_offerPagesFrom 10 rfl) rfl (by decide) rfl ?_
    refine r_iload (q := 22) (dc dt_PG_offerPagesFrom 11 rfl) rfl 0 rfl ?_
    refine r_ifb_eq (q := 25) (t := 33) (dc dt_PG_offerPagesFrom 12 rfl) rfl (by decide) (fun q_ => ?_) (fun q_ => ?_)
    · have h := h.1 q_
      refine r_iload_n (q := 34) (dc dt_PG_offerPagesFrom 19 rfl) rfl rfl 4 rfl ?_
      refine r_istore (q := 36) (dc dt_PG_offerPagesFrom 20 rfl) rfl (by decide) rfl ?_
      refine r_iload_n (q := 37) (dc dt_PG_offerPagesFrom 21 rfl) rfl rfl 4 rfl ?_
      refine r_istore (q := 39) (dc dt_PG_offerPagesFrom 22 rfl) rfl (by decide) rfl ?_
      exact r_loc [4, 5, 3, 2, 1, 0] rfl h
    · have h := h.2 q_
      refine r_iload_n (q := 26) (dc dt_PG_offerPagesFrom 13 rfl) rfl rfl 3 rfl ?_
      refine r_iload_n (q := 27) (dc dt_PG_offerPagesFrom 14 rfl) rfl rfl 1 rfl ?_
      refine r_iconst (q := 28) (dc dt_PG_offerPagesFrom 15 rfl) rfl rfl ?_
      refine r_isub (q := 29) (dc dt_PG_offerPagesFrom 16 rfl) rfl ?_
      obtain ⟨o2, h⟩ := h
      obtain ⟨o3, h⟩ := h
      refine r_icmp_ne (q := 32) (t := 33) (dc dt_PG_offerPagesFrom 17 rfl) rfl (by decide) o2 o3 (fun q_ => ?_) (fun q_ => ?_)
      · have h := h.1 q_
        refine r_iload_n (q := 34) (dc dt_PG_offerPagesFrom 19 rfl) rfl rfl 4 rfl ?_
        refine r_istore (q := 36) (dc dt_PG_offerPagesFrom 20 rfl) rfl (by decide) rfl ?_
        refine r_iload_n (q := 37) (dc dt_PG_offerPagesFrom 21 rfl) rfl rfl 4 rfl ?_
        refine r_istore (q := 39) (dc dt_PG_offerPagesFrom 22 rfl) rfl (by decide) rfl ?_
        exact r_loc [4, 5, 3, 2, 1, 0] rfl h
      · have h := h.2 q_
        exact r_vret rfl (dc dt_PG_offerPagesFrom 18 rfl) h
  clear h
  refine r_icmp_le (q := 13) (t := 17) (dc dt_PG_offerPagesFrom 6 rfl) rfl (by decide) g1 (⟨by decide, by decide⟩ : rng 1) (fun q_ => ?_) (fun q_ => ?_)
  · have q85 := q_
    refine r_iconst (q := 18) (dc dt_PG_offerPagesFrom 9 rfl) rfl rfl ?_
    exact (hJ 0 ((if_neg (by first | omega | grind)).symm))
  · have q85 := q_
    refine r_iconst (q := 14) (dc dt_PG_offerPagesFrom 7 rfl) rfl rfl ?_
    refine r_goto (q := 18) (dc dt_PG_offerPagesFrom 8 rfl) (by decide) ?_
    exact (hJ 1 ((if_pos (by first | omega | grind)).symm))
set_option maxRecDepth 20000 in
theorem k_PG_offerPagesFrom_39 {G : GT} {σ : St} {P : Int → St → Prop}  {v1 : Int} {v3 : Int} {v4 : Int} {v5 : Int} {v6 : Int}  
    (h : rng v6 ∧ rng v3 ∧ (v3 ≤ v6 → P 0 σ) ∧ (v6 < v3 → (0 ≤ v6 ∧ v6 < 80) ∧ rng (v5 - ((σ.1 80 v6.toNat) + (σ.1 81 v6.toNat))) ∧ (0 ≤ v5 - ((σ.1 80 v6.toNat) + (σ.1 81 v6.toNat)) → rng v4 ∧ ((v4 = 0 → 0 ≤ v6 + 1 ∧ v6 + 1 < 81) ∧ (v4 ≠ 0 → (v6 ≠ 0 → 0 ≤ v6 + 1 ∧ v6 + 1 < 81))) ∧ (0 ≤ v6 + 1 ∧ v6 + 1 < 81) ∧ rng (v3 - 1) ∧ (¬ ((v4 = 0 ∧ σ.1 87 ((v6 + 1).toNat) < 536870912) ∨ (v4 ≠ 0 ∧ (v6 ≠ 0 ∧ σ.1 87 ((v6 + 1).toNat) < 536870912))) → a_PG_offerPagesFrom_39 G v1 v3 v4 (v5 - ((σ.1 80 v6.toNat) + (σ.1 81 v6.toNat))) (v6 + 1) σ P) ∧ ((v4 = 0 ∧ σ.1 87 ((v6 + 1).toNat) < 536870912) ∨ (v4 ≠ 0 ∧ (v6 ≠ 0 ∧ σ.1 87 ((v6 + 1).toNat) < 536870912)) → (0 ≤ v1 ∧ v1 < 81) ∧ rng ((σ.1 87 ((v6 + 1).toNat)) + (if v6 ≠ v3 - 1 then (v5 - ((σ.1 80 v6.toNat) + (σ.1 81 v6.toNat))) * (v5 - ((σ.1 80 v6.toNat) + (σ.1 81 v6.toNat))) else (0 : Int))) ∧ (σ.1 87 v1.toNat < (σ.1 87 ((v6 + 1).toNat)) + (if v6 ≠ v3 - 1 then (v5 - ((σ.1 80 v6.toNat) + (σ.1 81 v6.toNat))) * (v5 - ((σ.1 80 v6.toNat) + (σ.1 81 v6.toNat))) else (0 : Int)) → a_PG_offerPagesFrom_39 G v1 v3 v4 (v5 - ((σ.1 80 v6.toNat) + (σ.1 81 v6.toNat))) (v6 + 1) σ P) ∧ ((σ.1 87 ((v6 + 1).toNat)) + (if v6 ≠ v3 - 1 then (v5 - ((σ.1 80 v6.toNat) + (σ.1 81 v6.toNat))) * (v5 - ((σ.1 80 v6.toNat) + (σ.1 81 v6.toNat))) else (0 : Int)) ≤ σ.1 87 v1.toNat → (∀ σ80, σ80 = sa σ 87 v1.toNat ((σ.1 87 ((v6 + 1).toNat)) + (if v6 ≠ v3 - 1 then (v5 - ((σ.1 80 v6.toNat) + (σ.1 81 v6.toNat))) * (v5 - ((σ.1 80 v6.toNat) + (σ.1 81 v6.toNat))) else (0 : Int))) → (0 ≤ v1 ∧ v1 < 80) ∧ (∀ σ83, σ83 = sa σ80 88 v1.toNat v6 → a_PG_offerPagesFrom_39 G v1 v3 v4 (v5 - ((σ.1 80 v6.toNat) + (σ.1 81 v6.toNat))) (v6 + 1) σ83 P))))) ∧ (v5 - ((σ.1 80 v6.toNat) + (σ.1 81 v6.toNat)) < 0 → P 0 σ))) :
    a_PG_offerPagesFrom_39 G v1 v3 v4 v5 v6 σ P := by
  refine r_iload (q := 41) (dc dt_PG_offerPagesFrom 23 rfl) rfl 5 rfl ?_
  refine r_iload_n (q := 42) (dc dt_PG_offerPagesFrom 24 rfl) rfl rfl 2 rfl ?_
  obtain ⟨o4, h⟩ := h
  obtain ⟨o5, h⟩ := h
  refine r_icmp_ge (q := 45) (t := 177) (dc dt_PG_offerPagesFrom 25 rfl) rfl (by decide) o4 o5 (fun q_ => ?_) (fun q_ => ?_)
  · have h := h.1 q_
    exact r_vret rfl (dc dt_PG_offerPagesFrom 97 rfl) h
  · have h := h.2 q_
    refine r_iload (q := 47) (dc dt_PG_offerPagesFrom 26 rfl) rfl 4 rfl ?_
    refine r_aload_n (q := 48) (dc dt_PG_offerPagesFrom 27 rfl) rfl rfl 0 rfl ?_
    refine r_getO (q := 51) (v := 6) fl_PG_31 (dc dt_PG_offerPagesFrom 28 rfl) rfl ly7 rfl ?_
    refine r_getO (q := 54) (v := 80) fl_PG_43 (dc dt_PG_offerPagesFrom 29 rfl) rfl ly6 rfl ?_
    refine r_iload (q := 56) (dc dt_PG_offerPagesFrom 30 rfl) rfl 5 rfl ?_
    obtain ⟨o36, h⟩ := h
    refine r_iald (q := 57) (v := σ.1 80 v6.toNat) (dc dt_PG_offerPagesFrom 31 rfl) rfl ly80 o36 rfl (fun g37 => ?_)
    refine r_aload_n (q := 58) (dc dt_PG_offerPagesFrom 32 rfl) rfl rfl 0 rfl ?_
    refine r_getO (q := 61) (v := 6) fl_PG_31 (dc dt_PG_offerPagesFrom 33 rfl) rfl ly7 rfl ?_
    refine r_getO (q := 64) (v := 81) fl_PG_46 (dc dt_PG_offerPagesFrom 34 rfl) rfl ly6 rfl ?_
    refine r_iload (q := 66) (dc dt_PG_offerPagesFrom 35 rfl) rfl 5 rfl ?_
    refine r_iald (q := 67) (v := σ.1 81 v6.toNat) (dc dt_PG_offerPagesFrom 36 rfl) rfl ly81 o36 rfl (fun g38 => ?_)
    refine r_iadd (q := 68) (dc dt_PG_offerPagesFrom 37 rfl) rfl ?_
    refine r_isub (q := 69) (dc dt_PG_offerPagesFrom 38 rfl) rfl ?_
    refine r_istore (q := 71) (dc dt_PG_offerPagesFrom 39 rfl) rfl (by decide) rfl ?_
    refine r_iload (q := 73) (dc dt_PG_offerPagesFrom 40 rfl) rfl 0 rfl ?_
    obtain ⟨o39, h⟩ := h
    refine r_if_ge (q := 76) (t := 79) (dc dt_PG_offerPagesFrom 41 rfl) rfl (by decide) o39 (fun q_ => ?_) (fun q_ => ?_)
    · have h := h.1 q_
      refine r_iload (q := 81) (dc dt_PG_offerPagesFrom 43 rfl) rfl 4 rfl ?_
      obtain ⟨o66, h⟩ := h
      obtain ⟨ho, h⟩ := h
      have hJ : ∀ (w_0 : Int), w_0 = (if (v4 = 0 ∧ σ.1 87 ((v6 + 1).toNat) < 536870912) ∨ (v4 ≠ 0 ∧ (v6 ≠ 0 ∧ σ.1 87 ((v6 + 1).toNat) < 536870912)) then 1 else 0) → A G m_PG_offerPagesFrom 108 [(5, I (v5 - ((σ.1 80 v6.toNat) + (σ.1 81 v6.toNat)))), (0, O 7), (1, I v1), (3, I v3), (4, I v4), (6, I v6)] [I w_0] σ P := by
        intro w_0 z_0
        subst z_0
        refine r_istore (q := 110) (dc dt_PG_offerPagesFrom 58 rfl) rfl (by decide) rfl ?_
        refine r_aload_n (q := 111) (dc dt_PG_offerPagesFrom 59 rfl) rfl rfl 2 rfl ?_
        refine r_getO (q := 114) (v := 87) fl_PG_25 (dc dt_PG_offerPagesFrom 60 rfl) rfl ly7 rfl ?_
        refine r_iload (q := 116) (dc dt_PG_offerPagesFrom 61 rfl) rfl 6 rfl ?_
        refine r_iconst (q := 117) (dc dt_PG_offerPagesFrom 62 rfl) rfl rfl ?_
        refine r_iadd (q := 118) (dc dt_PG_offerPagesFrom 63 rfl) rfl ?_
        obtain ⟨o71, h⟩ := h
        refine r_iald (q := 119) (v := σ.1 87 ((v6 + 1).toNat)) (dc dt_PG_offerPagesFrom 64 rfl) rfl ly87 o71 rfl (fun g72 => ?_)
        refine r_iload (q := 121) (dc dt_PG_offerPagesFrom 65 rfl) rfl 6 rfl ?_
        refine r_iload_n (q := 122) (dc dt_PG_offerPagesFrom 66 rfl) rfl rfl 4 rfl ?_
        refine r_iconst (q := 123) (dc dt_PG_offerPagesFrom 67 rfl) rfl rfl ?_
        refine r_isub (q := 124) (dc dt_PG_offerPagesFrom 68 rfl) rfl ?_
        obtain ⟨o73, h⟩ := h
        have hJ : ∀ (w_0 : Int), w_0 = (if v6 ≠ v3 - 1 then (v5 - ((σ.1 80 v6.toNat) + (σ.1 81 v6.toNat))) * (v5 - ((σ.1 80 v6.toNat) + (σ.1 81 v6.toNat))) else (0 : Int)) → A G m_PG_offerPagesFrom 136 [(7, I (if (v4 = 0 ∧ σ.1 87 ((v6 + 1).toNat) < 536870912) ∨ (v4 ≠ 0 ∧ (v6 ≠ 0 ∧ σ.1 87 ((v6 + 1).toNat) < 536870912)) then 1 else 0)), (5, I (v5 - ((σ.1 80 v6.toNat) + (σ.1 81 v6.toNat)))), (0, O 7), (1, I v1), (3, I v3), (4, I v4), (6, I v6)] [I w_0, I (σ.1 87 ((v6 + 1).toNat))] σ P := by
          intro w_0 z_0
          subst z_0
          refine r_iadd (q := 137) (dc dt_PG_offerPagesFrom 75 rfl) rfl ?_
          refine r_istore (q := 139) (dc dt_PG_offerPagesFrom 76 rfl) rfl (by decide) rfl ?_
          refine r_iload (q := 141) (dc dt_PG_offerPagesFrom 77 rfl) rfl 1 rfl ?_
          refine r_ifb_eq (q := 144) (t := 171) (dc dt_PG_offerPagesFrom 78 rfl) rfl (by decide) (fun q_ => ?_) (fun q_ => ?_)
          · have h := h.1 q_
            refine r_iinc (q := 174) (k := 7) (dc dt_PG_offerPagesFrom 95 rfl) rfl rfl (by decide) rfl ?_
            refine r_goto (q := 39) (dc dt_PG_offerPagesFrom 96 rfl) (by decide) ?_
            exact r_loc [4, 5, 6, 7, 3, 0] rfl h
          · have h := h.2 q_
            refine r_iload (q := 146) (dc dt_PG_offerPagesFrom 79 rfl) rfl 0 rfl ?_
            refine r_aload_n (q := 147) (dc dt_PG_offerPagesFrom 80 rfl) rfl rfl 3 rfl ?_
            refine r_getO (q := 150) (v := 87) fl_PG_25 (dc dt_PG_offerPagesFrom 81 rfl) rfl ly7 rfl ?_
            refine r_iload_n (q := 151) (dc dt_PG_offerPagesFrom 82 rfl) rfl rfl 4 rfl ?_
            obtain ⟨o77, h⟩ := h
            refine r_iald (q := 152) (v := σ.1 87 v1.toNat) (dc dt_PG_offerPagesFrom 83 rfl) rfl ly87 o77 rfl (fun g78 => ?_)
            obtain ⟨o79, h⟩ := h
            refine r_icmp_gt (q := 155) (t := 171) (dc dt_PG_offerPagesFrom 84 rfl) rfl (by decide) o79 g78 (fun q_ => ?_) (fun q_ => ?_)
            · have h := h.1 q_
              refine r_iinc (q := 174) (k := 7) (dc dt_PG_offerPagesFrom 95 rfl) rfl rfl (by decide) rfl ?_
              refine r_goto (q := 39) (dc dt_PG_offerPagesFrom 96 rfl) (by decide) ?_
              exact r_loc [4, 5, 6, 7, 3, 0] rfl h
            · have h := h.2 q_
              refine r_aload_n (q := 156) (dc dt_PG_offerPagesFrom 85 rfl) rfl rfl 3 rfl ?_
              refine r_getO (q := 159) (v := 87) fl_PG_25 (dc dt_PG_offerPagesFrom 86 rfl) rfl ly7 rfl ?_
              refine r_iload_n (q := 160) (dc dt_PG_offerPagesFrom 87 rfl) rfl rfl 4 rfl ?_
              refine r_iload (q := 162) (dc dt_PG_offerPagesFrom 88 rfl) rfl 0 rfl ?_
              refine r_iast (q := 163) (dc dt_PG_offerPagesFrom 89 rfl) rfl ly87 o77 o79 (fun σ80 e81 => ?_)
              have h := h σ80 e81
              refine r_aload_n (q := 164) (dc dt_PG_offerPagesFrom 90 rfl) rfl rfl 3 rfl ?_
              refine r_getO (q := 167) (v := 88) fl_PG_28 (dc dt_PG_offerPagesFrom 91 rfl) rfl ly7 rfl ?_
              refine r_iload_n (q := 168) (dc dt_PG_offerPagesFrom 92 rfl) rfl rfl 4 rfl ?_
              refine r_iload (q := 170) (dc dt_PG_offerPagesFrom 93 rfl) rfl 7 rfl ?_
              obtain ⟨o82, h⟩ := h
              refine r_iast (q := 171) (dc dt_PG_offerPagesFrom 94 rfl) rfl ly88 o82 o4 (fun σ83 e84 => ?_)
              have h := h σ83 e84
              refine r_iinc (q := 174) (k := 7) (dc dt_PG_offerPagesFrom 95 rfl) rfl rfl (by decide) rfl ?_
              refine r_goto (q := 39) (dc dt_PG_offerPagesFrom 96 rfl) (by decide) ?_
              exact r_loc [4, 5, 6, 7, 3, 0] rfl h
        clear h
        refine r_icmp_ne (q := 127) (t := 131) (dc dt_PG_offerPagesFrom 69 rfl) rfl (by decide) o4 o73 (fun q_ => ?_) (fun q_ => ?_)
        · have q86 := q_
          refine r_iload (q := 133) (dc dt_PG_offerPagesFrom 72 rfl) rfl 1 rfl ?_
          refine r_iload (q := 135) (dc dt_PG_offerPagesFrom 73 rfl) rfl 1 rfl ?_
          refine r_imul (q := 136) (dc dt_PG_offerPagesFrom 74 rfl) rfl ?_
          exact (hJ ((v5 - ((σ.1 80 v6.toNat) + (σ.1 81 v6.toNat))) * (v5 - ((σ.1 80 v6.toNat) + (σ.1 81 v6.toNat)))) ((if_pos (by first | omega | grind)).symm))
        · have q86 := q_
          refine r_iconst (q := 128) (dc dt_PG_offerPagesFrom 70 rfl) rfl rfl ?_
          refine r_goto (q := 136) (dc dt_PG_offerPagesFrom 71 rfl) (by decide) ?_
          exact (hJ 0 ((if_neg (by first | omega | grind)).symm))
      clear h
      refine r_if_eq (q := 84) (t := 89) (dc dt_PG_offerPagesFrom 44 rfl) rfl (by decide) o66 (fun q_ => ?_) (fun q_ => ?_)
      · have q87 := q_
        have ho := ho.1 q_
        refine r_aload_n (q := 90) (dc dt_PG_offerPagesFrom 47 rfl) rfl rfl 1 rfl ?_
        refine r_getO (q := 93) (v := 87) fl_PG_25 (dc dt_PG_offerPagesFrom 48 rfl) rfl ly7 rfl ?_
        refine r_iload (q := 95) (dc dt_PG_offerPagesFrom 49 rfl) rfl 5 rfl ?_
        refine r_iconst (q := 96) (dc dt_PG_offerPagesFrom 50 rfl) rfl rfl ?_
        refine r_iadd (q := 97) (dc dt_PG_offerPagesFrom 51 rfl) rfl ?_
        have o67 := ho
        refine r_iald (q := 98) (v := σ.1 87 ((v6 + 1).toNat)) (dc dt_PG_offerPagesFrom 52 rfl) rfl ly87 o67 rfl (fun g68 => ?_)
        refine r_ldc (q := 100) (n := 536870912) (dc dt_PG_offerPagesFrom 53 rfl) rfl (gt_at 1082 (by decide +kernel) rfl) ?_
        refine r_icmp_ge (q := 103) (t := 107) (dc dt_PG_offerPagesFrom 54 rfl) rfl (by decide) g68 (⟨by decide, by decide⟩ : rng 536870912) (fun q_ => ?_) (fun q_ => ?_)
        · have q88 := q_
          refine r_iconst (q := 108) (dc dt_PG_offerPagesFrom 57 rfl) rfl rfl ?_
          exact (hJ 0 ((if_neg (by first | omega | grind)).symm))
        · have q88 := q_
          refine r_iconst (q := 104) (dc dt_PG_offerPagesFrom 55 rfl) rfl rfl ?_
          refine r_goto (q := 108) (dc dt_PG_offerPagesFrom 56 rfl) (by decide) ?_
          exact (hJ 1 ((if_pos (by first | omega | grind)).symm))
      · have q87 := q_
        have ho := ho.2 q_
        refine r_iload (q := 86) (dc dt_PG_offerPagesFrom 45 rfl) rfl 5 rfl ?_
        refine r_if_eq (q := 89) (t := 107) (dc dt_PG_offerPagesFrom 46 rfl) rfl (by decide) o4 (fun q_ => ?_) (fun q_ => ?_)
        · have q89 := q_
          refine r_iconst (q := 108) (dc dt_PG_offerPagesFrom 57 rfl) rfl rfl ?_
          exact (hJ 0 ((if_neg (by first | omega | grind)).symm))
        · have q89 := q_
          have ho := ho q_
          refine r_aload_n (q := 90) (dc dt_PG_offerPagesFrom 47 rfl) rfl rfl 1 rfl ?_
          refine r_getO (q := 93) (v := 87) fl_PG_25 (dc dt_PG_offerPagesFrom 48 rfl) rfl ly7 rfl ?_
          refine r_iload (q := 95) (dc dt_PG_offerPagesFrom 49 rfl) rfl 5 rfl ?_
          refine r_iconst (q := 96) (dc dt_PG_offerPagesFrom 50 rfl) rfl rfl ?_
          refine r_iadd (q := 97) (dc dt_PG_offerPagesFrom 51 rfl) rfl ?_
          have o69 := ho
          refine r_iald (q := 98) (v := σ.1 87 ((v6 + 1).toNat)) (dc dt_PG_offerPagesFrom 52 rfl) rfl ly87 o69 rfl (fun g70 => ?_)
          refine r_ldc (q := 100) (n := 536870912) (dc dt_PG_offerPagesFrom 53 rfl) rfl (gt_at 1082 (by decide +kernel) rfl) ?_
          refine r_icmp_ge (q := 103) (t := 107) (dc dt_PG_offerPagesFrom 54 rfl) rfl (by decide) g70 (⟨by decide, by decide⟩ : rng 536870912) (fun q_ => ?_) (fun q_ => ?_)
          · have q90 := q_
            refine r_iconst (q := 108) (dc dt_PG_offerPagesFrom 57 rfl) rfl rfl ?_
            exact (hJ 0 ((if_neg (by first | omega | grind)).symm))
          · have q90 := q_
            refine r_iconst (q := 104) (dc dt_PG_offerPagesFrom 55 rfl) rfl rfl ?_
            refine r_goto (q := 108) (dc dt_PG_offerPagesFrom 56 rfl) (by decide) ?_
            exact (hJ 1 ((if_pos (by first | omega | grind)).symm))
    · have h := h.2 q_
      refine r_goto (q := 177) (dc dt_PG_offerPagesFrom 42 rfl) (by decide) ?_
      exact r_vret rfl (dc dt_PG_offerPagesFrom 97 rfl) h
def tb_PG_search : List (Nat × Instr × Nat) := [(0, .aload_n 0, 1), (1, .getfield 31, 3), (4, .getfield 35, 3), (7, .istore_n 2, 1), (8, .aload_n 0, 1), (9, .getfield 25, 3), (12, .iload_n 2, 1), (13, .iconst 0, 1), (14, .iastore, 1), (15, .iload_n 2, 1), (16, .iconst 1, 1), (17, .isub, 1), (18, .istore_n 3, 1), (19, .iload_n 3, 1), (20, .ifCond .lt 23, 3), (23, .aload_n 0, 1), (24, .getfield 25, 3), (27, .iload_n 3, 1), (28, .ldc 38, 2), (30, .iastore, 1), (31, .aload_n 0, 1), (32, .iload_n 3, 1), (33, .iload_n 1, 1), (34, .invokevirtual 39, 3), (37, .iinc 3 (-1), 3), (40, .goto (-21), 3), (43, .aload_n 0, 1), (44, .getfield 25, 3), (47, .iconst 0, 1), (48, .iaload, 1), (49, .ldc 38, 2), (51, .if_icmp .ge 7, 3), (54, .iconst 1, 1), (55, .goto 4, 3), (58, .iconst 0, 1), (59, .ireturn, 1)]
theorem dt_PG_search : DT (cM m_PG_search) tb_PG_search := by unfold DT; decide +kernel
abbrev a_PG_search_0 (G : GT)  (v1 : Int) (σ : St) (P : Int → St → Prop) : Prop := A G m_PG_search 0 [(0, O 7), (1, I v1)] [] σ P
abbrev a_PG_search_19 (G : GT)  (v1 : Int) (v3 : Int) (σ : St) (P : Int → St → Prop) : Prop := A G m_PG_search 19 [(0, O 7), (1, I v1), (3, I v3)] [] σ P
set_option maxRecDepth 20000 in
theorem k_PG_search_0 {G : GT} {σ : St} {P : Int → St → Prop}  {v1 : Int}  
    (h : (0 ≤ σ.2.1 6 2 ∧ σ.2.1 6 2 < 81) ∧ (∀ σ3, σ3 = sa σ 87 ((σ.2.1 6 2).toNat) 0 → a_PG_search_19 G v1 ((σ.2.1 6 2) - 1) σ3 P)) :
    a_PG_search_0 G v1 σ P := by
  refine r_aload_n (q := 1) (dc dt_PG_search 0 rfl) rfl rfl 0 rfl ?_
  refine r_getO (q := 4) (v := 6) fl_PG_31 (dc dt_PG_search 1 rfl) rfl ly7 rfl ?_
  refine r_getI (q := 7) (v := σ.2.1 6 2) fl_PG_35 (dc dt_PG_search 2 rfl) rfl ly6 rfl rfl (fun g1 => ?_)
  refine r_istore_n (q := 8) (dc dt_PG_search 3 rfl) rfl rfl (by decide) rfl ?_
  refine r_aload_n (q := 9) (dc dt_PG_search 4 rfl) rfl rfl 1 rfl ?_
  refine r_getO (q := 12) (v := 87) fl_PG_25 (dc dt_PG_search 5 rfl) rfl ly7 rfl ?_
  refine r_iload_n (q := 13) (dc dt_PG_search 6 rfl) rfl rfl 0 rfl ?_
  refine r_iconst (q := 14) (dc dt_PG_search 7 rfl) rfl rfl ?_
  obtain ⟨o2, h⟩ := h
  refine r_iast (q := 15) (dc dt_PG_search 8 rfl) rfl ly87 o2 (⟨by decide, by decide⟩ : rng 0) (fun σ3 e4 => ?_)
  have h := h σ3 e4
  refine r_iload_n (q := 16) (dc dt_PG_search 9 rfl) rfl rfl 0 rfl ?_
  refine r_iconst (q := 17) (dc dt_PG_search 10 rfl) rfl rfl ?_
  refine r_isub (q := 18) (dc dt_PG_search 11 rfl) rfl ?_
  refine r_istore_n (q := 19) (dc dt_PG_search 12 rfl) rfl rfl (by decide) rfl ?_
  exact r_loc [2, 3, 0] rfl h
set_option maxRecDepth 20000 in
theorem k_PG_search_19 {G : GT} {σ : St} {P : Int → St → Prop}  {v1 : Int} {v3 : Int}  
    (h : rng v3 ∧ (v3 < 0 → P (if σ.1 87 0 < 536870912 then 1 else 0) σ) ∧ (0 ≤ v3 → (0 ≤ v3 ∧ v3 < 81) ∧ (∀ σ8, σ8 = sa σ 87 v3.toNat 536870912 → CJ G m_PG_offerPagesFrom [O 7, I v3, I v1] σ8 (fun _ u10 => a_PG_search_19 G v1 (v3 + (-1)) u10 P)))) :
    a_PG_search_19 G v1 v3 σ P := by
  refine r_iload_n (q := 20) (dc dt_PG_search 13 rfl) rfl rfl 2 rfl ?_
  obtain ⟨o5, h⟩ := h
  refine r_if_lt (q := 23) (t := 43) (dc dt_PG_search 14 rfl) rfl (by decide) o5 (fun q_ => ?_) (fun q_ => ?_)
  · have h := h.1 q_
    refine r_aload_n (q := 44) (dc dt_PG_search 26 rfl) rfl rfl 0 rfl ?_
    refine r_getO (q := 47) (v := 87) fl_PG_25 (dc dt_PG_search 27 rfl) rfl ly7 rfl ?_
    refine r_iconst (q := 48) (dc dt_PG_search 28 rfl) rfl rfl ?_
    refine r_iald (q := 49) (v := σ.1 87 0) (dc dt_PG_search 29 rfl) rfl ly87 ⟨by decide, by decide⟩ rfl (fun g6 => ?_)
    refine r_ldc (q := 51) (n := 536870912) (dc dt_PG_search 30 rfl) rfl (gt_at 1082 (by decide +kernel) rfl) ?_
    have hJ : ∀ (w_0 : Int), w_0 = (if σ.1 87 0 < 536870912 then 1 else 0) → A G m_PG_search 59 [(0, O 7), (1, I v1), (3, I v3)] [I w_0] σ P := by
      intro w_0 z_0
      subst z_0
      exact r_zret rfl (dc dt_PG_search 35 rfl) b01_or h
    clear h
    refine r_icmp_ge (q := 54) (t := 58) (dc dt_PG_search 31 rfl) rfl (by decide) g6 (⟨by decide, by decide⟩ : rng 536870912) (fun q_ => ?_) (fun q_ => ?_)
    · have q11 := q_
      refine r_iconst (q := 59) (dc dt_PG_search 34 rfl) rfl rfl ?_
      exact (hJ 0 ((if_neg (by first | omega | grind)).symm))
    · have q11 := q_
      refine r_iconst (q := 55) (dc dt_PG_search 32 rfl) rfl rfl ?_
      refine r_goto (q := 59) (dc dt_PG_search 33 rfl) (by decide) ?_
      exact (hJ 1 ((if_pos (by first | omega | grind)).symm))
  · have h := h.2 q_
    refine r_aload_n (q := 24) (dc dt_PG_search 15 rfl) rfl rfl 0 rfl ?_
    refine r_getO (q := 27) (v := 87) fl_PG_25 (dc dt_PG_search 16 rfl) rfl ly7 rfl ?_
    refine r_iload_n (q := 28) (dc dt_PG_search 17 rfl) rfl rfl 2 rfl ?_
    refine r_ldc (q := 30) (n := 536870912) (dc dt_PG_search 18 rfl) rfl (gt_at 1082 (by decide +kernel) rfl) ?_
    obtain ⟨o7, h⟩ := h
    refine r_iast (q := 31) (dc dt_PG_search 19 rfl) rfl ly87 o7 (⟨by decide, by decide⟩ : rng 536870912) (fun σ8 e9 => ?_)
    have h := h σ8 e9
    refine r_aload_n (q := 32) (dc dt_PG_search 20 rfl) rfl rfl 0 rfl ?_
    refine r_iload_n (q := 33) (dc dt_PG_search 21 rfl) rfl rfl 2 rfl ?_
    refine r_iload_n (q := 34) (dc dt_PG_search 22 rfl) rfl rfl 1 rfl ?_
    refine r_callVv (q := 37) mk_PG_offerPagesFrom lm_PG_39 (RMO.of rfl) rfl (dc dt_PG_search 23 rfl) rfl ly7 [I v3, I v1] [] rfl rfl (Nat.le_of_ble_eq_true rfl) h (fun u10 h => ?_)
    refine r_iinc (q := 40) (k := 2) (dc dt_PG_search 24 rfl) rfl rfl (by decide) rfl ?_
    refine r_goto (q := 19) (dc dt_PG_search 25 rfl) (by decide) ?_
    exact r_loc [1, 2, 0] rfl h
def tb_PG_keep : List (Nat × Instr × Nat) := [(0, .aload_n 0, 1), (1, .iconst 0, 1), (2, .putfield 9, 3), (5, .iconst 0, 1), (6, .istore_n 2, 1), (7, .iconst 0, 1), (8, .istore_n 3, 1), (9, .iload_n 3, 1), (10, .bipush 80, 2), (12, .if_icmp .ge 122, 3), (15, .iload_n 2, 1), (16, .aload_n 0, 1), (17, .getfield 31, 3), (20, .getfield 35, 3), (23, .if_icmp .ge 111, 3), (26, .aload_n 0, 1), (27, .getfield 28, 3), (30, .iload_n 2, 1), (31, .iaload, 1), (32, .iconst 1, 1), (33, .iadd, 1), (34, .istore 4, 2), (36, .iload_n 1, 1), (37, .istore 5, 2), (39, .iload_n 2, 1), (40, .istore 6, 2), (42, .iload 6, 2), (44, .iload 4, 2), (46, .if_icmp .ge 35, 3), (49, .iload 5, 2), (51, .aload_n 0, 1), (52, .getfield 31, 3), (55, .getfield 43, 3), (58, .iload 6, 2), (60, .iaload, 1), (61, .aload_n 0, 1), (62, .getfield 31, 3), (65, .getfield 46, 3), (68, .iload 6, 2), (70, .iaload, 1), (71, .iadd, 1), (72, .isub, 1), (73, .istore 5, 2), (75, .iinc 6 1, 3), (78, .goto (-36), 3), (81, .aload_n 0, 1), (82, .getfield 15, 3), (85, .aload_n 0, 1), (86, .getfield 9, 3), (89, .iload_n 2, 1), (90, .iastore, 1), (91, .aload_n 0, 1), (92, .getfield 19, 3), (95, .aload_n 0, 1), (96, .getfield 9, 3), (99, .iload 4, 2), (101, .iload_n 2, 1), (102, .isub, 1), (103, .iastore, 1), (104, .aload_n 0, 1), (105, .getfield 22, 3), (108, .aload_n 0, 1), (109, .getfield 9, 3), (112, .iload 5, 2), (114, .iastore, 1), (115, .aload_n 0, 1), (116, .dup, 1), (117, .getfield 9, 3), (120, .iconst 1, 1), (121, .iadd, 1), (122, .putfield 9, 3), (125, .iload 4, 2), (127, .istore_n 2, 1), (128, .iinc 3 1, 3), (131, .goto (-122), 3), (134, .return_, 1)]
theorem dt_PG_keep : DT (cM m_PG_keep) tb_PG_keep := by unfold DT; decide +kernel
abbrev a_PG_keep_0 (G : GT)  (v1 : Int) (σ : St) (P : Int → St → Prop) : Prop := A G m_PG_keep 0 [(0, O 7), (1, I v1)] [] σ P
abbrev a_PG_keep_9 (G : GT)  (v1 : Int) (v2 : Int) (v3 : Int) (σ : St) (P : Int → St → Prop) : Prop := A G m_PG_keep 9 [(0, O 7), (1, I v1), (2, I v2), (3, I v3)] [] σ P
abbrev a_PG_keep_42 (G : GT)  (v1 : Int) (v2 : Int) (v3 : Int) (v4 : Int) (v5 : Int) (v6 : Int) (σ : St) (P : Int → St → Prop) : Prop := A G m_PG_keep 42 [(0, O 7), (1, I v1), (2, I v2), (3, I v3), (4, I v4), (5, I v5), (6, I v6)] [] σ P
set_option maxRecDepth 20000 in
theorem k_PG_keep_0 {G : GT} {σ : St} {P : Int → St → Prop}  {v1 : Int}  
    (h : (∀ σ1, σ1 = sf σ 7 1 0 → a_PG_keep_9 G v1 0 0 σ1 P)) :
    a_PG_keep_0 G v1 σ P := by
  refine r_aload_n (q := 1) (dc dt_PG_keep 0 rfl) rfl rfl 0 rfl ?_
  refine r_iconst (q := 2) (dc dt_PG_keep 1 rfl) rfl rfl ?_
  refine r_put (q := 5) fl_PG_9 (dc dt_PG_keep 2 rfl) rfl ly7 (fun _ => rfl) (Or.inl rfl) pf_7_1 (⟨by decide, by decide⟩ : rng 0) (fun σ1 e2 => ?_)
  have h := h σ1 e2
  refine r_iconst (q := 6) (dc dt_PG_keep 3 rfl) rfl rfl ?_
  refine r_istore_n (q := 7) (dc dt_PG_keep 4 rfl) rfl rfl (by decide) rfl ?_
  refine r_iconst (q := 8) (dc dt_PG_keep 5 rfl) rfl rfl ?_
  refine r_istore_n (q := 9) (dc dt_PG_keep 6 rfl) rfl rfl (by decide) rfl ?_
  exact r_loc [2, 3, 1, 0] rfl h
set_option maxRecDepth 20000 in
theorem k_PG_keep_9 {G : GT} {σ : St} {P : Int → St → Prop}  {v1 : Int} {v2 : Int} {v3 : Int}  
    (h : rng v3 ∧ (80 ≤ v3 → P 0 σ) ∧ (v3 < 80 → rng v2 ∧ (σ.2.1 6 2 ≤ v2 → P 0 σ) ∧ (v2 < σ.2.1 6 2 → (0 ≤ v2 ∧ v2 < 80) ∧ a_PG_keep_42 G v1 v2 v3 ((σ.1 88 v2.toNat) + 1) v1 v2 σ P))) :
    a_PG_keep_9 G v1 v2 v3 σ P := by
  refine r_iload_n (q := 10) (dc dt_PG_keep 7 rfl) rfl rfl 3 rfl ?_
  refine r_bipush (q := 12) (dc dt_PG_keep 8 rfl) rfl (by decide) ?_
  obtain ⟨o3, h⟩ := h
  refine r_icmp_ge (q := 15) (t := 134) (dc dt_PG_keep 9 rfl) rfl (by decide) o3 (⟨by decide, by decide⟩ : rng 80) (fun q_ => ?_) (fun q_ => ?_)
  · have h := h.1 q_
    exact r_vret rfl (dc dt_PG_keep 75 rfl) h
  · have h := h.2 q_
    refine r_iload_n (q := 16) (dc dt_PG_keep 10 rfl) rfl rfl 2 rfl ?_
    refine r_aload_n (q := 17) (dc dt_PG_keep 11 rfl) rfl rfl 0 rfl ?_
    refine r_getO (q := 20) (v := 6) fl_PG_31 (dc dt_PG_keep 12 rfl) rfl ly7 rfl ?_
    refine r_getI (q := 23) (v := σ.2.1 6 2) fl_PG_35 (dc dt_PG_keep 13 rfl) rfl ly6 rfl rfl (fun g8 => ?_)
    obtain ⟨o9, h⟩ := h
    refine r_icmp_ge (q := 26) (t := 134) (dc dt_PG_keep 14 rfl) rfl (by decide) o9 g8 (fun q_ => ?_) (fun q_ => ?_)
    · have h := h.1 q_
      exact r_vret rfl (dc dt_PG_keep 75 rfl) h
    · have h := h.2 q_
      refine r_aload_n (q := 27) (dc dt_PG_keep 15 rfl) rfl rfl 0 rfl ?_
      refine r_getO (q := 30) (v := 88) fl_PG_28 (dc dt_PG_keep 16 rfl) rfl ly7 rfl ?_
      refine r_iload_n (q := 31) (dc dt_PG_keep 17 rfl) rfl rfl 2 rfl ?_
      obtain ⟨o12, h⟩ := h
      refine r_iald (q := 32) (v := σ.1 88 v2.toNat) (dc dt_PG_keep 18 rfl) rfl ly88 o12 rfl (fun g13 => ?_)
      refine r_iconst (q := 33) (dc dt_PG_keep 19 rfl) rfl rfl ?_
      refine r_iadd (q := 34) (dc dt_PG_keep 20 rfl) rfl ?_
      refine r_istore (q := 36) (dc dt_PG_keep 21 rfl) rfl (by decide) rfl ?_
      refine r_iload_n (q := 37) (dc dt_PG_keep 22 rfl) rfl rfl 2 rfl ?_
      refine r_istore (q := 39) (dc dt_PG_keep 23 rfl) rfl (by decide) rfl ?_
      refine r_iload_n (q := 40) (dc dt_PG_keep 24 rfl) rfl rfl 4 rfl ?_
      refine r_istore (q := 42) (dc dt_PG_keep 25 rfl) rfl (by decide) rfl ?_
      exact r_loc [3, 4, 5, 6, 2, 1, 0] rfl h
set_option maxRecDepth 20000 in
theorem k_PG_keep_42 {G : GT} {σ : St} {P : Int → St → Prop}  {v1 : Int} {v2 : Int} {v3 : Int} {v4 : Int} {v5 : Int} {v6 : Int}  
    (h : rng v6 ∧ rng v4 ∧ (v4 ≤ v6 → (0 ≤ σ.2.1 7 1 ∧ σ.2.1 7 1 < 80) ∧ rng v2 ∧ (∀ σ22, σ22 = sa σ 84 ((σ.2.1 7 1).toNat) v2 → rng (v4 - v2) ∧ (∀ σ26, σ26 = sa σ22 85 ((σ.2.1 7 1).toNat) (v4 - v2) → rng v5 ∧ (∀ σ30, σ30 = sa σ26 86 ((σ.2.1 7 1).toNat) v5 → rng ((σ.2.1 7 1) + 1) ∧ (∀ σ33, σ33 = sf σ30 7 1 ((σ.2.1 7 1) + 1) → a_PG_keep_9 G v1 v4 (v3 + 1) σ33 P))))) ∧ (v6 < v4 → (0 ≤ v6 ∧ v6 < 80) ∧ a_PG_keep_42 G v1 v2 v3 v4 (v5 - ((σ.1 80 v6.toNat) + (σ.1 81 v6.toNat))) (v6 + 1) σ P)) :
    a_PG_keep_42 G v1 v2 v3 v4 v5 v6 σ P := by
  refine r_iload (q := 44) (dc dt_PG_keep 26 rfl) rfl 6 rfl ?_
  refine r_iload (q := 46) (dc dt_PG_keep 27 rfl) rfl 4 rfl ?_
  obtain ⟨o14, h⟩ := h
  obtain ⟨o15, h⟩ := h
  refine r_icmp_ge (q := 49) (t := 81) (dc dt_PG_keep 28 rfl) rfl (by decide) o14 o15 (fun q_ => ?_) (fun q_ => ?_)
  · have h := h.1 q_
    refine r_aload_n (q := 82) (dc dt_PG_keep 45 rfl) rfl rfl 0 rfl ?_
    refine r_getO (q := 85) (v := 84) fl_PG_15 (dc dt_PG_keep 46 rfl) rfl ly7 rfl ?_
    refine r_aload_n (q := 86) (dc dt_PG_keep 47 rfl) rfl rfl 0 rfl ?_
    refine r_getI (q := 89) (v := σ.2.1 7 1) fl_PG_9 (dc dt_PG_keep 48 rfl) rfl ly7 rfl rfl (fun g19 => ?_)
    refine r_iload_n (q := 90) (dc dt_PG_keep 49 rfl) rfl rfl 2 rfl ?_
    obtain ⟨o20, h⟩ := h
    obtain ⟨o21, h⟩ := h
    refine r_iast (q := 91) (dc dt_PG_keep 50 rfl) rfl ly84 o20 o21 (fun σ22 e23 => ?_)
    have h := h σ22 e23
    refine r_aload_n (q := 92) (dc dt_PG_keep 51 rfl) rfl rfl 0 rfl ?_
    refine r_getO (q := 95) (v := 85) fl_PG_19 (dc dt_PG_keep 52 rfl) rfl ly7 rfl ?_
    refine r_aload_n (q := 96) (dc dt_PG_keep 53 rfl) rfl rfl 0 rfl ?_
    refine r_getI (q := 99) (v := σ.2.1 7 1) fl_PG_9 (dc dt_PG_keep 54 rfl) rfl ly7 rfl (by rw [e23]; rfl) (fun g24 => ?_)
    refine r_iload (q := 101) (dc dt_PG_keep 55 rfl) rfl 4 rfl ?_
    refine r_iload_n (q := 102) (dc dt_PG_keep 56 rfl) rfl rfl 2 rfl ?_
    refine r_isub (q := 103) (dc dt_PG_keep 57 rfl) rfl ?_
    obtain ⟨o25, h⟩ := h
    refine r_iast (q := 104) (dc dt_PG_keep 58 rfl) rfl ly85 o20 o25 (fun σ26 e27 => ?_)
    have h := h σ26 e27
    refine r_aload_n (q := 105) (dc dt_PG_keep 59 rfl) rfl rfl 0 rfl ?_
    refine r_getO (q := 108) (v := 86) fl_PG_22 (dc dt_PG_keep 60 rfl) rfl ly7 rfl ?_
    refine r_aload_n (q := 109) (dc dt_PG_keep 61 rfl) rfl rfl 0 rfl ?_
    refine r_getI (q := 112) (v := σ.2.1 7 1) fl_PG_9 (dc dt_PG_keep 62 rfl) rfl ly7 rfl (by rw [e27, e23]; rfl) (fun g28 => ?_)
    refine r_iload (q := 114) (dc dt_PG_keep 63 rfl) rfl 5 rfl ?_
    obtain ⟨o29, h⟩ := h
    refine r_iast (q := 115) (dc dt_PG_keep 64 rfl) rfl ly86 o20 o29 (fun σ30 e31 => ?_)
    have h := h σ30 e31
    refine r_aload_n (q := 116) (dc dt_PG_keep 65 rfl) rfl rfl 0 rfl ?_
    refine r_dupo (q := 117) (dc dt_PG_keep 66 rfl) rfl ?_
    refine r_getI (q := 120) (v := σ.2.1 7 1) fl_PG_9 (dc dt_PG_keep 67 rfl) rfl ly7 rfl (by rw [e31, e27, e23]; rfl) (fun g32 => ?_)
    refine r_iconst (q := 121) (dc dt_PG_keep 68 rfl) rfl rfl ?_
    refine r_iadd (q := 122) (dc dt_PG_keep 69 rfl) rfl ?_
    obtain ⟨o35, h⟩ := h
    refine r_put (q := 125) fl_PG_9 (dc dt_PG_keep 70 rfl) rfl ly7 (fun _ => rfl) (Or.inl rfl) pf_7_1 o35 (fun σ33 e34 => ?_)
    have h := h σ33 e34
    refine r_iload (q := 127) (dc dt_PG_keep 71 rfl) rfl 4 rfl ?_
    refine r_istore_n (q := 128) (dc dt_PG_keep 72 rfl) rfl rfl (by decide) rfl ?_
    refine r_iinc (q := 131) (k := 3) (dc dt_PG_keep 73 rfl) rfl rfl (by decide) rfl ?_
    refine r_goto (q := 9) (dc dt_PG_keep 74 rfl) (by decide) ?_
    exact r_loc [2, 3, 1, 0] rfl h
  · have h := h.2 q_
    refine r_iload (q := 51) (dc dt_PG_keep 29 rfl) rfl 5 rfl ?_
    refine r_aload_n (q := 52) (dc dt_PG_keep 30 rfl) rfl rfl 0 rfl ?_
    refine r_getO (q := 55) (v := 6) fl_PG_31 (dc dt_PG_keep 31 rfl) rfl ly7 rfl ?_
    refine r_getO (q := 58) (v := 80) fl_PG_43 (dc dt_PG_keep 32 rfl) rfl ly6 rfl ?_
    refine r_iload (q := 60) (dc dt_PG_keep 33 rfl) rfl 6 rfl ?_
    obtain ⟨o36, h⟩ := h
    refine r_iald (q := 61) (v := σ.1 80 v6.toNat) (dc dt_PG_keep 34 rfl) rfl ly80 o36 rfl (fun g37 => ?_)
    refine r_aload_n (q := 62) (dc dt_PG_keep 35 rfl) rfl rfl 0 rfl ?_
    refine r_getO (q := 65) (v := 6) fl_PG_31 (dc dt_PG_keep 36 rfl) rfl ly7 rfl ?_
    refine r_getO (q := 68) (v := 81) fl_PG_46 (dc dt_PG_keep 37 rfl) rfl ly6 rfl ?_
    refine r_iload (q := 70) (dc dt_PG_keep 38 rfl) rfl 6 rfl ?_
    refine r_iald (q := 71) (v := σ.1 81 v6.toNat) (dc dt_PG_keep 39 rfl) rfl ly81 o36 rfl (fun g38 => ?_)
    refine r_iadd (q := 72) (dc dt_PG_keep 40 rfl) rfl ?_
    refine r_isub (q := 73) (dc dt_PG_keep 41 rfl) rfl ?_
    refine r_istore (q := 75) (dc dt_PG_keep 42 rfl) rfl (by decide) rfl ?_
    refine r_iinc (q := 78) (k := 6) (dc dt_PG_keep 43 rfl) rfl rfl (by decide) rfl ?_
    refine r_goto (q := 42) (dc dt_PG_keep 44 rfl) (by decide) ?_
    exact r_loc [2, 3, 4, 5, 6, 1, 0] rfl h
def tb_JS_pages : List (Nat × Instr × Nat) := [(0, .iload_n 1, 1), (1, .iconst 1, 1), (2, .sipush 2000, 3), (5, .invokestatic 134, 3), (8, .ifCond .ne 6, 3), (11, .bipush (-2), 2), (13, .ireturn, 1), (14, .aload_n 0, 1), (15, .getfield 89, 3), (18, .aload_n 0, 1), (19, .getfield 76, 3), (22, .if_icmp .eq 6, 3), (25, .bipush (-3), 2), (27, .ireturn, 1), (28, .aload_n 0, 1), (29, .getfield 62, 3), (32, .iload_n 1, 1), (33, .invokevirtual 361, 3), (36, .ifCond .ne 6, 3), (39, .bipush (-5), 2), (41, .ireturn, 1), (42, .aload_n 0, 1), (43, .getfield 62, 3), (46, .iload_n 1, 1), (47, .invokevirtual 362, 3), (50, .aload_n 0, 1), (51, .aload_n 0, 1), (52, .getfield 76, 3), (55, .putfield 92, 3), (58, .aload_n 0, 1), (59, .getfield 62, 3), (62, .getfield 365, 3), (65, .iconst 0, 1), (66, .iaload, 1), (67, .ireturn, 1)]
theorem dt_JS_pages : DT (cM m_JS_pages) tb_JS_pages := by unfold DT; decide +kernel
abbrev a_JS_pages_0 (G : GT)  (v1 : Int) (σ : St) (P : Int → St → Prop) : Prop := A G m_JS_pages 0 [(0, O 0), (1, I v1)] [] σ P
set_option maxRecDepth 20000 in
theorem k_JS_pages_0 {G : GT} {σ : St} {P : Int → St → Prop}  {v1 : Int}  
    (h : rng v1 ∧ (1 ≤ v1 → rng 2000) ∧ (1 ≤ v1 ∧ v1 ≤ 2000 → (σ.2.1 0 13 = σ.2.1 0 9 → CJ G m_PG_search [O 7, I v1] σ (fun r7 u6 => (r7 ≠ 0 → CJ G m_PG_keep [O 7, I v1] u6 (fun _ u9 => (∀ σ11, σ11 = sf u9 0 14 (u9.2.1 0 9) → P (u9.1 87 0) σ11))) ∧ (r7 = 0 → P (-5) u6))) ∧ (σ.2.1 0 13 ≠ σ.2.1 0 9 → P (-3) σ)) ∧ (¬ (1 ≤ v1 ∧ v1 ≤ 2000) → P (-2) σ)) :
    a_JS_pages_0 G v1 σ P := by
  refine r_iload_n (q := 1) (dc dt_JS_pages 0 rfl) rfl rfl 1 rfl ?_
  refine r_iconst (q := 2) (dc dt_JS_pages 1 rfl) rfl rfl ?_
  refine r_sipush (q := 5) (dc dt_JS_pages 2 rfl) rfl (by decide) ?_
  obtain ⟨o1, h⟩ := h
  obtain ⟨o2, h⟩ := h
  refine r_callSi (q := 8) mk_JS_within lm_JS_134 (RMO.of rfl) rfl (dc dt_JS_pages 3 rfl) rfl [I v1, I 1, I 2000] [] rfl rfl (Nat.le_of_ble_eq_true rfl) (sp_JS_within o1 (⟨by decide, by decide⟩ : rng 1) o2) (fun _ _ g3 z => ?_)
  obtain ⟨z, w⟩ := z
  subst z
  replace w := w.symm
  subst w
  refine r_ifb_ne (q := 11) (t := 14) (dc dt_JS_pages 4 rfl) rfl (by decide) (fun q_ => ?_) (fun q_ => ?_)
  · have h := h.1 q_
    refine r_aload_n (q := 15) (dc dt_JS_pages 7 rfl) rfl rfl 0 rfl ?_
    refine r_getI (q := 18) (v := σ.2.1 0 13) fl_JS_89 (dc dt_JS_pages 8 rfl) rfl ly0 rfl rfl (fun g4 => ?_)
    refine r_aload_n (q := 19) (dc dt_JS_pages 9 rfl) rfl rfl 0 rfl ?_
    refine r_getI (q := 22) (v := σ.2.1 0 9) fl_JS_76 (dc dt_JS_pages 10 rfl) rfl ly0 rfl rfl (fun g5 => ?_)
    refine r_icmp_eq (q := 25) (t := 28) (dc dt_JS_pages 11 rfl) rfl (by decide) g4 g5 (fun q_ => ?_) (fun q_ => ?_)
    · have h := h.1 q_
      refine r_aload_n (q := 29) (dc dt_JS_pages 14 rfl) rfl rfl 0 rfl ?_
      refine r_getO (q := 32) (v := 7) fl_JS_62 (dc dt_JS_pages 15 rfl) rfl ly0 rfl ?_
      refine r_iload_n (q := 33) (dc dt_JS_pages 16 rfl) rfl rfl 1 rfl ?_
      refine r_callVi (q := 36) mk_PG_search lm_JS_361 (RMO.of rfl) rfl (dc dt_JS_pages 17 rfl) rfl ly7 [I v1] [] rfl rfl (Nat.le_of_ble_eq_true rfl) h (fun r7 u6 g8 h => ?_)
      refine r_if_ne (q := 39) (t := 42) (dc dt_JS_pages 18 rfl) rfl (by decide) g8 (fun q_ => ?_) (fun q_ => ?_)
      · have h := h.1 q_
        refine r_aload_n (q := 43) (dc dt_JS_pages 21 rfl) rfl rfl 0 rfl ?_
        refine r_getO (q := 46) (v := 7) fl_JS_62 (dc dt_JS_pages 22 rfl) rfl ly0 rfl ?_
        refine r_iload_n (q := 47) (dc dt_JS_pages 23 rfl) rfl rfl 1 rfl ?_
        refine r_callVv (q := 50) mk_PG_keep lm_JS_362 (RMO.of rfl) rfl (dc dt_JS_pages 24 rfl) rfl ly7 [I v1] [] rfl rfl (Nat.le_of_ble_eq_true rfl) h (fun u9 h => ?_)
        refine r_aload_n (q := 51) (dc dt_JS_pages 25 rfl) rfl rfl 0 rfl ?_
        refine r_aload_n (q := 52) (dc dt_JS_pages 26 rfl) rfl rfl 0 rfl ?_
        refine r_getI (q := 55) (v := u9.2.1 0 9) fl_JS_76 (dc dt_JS_pages 27 rfl) rfl ly0 rfl rfl (fun g10 => ?_)
        refine r_put (q := 58) fl_JS_92 (dc dt_JS_pages 28 rfl) rfl ly0 (fun _ => rfl) (Or.inl rfl) pf_0_14 g10 (fun σ11 e12 => ?_)
        have h := h σ11 e12
        refine r_aload_n (q := 59) (dc dt_JS_pages 29 rfl) rfl rfl 0 rfl ?_
        refine r_getO (q := 62) (v := 7) fl_JS_62 (dc dt_JS_pages 30 rfl) rfl ly0 rfl ?_
        refine r_getO (q := 65) (v := 87) fl_JS_365 (dc dt_JS_pages 31 rfl) rfl ly7 rfl ?_
        refine r_iconst (q := 66) (dc dt_JS_pages 32 rfl) rfl rfl ?_
        refine r_iald (q := 67) (v := u9.1 87 0) (dc dt_JS_pages 33 rfl) rfl ly87 ⟨by decide, by decide⟩ (by rw [e12]; rfl) (fun g13 => ?_)
        exact r_iret rfl (dc dt_JS_pages 34 rfl) g13 h
      · have h := h.2 q_
        refine r_bipush (q := 41) (dc dt_JS_pages 19 rfl) rfl (by decide) ?_
        exact r_iret rfl (dc dt_JS_pages 20 rfl) (⟨by decide, by decide⟩ : rng (-5)) h
    · have h := h.2 q_
      refine r_bipush (q := 27) (dc dt_JS_pages 12 rfl) rfl (by decide) ?_
      exact r_iret rfl (dc dt_JS_pages 13 rfl) (⟨by decide, by decide⟩ : rng (-3)) h
  · have h := h.2 q_
    refine r_bipush (q := 13) (dc dt_JS_pages 5 rfl) rfl (by decide) ?_
    exact r_iret rfl (dc dt_JS_pages 6 rfl) (⟨by decide, by decide⟩ : rng (-2)) h
def tb_JS_page : List (Nat × Instr × Nat) := [(0, .aload_n 0, 1), (1, .getfield 92, 3), (4, .aload_n 0, 1), (5, .getfield 76, 3), (8, .if_icmp .eq 6, 3), (11, .bipush (-3), 2), (13, .ireturn, 1), (14, .iload_n 1, 1), (15, .iconst (-1), 1), (16, .if_icmp .ne 11, 3), (19, .aload_n 0, 1), (20, .getfield 62, 3), (23, .getfield 366, 3), (26, .ireturn, 1), (27, .iload_n 1, 1), (28, .iconst 0, 1), (29, .aload_n 0, 1), (30, .getfield 62, 3), (33, .getfield 366, 3), (36, .iconst 1, 1), (37, .isub, 1), (38, .invokestatic 134, 3), (41, .ifCond .ne 5, 3), (44, .iconst (-1), 1), (45, .ireturn, 1), (46, .iload_n 2, 1), (47, .tableswitch 55 0 2 #[25, 35, 45], 25), (72, .aload_n 0, 1), (73, .getfield 62, 3), (76, .getfield 367, 3), (79, .iload_n 1, 1), (80, .iaload, 1), (81, .ireturn, 1), (82, .aload_n 0, 1), (83, .getfield 62, 3), (86, .getfield 368, 3), (89, .iload_n 1, 1), (90, .iaload, 1), (91, .ireturn, 1), (92, .aload_n 0, 1), (93, .getfield 62, 3), (96, .getfield 371, 3), (99, .iload_n 1, 1), (100, .iaload, 1), (101, .ireturn, 1), (102, .bipush (-2), 2), (104, .ireturn, 1)]
theorem dt_JS_page : DT (cM m_JS_page) tb_JS_page := by unfold DT; decide +kernel
abbrev a_JS_page_0 (G : GT)  (v1 : Int) (v2 : Int) (σ : St) (P : Int → St → Prop) : Prop := A G m_JS_page 0 [(0, O 0), (1, I v1), (2, I v2)] [] σ P
set_option maxRecDepth 20000 in
theorem k_JS_page_0 {G : GT} {σ : St} {P : Int → St → Prop}  {v1 : Int} {v2 : Int}  
    (h : (σ.2.1 0 14 = σ.2.1 0 9 → rng v1 ∧ (v1 ≠ (-1) → (0 ≤ v1 → rng ((σ.2.1 7 1) - 1)) ∧ (0 ≤ v1 ∧ v1 ≤ ((σ.2.1 7 1) - 1) → rng v2 ∧ (v2 = 0 → (0 ≤ v1 ∧ v1 < 80) ∧ P (σ.1 84 v1.toNat) σ) ∧ (v2 = 1 → (0 ≤ v1 ∧ v1 < 80) ∧ P (σ.1 85 v1.toNat) σ) ∧ (v2 = 2 → (0 ≤ v1 ∧ v1 < 80) ∧ P (σ.1 86 v1.toNat) σ) ∧ ((v2 < 0 ∨ 2 < v2) → P (-2) σ)) ∧ (¬ (0 ≤ v1 ∧ v1 ≤ ((σ.2.1 7 1) - 1)) → P (-1) σ)) ∧ (v1 = (-1) → P (σ.2.1 7 1) σ)) ∧ (σ.2.1 0 14 ≠ σ.2.1 0 9 → P (-3) σ)) :
    a_JS_page_0 G v1 v2 σ P := by
  refine r_aload_n (q := 1) (dc dt_JS_page 0 rfl) rfl rfl 0 rfl ?_
  refine r_getI (q := 4) (v := σ.2.1 0 14) fl_JS_92 (dc dt_JS_page 1 rfl) rfl ly0 rfl rfl (fun g1 => ?_)
  refine r_aload_n (q := 5) (dc dt_JS_page 2 rfl) rfl rfl 0 rfl ?_
  refine r_getI (q := 8) (v := σ.2.1 0 9) fl_JS_76 (dc dt_JS_page 3 rfl) rfl ly0 rfl rfl (fun g2 => ?_)
  refine r_icmp_eq (q := 11) (t := 14) (dc dt_JS_page 4 rfl) rfl (by decide) g1 g2 (fun q_ => ?_) (fun q_ => ?_)
  · have h := h.1 q_
    refine r_iload_n (q := 15) (dc dt_JS_page 7 rfl) rfl rfl 1 rfl ?_
    refine r_iconst (q := 16) (dc dt_JS_page 8 rfl) rfl rfl ?_
    obtain ⟨o3, h⟩ := h
    refine r_icmp_ne (q := 19) (t := 27) (dc dt_JS_page 9 rfl) rfl (by decide) o3 (⟨by decide, by decide⟩ : rng (-1)) (fun q_ => ?_) (fun q_ => ?_)
    · have h := h.1 q_
      refine r_iload_n (q := 28) (dc dt_JS_page 14 rfl) rfl rfl 1 rfl ?_
      refine r_iconst (q := 29) (dc dt_JS_page 15 rfl) rfl rfl ?_
      refine r_aload_n (q := 30) (dc dt_JS_page 16 rfl) rfl rfl 0 rfl ?_
      refine r_getO (q := 33) (v := 7) fl_JS_62 (dc dt_JS_page 17 rfl) rfl ly0 rfl ?_
      refine r_getI (q := 36) (v := σ.2.1 7 1) fl_JS_366 (dc dt_JS_page 18 rfl) rfl ly7 rfl rfl (fun g4 => ?_)
      refine r_iconst (q := 37) (dc dt_JS_page 19 rfl) rfl rfl ?_
      refine r_isub (q := 38) (dc dt_JS_page 20 rfl) rfl ?_
      obtain ⟨o5, h⟩ := h
      refine r_callSi (q := 41) mk_JS_within lm_JS_134 (RMO.of rfl) rfl (dc dt_JS_page 21 rfl) rfl [I v1, I 0, I ((σ.2.1 7 1) - 1)] [] rfl rfl (Nat.le_of_ble_eq_true rfl) (sp_JS_within o3 (⟨by decide, by decide⟩ : rng 0) o5) (fun _ _ g6 z => ?_)
      obtain ⟨z, w⟩ := z
      subst z
      replace w := w.symm
      subst w
      refine r_ifb_ne (q := 44) (t := 46) (dc dt_JS_page 22 rfl) rfl (by decide) (fun q_ => ?_) (fun q_ => ?_)
      · have h := h.1 q_
        refine r_iload_n (q := 47) (dc dt_JS_page 25 rfl) rfl rfl 2 rfl ?_
        obtain ⟨o7, h⟩ := h
        by_cases qo : (v2 < 0 ∨ 2 < v2)
        · have q_ := qo
          have h := h.2.2.2 q_
          refine r_swOut (t := 102) (dc dt_JS_page 26 rfl) (by decide) o7 q_ ?_
          refine r_bipush (q := 104) (dc dt_JS_page 45 rfl) rfl (by decide) ?_
          exact r_iret rfl (dc dt_JS_page 46 rfl) (⟨by decide, by decide⟩ : rng (-2)) h
        · by_cases q_ : v2 = 0
          · have h := h.1 q_
            refine r_swIn (t := 72) (dc dt_JS_page 26 rfl) o7 (by omega) (by omega) (by rw [q_]; rfl) (by decide) ?_
            refine r_aload_n (q := 73) (dc dt_JS_page 27 rfl) rfl rfl 0 rfl ?_
            refine r_getO (q := 76) (v := 7) fl_JS_62 (dc dt_JS_page 28 rfl) rfl ly0 rfl ?_
            refine r_getO (q := 79) (v := 84) fl_JS_367 (dc dt_JS_page 29 rfl) rfl ly7 rfl ?_
            refine r_iload_n (q := 80) (dc dt_JS_page 30 rfl) rfl rfl 1 rfl ?_
            obtain ⟨o8, h⟩ := h
            refine r_iald (q := 81) (v := σ.1 84 v1.toNat) (dc dt_JS_page 31 rfl) rfl ly84 o8 rfl (fun g9 => ?_)
            exact r_iret rfl (dc dt_JS_page 32 rfl) g9 h
          · by_cases q_ : v2 = 1
            · have h := h.2.1 q_
              refine r_swIn (t := 82) (dc dt_JS_page 26 rfl) o7 (by omega) (by omega) (by rw [q_]; rfl) (by decide) ?_
              refine r_aload_n (q := 83) (dc dt_JS_page 33 rfl) rfl rfl 0 rfl ?_
              refine r_getO (q := 86) (v := 7) fl_JS_62 (dc dt_JS_page 34 rfl) rfl ly0 rfl ?_
              refine r_getO (q := 89) (v := 85) fl_JS_368 (dc dt_JS_page 35 rfl) rfl ly7 rfl ?_
              refine r_iload_n (q := 90) (dc dt_JS_page 36 rfl) rfl rfl 1 rfl ?_
              obtain ⟨o10, h⟩ := h
              refine r_iald (q := 91) (v := σ.1 85 v1.toNat) (dc dt_JS_page 37 rfl) rfl ly85 o10 rfl (fun g11 => ?_)
              exact r_iret rfl (dc dt_JS_page 38 rfl) g11 h
            · have q_ : v2 = 2 := by omega
              have h := h.2.2.1 q_
              refine r_swIn (t := 92) (dc dt_JS_page 26 rfl) o7 (by omega) (by omega) (by rw [q_]; rfl) (by decide) ?_
              refine r_aload_n (q := 93) (dc dt_JS_page 39 rfl) rfl rfl 0 rfl ?_
              refine r_getO (q := 96) (v := 7) fl_JS_62 (dc dt_JS_page 40 rfl) rfl ly0 rfl ?_
              refine r_getO (q := 99) (v := 86) fl_JS_371 (dc dt_JS_page 41 rfl) rfl ly7 rfl ?_
              refine r_iload_n (q := 100) (dc dt_JS_page 42 rfl) rfl rfl 1 rfl ?_
              obtain ⟨o12, h⟩ := h
              refine r_iald (q := 101) (v := σ.1 86 v1.toNat) (dc dt_JS_page 43 rfl) rfl ly86 o12 rfl (fun g13 => ?_)
              exact r_iret rfl (dc dt_JS_page 44 rfl) g13 h
      · have h := h.2 q_
        refine r_iconst (q := 45) (dc dt_JS_page 23 rfl) rfl rfl ?_
        exact r_iret rfl (dc dt_JS_page 24 rfl) (⟨by decide, by decide⟩ : rng (-1)) h
    · have h := h.2 q_
      refine r_aload_n (q := 20) (dc dt_JS_page 10 rfl) rfl rfl 0 rfl ?_
      refine r_getO (q := 23) (v := 7) fl_JS_62 (dc dt_JS_page 11 rfl) rfl ly0 rfl ?_
      refine r_getI (q := 26) (v := σ.2.1 7 1) fl_JS_366 (dc dt_JS_page 12 rfl) rfl ly7 rfl rfl (fun g14 => ?_)
      exact r_iret rfl (dc dt_JS_page 13 rfl) g14 h
  · have h := h.2 q_
    refine r_bipush (q := 13) (dc dt_JS_page 5 rfl) rfl (by decide) ?_
    exact r_iret rfl (dc dt_JS_page 6 rfl) (⟨by decide, by decide⟩ : rng (-3)) h
def tb_JS_told : List (Nat × Instr × Nat) := [(0, .iload_n 1, 1), (1, .tableswitch 87 0 5 #[39, 47, 55, 63, 71, 79], 39), (40, .aload_n 0, 1), (41, .getfield 10, 3), (44, .getfield 101, 3), (47, .ireturn, 1), (48, .aload_n 0, 1), (49, .getfield 10, 3), (52, .getfield 137, 3), (55, .ireturn, 1), (56, .aload_n 0, 1), (57, .getfield 10, 3), (60, .getfield 116, 3), (63, .ireturn, 1), (64, .aload_n 0, 1), (65, .getfield 19, 3), (68, .getfield 161, 3), (71, .ireturn, 1), (72, .aload_n 0, 1), (73, .getfield 19, 3), (76, .getfield 184, 3), (79, .ireturn, 1), (80, .aload_n 0, 1), (81, .getfield 26, 3), (84, .getfield 324, 3), (87, .ireturn, 1), (88, .bipush (-2), 2), (90, .ireturn, 1)]
theorem dt_JS_told : DT (cM m_JS_told) tb_JS_told := by unfold DT; decide +kernel
abbrev a_JS_told_0 (G : GT)  (v1 : Int) (σ : St) (P : Int → St → Prop) : Prop := A G m_JS_told 0 [(0, O 0), (1, I v1)] [] σ P
set_option maxRecDepth 20000 in
theorem k_JS_told_0 {G : GT} {σ : St} {P : Int → St → Prop}  {v1 : Int}  
    (h : rng v1 ∧ (v1 = 0 → P (σ.2.1 1 0) σ) ∧ (v1 = 1 → P (σ.2.1 1 2) σ) ∧ (v1 = 2 → P (σ.2.1 1 1) σ) ∧ (v1 = 3 → P (σ.2.1 2 0) σ) ∧ (v1 = 4 → P (σ.2.1 2 1) σ) ∧ (v1 = 5 → P (σ.2.1 3 0) σ) ∧ ((v1 < 0 ∨ 5 < v1) → P (-2) σ)) :
    a_JS_told_0 G v1 σ P := by
  refine r_iload_n (q := 1) (dc dt_JS_told 0 rfl) rfl rfl 1 rfl ?_
  obtain ⟨o1, h⟩ := h
  by_cases qo : (v1 < 0 ∨ 5 < v1)
  · have q_ := qo
    have h := h.2.2.2.2.2.2 q_
    refine r_swOut (t := 88) (dc dt_JS_told 1 rfl) (by decide) o1 q_ ?_
    refine r_bipush (q := 90) (dc dt_JS_told 26 rfl) rfl (by decide) ?_
    exact r_iret rfl (dc dt_JS_told 27 rfl) (⟨by decide, by decide⟩ : rng (-2)) h
  · by_cases q_ : v1 = 0
    · have h := h.1 q_
      refine r_swIn (t := 40) (dc dt_JS_told 1 rfl) o1 (by omega) (by omega) (by rw [q_]; rfl) (by decide) ?_
      refine r_aload_n (q := 41) (dc dt_JS_told 2 rfl) rfl rfl 0 rfl ?_
      refine r_getO (q := 44) (v := 1) fl_JS_10 (dc dt_JS_told 3 rfl) rfl ly0 rfl ?_
      refine r_getI (q := 47) (v := σ.2.1 1 0) fl_JS_101 (dc dt_JS_told 4 rfl) rfl ly1 rfl rfl (fun g2 => ?_)
      exact r_iret rfl (dc dt_JS_told 5 rfl) g2 h
    · by_cases q_ : v1 = 1
      · have h := h.2.1 q_
        refine r_swIn (t := 48) (dc dt_JS_told 1 rfl) o1 (by omega) (by omega) (by rw [q_]; rfl) (by decide) ?_
        refine r_aload_n (q := 49) (dc dt_JS_told 6 rfl) rfl rfl 0 rfl ?_
        refine r_getO (q := 52) (v := 1) fl_JS_10 (dc dt_JS_told 7 rfl) rfl ly0 rfl ?_
        refine r_getI (q := 55) (v := σ.2.1 1 2) fl_JS_137 (dc dt_JS_told 8 rfl) rfl ly1 rfl rfl (fun g3 => ?_)
        exact r_iret rfl (dc dt_JS_told 9 rfl) g3 h
      · by_cases q_ : v1 = 2
        · have h := h.2.2.1 q_
          refine r_swIn (t := 56) (dc dt_JS_told 1 rfl) o1 (by omega) (by omega) (by rw [q_]; rfl) (by decide) ?_
          refine r_aload_n (q := 57) (dc dt_JS_told 10 rfl) rfl rfl 0 rfl ?_
          refine r_getO (q := 60) (v := 1) fl_JS_10 (dc dt_JS_told 11 rfl) rfl ly0 rfl ?_
          refine r_getI (q := 63) (v := σ.2.1 1 1) fl_JS_116 (dc dt_JS_told 12 rfl) rfl ly1 rfl rfl (fun g4 => ?_)
          exact r_iret rfl (dc dt_JS_told 13 rfl) g4 h
        · by_cases q_ : v1 = 3
          · have h := h.2.2.2.1 q_
            refine r_swIn (t := 64) (dc dt_JS_told 1 rfl) o1 (by omega) (by omega) (by rw [q_]; rfl) (by decide) ?_
            refine r_aload_n (q := 65) (dc dt_JS_told 14 rfl) rfl rfl 0 rfl ?_
            refine r_getO (q := 68) (v := 2) fl_JS_19 (dc dt_JS_told 15 rfl) rfl ly0 rfl ?_
            refine r_getI (q := 71) (v := σ.2.1 2 0) fl_JS_161 (dc dt_JS_told 16 rfl) rfl ly2 rfl rfl (fun g5 => ?_)
            exact r_iret rfl (dc dt_JS_told 17 rfl) g5 h
          · by_cases q_ : v1 = 4
            · have h := h.2.2.2.2.1 q_
              refine r_swIn (t := 72) (dc dt_JS_told 1 rfl) o1 (by omega) (by omega) (by rw [q_]; rfl) (by decide) ?_
              refine r_aload_n (q := 73) (dc dt_JS_told 18 rfl) rfl rfl 0 rfl ?_
              refine r_getO (q := 76) (v := 2) fl_JS_19 (dc dt_JS_told 19 rfl) rfl ly0 rfl ?_
              refine r_getI (q := 79) (v := σ.2.1 2 1) fl_JS_184 (dc dt_JS_told 20 rfl) rfl ly2 rfl rfl (fun g6 => ?_)
              exact r_iret rfl (dc dt_JS_told 21 rfl) g6 h
            · have q_ : v1 = 5 := by omega
              have h := h.2.2.2.2.2.1 q_
              refine r_swIn (t := 80) (dc dt_JS_told 1 rfl) o1 (by omega) (by omega) (by rw [q_]; rfl) (by decide) ?_
              refine r_aload_n (q := 81) (dc dt_JS_told 22 rfl) rfl rfl 0 rfl ?_
              refine r_getO (q := 84) (v := 3) fl_JS_26 (dc dt_JS_told 23 rfl) rfl ly0 rfl ?_
              refine r_getI (q := 87) (v := σ.2.1 3 0) fl_JS_324 (dc dt_JS_told 24 rfl) rfl ly3 rfl rfl (fun g7 => ?_)
              exact r_iret rfl (dc dt_JS_told 25 rfl) g7 h
def tb_MO_in : List (Nat × Instr × Nat) := [(0, .lload_n 0, 1), (1, .lload_n 2, 1), (2, .lcmp, 1), (3, .ifCond .lt 14, 3), (6, .lload_n 0, 1), (7, .lload 4, 2), (9, .lcmp, 1), (10, .ifCond .gt 7, 3), (13, .iconst 1, 1), (14, .goto 4, 3), (17, .iconst 0, 1), (18, .ireturn, 1)]
theorem dt_MO_in : DT (cM m_MO_in) tb_MO_in := by unfold DT; decide +kernel
abbrev a_MO_in_0 (G : GT)  (v0 : Int) (v2 : Int) (v4 : Int) (σ : St) (P : Int → St → Prop) : Prop := A G m_MO_in 0 [(0, J v0), (2, J v2), (4, J v4)] [] σ P
set_option maxRecDepth 20000 in
theorem k_MO_in_0 {G : GT} {σ : St} {P : Int → St → Prop}  {v0 : Int} {v2 : Int} {v4 : Int}  (h0 : rng v0) (h2 : rng v2) (h4 : rng v4)
    (h : P (if v2 ≤ v0 ∧ v0 ≤ v4 then 1 else 0) σ) :
    a_MO_in_0 G v0 v2 v4 σ P := by
  refine r_lload_n (q := 1) (dc dt_MO_in 0 rfl) rfl rfl 0 rfl ?_
  refine r_lload_n (q := 2) (dc dt_MO_in 1 rfl) rfl rfl 1 rfl ?_
  refine r_lcmp (q := 3) (dc dt_MO_in 2 rfl) rfl h0 h2 ?_
  have hJ : ∀ (w_0 : Int), w_0 = (if v2 ≤ v0 ∧ v0 ≤ v4 then 1 else 0) → A G m_MO_in 18 [(0, J v0), (2, J v2), (4, J v4)] [I w_0] σ P := by
    intro w_0 z_0
    subst z_0
    exact r_zret rfl (dc dt_MO_in 11 rfl) b01_or h
  clear h
  refine r_ifc_lt (q := 6) (t := 17) (dc dt_MO_in 3 rfl) rfl (by decide) (fun q_ => ?_) (fun q_ => ?_)
  · have q1 := q_
    refine r_iconst (q := 18) (dc dt_MO_in 10 rfl) rfl rfl ?_
    exact (hJ 0 ((if_neg (by first | omega | grind)).symm))
  · have q1 := q_
    refine r_lload_n (q := 7) (dc dt_MO_in 4 rfl) rfl rfl 0 rfl ?_
    refine r_lload (q := 9) (dc dt_MO_in 5 rfl) rfl 2 rfl ?_
    refine r_lcmp (q := 10) (dc dt_MO_in 6 rfl) rfl h0 h4 ?_
    refine r_ifc_gt (q := 13) (t := 17) (dc dt_MO_in 7 rfl) rfl (by decide) (fun q_ => ?_) (fun q_ => ?_)
    · have q2 := q_
      refine r_iconst (q := 18) (dc dt_MO_in 10 rfl) rfl rfl ?_
      exact (hJ 0 ((if_neg (by first | omega | grind)).symm))
    · have q2 := q_
      refine r_iconst (q := 14) (dc dt_MO_in 8 rfl) rfl rfl ?_
      refine r_goto (q := 18) (dc dt_MO_in 9 rfl) (by decide) ?_
      exact (hJ 1 ((if_pos (by first | omega | grind)).symm))
set_option maxRecDepth 20000 in
theorem sp_MO_in {G : GT} {σ : St} {v0 : Int} {v2 : Int} {v4 : Int} (h0 : rng v0) (h2 : rng v2) (h4 : rng v4)  : CJ G m_MO_in [J v0, J v2, J v4] σ (fun r u => r = (if v2 ≤ v0 ∧ v0 ≤ v4 then 1 else 0) ∧ u = σ) := by
  refine CJ.intro (by decide) (by simp [catA]; decide) (fun _ => k_MO_in_0 h0 h2 h4 ?_)
  exact ⟨rfl, rfl⟩
def tb_MO_isLetter : List (Nat × Instr × Nat) := [(0, .iload_n 1, 1), (1, .i2l, 1), (2, .lconst 0, 1), (3, .aload_n 0, 1), (4, .getfield 249, 3), (7, .iconst 1, 1), (8, .isub, 1), (9, .i2l, 1), (10, .invokestatic 253, 3), (13, .ireturn, 1)]
theorem dt_MO_isLetter : DT (cM m_MO_isLetter) tb_MO_isLetter := by unfold DT; decide +kernel
abbrev a_MO_isLetter_0 (G : GT)  (v1 : Int) (σ : St) (P : Int → St → Prop) : Prop := A G m_MO_isLetter 0 [(0, O 8), (1, I v1)] [] σ P
set_option maxRecDepth 20000 in
theorem k_MO_isLetter_0 {G : GT} {σ : St} {P : Int → St → Prop}  {v1 : Int}  
    (h : rng v1 ∧ rng ((σ.2.1 8 6) - 1) ∧ P (if 0 ≤ v1 ∧ v1 ≤ ((σ.2.1 8 6) - 1) then 1 else 0) σ) :
    a_MO_isLetter_0 G v1 σ P := by
  refine r_iload_n (q := 1) (dc dt_MO_isLetter 0 rfl) rfl rfl 1 rfl ?_
  obtain ⟨o1, h⟩ := h
  refine r_i2l (q := 2) (dc dt_MO_isLetter 1 rfl) rfl o1 ?_
  refine r_lconst (q := 3) (n := 0) (dc dt_MO_isLetter 2 rfl) rfl rfl ?_
  refine r_aload_n (q := 4) (dc dt_MO_isLetter 3 rfl) rfl rfl 0 rfl ?_
  refine r_getI (q := 7) (v := σ.2.1 8 6) fl_MO_249 (dc dt_MO_isLetter 4 rfl) rfl ly8 rfl rfl (fun g2 => ?_)
  refine r_iconst (q := 8) (dc dt_MO_isLetter 5 rfl) rfl rfl ?_
  refine r_isub (q := 9) (dc dt_MO_isLetter 6 rfl) rfl ?_
  obtain ⟨o3, h⟩ := h
  refine r_i2l (q := 10) (dc dt_MO_isLetter 7 rfl) rfl o3 ?_
  refine r_callSi (q := 13) mk_MO_in lm_MO_253 (RMO.of rfl) rfl (dc dt_MO_isLetter 8 rfl) rfl [J v1, J 0, J ((σ.2.1 8 6) - 1)] [] rfl rfl (Nat.le_of_ble_eq_true rfl) (sp_MO_in o1 (⟨by decide, by decide⟩ : rng 0) o3) (fun _ _ g4 z => ?_)
  obtain ⟨z, w⟩ := z
  subst z
  replace w := w.symm
  subst w
  exact r_zret rfl (dc dt_MO_isLetter 9 rfl) b01_or h
set_option maxRecDepth 20000 in
theorem sp_MO_isLetter {G : GT} {σ : St} {v1 : Int}  (j0 : rng v1) (j1 : rng ((σ.2.1 8 6) - 1)) : CJ G m_MO_isLetter [O 8, I v1] σ (fun r u => r = (if 0 ≤ v1 ∧ v1 ≤ ((σ.2.1 8 6) - 1) then 1 else 0) ∧ u = σ) := by
  refine CJ.intro (by decide) (by simp [catA]; decide) (fun _ => k_MO_isLetter_0  ?_)
  refine ⟨by first | assumption | omega | grind, ?_⟩
  refine ⟨by first | assumption | omega | grind, ?_⟩
  exact ⟨rfl, rfl⟩
def tb_MO_isForm : List (Nat × Instr × Nat) := [(0, .iload_n 1, 1), (1, .i2l, 1), (2, .lconst 0, 1), (3, .aload_n 0, 1), (4, .getfield 257, 3), (7, .iconst 1, 1), (8, .isub, 1), (9, .i2l, 1), (10, .invokestatic 253, 3), (13, .ireturn, 1)]
theorem dt_MO_isForm : DT (cM m_MO_isForm) tb_MO_isForm := by unfold DT; decide +kernel
abbrev a_MO_isForm_0 (G : GT)  (v1 : Int) (σ : St) (P : Int → St → Prop) : Prop := A G m_MO_isForm 0 [(0, O 8), (1, I v1)] [] σ P
set_option maxRecDepth 20000 in
theorem k_MO_isForm_0 {G : GT} {σ : St} {P : Int → St → Prop}  {v1 : Int}  
    (h : rng v1 ∧ rng ((σ.2.1 8 17) - 1) ∧ P (if 0 ≤ v1 ∧ v1 ≤ ((σ.2.1 8 17) - 1) then 1 else 0) σ) :
    a_MO_isForm_0 G v1 σ P := by
  refine r_iload_n (q := 1) (dc dt_MO_isForm 0 rfl) rfl rfl 1 rfl ?_
  obtain ⟨o1, h⟩ := h
  refine r_i2l (q := 2) (dc dt_MO_isForm 1 rfl) rfl o1 ?_
  refine r_lconst (q := 3) (n := 0) (dc dt_MO_isForm 2 rfl) rfl rfl ?_
  refine r_aload_n (q := 4) (dc dt_MO_isForm 3 rfl) rfl rfl 0 rfl ?_
  refine r_getI (q := 7) (v := σ.2.1 8 17) fl_MO_257 (dc dt_MO_isForm 4 rfl) rfl ly8 rfl rfl (fun g2 => ?_)
  refine r_iconst (q := 8) (dc dt_MO_isForm 5 rfl) rfl rfl ?_
  refine r_isub (q := 9) (dc dt_MO_isForm 6 rfl) rfl ?_
  obtain ⟨o3, h⟩ := h
  refine r_i2l (q := 10) (dc dt_MO_isForm 7 rfl) rfl o3 ?_
  refine r_callSi (q := 13) mk_MO_in lm_MO_253 (RMO.of rfl) rfl (dc dt_MO_isForm 8 rfl) rfl [J v1, J 0, J ((σ.2.1 8 17) - 1)] [] rfl rfl (Nat.le_of_ble_eq_true rfl) (sp_MO_in o1 (⟨by decide, by decide⟩ : rng 0) o3) (fun _ _ g4 z => ?_)
  obtain ⟨z, w⟩ := z
  subst z
  replace w := w.symm
  subst w
  exact r_zret rfl (dc dt_MO_isForm 9 rfl) b01_or h
set_option maxRecDepth 20000 in
theorem sp_MO_isForm {G : GT} {σ : St} {v1 : Int}  (j0 : rng v1) (j1 : rng ((σ.2.1 8 17) - 1)) : CJ G m_MO_isForm [O 8, I v1] σ (fun r u => r = (if 0 ≤ v1 ∧ v1 ≤ ((σ.2.1 8 17) - 1) then 1 else 0) ∧ u = σ) := by
  refine CJ.intro (by decide) (by simp [catA]; decide) (fun _ => k_MO_isForm_0  ?_)
  refine ⟨by first | assumption | omega | grind, ?_⟩
  refine ⟨by first | assumption | omega | grind, ?_⟩
  exact ⟨rfl, rfl⟩
def tb_MO_changed : List (Nat × Instr × Nat) := [(0, .aload_n 0, 1), (1, .iconst 0, 1), (2, .putfield 260, 3), (5, .aload_n 0, 1), (6, .iconst 0, 1), (7, .putfield 264, 3), (10, .aload_n 0, 1), (11, .iconst 0, 1), (12, .putfield 267, 3), (15, .aload_n 0, 1), (16, .iconst 0, 1), (17, .putfield 270, 3), (20, .aload_n 0, 1), (21, .iconst 0, 1), (22, .putfield 273, 3), (25, .return_, 1)]
theorem dt_MO_changed : DT (cM m_MO_changed) tb_MO_changed := by unfold DT; decide +kernel
abbrev a_MO_changed_0 (G : GT)   (σ : St) (P : Int → St → Prop) : Prop := A G m_MO_changed 0 [(0, O 8)] [] σ P
set_option maxRecDepth 20000 in
theorem k_MO_changed_0 {G : GT} {σ : St} {P : Int → St → Prop}    
    (h : (∀ σ1, σ1 = sf σ 8 68 0 → (∀ σ3, σ3 = sf σ1 8 91 0 → (∀ σ5, σ5 = sf σ3 8 100 0 → (∀ σ7, σ7 = sf σ5 8 109 0 → (∀ σ9, σ9 = sf σ7 8 26 0 → P 0 σ9)))))) :
    a_MO_changed_0 G  σ P := by
  refine r_aload_n (q := 1) (dc dt_MO_changed 0 rfl) rfl rfl 0 rfl ?_
  refine r_iconst (q := 2) (dc dt_MO_changed 1 rfl) rfl rfl ?_
  refine r_put (q := 5) fl_MO_260 (dc dt_MO_changed 2 rfl) rfl ly8 (fun _ => rfl) (Or.inr ⟨rfl, (by decide)⟩) pf_8_68 (⟨by decide, by decide⟩ : rng 0) (fun σ1 e2 => ?_)
  have h := h σ1 e2
  refine r_aload_n (q := 6) (dc dt_MO_changed 3 rfl) rfl rfl 0 rfl ?_
  refine r_iconst (q := 7) (dc dt_MO_changed 4 rfl) rfl rfl ?_
  refine r_put (q := 10) fl_MO_264 (dc dt_MO_changed 5 rfl) rfl ly8 (fun _ => rfl) (Or.inr ⟨rfl, (by decide)⟩) pf_8_91 (⟨by decide, by decide⟩ : rng 0) (fun σ3 e4 => ?_)
  have h := h σ3 e4
  refine r_aload_n (q := 11) (dc dt_MO_changed 6 rfl) rfl rfl 0 rfl ?_
  refine r_iconst (q := 12) (dc dt_MO_changed 7 rfl) rfl rfl ?_
  refine r_put (q := 15) fl_MO_267 (dc dt_MO_changed 8 rfl) rfl ly8 (fun _ => rfl) (Or.inr ⟨rfl, (by decide)⟩) pf_8_100 (⟨by decide, by decide⟩ : rng 0) (fun σ5 e6 => ?_)
  have h := h σ5 e6
  refine r_aload_n (q := 16) (dc dt_MO_changed 9 rfl) rfl rfl 0 rfl ?_
  refine r_iconst (q := 17) (dc dt_MO_changed 10 rfl) rfl rfl ?_
  refine r_put (q := 20) fl_MO_270 (dc dt_MO_changed 11 rfl) rfl ly8 (fun _ => rfl) (Or.inr ⟨rfl, (by decide)⟩) pf_8_109 (⟨by decide, by decide⟩ : rng 0) (fun σ7 e8 => ?_)
  have h := h σ7 e8
  refine r_aload_n (q := 21) (dc dt_MO_changed 12 rfl) rfl rfl 0 rfl ?_
  refine r_iconst (q := 22) (dc dt_MO_changed 13 rfl) rfl rfl ?_
  refine r_put (q := 25) fl_MO_273 (dc dt_MO_changed 14 rfl) rfl ly8 (fun _ => rfl) (Or.inr ⟨rfl, (by decide)⟩) pf_8_26 (⟨by decide, by decide⟩ : rng 0) (fun σ9 e10 => ?_)
  have h := h σ9 e10
  exact r_vret rfl (dc dt_MO_changed 15 rfl) h
def tb_MO_newLetter : List (Nat × Instr × Nat) := [(0, .aload_n 0, 1), (1, .getfield 7, 3), (4, .aload_n 0, 1), (5, .getfield 249, 3), (8, .iload_n 1, 1), (9, .iastore, 1), (10, .aload_n 0, 1), (11, .getfield 26, 3), (14, .aload_n 0, 1), (15, .getfield 249, 3), (18, .iconst 0, 1), (19, .bastore, 1), (20, .iconst 0, 1), (21, .istore_n 2, 1), (22, .iload_n 2, 1), (23, .iconst 4, 1), (24, .if_icmp .ge 23, 3), (27, .aload_n 0, 1), (28, .getfield 59, 3), (31, .iconst 4, 1), (32, .aload_n 0, 1), (33, .getfield 249, 3), (36, .imul, 1), (37, .iload_n 2, 1), (38, .iadd, 1), (39, .iconst 0, 1), (40, .iastore, 1), (41, .iinc 2 1, 3), (44, .goto (-22), 3), (47, .aload_n 0, 1), (48, .dup, 1), (49, .getfield 249, 3), (52, .iconst 1, 1), (53, .iadd, 1), (54, .putfield 249, 3), (57, .aload_n 0, 1), (58, .invokevirtual 276, 3), (61, .aload_n 0, 1), (62, .getfield 249, 3), (65, .iconst 1, 1), (66, .isub, 1), (67, .ireturn, 1)]
theorem dt_MO_newLetter : DT (cM m_MO_newLetter) tb_MO_newLetter := by unfold DT; decide +kernel
abbrev a_MO_newLetter_0 (G : GT)  (v1 : Int) (σ : St) (P : Int → St → Prop) : Prop := A G m_MO_newLetter 0 [(0, O 8), (1, I v1)] [] σ P
abbrev a_MO_newLetter_22 (G : GT)  (v2 : Int) (σ : St) (P : Int → St → Prop) : Prop := A G m_MO_newLetter 22 [(0, O 8), (2, I v2)] [] σ P
set_option maxRecDepth 20000 in
theorem k_MO_newLetter_0 {G : GT} {σ : St} {P : Int → St → Prop}  {v1 : Int}  
    (h : (0 ≤ σ.2.1 8 6 ∧ σ.2.1 8 6 < 60) ∧ rng v1 ∧ (∀ σ4, σ4 = sa σ 89 ((σ.2.1 8 6).toNat) v1 → (∀ σ7, σ7 = sa σ4 94 ((σ.2.1 8 6).toNat) 0 → a_MO_newLetter_22 G 0 σ7 P))) :
    a_MO_newLetter_0 G v1 σ P := by
  refine r_aload_n (q := 1) (dc dt_MO_newLetter 0 rfl) rfl rfl 0 rfl ?_
  refine r_getO (q := 4) (v := 89) fl_MO_7 (dc dt_MO_newLetter 1 rfl) rfl ly8 rfl ?_
  refine r_aload_n (q := 5) (dc dt_MO_newLetter 2 rfl) rfl rfl 0 rfl ?_
  refine r_getI (q := 8) (v := σ.2.1 8 6) fl_MO_249 (dc dt_MO_newLetter 3 rfl) rfl ly8 rfl rfl (fun g1 => ?_)
  refine r_iload_n (q := 9) (dc dt_MO_newLetter 4 rfl) rfl rfl 1 rfl ?_
  obtain ⟨o2, h⟩ := h
  obtain ⟨o3, h⟩ := h
  refine r_iast (q := 10) (dc dt_MO_newLetter 5 rfl) rfl ly89 o2 o3 (fun σ4 e5 => ?_)
  have h := h σ4 e5
  refine r_aload_n (q := 11) (dc dt_MO_newLetter 6 rfl) rfl rfl 0 rfl ?_
  refine r_getO (q := 14) (v := 94) fl_MO_26 (dc dt_MO_newLetter 7 rfl) rfl ly8 rfl ?_
  refine r_aload_n (q := 15) (dc dt_MO_newLetter 8 rfl) rfl rfl 0 rfl ?_
  refine r_getI (q := 18) (v := σ.2.1 8 6) fl_MO_249 (dc dt_MO_newLetter 9 rfl) rfl ly8 rfl (by rw [e5]; rfl) (fun g6 => ?_)
  refine r_iconst (q := 19) (dc dt_MO_newLetter 10 rfl) rfl rfl ?_
  refine r_zast (q := 20) (dc dt_MO_newLetter 11 rfl) rfl ly94 o2 (by decide) (fun σ7 e8 => ?_)
  have h := h σ7 e8
  refine r_iconst (q := 21) (dc dt_MO_newLetter 12 rfl) rfl rfl ?_
  refine r_istore_n (q := 22) (dc dt_MO_newLetter 13 rfl) rfl rfl (by decide) rfl ?_
  exact r_loc [1, 0] rfl h
set_option maxRecDepth 20000 in
theorem k_MO_newLetter_22 {G : GT} {σ : St} {P : Int → St → Prop}  {v2 : Int}  
    (h : rng v2 ∧ (4 ≤ v2 → rng ((σ.2.1 8 6) + 1) ∧ (∀ σ12, σ12 = sf σ 8 6 ((σ.2.1 8 6) + 1) → CJ G m_MO_changed [O 8] σ12 (fun _ u15 => rng ((u15.2.1 8 6) - 1) ∧ P ((u15.2.1 8 6) - 1) u15))) ∧ (v2 < 4 → (0 ≤ (4 * (σ.2.1 8 6)) + v2 ∧ (4 * (σ.2.1 8 6)) + v2 < 240) ∧ (∀ σ20, σ20 = sa σ 105 (((4 * (σ.2.1 8 6)) + v2).toNat) 0 → a_MO_newLetter_22 G (v2 + 1) σ20 P))) :
    a_MO_newLetter_22 G v2 σ P := by
  refine r_iload_n (q := 23) (dc dt_MO_newLetter 14 rfl) rfl rfl 1 rfl ?_
  refine r_iconst (q := 24) (dc dt_MO_newLetter 15 rfl) rfl rfl ?_
  obtain ⟨o9, h⟩ := h
  refine r_icmp_ge (q := 27) (t := 47) (dc dt_MO_newLetter 16 rfl) rfl (by decide) o9 (⟨by decide, by decide⟩ : rng 4) (fun q_ => ?_) (fun q_ => ?_)
  · have h := h.1 q_
    refine r_aload_n (q := 48) (dc dt_MO_newLetter 29 rfl) rfl rfl 0 rfl ?_
    refine r_dupo (q := 49) (dc dt_MO_newLetter 30 rfl) rfl ?_
    refine r_getI (q := 52) (v := σ.2.1 8 6) fl_MO_249 (dc dt_MO_newLetter 31 rfl) rfl ly8 rfl rfl (fun g11 => ?_)
    refine r_iconst (q := 53) (dc dt_MO_newLetter 32 rfl) rfl rfl ?_
    refine r_iadd (q := 54) (dc dt_MO_newLetter 33 rfl) rfl ?_
    obtain ⟨o14, h⟩ := h
    refine r_put (q := 57) fl_MO_249 (dc dt_MO_newLetter 34 rfl) rfl ly8 (fun _ => rfl) (Or.inl rfl) pf_8_6 o14 (fun σ12 e13 => ?_)
    have h := h σ12 e13
    refine r_aload_n (q := 58) (dc dt_MO_newLetter 35 rfl) rfl rfl 0 rfl ?_
    refine r_callVv (q := 61) mk_MO_changed lm_MO_276 (RMO.of rfl) rfl (dc dt_MO_newLetter 36 rfl) rfl ly8 [] [] rfl rfl (Nat.le_of_ble_eq_true rfl) h (fun u15 h => ?_)
    refine r_aload_n (q := 62) (dc dt_MO_newLetter 37 rfl) rfl rfl 0 rfl ?_
    refine r_getI (q := 65) (v := u15.2.1 8 6) fl_MO_249 (dc dt_MO_newLetter 38 rfl) rfl ly8 rfl rfl (fun g16 => ?_)
    refine r_iconst (q := 66) (dc dt_MO_newLetter 39 rfl) rfl rfl ?_
    refine r_isub (q := 67) (dc dt_MO_newLetter 40 rfl) rfl ?_
    obtain ⟨o17, h⟩ := h
    exact r_iret rfl (dc dt_MO_newLetter 41 rfl) o17 h
  · have h := h.2 q_
    refine r_aload_n (q := 28) (dc dt_MO_newLetter 17 rfl) rfl rfl 0 rfl ?_
    refine r_getO (q := 31) (v := 105) fl_MO_59 (dc dt_MO_newLetter 18 rfl) rfl ly8 rfl ?_
    refine r_iconst (q := 32) (dc dt_MO_newLetter 19 rfl) rfl rfl ?_
    refine r_aload_n (q := 33) (dc dt_MO_newLetter 20 rfl) rfl rfl 0 rfl ?_
    refine r_getI (q := 36) (v := σ.2.1 8 6) fl_MO_249 (dc dt_MO_newLetter 21 rfl) rfl ly8 rfl rfl (fun g18 => ?_)
    refine r_imul (q := 37) (dc dt_MO_newLetter 22 rfl) rfl ?_
    refine r_iload_n (q := 38) (dc dt_MO_newLetter 23 rfl) rfl rfl 1 rfl ?_
    refine r_iadd (q := 39) (dc dt_MO_newLetter 24 rfl) rfl ?_
    refine r_iconst (q := 40) (dc dt_MO_newLetter 25 rfl) rfl rfl ?_
    obtain ⟨o19, h⟩ := h
    refine r_iast (q := 41) (dc dt_MO_newLetter 26 rfl) rfl ly105 o19 (⟨by decide, by decide⟩ : rng 0) (fun σ20 e21 => ?_)
    have h := h σ20 e21
    refine r_iinc (q := 44) (k := 1) (dc dt_MO_newLetter 27 rfl) rfl rfl (by decide) rfl ?_
    refine r_goto (q := 22) (dc dt_MO_newLetter 28 rfl) (by decide) ?_
    exact r_loc [1, 0] rfl h
