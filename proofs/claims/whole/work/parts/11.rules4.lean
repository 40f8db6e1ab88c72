theorem fl_CL_15 : FL R_CL 15 3 1 := FL.of rfl (by decide) rfl 205 (by decide +kernel)
theorem fl_CL_19 : FL R_CL 19 4 0 := FL.of rfl (by decide) rfl 218 (by decide +kernel)
theorem fl_CL_42 : FL R_CL 42 4 8 := FL.of rfl (by decide) rfl 235 (by decide +kernel)
theorem fl_CL_50 : FL R_CL 50 1 10 := FL.of rfl (by decide) rfl 131 (by decide +kernel)
theorem fl_CL_64 : FL R_CL 64 1 5 := FL.of rfl (by decide) rfl 114 (by decide +kernel)
theorem fl_CL_71 : FL R_CL 71 9 2 := FL.of rfl (by decide) rfl 484 (by decide +kernel)
theorem fl_CL_74 : FL R_CL 74 9 3 := FL.of rfl (by decide) rfl 487 (by decide +kernel)
theorem fl_CL_81 : FL R_CL 81 9 10 := FL.of rfl (by decide) rfl 504 (by decide +kernel)
theorem fl_CL_85 : FL R_CL 85 10 0 := FL.of rfl (by decide) rfl 430 (by decide +kernel)
theorem fl_CL_88 : FL R_CL 88 4 7 := FL.of rfl (by decide) rfl 232 (by decide +kernel)
theorem fl_CL_9 : FL R_CL 9 3 0 := FL.of rfl (by decide) rfl 203 (by decide +kernel)
theorem fl_CL_91 : FL R_CL 91 9 7 := FL.of rfl (by decide) rfl 497 (by decide +kernel)
theorem fl_CL_94 : FL R_CL 94 1 6 := FL.of rfl (by decide) rfl 120 (by decide +kernel)
theorem fl_CL_97 : FL R_CL 97 9 6 := FL.of rfl (by decide) rfl 494 (by decide +kernel)
theorem fl_JS_222 : FL R_JS 222 4 9 := FL.of rfl (by decide) rfl 239 (by decide +kernel)
theorem fl_JS_225 : FL R_JS 225 4 10 := FL.of rfl (by decide) rfl 242 (by decide +kernel)
theorem fl_JS_254 : FL R_JS 254 9 2 := FL.of rfl (by decide) rfl 485 (by decide +kernel)
theorem fl_JS_257 : FL R_JS 257 9 10 := FL.of rfl (by decide) rfl 505 (by decide +kernel)
theorem fl_JS_26 : FL R_JS 26 0 2 := FL.of rfl (by decide) rfl 535 (by decide +kernel)
theorem fl_JS_261 : FL R_JS 261 10 0 := FL.of rfl (by decide) rfl 431 (by decide +kernel)
theorem fl_JS_264 : FL R_JS 264 9 3 := FL.of rfl (by decide) rfl 488 (by decide +kernel)
theorem fl_JS_267 : FL R_JS 267 9 11 := FL.of rfl (by decide) rfl 507 (by decide +kernel)
theorem fl_JS_271 : FL R_JS 271 11 0 := FL.of rfl (by decide) rfl 463 (by decide +kernel)
theorem fl_JS_281 : FL R_JS 281 9 4 := FL.of rfl (by decide) rfl 490 (by decide +kernel)
theorem fl_JS_284 : FL R_JS 284 9 5 := FL.of rfl (by decide) rfl 492 (by decide +kernel)
theorem fl_JS_287 : FL R_JS 287 9 6 := FL.of rfl (by decide) rfl 495 (by decide +kernel)
theorem fl_JS_290 : FL R_JS 290 9 7 := FL.of rfl (by decide) rfl 498 (by decide +kernel)
theorem fl_JS_293 : FL R_JS 293 9 8 := FL.of rfl (by decide) rfl 500 (by decide +kernel)
theorem fl_JS_296 : FL R_JS 296 9 9 := FL.of rfl (by decide) rfl 502 (by decide +kernel)
theorem fl_JS_299 : FL R_JS 299 10 1 := FL.of rfl (by decide) rfl 434 (by decide +kernel)
theorem fl_JS_304 : FL R_JS 304 11 1 := FL.of rfl (by decide) rfl 466 (by decide +kernel)
theorem fl_JS_305 : FL R_JS 305 11 2 := FL.of rfl (by decide) rfl 469 (by decide +kernel)
theorem fl_JS_308 : FL R_JS 308 10 3 := FL.of rfl (by decide) rfl 438 (by decide +kernel)
theorem fl_JS_311 : FL R_JS 311 10 4 := FL.of rfl (by decide) rfl 441 (by decide +kernel)
theorem fl_JS_314 : FL R_JS 314 11 3 := FL.of rfl (by decide) rfl 471 (by decide +kernel)
theorem fl_JS_321 : FL R_JS 321 1 5 := FL.of rfl (by decide) rfl 118 (by decide +kernel)
theorem fl_JS_324 : FL R_JS 324 3 0 := FL.of rfl (by decide) rfl 204 (by decide +kernel)
theorem fl_JS_44 : FL R_JS 44 0 4 := FL.of rfl (by decide) rfl 537 (by decide +kernel)
theorem fl_JS_86 : FL R_JS 86 0 12 := FL.of rfl (by decide) rfl 545 (by decide +kernel)
theorem fl_JS_95 : FL R_JS 95 0 15 := FL.of rfl (by decide) rfl 548 (by decide +kernel)
theorem fl_JS_98 : FL R_JS 98 0 16 := FL.of rfl (by decide) rfl 549 (by decide +kernel)
theorem fl_LN_88 : FL R_LN 88 4 14 := FL.of rfl (by decide) rfl 248 (by decide +kernel)
theorem fl_UN_144 : FL R_UN 144 1 10 := FL.of rfl (by decide) rfl 134 (by decide +kernel)
theorem lm_CL_25 : Cond.methodLink R_CL 25 (yM m_LN_begin) ∈ gt := gt_at 1007 (by decide +kernel) rfl
theorem lm_CL_31 : Cond.methodLink R_CL 31 (yM m_UN_kindOfLength) ∈ gt := gt_at 1008 (by decide +kernel) rfl
theorem lm_CL_35 : Cond.methodLink R_CL 35 (yM m_UN_placeOf) ∈ gt := gt_at 1013 (by decide +kernel) rfl
theorem lm_CL_38 : Cond.methodLink R_CL 38 (yM m_CL_isFormOf) ∈ gt := gt_at 1014 (by decide +kernel) rfl
theorem lm_CL_46 : Cond.methodLink R_CL 46 (yM m_CL_isBehindBar) ∈ gt := gt_at 1018 (by decide +kernel) rfl
theorem lm_CL_56 : Cond.methodLinkNest R_CL 56 (yM m_JS_within) "JoinSetter" ∈ nestW := by simp [nestW]
theorem lm_CL_60 : Cond.methodLink R_CL 60 (yM m_LN_addPiece) ∈ gt := gt_at 1022 (by decide +kernel) rfl
theorem lm_CL_67 : Cond.methodLink R_CL 67 (yM m_CL_closedBy) ∈ gt := gt_at 1023 (by decide +kernel) rfl
theorem lm_CL_77 : Cond.methodLink R_CL 77 (yM m_SC_knowsForm) ∈ gt := gt_at 1017 (by decide +kernel) rfl
theorem lm_JS_219 : Cond.methodLink R_JS 219 (yM m_UN_hasWords) ∈ gt := gt_at 787 (by decide +kernel) rfl
theorem lm_JS_228 : Cond.methodLink R_JS 228 (yM m_FI_beginBehind) ∈ gt := gt_at 791 (by decide +kernel) rfl
theorem lm_JS_231 : Cond.methodLink R_JS 231 (yM m_FI_goBack) ∈ gt := gt_at 807 (by decide +kernel) rfl
theorem lm_JS_234 : Cond.methodLink R_JS 234 (yM m_FI_nextWidth) ∈ gt := gt_at 854 (by decide +kernel) rfl
theorem lm_JS_237 : Cond.methodLink R_JS 237 (yM m_FI_leastPrice) ∈ gt := gt_at 858 (by decide +kernel) rfl
theorem lm_JS_241 : Cond.methodLink R_JS 241 (yM m_FI_trace) ∈ gt := gt_at 863 (by decide +kernel) rfl
theorem lm_JS_245 : Cond.methodLink R_JS 245 (yM m_JS_takeSpare) ∈ gt := gt_at 888 (by decide +kernel) rfl
theorem lm_JS_248 : Cond.methodLink R_JS 248 (yM m_UN_plainWidth) ∈ gt := gt_at 919 (by decide +kernel) rfl
theorem lm_JS_251 : Cond.methodLink R_JS 251 (yM m_LN_setPlain) ∈ gt := gt_at 925 (by decide +kernel) rfl
theorem lm_JS_274 : Cond.methodLink R_JS 274 (yM m_LN_height) ∈ gt := gt_at 937 (by decide +kernel) rfl
theorem lm_JS_278 : Cond.methodLink R_JS 278 (yM m_LN_depth) ∈ gt := gt_at 947 (by decide +kernel) rfl
theorem lm_JS_318 : Cond.methodLink R_JS 318 (yM m_JS_mirrored) ∈ gt := gt_at 970 (by decide +kernel) rfl
theorem lm_JS_325 : Cond.methodLink R_JS 325 (yM m_CL_put) ∈ gt := gt_at 990 (by decide +kernel) rfl
theorem lm_JS_380 : Cond.methodLink R_JS 380 (yM m_JS_isDigit) ∈ gt := gt_at 974 (by decide +kernel) rfl
theorem lm_LN_101 : Cond.methodLink R_LN 101 (yM m_LN_addPiece) ∈ gt := gt_at 932 (by decide +kernel) rfl
theorem lm_LN_141 : Cond.methodLink R_LN 141 (yM m_BX_highest) ∈ gt := gt_at 941 (by decide +kernel) rfl
theorem lm_LN_150 : Cond.methodLink R_LN 150 (yM m_BX_deepest) ∈ gt := gt_at 951 (by decide +kernel) rfl
theorem lm_LN_84 : Cond.methodLink R_LN 84 (yM m_LN_begin) ∈ gt := gt_at 929 (by decide +kernel) rfl
theorem lm_LN_91 : Cond.methodLink R_LN 91 (yM m_UN_base) ∈ gt := gt_at 930 (by decide +kernel) rfl
theorem lm_LN_95 : Cond.methodLink R_LN 95 (yM m_UN_placeOf) ∈ gt := gt_at 931 (by decide +kernel) rfl
theorem lm_UN_135 : Cond.methodLink R_UN 135 (yM m_UN_kind) ∈ gt := gt_at 1012 (by decide +kernel) rfl
theorem lm_UN_138 : Cond.methodLink R_UN 138 (yM m_UN_lackMarks) ∈ gt := gt_at 923 (by decide +kernel) rfl
theorem lm_UN_141 : Cond.methodLink R_UN 141 (yM m_UN_placeOf) ∈ gt := gt_at 924 (by decide +kernel) rfl
theorem lm_BX_28 : Cond.methodLink R_BX 28 Lib.Math.max.name ∈ gt := gt_at 945 (by decide +kernel) rfl
theorem lm_LN_145 : Cond.methodLink R_LN 145 Lib.Math.max.name ∈ gt := gt_at 946 (by decide +kernel) rfl
theorem mk_BX_deepest : MKV m_BX_deepest 10 0 := ⟨⟨gt_at 954 (by decide +kernel) rfl, gt_at 80 (by decide +kernel) rfl, by decide +kernel, by decide +kernel, by decide +kernel⟩, gt_at 952 (by decide +kernel) rfl, gt_at 953 (by decide +kernel) rfl, _, _, rfl⟩
theorem mk_BX_highest : MKV m_BX_highest 10 0 := ⟨⟨gt_at 944 (by decide +kernel) rfl, gt_at 80 (by decide +kernel) rfl, by decide +kernel, by decide +kernel, by decide +kernel⟩, gt_at 942 (by decide +kernel) rfl, gt_at 943 (by decide +kernel) rfl, _, _, rfl⟩
theorem mk_CL_closedBy : MKV m_CL_closedBy 3 2 := ⟨⟨gt_at 1026 (by decide +kernel) rfl, gt_at 74 (by decide +kernel) rfl, by decide +kernel, by decide +kernel, by decide +kernel⟩, gt_at 1025 (by decide +kernel) rfl, gt_at 22 (by decide +kernel) rfl, _, _, rfl⟩
theorem mk_CL_isBehindBar : MKS m_CL_isBehindBar 3 := ⟨⟨gt_at 1020 (by decide +kernel) rfl, gt_at 74 (by decide +kernel) rfl, by decide +kernel, by decide +kernel, by decide +kernel⟩, gt_at 1019 (by decide +kernel) rfl⟩
theorem mk_CL_isFormOf : MKS m_CL_isFormOf 4 := ⟨⟨gt_at 1016 (by decide +kernel) rfl, gt_at 74 (by decide +kernel) rfl, by decide +kernel, by decide +kernel, by decide +kernel⟩, gt_at 1015 (by decide +kernel) rfl⟩
theorem mk_CL_put : MKV m_CL_put 3 1 := ⟨⟨gt_at 993 (by decide +kernel) rfl, gt_at 74 (by decide +kernel) rfl, by decide +kernel, by decide +kernel, by decide +kernel⟩, gt_at 991 (by decide +kernel) rfl, gt_at 992 (by decide +kernel) rfl, _, _, rfl⟩
theorem mk_FI_beginBehind : MKV m_FI_beginBehind 5 2 := ⟨⟨gt_at 794 (by decide +kernel) rfl, gt_at 76 (by decide +kernel) rfl, by decide +kernel, by decide +kernel, by decide +kernel⟩, gt_at 792 (by decide +kernel) rfl, gt_at 793 (by decide +kernel) rfl, _, _, rfl⟩
theorem mk_FI_goBack : MKV m_FI_goBack 5 2 := ⟨⟨gt_at 810 (by decide +kernel) rfl, gt_at 76 (by decide +kernel) rfl, by decide +kernel, by decide +kernel, by decide +kernel⟩, gt_at 808 (by decide +kernel) rfl, gt_at 809 (by decide +kernel) rfl, _, _, rfl⟩
theorem mk_FI_leastPrice : MKV m_FI_leastPrice 5 2 := ⟨⟨gt_at 861 (by decide +kernel) rfl, gt_at 76 (by decide +kernel) rfl, by decide +kernel, by decide +kernel, by decide +kernel⟩, gt_at 859 (by decide +kernel) rfl, gt_at 860 (by decide +kernel) rfl, _, _, rfl⟩
theorem mk_FI_nextWidth : MKV m_FI_nextWidth 5 3 := ⟨⟨gt_at 857 (by decide +kernel) rfl, gt_at 76 (by decide +kernel) rfl, by decide +kernel, by decide +kernel, by decide +kernel⟩, gt_at 855 (by decide +kernel) rfl, gt_at 856 (by decide +kernel) rfl, _, _, rfl⟩
theorem mk_FI_trace : MKV m_FI_trace 5 3 := ⟨⟨gt_at 866 (by decide +kernel) rfl, gt_at 76 (by decide +kernel) rfl, by decide +kernel, by decide +kernel, by decide +kernel⟩, gt_at 864 (by decide +kernel) rfl, gt_at 865 (by decide +kernel) rfl, _, _, rfl⟩
theorem mk_LN_depth : MKV m_LN_depth 9 0 := ⟨⟨gt_at 950 (by decide +kernel) rfl, gt_at 79 (by decide +kernel) rfl, by decide +kernel, by decide +kernel, by decide +kernel⟩, gt_at 948 (by decide +kernel) rfl, gt_at 949 (by decide +kernel) rfl, _, _, rfl⟩
theorem mk_LN_height : MKV m_LN_height 9 0 := ⟨⟨gt_at 940 (by decide +kernel) rfl, gt_at 79 (by decide +kernel) rfl, by decide +kernel, by decide +kernel, by decide +kernel⟩, gt_at 938 (by decide +kernel) rfl, gt_at 939 (by decide +kernel) rfl, _, _, rfl⟩
theorem mk_LN_setPlain : MKV m_LN_setPlain 9 2 := ⟨⟨gt_at 928 (by decide +kernel) rfl, gt_at 79 (by decide +kernel) rfl, by decide +kernel, by decide +kernel, by decide +kernel⟩, gt_at 926 (by decide +kernel) rfl, gt_at 927 (by decide +kernel) rfl, _, _, rfl⟩
theorem mk_UN_hasWords : MKV m_UN_hasWords 4 2 := ⟨⟨gt_at 790 (by decide +kernel) rfl, gt_at 75 (by decide +kernel) rfl, by decide +kernel, by decide +kernel, by decide +kernel⟩, gt_at 788 (by decide +kernel) rfl, gt_at 789 (by decide +kernel) rfl, _, _, rfl⟩
theorem mk_UN_kindOfLength : MKV m_UN_kindOfLength 4 2 := ⟨⟨gt_at 1011 (by decide +kernel) rfl, gt_at 75 (by decide +kernel) rfl, by decide +kernel, by decide +kernel, by decide +kernel⟩, gt_at 1009 (by decide +kernel) rfl, gt_at 1010 (by decide +kernel) rfl, _, _, rfl⟩
theorem mk_UN_plainWidth : MKV m_UN_plainWidth 4 2 := ⟨⟨gt_at 922 (by decide +kernel) rfl, gt_at 75 (by decide +kernel) rfl, by decide +kernel, by decide +kernel, by decide +kernel⟩, gt_at 920 (by decide +kernel) rfl, gt_at 921 (by decide +kernel) rfl, _, _, rfl⟩
theorem mk_JS_isDigit : MKV m_JS_isDigit 0 1 := ⟨⟨gt_at 977 (by decide +kernel) rfl, gt_at 71 (by decide +kernel) rfl, by decide +kernel, by decide +kernel, by decide +kernel⟩, gt_at 976 (by decide +kernel) rfl, gt_at 21 (by decide +kernel) rfl, _, _, rfl⟩
theorem mk_JS_mirrored : MKV m_JS_mirrored 0 1 := ⟨⟨gt_at 973 (by decide +kernel) rfl, gt_at 71 (by decide +kernel) rfl, by decide +kernel, by decide +kernel, by decide +kernel⟩, gt_at 972 (by decide +kernel) rfl, gt_at 20 (by decide +kernel) rfl, _, _, rfl⟩
theorem mk_JS_takeSpare : MKV m_JS_takeSpare 0 0 := ⟨⟨gt_at 891 (by decide +kernel) rfl, gt_at 71 (by decide +kernel) rfl, by decide +kernel, by decide +kernel, by decide +kernel⟩, gt_at 890 (by decide +kernel) rfl, gt_at 18 (by decide +kernel) rfl, _, _, rfl⟩
theorem pf_0_12 : ∀ C T N, classes[0]? = some (C, T, N) → (T 12).2.2.2 = false := fun _ _ _ h => by cases h; rfl
theorem pf_0_15 : ∀ C T N, classes[0]? = some (C, T, N) → (T 15).2.2.2 = false := fun _ _ _ h => by cases h; rfl
theorem pf_0_16 : ∀ C T N, classes[0]? = some (C, T, N) → (T 16).2.2.2 = false := fun _ _ _ h => by cases h; rfl
theorem pf_3_0 : ∀ C T N, classes[3]? = some (C, T, N) → (T 0).2.2.2 = false := fun _ _ _ h => by cases h; rfl
def tb_JS_line : List (Nat × Instr × Nat) := [(0, .aload_n 0, 1), (1, .invokevirtual 192, 3), (4, .aload_n 0, 1), (5, .getfield 35, 3), (8, .iload_n 1, 1), (9, .iload_n 2, 1), (10, .invokevirtual 219, 3), (13, .ifCond .ne 5, 3), (16, .iconst (-1), 1), (17, .ireturn, 1), (18, .iload_n 3, 1), (19, .iconst 0, 1), (20, .sipush 300, 3), (23, .invokestatic 134, 3), (26, .ifCond .ne 6, 3), (29, .bipush (-2), 2), (31, .ireturn, 1), (32, .aload_n 0, 1), (33, .getfield 35, 3), (36, .getfield 222, 3), (39, .iload_n 1, 1), (40, .iaload, 1), (41, .istore 4, 2), (43, .aload_n 0, 1), (44, .getfield 44, 3), (47, .aload_n 0, 1), (48, .getfield 35, 3), (51, .getfield 225, 3), (54, .iload_n 2, 1), (55, .iaload, 1), (56, .sipush 300, 3), (59, .invokevirtual 228, 3), (62, .aload_n 0, 1), (63, .getfield 44, 3), (66, .iload 4, 2), (68, .aload_n 0, 1), (69, .getfield 35, 3), (72, .getfield 225, 3), (75, .iload_n 2, 1), (76, .iaload, 1), (77, .invokevirtual 231, 3), (80, .aload_n 0, 1), (81, .aload_n 0, 1), (82, .getfield 76, 3), (85, .putfield 86, 3), (88, .aload_n 0, 1), (89, .aload_n 0, 1), (90, .getfield 44, 3), (93, .iload 4, 2), (95, .iload_n 3, 1), (96, .iconst (-1), 1), (97, .invokevirtual 234, 3), (100, .putfield 95, 3), (103, .aload_n 0, 1), (104, .aload_n 0, 1), (105, .getfield 44, 3), (108, .iload 4, 2), (110, .iload_n 3, 1), (111, .iconst 1, 1), (112, .invokevirtual 234, 3), (115, .putfield 98, 3), (118, .aload_n 0, 1), (119, .getfield 44, 3), (122, .iload 4, 2), (124, .iload_n 3, 1), (125, .invokevirtual 237, 3), (128, .istore 5, 2), (130, .iload 5, 2), (132, .ldc 240, 2), (134, .if_icmp .lt 12, 3), (137, .aload_n 0, 1), (138, .bipush (-6), 2), (140, .putfield 83, 3), (143, .bipush (-5), 2), (145, .ireturn, 1), (146, .aload_n 0, 1), (147, .getfield 44, 3), (150, .iload 4, 2), (152, .iload_n 3, 1), (153, .aload_n 0, 1), (154, .getfield 73, 3), (157, .invokevirtual 241, 3), (160, .aload_n 0, 1), (161, .invokevirtual 245, 3), (164, .iload 5, 2), (166, .ireturn, 1)]
theorem dt_JS_line : DT (cM m_JS_line) tb_JS_line := by unfold DT; decide +kernel
abbrev a_JS_line_0 (G : GT)  (v1 : Int) (v2 : Int) (v3 : Int) (σ : St) (P : Int → St → Prop) : Prop := A G m_JS_line 0 [(0, O 0), (1, I v1), (2, I v2), (3, I v3)] [] σ P
set_option maxRecDepth 20000 in
theorem k_JS_line_0 {G : GT} {σ : St} {P : Int → St → Prop}  {v1 : Int} {v2 : Int} {v3 : Int}  
    (h : CJ G m_JS_lookAtText [O 0] σ (fun _ u1 => rng v1 ∧ (0 ≤ v1 → rng v2) ∧ (0 ≤ v1 ∧ (v1 ≤ v2 ∧ v2 < u1.2.1 4 3) → rng v3 ∧ (0 ≤ v3 → rng 300) ∧ (0 ≤ v3 ∧ v3 ≤ 300 → (0 ≤ v1 ∧ v1 < 80) ∧ (0 ≤ v2 ∧ v2 < 80) ∧ CJ G m_FI_beginBehind [O 5, I (u1.1 67 v2.toNat), I 300] u1 (fun _ u12 => CJ G m_FI_goBack [O 5, I (u1.1 66 v1.toNat), I (u12.1 67 v2.toNat)] u12 (fun _ u14 => (∀ σ16, σ16 = sf u14 0 12 (u14.2.1 0 9) → CJ G m_FI_nextWidth [O 5, I (u1.1 66 v1.toNat), I v3, I (-1)] σ16 (fun r19 u18 => (∀ σ21, σ21 = sf u18 0 15 r19 → CJ G m_FI_nextWidth [O 5, I (u1.1 66 v1.toNat), I v3, I 1] σ21 (fun r24 u23 => (∀ σ26, σ26 = sf u23 0 16 r24 → (0 ≤ (u1.1 66 v1.toNat) * 3 ∧ (u1.1 66 v1.toNat) * 3 < 243) ∧ (0 ≤ v3 ∧ v3 < 301) ∧ (σ26.1 (376 + ((u1.1 66 v1.toNat) * 3).toNat) v3.toNat < 536870912 → CJ G m_FI_trace [O 5, I (u1.1 66 v1.toNat), I v3, O u23.2.2.2] σ26 (fun _ u31 => CJ G m_JS_takeSpare [O 0] u31 (fun _ u32 => P (σ26.1 (376 + ((u1.1 66 v1.toNat) * 3).toNat) v3.toNat) u32))) ∧ (536870912 ≤ σ26.1 (376 + ((u1.1 66 v1.toNat) * 3).toNat) v3.toNat → (∀ σ33, σ33 = sf σ26 0 11 (-6) → P (-5) σ33)))))))))) ∧ (¬ (0 ≤ v3 ∧ v3 ≤ 300) → P (-2) u1)) ∧ (¬ (0 ≤ v1 ∧ (v1 ≤ v2 ∧ v2 < u1.2.1 4 3)) → P (-1) u1))) :
    a_JS_line_0 G v1 v2 v3 σ P := by
  refine r_aload_n (q := 1) (dc dt_JS_line 0 rfl) rfl rfl 0 rfl ?_
  refine r_callVv (q := 4) mk_JS_lookAtText lm_JS_192 (RMO.of rfl) rfl (dc dt_JS_line 1 rfl) rfl ly0 [] [] rfl rfl (Nat.le_of_ble_eq_true rfl) h (fun u1 h => ?_)
  refine r_aload_n (q := 5) (dc dt_JS_line 2 rfl) rfl rfl 0 rfl ?_
  refine r_getO (q := 8) (v := 4) fl_JS_35 (dc dt_JS_line 3 rfl) rfl ly0 rfl ?_
  refine r_iload_n (q := 9) (dc dt_JS_line 4 rfl) rfl rfl 1 rfl ?_
  refine r_iload_n (q := 10) (dc dt_JS_line 5 rfl) rfl rfl 2 rfl ?_
  obtain ⟨o2, h⟩ := h
  obtain ⟨o3, h⟩ := h
  refine r_callVi (q := 13) mk_UN_hasWords lm_JS_219 (RMO.of rfl) rfl (dc dt_JS_line 6 rfl) rfl ly4 [I v1, I v2] [] rfl rfl (Nat.le_of_ble_eq_true rfl) (sp_UN_hasWords o2 o3) (fun _ _ g4 z => ?_)
  obtain ⟨z, w⟩ := z
  subst z
  replace w := w.symm
  subst w
  refine r_ifb_ne (q := 16) (t := 18) (dc dt_JS_line 7 rfl) rfl (by decide) (fun q_ => ?_) (fun q_ => ?_)
  · have h := h.1 q_
    refine r_iload_n (q := 19) (dc dt_JS_line 10 rfl) rfl rfl 3 rfl ?_
    refine r_iconst (q := 20) (dc dt_JS_line 11 rfl) rfl rfl ?_
    refine r_sipush (q := 23) (dc dt_JS_line 12 rfl) rfl (by decide) ?_
    obtain ⟨o5, h⟩ := h
    obtain ⟨o6, h⟩ := h
    refine r_callSi (q := 26) mk_JS_within lm_JS_134 (RMO.of rfl) rfl (dc dt_JS_line 13 rfl) rfl [I v3, I 0, I 300] [] rfl rfl (Nat.le_of_ble_eq_true rfl) (sp_JS_within o5 (⟨by decide, by decide⟩ : rng 0) o6) (fun _ _ g7 z => ?_)
    obtain ⟨z, w⟩ := z
    subst z
    replace w := w.symm
    subst w
    refine r_ifb_ne (q := 29) (t := 32) (dc dt_JS_line 14 rfl) rfl (by decide) (fun q_ => ?_) (fun q_ => ?_)
    · have h := h.1 q_
      refine r_aload_n (q := 33) (dc dt_JS_line 17 rfl) rfl rfl 0 rfl ?_
      refine r_getO (q := 36) (v := 4) fl_JS_35 (dc dt_JS_line 18 rfl) rfl ly0 rfl ?_
      refine r_getO (q := 39) (v := 66) fl_JS_222 (dc dt_JS_line 19 rfl) rfl ly4 rfl ?_
      refine r_iload_n (q := 40) (dc dt_JS_line 20 rfl) rfl rfl 1 rfl ?_
      obtain ⟨o8, h⟩ := h
      refine r_iald (q := 41) (v := u1.1 66 v1.toNat) (dc dt_JS_line 21 rfl) rfl ly66 o8 rfl (fun g9 => ?_)
      refine r_istore (q := 43) (dc dt_JS_line 22 rfl) rfl (by decide) rfl ?_
      refine r_aload_n (q := 44) (dc dt_JS_line 23 rfl) rfl rfl 1 rfl ?_
      refine r_getO (q := 47) (v := 5) fl_JS_44 (dc dt_JS_line 24 rfl) rfl ly0 rfl ?_
      refine r_aload_n (q := 48) (dc dt_JS_line 25 rfl) rfl rfl 1 rfl ?_
      refine r_getO (q := 51) (v := 4) fl_JS_35 (dc dt_JS_line 26 rfl) rfl ly0 rfl ?_
      refine r_getO (q := 54) (v := 67) fl_JS_225 (dc dt_JS_line 27 rfl) rfl ly4 rfl ?_
      refine r_iload_n (q := 55) (dc dt_JS_line 28 rfl) rfl rfl 3 rfl ?_
      obtain ⟨o10, h⟩ := h
      refine r_iald (q := 56) (v := u1.1 67 v2.toNat) (dc dt_JS_line 29 rfl) rfl ly67 o10 rfl (fun g11 => ?_)
      refine r_sipush (q := 59) (dc dt_JS_line 30 rfl) rfl (by decide) ?_
      refine r_callVv (q := 62) mk_FI_beginBehind lm_JS_228 (RMO.of rfl) rfl (dc dt_JS_line 31 rfl) rfl ly5 [I (u1.1 67 v2.toNat), I 300] [] rfl rfl (Nat.le_of_ble_eq_true rfl) h (fun u12 h => ?_)
      refine r_aload_n (q := 63) (dc dt_JS_line 32 rfl) rfl rfl 1 rfl ?_
      refine r_getO (q := 66) (v := 5) fl_JS_44 (dc dt_JS_line 33 rfl) rfl ly0 rfl ?_
      refine r_iload (q := 68) (dc dt_JS_line 34 rfl) rfl 0 rfl ?_
      refine r_aload_n (q := 69) (dc dt_JS_line 35 rfl) rfl rfl 1 rfl ?_
      refine r_getO (q := 72) (v := 4) fl_JS_35 (dc dt_JS_line 36 rfl) rfl ly0 rfl ?_
      refine r_getO (q := 75) (v := 67) fl_JS_225 (dc dt_JS_line 37 rfl) rfl ly4 rfl ?_
      refine r_iload_n (q := 76) (dc dt_JS_line 38 rfl) rfl rfl 3 rfl ?_
      refine r_iald (q := 77) (v := u12.1 67 v2.toNat) (dc dt_JS_line 39 rfl) rfl ly67 o10 rfl (fun g13 => ?_)
      refine r_callVv (q := 80) mk_FI_goBack lm_JS_231 (RMO.of rfl) rfl (dc dt_JS_line 40 rfl) rfl ly5 [I (u1.1 66 v1.toNat), I (u12.1 67 v2.toNat)] [] rfl rfl (Nat.le_of_ble_eq_true rfl) h (fun u14 h => ?_)
      refine r_aload_n (q := 81) (dc dt_JS_line 41 rfl) rfl rfl 1 rfl ?_
      refine r_aload_n (q := 82) (dc dt_JS_line 42 rfl) rfl rfl 1 rfl ?_
      refine r_getI (q := 85) (v := u14.2.1 0 9) fl_JS_76 (dc dt_JS_line 43 rfl) rfl ly0 rfl rfl (fun g15 => ?_)
      refine r_put (q := 88) fl_JS_86 (dc dt_JS_line 44 rfl) rfl ly0 (fun _ => rfl) (Or.inl rfl) pf_0_12 g15 (fun σ16 e17 => ?_)
      have h := h σ16 e17
      refine r_aload_n (q := 89) (dc dt_JS_line 45 rfl) rfl rfl 1 rfl ?_
      refine r_aload_n (q := 90) (dc dt_JS_line 46 rfl) rfl rfl 1 rfl ?_
      refine r_getO (q := 93) (v := 5) fl_JS_44 (dc dt_JS_line 47 rfl) rfl ly0 rfl ?_
      refine r_iload (q := 95) (dc dt_JS_line 48 rfl) rfl 0 rfl ?_
      refine r_iload_n (q := 96) (dc dt_JS_line 49 rfl) rfl rfl 4 rfl ?_
      refine r_iconst (q := 97) (dc dt_JS_line 50 rfl) rfl rfl ?_
      refine r_callVi (q := 100) mk_FI_nextWidth lm_JS_234 (RMO.of rfl) rfl (dc dt_JS_line 51 rfl) rfl ly5 [I (u1.1 66 v1.toNat), I v3, I (-1)] [O 0] rfl rfl (Nat.le_of_ble_eq_true rfl) h (fun r19 u18 g20 h => ?_)
      refine r_put (q := 103) fl_JS_95 (dc dt_JS_line 52 rfl) rfl ly0 (fun _ => rfl) (Or.inl rfl) pf_0_15 g20 (fun σ21 e22 => ?_)
      have h := h σ21 e22
      refine r_aload_n (q := 104) (dc dt_JS_line 53 rfl) rfl rfl 1 rfl ?_
      refine r_aload_n (q := 105) (dc dt_JS_line 54 rfl) rfl rfl 1 rfl ?_
      refine r_getO (q := 108) (v := 5) fl_JS_44 (dc dt_JS_line 55 rfl) rfl ly0 rfl ?_
      refine r_iload (q := 110) (dc dt_JS_line 56 rfl) rfl 0 rfl ?_
      refine r_iload_n (q := 111) (dc dt_JS_line 57 rfl) rfl rfl 4 rfl ?_
      refine r_iconst (q := 112) (dc dt_JS_line 58 rfl) rfl rfl ?_
      refine r_callVi (q := 115) mk_FI_nextWidth lm_JS_234 (RMO.of rfl) rfl (dc dt_JS_line 59 rfl) rfl ly5 [I (u1.1 66 v1.toNat), I v3, I 1] [O 0] rfl rfl (Nat.le_of_ble_eq_true rfl) h (fun r24 u23 g25 h => ?_)
      refine r_put (q := 118) fl_JS_98 (dc dt_JS_line 60 rfl) rfl ly0 (fun _ => rfl) (Or.inl rfl) pf_0_16 g25 (fun σ26 e27 => ?_)
      have h := h σ26 e27
      refine r_aload_n (q := 119) (dc dt_JS_line 61 rfl) rfl rfl 1 rfl ?_
      refine r_getO (q := 122) (v := 5) fl_JS_44 (dc dt_JS_line 62 rfl) rfl ly0 rfl ?_
      refine r_iload (q := 124) (dc dt_JS_line 63 rfl) rfl 0 rfl ?_
      refine r_iload_n (q := 125) (dc dt_JS_line 64 rfl) rfl rfl 4 rfl ?_
      obtain ⟨o28, h⟩ := h
      obtain ⟨o29, h⟩ := h
      refine r_callVi (q := 128) mk_FI_leastPrice lm_JS_237 (RMO.of rfl) rfl (dc dt_JS_line 65 rfl) rfl ly5 [I (u1.1 66 v1.toNat), I v3] [] rfl rfl (Nat.le_of_ble_eq_true rfl) (sp_FI_leastPrice o28 o29) (fun _ _ g30 z => ?_)
      obtain ⟨z, w⟩ := z
      subst z
      replace w := w.symm
      subst w
      refine r_istore (q := 130) (dc dt_JS_line 66 rfl) rfl (by decide) rfl ?_
      refine r_iload (q := 132) (dc dt_JS_line 67 rfl) rfl 0 rfl ?_
      refine r_ldc (q := 134) (n := 536870912) (dc dt_JS_line 68 rfl) rfl (gt_at 862 (by decide +kernel) rfl) ?_
      refine r_icmp_lt (q := 137) (t := 146) (dc dt_JS_line 69 rfl) rfl (by decide) g30 (⟨by decide, by decide⟩ : rng 536870912) (fun q_ => ?_) (fun q_ => ?_)
      · have h := h.1 q_
        refine r_aload_n (q := 147) (dc dt_JS_line 75 rfl) rfl rfl 2 rfl ?_
        refine r_getO (q := 150) (v := 5) fl_JS_44 (dc dt_JS_line 76 rfl) rfl ly0 rfl ?_
        refine r_iload (q := 152) (dc dt_JS_line 77 rfl) rfl 1 rfl ?_
        refine r_iload_n (q := 153) (dc dt_JS_line 78 rfl) rfl rfl 5 rfl ?_
        refine r_aload_n (q := 154) (dc dt_JS_line 79 rfl) rfl rfl 2 rfl ?_
        refine r_getO (q := 157) (v := u23.2.2.2) fl_JS_73 (dc dt_JS_line 80 rfl) rfl ly0 (by rw [e27]; rfl) ?_
        refine r_callVv (q := 160) mk_FI_trace lm_JS_241 (RMO.of rfl) rfl (dc dt_JS_line 81 rfl) rfl ly5 [I (u1.1 66 v1.toNat), I v3, O u23.2.2.2] [] rfl rfl (Nat.le_of_ble_eq_true rfl) h (fun u31 h => ?_)
        refine r_aload_n (q := 161) (dc dt_JS_line 82 rfl) rfl rfl 2 rfl ?_
        refine r_callVv (q := 164) mk_JS_takeSpare lm_JS_245 (RMO.of rfl) rfl (dc dt_JS_line 83 rfl) rfl ly0 [] [] rfl rfl (Nat.le_of_ble_eq_true rfl) h (fun u32 h => ?_)
        refine r_iload (q := 166) (dc dt_JS_line 84 rfl) rfl 0 rfl ?_
        exact r_iret rfl (dc dt_JS_line 85 rfl) g30 h
      · have h := h.2 q_
        refine r_aload_n (q := 138) (dc dt_JS_line 70 rfl) rfl rfl 2 rfl ?_
        refine r_bipush (q := 140) (dc dt_JS_line 71 rfl) rfl (by decide) ?_
        refine r_put (q := 143) fl_JS_83 (dc dt_JS_line 72 rfl) rfl ly0 (fun _ => rfl) (Or.inl rfl) pf_0_11 (⟨by decide, by decide⟩ : rng (-6)) (fun σ33 e34 => ?_)
        have h := h σ33 e34
        refine r_bipush (q := 145) (dc dt_JS_line 73 rfl) rfl (by decide) ?_
        exact r_iret rfl (dc dt_JS_line 74 rfl) (⟨by decide, by decide⟩ : rng (-5)) h
    · have h := h.2 q_
      refine r_bipush (q := 31) (dc dt_JS_line 15 rfl) rfl (by decide) ?_
      exact r_iret rfl (dc dt_JS_line 16 rfl) (⟨by decide, by decide⟩ : rng (-2)) h
  · have h := h.2 q_
    refine r_iconst (q := 17) (dc dt_JS_line 8 rfl) rfl rfl ?_
    exact r_iret rfl (dc dt_JS_line 9 rfl) (⟨by decide, by decide⟩ : rng (-1)) h
def tb_JS_near : List (Nat × Instr × Nat) := [(0, .iload_n 1, 1), (1, .iconst 0, 1), (2, .iconst 1, 1), (3, .invokestatic 134, 3), (6, .ifCond .ne 6, 3), (9, .bipush (-2), 2), (11, .ireturn, 1), (12, .aload_n 0, 1), (13, .getfield 86, 3), (16, .aload_n 0, 1), (17, .getfield 76, 3), (20, .if_icmp .eq 6, 3), (23, .bipush (-3), 2), (25, .ireturn, 1), (26, .iload_n 1, 1), (27, .ifCond .ne 10, 3), (30, .aload_n 0, 1), (31, .getfield 95, 3), (34, .goto 7, 3), (37, .aload_n 0, 1), (38, .getfield 98, 3), (41, .ireturn, 1)]
theorem dt_JS_near : DT (cM m_JS_near) tb_JS_near := by unfold DT; decide +kernel
abbrev a_JS_near_0 (G : GT)  (v1 : Int) (σ : St) (P : Int → St → Prop) : Prop := A G m_JS_near 0 [(0, O 0), (1, I v1)] [] σ P
set_option maxRecDepth 20000 in
theorem k_JS_near_0 {G : GT} {σ : St} {P : Int → St → Prop}  {v1 : Int}  
    (h : rng v1 ∧ (0 ≤ v1 → rng 1) ∧ (0 ≤ v1 ∧ v1 ≤ 1 → (σ.2.1 0 12 = σ.2.1 0 9 → rng (if v1 ≠ 0 then σ.2.1 0 16 else σ.2.1 0 15) ∧ P (if v1 ≠ 0 then σ.2.1 0 16 else σ.2.1 0 15) σ) ∧ (σ.2.1 0 12 ≠ σ.2.1 0 9 → P (-3) σ)) ∧ (¬ (0 ≤ v1 ∧ v1 ≤ 1) → P (-2) σ)) :
    a_JS_near_0 G v1 σ P := by
  refine r_iload_n (q := 1) (dc dt_JS_near 0 rfl) rfl rfl 1 rfl ?_
  refine r_iconst (q := 2) (dc dt_JS_near 1 rfl) rfl rfl ?_
  refine r_iconst (q := 3) (dc dt_JS_near 2 rfl) rfl rfl ?_
  obtain ⟨o1, h⟩ := h
  obtain ⟨o2, h⟩ := h
  refine r_callSi (q := 6) mk_JS_within lm_JS_134 (RMO.of rfl) rfl (dc dt_JS_near 3 rfl) rfl [I v1, I 0, I 1] [] rfl rfl (Nat.le_of_ble_eq_true rfl) (sp_JS_within o1 (⟨by decide, by decide⟩ : rng 0) o2) (fun _ _ g3 z => ?_)
  obtain ⟨z, w⟩ := z
  subst z
  replace w := w.symm
  subst w
  refine r_ifb_ne (q := 9) (t := 12) (dc dt_JS_near 4 rfl) rfl (by decide) (fun q_ => ?_) (fun q_ => ?_)
  · have h := h.1 q_
    refine r_aload_n (q := 13) (dc dt_JS_near 7 rfl) rfl rfl 0 rfl ?_
    refine r_getI (q := 16) (v := σ.2.1 0 12) fl_JS_86 (dc dt_JS_near 8 rfl) rfl ly0 rfl rfl (fun g4 => ?_)
    refine r_aload_n (q := 17) (dc dt_JS_near 9 rfl) rfl rfl 0 rfl ?_
    refine r_getI (q := 20) (v := σ.2.1 0 9) fl_JS_76 (dc dt_JS_near 10 rfl) rfl ly0 rfl rfl (fun g5 => ?_)
    refine r_icmp_eq (q := 23) (t := 26) (dc dt_JS_near 11 rfl) rfl (by decide) g4 g5 (fun q_ => ?_) (fun q_ => ?_)
    · have h := h.1 q_
      refine r_iload_n (q := 27) (dc dt_JS_near 14 rfl) rfl rfl 1 rfl ?_
      have hJ : ∀ (w_0 : Int), w_0 = (if v1 ≠ 0 then σ.2.1 0 16 else σ.2.1 0 15) → A G m_JS_near 41 [(0, O 0), (1, I v1)] [I w_0] σ P := by
        intro w_0 z_0
        subst z_0
        obtain ⟨o8, h⟩ := h
        exact r_iret rfl (dc dt_JS_near 21 rfl) o8 h
      clear h
      refine r_if_ne (q := 30) (t := 37) (dc dt_JS_near 15 rfl) rfl (by decide) o1 (fun q_ => ?_) (fun q_ => ?_)
      · have q9 := q_
        refine r_aload_n (q := 38) (dc dt_JS_near 19 rfl) rfl rfl 0 rfl ?_
        refine r_getI (q := 41) (v := σ.2.1 0 16) fl_JS_98 (dc dt_JS_near 20 rfl) rfl ly0 rfl rfl (fun g6 => ?_)
        exact (hJ (σ.2.1 0 16) ((if_pos (by first | omega | grind)).symm))
      · have q9 := q_
        refine r_aload_n (q := 31) (dc dt_JS_near 16 rfl) rfl rfl 0 rfl ?_
        refine r_getI (q := 34) (v := σ.2.1 0 15) fl_JS_95 (dc dt_JS_near 17 rfl) rfl ly0 rfl rfl (fun g7 => ?_)
        refine r_goto (q := 41) (dc dt_JS_near 18 rfl) (by decide) ?_
        exact (hJ (σ.2.1 0 15) ((if_neg (by first | omega | grind)).symm))
    · have h := h.2 q_
      refine r_bipush (q := 25) (dc dt_JS_near 12 rfl) rfl (by decide) ?_
      exact r_iret rfl (dc dt_JS_near 13 rfl) (⟨by decide, by decide⟩ : rng (-3)) h
  · have h := h.2 q_
    refine r_bipush (q := 11) (dc dt_JS_near 5 rfl) rfl (by decide) ?_
    exact r_iret rfl (dc dt_JS_near 6 rfl) (⟨by decide, by decide⟩ : rng (-2)) h
set_option maxRecDepth 20000 in
theorem sp0_JS_near {G : GT} {σ : St} {v1 : Int}  (j0 : rng v1) (j1 : (0 ≤ v1 → rng 1)) (j2 : (0 ≤ v1 ∧ v1 ≤ 1 → (σ.2.1 0 12 = σ.2.1 0 9 → rng (if v1 ≠ 0 then σ.2.1 0 16 else σ.2.1 0 15)))) : CJ G m_JS_near [O 0, I v1] σ (fun r u => r = (if 0 ≤ v1 ∧ v1 ≤ 1 then (if σ.2.1 0 12 = σ.2.1 0 9 then (if v1 ≠ 0 then σ.2.1 0 16 else σ.2.1 0 15) else (-3 : Int)) else (-2 : Int)) ∧ u = σ) := by
  refine CJ.intro (by decide) (by simp [catA]; decide) (fun _ => k_JS_near_0  ?_)
  refine ⟨by first | assumption | omega | grind, ?_⟩
  refine ⟨by first | assumption | omega | grind, ?_⟩
  refine ⟨fun q_ => ?_, fun q_ => ?_⟩
  ·
    refine ⟨fun q_ => ?_, fun q_ => ?_⟩
    ·
      refine ⟨by first | assumption | omega | grind, ?_⟩
      exact ⟨by first | rfl | grind, rfl⟩
    ·
      exact ⟨by first | rfl | grind, rfl⟩
  ·
    exact ⟨by first | rfl | grind, rfl⟩
def p_JS_near (σ : St) (v1 : Int) : Prop := rng v1 ∧ (0 ≤ v1 → rng 1) ∧ (0 ≤ v1 ∧ v1 ≤ 1 → (σ.2.1 0 12 = σ.2.1 0 9 → rng (if v1 ≠ 0 then σ.2.1 0 16 else σ.2.1 0 15)))
def f_JS_near (σ : St) (v1 : Int) : Int := if 0 ≤ v1 ∧ v1 ≤ 1 then (if σ.2.1 0 12 = σ.2.1 0 9 then (if v1 ≠ 0 then σ.2.1 0 16 else σ.2.1 0 15) else (-3 : Int)) else (-2 : Int)
theorem sp_JS_near {G : GT} {σ : St} {v1 : Int}  (j : p_JS_near σ v1) : CJ G m_JS_near [O 0, I v1] σ (fun r u => r = (f_JS_near σ v1) ∧ u = σ) := sp0_JS_near  j.1 j.2.1 j.2.2
def tb_UN_plainWidth : List (Nat × Instr × Nat) := [(0, .aload_n 0, 1), (1, .iload_n 1, 1), (2, .iload_n 2, 1), (3, .invokevirtual 138, 3), (6, .ifCond .eq 6, 3), (9, .bipush (-6), 2), (11, .ireturn, 1), (12, .iconst 0, 1), (13, .istore_n 3, 1), (14, .iload_n 1, 1), (15, .istore 4, 2), (17, .iload 4, 2), (19, .iload_n 2, 1), (20, .if_icmp .gt 73, 3), (23, .aload_n 0, 1), (24, .getfield 50, 3), (27, .iload 4, 2), (29, .iaload, 1), (30, .iload 4, 2), (32, .if_icmp .ne 55, 3), (35, .aload_n 0, 1), (36, .getfield 59, 3), (39, .aload_n 0, 1), (40, .iload 4, 2), (42, .invokevirtual 132, 3), (45, .aload_n 0, 1), (46, .iload 4, 2), (48, .aload_n 0, 1), (49, .iload 4, 2), (51, .invokevirtual 132, 3), (54, .invokevirtual 141, 3), (57, .invokevirtual 101, 3), (60, .istore 5, 2), (62, .iload 5, 2), (64, .bipush (-6), 2), (66, .if_icmp .ne 6, 3), (69, .bipush (-6), 2), (71, .ireturn, 1), (72, .iload_n 3, 1), (73, .aload_n 0, 1), (74, .getfield 59, 3), (77, .getfield 144, 3), (80, .iload 5, 2), (82, .aaload, 1), (83, .iconst 2, 1), (84, .iaload, 1), (85, .iadd, 1), (86, .istore_n 3, 1), (87, .iinc 4 1, 3), (90, .goto (-73), 3), (93, .iload_n 3, 1), (94, .ireturn, 1)]
theorem dt_UN_plainWidth : DT (cM m_UN_plainWidth) tb_UN_plainWidth := by unfold DT; decide +kernel
abbrev a_UN_plainWidth_0 (G : GT)  (v1 : Int) (v2 : Int) (σ : St) (P : Int → St → Prop) : Prop := A G m_UN_plainWidth 0 [(0, O 4), (1, I v1), (2, I v2)] [] σ P
abbrev a_UN_plainWidth_17 (G : GT)  (v2 : Int) (v3 : Int) (v4 : Int) (σ : St) (P : Int → St → Prop) : Prop := A G m_UN_plainWidth 17 [(0, O 4), (2, I v2), (3, I v3), (4, I v4)] [] σ P
set_option maxRecDepth 20000 in
theorem k_UN_plainWidth_0 {G : GT} {σ : St} {P : Int → St → Prop}  {v1 : Int} {v2 : Int}  
    (h : CJ G m_UN_lackMarks [O 4, I v1, I v2] σ (fun r2 u1 => (r2 = 0 → a_UN_plainWidth_17 G v2 0 v1 u1 P) ∧ (r2 ≠ 0 → P (-6) u1))) :
    a_UN_plainWidth_0 G v1 v2 σ P := by
  refine r_aload_n (q := 1) (dc dt_UN_plainWidth 0 rfl) rfl rfl 0 rfl ?_
  refine r_iload_n (q := 2) (dc dt_UN_plainWidth 1 rfl) rfl rfl 1 rfl ?_
  refine r_iload_n (q := 3) (dc dt_UN_plainWidth 2 rfl) rfl rfl 2 rfl ?_
  refine r_callVi (q := 6) mk_UN_lackMarks lm_UN_138 (RMO.of rfl) rfl (dc dt_UN_plainWidth 3 rfl) rfl ly4 [I v1, I v2] [] rfl rfl (Nat.le_of_ble_eq_true rfl) h (fun r2 u1 g3 h => ?_)
  refine r_if_eq (q := 9) (t := 12) (dc dt_UN_plainWidth 4 rfl) rfl (by decide) g3 (fun q_ => ?_) (fun q_ => ?_)
  · have h := h.1 q_
    refine r_iconst (q := 13) (dc dt_UN_plainWidth 7 rfl) rfl rfl ?_
    refine r_istore_n (q := 14) (dc dt_UN_plainWidth 8 rfl) rfl rfl (by decide) rfl ?_
    refine r_iload_n (q := 15) (dc dt_UN_plainWidth 9 rfl) rfl rfl 2 rfl ?_
    refine r_istore (q := 17) (dc dt_UN_plainWidth 10 rfl) rfl (by decide) rfl ?_
    exact r_loc [2, 4, 1, 0] rfl h
  · have h := h.2 q_
    refine r_bipush (q := 11) (dc dt_UN_plainWidth 5 rfl) rfl (by decide) ?_
    exact r_iret rfl (dc dt_UN_plainWidth 6 rfl) (⟨by decide, by decide⟩ : rng (-6)) h
set_option maxRecDepth 20000 in
theorem k_UN_plainWidth_17 {G : GT} {σ : St} {P : Int → St → Prop}  {v2 : Int} {v3 : Int} {v4 : Int}  
    (h : rng v4 ∧ rng v2 ∧ (v2 < v4 → rng v3 ∧ P v3 σ) ∧ (v4 ≤ v2 → (0 ≤ v4 ∧ v4 < 80) ∧ (σ.1 71 v4.toNat ≠ v4 → a_UN_plainWidth_17 G v2 v3 (v4 + 1) σ P) ∧ (σ.1 71 v4.toNat = v4 → (0 ≤ v4 * 3 ∧ v4 * 3 < 240) ∧ p_UN_placeOf σ v4 (σ.1 73 ((v4 * 3).toNat)) ∧ p_SC_plainForm σ (σ.1 73 ((v4 * 3).toNat)) (f_UN_placeOf σ v4 (σ.1 73 ((v4 * 3).toNat))) ∧ (f_SC_plainForm σ (σ.1 73 ((v4 * 3).toNat)) (f_UN_placeOf σ v4 (σ.1 73 ((v4 * 3).toNat))) ≠ (-6) → (0 ≤ f_SC_plainForm σ (σ.1 73 ((v4 * 3).toNat)) (f_UN_placeOf σ v4 (σ.1 73 ((v4 * 3).toNat))) ∧ f_SC_plainForm σ (σ.1 73 ((v4 * 3).toNat)) (f_UN_placeOf σ v4 (σ.1 73 ((v4 * 3).toNat))) < 200) ∧ a_UN_plainWidth_17 G v2 (v3 + (σ.1 (176 + (f_SC_plainForm σ (σ.1 73 ((v4 * 3).toNat)) (f_UN_placeOf σ v4 (σ.1 73 ((v4 * 3).toNat)))).toNat) 2)) (v4 + 1) σ P) ∧ (f_SC_plainForm σ (σ.1 73 ((v4 * 3).toNat)) (f_UN_placeOf σ v4 (σ.1 73 ((v4 * 3).toNat))) = (-6) → P (-6) σ)))) :
    a_UN_plainWidth_17 G v2 v3 v4 σ P := by
  refine r_iload (q := 19) (dc dt_UN_plainWidth 11 rfl) rfl 3 rfl ?_
  refine r_iload_n (q := 20) (dc dt_UN_plainWidth 12 rfl) rfl rfl 1 rfl ?_
  obtain ⟨o4, h⟩ := h
  obtain ⟨o5, h⟩ := h
  refine r_icmp_gt (q := 23) (t := 93) (dc dt_UN_plainWidth 13 rfl) rfl (by decide) o4 o5 (fun q_ => ?_) (fun q_ => ?_)
  · have h := h.1 q_
    refine r_iload_n (q := 94) (dc dt_UN_plainWidth 50 rfl) rfl rfl 2 rfl ?_
    obtain ⟨o6, h⟩ := h
    exact r_iret rfl (dc dt_UN_plainWidth 51 rfl) o6 h
  · have h := h.2 q_
    refine r_aload_n (q := 24) (dc dt_UN_plainWidth 14 rfl) rfl rfl 0 rfl ?_
    refine r_getO (q := 27) (v := 71) fl_UN_50 (dc dt_UN_plainWidth 15 rfl) rfl ly4 rfl ?_
    refine r_iload (q := 29) (dc dt_UN_plainWidth 16 rfl) rfl 3 rfl ?_
    obtain ⟨o7, h⟩ := h
    refine r_iald (q := 30) (v := σ.1 71 v4.toNat) (dc dt_UN_plainWidth 17 rfl) rfl ly71 o7 rfl (fun g8 => ?_)
    refine r_iload (q := 32) (dc dt_UN_plainWidth 18 rfl) rfl 3 rfl ?_
    refine r_icmp_ne (q := 35) (t := 87) (dc dt_UN_plainWidth 19 rfl) rfl (by decide) g8 o4 (fun q_ => ?_) (fun q_ => ?_)
    · have h := h.1 q_
      refine r_iinc (q := 90) (k := 3) (dc dt_UN_plainWidth 48 rfl) rfl rfl (by decide) rfl ?_
      refine r_goto (q := 17) (dc dt_UN_plainWidth 49 rfl) (by decide) ?_
      exact r_loc [1, 2, 3, 0] rfl h
    · have h := h.2 q_
      refine r_aload_n (q := 36) (dc dt_UN_plainWidth 20 rfl) rfl rfl 0 rfl ?_
      refine r_getO (q := 39) (v := 1) fl_UN_59 (dc dt_UN_plainWidth 21 rfl) rfl ly4 rfl ?_
      refine r_aload_n (q := 40) (dc dt_UN_plainWidth 22 rfl) rfl rfl 0 rfl ?_
      refine r_iload (q := 42) (dc dt_UN_plainWidth 23 rfl) rfl 3 rfl ?_
      obtain ⟨o9, h⟩ := h
      refine r_callVi (q := 45) mk_UN_base lm_UN_132 (RMO.of rfl) rfl (dc dt_UN_plainWidth 24 rfl) rfl ly4 [I v4] [O 1] rfl rfl (Nat.le_of_ble_eq_true rfl) (sp_UN_base o9) (fun _ _ g10 z => ?_)
      obtain ⟨z, w⟩ := z
      subst z
      replace w := w.symm
      subst w
      refine r_aload_n (q := 46) (dc dt_UN_plainWidth 25 rfl) rfl rfl 0 rfl ?_
      refine r_iload (q := 48) (dc dt_UN_plainWidth 26 rfl) rfl 3 rfl ?_
      refine r_aload_n (q := 49) (dc dt_UN_plainWidth 27 rfl) rfl rfl 0 rfl ?_
      refine r_iload (q := 51) (dc dt_UN_plainWidth 28 rfl) rfl 3 rfl ?_
      refine r_callVi (q := 54) mk_UN_base lm_UN_132 (RMO.of rfl) rfl (dc dt_UN_plainWidth 29 rfl) rfl ly4 [I v4] [I v4, O 4, I (σ.1 73 ((v4 * 3).toNat)), O 1] rfl rfl (Nat.le_of_ble_eq_true rfl) (sp_UN_base o9) (fun _ _ g11 z => ?_)
      obtain ⟨z, w⟩ := z
      subst z
      replace w := w.symm
      subst w
      obtain ⟨o12, h⟩ := h
      refine r_callVi (q := 57) mk_UN_placeOf lm_UN_141 (RMO.of rfl) rfl (dc dt_UN_plainWidth 30 rfl) rfl ly4 [I v4, I (σ.1 73 ((v4 * 3).toNat))] [I (σ.1 73 ((v4 * 3).toNat)), O 1] rfl rfl (Nat.le_of_ble_eq_true rfl) (sp_UN_placeOf o12) (fun _ _ g13 z => ?_)
      obtain ⟨z, w⟩ := z
      subst z
      replace w := w.symm
      subst w
      obtain ⟨o14, h⟩ := h
      refine r_callVi (q := 60) mk_SC_plainForm lm_UN_101 (RMO.of rfl) rfl (dc dt_UN_plainWidth 31 rfl) rfl ly1 [I (σ.1 73 ((v4 * 3).toNat)), I (f_UN_placeOf σ v4 (σ.1 73 ((v4 * 3).toNat)))] [] rfl rfl (Nat.le_of_ble_eq_true rfl) (sp_SC_plainForm o14) (fun _ _ g15 z => ?_)
      obtain ⟨z, w⟩ := z
      subst z
      replace w := w.symm
      subst w
      refine r_istore (q := 62) (dc dt_UN_plainWidth 32 rfl) rfl (by decide) rfl ?_
      refine r_iload (q := 64) (dc dt_UN_plainWidth 33 rfl) rfl 0 rfl ?_
      refine r_bipush (q := 66) (dc dt_UN_plainWidth 34 rfl) rfl (by decide) ?_
      refine r_icmp_ne (q := 69) (t := 72) (dc dt_UN_plainWidth 35 rfl) rfl (by decide) g15 (⟨by decide, by decide⟩ : rng (-6)) (fun q_ => ?_) (fun q_ => ?_)
      · have h := h.1 q_
        refine r_iload_n (q := 73) (dc dt_UN_plainWidth 38 rfl) rfl rfl 3 rfl ?_
        refine r_aload_n (q := 74) (dc dt_UN_plainWidth 39 rfl) rfl rfl 1 rfl ?_
        refine r_getO (q := 77) (v := 1) fl_UN_59 (dc dt_UN_plainWidth 40 rfl) rfl ly4 rfl ?_
        refine r_getO (q := 80) (v := 54) fl_UN_144 (dc dt_UN_plainWidth 41 rfl) rfl ly1 rfl ?_
        refine r_iload (q := 82) (dc dt_UN_plainWidth 42 rfl) rfl 0 rfl ?_
        obtain ⟨o16, h⟩ := h
        refine r_aald (q := 83) (dc dt_UN_plainWidth 43 rfl) rfl ly54 o16 rfl ?_
        refine r_iconst (q := 84) (dc dt_UN_plainWidth 44 rfl) rfl rfl ?_
        refine r_iald (q := 85) (v := σ.1 (176 + (f_SC_plainForm σ (σ.1 73 ((v4 * 3).toNat)) (f_UN_placeOf σ v4 (σ.1 73 ((v4 * 3).toNat)))).toNat) 2) (dc dt_UN_plainWidth 45 rfl) rfl (lyr_176 o16) ⟨by decide, by decide⟩ rfl (fun g17 => ?_)
        refine r_iadd (q := 86) (dc dt_UN_plainWidth 46 rfl) rfl ?_
        refine r_istore_n (q := 87) (dc dt_UN_plainWidth 47 rfl) rfl rfl (by decide) rfl ?_
        refine r_iinc (q := 90) (k := 4) (dc dt_UN_plainWidth 48 rfl) rfl rfl (by decide) rfl ?_
        refine r_goto (q := 17) (dc dt_UN_plainWidth 49 rfl) (by decide) ?_
        exact r_loc [3, 4, 1, 0] rfl h
      · have h := h.2 q_
        refine r_bipush (q := 71) (dc dt_UN_plainWidth 36 rfl) rfl (by decide) ?_
        exact r_iret rfl (dc dt_UN_plainWidth 37 rfl) (⟨by decide, by decide⟩ : rng (-6)) h
def tb_LN_setPlain : List (Nat × Instr × Nat) := [(0, .aload_n 0, 1), (1, .iload_n 1, 1), (2, .iload_n 2, 1), (3, .invokevirtual 84, 3), (6, .iload_n 1, 1), (7, .istore_n 3, 1), (8, .iload_n 3, 1), (9, .iload_n 2, 1), (10, .if_icmp .gt 70, 3), (13, .aload_n 0, 1), (14, .getfield 55, 3), (17, .getfield 88, 3), (20, .iload_n 3, 1), (21, .iaload, 1), (22, .iload_n 3, 1), (23, .if_icmp .ne 51, 3), (26, .aload_n 0, 1), (27, .getfield 55, 3), (30, .iload_n 3, 1), (31, .invokevirtual 91, 3), (34, .istore 4, 2), (36, .aload_n 0, 1), (37, .getfield 51, 3), (40, .iload 4, 2), (42, .aload_n 0, 1), (43, .getfield 55, 3), (46, .iload_n 3, 1), (47, .iload 4, 2), (49, .invokevirtual 95, 3), (52, .invokevirtual 98, 3), (55, .istore 5, 2), (57, .iload 5, 2), (59, .bipush (-6), 2), (61, .if_icmp .eq 13, 3), (64, .aload_n 0, 1), (65, .iload 4, 2), (67, .iload_n 3, 1), (68, .iload 5, 2), (70, .iconst 0, 1), (71, .invokevirtual 101, 3), (74, .iinc 3 1, 3), (77, .goto (-69), 3), (80, .return_, 1)]
theorem dt_LN_setPlain : DT (cM m_LN_setPlain) tb_LN_setPlain := by unfold DT; decide +kernel
abbrev a_LN_setPlain_0 (G : GT) (q0 : Nat) (v1 : Int) (v2 : Int) (σ : St) (P : Int → St → Prop) : Prop := A G m_LN_setPlain 0 [(0, O q0), (1, I v1), (2, I v2)] [] σ P
abbrev a_LN_setPlain_8 (G : GT) (q0 : Nat) (v2 : Int) (v3 : Int) (σ : St) (P : Int → St → Prop) : Prop := A G m_LN_setPlain 8 [(0, O q0), (2, I v2), (3, I v3)] [] σ P
set_option maxRecDepth 20000 in
theorem k_LN_setPlain_0 {G : GT} {σ : St} {P : Int → St → Prop} {q0 : Nat} {v1 : Int} {v2 : Int} (hq0 : isL q0) 
    (h : CJ G m_LN_begin [O q0, I v1, I v2] σ (fun _ u1 => a_LN_setPlain_8 G q0 v2 v1 u1 P)) :
    a_LN_setPlain_0 G q0 v1 v2 σ P := by
  rcases hq0 with rfl | rfl
  ·
    refine r_aload_n (q := 1) (dc dt_LN_setPlain 0 rfl) rfl rfl 0 rfl ?_
    refine r_iload_n (q := 2) (dc dt_LN_setPlain 1 rfl) rfl rfl 1 rfl ?_
    refine r_iload_n (q := 3) (dc dt_LN_setPlain 2 rfl) rfl rfl 2 rfl ?_
    refine r_callVv (q := 6) mk_LN_begin lm_LN_84 (RMO.of rfl) rfl (dc dt_LN_setPlain 3 rfl) rfl rfl [I v1, I v2] [] rfl rfl (Nat.le_of_ble_eq_true rfl) h (fun u1 h => ?_)
    refine r_iload_n (q := 7) (dc dt_LN_setPlain 4 rfl) rfl rfl 1 rfl ?_
    refine r_istore_n (q := 8) (dc dt_LN_setPlain 5 rfl) rfl rfl (by decide) rfl ?_
    exact r_loc [1, 3, 0] rfl h
  ·
    refine r_aload_n (q := 1) (dc dt_LN_setPlain 0 rfl) rfl rfl 0 rfl ?_
    refine r_iload_n (q := 2) (dc dt_LN_setPlain 1 rfl) rfl rfl 1 rfl ?_
    refine r_iload_n (q := 3) (dc dt_LN_setPlain 2 rfl) rfl rfl 2 rfl ?_
    refine r_callVv (q := 6) mk_LN_begin lm_LN_84 (RMO.of rfl) rfl (dc dt_LN_setPlain 3 rfl) rfl rfl [I v1, I v2] [] rfl rfl (Nat.le_of_ble_eq_true rfl) h (fun u1 h => ?_)
    refine r_iload_n (q := 7) (dc dt_LN_setPlain 4 rfl) rfl rfl 1 rfl ?_
    refine r_istore_n (q := 8) (dc dt_LN_setPlain 5 rfl) rfl rfl (by decide) rfl ?_
    exact r_loc [1, 3, 0] rfl h
set_option maxRecDepth 20000 in
theorem k_LN_setPlain_8 {G : GT} {σ : St} {P : Int → St → Prop} {q0 : Nat} {v2 : Int} {v3 : Int} (hq0 : isL q0) 
    (h : rng v3 ∧ rng v2 ∧ (v2 < v3 → P 0 σ) ∧ (v3 ≤ v2 → (0 ≤ v3 ∧ v3 < 80) ∧ (σ.1 71 v3.toNat ≠ v3 → a_LN_setPlain_8 G q0 v2 (v3 + 1) σ P) ∧ (σ.1 71 v3.toNat = v3 → (0 ≤ v3 * 3 ∧ v3 * 3 < 240) ∧ p_UN_placeOf σ v3 (σ.1 73 ((v3 * 3).toNat)) ∧ p_SC_plainForm σ (σ.1 73 ((v3 * 3).toNat)) (f_UN_placeOf σ v3 (σ.1 73 ((v3 * 3).toNat))) ∧ (f_SC_plainForm σ (σ.1 73 ((v3 * 3).toNat)) (f_UN_placeOf σ v3 (σ.1 73 ((v3 * 3).toNat))) = (-6) → a_LN_setPlain_8 G q0 v2 (v3 + 1) σ P) ∧ (f_SC_plainForm σ (σ.1 73 ((v3 * 3).toNat)) (f_UN_placeOf σ v3 (σ.1 73 ((v3 * 3).toNat))) ≠ (-6) → CJ G m_LN_addPiece [O q0, I (σ.1 73 ((v3 * 3).toNat)), I v3, I (f_SC_plainForm σ (σ.1 73 ((v3 * 3).toNat)) (f_UN_placeOf σ v3 (σ.1 73 ((v3 * 3).toNat)))), I 0] σ (fun _ u26 => a_LN_setPlain_8 G q0 v2 (v3 + 1) u26 P))))) :
    a_LN_setPlain_8 G q0 v2 v3 σ P := by
  rcases hq0 with rfl | rfl
  ·
    refine r_iload_n (q := 9) (dc dt_LN_setPlain 6 rfl) rfl rfl 2 rfl ?_
    refine r_iload_n (q := 10) (dc dt_LN_setPlain 7 rfl) rfl rfl 1 rfl ?_
    obtain ⟨o2, h⟩ := h
    obtain ⟨o3, h⟩ := h
    refine r_icmp_gt (q := 13) (t := 80) (dc dt_LN_setPlain 8 rfl) rfl (by decide) o2 o3 (fun q_ => ?_) (fun q_ => ?_)
    · have h := h.1 q_
      exact r_vret rfl (dc dt_LN_setPlain 42 rfl) h
    · have h := h.2 q_
      refine r_aload_n (q := 14) (dc dt_LN_setPlain 9 rfl) rfl rfl 0 rfl ?_
      refine r_getO (q := 17) (v := 4) fl_LN_55 (dc dt_LN_setPlain 10 rfl) rfl rfl rfl ?_
      refine r_getO (q := 20) (v := 71) fl_LN_88 (dc dt_LN_setPlain 11 rfl) rfl ly4 rfl ?_
      refine r_iload_n (q := 21) (dc dt_LN_setPlain 12 rfl) rfl rfl 2 rfl ?_
      obtain ⟨o12, h⟩ := h
      refine r_iald (q := 22) (v := σ.1 71 v3.toNat) (dc dt_LN_setPlain 13 rfl) rfl ly71 o12 rfl (fun g13 => ?_)
      refine r_iload_n (q := 23) (dc dt_LN_setPlain 14 rfl) rfl rfl 2 rfl ?_
      refine r_icmp_ne (q := 26) (t := 74) (dc dt_LN_setPlain 15 rfl) rfl (by decide) g13 o2 (fun q_ => ?_) (fun q_ => ?_)
      · have h := h.1 q_
        refine r_iinc (q := 77) (k := 2) (dc dt_LN_setPlain 40 rfl) rfl rfl (by decide) rfl ?_
        refine r_goto (q := 8) (dc dt_LN_setPlain 41 rfl) (by decide) ?_
        exact r_loc [1, 2, 0] rfl h
      · have h := h.2 q_
        refine r_aload_n (q := 27) (dc dt_LN_setPlain 16 rfl) rfl rfl 0 rfl ?_
        refine r_getO (q := 30) (v := 4) fl_LN_55 (dc dt_LN_setPlain 17 rfl) rfl rfl rfl ?_
        refine r_iload_n (q := 31) (dc dt_LN_setPlain 18 rfl) rfl rfl 2 rfl ?_
        obtain ⟨o20, h⟩ := h
        refine r_callVi (q := 34) mk_UN_base lm_LN_91 (RMO.of rfl) rfl (dc dt_LN_setPlain 19 rfl) rfl ly4 [I v3] [] rfl rfl (Nat.le_of_ble_eq_true rfl) (sp_UN_base o20) (fun _ _ g21 z => ?_)
        obtain ⟨z, w⟩ := z
        subst z
        replace w := w.symm
        subst w
        refine r_istore (q := 36) (dc dt_LN_setPlain 20 rfl) rfl (by decide) rfl ?_
        refine r_aload_n (q := 37) (dc dt_LN_setPlain 21 rfl) rfl rfl 1 rfl ?_
        refine r_getO (q := 40) (v := 1) fl_LN_51 (dc dt_LN_setPlain 22 rfl) rfl rfl rfl ?_
        refine r_iload (q := 42) (dc dt_LN_setPlain 23 rfl) rfl 0 rfl ?_
        refine r_aload_n (q := 43) (dc dt_LN_setPlain 24 rfl) rfl rfl 1 rfl ?_
        refine r_getO (q := 46) (v := 4) fl_LN_55 (dc dt_LN_setPlain 25 rfl) rfl rfl rfl ?_
        refine r_iload_n (q := 47) (dc dt_LN_setPlain 26 rfl) rfl rfl 3 rfl ?_
        refine r_iload (q := 49) (dc dt_LN_setPlain 27 rfl) rfl 0 rfl ?_
        obtain ⟨o22, h⟩ := h
        refine r_callVi (q := 52) mk_UN_placeOf lm_LN_95 (RMO.of rfl) rfl (dc dt_LN_setPlain 28 rfl) rfl ly4 [I v3, I (σ.1 73 ((v3 * 3).toNat))] [I (σ.1 73 ((v3 * 3).toNat)), O 1] rfl rfl (Nat.le_of_ble_eq_true rfl) (sp_UN_placeOf o22) (fun _ _ g23 z => ?_)
        obtain ⟨z, w⟩ := z
        subst z
        replace w := w.symm
        subst w
        obtain ⟨o24, h⟩ := h
        refine r_callVi (q := 55) mk_SC_plainForm lm_LN_98 (RMO.of rfl) rfl (dc dt_LN_setPlain 29 rfl) rfl ly1 [I (σ.1 73 ((v3 * 3).toNat)), I (f_UN_placeOf σ v3 (σ.1 73 ((v3 * 3).toNat)))] [] rfl rfl (Nat.le_of_ble_eq_true rfl) (sp_SC_plainForm o24) (fun _ _ g25 z => ?_)
        obtain ⟨z, w⟩ := z
        subst z
        replace w := w.symm
        subst w
        refine r_istore (q := 57) (dc dt_LN_setPlain 30 rfl) rfl (by decide) rfl ?_
        refine r_iload (q := 59) (dc dt_LN_setPlain 31 rfl) rfl 0 rfl ?_
        refine r_bipush (q := 61) (dc dt_LN_setPlain 32 rfl) rfl (by decide) ?_
        refine r_icmp_eq (q := 64) (t := 74) (dc dt_LN_setPlain 33 rfl) rfl (by decide) g25 (⟨by decide, by decide⟩ : rng (-6)) (fun q_ => ?_) (fun q_ => ?_)
        · have h := h.1 q_
          refine r_iinc (q := 77) (k := 4) (dc dt_LN_setPlain 40 rfl) rfl rfl (by decide) rfl ?_
          refine r_goto (q := 8) (dc dt_LN_setPlain 41 rfl) (by decide) ?_
          exact r_loc [3, 4, 0] rfl h
        · have h := h.2 q_
          refine r_aload_n (q := 65) (dc dt_LN_setPlain 34 rfl) rfl rfl 2 rfl ?_
          refine r_iload (q := 67) (dc dt_LN_setPlain 35 rfl) rfl 1 rfl ?_
          refine r_iload_n (q := 68) (dc dt_LN_setPlain 36 rfl) rfl rfl 4 rfl ?_
          refine r_iload (q := 70) (dc dt_LN_setPlain 37 rfl) rfl 0 rfl ?_
          refine r_iconst (q := 71) (dc dt_LN_setPlain 38 rfl) rfl rfl ?_
          refine r_callVv (q := 74) mk_LN_addPiece lm_LN_101 (RMO.of rfl) rfl (dc dt_LN_setPlain 39 rfl) rfl rfl [I (σ.1 73 ((v3 * 3).toNat)), I v3, I (f_SC_plainForm σ (σ.1 73 ((v3 * 3).toNat)) (f_UN_placeOf σ v3 (σ.1 73 ((v3 * 3).toNat)))), I 0] [] rfl rfl (Nat.le_of_ble_eq_true rfl) h (fun u26 h => ?_)
          refine r_iinc (q := 77) (k := 4) (dc dt_LN_setPlain 40 rfl) rfl rfl (by decide) rfl ?_
          refine r_goto (q := 8) (dc dt_LN_setPlain 41 rfl) (by decide) ?_
          exact r_loc [3, 4, 0] rfl h
  ·
    refine r_iload_n (q := 9) (dc dt_LN_setPlain 6 rfl) rfl rfl 2 rfl ?_
    refine r_iload_n (q := 10) (dc dt_LN_setPlain 7 rfl) rfl rfl 1 rfl ?_
    obtain ⟨o2, h⟩ := h
    obtain ⟨o3, h⟩ := h
    refine r_icmp_gt (q := 13) (t := 80) (dc dt_LN_setPlain 8 rfl) rfl (by decide) o2 o3 (fun q_ => ?_) (fun q_ => ?_)
    · have h := h.1 q_
      exact r_vret rfl (dc dt_LN_setPlain 42 rfl) h
    · have h := h.2 q_
      refine r_aload_n (q := 14) (dc dt_LN_setPlain 9 rfl) rfl rfl 0 rfl ?_
      refine r_getO (q := 17) (v := 4) fl_LN_55 (dc dt_LN_setPlain 10 rfl) rfl rfl rfl ?_
      refine r_getO (q := 20) (v := 71) fl_LN_88 (dc dt_LN_setPlain 11 rfl) rfl ly4 rfl ?_
      refine r_iload_n (q := 21) (dc dt_LN_setPlain 12 rfl) rfl rfl 2 rfl ?_
      obtain ⟨o12, h⟩ := h
      refine r_iald (q := 22) (v := σ.1 71 v3.toNat) (dc dt_LN_setPlain 13 rfl) rfl ly71 o12 rfl (fun g13 => ?_)
      refine r_iload_n (q := 23) (dc dt_LN_setPlain 14 rfl) rfl rfl 2 rfl ?_
      refine r_icmp_ne (q := 26) (t := 74) (dc dt_LN_setPlain 15 rfl) rfl (by decide) g13 o2 (fun q_ => ?_) (fun q_ => ?_)
      · have h := h.1 q_
        refine r_iinc (q := 77) (k := 2) (dc dt_LN_setPlain 40 rfl) rfl rfl (by decide) rfl ?_
        refine r_goto (q := 8) (dc dt_LN_setPlain 41 rfl) (by decide) ?_
        exact r_loc [1, 2, 0] rfl h
      · have h := h.2 q_
        refine r_aload_n (q := 27) (dc dt_LN_setPlain 16 rfl) rfl rfl 0 rfl ?_
        refine r_getO (q := 30) (v := 4) fl_LN_55 (dc dt_LN_setPlain 17 rfl) rfl rfl rfl ?_
        refine r_iload_n (q := 31) (dc dt_LN_setPlain 18 rfl) rfl rfl 2 rfl ?_
        obtain ⟨o20, h⟩ := h
        refine r_callVi (q := 34) mk_UN_base lm_LN_91 (RMO.of rfl) rfl (dc dt_LN_setPlain 19 rfl) rfl ly4 [I v3] [] rfl rfl (Nat.le_of_ble_eq_true rfl) (sp_UN_base o20) (fun _ _ g21 z => ?_)
        obtain ⟨z, w⟩ := z
        subst z
        replace w := w.symm
        subst w
        refine r_istore (q := 36) (dc dt_LN_setPlain 20 rfl) rfl (by decide) rfl ?_
        refine r_aload_n (q := 37) (dc dt_LN_setPlain 21 rfl) rfl rfl 1 rfl ?_
        refine r_getO (q := 40) (v := 1) fl_LN_51 (dc dt_LN_setPlain 22 rfl) rfl rfl rfl ?_
        refine r_iload (q := 42) (dc dt_LN_setPlain 23 rfl) rfl 0 rfl ?_
        refine r_aload_n (q := 43) (dc dt_LN_setPlain 24 rfl) rfl rfl 1 rfl ?_
        refine r_getO (q := 46) (v := 4) fl_LN_55 (dc dt_LN_setPlain 25 rfl) rfl rfl rfl ?_
        refine r_iload_n (q := 47) (dc dt_LN_setPlain 26 rfl) rfl rfl 3 rfl ?_
        refine r_iload (q := 49) (dc dt_LN_setPlain 27 rfl) rfl 0 rfl ?_
        obtain ⟨o22, h⟩ := h
        refine r_callVi (q := 52) mk_UN_placeOf lm_LN_95 (RMO.of rfl) rfl (dc dt_LN_setPlain 28 rfl) rfl ly4 [I v3, I (σ.1 73 ((v3 * 3).toNat))] [I (σ.1 73 ((v3 * 3).toNat)), O 1] rfl rfl (Nat.le_of_ble_eq_true rfl) (sp_UN_placeOf o22) (fun _ _ g23 z => ?_)
        obtain ⟨z, w⟩ := z
        subst z
        replace w := w.symm
        subst w
        obtain ⟨o24, h⟩ := h
        refine r_callVi (q := 55) mk_SC_plainForm lm_LN_98 (RMO.of rfl) rfl (dc dt_LN_setPlain 29 rfl) rfl ly1 [I (σ.1 73 ((v3 * 3).toNat)), I (f_UN_placeOf σ v3 (σ.1 73 ((v3 * 3).toNat)))] [] rfl rfl (Nat.le_of_ble_eq_true rfl) (sp_SC_plainForm o24) (fun _ _ g25 z => ?_)
        obtain ⟨z, w⟩ := z
        subst z
        replace w := w.symm
        subst w
        refine r_istore (q := 57) (dc dt_LN_setPlain 30 rfl) rfl (by decide) rfl ?_
        refine r_iload (q := 59) (dc dt_LN_setPlain 31 rfl) rfl 0 rfl ?_
        refine r_bipush (q := 61) (dc dt_LN_setPlain 32 rfl) rfl (by decide) ?_
        refine r_icmp_eq (q := 64) (t := 74) (dc dt_LN_setPlain 33 rfl) rfl (by decide) g25 (⟨by decide, by decide⟩ : rng (-6)) (fun q_ => ?_) (fun q_ => ?_)
        · have h := h.1 q_
          refine r_iinc (q := 77) (k := 4) (dc dt_LN_setPlain 40 rfl) rfl rfl (by decide) rfl ?_
          refine r_goto (q := 8) (dc dt_LN_setPlain 41 rfl) (by decide) ?_
          exact r_loc [3, 4, 0] rfl h
        · have h := h.2 q_
          refine r_aload_n (q := 65) (dc dt_LN_setPlain 34 rfl) rfl rfl 2 rfl ?_
          refine r_iload (q := 67) (dc dt_LN_setPlain 35 rfl) rfl 1 rfl ?_
          refine r_iload_n (q := 68) (dc dt_LN_setPlain 36 rfl) rfl rfl 4 rfl ?_
          refine r_iload (q := 70) (dc dt_LN_setPlain 37 rfl) rfl 0 rfl ?_
          refine r_iconst (q := 71) (dc dt_LN_setPlain 38 rfl) rfl rfl ?_
          refine r_callVv (q := 74) mk_LN_addPiece lm_LN_101 (RMO.of rfl) rfl (dc dt_LN_setPlain 39 rfl) rfl rfl [I (σ.1 73 ((v3 * 3).toNat)), I v3, I (f_SC_plainForm σ (σ.1 73 ((v3 * 3).toNat)) (f_UN_placeOf σ v3 (σ.1 73 ((v3 * 3).toNat)))), I 0] [] rfl rfl (Nat.le_of_ble_eq_true rfl) h (fun u26 h => ?_)
          refine r_iinc (q := 77) (k := 4) (dc dt_LN_setPlain 40 rfl) rfl rfl (by decide) rfl ?_
          refine r_goto (q := 8) (dc dt_LN_setPlain 41 rfl) (by decide) ?_
          exact r_loc [3, 4, 0] rfl h
def tb_JS_plain : List (Nat × Instr × Nat) := [(0, .aload_n 0, 1), (1, .invokevirtual 192, 3), (4, .aload_n 0, 1), (5, .getfield 35, 3), (8, .iload_n 1, 1), (9, .iload_n 2, 1), (10, .invokevirtual 219, 3), (13, .ifCond .ne 5, 3), (16, .iconst (-1), 1), (17, .ireturn, 1), (18, .aload_n 0, 1), (19, .getfield 35, 3), (22, .aload_n 0, 1), (23, .getfield 35, 3), (26, .getfield 222, 3), (29, .iload_n 1, 1), (30, .iaload, 1), (31, .aload_n 0, 1), (32, .getfield 35, 3), (35, .getfield 225, 3), (38, .iload_n 2, 1), (39, .iaload, 1), (40, .invokevirtual 248, 3), (43, .bipush (-6), 2), (45, .if_icmp .ne 6, 3), (48, .bipush (-5), 2), (50, .ireturn, 1), (51, .aload_n 0, 1), (52, .getfield 73, 3), (55, .aload_n 0, 1), (56, .getfield 35, 3), (59, .getfield 222, 3), (62, .iload_n 1, 1), (63, .iaload, 1), (64, .aload_n 0, 1), (65, .getfield 35, 3), (68, .getfield 225, 3), (71, .iload_n 2, 1), (72, .iaload, 1), (73, .invokevirtual 251, 3), (76, .aload_n 0, 1), (77, .invokevirtual 245, 3), (80, .aload_n 0, 1), (81, .getfield 69, 3), (84, .getfield 254, 3), (87, .ireturn, 1)]
theorem dt_JS_plain : DT (cM m_JS_plain) tb_JS_plain := by unfold DT; decide +kernel
abbrev a_JS_plain_0 (G : GT)  (v1 : Int) (v2 : Int) (σ : St) (P : Int → St → Prop) : Prop := A G m_JS_plain 0 [(0, O 0), (1, I v1), (2, I v2)] [] σ P
set_option maxRecDepth 20000 in
theorem k_JS_plain_0 {G : GT} {σ : St} {P : Int → St → Prop}  {v1 : Int} {v2 : Int}  
    (h : CJ G m_JS_lookAtText [O 0] σ (fun _ u1 => rng v1 ∧ (0 ≤ v1 → rng v2) ∧ (0 ≤ v1 ∧ (v1 ≤ v2 ∧ v2 < u1.2.1 4 3) → (0 ≤ v1 ∧ v1 < 80) ∧ (0 ≤ v2 ∧ v2 < 80) ∧ CJ G m_UN_plainWidth [O 4, I (u1.1 66 v1.toNat), I (u1.1 67 v2.toNat)] u1 (fun r10 u9 => (r10 ≠ (-6) → isL u9.2.2.2 ∧ CJ G m_LN_setPlain [O u9.2.2.2, I (u9.1 66 v1.toNat), I (u9.1 67 v2.toNat)] u9 (fun _ u15 => CJ G m_JS_takeSpare [O 0] u15 (fun _ u16 => isL u16.2.2.1 ∧ P (u16.2.1 u16.2.2.1 2) u16))) ∧ (r10 = (-6) → P (-5) u9))) ∧ (¬ (0 ≤ v1 ∧ (v1 ≤ v2 ∧ v2 < u1.2.1 4 3)) → P (-1) u1))) :
    a_JS_plain_0 G v1 v2 σ P := by
  refine r_aload_n (q := 1) (dc dt_JS_plain 0 rfl) rfl rfl 0 rfl ?_
  refine r_callVv (q := 4) mk_JS_lookAtText lm_JS_192 (RMO.of rfl) rfl (dc dt_JS_plain 1 rfl) rfl ly0 [] [] rfl rfl (Nat.le_of_ble_eq_true rfl) h (fun u1 h => ?_)
  refine r_aload_n (q := 5) (dc dt_JS_plain 2 rfl) rfl rfl 0 rfl ?_
  refine r_getO (q := 8) (v := 4) fl_JS_35 (dc dt_JS_plain 3 rfl) rfl ly0 rfl ?_
  refine r_iload_n (q := 9) (dc dt_JS_plain 4 rfl) rfl rfl 1 rfl ?_
  refine r_iload_n (q := 10) (dc dt_JS_plain 5 rfl) rfl rfl 2 rfl ?_
  obtain ⟨o2, h⟩ := h
  obtain ⟨o3, h⟩ := h
  refine r_callVi (q := 13) mk_UN_hasWords lm_JS_219 (RMO.of rfl) rfl (dc dt_JS_plain 6 rfl) rfl ly4 [I v1, I v2] [] rfl rfl (Nat.le_of_ble_eq_true rfl) (sp_UN_hasWords o2 o3) (fun _ _ g4 z => ?_)
  obtain ⟨z, w⟩ := z
  subst z
  replace w := w.symm
  subst w
  refine r_ifb_ne (q := 16) (t := 18) (dc dt_JS_plain 7 rfl) rfl (by decide) (fun q_ => ?_) (fun q_ => ?_)
  · have h := h.1 q_
    refine r_aload_n (q := 19) (dc dt_JS_plain 10 rfl) rfl rfl 0 rfl ?_
    refine r_getO (q := 22) (v := 4) fl_JS_35 (dc dt_JS_plain 11 rfl) rfl ly0 rfl ?_
    refine r_aload_n (q := 23) (dc dt_JS_plain 12 rfl) rfl rfl 0 rfl ?_
    refine r_getO (q := 26) (v := 4) fl_JS_35 (dc dt_JS_plain 13 rfl) rfl ly0 rfl ?_
    refine r_getO (q := 29) (v := 66) fl_JS_222 (dc dt_JS_plain 14 rfl) rfl ly4 rfl ?_
    refine r_iload_n (q := 30) (dc dt_JS_plain 15 rfl) rfl rfl 1 rfl ?_
    obtain ⟨o5, h⟩ := h
    refine r_iald (q := 31) (v := u1.1 66 v1.toNat) (dc dt_JS_plain 16 rfl) rfl ly66 o5 rfl (fun g6 => ?_)
    refine r_aload_n (q := 32) (dc dt_JS_plain 17 rfl) rfl rfl 0 rfl ?_
    refine r_getO (q := 35) (v := 4) fl_JS_35 (dc dt_JS_plain 18 rfl) rfl ly0 rfl ?_
    refine r_getO (q := 38) (v := 67) fl_JS_225 (dc dt_JS_plain 19 rfl) rfl ly4 rfl ?_
    refine r_iload_n (q := 39) (dc dt_JS_plain 20 rfl) rfl rfl 2 rfl ?_
    obtain ⟨o7, h⟩ := h
    refine r_iald (q := 40) (v := u1.1 67 v2.toNat) (dc dt_JS_plain 21 rfl) rfl ly67 o7 rfl (fun g8 => ?_)
    refine r_callVi (q := 43) mk_UN_plainWidth lm_JS_248 (RMO.of rfl) rfl (dc dt_JS_plain 22 rfl) rfl ly4 [I (u1.1 66 v1.toNat), I (u1.1 67 v2.toNat)] [] rfl rfl (Nat.le_of_ble_eq_true rfl) h (fun r10 u9 g11 h => ?_)
    refine r_bipush (q := 45) (dc dt_JS_plain 23 rfl) rfl (by decide) ?_
    refine r_icmp_ne (q := 48) (t := 51) (dc dt_JS_plain 24 rfl) rfl (by decide) g11 (⟨by decide, by decide⟩ : rng (-6)) (fun q_ => ?_) (fun q_ => ?_)
    · have h := h.1 q_
      refine r_aload_n (q := 52) (dc dt_JS_plain 27 rfl) rfl rfl 0 rfl ?_
      refine r_getO (q := 55) (v := u9.2.2.2) fl_JS_73 (dc dt_JS_plain 28 rfl) rfl ly0 rfl ?_
      refine r_aload_n (q := 56) (dc dt_JS_plain 29 rfl) rfl rfl 0 rfl ?_
      refine r_getO (q := 59) (v := 4) fl_JS_35 (dc dt_JS_plain 30 rfl) rfl ly0 rfl ?_
      refine r_getO (q := 62) (v := 66) fl_JS_222 (dc dt_JS_plain 31 rfl) rfl ly4 rfl ?_
      refine r_iload_n (q := 63) (dc dt_JS_plain 32 rfl) rfl rfl 1 rfl ?_
      refine r_iald (q := 64) (v := u9.1 66 v1.toNat) (dc dt_JS_plain 33 rfl) rfl ly66 o5 rfl (fun g12 => ?_)
      refine r_aload_n (q := 65) (dc dt_JS_plain 34 rfl) rfl rfl 0 rfl ?_
      refine r_getO (q := 68) (v := 4) fl_JS_35 (dc dt_JS_plain 35 rfl) rfl ly0 rfl ?_
      refine r_getO (q := 71) (v := 67) fl_JS_225 (dc dt_JS_plain 36 rfl) rfl ly4 rfl ?_
      refine r_iload_n (q := 72) (dc dt_JS_plain 37 rfl) rfl rfl 2 rfl ?_
      refine r_iald (q := 73) (v := u9.1 67 v2.toNat) (dc dt_JS_plain 38 rfl) rfl ly67 o7 rfl (fun g13 => ?_)
      obtain ⟨o14, h⟩ := h
      refine r_callVv (q := 76) mk_LN_setPlain lm_JS_251 (RMO.of rfl) rfl (dc dt_JS_plain 39 rfl) rfl (lyL_0 o14) [I (u9.1 66 v1.toNat), I (u9.1 67 v2.toNat)] [] rfl rfl (Nat.le_of_ble_eq_true rfl) h (fun u15 h => ?_)
      refine r_aload_n (q := 77) (dc dt_JS_plain 40 rfl) rfl rfl 0 rfl ?_
      refine r_callVv (q := 80) mk_JS_takeSpare lm_JS_245 (RMO.of rfl) rfl (dc dt_JS_plain 41 rfl) rfl ly0 [] [] rfl rfl (Nat.le_of_ble_eq_true rfl) h (fun u16 h => ?_)
      refine r_aload_n (q := 81) (dc dt_JS_plain 42 rfl) rfl rfl 0 rfl ?_
      refine r_getO (q := 84) (v := u16.2.2.1) fl_JS_69 (dc dt_JS_plain 43 rfl) rfl ly0 rfl ?_
      obtain ⟨o17, h⟩ := h
      refine r_getI (q := 87) (v := u16.2.1 u16.2.2.1 2) fl_JS_254 (dc dt_JS_plain 44 rfl) rfl (lyL_0 o17) rfl rfl (fun g18 => ?_)
      exact r_iret rfl (dc dt_JS_plain 45 rfl) g18 h
    · have h := h.2 q_
      refine r_bipush (q := 50) (dc dt_JS_plain 25 rfl) rfl (by decide) ?_
      exact r_iret rfl (dc dt_JS_plain 26 rfl) (⟨by decide, by decide⟩ : rng (-5)) h
  · have h := h.2 q_
    refine r_iconst (q := 17) (dc dt_JS_plain 8 rfl) rfl rfl ?_
    exact r_iret rfl (dc dt_JS_plain 9 rfl) (⟨by decide, by decide⟩ : rng (-1)) h
def tb_BX_highest : List (Nat × Instr × Nat) := [(0, .iconst 0, 1), (1, .istore_n 1, 1), (2, .iconst 0, 1), (3, .istore_n 2, 1), (4, .iload_n 2, 1), (5, .aload_n 0, 1), (6, .getfield 9, 3), (9, .if_icmp .ge 20, 3), (12, .iload_n 1, 1), (13, .aload_n 0, 1), (14, .getfield 25, 3), (17, .iload_n 2, 1), (18, .iaload, 1), (19, .invokestatic 28, 3), (22, .istore_n 1, 1), (23, .iinc 2 1, 3), (26, .goto (-22), 3), (29, .iload_n 1, 1), (30, .ireturn, 1)]
theorem dt_BX_highest : DT (cM m_BX_highest) tb_BX_highest := by unfold DT; decide +kernel
abbrev a_BX_highest_0 (G : GT) (q0 : Nat)  (σ : St) (P : Int → St → Prop) : Prop := A G m_BX_highest 0 [(0, O q0)] [] σ P
abbrev a_BX_highest_4 (G : GT) (q0 : Nat) (v1 : Int) (v2 : Int) (σ : St) (P : Int → St → Prop) : Prop := A G m_BX_highest 4 [(0, O q0), (1, I v1), (2, I v2)] [] σ P
set_option maxRecDepth 20000 in
theorem k_BX_highest_0 {G : GT} {σ : St} {P : Int → St → Prop} {q0 : Nat}  (hq0 : isB q0) 
    (h : a_BX_highest_4 G q0 0 0 σ P) :
    a_BX_highest_0 G q0  σ P := by
  rcases hq0 with rfl | rfl | rfl | rfl
  ·
    refine r_iconst (q := 1) (dc dt_BX_highest 0 rfl) rfl rfl ?_
    refine r_istore_n (q := 2) (dc dt_BX_highest 1 rfl) rfl rfl (by decide) rfl ?_
    refine r_iconst (q := 3) (dc dt_BX_highest 2 rfl) rfl rfl ?_
    refine r_istore_n (q := 4) (dc dt_BX_highest 3 rfl) rfl rfl (by decide) rfl ?_
    exact r_loc [2, 1, 0] rfl h
  ·
    refine r_iconst (q := 1) (dc dt_BX_highest 0 rfl) rfl rfl ?_
    refine r_istore_n (q := 2) (dc dt_BX_highest 1 rfl) rfl rfl (by decide) rfl ?_
    refine r_iconst (q := 3) (dc dt_BX_highest 2 rfl) rfl rfl ?_
    refine r_istore_n (q := 4) (dc dt_BX_highest 3 rfl) rfl rfl (by decide) rfl ?_
    exact r_loc [2, 1, 0] rfl h
  ·
    refine r_iconst (q := 1) (dc dt_BX_highest 0 rfl) rfl rfl ?_
    refine r_istore_n (q := 2) (dc dt_BX_highest 1 rfl) rfl rfl (by decide) rfl ?_
    refine r_iconst (q := 3) (dc dt_BX_highest 2 rfl) rfl rfl ?_
    refine r_istore_n (q := 4) (dc dt_BX_highest 3 rfl) rfl rfl (by decide) rfl ?_
    exact r_loc [2, 1, 0] rfl h
  ·
    refine r_iconst (q := 1) (dc dt_BX_highest 0 rfl) rfl rfl ?_
    refine r_istore_n (q := 2) (dc dt_BX_highest 1 rfl) rfl rfl (by decide) rfl ?_
    refine r_iconst (q := 3) (dc dt_BX_highest 2 rfl) rfl rfl ?_
    refine r_istore_n (q := 4) (dc dt_BX_highest 3 rfl) rfl rfl (by decide) rfl ?_
    exact r_loc [2, 1, 0] rfl h
set_option maxRecDepth 20000 in
theorem k_BX_highest_4 {G : GT} {σ : St} {P : Int → St → Prop} {q0 : Nat} {v1 : Int} {v2 : Int} (hq0 : isB q0) 
    (h : rng v2 ∧ (σ.2.1 q0 0 ≤ v2 → rng v1 ∧ P v1 σ) ∧ (v2 < σ.2.1 q0 0 → (0 ≤ v2 ∧ v2 < 80) ∧ rng v1 ∧ a_BX_highest_4 G q0 (max v1 (σ.1 (q0 + 4) v2.toNat)) (v2 + 1) σ P)) :
    a_BX_highest_4 G q0 v1 v2 σ P := by
  rcases hq0 with rfl | rfl | rfl | rfl
  ·
    refine r_iload_n (q := 5) (dc dt_BX_highest 4 rfl) rfl rfl 2 rfl ?_
    refine r_aload_n (q := 6) (dc dt_BX_highest 5 rfl) rfl rfl 0 rfl ?_
    refine r_getI (q := 9) (v := σ.2.1 10 0) fl_BX_9 (dc dt_BX_highest 6 rfl) rfl rfl rfl rfl (fun g1 => ?_)
    obtain ⟨o2, h⟩ := h
    refine r_icmp_ge (q := 12) (t := 29) (dc dt_BX_highest 7 rfl) rfl (by decide) o2 g1 (fun q_ => ?_) (fun q_ => ?_)
    · have h := h.1 q_
      refine r_iload_n (q := 30) (dc dt_BX_highest 17 rfl) rfl rfl 1 rfl ?_
      obtain ⟨o6, h⟩ := h
      exact r_iret rfl (dc dt_BX_highest 18 rfl) o6 h
    · have h := h.2 q_
      refine r_iload_n (q := 13) (dc dt_BX_highest 8 rfl) rfl rfl 1 rfl ?_
      refine r_aload_n (q := 14) (dc dt_BX_highest 9 rfl) rfl rfl 0 rfl ?_
      refine r_getO (q := 17) (v := 10 + 4) fl_BX_25 (dc dt_BX_highest 10 rfl) rfl rfl rfl ?_
      refine r_iload_n (q := 18) (dc dt_BX_highest 11 rfl) rfl rfl 2 rfl ?_
      obtain ⟨o7, h⟩ := h
      refine r_iald (q := 19) (v := σ.1 (10 + 4) v2.toNat) (dc dt_BX_highest 12 rfl) rfl rfl o7 rfl (fun g8 => ?_)
      obtain ⟨o9, h⟩ := h
      refine r_mmax (q := 22) lm_BX_28 (by decide) (dc dt_BX_highest 13 rfl) rfl (by simp [catA]; decide) o9 g8 ?_
      refine r_istore_n (q := 23) (dc dt_BX_highest 14 rfl) rfl rfl (by decide) rfl ?_
      refine r_iinc (q := 26) (k := 2) (dc dt_BX_highest 15 rfl) rfl rfl (by decide) rfl ?_
      refine r_goto (q := 4) (dc dt_BX_highest 16 rfl) (by decide) ?_
      exact r_loc [2, 1, 0] rfl h
  ·
    refine r_iload_n (q := 5) (dc dt_BX_highest 4 rfl) rfl rfl 2 rfl ?_
    refine r_aload_n (q := 6) (dc dt_BX_highest 5 rfl) rfl rfl 0 rfl ?_
    refine r_getI (q := 9) (v := σ.2.1 16 0) fl_BX_9 (dc dt_BX_highest 6 rfl) rfl rfl rfl rfl (fun g1 => ?_)
    obtain ⟨o2, h⟩ := h
    refine r_icmp_ge (q := 12) (t := 29) (dc dt_BX_highest 7 rfl) rfl (by decide) o2 g1 (fun q_ => ?_) (fun q_ => ?_)
    · have h := h.1 q_
      refine r_iload_n (q := 30) (dc dt_BX_highest 17 rfl) rfl rfl 1 rfl ?_
      obtain ⟨o6, h⟩ := h
      exact r_iret rfl (dc dt_BX_highest 18 rfl) o6 h
    · have h := h.2 q_
      refine r_iload_n (q := 13) (dc dt_BX_highest 8 rfl) rfl rfl 1 rfl ?_
      refine r_aload_n (q := 14) (dc dt_BX_highest 9 rfl) rfl rfl 0 rfl ?_
      refine r_getO (q := 17) (v := 16 + 4) fl_BX_25 (dc dt_BX_highest 10 rfl) rfl rfl rfl ?_
      refine r_iload_n (q := 18) (dc dt_BX_highest 11 rfl) rfl rfl 2 rfl ?_
      obtain ⟨o7, h⟩ := h
      refine r_iald (q := 19) (v := σ.1 (16 + 4) v2.toNat) (dc dt_BX_highest 12 rfl) rfl rfl o7 rfl (fun g8 => ?_)
      obtain ⟨o9, h⟩ := h
      refine r_mmax (q := 22) lm_BX_28 (by decide) (dc dt_BX_highest 13 rfl) rfl (by simp [catA]; decide) o9 g8 ?_
      refine r_istore_n (q := 23) (dc dt_BX_highest 14 rfl) rfl rfl (by decide) rfl ?_
      refine r_iinc (q := 26) (k := 2) (dc dt_BX_highest 15 rfl) rfl rfl (by decide) rfl ?_
      refine r_goto (q := 4) (dc dt_BX_highest 16 rfl) (by decide) ?_
      exact r_loc [2, 1, 0] rfl h
  ·
    refine r_iload_n (q := 5) (dc dt_BX_highest 4 rfl) rfl rfl 2 rfl ?_
    refine r_aload_n (q := 6) (dc dt_BX_highest 5 rfl) rfl rfl 0 rfl ?_
    refine r_getI (q := 9) (v := σ.2.1 29 0) fl_BX_9 (dc dt_BX_highest 6 rfl) rfl rfl rfl rfl (fun g1 => ?_)
    obtain ⟨o2, h⟩ := h
    refine r_icmp_ge (q := 12) (t := 29) (dc dt_BX_highest 7 rfl) rfl (by decide) o2 g1 (fun q_ => ?_) (fun q_ => ?_)
    · have h := h.1 q_
      refine r_iload_n (q := 30) (dc dt_BX_highest 17 rfl) rfl rfl 1 rfl ?_
      obtain ⟨o6, h⟩ := h
      exact r_iret rfl (dc dt_BX_highest 18 rfl) o6 h
    · have h := h.2 q_
      refine r_iload_n (q := 13) (dc dt_BX_highest 8 rfl) rfl rfl 1 rfl ?_
      refine r_aload_n (q := 14) (dc dt_BX_highest 9 rfl) rfl rfl 0 rfl ?_
      refine r_getO (q := 17) (v := 29 + 4) fl_BX_25 (dc dt_BX_highest 10 rfl) rfl rfl rfl ?_
      refine r_iload_n (q := 18) (dc dt_BX_highest 11 rfl) rfl rfl 2 rfl ?_
      obtain ⟨o7, h⟩ := h
      refine r_iald (q := 19) (v := σ.1 (29 + 4) v2.toNat) (dc dt_BX_highest 12 rfl) rfl rfl o7 rfl (fun g8 => ?_)
      obtain ⟨o9, h⟩ := h
      refine r_mmax (q := 22) lm_BX_28 (by decide) (dc dt_BX_highest 13 rfl) rfl (by simp [catA]; decide) o9 g8 ?_
      refine r_istore_n (q := 23) (dc dt_BX_highest 14 rfl) rfl rfl (by decide) rfl ?_
      refine r_iinc (q := 26) (k := 2) (dc dt_BX_highest 15 rfl) rfl rfl (by decide) rfl ?_
      refine r_goto (q := 4) (dc dt_BX_highest 16 rfl) (by decide) ?_
      exact r_loc [2, 1, 0] rfl h
  ·
    refine r_iload_n (q := 5) (dc dt_BX_highest 4 rfl) rfl rfl 2 rfl ?_
    refine r_aload_n (q := 6) (dc dt_BX_highest 5 rfl) rfl rfl 0 rfl ?_
    refine r_getI (q := 9) (v := σ.2.1 35 0) fl_BX_9 (dc dt_BX_highest 6 rfl) rfl rfl rfl rfl (fun g1 => ?_)
    obtain ⟨o2, h⟩ := h
    refine r_icmp_ge (q := 12) (t := 29) (dc dt_BX_highest 7 rfl) rfl (by decide) o2 g1 (fun q_ => ?_) (fun q_ => ?_)
    · have h := h.1 q_
      refine r_iload_n (q := 30) (dc dt_BX_highest 17 rfl) rfl rfl 1 rfl ?_
      obtain ⟨o6, h⟩ := h
      exact r_iret rfl (dc dt_BX_highest 18 rfl) o6 h
    · have h := h.2 q_
      refine r_iload_n (q := 13) (dc dt_BX_highest 8 rfl) rfl rfl 1 rfl ?_
      refine r_aload_n (q := 14) (dc dt_BX_highest 9 rfl) rfl rfl 0 rfl ?_
      refine r_getO (q := 17) (v := 35 + 4) fl_BX_25 (dc dt_BX_highest 10 rfl) rfl rfl rfl ?_
      refine r_iload_n (q := 18) (dc dt_BX_highest 11 rfl) rfl rfl 2 rfl ?_
      obtain ⟨o7, h⟩ := h
      refine r_iald (q := 19) (v := σ.1 (35 + 4) v2.toNat) (dc dt_BX_highest 12 rfl) rfl rfl o7 rfl (fun g8 => ?_)
      obtain ⟨o9, h⟩ := h
      refine r_mmax (q := 22) lm_BX_28 (by decide) (dc dt_BX_highest 13 rfl) rfl (by simp [catA]; decide) o9 g8 ?_
      refine r_istore_n (q := 23) (dc dt_BX_highest 14 rfl) rfl rfl (by decide) rfl ?_
      refine r_iinc (q := 26) (k := 2) (dc dt_BX_highest 15 rfl) rfl rfl (by decide) rfl ?_
      refine r_goto (q := 4) (dc dt_BX_highest 16 rfl) (by decide) ?_
      exact r_loc [2, 1, 0] rfl h
def tb_LN_height : List (Nat × Instr × Nat) := [(0, .aload_n 0, 1), (1, .getfield 40, 3), (4, .invokevirtual 141, 3), (7, .aload_n 0, 1), (8, .getfield 47, 3), (11, .getfield 104, 3), (14, .invokevirtual 141, 3), (17, .invokestatic 145, 3), (20, .ireturn, 1)]
theorem dt_LN_height : DT (cM m_LN_height) tb_LN_height := by unfold DT; decide +kernel
abbrev a_LN_height_0 (G : GT) (q0 : Nat)  (σ : St) (P : Int → St → Prop) : Prop := A G m_LN_height 0 [(0, O q0)] [] σ P
set_option maxRecDepth 20000 in
theorem k_LN_height_0 {G : GT} {σ : St} {P : Int → St → Prop} {q0 : Nat}  (hq0 : isL q0) 
    (h : CJ G m_BX_highest [O (q0 + 1)] σ (fun r2 u1 => CJ G m_BX_highest [O (q0 + 7)] u1 (fun r5 u4 => rng (max r2 r5) ∧ P (max r2 r5) u4))) :
    a_LN_height_0 G q0  σ P := by
  rcases hq0 with rfl | rfl
  ·
    refine r_aload_n (q := 1) (dc dt_LN_height 0 rfl) rfl rfl 0 rfl ?_
    refine r_getO (q := 4) (v := 9 + 1) fl_LN_40 (dc dt_LN_height 1 rfl) rfl rfl rfl ?_
    refine r_callVi (q := 7) mk_BX_highest lm_LN_141 (RMO.of rfl) rfl (dc dt_LN_height 2 rfl) rfl rfl [] [] rfl rfl (Nat.le_of_ble_eq_true rfl) h (fun r2 u1 g3 h => ?_)
    refine r_aload_n (q := 8) (dc dt_LN_height 3 rfl) rfl rfl 0 rfl ?_
    refine r_getO (q := 11) (v := 9 + 6) fl_LN_47 (dc dt_LN_height 4 rfl) rfl rfl rfl ?_
    refine r_getO (q := 14) (v := 9 + 7) fl_LN_104 (dc dt_LN_height 5 rfl) rfl rfl rfl ?_
    refine r_callVi (q := 17) mk_BX_highest lm_LN_141 (RMO.of rfl) rfl (dc dt_LN_height 6 rfl) rfl rfl [] [I r2] rfl rfl (Nat.le_of_ble_eq_true rfl) h (fun r5 u4 g6 h => ?_)
    refine r_mmax (q := 20) lm_LN_145 (by decide) (dc dt_LN_height 7 rfl) rfl (by simp [catA]; decide) g3 g6 ?_
    obtain ⟨o7, h⟩ := h
    exact r_iret rfl (dc dt_LN_height 8 rfl) o7 h
  ·
    refine r_aload_n (q := 1) (dc dt_LN_height 0 rfl) rfl rfl 0 rfl ?_
    refine r_getO (q := 4) (v := 28 + 1) fl_LN_40 (dc dt_LN_height 1 rfl) rfl rfl rfl ?_
    refine r_callVi (q := 7) mk_BX_highest lm_LN_141 (RMO.of rfl) rfl (dc dt_LN_height 2 rfl) rfl rfl [] [] rfl rfl (Nat.le_of_ble_eq_true rfl) h (fun r2 u1 g3 h => ?_)
    refine r_aload_n (q := 8) (dc dt_LN_height 3 rfl) rfl rfl 0 rfl ?_
    refine r_getO (q := 11) (v := 28 + 6) fl_LN_47 (dc dt_LN_height 4 rfl) rfl rfl rfl ?_
    refine r_getO (q := 14) (v := 28 + 7) fl_LN_104 (dc dt_LN_height 5 rfl) rfl rfl rfl ?_
    refine r_callVi (q := 17) mk_BX_highest lm_LN_141 (RMO.of rfl) rfl (dc dt_LN_height 6 rfl) rfl rfl [] [I r2] rfl rfl (Nat.le_of_ble_eq_true rfl) h (fun r5 u4 g6 h => ?_)
    refine r_mmax (q := 20) lm_LN_145 (by decide) (dc dt_LN_height 7 rfl) rfl (by simp [catA]; decide) g3 g6 ?_
    obtain ⟨o7, h⟩ := h
    exact r_iret rfl (dc dt_LN_height 8 rfl) o7 h
def tb_BX_deepest : List (Nat × Instr × Nat) := [(0, .iconst 0, 1), (1, .istore_n 1, 1), (2, .iconst 0, 1), (3, .istore_n 2, 1), (4, .iload_n 2, 1), (5, .aload_n 0, 1), (6, .getfield 9, 3), (9, .if_icmp .ge 21, 3), (12, .iload_n 1, 1), (13, .aload_n 0, 1), (14, .getfield 22, 3), (17, .iload_n 2, 1), (18, .iaload, 1), (19, .ineg, 1), (20, .invokestatic 28, 3), (23, .istore_n 1, 1), (24, .iinc 2 1, 3), (27, .goto (-23), 3), (30, .iload_n 1, 1), (31, .ireturn, 1)]
theorem dt_BX_deepest : DT (cM m_BX_deepest) tb_BX_deepest := by unfold DT; decide +kernel
abbrev a_BX_deepest_0 (G : GT) (q0 : Nat)  (σ : St) (P : Int → St → Prop) : Prop := A G m_BX_deepest 0 [(0, O q0)] [] σ P
abbrev a_BX_deepest_4 (G : GT) (q0 : Nat) (v1 : Int) (v2 : Int) (σ : St) (P : Int → St → Prop) : Prop := A G m_BX_deepest 4 [(0, O q0), (1, I v1), (2, I v2)] [] σ P
set_option maxRecDepth 20000 in
theorem k_BX_deepest_0 {G : GT} {σ : St} {P : Int → St → Prop} {q0 : Nat}  (hq0 : isB q0) 
    (h : a_BX_deepest_4 G q0 0 0 σ P) :
    a_BX_deepest_0 G q0  σ P := by
  rcases hq0 with rfl | rfl | rfl | rfl
  ·
    refine r_iconst (q := 1) (dc dt_BX_deepest 0 rfl) rfl rfl ?_
    refine r_istore_n (q := 2) (dc dt_BX_deepest 1 rfl) rfl rfl (by decide) rfl ?_
    refine r_iconst (q := 3) (dc dt_BX_deepest 2 rfl) rfl rfl ?_
    refine r_istore_n (q := 4) (dc dt_BX_deepest 3 rfl) rfl rfl (by decide) rfl ?_
    exact r_loc [2, 1, 0] rfl h
  ·
    refine r_iconst (q := 1) (dc dt_BX_deepest 0 rfl) rfl rfl ?_
    refine r_istore_n (q := 2) (dc dt_BX_deepest 1 rfl) rfl rfl (by decide) rfl ?_
    refine r_iconst (q := 3) (dc dt_BX_deepest 2 rfl) rfl rfl ?_
    refine r_istore_n (q := 4) (dc dt_BX_deepest 3 rfl) rfl rfl (by decide) rfl ?_
    exact r_loc [2, 1, 0] rfl h
  ·
    refine r_iconst (q := 1) (dc dt_BX_deepest 0 rfl) rfl rfl ?_
    refine r_istore_n (q := 2) (dc dt_BX_deepest 1 rfl) rfl rfl (by decide) rfl ?_
    refine r_iconst (q := 3) (dc dt_BX_deepest 2 rfl) rfl rfl ?_
    refine r_istore_n (q := 4) (dc dt_BX_deepest 3 rfl) rfl rfl (by decide) rfl ?_
    exact r_loc [2, 1, 0] rfl h
  ·
    refine r_iconst (q := 1) (dc dt_BX_deepest 0 rfl) rfl rfl ?_
    refine r_istore_n (q := 2) (dc dt_BX_deepest 1 rfl) rfl rfl (by decide) rfl ?_
    refine r_iconst (q := 3) (dc dt_BX_deepest 2 rfl) rfl rfl ?_
    refine r_istore_n (q := 4) (dc dt_BX_deepest 3 rfl) rfl rfl (by decide) rfl ?_
    exact r_loc [2, 1, 0] rfl h
set_option maxRecDepth 20000 in
theorem k_BX_deepest_4 {G : GT} {σ : St} {P : Int → St → Prop} {q0 : Nat} {v1 : Int} {v2 : Int} (hq0 : isB q0) 
    (h : rng v2 ∧ (σ.2.1 q0 0 ≤ v2 → rng v1 ∧ P v1 σ) ∧ (v2 < σ.2.1 q0 0 → (0 ≤ v2 ∧ v2 < 80) ∧ rng v1 ∧ rng (-(σ.1 (q0 + 3) v2.toNat)) ∧ a_BX_deepest_4 G q0 (max v1 (-(σ.1 (q0 + 3) v2.toNat))) (v2 + 1) σ P)) :
    a_BX_deepest_4 G q0 v1 v2 σ P := by
  rcases hq0 with rfl | rfl | rfl | rfl
  ·
    refine r_iload_n (q := 5) (dc dt_BX_deepest 4 rfl) rfl rfl 2 rfl ?_
    refine r_aload_n (q := 6) (dc dt_BX_deepest 5 rfl) rfl rfl 0 rfl ?_
    refine r_getI (q := 9) (v := σ.2.1 10 0) fl_BX_9 (dc dt_BX_deepest 6 rfl) rfl rfl rfl rfl (fun g1 => ?_)
    obtain ⟨o2, h⟩ := h
    refine r_icmp_ge (q := 12) (t := 30) (dc dt_BX_deepest 7 rfl) rfl (by decide) o2 g1 (fun q_ => ?_) (fun q_ => ?_)
    · have h := h.1 q_
      refine r_iload_n (q := 31) (dc dt_BX_deepest 18 rfl) rfl rfl 1 rfl ?_
      obtain ⟨o7, h⟩ := h
      exact r_iret rfl (dc dt_BX_deepest 19 rfl) o7 h
    · have h := h.2 q_
      refine r_iload_n (q := 13) (dc dt_BX_deepest 8 rfl) rfl rfl 1 rfl ?_
      refine r_aload_n (q := 14) (dc dt_BX_deepest 9 rfl) rfl rfl 0 rfl ?_
      refine r_getO (q := 17) (v := 10 + 3) fl_BX_22 (dc dt_BX_deepest 10 rfl) rfl rfl rfl ?_
      refine r_iload_n (q := 18) (dc dt_BX_deepest 11 rfl) rfl rfl 2 rfl ?_
      obtain ⟨o8, h⟩ := h
      refine r_iald (q := 19) (v := σ.1 (10 + 3) v2.toNat) (dc dt_BX_deepest 12 rfl) rfl rfl o8 rfl (fun g9 => ?_)
      refine r_ineg (q := 20) (dc dt_BX_deepest 13 rfl) rfl ?_
      obtain ⟨o10, h⟩ := h
      obtain ⟨o11, h⟩ := h
      refine r_mmax (q := 23) lm_BX_28 (by decide) (dc dt_BX_deepest 14 rfl) rfl (by simp [catA]; decide) o10 o11 ?_
      refine r_istore_n (q := 24) (dc dt_BX_deepest 15 rfl) rfl rfl (by decide) rfl ?_
      refine r_iinc (q := 27) (k := 2) (dc dt_BX_deepest 16 rfl) rfl rfl (by decide) rfl ?_
      refine r_goto (q := 4) (dc dt_BX_deepest 17 rfl) (by decide) ?_
      exact r_loc [2, 1, 0] rfl h
  ·
    refine r_iload_n (q := 5) (dc dt_BX_deepest 4 rfl) rfl rfl 2 rfl ?_
    refine r_aload_n (q := 6) (dc dt_BX_deepest 5 rfl) rfl rfl 0 rfl ?_
    refine r_getI (q := 9) (v := σ.2.1 16 0) fl_BX_9 (dc dt_BX_deepest 6 rfl) rfl rfl rfl rfl (fun g1 => ?_)
    obtain ⟨o2, h⟩ := h
    refine r_icmp_ge (q := 12) (t := 30) (dc dt_BX_deepest 7 rfl) rfl (by decide) o2 g1 (fun q_ => ?_) (fun q_ => ?_)
    · have h := h.1 q_
      refine r_iload_n (q := 31) (dc dt_BX_deepest 18 rfl) rfl rfl 1 rfl ?_
      obtain ⟨o7, h⟩ := h
      exact r_iret rfl (dc dt_BX_deepest 19 rfl) o7 h
    · have h := h.2 q_
      refine r_iload_n (q := 13) (dc dt_BX_deepest 8 rfl) rfl rfl 1 rfl ?_
      refine r_aload_n (q := 14) (dc dt_BX_deepest 9 rfl) rfl rfl 0 rfl ?_
      refine r_getO (q := 17) (v := 16 + 3) fl_BX_22 (dc dt_BX_deepest 10 rfl) rfl rfl rfl ?_
      refine r_iload_n (q := 18) (dc dt_BX_deepest 11 rfl) rfl rfl 2 rfl ?_
      obtain ⟨o8, h⟩ := h
      refine r_iald (q := 19) (v := σ.1 (16 + 3) v2.toNat) (dc dt_BX_deepest 12 rfl) rfl rfl o8 rfl (fun g9 => ?_)
      refine r_ineg (q := 20) (dc dt_BX_deepest 13 rfl) rfl ?_
      obtain ⟨o10, h⟩ := h
      obtain ⟨o11, h⟩ := h
      refine r_mmax (q := 23) lm_BX_28 (by decide) (dc dt_BX_deepest 14 rfl) rfl (by simp [catA]; decide) o10 o11 ?_
      refine r_istore_n (q := 24) (dc dt_BX_deepest 15 rfl) rfl rfl (by decide) rfl ?_
      refine r_iinc (q := 27) (k := 2) (dc dt_BX_deepest 16 rfl) rfl rfl (by decide) rfl ?_
      refine r_goto (q := 4) (dc dt_BX_deepest 17 rfl) (by decide) ?_
      exact r_loc [2, 1, 0] rfl h
  ·
    refine r_iload_n (q := 5) (dc dt_BX_deepest 4 rfl) rfl rfl 2 rfl ?_
    refine r_aload_n (q := 6) (dc dt_BX_deepest 5 rfl) rfl rfl 0 rfl ?_
    refine r_getI (q := 9) (v := σ.2.1 29 0) fl_BX_9 (dc dt_BX_deepest 6 rfl) rfl rfl rfl rfl (fun g1 => ?_)
    obtain ⟨o2, h⟩ := h
    refine r_icmp_ge (q := 12) (t := 30) (dc dt_BX_deepest 7 rfl) rfl (by decide) o2 g1 (fun q_ => ?_) (fun q_ => ?_)
    · have h := h.1 q_
      refine r_iload_n (q := 31) (dc dt_BX_deepest 18 rfl) rfl rfl 1 rfl ?_
      obtain ⟨o7, h⟩ := h
      exact r_iret rfl (dc dt_BX_deepest 19 rfl) o7 h
    · have h := h.2 q_
      refine r_iload_n (q := 13) (dc dt_BX_deepest 8 rfl) rfl rfl 1 rfl ?_
      refine r_aload_n (q := 14) (dc dt_BX_deepest 9 rfl) rfl rfl 0 rfl ?_
      refine r_getO (q := 17) (v := 29 + 3) fl_BX_22 (dc dt_BX_deepest 10 rfl) rfl rfl rfl ?_
      refine r_iload_n (q := 18) (dc dt_BX_deepest 11 rfl) rfl rfl 2 rfl ?_
      obtain ⟨o8, h⟩ := h
      refine r_iald (q := 19) (v := σ.1 (29 + 3) v2.toNat) (dc dt_BX_deepest 12 rfl) rfl rfl o8 rfl (fun g9 => ?_)
      refine r_ineg (q := 20) (dc dt_BX_deepest 13 rfl) rfl ?_
      obtain ⟨o10, h⟩ := h
      obtain ⟨o11, h⟩ := h
      refine r_mmax (q := 23) lm_BX_28 (by decide) (dc dt_BX_deepest 14 rfl) rfl (by simp [catA]; decide) o10 o11 ?_
      refine r_istore_n (q := 24) (dc dt_BX_deepest 15 rfl) rfl rfl (by decide) rfl ?_
      refine r_iinc (q := 27) (k := 2) (dc dt_BX_deepest 16 rfl) rfl rfl (by decide) rfl ?_
      refine r_goto (q := 4) (dc dt_BX_deepest 17 rfl) (by decide) ?_
      exact r_loc [2, 1, 0] rfl h
  ·
    refine r_iload_n (q := 5) (dc dt_BX_deepest 4 rfl) rfl rfl 2 rfl ?_
    refine r_aload_n (q := 6) (dc dt_BX_deepest 5 rfl) rfl rfl 0 rfl ?_
    refine r_getI (q := 9) (v := σ.2.1 35 0) fl_BX_9 (dc dt_BX_deepest 6 rfl) rfl rfl rfl rfl (fun g1 => ?_)
    obtain ⟨o2, h⟩ := h
    refine r_icmp_ge (q := 12) (t := 30) (dc dt_BX_deepest 7 rfl) rfl (by decide) o2 g1 (fun q_ => ?_) (fun q_ => ?_)
    · have h := h.1 q_
      refine r_iload_n (q := 31) (dc dt_BX_deepest 18 rfl) rfl rfl 1 rfl ?_
      obtain ⟨o7, h⟩ := h
      exact r_iret rfl (dc dt_BX_deepest 19 rfl) o7 h
    · have h := h.2 q_
      refine r_iload_n (q := 13) (dc dt_BX_deepest 8 rfl) rfl rfl 1 rfl ?_
      refine r_aload_n (q := 14) (dc dt_BX_deepest 9 rfl) rfl rfl 0 rfl ?_
      refine r_getO (q := 17) (v := 35 + 3) fl_BX_22 (dc dt_BX_deepest 10 rfl) rfl rfl rfl ?_
      refine r_iload_n (q := 18) (dc dt_BX_deepest 11 rfl) rfl rfl 2 rfl ?_
      obtain ⟨o8, h⟩ := h
      refine r_iald (q := 19) (v := σ.1 (35 + 3) v2.toNat) (dc dt_BX_deepest 12 rfl) rfl rfl o8 rfl (fun g9 => ?_)
      refine r_ineg (q := 20) (dc dt_BX_deepest 13 rfl) rfl ?_
      obtain ⟨o10, h⟩ := h
      obtain ⟨o11, h⟩ := h
      refine r_mmax (q := 23) lm_BX_28 (by decide) (dc dt_BX_deepest 14 rfl) rfl (by simp [catA]; decide) o10 o11 ?_
      refine r_istore_n (q := 24) (dc dt_BX_deepest 15 rfl) rfl rfl (by decide) rfl ?_
      refine r_iinc (q := 27) (k := 2) (dc dt_BX_deepest 16 rfl) rfl rfl (by decide) rfl ?_
      refine r_goto (q := 4) (dc dt_BX_deepest 17 rfl) (by decide) ?_
      exact r_loc [2, 1, 0] rfl h
def tb_LN_depth : List (Nat × Instr × Nat) := [(0, .aload_n 0, 1), (1, .getfield 40, 3), (4, .invokevirtual 150, 3), (7, .aload_n 0, 1), (8, .getfield 47, 3), (11, .getfield 104, 3), (14, .invokevirtual 150, 3), (17, .invokestatic 145, 3), (20, .ireturn, 1)]
theorem dt_LN_depth : DT (cM m_LN_depth) tb_LN_depth := by unfold DT; decide +kernel
abbrev a_LN_depth_0 (G : GT) (q0 : Nat)  (σ : St) (P : Int → St → Prop) : Prop := A G m_LN_depth 0 [(0, O q0)] [] σ P
set_option maxRecDepth 20000 in
theorem k_LN_depth_0 {G : GT} {σ : St} {P : Int → St → Prop} {q0 : Nat}  (hq0 : isL q0) 
    (h : CJ G m_BX_deepest [O (q0 + 1)] σ (fun r2 u1 => CJ G m_BX_deepest [O (q0 + 7)] u1 (fun r5 u4 => rng (max r2 r5) ∧ P (max r2 r5) u4))) :
    a_LN_depth_0 G q0  σ P := by
  rcases hq0 with rfl | rfl
  ·
    refine r_aload_n (q := 1) (dc dt_LN_depth 0 rfl) rfl rfl 0 rfl ?_
    refine r_getO (q := 4) (v := 9 + 1) fl_LN_40 (dc dt_LN_depth 1 rfl) rfl rfl rfl ?_
    refine r_callVi (q := 7) mk_BX_deepest lm_LN_150 (RMO.of rfl) rfl (dc dt_LN_depth 2 rfl) rfl rfl [] [] rfl rfl (Nat.le_of_ble_eq_true rfl) h (fun r2 u1 g3 h => ?_)
    refine r_aload_n (q := 8) (dc dt_LN_depth 3 rfl) rfl rfl 0 rfl ?_
    refine r_getO (q := 11) (v := 9 + 6) fl_LN_47 (dc dt_LN_depth 4 rfl) rfl rfl rfl ?_
    refine r_getO (q := 14) (v := 9 + 7) fl_LN_104 (dc dt_LN_depth 5 rfl) rfl rfl rfl ?_
    refine r_callVi (q := 17) mk_BX_deepest lm_LN_150 (RMO.of rfl) rfl (dc dt_LN_depth 6 rfl) rfl rfl [] [I r2] rfl rfl (Nat.le_of_ble_eq_true rfl) h (fun r5 u4 g6 h => ?_)
    refine r_mmax (q := 20) lm_LN_145 (by decide) (dc dt_LN_depth 7 rfl) rfl (by simp [catA]; decide) g3 g6 ?_
    obtain ⟨o7, h⟩ := h
    exact r_iret rfl (dc dt_LN_depth 8 rfl) o7 h
  ·
    refine r_aload_n (q := 1) (dc dt_LN_depth 0 rfl) rfl rfl 0 rfl ?_
    refine r_getO (q := 4) (v := 28 + 1) fl_LN_40 (dc dt_LN_depth 1 rfl) rfl rfl rfl ?_
    refine r_callVi (q := 7) mk_BX_deepest lm_LN_150 (RMO.of rfl) rfl (dc dt_LN_depth 2 rfl) rfl rfl [] [] rfl rfl (Nat.le_of_ble_eq_true rfl) h (fun r2 u1 g3 h => ?_)
    refine r_aload_n (q := 8) (dc dt_LN_depth 3 rfl) rfl rfl 0 rfl ?_
    refine r_getO (q := 11) (v := 28 + 6) fl_LN_47 (dc dt_LN_depth 4 rfl) rfl rfl rfl ?_
    refine r_getO (q := 14) (v := 28 + 7) fl_LN_104 (dc dt_LN_depth 5 rfl) rfl rfl rfl ?_
    refine r_callVi (q := 17) mk_BX_deepest lm_LN_150 (RMO.of rfl) rfl (dc dt_LN_depth 6 rfl) rfl rfl [] [I r2] rfl rfl (Nat.le_of_ble_eq_true rfl) h (fun r5 u4 g6 h => ?_)
    refine r_mmax (q := 20) lm_LN_145 (by decide) (dc dt_LN_depth 7 rfl) rfl (by simp [catA]; decide) g3 g6 ?_
    obtain ⟨o7, h⟩ := h
    exact r_iret rfl (dc dt_LN_depth 8 rfl) o7 h
def tb_JS_atHand : List (Nat × Instr × Nat) := [(0, .iload_n 1, 1), (1, .iconst 0, 1), (2, .bipush 7, 2), (4, .invokestatic 134, 3), (7, .ifCond .ne 6, 3), (10, .bipush (-2), 2), (12, .ireturn, 1), (13, .aload_n 0, 1), (14, .getfield 83, 3), (17, .aload_n 0, 1), (18, .getfield 76, 3), (21, .if_icmp .eq 6, 3), (24, .bipush (-3), 2), (26, .ireturn, 1), (27, .iload_n 1, 1), (28, .tableswitch 109 0 6 #[44, 55, 63, 71, 85, 93, 101], 44), (72, .aload_n 0, 1), (73, .getfield 69, 3), (76, .getfield 257, 3), (79, .getfield 261, 3), (82, .ireturn, 1), (83, .aload_n 0, 1), (84, .getfield 69, 3), (87, .getfield 254, 3), (90, .ireturn, 1), (91, .aload_n 0, 1), (92, .getfield 69, 3), (95, .getfield 264, 3), (98, .ireturn, 1), (99, .aload_n 0, 1), (100, .getfield 69, 3), (103, .getfield 267, 3), (106, .getfield 271, 3), (109, .getfield 261, 3), (112, .ireturn, 1), (113, .aload_n 0, 1), (114, .getfield 69, 3), (117, .invokevirtual 274, 3), (120, .ireturn, 1), (121, .aload_n 0, 1), (122, .getfield 69, 3), (125, .invokevirtual 278, 3), (128, .ireturn, 1), (129, .aload_n 0, 1), (130, .getfield 69, 3), (133, .getfield 281, 3), (136, .ireturn, 1), (137, .aload_n 0, 1), (138, .getfield 69, 3), (141, .getfield 284, 3), (144, .aload_n 0, 1), (145, .getfield 69, 3), (148, .getfield 281, 3), (151, .isub, 1), (152, .iconst 1, 1), (153, .iadd, 1), (154, .ireturn, 1)]
theorem dt_JS_atHand : DT (cM m_JS_atHand) tb_JS_atHand := by unfold DT; decide +kernel
abbrev a_JS_atHand_0 (G : GT)  (v1 : Int) (σ : St) (P : Int → St → Prop) : Prop := A G m_JS_atHand 0 [(0, O 0), (1, I v1)] [] σ P
set_option maxRecDepth 20000 in
theorem k_JS_atHand_0 {G : GT} {σ : St} {P : Int → St → Prop}  {v1 : Int}  
    (h : rng v1 ∧ (0 ≤ v1 → rng 7) ∧ (0 ≤ v1 ∧ v1 ≤ 7 → (σ.2.1 0 11 = σ.2.1 0 9 → (v1 = 0 → isL σ.2.2.1 ∧ P (σ.2.1 (σ.2.2.1 + 1) 0) σ) ∧ (v1 = 1 → isL σ.2.2.1 ∧ P (σ.2.1 σ.2.2.1 2) σ) ∧ (v1 = 2 → isL σ.2.2.1 ∧ P (σ.2.1 σ.2.2.1 3) σ) ∧ (v1 = 3 → isL σ.2.2.1 ∧ P (σ.2.1 (σ.2.2.1 + 7) 0) σ) ∧ (v1 = 4 → isL σ.2.2.1 ∧ CJ G m_LN_height [O σ.2.2.1] σ (fun r16 u15 => P r16 u15)) ∧ (v1 = 5 → isL σ.2.2.1 ∧ CJ G m_LN_depth [O σ.2.2.1] σ (fun r20 u19 => P r20 u19)) ∧ (v1 = 6 → isL σ.2.2.1 ∧ P (σ.2.1 σ.2.2.1 4) σ) ∧ ((v1 < 0 ∨ 6 < v1) → isL σ.2.2.1 ∧ rng (((σ.2.1 σ.2.2.1 5) - (σ.2.1 σ.2.2.1 4)) + 1) ∧ P (((σ.2.1 σ.2.2.1 5) - (σ.2.1 σ.2.2.1 4)) + 1) σ)) ∧ (σ.2.1 0 11 ≠ σ.2.1 0 9 → P (-3) σ)) ∧ (¬ (0 ≤ v1 ∧ v1 ≤ 7) → P (-2) σ)) :
    a_JS_atHand_0 G v1 σ P := by
  refine r_iload_n (q := 1) (dc dt_JS_atHand 0 rfl) rfl rfl 1 rfl ?_
  refine r_iconst (q := 2) (dc dt_JS_atHand 1 rfl) rfl rfl ?_
  refine r_bipush (q := 4) (dc dt_JS_atHand 2 rfl) rfl (by decide) ?_
  obtain ⟨o1, h⟩ := h
  obtain ⟨o2, h⟩ := h
  refine r_callSi (q := 7) mk_JS_within lm_JS_134 (RMO.of rfl) rfl (dc dt_JS_atHand 3 rfl) rfl [I v1, I 0, I 7] [] rfl rfl (Nat.le_of_ble_eq_true rfl) (sp_JS_within o1 (⟨by decide, by decide⟩ : rng 0) o2) (fun _ _ g3 z => ?_)
  obtain ⟨z, w⟩ := z
  subst z
  replace w := w.symm
  subst w
  refine r_ifb_ne (q := 10) (t := 13) (dc dt_JS_atHand 4 rfl) rfl (by decide) (fun q_ => ?_) (fun q_ => ?_)
  · have h := h.1 q_
    refine r_aload_n (q := 14) (dc dt_JS_atHand 7 rfl) rfl rfl 0 rfl ?_
    refine r_getI (q := 17) (v := σ.2.1 0 11) fl_JS_83 (dc dt_JS_atHand 8 rfl) rfl ly0 rfl rfl (fun g4 => ?_)
    refine r_aload_n (q := 18) (dc dt_JS_atHand 9 rfl) rfl rfl 0 rfl ?_
    refine r_getI (q := 21) (v := σ.2.1 0 9) fl_JS_76 (dc dt_JS_atHand 10 rfl) rfl ly0 rfl rfl (fun g5 => ?_)
    refine r_icmp_eq (q := 24) (t := 27) (dc dt_JS_atHand 11 rfl) rfl (by decide) g4 g5 (fun q_ => ?_) (fun q_ => ?_)
    · have h := h.1 q_
      refine r_iload_n (q := 28) (dc dt_JS_atHand 14 rfl) rfl rfl 1 rfl ?_
      by_cases qo : (v1 < 0 ∨ 6 < v1)
      · have q_ := qo
        have h := h.2.2.2.2.2.2.2 q_
        refine r_swOut (t := 137) (dc dt_JS_atHand 15 rfl) (by decide) o1 q_ ?_
        refine r_aload_n (q := 138) (dc dt_JS_atHand 47 rfl) rfl rfl 0 rfl ?_
        refine r_getO (q := 141) (v := σ.2.2.1) fl_JS_69 (dc dt_JS_atHand 48 rfl) rfl ly0 rfl ?_
        obtain ⟨o24, h⟩ := h
        refine r_getI (q := 144) (v := σ.2.1 σ.2.2.1 5) fl_JS_284 (dc dt_JS_atHand 49 rfl) rfl (lyL_0 o24) rfl rfl (fun g25 => ?_)
        refine r_aload_n (q := 145) (dc dt_JS_atHand 50 rfl) rfl rfl 0 rfl ?_
        refine r_getO (q := 148) (v := σ.2.2.1) fl_JS_69 (dc dt_JS_atHand 51 rfl) rfl ly0 rfl ?_
        refine r_getI (q := 151) (v := σ.2.1 σ.2.2.1 4) fl_JS_281 (dc dt_JS_atHand 52 rfl) rfl (lyL_0 o24) rfl rfl (fun g26 => ?_)
        refine r_isub (q := 152) (dc dt_JS_atHand 53 rfl) rfl ?_
        refine r_iconst (q := 153) (dc dt_JS_atHand 54 rfl) rfl rfl ?_
        refine r_iadd (q := 154) (dc dt_JS_atHand 55 rfl) rfl ?_
        obtain ⟨o27, h⟩ := h
        exact r_iret rfl (dc dt_JS_atHand 56 rfl) o27 h
      · by_cases q_ : v1 = 0
        · have h := h.1 q_
          refine r_swIn (t := 72) (dc dt_JS_atHand 15 rfl) o1 (by omega) (by omega) (by rw [q_]; rfl) (by decide) ?_
          refine r_aload_n (q := 73) (dc dt_JS_atHand 16 rfl) rfl rfl 0 rfl ?_
          refine r_getO (q := 76) (v := σ.2.2.1) fl_JS_69 (dc dt_JS_atHand 17 rfl) rfl ly0 rfl ?_
          obtain ⟨o6, h⟩ := h
          refine r_getO (q := 79) (v := σ.2.2.1 + 1) fl_JS_257 (dc dt_JS_atHand 18 rfl) rfl (lyL_0 o6) rfl ?_
          refine r_getI (q := 82) (v := σ.2.1 (σ.2.2.1 + 1) 0) fl_JS_261 (dc dt_JS_atHand 19 rfl) rfl (lyL_1 o6) rfl rfl (fun g7 => ?_)
          exact r_iret rfl (dc dt_JS_atHand 20 rfl) g7 h
        · by_cases q_ : v1 = 1
          · have h := h.2.1 q_
            refine r_swIn (t := 83) (dc dt_JS_atHand 15 rfl) o1 (by omega) (by omega) (by rw [q_]; rfl) (by decide) ?_
            refine r_aload_n (q := 84) (dc dt_JS_atHand 21 rfl) rfl rfl 0 rfl ?_
            refine r_getO (q := 87) (v := σ.2.2.1) fl_JS_69 (dc dt_JS_atHand 22 rfl) rfl ly0 rfl ?_
            obtain ⟨o8, h⟩ := h
            refine r_getI (q := 90) (v := σ.2.1 σ.2.2.1 2) fl_JS_254 (dc dt_JS_atHand 23 rfl) rfl (lyL_0 o8) rfl rfl (fun g9 => ?_)
            exact r_iret rfl (dc dt_JS_atHand 24 rfl) g9 h
          · by_cases q_ : v1 = 2
            · have h := h.2.2.1 q_
              refine r_swIn (t := 91) (dc dt_JS_atHand 15 rfl) o1 (by omega) (by omega) (by rw [q_]; rfl) (by decide) ?_
              refine r_aload_n (q := 92) (dc dt_JS_atHand 25 rfl) rfl rfl 0 rfl ?_
              refine r_getO (q := 95) (v := σ.2.2.1) fl_JS_69 (dc dt_JS_atHand 26 rfl) rfl ly0 rfl ?_
              obtain ⟨o10, h⟩ := h
              refine r_getI (q := 98) (v := σ.2.1 σ.2.2.1 3) fl_JS_264 (dc dt_JS_atHand 27 rfl) rfl (lyL_0 o10) rfl rfl (fun g11 => ?_)
              exact r_iret rfl (dc dt_JS_atHand 28 rfl) g11 h
            · by_cases q_ : v1 = 3
              · have h := h.2.2.2.1 q_
                refine r_swIn (t := 99) (dc dt_JS_atHand 15 rfl) o1 (by omega) (by omega) (by rw [q_]; rfl) (by decide) ?_
                refine r_aload_n (q := 100) (dc dt_JS_atHand 29 rfl) rfl rfl 0 rfl ?_
                refine r_getO (q := 103) (v := σ.2.2.1) fl_JS_69 (dc dt_JS_atHand 30 rfl) rfl ly0 rfl ?_
                obtain ⟨o12, h⟩ := h
                refine r_getO (q := 106) (v := σ.2.2.1 + 6) fl_JS_267 (dc dt_JS_atHand 31 rfl) rfl (lyL_0 o12) rfl ?_
                refine r_getO (q := 109) (v := σ.2.2.1 + 7) fl_JS_271 (dc dt_JS_atHand 32 rfl) rfl (lyL_6 o12) rfl ?_
                refine r_getI (q := 112) (v := σ.2.1 (σ.2.2.1 + 7) 0) fl_JS_261 (dc dt_JS_atHand 33 rfl) rfl (lyL_7 o12) rfl rfl (fun g13 => ?_)
                exact r_iret rfl (dc dt_JS_atHand 34 rfl) g13 h
              · by_cases q_ : v1 = 4
                · have h := h.2.2.2.2.1 q_
                  refine r_swIn (t := 113) (dc dt_JS_atHand 15 rfl) o1 (by omega) (by omega) (by rw [q_]; rfl) (by decide) ?_
                  refine r_aload_n (q := 114) (dc dt_JS_atHand 35 rfl) rfl rfl 0 rfl ?_
                  refine r_getO (q := 117) (v := σ.2.2.1) fl_JS_69 (dc dt_JS_atHand 36 rfl) rfl ly0 rfl ?_
                  obtain ⟨o14, h⟩ := h
                  refine r_callVi (q := 120) mk_LN_height lm_JS_274 (RMO.of rfl) rfl (dc dt_JS_atHand 37 rfl) rfl (lyL_0 o14) [] [] rfl rfl (Nat.le_of_ble_eq_true rfl) h (fun r16 u15 g17 h => ?_)
                  exact r_iret rfl (dc dt_JS_atHand 38 rfl) g17 h
                · by_cases q_ : v1 = 5
                  · have h := h.2.2.2.2.2.1 q_
                    refine r_swIn (t := 121) (dc dt_JS_atHand 15 rfl) o1 (by omega) (by omega) (by rw [q_]; rfl) (by decide) ?_
                    refine r_aload_n (q := 122) (dc dt_JS_atHand 39 rfl) rfl rfl 0 rfl ?_
                    refine r_getO (q := 125) (v := σ.2.2.1) fl_JS_69 (dc dt_JS_atHand 40 rfl) rfl ly0 rfl ?_
                    obtain ⟨o18, h⟩ := h
                    refine r_callVi (q := 128) mk_LN_depth lm_JS_278 (RMO.of rfl) rfl (dc dt_JS_atHand 41 rfl) rfl (lyL_0 o18) [] [] rfl rfl (Nat.le_of_ble_eq_true rfl) h (fun r20 u19 g21 h => ?_)
                    exact r_iret rfl (dc dt_JS_atHand 42 rfl) g21 h
                  · have q_ : v1 = 6 := by omega
                    have h := h.2.2.2.2.2.2.1 q_
                    refine r_swIn (t := 129) (dc dt_JS_atHand 15 rfl) o1 (by omega) (by omega) (by rw [q_]; rfl) (by decide) ?_
                    refine r_aload_n (q := 130) (dc dt_JS_atHand 43 rfl) rfl rfl 0 rfl ?_
                    refine r_getO (q := 133) (v := σ.2.2.1) fl_JS_69 (dc dt_JS_atHand 44 rfl) rfl ly0 rfl ?_
                    obtain ⟨o22, h⟩ := h
                    refine r_getI (q := 136) (v := σ.2.1 σ.2.2.1 4) fl_JS_281 (dc dt_JS_atHand 45 rfl) rfl (lyL_0 o22) rfl rfl (fun g23 => ?_)
                    exact r_iret rfl (dc dt_JS_atHand 46 rfl) g23 h
    · have h := h.2 q_
      refine r_bipush (q := 26) (dc dt_JS_atHand 12 rfl) rfl (by decide) ?_
      exact r_iret rfl (dc dt_JS_atHand 13 rfl) (⟨by decide, by decide⟩ : rng (-3)) h
  · have h := h.2 q_
    refine r_bipush (q := 12) (dc dt_JS_atHand 5 rfl) rfl (by decide) ?_
    exact r_iret rfl (dc dt_JS_atHand 6 rfl) (⟨by decide, by decide⟩ : rng (-2)) h
def tb_JS_piece : List (Nat × Instr × Nat) := [(0, .aload_n 0, 1), (1, .getfield 83, 3), (4, .aload_n 0, 1), (5, .getfield 76, 3), (8, .if_icmp .eq 6, 3), (11, .bipush (-3), 2), (13, .ireturn, 1), (14, .iload_n 1, 1), (15, .iconst 0, 1), (16, .aload_n 0, 1), (17, .getfield 69, 3), (20, .getfield 257, 3), (23, .getfield 261, 3), (26, .iconst 1, 1), (27, .isub, 1), (28, .invokestatic 134, 3), (31, .ifCond .ne 5, 3), (34, .iconst (-1), 1), (35, .ireturn, 1), (36, .iload_n 2, 1), (37, .tableswitch 126 0 5 #[39, 49, 67, 93, 103, 113], 39), (76, .aload_n 0, 1), (77, .getfield 69, 3), (80, .getfield 287, 3), (83, .iload_n 1, 1), (84, .iaload, 1), (85, .ireturn, 1), (86, .aload_n 0, 1), (87, .getfield 35, 3), (90, .getfield 207, 3), (93, .aload_n 0, 1), (94, .getfield 69, 3), (97, .getfield 290, 3), (100, .iload_n 1, 1), (101, .iaload, 1), (102, .iaload, 1), (103, .ireturn, 1), (104, .aload_n 0, 1), (105, .getfield 35, 3), (108, .aload_n 0, 1), (109, .getfield 69, 3), (112, .getfield 290, 3), (115, .iload_n 1, 1), (116, .iaload, 1), (117, .aload_n 0, 1), (118, .getfield 69, 3), (121, .getfield 287, 3), (124, .iload_n 1, 1), (125, .iaload, 1), (126, .invokevirtual 210, 3), (129, .ireturn, 1), (130, .aload_n 0, 1), (131, .getfield 69, 3), (134, .getfield 293, 3), (137, .iload_n 1, 1), (138, .iaload, 1), (139, .ireturn, 1), (140, .aload_n 0, 1), (141, .getfield 69, 3), (144, .getfield 296, 3), (147, .iload_n 1, 1), (148, .iaload, 1), (149, .ireturn, 1), (150, .aload_n 0, 1), (151, .getfield 69, 3), (154, .getfield 257, 3), (157, .getfield 299, 3), (160, .iload_n 1, 1), (161, .iaload, 1), (162, .ireturn, 1), (163, .bipush (-2), 2), (165, .ireturn, 1)]
theorem dt_JS_piece : DT (cM m_JS_piece) tb_JS_piece := by unfold DT; decide +kernel
abbrev a_JS_piece_0 (G : GT)  (v1 : Int) (v2 : Int) (σ : St) (P : Int → St → Prop) : Prop := A G m_JS_piece 0 [(0, O 0), (1, I v1), (2, I v2)] [] σ P
set_option maxRecDepth 20000 in
theorem k_JS_piece_0 {G : GT} {σ : St} {P : Int → St → Prop}  {v1 : Int} {v2 : Int}  
    (h : (σ.2.1 0 11 = σ.2.1 0 9 → isL σ.2.2.1 ∧ rng v1 ∧ (0 ≤ v1 → rng ((σ.2.1 (σ.2.2.1 + 1) 0) - 1)) ∧ (0 ≤ v1 ∧ v1 ≤ ((σ.2.1 (σ.2.2.1 + 1) 0) - 1) → rng v2 ∧ (v2 = 0 → (0 ≤ v1 ∧ v1 < 80) ∧ P (σ.1 (σ.2.2.1 + 15) v1.toNat) σ) ∧ (v2 = 1 → (0 ≤ v1 ∧ v1 < 80) ∧ (0 ≤ σ.1 (σ.2.2.1 + 16) v1.toNat ∧ σ.1 (σ.2.2.1 + 16) v1.toNat < 80) ∧ P (σ.1 61 ((σ.1 (σ.2.2.1 + 16) v1.toNat).toNat)) σ) ∧ (v2 = 2 → (0 ≤ v1 ∧ v1 < 80) ∧ p_UN_placeOf σ (σ.1 (σ.2.2.1 + 16) v1.toNat) (σ.1 (σ.2.2.1 + 15) v1.toNat) ∧ P (f_UN_placeOf σ (σ.1 (σ.2.2.1 + 16) v1.toNat) (σ.1 (σ.2.2.1 + 15) v1.toNat)) σ) ∧ (v2 = 3 → (0 ≤ v1 ∧ v1 < 80) ∧ P (σ.1 (σ.2.2.1 + 17) v1.toNat) σ) ∧ (v2 = 4 → (0 ≤ v1 ∧ v1 < 80) ∧ P (σ.1 (σ.2.2.1 + 18) v1.toNat) σ) ∧ (v2 = 5 → (0 ≤ v1 ∧ v1 < 80) ∧ P (σ.1 (σ.2.2.1 + 2) v1.toNat) σ) ∧ ((v2 < 0 ∨ 5 < v2) → P (-2) σ)) ∧ (¬ (0 ≤ v1 ∧ v1 ≤ ((σ.2.1 (σ.2.2.1 + 1) 0) - 1)) → P (-1) σ)) ∧ (σ.2.1 0 11 ≠ σ.2.1 0 9 → P (-3) σ)) :
    a_JS_piece_0 G v1 v2 σ P := by
  refine r_aload_n (q := 1) (dc dt_JS_piece 0 rfl) rfl rfl 0 rfl ?_
  refine r_getI (q := 4) (v := σ.2.1 0 11) fl_JS_83 (dc dt_JS_piece 1 rfl) rfl ly0 rfl rfl (fun g1 => ?_)
  refine r_aload_n (q := 5) (dc dt_JS_piece 2 rfl) rfl rfl 0 rfl ?_
  refine r_getI (q := 8) (v := σ.2.1 0 9) fl_JS_76 (dc dt_JS_piece 3 rfl) rfl ly0 rfl rfl (fun g2 => ?_)
  refine r_icmp_eq (q := 11) (t := 14) (dc dt_JS_piece 4 rfl) rfl (by decide) g1 g2 (fun q_ => ?_) (fun q_ => ?_)
  · have h := h.1 q_
    refine r_iload_n (q := 15) (dc dt_JS_piece 7 rfl) rfl rfl 1 rfl ?_
    refine r_iconst (q := 16) (dc dt_JS_piece 8 rfl) rfl rfl ?_
    refine r_aload_n (q := 17) (dc dt_JS_piece 9 rfl) rfl rfl 0 rfl ?_
    refine r_getO (q := 20) (v := σ.2.2.1) fl_JS_69 (dc dt_JS_piece 10 rfl) rfl ly0 rfl ?_
    obtain ⟨o3, h⟩ := h
    refine r_getO (q := 23) (v := σ.2.2.1 + 1) fl_JS_257 (dc dt_JS_piece 11 rfl) rfl (lyL_0 o3) rfl ?_
    refine r_getI (q := 26) (v := σ.2.1 (σ.2.2.1 + 1) 0) fl_JS_261 (dc dt_JS_piece 12 rfl) rfl (lyL_1 o3) rfl rfl (fun g4 => ?_)
    refine r_iconst (q := 27) (dc dt_JS_piece 13 rfl) rfl rfl ?_
    refine r_isub (q := 28) (dc dt_JS_piece 14 rfl) rfl ?_
    obtain ⟨o5, h⟩ := h
    obtain ⟨o6, h⟩ := h
    refine r_callSi (q := 31) mk_JS_within lm_JS_134 (RMO.of rfl) rfl (dc dt_JS_piece 15 rfl) rfl [I v1, I 0, I ((σ.2.1 (σ.2.2.1 + 1) 0) - 1)] [] rfl rfl (Nat.le_of_ble_eq_true rfl) (sp_JS_within o5 (⟨by decide, by decide⟩ : rng 0) o6) (fun _ _ g7 z => ?_)
    obtain ⟨z, w⟩ := z
    subst z
    replace w := w.symm
    subst w
    refine r_ifb_ne (q := 34) (t := 36) (dc dt_JS_piece 16 rfl) rfl (by decide) (fun q_ => ?_) (fun q_ => ?_)
    · have h := h.1 q_
      refine r_iload_n (q := 37) (dc dt_JS_piece 19 rfl) rfl rfl 2 rfl ?_
      obtain ⟨o8, h⟩ := h
      by_cases qo : (v2 < 0 ∨ 5 < v2)
      · have q_ := qo
        have h := h.2.2.2.2.2.2 q_
        refine r_swOut (t := 163) (dc dt_JS_piece 20 rfl) (by decide) o8 q_ ?_
        refine r_bipush (q := 165) (dc dt_JS_piece 70 rfl) rfl (by decide) ?_
        exact r_iret rfl (dc dt_JS_piece 71 rfl) (⟨by decide, by decide⟩ : rng (-2)) h
      · by_cases q_ : v2 = 0
        · have h := h.1 q_
          refine r_swIn (t := 76) (dc dt_JS_piece 20 rfl) o8 (by omega) (by omega) (by rw [q_]; rfl) (by decide) ?_
          refine r_aload_n (q := 77) (dc dt_JS_piece 21 rfl) rfl rfl 0 rfl ?_
          refine r_getO (q := 80) (v := σ.2.2.1) fl_JS_69 (dc dt_JS_piece 22 rfl) rfl ly0 rfl ?_
          refine r_getO (q := 83) (v := σ.2.2.1 + 15) fl_JS_287 (dc dt_JS_piece 23 rfl) rfl (lyL_0 o3) rfl ?_
          refine r_iload_n (q := 84) (dc dt_JS_piece 24 rfl) rfl rfl 1 rfl ?_
          obtain ⟨o9, h⟩ := h
          refine r_iald (q := 85) (v := σ.1 (σ.2.2.1 + 15) v1.toNat) (dc dt_JS_piece 25 rfl) rfl (lyL_15 o3) o9 rfl (fun g10 => ?_)
          exact r_iret rfl (dc dt_JS_piece 26 rfl) g10 h
        · by_cases q_ : v2 = 1
          · have h := h.2.1 q_
            refine r_swIn (t := 86) (dc dt_JS_piece 20 rfl) o8 (by omega) (by omega) (by rw [q_]; rfl) (by decide) ?_
            refine r_aload_n (q := 87) (dc dt_JS_piece 27 rfl) rfl rfl 0 rfl ?_
            refine r_getO (q := 90) (v := 4) fl_JS_35 (dc dt_JS_piece 28 rfl) rfl ly0 rfl ?_
            refine r_getO (q := 93) (v := 61) fl_JS_207 (dc dt_JS_piece 29 rfl) rfl ly4 rfl ?_
            refine r_aload_n (q := 94) (dc dt_JS_piece 30 rfl) rfl rfl 0 rfl ?_
            refine r_getO (q := 97) (v := σ.2.2.1) fl_JS_69 (dc dt_JS_piece 31 rfl) rfl ly0 rfl ?_
            refine r_getO (q := 100) (v := σ.2.2.1 + 16) fl_JS_290 (dc dt_JS_piece 32 rfl) rfl (lyL_0 o3) rfl ?_
            refine r_iload_n (q := 101) (dc dt_JS_piece 33 rfl) rfl rfl 1 rfl ?_
            obtain ⟨o11, h⟩ := h
            refine r_iald (q := 102) (v := σ.1 (σ.2.2.1 + 16) v1.toNat) (dc dt_JS_piece 34 rfl) rfl (lyL_16 o3) o11 rfl (fun g12 => ?_)
            obtain ⟨o13, h⟩ := h
            refine r_iald (q := 103) (v := σ.1 61 ((σ.1 (σ.2.2.1 + 16) v1.toNat).toNat)) (dc dt_JS_piece 35 rfl) rfl ly61 o13 rfl (fun g14 => ?_)
            exact r_iret rfl (dc dt_JS_piece 36 rfl) g14 h
          · by_cases q_ : v2 = 2
            · have h := h.2.2.1 q_
              refine r_swIn (t := 104) (dc dt_JS_piece 20 rfl) o8 (by omega) (by omega) (by rw [q_]; rfl) (by decide) ?_
              refine r_aload_n (q := 105) (dc dt_JS_piece 37 rfl) rfl rfl 0 rfl ?_
              refine r_getO (q := 108) (v := 4) fl_JS_35 (dc dt_JS_piece 38 rfl) rfl ly0 rfl ?_
              refine r_aload_n (q := 109) (dc dt_JS_piece 39 rfl) rfl rfl 0 rfl ?_
              refine r_getO (q := 112) (v := σ.2.2.1) fl_JS_69 (dc dt_JS_piece 40 rfl) rfl ly0 rfl ?_
              refine r_getO (q := 115) (v := σ.2.2.1 + 16) fl_JS_290 (dc dt_JS_piece 41 rfl) rfl (lyL_0 o3) rfl ?_
              refine r_iload_n (q := 116) (dc dt_JS_piece 42 rfl) rfl rfl 1 rfl ?_
              obtain ⟨o15, h⟩ := h
              refine r_iald (q := 117) (v := σ.1 (σ.2.2.1 + 16) v1.toNat) (dc dt_JS_piece 43 rfl) rfl (lyL_16 o3) o15 rfl (fun g16 => ?_)
              refine r_aload_n (q := 118) (dc dt_JS_piece 44 rfl) rfl rfl 0 rfl ?_
              refine r_getO (q := 121) (v := σ.2.2.1) fl_JS_69 (dc dt_JS_piece 45 rfl) rfl ly0 rfl ?_
              refine r_getO (q := 124) (v := σ.2.2.1 + 15) fl_JS_287 (dc dt_JS_piece 46 rfl) rfl (lyL_0 o3) rfl ?_
              refine r_iload_n (q := 125) (dc dt_JS_piece 47 rfl) rfl rfl 1 rfl ?_
              refine r_iald (q := 126) (v := σ.1 (σ.2.2.1 + 15) v1.toNat) (dc dt_JS_piece 48 rfl) rfl (lyL_15 o3) o15 rfl (fun g17 => ?_)
              obtain ⟨o18, h⟩ := h
              refine r_callVi (q := 129) mk_UN_placeOf lm_JS_210 (RMO.of rfl) rfl (dc dt_JS_piece 49 rfl) rfl ly4 [I (σ.1 (σ.2.2.1 + 16) v1.toNat), I (σ.1 (σ.2.2.1 + 15) v1.toNat)] [] rfl rfl (Nat.le_of_ble_eq_true rfl) (sp_UN_placeOf o18) (fun _ _ g19 z => ?_)
              obtain ⟨z, w⟩ := z
              subst z
              replace w := w.symm
              subst w
              exact r_iret rfl (dc dt_JS_piece 50 rfl) g19 h
            · by_cases q_ : v2 = 3
              · have h := h.2.2.2.1 q_
                refine r_swIn (t := 130) (dc dt_JS_piece 20 rfl) o8 (by omega) (by omega) (by rw [q_]; rfl) (by decide) ?_
                refine r_aload_n (q := 131) (dc dt_JS_piece 51 rfl) rfl rfl 0 rfl ?_
                refine r_getO (q := 134) (v := σ.2.2.1) fl_JS_69 (dc dt_JS_piece 52 rfl) rfl ly0 rfl ?_
                refine r_getO (q := 137) (v := σ.2.2.1 + 17) fl_JS_293 (dc dt_JS_piece 53 rfl) rfl (lyL_0 o3) rfl ?_
                refine r_iload_n (q := 138) (dc dt_JS_piece 54 rfl) rfl rfl 1 rfl ?_
                obtain ⟨o20, h⟩ := h
                refine r_iald (q := 139) (v := σ.1 (σ.2.2.1 + 17) v1.toNat) (dc dt_JS_piece 55 rfl) rfl (lyL_17 o3) o20 rfl (fun g21 => ?_)
                exact r_iret rfl (dc dt_JS_piece 56 rfl) g21 h
              · by_cases q_ : v2 = 4
                · have h := h.2.2.2.2.1 q_
                  refine r_swIn (t := 140) (dc dt_JS_piece 20 rfl) o8 (by omega) (by omega) (by rw [q_]; rfl) (by decide) ?_
                  refine r_aload_n (q := 141) (dc dt_JS_piece 57 rfl) rfl rfl 0 rfl ?_
                  refine r_getO (q := 144) (v := σ.2.2.1) fl_JS_69 (dc dt_JS_piece 58 rfl) rfl ly0 rfl ?_
                  refine r_getO (q := 147) (v := σ.2.2.1 + 18) fl_JS_296 (dc dt_JS_piece 59 rfl) rfl (lyL_0 o3) rfl ?_
                  refine r_iload_n (q := 148) (dc dt_JS_piece 60 rfl) rfl rfl 1 rfl ?_
                  obtain ⟨o22, h⟩ := h
                  refine r_iald (q := 149) (v := σ.1 (σ.2.2.1 + 18) v1.toNat) (dc dt_JS_piece 61 rfl) rfl (lyL_18 o3) o22 rfl (fun g23 => ?_)
                  exact r_iret rfl (dc dt_JS_piece 62 rfl) g23 h
                · have q_ : v2 = 5 := by omega
                  have h := h.2.2.2.2.2.1 q_
                  refine r_swIn (t := 150) (dc dt_JS_piece 20 rfl) o8 (by omega) (by omega) (by rw [q_]; rfl) (by decide) ?_
                  refine r_aload_n (q := 151) (dc dt_JS_piece 63 rfl) rfl rfl 0 rfl ?_
                  refine r_getO (q := 154) (v := σ.2.2.1) fl_JS_69 (dc dt_JS_piece 64 rfl) rfl ly0 rfl ?_
                  refine r_getO (q := 157) (v := σ.2.2.1 + 1) fl_JS_257 (dc dt_JS_piece 65 rfl) rfl (lyL_0 o3) rfl ?_
                  refine r_getO (q := 160) (v := σ.2.2.1 + 2) fl_JS_299 (dc dt_JS_piece 66 rfl) rfl (lyL_1 o3) rfl ?_
                  refine r_iload_n (q := 161) (dc dt_JS_piece 67 rfl) rfl rfl 1 rfl ?_
                  obtain ⟨o24, h⟩ := h
                  refine r_iald (q := 162) (v := σ.1 (σ.2.2.1 + 2) v1.toNat) (dc dt_JS_piece 68 rfl) rfl (lyL_2 o3) o24 rfl (fun g25 => ?_)
                  exact r_iret rfl (dc dt_JS_piece 69 rfl) g25 h
    · have h := h.2 q_
      refine r_iconst (q := 35) (dc dt_JS_piece 17 rfl) rfl rfl ?_
      exact r_iret rfl (dc dt_JS_piece 18 rfl) (⟨by decide, by decide⟩ : rng (-1)) h
  · have h := h.2 q_
    refine r_bipush (q := 13) (dc dt_JS_piece 5 rfl) rfl (by decide) ?_
    exact r_iret rfl (dc dt_JS_piece 6 rfl) (⟨by decide, by decide⟩ : rng (-3)) h
def tb_JS_mark : List (Nat × Instr × Nat) := [(0, .aload_n 0, 1), (1, .getfield 83, 3), (4, .aload_n 0, 1), (5, .getfield 76, 3), (8, .if_icmp .eq 7, 3), (11, .ldc_w 302, 3), (14, .ireturn, 1), (15, .aload_n 0, 1), (16, .getfield 69, 3), (19, .getfield 267, 3), (22, .astore_n 3, 1), (23, .iload_n 1, 1), (24, .iconst 0, 1), (25, .aload_n 3, 1), (26, .getfield 271, 3), (29, .getfield 261, 3), (32, .iconst 1, 1), (33, .isub, 1), (34, .invokestatic 134, 3), (37, .ifCond .ne 7, 3), (40, .ldc_w 303, 3), (43, .ireturn, 1), (44, .iload_n 2, 1), (45, .tableswitch 90 0 5 #[39, 46, 53, 63, 73, 83], 39), (84, .aload_n 3, 1), (85, .getfield 304, 3), (88, .iload_n 1, 1), (89, .iaload, 1), (90, .ireturn, 1), (91, .aload_n 3, 1), (92, .getfield 305, 3), (95, .iload_n 1, 1), (96, .iaload, 1), (97, .ireturn, 1), (98, .aload_n 3, 1), (99, .getfield 271, 3), (102, .getfield 299, 3), (105, .iload_n 1, 1), (106, .iaload, 1), (107, .ireturn, 1), (108, .aload_n 3, 1), (109, .getfield 271, 3), (112, .getfield 308, 3), (115, .iload_n 1, 1), (116, .iaload, 1), (117, .ireturn, 1), (118, .aload_n 3, 1), (119, .getfield 271, 3), (122, .getfield 311, 3), (125, .iload_n 1, 1), (126, .iaload, 1), (127, .ireturn, 1), (128, .aload_n 3, 1), (129, .getfield 314, 3), (132, .iload_n 1, 1), (133, .iaload, 1), (134, .ireturn, 1), (135, .ldc_w 317, 3), (138, .ireturn, 1)]
theorem dt_JS_mark : DT (cM m_JS_mark) tb_JS_mark := by unfold DT; decide +kernel
abbrev a_JS_mark_0 (G : GT)  (v1 : Int) (v2 : Int) (σ : St) (P : Int → St → Prop) : Prop := A G m_JS_mark 0 [(0, O 0), (1, I v1), (2, I v2)] [] σ P
set_option maxRecDepth 20000 in
theorem k_JS_mark_0 {G : GT} {σ : St} {P : Int → St → Prop}  {v1 : Int} {v2 : Int}  
    (h : (σ.2.1 0 11 = σ.2.1 0 9 → isL σ.2.2.1 ∧ rng v1 ∧ (0 ≤ v1 → rng ((σ.2.1 (σ.2.2.1 + 7) 0) - 1)) ∧ (0 ≤ v1 ∧ v1 ≤ ((σ.2.1 (σ.2.2.1 + 7) 0) - 1) → rng v2 ∧ (v2 = 0 → (0 ≤ v1 ∧ v1 < 80) ∧ P (σ.1 (σ.2.2.1 + 12) v1.toNat) σ) ∧ (v2 = 1 → (0 ≤ v1 ∧ v1 < 80) ∧ P (σ.1 (σ.2.2.1 + 13) v1.toNat) σ) ∧ (v2 = 2 → (0 ≤ v1 ∧ v1 < 80) ∧ P (σ.1 (σ.2.2.1 + 8) v1.toNat) σ) ∧ (v2 = 3 → (0 ≤ v1 ∧ v1 < 80) ∧ P (σ.1 (σ.2.2.1 + 10) v1.toNat) σ) ∧ (v2 = 4 → (0 ≤ v1 ∧ v1 < 80) ∧ P (σ.1 (σ.2.2.1 + 11) v1.toNat) σ) ∧ (v2 = 5 → (0 ≤ v1 ∧ v1 < 80) ∧ P (σ.1 (σ.2.2.1 + 14) v1.toNat) σ) ∧ ((v2 < 0 ∨ 5 < v2) → P (-100002) σ)) ∧ (¬ (0 ≤ v1 ∧ v1 ≤ ((σ.2.1 (σ.2.2.1 + 7) 0) - 1)) → P (-100001) σ)) ∧ (σ.2.1 0 11 ≠ σ.2.1 0 9 → P (-100003) σ)) :
    a_JS_mark_0 G v1 v2 σ P := by
  refine r_aload_n (q := 1) (dc dt_JS_mark 0 rfl) rfl rfl 0 rfl ?_
  refine r_getI (q := 4) (v := σ.2.1 0 11) fl_JS_83 (dc dt_JS_mark 1 rfl) rfl ly0 rfl rfl (fun g1 => ?_)
  refine r_aload_n (q := 5) (dc dt_JS_mark 2 rfl) rfl rfl 0 rfl ?_
  refine r_getI (q := 8) (v := σ.2.1 0 9) fl_JS_76 (dc dt_JS_mark 3 rfl) rfl ly0 rfl rfl (fun g2 => ?_)
  refine r_icmp_eq (q := 11) (t := 15) (dc dt_JS_mark 4 rfl) rfl (by decide) g1 g2 (fun q_ => ?_) (fun q_ => ?_)
  · have h := h.1 q_
    refine r_aload_n (q := 16) (dc dt_JS_mark 7 rfl) rfl rfl 0 rfl ?_
    refine r_getO (q := 19) (v := σ.2.2.1) fl_JS_69 (dc dt_JS_mark 8 rfl) rfl ly0 rfl ?_
    obtain ⟨o3, h⟩ := h
    refine r_getO (q := 22) (v := σ.2.2.1 + 6) fl_JS_267 (dc dt_JS_mark 9 rfl) rfl (lyL_0 o3) rfl ?_
    refine r_astore_n (q := 23) (dc dt_JS_mark 10 rfl) rfl rfl (by decide) rfl ?_
    refine r_iload_n (q := 24) (dc dt_JS_mark 11 rfl) rfl rfl 2 rfl ?_
    refine r_iconst (q := 25) (dc dt_JS_mark 12 rfl) rfl rfl ?_
    refine r_aload_n (q := 26) (dc dt_JS_mark 13 rfl) rfl rfl 0 rfl ?_
    refine r_getO (q := 29) (v := σ.2.2.1 + 7) fl_JS_271 (dc dt_JS_mark 14 rfl) rfl (lyL_6 o3) rfl ?_
    refine r_getI (q := 32) (v := σ.2.1 (σ.2.2.1 + 7) 0) fl_JS_261 (dc dt_JS_mark 15 rfl) rfl (lyL_7 o3) rfl rfl (fun g4 => ?_)
    refine r_iconst (q := 33) (dc dt_JS_mark 16 rfl) rfl rfl ?_
    refine r_isub (q := 34) (dc dt_JS_mark 17 rfl) rfl ?_
    obtain ⟨o5, h⟩ := h
    obtain ⟨o6, h⟩ := h
    refine r_callSi (q := 37) mk_JS_within lm_JS_134 (RMO.of rfl) rfl (dc dt_JS_mark 18 rfl) rfl [I v1, I 0, I ((σ.2.1 (σ.2.2.1 + 7) 0) - 1)] [] rfl rfl (Nat.le_of_ble_eq_true rfl) (sp_JS_within o5 (⟨by decide, by decide⟩ : rng 0) o6) (fun _ _ g7 z => ?_)
    obtain ⟨z, w⟩ := z
    subst z
    replace w := w.symm
    subst w
    refine r_ifb_ne (q := 40) (t := 44) (dc dt_JS_mark 19 rfl) rfl (by decide) (fun q_ => ?_) (fun q_ => ?_)
    · have h := h.1 q_
      refine r_iload_n (q := 45) (dc dt_JS_mark 22 rfl) rfl rfl 3 rfl ?_
      obtain ⟨o8, h⟩ := h
      by_cases qo : (v2 < 0 ∨ 5 < v2)
      · have q_ := qo
        have h := h.2.2.2.2.2.2 q_
        refine r_swOut (t := 135) (dc dt_JS_mark 23 rfl) (by decide) o8 q_ ?_
        refine r_ldcw (q := 138) (n := -100002) (dc dt_JS_mark 57 rfl) rfl (gt_at 965 (by decide +kernel) rfl) ?_
        exact r_iret rfl (dc dt_JS_mark 58 rfl) (⟨by decide, by decide⟩ : rng (-100002)) h
      · by_cases q_ : v2 = 0
        · have h := h.1 q_
          refine r_swIn (t := 84) (dc dt_JS_mark 23 rfl) o8 (by omega) (by omega) (by rw [q_]; rfl) (by decide) ?_
          refine r_aload_n (q := 85) (dc dt_JS_mark 24 rfl) rfl rfl 0 rfl ?_
          refine r_getO (q := 88) (v := σ.2.2.1 + 12) fl_JS_304 (dc dt_JS_mark 25 rfl) rfl (lyL_6 o3) rfl ?_
          refine r_iload_n (q := 89) (dc dt_JS_mark 26 rfl) rfl rfl 2 rfl ?_
          obtain ⟨o9, h⟩ := h
          refine r_iald (q := 90) (v := σ.1 (σ.2.2.1 + 12) v1.toNat) (dc dt_JS_mark 27 rfl) rfl (lyL_12 o3) o9 rfl (fun g10 => ?_)
          exact r_iret rfl (dc dt_JS_mark 28 rfl) g10 h
        · by_cases q_ : v2 = 1
          · have h := h.2.1 q_
            refine r_swIn (t := 91) (dc dt_JS_mark 23 rfl) o8 (by omega) (by omega) (by rw [q_]; rfl) (by decide) ?_
            refine r_aload_n (q := 92) (dc dt_JS_mark 29 rfl) rfl rfl 0 rfl ?_
            refine r_getO (q := 95) (v := σ.2.2.1 + 13) fl_JS_305 (dc dt_JS_mark 30 rfl) rfl (lyL_6 o3) rfl ?_
            refine r_iload_n (q := 96) (dc dt_JS_mark 31 rfl) rfl rfl 2 rfl ?_
            obtain ⟨o11, h⟩ := h
            refine r_iald (q := 97) (v := σ.1 (σ.2.2.1 + 13) v1.toNat) (dc dt_JS_mark 32 rfl) rfl (lyL_13 o3) o11 rfl (fun g12 => ?_)
            exact r_iret rfl (dc dt_JS_mark 33 rfl) g12 h
          · by_cases q_ : v2 = 2
            · have h := h.2.2.1 q_
              refine r_swIn (t := 98) (dc dt_JS_mark 23 rfl) o8 (by omega) (by omega) (by rw [q_]; rfl) (by decide) ?_
              refine r_aload_n (q := 99) (dc dt_JS_mark 34 rfl) rfl rfl 0 rfl ?_
              refine r_getO (q := 102) (v := σ.2.2.1 + 7) fl_JS_271 (dc dt_JS_mark 35 rfl) rfl (lyL_6 o3) rfl ?_
              refine r_getO (q := 105) (v := σ.2.2.1 + 8) fl_JS_299 (dc dt_JS_mark 36 rfl) rfl (lyL_7 o3) rfl ?_
              refine r_iload_n (q := 106) (dc dt_JS_mark 37 rfl) rfl rfl 2 rfl ?_
              obtain ⟨o13, h⟩ := h
              refine r_iald (q := 107) (v := σ.1 (σ.2.2.1 + 8) v1.toNat) (dc dt_JS_mark 38 rfl) rfl (lyL_8 o3) o13 rfl (fun g14 => ?_)
              exact r_iret rfl (dc dt_JS_mark 39 rfl) g14 h
            · by_cases q_ : v2 = 3
              · have h := h.2.2.2.1 q_
                refine r_swIn (t := 108) (dc dt_JS_mark 23 rfl) o8 (by omega) (by omega) (by rw [q_]; rfl) (by decide) ?_
                refine r_aload_n (q := 109) (dc dt_JS_mark 40 rfl) rfl rfl 0 rfl ?_
                refine r_getO (q := 112) (v := σ.2.2.1 + 7) fl_JS_271 (dc dt_JS_mark 41 rfl) rfl (lyL_6 o3) rfl ?_
                refine r_getO (q := 115) (v := σ.2.2.1 + 10) fl_JS_308 (dc dt_JS_mark 42 rfl) rfl (lyL_7 o3) rfl ?_
                refine r_iload_n (q := 116) (dc dt_JS_mark 43 rfl) rfl rfl 2 rfl ?_
                obtain ⟨o15, h⟩ := h
                refine r_iald (q := 117) (v := σ.1 (σ.2.2.1 + 10) v1.toNat) (dc dt_JS_mark 44 rfl) rfl (lyL_10 o3) o15 rfl (fun g16 => ?_)
                exact r_iret rfl (dc dt_JS_mark 45 rfl) g16 h
              · by_cases q_ : v2 = 4
                · have h := h.2.2.2.2.1 q_
                  refine r_swIn (t := 118) (dc dt_JS_mark 23 rfl) o8 (by omega) (by omega) (by rw [q_]; rfl) (by decide) ?_
                  refine r_aload_n (q := 119) (dc dt_JS_mark 46 rfl) rfl rfl 0 rfl ?_
                  refine r_getO (q := 122) (v := σ.2.2.1 + 7) fl_JS_271 (dc dt_JS_mark 47 rfl) rfl (lyL_6 o3) rfl ?_
                  refine r_getO (q := 125) (v := σ.2.2.1 + 11) fl_JS_311 (dc dt_JS_mark 48 rfl) rfl (lyL_7 o3) rfl ?_
                  refine r_iload_n (q := 126) (dc dt_JS_mark 49 rfl) rfl rfl 2 rfl ?_
                  obtain ⟨o17, h⟩ := h
                  refine r_iald (q := 127) (v := σ.1 (σ.2.2.1 + 11) v1.toNat) (dc dt_JS_mark 50 rfl) rfl (lyL_11 o3) o17 rfl (fun g18 => ?_)
                  exact r_iret rfl (dc dt_JS_mark 51 rfl) g18 h
                · have q_ : v2 = 5 := by omega
                  have h := h.2.2.2.2.2.1 q_
                  refine r_swIn (t := 128) (dc dt_JS_mark 23 rfl) o8 (by omega) (by omega) (by rw [q_]; rfl) (by decide) ?_
                  refine r_aload_n (q := 129) (dc dt_JS_mark 52 rfl) rfl rfl 0 rfl ?_
                  refine r_getO (q := 132) (v := σ.2.2.1 + 14) fl_JS_314 (dc dt_JS_mark 53 rfl) rfl (lyL_6 o3) rfl ?_
                  refine r_iload_n (q := 133) (dc dt_JS_mark 54 rfl) rfl rfl 2 rfl ?_
                  obtain ⟨o19, h⟩ := h
                  refine r_iald (q := 134) (v := σ.1 (σ.2.2.1 + 14) v1.toNat) (dc dt_JS_mark 55 rfl) rfl (lyL_14 o3) o19 rfl (fun g20 => ?_)
                  exact r_iret rfl (dc dt_JS_mark 56 rfl) g20 h
    · have h := h.2 q_
      refine r_ldcw (q := 43) (n := -100001) (dc dt_JS_mark 20 rfl) rfl (gt_at 964 (by decide +kernel) rfl) ?_
      exact r_iret rfl (dc dt_JS_mark 21 rfl) (⟨by decide, by decide⟩ : rng (-100001)) h
  · have h := h.2 q_
    refine r_ldcw (q := 14) (n := -100003) (dc dt_JS_mark 5 rfl) rfl (gt_at 963 (by decide +kernel) rfl) ?_
    exact r_iret rfl (dc dt_JS_mark 6 rfl) (⟨by decide, by decide⟩ : rng (-100003)) h
def tb_JS_isDigit : List (Nat × Instr × Nat) := [(0, .aload_n 0, 1), (1, .getfield 10, 3), (4, .getfield 167, 3), (7, .aload_n 0, 1), (8, .getfield 19, 3), (11, .getfield 190, 3), (14, .iload_n 1, 1), (15, .iaload, 1), (16, .iaload, 1), (17, .iconst 5, 1), (18, .if_icmp .ne 7, 3), (21, .iconst 1, 1), (22, .goto 4, 3), (25, .iconst 0, 1), (26, .ireturn, 1)]
theorem dt_JS_isDigit : DT (cM m_JS_isDigit) tb_JS_isDigit := by unfold DT; decide +kernel
abbrev a_JS_isDigit_0 (G : GT)  (v1 : Int) (σ : St) (P : Int → St → Prop) : Prop := A G m_JS_isDigit 0 [(0, O 0), (1, I v1)] [] σ P
set_option maxRecDepth 20000 in
theorem k_JS_isDigit_0 {G : GT} {σ : St} {P : Int → St → Prop}  {v1 : Int}  
    (h : (0 ≤ v1 ∧ v1 < 80) ∧ (0 ≤ σ.1 57 v1.toNat ∧ σ.1 57 v1.toNat < 60) ∧ P (if σ.1 47 ((σ.1 57 v1.toNat).toNat) = 5 then 1 else 0) σ) :
    a_JS_isDigit_0 G v1 σ P := by
  refine r_aload_n (q := 1) (dc dt_JS_isDigit 0 rfl) rfl rfl 0 rfl ?_
  refine r_getO (q := 4) (v := 1) fl_JS_10 (dc dt_JS_isDigit 1 rfl) rfl ly0 rfl ?_
  refine r_getO (q := 7) (v := 47) fl_JS_167 (dc dt_JS_isDigit 2 rfl) rfl ly1 rfl ?_
  refine r_aload_n (q := 8) (dc dt_JS_isDigit 3 rfl) rfl rfl 0 rfl ?_
  refine r_getO (q := 11) (v := 2) fl_JS_19 (dc dt_JS_isDigit 4 rfl) rfl ly0 rfl ?_
  refine r_getO (q := 14) (v := 57) fl_JS_190 (dc dt_JS_isDigit 5 rfl) rfl ly2 rfl ?_
  refine r_iload_n (q := 15) (dc dt_JS_isDigit 6 rfl) rfl rfl 1 rfl ?_
  obtain ⟨o1, h⟩ := h
  refine r_iald (q := 16) (v := σ.1 57 v1.toNat) (dc dt_JS_isDigit 7 rfl) rfl ly57 o1 rfl (fun g2 => ?_)
  obtain ⟨o3, h⟩ := h
  refine r_iald (q := 17) (v := σ.1 47 ((σ.1 57 v1.toNat).toNat)) (dc dt_JS_isDigit 8 rfl) rfl ly47 o3 rfl (fun g4 => ?_)
  refine r_iconst (q := 18) (dc dt_JS_isDigit 9 rfl) rfl rfl ?_
  have hJ : ∀ (w_0 : Int), w_0 = (if σ.1 47 ((σ.1 57 v1.toNat).toNat) = 5 then 1 else 0) → A G m_JS_isDigit 26 [(0, O 0), (1, I v1)] [I w_0] σ P := by
    intro w_0 z_0
    subst z_0
    exact r_zret rfl (dc dt_JS_isDigit 14 rfl) b01_or h
  clear h
  refine r_icmp_ne (q := 21) (t := 25) (dc dt_JS_isDigit 10 rfl) rfl (by decide) g4 (⟨by decide, by decide⟩ : rng 5) (fun q_ => ?_) (fun q_ => ?_)
  · have q5 := q_
    refine r_iconst (q := 26) (dc dt_JS_isDigit 13 rfl) rfl rfl ?_
    exact (hJ 0 ((if_neg (by first | omega | grind)).symm))
  · have q5 := q_
    refine r_iconst (q := 22) (dc dt_JS_isDigit 11 rfl) rfl rfl ?_
    refine r_goto (q := 26) (dc dt_JS_isDigit 12 rfl) (by decide) ?_
    exact (hJ 1 ((if_pos (by first | omega | grind)).symm))
set_option maxRecDepth 20000 in
theorem sp_JS_isDigit {G : GT} {σ : St} {v1 : Int}  (j0 : 0 ≤ v1 ∧ v1 < 80) (j1 : 0 ≤ σ.1 57 v1.toNat ∧ σ.1 57 v1.toNat < 60) : CJ G m_JS_isDigit [O 0, I v1] σ (fun r u => r = (if σ.1 47 ((σ.1 57 v1.toNat).toNat) = 5 then 1 else 0) ∧ u = σ) := by
  refine CJ.intro (by decide) (by simp [catA]; decide) (fun _ => k_JS_isDigit_0  ?_)
  refine ⟨by first | assumption | omega | grind, ?_⟩
  refine ⟨by first | assumption | omega | grind, ?_⟩
  exact ⟨rfl, rfl⟩
def tb_JS_mirrored : List (Nat × Instr × Nat) := [(0, .aload_n 0, 1), (1, .iload_n 1, 1), (2, .invokevirtual 380, 3), (5, .ifCond .ne 5, 3), (8, .iload_n 1, 1), (9, .ireturn, 1), (10, .iload_n 1, 1), (11, .istore_n 2, 1), (12, .iload_n 1, 1), (13, .istore_n 3, 1), (14, .iload_n 2, 1), (15, .aload_n 0, 1), (16, .getfield 69, 3), (19, .getfield 281, 3), (22, .if_icmp .le 19, 3), (25, .aload_n 0, 1), (26, .iload_n 2, 1), (27, .iconst 1, 1), (28, .isub, 1), (29, .invokevirtual 380, 3), (32, .ifCond .eq 9, 3), (35, .iinc 2 (-1), 3), (38, .goto (-24), 3), (41, .iload_n 3, 1), (42, .aload_n 0, 1), (43, .getfield 69, 3), (46, .getfield 284, 3), (49, .if_icmp .ge 19, 3), (52, .aload_n 0, 1), (53, .iload_n 3, 1), (54, .iconst 1, 1), (55, .iadd, 1), (56, .invokevirtual 380, 3), (59, .ifCond .eq 9, 3), (62, .iinc 3 1, 3), (65, .goto (-24), 3), (68, .iload_n 2, 1), (69, .iload_n 3, 1), (70, .iadd, 1), (71, .iload_n 1, 1), (72, .isub, 1), (73, .ireturn, 1)]
theorem dt_JS_mirrored : DT (cM m_JS_mirrored) tb_JS_mirrored := by unfold DT; decide +kernel
abbrev a_JS_mirrored_0 (G : GT)  (v1 : Int) (σ : St) (P : Int → St → Prop) : Prop := A G m_JS_mirrored 0 [(0, O 0), (1, I v1)] [] σ P
abbrev a_JS_mirrored_14 (G : GT)  (v1 : Int) (v2 : Int) (v3 : Int) (σ : St) (P : Int → St → Prop) : Prop := A G m_JS_mirrored 14 [(0, O 0), (1, I v1), (2, I v2), (3, I v3)] [] σ P
abbrev a_JS_mirrored_41 (G : GT)  (v1 : Int) (v2 : Int) (v3 : Int) (σ : St) (P : Int → St → Prop) : Prop := A G m_JS_mirrored 41 [(0, O 0), (1, I v1), (2, I v2), (3, I v3)] [] σ P
set_option maxRecDepth 20000 in
theorem k_JS_mirrored_0 {G : GT} {σ : St} {P : Int → St → Prop}  {v1 : Int}  
    (h : (0 ≤ v1 ∧ v1 < 80) ∧ (0 ≤ σ.1 57 v1.toNat ∧ σ.1 57 v1.toNat < 60) ∧ (σ.1 47 ((σ.1 57 v1.toNat).toNat) = 5 → a_JS_mirrored_14 G v1 v1 v1 σ P) ∧ (¬ (σ.1 47 ((σ.1 57 v1.toNat).toNat) = 5) → rng v1 ∧ P v1 σ)) :
    a_JS_mirrored_0 G v1 σ P := by
  refine r_aload_n (q := 1) (dc dt_JS_mirrored 0 rfl) rfl rfl 0 rfl ?_
  refine r_iload_n (q := 2) (dc dt_JS_mirrored 1 rfl) rfl rfl 1 rfl ?_
  obtain ⟨o1, h⟩ := h
  obtain ⟨o2, h⟩ := h
  refine r_callVi (q := 5) mk_JS_isDigit lm_JS_380 (RMO.of rfl) rfl (dc dt_JS_mirrored 2 rfl) rfl ly0 [I v1] [] rfl rfl (Nat.le_of_ble_eq_true rfl) (sp_JS_isDigit o1 o2) (fun _ _ g3 z => ?_)
  obtain ⟨z, w⟩ := z
  subst z
  replace w := w.symm
  subst w
  refine r_ifb_ne (q := 8) (t := 10) (dc dt_JS_mirrored 3 rfl) rfl (by decide) (fun q_ => ?_) (fun q_ => ?_)
  · have h := h.1 q_
    refine r_iload_n (q := 11) (dc dt_JS_mirrored 6 rfl) rfl rfl 1 rfl ?_
    refine r_istore_n (q := 12) (dc dt_JS_mirrored 7 rfl) rfl rfl (by decide) rfl ?_
    refine r_iload_n (q := 13) (dc dt_JS_mirrored 8 rfl) rfl rfl 2 rfl ?_
    refine r_istore_n (q := 14) (dc dt_JS_mirrored 9 rfl) rfl rfl (by decide) rfl ?_
    exact r_loc [2, 3, 1, 0] rfl h
  · have h := h.2 q_
    refine r_iload_n (q := 9) (dc dt_JS_mirrored 4 rfl) rfl rfl 1 rfl ?_
    obtain ⟨o4, h⟩ := h
    exact r_iret rfl (dc dt_JS_mirrored 5 rfl) o4 h
set_option maxRecDepth 20000 in
theorem k_JS_mirrored_14 {G : GT} {σ : St} {P : Int → St → Prop}  {v1 : Int} {v2 : Int} {v3 : Int}  
    (h : isL σ.2.2.1 ∧ rng v2 ∧ (v2 ≤ σ.2.1 σ.2.2.1 4 → a_JS_mirrored_41 G v1 v2 v3 σ P) ∧ (σ.2.1 σ.2.2.1 4 < v2 → (0 ≤ (v2 - 1) ∧ (v2 - 1) < 80) ∧ (0 ≤ σ.1 57 (v2 - 1).toNat ∧ σ.1 57 (v2 - 1).toNat < 60) ∧ (¬ (σ.1 47 ((σ.1 57 (v2 - 1).toNat).toNat) = 5) → a_JS_mirrored_41 G v1 v2 v3 σ P) ∧ (σ.1 47 ((σ.1 57 (v2 - 1).toNat).toNat) = 5 → a_JS_mirrored_14 G v1 (v2 + (-1)) v3 σ P))) :
    a_JS_mirrored_14 G v1 v2 v3 σ P := by
  refine r_iload_n (q := 15) (dc dt_JS_mirrored 10 rfl) rfl rfl 2 rfl ?_
  refine r_aload_n (q := 16) (dc dt_JS_mirrored 11 rfl) rfl rfl 0 rfl ?_
  refine r_getO (q := 19) (v := σ.2.2.1) fl_JS_69 (dc dt_JS_mirrored 12 rfl) rfl ly0 rfl ?_
  obtain ⟨o5, h⟩ := h
  refine r_getI (q := 22) (v := σ.2.1 σ.2.2.1 4) fl_JS_281 (dc dt_JS_mirrored 13 rfl) rfl (lyL_0 o5) rfl rfl (fun g6 => ?_)
  obtain ⟨o7, h⟩ := h
  refine r_icmp_le (q := 25) (t := 41) (dc dt_JS_mirrored 14 rfl) rfl (by decide) o7 g6 (fun q_ => ?_) (fun q_ => ?_)
  · have h := h.1 q_
    exact h
  · have h := h.2 q_
    refine r_aload_n (q := 26) (dc dt_JS_mirrored 15 rfl) rfl rfl 0 rfl ?_
    refine r_iload_n (q := 27) (dc dt_JS_mirrored 16 rfl) rfl rfl 2 rfl ?_
    refine r_iconst (q := 28) (dc dt_JS_mirrored 17 rfl) rfl rfl ?_
    refine r_isub (q := 29) (dc dt_JS_mirrored 18 rfl) rfl ?_
    obtain ⟨o8, h⟩ := h
    obtain ⟨o9, h⟩ := h
    refine r_callVi (q := 32) mk_JS_isDigit lm_JS_380 (RMO.of rfl) rfl (dc dt_JS_mirrored 19 rfl) rfl ly0 [I (v2 - 1)] [] rfl rfl (Nat.le_of_ble_eq_true rfl) (sp_JS_isDigit o8 o9) (fun _ _ g10 z => ?_)
    obtain ⟨z, w⟩ := z
    subst z
    replace w := w.symm
    subst w
    refine r_ifb_eq (q := 35) (t := 41) (dc dt_JS_mirrored 20 rfl) rfl (by decide) (fun q_ => ?_) (fun q_ => ?_)
    · have h := h.1 q_
      exact h
    · have h := h.2 q_
      refine r_iinc (q := 38) (k := 2) (dc dt_JS_mirrored 21 rfl) rfl rfl (by decide) rfl ?_
      refine r_goto (q := 14) (dc dt_JS_mirrored 22 rfl) (by decide) ?_
      exact r_loc [1, 2, 0, 3] rfl h
set_option maxRecDepth 20000 in
theorem k_JS_mirrored_41 {G : GT} {σ : St} {P : Int → St → Prop}  {v1 : Int} {v2 : Int} {v3 : Int}  
    (h : isL σ.2.2.1 ∧ rng v3 ∧ (σ.2.1 σ.2.2.1 5 ≤ v3 → rng ((v2 + v3) - v1) ∧ P ((v2 + v3) - v1) σ) ∧ (v3 < σ.2.1 σ.2.2.1 5 → (0 ≤ (v3 + 1) ∧ (v3 + 1) < 80) ∧ (0 ≤ σ.1 57 (v3 + 1).toNat ∧ σ.1 57 (v3 + 1).toNat < 60) ∧ (¬ (σ.1 47 ((σ.1 57 (v3 + 1).toNat).toNat) = 5) → rng ((v2 + v3) - v1) ∧ P ((v2 + v3) - v1) σ) ∧ (σ.1 47 ((σ.1 57 (v3 + 1).toNat).toNat) = 5 → a_JS_mirrored_41 G v1 v2 (v3 + 1) σ P))) :
    a_JS_mirrored_41 G v1 v2 v3 σ P := by
  refine r_iload_n (q := 42) (dc dt_JS_mirrored 23 rfl) rfl rfl 3 rfl ?_
  refine r_aload_n (q := 43) (dc dt_JS_mirrored 24 rfl) rfl rfl 0 rfl ?_
  refine r_getO (q := 46) (v := σ.2.2.1) fl_JS_69 (dc dt_JS_mirrored 25 rfl) rfl ly0 rfl ?_
  obtain ⟨o11, h⟩ := h
  refine r_getI (q := 49) (v := σ.2.1 σ.2.2.1 5) fl_JS_284 (dc dt_JS_mirrored 26 rfl) rfl (lyL_0 o11) rfl rfl (fun g12 => ?_)
  obtain ⟨o13, h⟩ := h
  refine r_icmp_ge (q := 52) (t := 68) (dc dt_JS_mirrored 27 rfl) rfl (by decide) o13 g12 (fun q_ => ?_) (fun q_ => ?_)
  · have h := h.1 q_
    refine r_iload_n (q := 69) (dc dt_JS_mirrored 36 rfl) rfl rfl 2 rfl ?_
    refine r_iload_n (q := 70) (dc dt_JS_mirrored 37 rfl) rfl rfl 3 rfl ?_
    refine r_iadd (q := 71) (dc dt_JS_mirrored 38 rfl) rfl ?_
    refine r_iload_n (q := 72) (dc dt_JS_mirrored 39 rfl) rfl rfl 1 rfl ?_
    refine r_isub (q := 73) (dc dt_JS_mirrored 40 rfl) rfl ?_
    obtain ⟨o17, h⟩ := h
    exact r_iret rfl (dc dt_JS_mirrored 41 rfl) o17 h
  · have h := h.2 q_
    refine r_aload_n (q := 53) (dc dt_JS_mirrored 28 rfl) rfl rfl 0 rfl ?_
    refine r_iload_n (q := 54) (dc dt_JS_mirrored 29 rfl) rfl rfl 3 rfl ?_
    refine r_iconst (q := 55) (dc dt_JS_mirrored 30 rfl) rfl rfl ?_
    refine r_iadd (q := 56) (dc dt_JS_mirrored 31 rfl) rfl ?_
    obtain ⟨o18, h⟩ := h
    obtain ⟨o19, h⟩ := h
    refine r_callVi (q := 59) mk_JS_isDigit lm_JS_380 (RMO.of rfl) rfl (dc dt_JS_mirrored 32 rfl) rfl ly0 [I (v3 + 1)] [] rfl rfl (Nat.le_of_ble_eq_true rfl) (sp_JS_isDigit o18 o19) (fun _ _ g20 z => ?_)
    obtain ⟨z, w⟩ := z
    subst z
    replace w := w.symm
    subst w
    refine r_ifb_eq (q := 62) (t := 68) (dc dt_JS_mirrored 33 rfl) rfl (by decide) (fun q_ => ?_) (fun q_ => ?_)
    · have h := h.1 q_
      refine r_iload_n (q := 69) (dc dt_JS_mirrored 36 rfl) rfl rfl 2 rfl ?_
      refine r_iload_n (q := 70) (dc dt_JS_mirrored 37 rfl) rfl rfl 3 rfl ?_
      refine r_iadd (q := 71) (dc dt_JS_mirrored 38 rfl) rfl ?_
      refine r_iload_n (q := 72) (dc dt_JS_mirrored 39 rfl) rfl rfl 1 rfl ?_
      refine r_isub (q := 73) (dc dt_JS_mirrored 40 rfl) rfl ?_
      obtain ⟨o21, h⟩ := h
      exact r_iret rfl (dc dt_JS_mirrored 41 rfl) o21 h
    · have h := h.2 q_
      refine r_iinc (q := 65) (k := 3) (dc dt_JS_mirrored 34 rfl) rfl rfl (by decide) rfl ?_
      refine r_goto (q := 41) (dc dt_JS_mirrored 35 rfl) (by decide) ?_
      exact r_loc [1, 2, 3, 0] rfl h
def tb_JS_seen : List (Nat × Instr × Nat) := [(0, .aload_n 0, 1), (1, .getfield 83, 3), (4, .aload_n 0, 1), (5, .getfield 76, 3), (8, .if_icmp .eq 6, 3), (11, .bipush (-3), 2), (13, .ireturn, 1), (14, .iload_n 1, 1), (15, .iconst 0, 1), (16, .aload_n 0, 1), (17, .getfield 69, 3), (20, .getfield 284, 3), (23, .aload_n 0, 1), (24, .getfield 69, 3), (27, .getfield 281, 3), (30, .isub, 1), (31, .invokestatic 134, 3), (34, .ifCond .ne 5, 3), (37, .iconst (-1), 1), (38, .ireturn, 1), (39, .aload_n 0, 1), (40, .aload_n 0, 1), (41, .getfield 69, 3), (44, .getfield 284, 3), (47, .iload_n 1, 1), (48, .isub, 1), (49, .invokevirtual 318, 3), (52, .ireturn, 1)]
theorem dt_JS_seen : DT (cM m_JS_seen) tb_JS_seen := by unfold DT; decide +kernel
abbrev a_JS_seen_0 (G : GT)  (v1 : Int) (σ : St) (P : Int → St → Prop) : Prop := A G m_JS_seen 0 [(0, O 0), (1, I v1)] [] σ P
set_option maxRecDepth 20000 in
theorem k_JS_seen_0 {G : GT} {σ : St} {P : Int → St → Prop}  {v1 : Int}  
    (h : (σ.2.1 0 11 = σ.2.1 0 9 → isL σ.2.2.1 ∧ rng v1 ∧ (0 ≤ v1 → rng ((σ.2.1 σ.2.2.1 5) - (σ.2.1 σ.2.2.1 4))) ∧ (0 ≤ v1 ∧ v1 ≤ ((σ.2.1 σ.2.2.1 5) - (σ.2.1 σ.2.2.1 4)) → CJ G m_JS_mirrored [O 0, I ((σ.2.1 σ.2.2.1 5) - v1)] σ (fun r11 u10 => P r11 u10)) ∧ (¬ (0 ≤ v1 ∧ v1 ≤ ((σ.2.1 σ.2.2.1 5) - (σ.2.1 σ.2.2.1 4))) → P (-1) σ)) ∧ (σ.2.1 0 11 ≠ σ.2.1 0 9 → P (-3) σ)) :
    a_JS_seen_0 G v1 σ P := by
  refine r_aload_n (q := 1) (dc dt_JS_seen 0 rfl) rfl rfl 0 rfl ?_
  refine r_getI (q := 4) (v := σ.2.1 0 11) fl_JS_83 (dc dt_JS_seen 1 rfl) rfl ly0 rfl rfl (fun g1 => ?_)
  refine r_aload_n (q := 5) (dc dt_JS_seen 2 rfl) rfl rfl 0 rfl ?_
  refine r_getI (q := 8) (v := σ.2.1 0 9) fl_JS_76 (dc dt_JS_seen 3 rfl) rfl ly0 rfl rfl (fun g2 => ?_)
  refine r_icmp_eq (q := 11) (t := 14) (dc dt_JS_seen 4 rfl) rfl (by decide) g1 g2 (fun q_ => ?_) (fun q_ => ?_)
  · have h := h.1 q_
    refine r_iload_n (q := 15) (dc dt_JS_seen 7 rfl) rfl rfl 1 rfl ?_
    refine r_iconst (q := 16) (dc dt_JS_seen 8 rfl) rfl rfl ?_
    refine r_aload_n (q := 17) (dc dt_JS_seen 9 rfl) rfl rfl 0 rfl ?_
    refine r_getO (q := 20) (v := σ.2.2.1) fl_JS_69 (dc dt_JS_seen 10 rfl) rfl ly0 rfl ?_
    obtain ⟨o3, h⟩ := h
    refine r_getI (q := 23) (v := σ.2.1 σ.2.2.1 5) fl_JS_284 (dc dt_JS_seen 11 rfl) rfl (lyL_0 o3) rfl rfl (fun g4 => ?_)
    refine r_aload_n (q := 24) (dc dt_JS_seen 12 rfl) rfl rfl 0 rfl ?_
    refine r_getO (q := 27) (v := σ.2.2.1) fl_JS_69 (dc dt_JS_seen 13 rfl) rfl ly0 rfl ?_
    refine r_getI (q := 30) (v := σ.2.1 σ.2.2.1 4) fl_JS_281 (dc dt_JS_seen 14 rfl) rfl (lyL_0 o3) rfl rfl (fun g5 => ?_)
    refine r_isub (q := 31) (dc dt_JS_seen 15 rfl) rfl ?_
    obtain ⟨o6, h⟩ := h
    obtain ⟨o7, h⟩ := h
    refine r_callSi (q := 34) mk_JS_within lm_JS_134 (RMO.of rfl) rfl (dc dt_JS_seen 16 rfl) rfl [I v1, I 0, I ((σ.2.1 σ.2.2.1 5) - (σ.2.1 σ.2.2.1 4))] [] rfl rfl (Nat.le_of_ble_eq_true rfl) (sp_JS_within o6 (⟨by decide, by decide⟩ : rng 0) o7) (fun _ _ g8 z => ?_)
    obtain ⟨z, w⟩ := z
    subst z
    replace w := w.symm
    subst w
    refine r_ifb_ne (q := 37) (t := 39) (dc dt_JS_seen 17 rfl) rfl (by decide) (fun q_ => ?_) (fun q_ => ?_)
    · have h := h.1 q_
      refine r_aload_n (q := 40) (dc dt_JS_seen 20 rfl) rfl rfl 0 rfl ?_
      refine r_aload_n (q := 41) (dc dt_JS_seen 21 rfl) rfl rfl 0 rfl ?_
      refine r_getO (q := 44) (v := σ.2.2.1) fl_JS_69 (dc dt_JS_seen 22 rfl) rfl ly0 rfl ?_
      refine r_getI (q := 47) (v := σ.2.1 σ.2.2.1 5) fl_JS_284 (dc dt_JS_seen 23 rfl) rfl (lyL_0 o3) rfl rfl (fun g9 => ?_)
      refine r_iload_n (q := 48) (dc dt_JS_seen 24 rfl) rfl rfl 1 rfl ?_
      refine r_isub (q := 49) (dc dt_JS_seen 25 rfl) rfl ?_
      refine r_callVi (q := 52) mk_JS_mirrored lm_JS_318 (RMO.of rfl) rfl (dc dt_JS_seen 26 rfl) rfl ly0 [I ((σ.2.1 σ.2.2.1 5) - v1)] [] rfl rfl (Nat.le_of_ble_eq_true rfl) h (fun r11 u10 g12 h => ?_)
      exact r_iret rfl (dc dt_JS_seen 27 rfl) g12 h
    · have h := h.2 q_
      refine r_iconst (q := 38) (dc dt_JS_seen 18 rfl) rfl rfl ?_
      exact r_iret rfl (dc dt_JS_seen 19 rfl) (⟨by decide, by decide⟩ : rng (-1)) h
  · have h := h.2 q_
    refine r_bipush (q := 13) (dc dt_JS_seen 5 rfl) rfl (by decide) ?_
    exact r_iret rfl (dc dt_JS_seen 6 rfl) (⟨by decide, by decide⟩ : rng (-3)) h
def tb_JS_place : List (Nat × Instr × Nat) := [(0, .aload_n 0, 1), (1, .getfield 83, 3), (4, .aload_n 0, 1), (5, .getfield 76, 3), (8, .if_icmp .eq 6, 3), (11, .bipush (-3), 2), (13, .ireturn, 1), (14, .iload_n 1, 1), (15, .aload_n 0, 1), (16, .getfield 69, 3), (19, .getfield 281, 3), (22, .aload_n 0, 1), (23, .getfield 69, 3), (26, .getfield 284, 3), (29, .invokestatic 134, 3), (32, .ifCond .ne 5, 3), (35, .iconst (-1), 1), (36, .ireturn, 1), (37, .aload_n 0, 1), (38, .getfield 69, 3), (41, .getfield 284, 3), (44, .aload_n 0, 1), (45, .iload_n 1, 1), (46, .invokevirtual 318, 3), (49, .isub, 1), (50, .ireturn, 1)]
theorem dt_JS_place : DT (cM m_JS_place) tb_JS_place := by unfold DT; decide +kernel
abbrev a_JS_place_0 (G : GT)  (v1 : Int) (σ : St) (P : Int → St → Prop) : Prop := A G m_JS_place 0 [(0, O 0), (1, I v1)] [] σ P
set_option maxRecDepth 20000 in
theorem k_JS_place_0 {G : GT} {σ : St} {P : Int → St → Prop}  {v1 : Int}  
    (h : (σ.2.1 0 11 = σ.2.1 0 9 → isL σ.2.2.1 ∧ rng v1 ∧ ((σ.2.1 σ.2.2.1 4) ≤ v1 → rng (σ.2.1 σ.2.2.1 5)) ∧ ((σ.2.1 σ.2.2.1 4) ≤ v1 ∧ v1 ≤ (σ.2.1 σ.2.2.1 5) → CJ G m_JS_mirrored [O 0, I v1] σ (fun r11 u10 => rng ((σ.2.1 σ.2.2.1 5) - r11) ∧ P ((σ.2.1 σ.2.2.1 5) - r11) u10)) ∧ (¬ ((σ.2.1 σ.2.2.1 4) ≤ v1 ∧ v1 ≤ (σ.2.1 σ.2.2.1 5)) → P (-1) σ)) ∧ (σ.2.1 0 11 ≠ σ.2.1 0 9 → P (-3) σ)) :
    a_JS_place_0 G v1 σ P := by
  refine r_aload_n (q := 1) (dc dt_JS_place 0 rfl) rfl rfl 0 rfl ?_
  refine r_getI (q := 4) (v := σ.2.1 0 11) fl_JS_83 (dc dt_JS_place 1 rfl) rfl ly0 rfl rfl (fun g1 => ?_)
  refine r_aload_n (q := 5) (dc dt_JS_place 2 rfl) rfl rfl 0 rfl ?_
  refine r_getI (q := 8) (v := σ.2.1 0 9) fl_JS_76 (dc dt_JS_place 3 rfl) rfl ly0 rfl rfl (fun g2 => ?_)
  refine r_icmp_eq (q := 11) (t := 14) (dc dt_JS_place 4 rfl) rfl (by decide) g1 g2 (fun q_ => ?_) (fun q_ => ?_)
  · have h := h.1 q_
    refine r_iload_n (q := 15) (dc dt_JS_place 7 rfl) rfl rfl 1 rfl ?_
    refine r_aload_n (q := 16) (dc dt_JS_place 8 rfl) rfl rfl 0 rfl ?_
    refine r_getO (q := 19) (v := σ.2.2.1) fl_JS_69 (dc dt_JS_place 9 rfl) rfl ly0 rfl ?_
    obtain ⟨o3, h⟩ := h
    refine r_getI (q := 22) (v := σ.2.1 σ.2.2.1 4) fl_JS_281 (dc dt_JS_place 10 rfl) rfl (lyL_0 o3) rfl rfl (fun g4 => ?_)
    refine r_aload_n (q := 23) (dc dt_JS_place 11 rfl) rfl rfl 0 rfl ?_
    refine r_getO (q := 26) (v := σ.2.2.1) fl_JS_69 (dc dt_JS_place 12 rfl) rfl ly0 rfl ?_
    refine r_getI (q := 29) (v := σ.2.1 σ.2.2.1 5) fl_JS_284 (dc dt_JS_place 13 rfl) rfl (lyL_0 o3) rfl rfl (fun g5 => ?_)
    obtain ⟨o6, h⟩ := h
    obtain ⟨o7, h⟩ := h
    refine r_callSi (q := 32) mk_JS_within lm_JS_134 (RMO.of rfl) rfl (dc dt_JS_place 14 rfl) rfl [I v1, I (σ.2.1 σ.2.2.1 4), I (σ.2.1 σ.2.2.1 5)] [] rfl rfl (Nat.le_of_ble_eq_true rfl) (sp_JS_within o6 g4 o7) (fun _ _ g8 z => ?_)
    obtain ⟨z, w⟩ := z
    subst z
    replace w := w.symm
    subst w
    refine r_ifb_ne (q := 35) (t := 37) (dc dt_JS_place 15 rfl) rfl (by decide) (fun q_ => ?_) (fun q_ => ?_)
    · have h := h.1 q_
      refine r_aload_n (q := 38) (dc dt_JS_place 18 rfl) rfl rfl 0 rfl ?_
      refine r_getO (q := 41) (v := σ.2.2.1) fl_JS_69 (dc dt_JS_place 19 rfl) rfl ly0 rfl ?_
      refine r_getI (q := 44) (v := σ.2.1 σ.2.2.1 5) fl_JS_284 (dc dt_JS_place 20 rfl) rfl (lyL_0 o3) rfl rfl (fun g9 => ?_)
      refine r_aload_n (q := 45) (dc dt_JS_place 21 rfl) rfl rfl 0 rfl ?_
      refine r_iload_n (q := 46) (dc dt_JS_place 22 rfl) rfl rfl 1 rfl ?_
      refine r_callVi (q := 49) mk_JS_mirrored lm_JS_318 (RMO.of rfl) rfl (dc dt_JS_place 23 rfl) rfl ly0 [I v1] [I (σ.2.1 σ.2.2.1 5)] rfl rfl (Nat.le_of_ble_eq_true rfl) h (fun r11 u10 g12 h => ?_)
      refine r_isub (q := 50) (dc dt_JS_place 24 rfl) rfl ?_
      obtain ⟨o13, h⟩ := h
      exact r_iret rfl (dc dt_JS_place 25 rfl) o13 h
    · have h := h.2 q_
      refine r_iconst (q := 36) (dc dt_JS_place 16 rfl) rfl rfl ?_
      exact r_iret rfl (dc dt_JS_place 17 rfl) (⟨by decide, by decide⟩ : rng (-1)) h
  · have h := h.2 q_
    refine r_bipush (q := 13) (dc dt_JS_place 5 rfl) rfl (by decide) ?_
    exact r_iret rfl (dc dt_JS_place 6 rfl) (⟨by decide, by decide⟩ : rng (-3)) h
def tb_JS_witness : List (Nat × Instr × Nat) := [(0, .aload_n 0, 1), (1, .getfield 83, 3), (4, .aload_n 0, 1), (5, .getfield 76, 3), (8, .if_icmp .eq 6, 3), (11, .bipush (-3), 2), (13, .ireturn, 1), (14, .iconst 3, 1), (15, .aload_n 0, 1), (16, .getfield 69, 3), (19, .getfield 257, 3), (22, .getfield 261, 3), (25, .imul, 1), (26, .istore_n 2, 1), (27, .iload_n 1, 1), (28, .iconst 0, 1), (29, .iload_n 2, 1), (30, .iconst 1, 1), (31, .iadd, 1), (32, .invokestatic 134, 3), (35, .ifCond .ne 6, 3), (38, .bipush (-6), 2), (40, .ireturn, 1), (41, .iload_n 1, 1), (42, .iload_n 2, 1), (43, .if_icmp .lt 26, 3), (46, .iload_n 1, 1), (47, .iload_n 2, 1), (48, .if_icmp .ne 13, 3), (51, .aload_n 0, 1), (52, .getfield 69, 3), (55, .getfield 254, 3), (58, .goto 10, 3), (61, .aload_n 0, 1), (62, .getfield 69, 3), (65, .getfield 264, 3), (68, .ireturn, 1), (69, .iload_n 1, 1), (70, .iconst 3, 1), (71, .idiv, 1), (72, .istore_n 3, 1), (73, .iload_n 1, 1), (74, .iconst 3, 1), (75, .irem, 1), (76, .lookupswitch 56 #[(0, 28), (1, 46)], 28), (104, .aload_n 0, 1), (105, .getfield 10, 3), (108, .getfield 321, 3), (111, .aload_n 0, 1), (112, .getfield 69, 3), (115, .getfield 287, 3), (118, .iload_n 3, 1), (119, .iaload, 1), (120, .iaload, 1), (121, .ireturn, 1), (122, .aload_n 0, 1), (123, .getfield 69, 3), (126, .getfield 293, 3), (129, .iload_n 3, 1), (130, .iaload, 1), (131, .ireturn, 1), (132, .aload_n 0, 1), (133, .getfield 69, 3), (136, .getfield 296, 3), (139, .iload_n 3, 1), (140, .iaload, 1), (141, .ireturn, 1)]
theorem dt_JS_witness : DT (cM m_JS_witness) tb_JS_witness := by unfold DT; decide +kernel
abbrev a_JS_witness_0 (G : GT)  (v1 : Int) (σ : St) (P : Int → St → Prop) : Prop := A G m_JS_witness 0 [(0, O 0), (1, I v1)] [] σ P
set_option maxRecDepth 20000 in
theorem k_JS_witness_0 {G : GT} {σ : St} {P : Int → St → Prop}  {v1 : Int}  
    (h : (σ.2.1 0 11 = σ.2.1 0 9 → isL σ.2.2.1 ∧ rng v1 ∧ (0 ≤ v1 → rng ((3 * (σ.2.1 (σ.2.2.1 + 1) 0)) + 1)) ∧ (0 ≤ v1 ∧ v1 ≤ ((3 * (σ.2.1 (σ.2.2.1 + 1) 0)) + 1) → rng (3 * (σ.2.1 (σ.2.2.1 + 1) 0)) ∧ (v1 < 3 * (σ.2.1 (σ.2.2.1 + 1) 0) → 0 ≤ v1 ∧ rng (v1 % 3) ∧ (v1 % 3 = 0 → (0 ≤ v1 / 3 ∧ v1 / 3 < 80) ∧ (0 ≤ σ.1 (σ.2.2.1 + 15) ((v1 / 3).toNat) ∧ σ.1 (σ.2.2.1 + 15) ((v1 / 3).toNat) < 60) ∧ P (σ.1 49 ((σ.1 (σ.2.2.1 + 15) ((v1 / 3).toNat)).toNat)) σ) ∧ (v1 % 3 = 1 → (0 ≤ v1 / 3 ∧ v1 / 3 < 80) ∧ P (σ.1 (σ.2.2.1 + 17) ((v1 / 3).toNat)) σ) ∧ ((v1 % 3 ≠ 0 ∧ v1 % 3 ≠ 1) → (0 ≤ v1 / 3 ∧ v1 / 3 < 80) ∧ P (σ.1 (σ.2.2.1 + 18) ((v1 / 3).toNat)) σ)) ∧ (3 * (σ.2.1 (σ.2.2.1 + 1) 0) ≤ v1 → rng (if v1 ≠ 3 * (σ.2.1 (σ.2.2.1 + 1) 0) then σ.2.1 σ.2.2.1 3 else σ.2.1 σ.2.2.1 2) ∧ P (if v1 ≠ 3 * (σ.2.1 (σ.2.2.1 + 1) 0) then σ.2.1 σ.2.2.1 3 else σ.2.1 σ.2.2.1 2) σ)) ∧ (¬ (0 ≤ v1 ∧ v1 ≤ ((3 * (σ.2.1 (σ.2.2.1 + 1) 0)) + 1)) → P (-6) σ)) ∧ (σ.2.1 0 11 ≠ σ.2.1 0 9 → P (-3) σ)) :
    a_JS_witness_0 G v1 σ P := by
  refine r_aload_n (q := 1) (dc dt_JS_witness 0 rfl) rfl rfl 0 rfl ?_
  refine r_getI (q := 4) (v := σ.2.1 0 11) fl_JS_83 (dc dt_JS_witness 1 rfl) rfl ly0 rfl rfl (fun g1 => ?_)
  refine r_aload_n (q := 5) (dc dt_JS_witness 2 rfl) rfl rfl 0 rfl ?_
  refine r_getI (q := 8) (v := σ.2.1 0 9) fl_JS_76 (dc dt_JS_witness 3 rfl) rfl ly0 rfl rfl (fun g2 => ?_)
  refine r_icmp_eq (q := 11) (t := 14) (dc dt_JS_witness 4 rfl) rfl (by decide) g1 g2 (fun q_ => ?_) (fun q_ => ?_)
  · have h := h.1 q_
    refine r_iconst (q := 15) (dc dt_JS_witness 7 rfl) rfl rfl ?_
    refine r_aload_n (q := 16) (dc dt_JS_witness 8 rfl) rfl rfl 0 rfl ?_
    refine r_getO (q := 19) (v := σ.2.2.1) fl_JS_69 (dc dt_JS_witness 9 rfl) rfl ly0 rfl ?_
    obtain ⟨o3, h⟩ := h
    refine r_getO (q := 22) (v := σ.2.2.1 + 1) fl_JS_257 (dc dt_JS_witness 10 rfl) rfl (lyL_0 o3) rfl ?_
    refine r_getI (q := 25) (v := σ.2.1 (σ.2.2.1 + 1) 0) fl_JS_261 (dc dt_JS_witness 11 rfl) rfl (lyL_1 o3) rfl rfl (fun g4 => ?_)
    refine r_imul (q := 26) (dc dt_JS_witness 12 rfl) rfl ?_
    refine r_istore_n (q := 27) (dc dt_JS_witness 13 rfl) rfl rfl (by decide) rfl ?_
    refine r_iload_n (q := 28) (dc dt_JS_witness 14 rfl) rfl rfl 2 rfl ?_
    refine r_iconst (q := 29) (dc dt_JS_witness 15 rfl) rfl rfl ?_
    refine r_iload_n (q := 30) (dc dt_JS_witness 16 rfl) rfl rfl 0 rfl ?_
    refine r_iconst (q := 31) (dc dt_JS_witness 17 rfl) rfl rfl ?_
    refine r_iadd (q := 32) (dc dt_JS_witness 18 rfl) rfl ?_
    obtain ⟨o5, h⟩ := h
    obtain ⟨o6, h⟩ := h
    refine r_callSi (q := 35) mk_JS_within lm_JS_134 (RMO.of rfl) rfl (dc dt_JS_witness 19 rfl) rfl [I v1, I 0, I ((3 * (σ.2.1 (σ.2.2.1 + 1) 0)) + 1)] [] rfl rfl (Nat.le_of_ble_eq_true rfl) (sp_JS_within o5 (⟨by decide, by decide⟩ : rng 0) o6) (fun _ _ g7 z => ?_)
    obtain ⟨z, w⟩ := z
    subst z
    replace w := w.symm
    subst w
    refine r_ifb_ne (q := 38) (t := 41) (dc dt_JS_witness 20 rfl) rfl (by decide) (fun q_ => ?_) (fun q_ => ?_)
    · have h := h.1 q_
      refine r_iload_n (q := 42) (dc dt_JS_witness 23 rfl) rfl rfl 2 rfl ?_
      refine r_iload_n (q := 43) (dc dt_JS_witness 24 rfl) rfl rfl 0 rfl ?_
      obtain ⟨o8, h⟩ := h
      refine r_icmp_lt (q := 46) (t := 69) (dc dt_JS_witness 25 rfl) rfl (by decide) o5 o8 (fun q_ => ?_) (fun q_ => ?_)
      · have h := h.1 q_
        refine r_iload_n (q := 70) (dc dt_JS_witness 37 rfl) rfl rfl 2 rfl ?_
        refine r_iconst (q := 71) (dc dt_JS_witness 38 rfl) rfl rfl ?_
        obtain ⟨o9, h⟩ := h
        refine r_idiv (q := 72) (dc dt_JS_witness 39 rfl) rfl o9 o5 (by decide) (by decide) ?_
        refine r_istore_n (q := 73) (dc dt_JS_witness 40 rfl) rfl rfl (by decide) rfl ?_
        refine r_iload_n (q := 74) (dc dt_JS_witness 41 rfl) rfl rfl 3 rfl ?_
        refine r_iconst (q := 75) (dc dt_JS_witness 42 rfl) rfl rfl ?_
        refine r_irem (q := 76) (dc dt_JS_witness 43 rfl) rfl o9 o5 (by decide) (by decide) ?_
        obtain ⟨o10, h⟩ := h
        by_cases qo : (v1 % 3 ≠ 0 ∧ v1 % 3 ≠ 1)
        · have q_ := qo
          have h := h.2.2 q_
          refine r_lk (t := 132) (off := 56) (dc dt_JS_witness 44 rfl) o10 (by decide) (by simp only [Op.lookupswitch.offset_cons]; first | (rw [if_neg (by omega), if_neg (by omega)]; done) | (rw [if_neg (by omega), if_neg (by omega)]; rfl)) (by decide) ?_
          refine r_aload_n (q := 133) (dc dt_JS_witness 61 rfl) rfl rfl 2 rfl ?_
          refine r_getO (q := 136) (v := σ.2.2.1) fl_JS_69 (dc dt_JS_witness 62 rfl) rfl ly0 rfl ?_
          refine r_getO (q := 139) (v := σ.2.2.1 + 18) fl_JS_296 (dc dt_JS_witness 63 rfl) rfl (lyL_0 o3) rfl ?_
          refine r_iload_n (q := 140) (dc dt_JS_witness 64 rfl) rfl rfl 0 rfl ?_
          obtain ⟨o17, h⟩ := h
          refine r_iald (q := 141) (v := σ.1 (σ.2.2.1 + 18) ((v1 / 3).toNat)) (dc dt_JS_witness 65 rfl) rfl (lyL_18 o3) o17 rfl (fun g18 => ?_)
          exact r_iret rfl (dc dt_JS_witness 66 rfl) g18 h
        · by_cases q_ : v1 % 3 = 0
          · have h := h.1 q_
            refine r_lk (t := 104) (off := 28) (dc dt_JS_witness 44 rfl) o10 (by decide) (by first | (rw [q_]; done) | (rw [q_]; rfl)) (by decide) ?_
            refine r_aload_n (q := 105) (dc dt_JS_witness 45 rfl) rfl rfl 2 rfl ?_
            refine r_getO (q := 108) (v := 1) fl_JS_10 (dc dt_JS_witness 46 rfl) rfl ly0 rfl ?_
            refine r_getO (q := 111) (v := 49) fl_JS_321 (dc dt_JS_witness 47 rfl) rfl ly1 rfl ?_
            refine r_aload_n (q := 112) (dc dt_JS_witness 48 rfl) rfl rfl 2 rfl ?_
            refine r_getO (q := 115) (v := σ.2.2.1) fl_JS_69 (dc dt_JS_witness 49 rfl) rfl ly0 rfl ?_
            refine r_getO (q := 118) (v := σ.2.2.1 + 15) fl_JS_287 (dc dt_JS_witness 50 rfl) rfl (lyL_0 o3) rfl ?_
            refine r_iload_n (q := 119) (dc dt_JS_witness 51 rfl) rfl rfl 0 rfl ?_
            obtain ⟨o11, h⟩ := h
            refine r_iald (q := 120) (v := σ.1 (σ.2.2.1 + 15) ((v1 / 3).toNat)) (dc dt_JS_witness 52 rfl) rfl (lyL_15 o3) o11 rfl (fun g12 => ?_)
            obtain ⟨o13, h⟩ := h
            refine r_iald (q := 121) (v := σ.1 49 ((σ.1 (σ.2.2.1 + 15) ((v1 / 3).toNat)).toNat)) (dc dt_JS_witness 53 rfl) rfl ly49 o13 rfl (fun g14 => ?_)
            exact r_iret rfl (dc dt_JS_witness 54 rfl) g14 h
          · have q_ : v1 % 3 = 1 := by omega
            have h := h.2.1 q_
            refine r_lk (t := 122) (off := 46) (dc dt_JS_witness 44 rfl) o10 (by decide) (by first | (rw [q_]; done) | (rw [q_]; rfl)) (by decide) ?_
            refine r_aload_n (q := 123) (dc dt_JS_witness 55 rfl) rfl rfl 2 rfl ?_
            refine r_getO (q := 126) (v := σ.2.2.1) fl_JS_69 (dc dt_JS_witness 56 rfl) rfl ly0 rfl ?_
            refine r_getO (q := 129) (v := σ.2.2.1 + 17) fl_JS_293 (dc dt_JS_witness 57 rfl) rfl (lyL_0 o3) rfl ?_
            refine r_iload_n (q := 130) (dc dt_JS_witness 58 rfl) rfl rfl 0 rfl ?_
            obtain ⟨o15, h⟩ := h
            refine r_iald (q := 131) (v := σ.1 (σ.2.2.1 + 17) ((v1 / 3).toNat)) (dc dt_JS_witness 59 rfl) rfl (lyL_17 o3) o15 rfl (fun g16 => ?_)
            exact r_iret rfl (dc dt_JS_witness 60 rfl) g16 h
      · have h := h.2 q_
        refine r_iload_n (q := 47) (dc dt_JS_witness 26 rfl) rfl rfl 2 rfl ?_
        refine r_iload_n (q := 48) (dc dt_JS_witness 27 rfl) rfl rfl 0 rfl ?_
        have hJ : ∀ (w_0 : Int), w_0 = (if v1 ≠ 3 * (σ.2.1 (σ.2.2.1 + 1) 0) then σ.2.1 σ.2.2.1 3 else σ.2.1 σ.2.2.1 2) → A G m_JS_witness 68 [(2, I (3 * (σ.2.1 (σ.2.2.1 + 1) 0))), (0, O 0), (1, I v1)] [I w_0] σ P := by
          intro w_0 z_0
          subst z_0
          obtain ⟨o21, h⟩ := h
          exact r_iret rfl (dc dt_JS_witness 36 rfl) o21 h
        clear h
        refine r_icmp_ne (q := 51) (t := 61) (dc dt_JS_witness 28 rfl) rfl (by decide) o5 o8 (fun q_ => ?_) (fun q_ => ?_)
        · have q22 := q_
          refine r_aload_n (q := 62) (dc dt_JS_witness 33 rfl) rfl rfl 1 rfl ?_
          refine r_getO (q := 65) (v := σ.2.2.1) fl_JS_69 (dc dt_JS_witness 34 rfl) rfl ly0 rfl ?_
          refine r_getI (q := 68) (v := σ.2.1 σ.2.2.1 3) fl_JS_264 (dc dt_JS_witness 35 rfl) rfl (lyL_0 o3) rfl rfl (fun g19 => ?_)
          exact (hJ (σ.2.1 σ.2.2.1 3) ((if_pos (by first | omega | grind)).symm))
        · have q22 := q_
          refine r_aload_n (q := 52) (dc dt_JS_witness 29 rfl) rfl rfl 1 rfl ?_
          refine r_getO (q := 55) (v := σ.2.2.1) fl_JS_69 (dc dt_JS_witness 30 rfl) rfl ly0 rfl ?_
          refine r_getI (q := 58) (v := σ.2.1 σ.2.2.1 2) fl_JS_254 (dc dt_JS_witness 31 rfl) rfl (lyL_0 o3) rfl rfl (fun g20 => ?_)
          refine r_goto (q := 68) (dc dt_JS_witness 32 rfl) (by decide) ?_
          exact (hJ (σ.2.1 σ.2.2.1 2) ((if_neg (by first | omega | grind)).symm))
    · have h := h.2 q_
      refine r_bipush (q := 40) (dc dt_JS_witness 21 rfl) rfl (by decide) ?_
      exact r_iret rfl (dc dt_JS_witness 22 rfl) (⟨by decide, by decide⟩ : rng (-6)) h
  · have h := h.2 q_
    refine r_bipush (q := 13) (dc dt_JS_witness 5 rfl) rfl (by decide) ?_
    exact r_iret rfl (dc dt_JS_witness 6 rfl) (⟨by decide, by decide⟩ : rng (-3)) h
def tb_CL_put : List (Nat × Instr × Nat) := [(0, .aload_n 0, 1), (1, .getfield 15, 3), (4, .aload_n 0, 1), (5, .getfield 9, 3), (8, .iload_n 1, 1), (9, .iastore, 1), (10, .aload_n 0, 1), (11, .dup, 1), (12, .getfield 9, 3), (15, .iconst 1, 1), (16, .iadd, 1), (17, .putfield 9, 3), (20, .aload_n 0, 1), (21, .getfield 9, 3), (24, .ireturn, 1)]
theorem dt_CL_put : DT (cM m_CL_put) tb_CL_put := by unfold DT; decide +kernel
abbrev a_CL_put_0 (G : GT)  (v1 : Int) (σ : St) (P : Int → St → Prop) : Prop := A G m_CL_put 0 [(0, O 3), (1, I v1)] [] σ P
set_option maxRecDepth 20000 in
theorem k_CL_put_0 {G : GT} {σ : St} {P : Int → St → Prop}  {v1 : Int}  
    (h : (0 ≤ σ.2.1 3 0 ∧ σ.2.1 3 0 < 260) ∧ rng v1 ∧ (∀ σ4, σ4 = sa σ 60 ((σ.2.1 3 0).toNat) v1 → rng ((σ.2.1 3 0) + 1) ∧ (∀ σ7, σ7 = sf σ4 3 0 ((σ.2.1 3 0) + 1) → P ((σ.2.1 3 0) + 1) σ7))) :
    a_CL_put_0 G v1 σ P := by
  refine r_aload_n (q := 1) (dc dt_CL_put 0 rfl) rfl rfl 0 rfl ?_
  refine r_getO (q := 4) (v := 60) fl_CL_15 (dc dt_CL_put 1 rfl) rfl ly3 rfl ?_
  refine r_aload_n (q := 5) (dc dt_CL_put 2 rfl) rfl rfl 0 rfl ?_
  refine r_getI (q := 8) (v := σ.2.1 3 0) fl_CL_9 (dc dt_CL_put 3 rfl) rfl ly3 rfl rfl (fun g1 => ?_)
  refine r_iload_n (q := 9) (dc dt_CL_put 4 rfl) rfl rfl 1 rfl ?_
  obtain ⟨o2, h⟩ := h
  obtain ⟨o3, h⟩ := h
  refine r_iast (q := 10) (dc dt_CL_put 5 rfl) rfl ly60 o2 o3 (fun σ4 e5 => ?_)
  have h := h σ4 e5
  refine r_aload_n (q := 11) (dc dt_CL_put 6 rfl) rfl rfl 0 rfl ?_
  refine r_dupo (q := 12) (dc dt_CL_put 7 rfl) rfl ?_
  refine r_getI (q := 15) (v := σ.2.1 3 0) fl_CL_9 (dc dt_CL_put 8 rfl) rfl ly3 rfl (by rw [e5]; rfl) (fun g6 => ?_)
  refine r_iconst (q := 16) (dc dt_CL_put 9 rfl) rfl rfl ?_
  refine r_iadd (q := 17) (dc dt_CL_put 10 rfl) rfl ?_
  obtain ⟨o9, h⟩ := h
  refine r_put (q := 20) fl_CL_9 (dc dt_CL_put 11 rfl) rfl ly3 (fun _ => rfl) (Or.inl rfl) pf_3_0 o9 (fun σ7 e8 => ?_)
  have h := h σ7 e8
  refine r_aload_n (q := 21) (dc dt_CL_put 12 rfl) rfl rfl 0 rfl ?_
  refine r_getI (q := 24) (v := (σ.2.1 3 0) + 1) fl_CL_9 (dc dt_CL_put 13 rfl) rfl ly3 rfl (by rw [e8]; first | rfl | exact up2_at) (fun _ => ?_)
  exact r_iret rfl (dc dt_CL_put 14 rfl) o9 h
def tb_JS_claim : List (Nat × Instr × Nat) := [(0, .aload_n 0, 1), (1, .getfield 26, 3), (4, .getfield 324, 3), (7, .sipush 260, 3), (10, .if_icmp .lt 8, 3), (13, .bipush (-4), 2), (15, .goto 11, 3), (18, .aload_n 0, 1), (19, .getfield 26, 3), (22, .iload_n 1, 1), (23, .invokevirtual 325, 3), (26, .ireturn, 1)]
theorem dt_JS_claim : DT (cM m_JS_claim) tb_JS_claim := by unfold DT; decide +kernel
abbrev a_JS_claim_0 (G : GT)  (v1 : Int) (σ : St) (P : Int → St → Prop) : Prop := A G m_JS_claim 0 [(0, O 0), (1, I v1)] [] σ P
set_option maxRecDepth 20000 in
theorem k_JS_claim_0 {G : GT} {σ : St} {P : Int → St → Prop}  {v1 : Int}  
    (h : (σ.2.1 3 0 < 260 → CJ G m_CL_put [O 3, I v1] σ (fun r3 u2 => P r3 u2)) ∧ (260 ≤ σ.2.1 3 0 → P (-4) σ)) :
    a_JS_claim_0 G v1 σ P := by
  refine r_aload_n (q := 1) (dc dt_JS_claim 0 rfl) rfl rfl 0 rfl ?_
  refine r_getO (q := 4) (v := 3) fl_JS_26 (dc dt_JS_claim 1 rfl) rfl ly0 rfl ?_
  refine r_getI (q := 7) (v := σ.2.1 3 0) fl_JS_324 (dc dt_JS_claim 2 rfl) rfl ly3 rfl rfl (fun g1 => ?_)
  refine r_sipush (q := 10) (dc dt_JS_claim 3 rfl) rfl (by decide) ?_
  refine r_icmp_lt (q := 13) (t := 18) (dc dt_JS_claim 4 rfl) rfl (by decide) g1 (⟨by decide, by decide⟩ : rng 260) (fun q_ => ?_) (fun q_ => ?_)
  · have h := h.1 q_
    refine r_aload_n (q := 19) (dc dt_JS_claim 7 rfl) rfl rfl 0 rfl ?_
    refine r_getO (q := 22) (v := 3) fl_JS_26 (dc dt_JS_claim 8 rfl) rfl ly0 rfl ?_
    refine r_iload_n (q := 23) (dc dt_JS_claim 9 rfl) rfl rfl 1 rfl ?_
    refine r_callVi (q := 26) mk_CL_put lm_JS_325 (RMO.of rfl) rfl (dc dt_JS_claim 10 rfl) rfl ly3 [I v1] [] rfl rfl (Nat.le_of_ble_eq_true rfl) h (fun r3 u2 g4 h => ?_)
    exact r_iret rfl (dc dt_JS_claim 11 rfl) g4 h
  · have h := h.2 q_
    refine r_bipush (q := 15) (dc dt_JS_claim 5 rfl) rfl (by decide) ?_
    refine r_goto (q := 26) (dc dt_JS_claim 6 rfl) (by decide) ?_
    exact r_iret rfl (dc dt_JS_claim 11 rfl) (⟨by decide, by decide⟩ : rng (-4)) h
def tb_JS_drop : List (Nat × Instr × Nat) := [(0, .aload_n 0, 1), (1, .getfield 26, 3), (4, .getfield 324, 3), (7, .istore_n 1, 1), (8, .aload_n 0, 1), (9, .getfield 26, 3), (12, .iconst 0, 1), (13, .putfield 324, 3), (16, .iload_n 1, 1), (17, .ireturn, 1)]
theorem dt_JS_drop : DT (cM m_JS_drop) tb_JS_drop := by unfold DT; decide +kernel
abbrev a_JS_drop_0 (G : GT)   (σ : St) (P : Int → St → Prop) : Prop := A G m_JS_drop 0 [(0, O 0)] [] σ P
set_option maxRecDepth 20000 in
theorem k_JS_drop_0 {G : GT} {σ : St} {P : Int → St → Prop}    
    (h : (∀ σ2, σ2 = sf σ 3 0 0 → P (σ.2.1 3 0) σ2)) :
    a_JS_drop_0 G  σ P := by
  refine r_aload_n (q := 1) (dc dt_JS_drop 0 rfl) rfl rfl 0 rfl ?_
  refine r_getO (q := 4) (v := 3) fl_JS_26 (dc dt_JS_drop 1 rfl) rfl ly0 rfl ?_
  refine r_getI (q := 7) (v := σ.2.1 3 0) fl_JS_324 (dc dt_JS_drop 2 rfl) rfl ly3 rfl rfl (fun g1 => ?_)
  refine r_istore_n (q := 8) (dc dt_JS_drop 3 rfl) rfl rfl (by decide) rfl ?_
  refine r_aload_n (q := 9) (dc dt_JS_drop 4 rfl) rfl rfl 1 rfl ?_
  refine r_getO (q := 12) (v := 3) fl_JS_26 (dc dt_JS_drop 5 rfl) rfl ly0 rfl ?_
  refine r_iconst (q := 13) (dc dt_JS_drop 6 rfl) rfl rfl ?_
  refine r_put (q := 16) fl_JS_324 (dc dt_JS_drop 7 rfl) rfl ly3 (fun _ => rfl) (Or.inl rfl) pf_3_0 (⟨by decide, by decide⟩ : rng 0) (fun σ2 e3 => ?_)
  have h := h σ2 e3
  refine r_iload_n (q := 17) (dc dt_JS_drop 8 rfl) rfl rfl 0 rfl ?_
  exact r_iret rfl (dc dt_JS_drop 9 rfl) g1 h
def tb_UN_kindOfLength : List (Nat × Instr × Nat) := [(0, .iconst 0, 1), (1, .istore_n 3, 1), (2, .iload_n 3, 1), (3, .aload_n 0, 1), (4, .getfield 53, 3), (7, .iload_n 1, 1), (8, .iaload, 1), (9, .if_icmp .ge 34, 3), (12, .aload_n 0, 1), (13, .getfield 59, 3), (16, .getfield 109, 3), (19, .aload_n 0, 1), (20, .iload_n 1, 1), (21, .iload_n 3, 1), (22, .invokevirtual 135, 3), (25, .iaload, 1), (26, .iload_n 2, 1), (27, .if_icmp .ne 10, 3), (30, .aload_n 0, 1), (31, .iload_n 1, 1), (32, .iload_n 3, 1), (33, .invokevirtual 135, 3), (36, .ireturn, 1), (37, .iinc 3 1, 3), (40, .goto (-38), 3), (43, .bipush (-6), 2), (45, .ireturn, 1)]
theorem dt_UN_kindOfLength : DT (cM m_UN_kindOfLength) tb_UN_kindOfLength := by unfold DT; decide +kernel
abbrev a_UN_kindOfLength_0 (G : GT)  (v1 : Int) (v2 : Int) (σ : St) (P : Int → St → Prop) : Prop := A G m_UN_kindOfLength 0 [(0, O 4), (1, I v1), (2, I v2)] [] σ P
abbrev a_UN_kindOfLength_2 (G : GT)  (v1 : Int) (v2 : Int) (v3 : Int) (σ : St) (P : Int → St → Prop) : Prop := A G m_UN_kindOfLength 2 [(0, O 4), (1, I v1), (2, I v2), (3, I v3)] [] σ P
set_option maxRecDepth 20000 in
theorem k_UN_kindOfLength_0 {G : GT} {σ : St} {P : Int → St → Prop}  {v1 : Int} {v2 : Int}  
    (h : a_UN_kindOfLength_2 G v1 v2 0 σ P) :
    a_UN_kindOfLength_0 G v1 v2 σ P := by
  refine r_iconst (q := 1) (dc dt_UN_kindOfLength 0 rfl) rfl rfl ?_
  refine r_istore_n (q := 2) (dc dt_UN_kindOfLength 1 rfl) rfl rfl (by decide) rfl ?_
  exact r_loc [1, 2, 3, 0] rfl h
set_option maxRecDepth 20000 in
theorem k_UN_kindOfLength_2 {G : GT} {σ : St} {P : Int → St → Prop}  {v1 : Int} {v2 : Int} {v3 : Int}  
    (h : (0 ≤ v1 ∧ v1 < 80) ∧ rng v3 ∧ (σ.1 72 v1.toNat ≤ v3 → P (-6) σ) ∧ (v3 < σ.1 72 v1.toNat → (0 ≤ (v1 * 3) + v3 ∧ (v1 * 3) + v3 < 240) ∧ (0 ≤ σ.1 73 (((v1 * 3) + v3).toNat) ∧ σ.1 73 (((v1 * 3) + v3).toNat) < 60) ∧ rng v2 ∧ (σ.1 49 ((σ.1 73 (((v1 * 3) + v3).toNat)).toNat) ≠ v2 → a_UN_kindOfLength_2 G v1 v2 (v3 + 1) σ P) ∧ (σ.1 49 ((σ.1 73 (((v1 * 3) + v3).toNat)).toNat) = v2 → P (σ.1 73 (((v1 * 3) + v3).toNat)) σ))) :
    a_UN_kindOfLength_2 G v1 v2 v3 σ P := by
  refine r_iload_n (q := 3) (dc dt_UN_kindOfLength 2 rfl) rfl rfl 3 rfl ?_
  refine r_aload_n (q := 4) (dc dt_UN_kindOfLength 3 rfl) rfl rfl 0 rfl ?_
  refine r_getO (q := 7) (v := 72) fl_UN_53 (dc dt_UN_kindOfLength 4 rfl) rfl ly4 rfl ?_
  refine r_iload_n (q := 8) (dc dt_UN_kindOfLength 5 rfl) rfl rfl 1 rfl ?_
  obtain ⟨o1, h⟩ := h
  refine r_iald (q := 9) (v := σ.1 72 v1.toNat) (dc dt_UN_kindOfLength 6 rfl) rfl ly72 o1 rfl (fun g2 => ?_)
  obtain ⟨o3, h⟩ := h
  refine r_icmp_ge (q := 12) (t := 43) (dc dt_UN_kindOfLength 7 rfl) rfl (by decide) o3 g2 (fun q_ => ?_) (fun q_ => ?_)
  · have h := h.1 q_
    refine r_bipush (q := 45) (dc dt_UN_kindOfLength 25 rfl) rfl (by decide) ?_
    exact r_iret rfl (dc dt_UN_kindOfLength 26 rfl) (⟨by decide, by decide⟩ : rng (-6)) h
  · have h := h.2 q_
    refine r_aload_n (q := 13) (dc dt_UN_kindOfLength 8 rfl) rfl rfl 0 rfl ?_
    refine r_getO (q := 16) (v := 1) fl_UN_59 (dc dt_UN_kindOfLength 9 rfl) rfl ly4 rfl ?_
    refine r_getO (q := 19) (v := 49) fl_UN_109 (dc dt_UN_kindOfLength 10 rfl) rfl ly1 rfl ?_
    refine r_aload_n (q := 20) (dc dt_UN_kindOfLength 11 rfl) rfl rfl 0 rfl ?_
    refine r_iload_n (q := 21) (dc dt_UN_kindOfLength 12 rfl) rfl rfl 1 rfl ?_
    refine r_iload_n (q := 22) (dc dt_UN_kindOfLength 13 rfl) rfl rfl 3 rfl ?_
    obtain ⟨o4, h⟩ := h
    refine r_callVi (q := 25) mk_UN_kind lm_UN_135 (RMO.of rfl) rfl (dc dt_UN_kindOfLength 14 rfl) rfl ly4 [I v1, I v3] [O 49] rfl rfl (Nat.le_of_ble_eq_true rfl) (sp_UN_kind o4) (fun _ _ g5 z => ?_)
    obtain ⟨z, w⟩ := z
    subst z
    replace w := w.symm
    subst w
    obtain ⟨o6, h⟩ := h
    refine r_iald (q := 26) (v := σ.1 49 ((σ.1 73 (((v1 * 3) + v3).toNat)).toNat)) (dc dt_UN_kindOfLength 15 rfl) rfl ly49 o6 rfl (fun g7 => ?_)
    refine r_iload_n (q := 27) (dc dt_UN_kindOfLength 16 rfl) rfl rfl 2 rfl ?_
    obtain ⟨o8, h⟩ := h
    refine r_icmp_ne (q := 30) (t := 37) (dc dt_UN_kindOfLength 17 rfl) rfl (by decide) g7 o8 (fun q_ => ?_) (fun q_ => ?_)
    · have h := h.1 q_
      refine r_iinc (q := 40) (k := 3) (dc dt_UN_kindOfLength 23 rfl) rfl rfl (by decide) rfl ?_
      refine r_goto (q := 2) (dc dt_UN_kindOfLength 24 rfl) (by decide) ?_
      exact r_loc [1, 2, 3, 0] rfl h
    · have h := h.2 q_
      refine r_aload_n (q := 31) (dc dt_UN_kindOfLength 18 rfl) rfl rfl 0 rfl ?_
      refine r_iload_n (q := 32) (dc dt_UN_kindOfLength 19 rfl) rfl rfl 1 rfl ?_
      refine r_iload_n (q := 33) (dc dt_UN_kindOfLength 20 rfl) rfl rfl 3 rfl ?_
      refine r_callVi (q := 36) mk_UN_kind lm_UN_135 (RMO.of rfl) rfl (dc dt_UN_kindOfLength 21 rfl) rfl ly4 [I v1, I v3] [] rfl rfl (Nat.le_of_ble_eq_true rfl) (sp_UN_kind o4) (fun _ _ g9 z => ?_)
      obtain ⟨z, w⟩ := z
      subst z
      replace w := w.symm
      subst w
      exact r_iret rfl (dc dt_UN_kindOfLength 22 rfl) g9 h
def tb_CL_isFormOf : List (Nat × Instr × Nat) := [(0, .aload_n 0, 1), (1, .iload_n 1, 1), (2, .invokevirtual 77, 3), (5, .ifCond .eq 31, 3), (8, .aload_n 0, 1), (9, .getfield 50, 3), (12, .iload_n 1, 1), (13, .aaload, 1), (14, .iconst 0, 1), (15, .iaload, 1), (16, .iload_n 2, 1), (17, .if_icmp .ne 19, 3), (20, .aload_n 0, 1), (21, .getfield 50, 3), (24, .iload_n 1, 1), (25, .aaload, 1), (26, .iconst 1, 1), (27, .iaload, 1), (28, .iload_n 3, 1), (29, .if_icmp .ne 7, 3), (32, .iconst 1, 1), (33, .goto 4, 3), (36, .iconst 0, 1), (37, .ireturn, 1)]
theorem dt_CL_isFormOf : DT (cM m_CL_isFormOf) tb_CL_isFormOf := by unfold DT; decide +kernel
abbrev a_CL_isFormOf_0 (G : GT)  (v1 : Int) (v2 : Int) (v3 : Int) (σ : St) (P : Int → St → Prop) : Prop := A G m_CL_isFormOf 0 [(0, O 1), (1, I v1), (2, I v2), (3, I v3)] [] σ P
set_option maxRecDepth 20000 in
theorem k_CL_isFormOf_0 {G : GT} {σ : St} {P : Int → St → Prop}  {v1 : Int} {v2 : Int} {v3 : Int}  
    (h : rng v1 ∧ (0 ≤ v1 → rng ((σ.2.1 1 2) - 1)) ∧ ((0 ≤ v1 ∧ v1 ≤ ((σ.2.1 1 2) - 1) → (0 ≤ v1 ∧ v1 < 200) ∧ rng v2 ∧ (σ.1 (176 + v1.toNat) 0 = v2 → rng v3))) ∧ P (if (0 ≤ v1 ∧ v1 ≤ ((σ.2.1 1 2) - 1)) ∧ (σ.1 (176 + v1.toNat) 0 = v2 ∧ σ.1 (176 + v1.toNat) 1 = v3) then 1 else 0) σ) :
    a_CL_isFormOf_0 G v1 v2 v3 σ P := by
  refine r_aload_n (q := 1) (dc dt_CL_isFormOf 0 rfl) rfl rfl 0 rfl ?_
  refine r_iload_n (q := 2) (dc dt_CL_isFormOf 1 rfl) rfl rfl 1 rfl ?_
  obtain ⟨o1, h⟩ := h
  obtain ⟨o2, h⟩ := h
  refine r_callVi (q := 5) mk_SC_knowsForm lm_CL_77 (RMO.of rfl) rfl (dc dt_CL_isFormOf 2 rfl) rfl ly1 [I v1] [] rfl rfl (Nat.le_of_ble_eq_true rfl) (sp_SC_knowsForm o1 o2) (fun _ _ g3 z => ?_)
  obtain ⟨z, w⟩ := z
  subst z
  replace w := w.symm
  subst w
  obtain ⟨ho, h⟩ := h
  have hJ : ∀ (w_0 : Int), w_0 = (if (0 ≤ v1 ∧ v1 ≤ ((σ.2.1 1 2) - 1)) ∧ (σ.1 (176 + v1.toNat) 0 = v2 ∧ σ.1 (176 + v1.toNat) 1 = v3) then 1 else 0) → A G m_CL_isFormOf 37 [(0, O 1), (1, I v1), (2, I v2), (3, I v3)] [I w_0] σ P := by
    intro w_0 z_0
    subst z_0
    exact r_zret rfl (dc dt_CL_isFormOf 23 rfl) b01_or h
  clear h
  refine r_ifb_eq (q := 8) (t := 36) (dc dt_CL_isFormOf 3 rfl) rfl (by decide) (fun q_ => ?_) (fun q_ => ?_)
  · have q9 := q_
    refine r_iconst (q := 37) (dc dt_CL_isFormOf 22 rfl) rfl rfl ?_
    exact (hJ 0 ((if_neg (by first | omega | grind)).symm))
  · have q9 := q_
    have ho := ho q_
    refine r_aload_n (q := 9) (dc dt_CL_isFormOf 4 rfl) rfl rfl 0 rfl ?_
    refine r_getO (q := 12) (v := 54) fl_CL_50 (dc dt_CL_isFormOf 5 rfl) rfl ly1 rfl ?_
    refine r_iload_n (q := 13) (dc dt_CL_isFormOf 6 rfl) rfl rfl 1 rfl ?_
    obtain ⟨o4, ho⟩ := ho
    refine r_aald (q := 14) (dc dt_CL_isFormOf 7 rfl) rfl ly54 o4 rfl ?_
    refine r_iconst (q := 15) (dc dt_CL_isFormOf 8 rfl) rfl rfl ?_
    refine r_iald (q := 16) (v := σ.1 (176 + v1.toNat) 0) (dc dt_CL_isFormOf 9 rfl) rfl (lyr_176 o4) ⟨by decide, by decide⟩ rfl (fun g5 => ?_)
    refine r_iload_n (q := 17) (dc dt_CL_isFormOf 10 rfl) rfl rfl 2 rfl ?_
    obtain ⟨o6, ho⟩ := ho
    refine r_icmp_ne (q := 20) (t := 36) (dc dt_CL_isFormOf 11 rfl) rfl (by decide) g5 o6 (fun q_ => ?_) (fun q_ => ?_)
    · have q10 := q_
      refine r_iconst (q := 37) (dc dt_CL_isFormOf 22 rfl) rfl rfl ?_
      exact (hJ 0 ((if_neg (by first | omega | grind)).symm))
    · have q10 := q_
      have ho := ho q_
      refine r_aload_n (q := 21) (dc dt_CL_isFormOf 12 rfl) rfl rfl 0 rfl ?_
      refine r_getO (q := 24) (v := 54) fl_CL_50 (dc dt_CL_isFormOf 13 rfl) rfl ly1 rfl ?_
      refine r_iload_n (q := 25) (dc dt_CL_isFormOf 14 rfl) rfl rfl 1 rfl ?_
      refine r_aald (q := 26) (dc dt_CL_isFormOf 15 rfl) rfl ly54 o4 rfl ?_
      refine r_iconst (q := 27) (dc dt_CL_isFormOf 16 rfl) rfl rfl ?_
      refine r_iald (q := 28) (v := σ.1 (176 + v1.toNat) 1) (dc dt_CL_isFormOf 17 rfl) rfl (lyr_176 o4) ⟨by decide, by decide⟩ rfl (fun g7 => ?_)
      refine r_iload_n (q := 29) (dc dt_CL_isFormOf 18 rfl) rfl rfl 3 rfl ?_
      have o8 := ho
      refine r_icmp_ne (q := 32) (t := 36) (dc dt_CL_isFormOf 19 rfl) rfl (by decide) g7 o8 (fun q_ => ?_) (fun q_ => ?_)
      · have q11 := q_
        refine r_iconst (q := 37) (dc dt_CL_isFormOf 22 rfl) rfl rfl ?_
        exact (hJ 0 ((if_neg (by first | omega | grind)).symm))
      · have q11 := q_
        refine r_iconst (q := 33) (dc dt_CL_isFormOf 20 rfl) rfl rfl ?_
        refine r_goto (q := 37) (dc dt_CL_isFormOf 21 rfl) (by decide) ?_
        exact (hJ 1 ((if_pos (by first | omega | grind)).symm))
set_option maxRecDepth 20000 in
theorem sp0_CL_isFormOf {G : GT} {σ : St} {v1 : Int} {v2 : Int} {v3 : Int}  (j0 : rng v1) (j1 : (0 ≤ v1 → rng ((σ.2.1 1 2) - 1))) (j2 : (0 ≤ v1 ∧ v1 ≤ ((σ.2.1 1 2) - 1) → (0 ≤ v1 ∧ v1 < 200) ∧ rng v2 ∧ (σ.1 (176 + v1.toNat) 0 = v2 → rng v3))) : CJ G m_CL_isFormOf [O 1, I v1, I v2, I v3] σ (fun r u => r = (if (0 ≤ v1 ∧ v1 ≤ ((σ.2.1 1 2) - 1)) ∧ (σ.1 (176 + v1.toNat) 0 = v2 ∧ σ.1 (176 + v1.toNat) 1 = v3) then 1 else 0) ∧ u = σ) := by
  refine CJ.intro (by decide) (by simp [catA]; decide) (fun _ => k_CL_isFormOf_0  ?_)
  refine ⟨by first | assumption | omega | grind, ?_⟩
  refine ⟨by first | assumption | omega | grind, ?_⟩
  refine ⟨by first | assumption | omega | grind, ?_⟩
  exact ⟨rfl, rfl⟩
def p_CL_isFormOf (σ : St) (v1 : Int) (v2 : Int) (v3 : Int) : Prop := rng v1 ∧ (0 ≤ v1 → rng ((σ.2.1 1 2) - 1)) ∧ (0 ≤ v1 ∧ v1 ≤ ((σ.2.1 1 2) - 1) → (0 ≤ v1 ∧ v1 < 200) ∧ rng v2 ∧ (σ.1 (176 + v1.toNat) 0 = v2 → rng v3))
abbrev b_CL_isFormOf (σ : St) (v1 : Int) (v2 : Int) (v3 : Int) : Prop := (0 ≤ v1 ∧ v1 ≤ ((σ.2.1 1 2) - 1)) ∧ (σ.1 (176 + v1.toNat) 0 = v2 ∧ σ.1 (176 + v1.toNat) 1 = v3)
theorem sp_CL_isFormOf {G : GT} {σ : St} {v1 : Int} {v2 : Int} {v3 : Int}  (j : p_CL_isFormOf σ v1 v2 v3) : CJ G m_CL_isFormOf [O 1, I v1, I v2, I v3] σ (fun r u => r = (if b_CL_isFormOf σ v1 v2 v3 then 1 else 0) ∧ u = σ) := sp0_CL_isFormOf  j.1 j.2.1 j.2.2
def tb_CL_isBehindBar : List (Nat × Instr × Nat) := [(0, .aload_n 1, 1), (1, .getfield 81, 3), (4, .getfield 85, 3), (7, .iconst 1, 1), (8, .isub, 1), (9, .istore_n 3, 1), (10, .iload_n 3, 1), (11, .ifCond .lt 44, 3), (14, .aload_n 0, 1), (15, .getfield 88, 3), (18, .aload_n 1, 1), (19, .getfield 91, 3), (22, .iload_n 3, 1), (23, .iaload, 1), (24, .iaload, 1), (25, .aload_n 0, 1), (26, .getfield 88, 3), (29, .iload_n 2, 1), (30, .iaload, 1), (31, .if_icmp .ne 24, 3), (34, .aload_n 0, 1), (35, .getfield 19, 3), (38, .getfield 94, 3), (41, .aload_n 1, 1), (42, .getfield 97, 3), (45, .iload_n 3, 1), (46, .iaload, 1), (47, .baload, 1), (48, .ifCond .eq 7, 3), (51, .iconst 1, 1), (52, .goto 4, 3), (55, .iconst 0, 1), (56, .ireturn, 1)]
theorem dt_CL_isBehindBar : DT (cM m_CL_isBehindBar) tb_CL_isBehindBar := by unfold DT; decide +kernel
abbrev a_CL_isBehindBar_0 (G : GT) (q1 : Nat) (v2 : Int) (σ : St) (P : Int → St → Prop) : Prop := A G m_CL_isBehindBar 0 [(0, O 4), (1, O q1), (2, I v2)] [] σ P
set_option maxRecDepth 20000 in
theorem k_CL_isBehindBar_0 {G : GT} {σ : St} {P : Int → St → Prop} {q1 : Nat} {v2 : Int} (hq1 : isL q1) 
    (h : rng ((σ.2.1 (q1 + 1) 0) - 1) ∧ ((0 ≤ (σ.2.1 (q1 + 1) 0) - 1 → (0 ≤ (σ.2.1 (q1 + 1) 0) - 1 ∧ (σ.2.1 (q1 + 1) 0) - 1 < 80) ∧ (0 ≤ σ.1 (q1 + 16) (((σ.2.1 (q1 + 1) 0) - 1).toNat) ∧ σ.1 (q1 + 16) (((σ.2.1 (q1 + 1) 0) - 1).toNat) < 80) ∧ (0 ≤ v2 ∧ v2 < 80) ∧ (σ.1 64 ((σ.1 (q1 + 16) (((σ.2.1 (q1 + 1) 0) - 1).toNat)).toNat) = σ.1 64 v2.toNat → 0 ≤ σ.1 (q1 + 15) (((σ.2.1 (q1 + 1) 0) - 1).toNat) ∧ σ.1 (q1 + 15) (((σ.2.1 (q1 + 1) 0) - 1).toNat) < 60))) ∧ P (if 0 ≤ (σ.2.1 (q1 + 1) 0) - 1 ∧ (σ.1 64 ((σ.1 (q1 + 16) (((σ.2.1 (q1 + 1) 0) - 1).toNat)).toNat) = σ.1 64 v2.toNat ∧ σ.1 50 ((σ.1 (q1 + 15) (((σ.2.1 (q1 + 1) 0) - 1).toNat)).toNat) ≠ 0) then 1 else 0) σ) :
    a_CL_isBehindBar_0 G q1 v2 σ P := by
  rcases hq1 with rfl | rfl
  ·
    refine r_aload_n (q := 1) (dc dt_CL_isBehindBar 0 rfl) rfl rfl 1 rfl ?_
    refine r_getO (q := 4) (v := 9 + 1) fl_CL_81 (dc dt_CL_isBehindBar 1 rfl) rfl rfl rfl ?_
    refine r_getI (q := 7) (v := σ.2.1 (9 + 1) 0) fl_CL_85 (dc dt_CL_isBehindBar 2 rfl) rfl rfl rfl rfl (fun g1 => ?_)
    refine r_iconst (q := 8) (dc dt_CL_isBehindBar 3 rfl) rfl rfl ?_
    refine r_isub (q := 9) (dc dt_CL_isBehindBar 4 rfl) rfl ?_
    refine r_istore_n (q := 10) (dc dt_CL_isBehindBar 5 rfl) rfl rfl (by decide) rfl ?_
    refine r_iload_n (q := 11) (dc dt_CL_isBehindBar 6 rfl) rfl rfl 0 rfl ?_
    obtain ⟨o2, h⟩ := h
    obtain ⟨ho, h⟩ := h
    have hJ : ∀ (w_0 : Int), w_0 = (if 0 ≤ (σ.2.1 (9 + 1) 0) - 1 ∧ (σ.1 64 ((σ.1 (9 + 16) (((σ.2.1 (9 + 1) 0) - 1).toNat)).toNat) = σ.1 64 v2.toNat ∧ σ.1 50 ((σ.1 (9 + 15) (((σ.2.1 (9 + 1) 0) - 1).toNat)).toNat) ≠ 0) then 1 else 0) → A G m_CL_isBehindBar 56 [(3, I ((σ.2.1 (9 + 1) 0) - 1)), (0, O 4), (1, O 9), (2, I v2)] [I w_0] σ P := by
      intro w_0 z_0
      subst z_0
      exact r_zret rfl (dc dt_CL_isBehindBar 32 rfl) b01_or h
    clear h
    refine r_if_lt (q := 14) (t := 55) (dc dt_CL_isBehindBar 7 rfl) rfl (by decide) o2 (fun q_ => ?_) (fun q_ => ?_)
    · have q12 := q_
      refine r_iconst (q := 56) (dc dt_CL_isBehindBar 31 rfl) rfl rfl ?_
      exact (hJ 0 ((if_neg (by first | omega | grind)).symm))
    · have q12 := q_
      have ho := ho q_
      refine r_aload_n (q := 15) (dc dt_CL_isBehindBar 8 rfl) rfl rfl 1 rfl ?_
      refine r_getO (q := 18) (v := 64) fl_CL_88 (dc dt_CL_isBehindBar 9 rfl) rfl ly4 rfl ?_
      refine r_aload_n (q := 19) (dc dt_CL_isBehindBar 10 rfl) rfl rfl 2 rfl ?_
      refine r_getO (q := 22) (v := 9 + 16) fl_CL_91 (dc dt_CL_isBehindBar 11 rfl) rfl rfl rfl ?_
      refine r_iload_n (q := 23) (dc dt_CL_isBehindBar 12 rfl) rfl rfl 0 rfl ?_
      obtain ⟨o3, ho⟩ := ho
      refine r_iald (q := 24) (v := σ.1 (9 + 16) (((σ.2.1 (9 + 1) 0) - 1).toNat)) (dc dt_CL_isBehindBar 13 rfl) rfl rfl o3 rfl (fun g4 => ?_)
      obtain ⟨o5, ho⟩ := ho
      refine r_iald (q := 25) (v := σ.1 64 ((σ.1 (9 + 16) (((σ.2.1 (9 + 1) 0) - 1).toNat)).toNat)) (dc dt_CL_isBehindBar 14 rfl) rfl ly64 o5 rfl (fun g6 => ?_)
      refine r_aload_n (q := 26) (dc dt_CL_isBehindBar 15 rfl) rfl rfl 1 rfl ?_
      refine r_getO (q := 29) (v := 64) fl_CL_88 (dc dt_CL_isBehindBar 16 rfl) rfl ly4 rfl ?_
      refine r_iload_n (q := 30) (dc dt_CL_isBehindBar 17 rfl) rfl rfl 3 rfl ?_
      obtain ⟨o7, ho⟩ := ho
      refine r_iald (q := 31) (v := σ.1 64 v2.toNat) (dc dt_CL_isBehindBar 18 rfl) rfl ly64 o7 rfl (fun g8 => ?_)
      refine r_icmp_ne (q := 34) (t := 55) (dc dt_CL_isBehindBar 19 rfl) rfl (by decide) g6 g8 (fun q_ => ?_) (fun q_ => ?_)
      · have q13 := q_
        refine r_iconst (q := 56) (dc dt_CL_isBehindBar 31 rfl) rfl rfl ?_
        exact (hJ 0 ((if_neg (by first | omega | grind)).symm))
      · have q13 := q_
        have ho := ho q_
        refine r_aload_n (q := 35) (dc dt_CL_isBehindBar 20 rfl) rfl rfl 1 rfl ?_
        refine r_getO (q := 38) (v := 1) fl_CL_19 (dc dt_CL_isBehindBar 21 rfl) rfl ly4 rfl ?_
        refine r_getO (q := 41) (v := 50) fl_CL_94 (dc dt_CL_isBehindBar 22 rfl) rfl ly1 rfl ?_
        refine r_aload_n (q := 42) (dc dt_CL_isBehindBar 23 rfl) rfl rfl 2 rfl ?_
        refine r_getO (q := 45) (v := 9 + 15) fl_CL_97 (dc dt_CL_isBehindBar 24 rfl) rfl rfl rfl ?_
        refine r_iload_n (q := 46) (dc dt_CL_isBehindBar 25 rfl) rfl rfl 0 rfl ?_
        refine r_iald (q := 47) (v := σ.1 (9 + 15) (((σ.2.1 (9 + 1) 0) - 1).toNat)) (dc dt_CL_isBehindBar 26 rfl) rfl rfl o3 rfl (fun g9 => ?_)
        have o10 := ho
        refine r_zald (q := 48) (v := σ.1 50 ((σ.1 (9 + 15) (((σ.2.1 (9 + 1) 0) - 1).toNat)).toNat)) (dc dt_CL_isBehindBar 27 rfl) rfl ly50 o10 rfl (fun g11 => ?_)
        refine r_if_eq (q := 51) (t := 55) (dc dt_CL_isBehindBar 28 rfl) rfl (by decide) g11 (fun q_ => ?_) (fun q_ => ?_)
        · have q14 := q_
          refine r_iconst (q := 56) (dc dt_CL_isBehindBar 31 rfl) rfl rfl ?_
          exact (hJ 0 ((if_neg (by first | omega | grind)).symm))
        · have q14 := q_
          refine r_iconst (q := 52) (dc dt_CL_isBehindBar 29 rfl) rfl rfl ?_
          refine r_goto (q := 56) (dc dt_CL_isBehindBar 30 rfl) (by decide) ?_
          exact (hJ 1 ((if_pos (by first | omega | grind)).symm))
  ·
    refine r_aload_n (q := 1) (dc dt_CL_isBehindBar 0 rfl) rfl rfl 1 rfl ?_
    refine r_getO (q := 4) (v := 28 + 1) fl_CL_81 (dc dt_CL_isBehindBar 1 rfl) rfl rfl rfl ?_
    refine r_getI (q := 7) (v := σ.2.1 (28 + 1) 0) fl_CL_85 (dc dt_CL_isBehindBar 2 rfl) rfl rfl rfl rfl (fun g1 => ?_)
    refine r_iconst (q := 8) (dc dt_CL_isBehindBar 3 rfl) rfl rfl ?_
    refine r_isub (q := 9) (dc dt_CL_isBehindBar 4 rfl) rfl ?_
    refine r_istore_n (q := 10) (dc dt_CL_isBehindBar 5 rfl) rfl rfl (by decide) rfl ?_
    refine r_iload_n (q := 11) (dc dt_CL_isBehindBar 6 rfl) rfl rfl 0 rfl ?_
    obtain ⟨o2, h⟩ := h
    obtain ⟨ho, h⟩ := h
    have hJ : ∀ (w_0 : Int), w_0 = (if 0 ≤ (σ.2.1 (28 + 1) 0) - 1 ∧ (σ.1 64 ((σ.1 (28 + 16) (((σ.2.1 (28 + 1) 0) - 1).toNat)).toNat) = σ.1 64 v2.toNat ∧ σ.1 50 ((σ.1 (28 + 15) (((σ.2.1 (28 + 1) 0) - 1).toNat)).toNat) ≠ 0) then 1 else 0) → A G m_CL_isBehindBar 56 [(3, I ((σ.2.1 (28 + 1) 0) - 1)), (0, O 4), (1, O 28), (2, I v2)] [I w_0] σ P := by
      intro w_0 z_0
      subst z_0
      exact r_zret rfl (dc dt_CL_isBehindBar 32 rfl) b01_or h
    clear h
    refine r_if_lt (q := 14) (t := 55) (dc dt_CL_isBehindBar 7 rfl) rfl (by decide) o2 (fun q_ => ?_) (fun q_ => ?_)
    · have q12 := q_
      refine r_iconst (q := 56) (dc dt_CL_isBehindBar 31 rfl) rfl rfl ?_
      exact (hJ 0 ((if_neg (by first | omega | grind)).symm))
    · have q12 := q_
      have ho := ho q_
      refine r_aload_n (q := 15) (dc dt_CL_isBehindBar 8 rfl) rfl rfl 1 rfl ?_
      refine r_getO (q := 18) (v := 64) fl_CL_88 (dc dt_CL_isBehindBar 9 rfl) rfl ly4 rfl ?_
      refine r_aload_n (q := 19) (dc dt_CL_isBehindBar 10 rfl) rfl rfl 2 rfl ?_
      refine r_getO (q := 22) (v := 28 + 16) fl_CL_91 (dc dt_CL_isBehindBar 11 rfl) rfl rfl rfl ?_
      refine r_iload_n (q := 23) (dc dt_CL_isBehindBar 12 rfl) rfl rfl 0 rfl ?_
      obtain ⟨o3, ho⟩ := ho
      refine r_iald (q := 24) (v := σ.1 (28 + 16) (((σ.2.1 (28 + 1) 0) - 1).toNat)) (dc dt_CL_isBehindBar 13 rfl) rfl rfl o3 rfl (fun g4 => ?_)
      obtain ⟨o5, ho⟩ := ho
      refine r_iald (q := 25) (v := σ.1 64 ((σ.1 (28 + 16) (((σ.2.1 (28 + 1) 0) - 1).toNat)).toNat)) (dc dt_CL_isBehindBar 14 rfl) rfl ly64 o5 rfl (fun g6 => ?_)
      refine r_aload_n (q := 26) (dc dt_CL_isBehindBar 15 rfl) rfl rfl 1 rfl ?_
      refine r_getO (q := 29) (v := 64) fl_CL_88 (dc dt_CL_isBehindBar 16 rfl) rfl ly4 rfl ?_
      refine r_iload_n (q := 30) (dc dt_CL_isBehindBar 17 rfl) rfl rfl 3 rfl ?_
      obtain ⟨o7, ho⟩ := ho
      refine r_iald (q := 31) (v := σ.1 64 v2.toNat) (dc dt_CL_isBehindBar 18 rfl) rfl ly64 o7 rfl (fun g8 => ?_)
      refine r_icmp_ne (q := 34) (t := 55) (dc dt_CL_isBehindBar 19 rfl) rfl (by decide) g6 g8 (fun q_ => ?_) (fun q_ => ?_)
      · have q13 := q_
        refine r_iconst (q := 56) (dc dt_CL_isBehindBar 31 rfl) rfl rfl ?_
        exact (hJ 0 ((if_neg (by first | omega | grind)).symm))
      · have q13 := q_
        have ho := ho q_
        refine r_aload_n (q := 35) (dc dt_CL_isBehindBar 20 rfl) rfl rfl 1 rfl ?_
        refine r_getO (q := 38) (v := 1) fl_CL_19 (dc dt_CL_isBehindBar 21 rfl) rfl ly4 rfl ?_
        refine r_getO (q := 41) (v := 50) fl_CL_94 (dc dt_CL_isBehindBar 22 rfl) rfl ly1 rfl ?_
        refine r_aload_n (q := 42) (dc dt_CL_isBehindBar 23 rfl) rfl rfl 2 rfl ?_
        refine r_getO (q := 45) (v := 28 + 15) fl_CL_97 (dc dt_CL_isBehindBar 24 rfl) rfl rfl rfl ?_
        refine r_iload_n (q := 46) (dc dt_CL_isBehindBar 25 rfl) rfl rfl 0 rfl ?_
        refine r_iald (q := 47) (v := σ.1 (28 + 15) (((σ.2.1 (28 + 1) 0) - 1).toNat)) (dc dt_CL_isBehindBar 26 rfl) rfl rfl o3 rfl (fun g9 => ?_)
        have o10 := ho
        refine r_zald (q := 48) (v := σ.1 50 ((σ.1 (28 + 15) (((σ.2.1 (28 + 1) 0) - 1).toNat)).toNat)) (dc dt_CL_isBehindBar 27 rfl) rfl ly50 o10 rfl (fun g11 => ?_)
        refine r_if_eq (q := 51) (t := 55) (dc dt_CL_isBehindBar 28 rfl) rfl (by decide) g11 (fun q_ => ?_) (fun q_ => ?_)
        · have q14 := q_
          refine r_iconst (q := 56) (dc dt_CL_isBehindBar 31 rfl) rfl rfl ?_
          exact (hJ 0 ((if_neg (by first | omega | grind)).symm))
        · have q14 := q_
          refine r_iconst (q := 52) (dc dt_CL_isBehindBar 29 rfl) rfl rfl ?_
          refine r_goto (q := 56) (dc dt_CL_isBehindBar 30 rfl) (by decide) ?_
          exact (hJ 1 ((if_pos (by first | omega | grind)).symm))
set_option maxRecDepth 20000 in
theorem sp0_CL_isBehindBar {G : GT} {σ : St} {q1 : Nat} {v2 : Int} (hq1 : isL q1) (j0 : rng ((σ.2.1 (q1 + 1) 0) - 1)) (j1 : (0 ≤ (σ.2.1 (q1 + 1) 0) - 1 → (0 ≤ (σ.2.1 (q1 + 1) 0) - 1 ∧ (σ.2.1 (q1 + 1) 0) - 1 < 80) ∧ (0 ≤ σ.1 (q1 + 16) (((σ.2.1 (q1 + 1) 0) - 1).toNat) ∧ σ.1 (q1 + 16) (((σ.2.1 (q1 + 1) 0) - 1).toNat) < 80) ∧ (0 ≤ v2 ∧ v2 < 80) ∧ (σ.1 64 ((σ.1 (q1 + 16) (((σ.2.1 (q1 + 1) 0) - 1).toNat)).toNat) = σ.1 64 v2.toNat → 0 ≤ σ.1 (q1 + 15) (((σ.2.1 (q1 + 1) 0) - 1).toNat) ∧ σ.1 (q1 + 15) (((σ.2.1 (q1 + 1) 0) - 1).toNat) < 60))) : CJ G m_CL_isBehindBar [O 4, O q1, I v2] σ (fun r u => r = (if 0 ≤ (σ.2.1 (q1 + 1) 0) - 1 ∧ (σ.1 64 ((σ.1 (q1 + 16) (((σ.2.1 (q1 + 1) 0) - 1).toNat)).toNat) = σ.1 64 v2.toNat ∧ σ.1 50 ((σ.1 (q1 + 15) (((σ.2.1 (q1 + 1) 0) - 1).toNat)).toNat) ≠ 0) then 1 else 0) ∧ u = σ) := by
  refine CJ.intro (by decide) (by simp [catA]; decide) (fun _ => k_CL_isBehindBar_0 hq1 ?_)
  refine ⟨by first | assumption | omega | grind, ?_⟩
  refine ⟨by first | assumption | omega | grind, ?_⟩
  exact ⟨rfl, rfl⟩
def p_CL_isBehindBar (σ : St) (q1 : Nat) (v2 : Int) : Prop := rng ((σ.2.1 (q1 + 1) 0) - 1) ∧ (0 ≤ (σ.2.1 (q1 + 1) 0) - 1 → (0 ≤ (σ.2.1 (q1 + 1) 0) - 1 ∧ (σ.2.1 (q1 + 1) 0) - 1 < 80) ∧ (0 ≤ σ.1 (q1 + 16) (((σ.2.1 (q1 + 1) 0) - 1).toNat) ∧ σ.1 (q1 + 16) (((σ.2.1 (q1 + 1) 0) - 1).toNat) < 80) ∧ (0 ≤ v2 ∧ v2 < 80) ∧ (σ.1 64 ((σ.1 (q1 + 16) (((σ.2.1 (q1 + 1) 0) - 1).toNat)).toNat) = σ.1 64 v2.toNat → 0 ≤ σ.1 (q1 + 15) (((σ.2.1 (q1 + 1) 0) - 1).toNat) ∧ σ.1 (q1 + 15) (((σ.2.1 (q1 + 1) 0) - 1).toNat) < 60))
abbrev b_CL_isBehindBar (σ : St) (q1 : Nat) (v2 : Int) : Prop := 0 ≤ (σ.2.1 (q1 + 1) 0) - 1 ∧ (σ.1 64 ((σ.1 (q1 + 16) (((σ.2.1 (q1 + 1) 0) - 1).toNat)).toNat) = σ.1 64 v2.toNat ∧ σ.1 50 ((σ.1 (q1 + 15) (((σ.2.1 (q1 + 1) 0) - 1).toNat)).toNat) ≠ 0)
theorem sp_CL_isBehindBar {G : GT} {σ : St} {q1 : Nat} {v2 : Int} (hq1 : isL q1) (j : p_CL_isBehindBar σ q1 v2) : CJ G m_CL_isBehindBar [O 4, O q1, I v2] σ (fun r u => r = (if b_CL_isBehindBar σ q1 v2 then 1 else 0) ∧ u = σ) := sp0_CL_isBehindBar hq1 j.1 j.2
def tb_CL_closedBy : List (Nat × Instr × Nat) := [(0, .iload_n 1, 1), (1, .aload_n 0, 1), (2, .getfield 9, 3), (5, .if_icmp .ge 16, 3), (8, .aload_n 0, 1), (9, .getfield 15, 3), (12, .iload_n 1, 1), (13, .iaload, 1), (14, .aload_n 2, 1), (15, .getfield 71, 3), (18, .if_icmp .eq 5, 3), (21, .iload_n 1, 1), (22, .ireturn, 1), (23, .iload_n 1, 1), (24, .iconst 1, 1), (25, .iadd, 1), (26, .aload_n 0, 1), (27, .getfield 9, 3), (30, .if_icmp .ge 18, 3), (33, .aload_n 0, 1), (34, .getfield 15, 3), (37, .iload_n 1, 1), (38, .iconst 1, 1), (39, .iadd, 1), (40, .iaload, 1), (41, .aload_n 2, 1), (42, .getfield 74, 3), (45, .if_icmp .eq 7, 3), (48, .iload_n 1, 1), (49, .iconst 1, 1), (50, .iadd, 1), (51, .ireturn, 1), (52, .aload_n 0, 1), (53, .getfield 9, 3), (56, .iload_n 1, 1), (57, .iconst 2, 1), (58, .iadd, 1), (59, .if_icmp .le 9, 3), (62, .iload_n 1, 1), (63, .iconst 2, 1), (64, .iadd, 1), (65, .goto 5, 3), (68, .bipush (-6), 2), (70, .ireturn, 1)]
theorem dt_CL_closedBy : DT (cM m_CL_closedBy) tb_CL_closedBy := by unfold DT; decide +kernel
abbrev a_CL_closedBy_0 (G : GT) (q2 : Nat) (v1 : Int) (σ : St) (P : Int → St → Prop) : Prop := A G m_CL_closedBy 0 [(0, O 3), (1, I v1), (2, O q2)] [] σ P
set_option maxRecDepth 20000 in
theorem k_CL_closedBy_0 {G : GT} {σ : St} {P : Int → St → Prop} {q2 : Nat} {v1 : Int} (hq2 : isL q2) 
    (h : rng v1 ∧ (σ.2.1 3 0 ≤ v1 → P v1 σ) ∧ (v1 < σ.2.1 3 0 → (0 ≤ v1 ∧ v1 < 260) ∧ (σ.1 60 v1.toNat = σ.2.1 q2 2 → rng (v1 + 1) ∧ (σ.2.1 3 0 ≤ v1 + 1 → P (v1 + 1) σ) ∧ (v1 + 1 < σ.2.1 3 0 → (0 ≤ v1 + 1 ∧ v1 + 1 < 260) ∧ (σ.1 60 ((v1 + 1).toNat) = σ.2.1 q2 3 → rng (v1 + 2) ∧ rng (if σ.2.1 3 0 ≤ v1 + 2 then (-6 : Int) else v1 + 2) ∧ P (if σ.2.1 3 0 ≤ v1 + 2 then (-6 : Int) else v1 + 2) σ) ∧ (σ.1 60 ((v1 + 1).toNat) ≠ σ.2.1 q2 3 → P (v1 + 1) σ))) ∧ (σ.1 60 v1.toNat ≠ σ.2.1 q2 2 → P v1 σ))) :
    a_CL_closedBy_0 G q2 v1 σ P := by
  rcases hq2 with rfl | rfl
  ·
    refine r_iload_n (q := 1) (dc dt_CL_closedBy 0 rfl) rfl rfl 1 rfl ?_
    refine r_aload_n (q := 2) (dc dt_CL_closedBy 1 rfl) rfl rfl 0 rfl ?_
    refine r_getI (q := 5) (v := σ.2.1 3 0) fl_CL_9 (dc dt_CL_closedBy 2 rfl) rfl ly3 rfl rfl (fun g1 => ?_)
    obtain ⟨o2, h⟩ := h
    refine r_icmp_ge (q := 8) (t := 21) (dc dt_CL_closedBy 3 rfl) rfl (by decide) o2 g1 (fun q_ => ?_) (fun q_ => ?_)
    · have h := h.1 q_
      refine r_iload_n (q := 22) (dc dt_CL_closedBy 11 rfl) rfl rfl 1 rfl ?_
      exact r_iret rfl (dc dt_CL_closedBy 12 rfl) o2 h
    · have h := h.2 q_
      refine r_aload_n (q := 9) (dc dt_CL_closedBy 4 rfl) rfl rfl 0 rfl ?_
      refine r_getO (q := 12) (v := 60) fl_CL_15 (dc dt_CL_closedBy 5 rfl) rfl ly3 rfl ?_
      refine r_iload_n (q := 13) (dc dt_CL_closedBy 6 rfl) rfl rfl 1 rfl ?_
      obtain ⟨o3, h⟩ := h
      refine r_iald (q := 14) (v := σ.1 60 v1.toNat) (dc dt_CL_closedBy 7 rfl) rfl ly60 o3 rfl (fun g4 => ?_)
      refine r_aload_n (q := 15) (dc dt_CL_closedBy 8 rfl) rfl rfl 2 rfl ?_
      refine r_getI (q := 18) (v := σ.2.1 9 2) fl_CL_71 (dc dt_CL_closedBy 9 rfl) rfl rfl rfl rfl (fun g5 => ?_)
      refine r_icmp_eq (q := 21) (t := 23) (dc dt_CL_closedBy 10 rfl) rfl (by decide) g4 g5 (fun q_ => ?_) (fun q_ => ?_)
      · have h := h.1 q_
        refine r_iload_n (q := 24) (dc dt_CL_closedBy 13 rfl) rfl rfl 1 rfl ?_
        refine r_iconst (q := 25) (dc dt_CL_closedBy 14 rfl) rfl rfl ?_
        refine r_iadd (q := 26) (dc dt_CL_closedBy 15 rfl) rfl ?_
        refine r_aload_n (q := 27) (dc dt_CL_closedBy 16 rfl) rfl rfl 0 rfl ?_
        refine r_getI (q := 30) (v := σ.2.1 3 0) fl_CL_9 (dc dt_CL_closedBy 17 rfl) rfl ly3 rfl rfl (fun g6 => ?_)
        obtain ⟨o7, h⟩ := h
        refine r_icmp_ge (q := 33) (t := 48) (dc dt_CL_closedBy 18 rfl) rfl (by decide) o7 g6 (fun q_ => ?_) (fun q_ => ?_)
        · have h := h.1 q_
          refine r_iload_n (q := 49) (dc dt_CL_closedBy 28 rfl) rfl rfl 1 rfl ?_
          refine r_iconst (q := 50) (dc dt_CL_closedBy 29 rfl) rfl rfl ?_
          refine r_iadd (q := 51) (dc dt_CL_closedBy 30 rfl) rfl ?_
          exact r_iret rfl (dc dt_CL_closedBy 31 rfl) o7 h
        · have h := h.2 q_
          refine r_aload_n (q := 34) (dc dt_CL_closedBy 19 rfl) rfl rfl 0 rfl ?_
          refine r_getO (q := 37) (v := 60) fl_CL_15 (dc dt_CL_closedBy 20 rfl) rfl ly3 rfl ?_
          refine r_iload_n (q := 38) (dc dt_CL_closedBy 21 rfl) rfl rfl 1 rfl ?_
          refine r_iconst (q := 39) (dc dt_CL_closedBy 22 rfl) rfl rfl ?_
          refine r_iadd (q := 40) (dc dt_CL_closedBy 23 rfl) rfl ?_
          obtain ⟨o8, h⟩ := h
          refine r_iald (q := 41) (v := σ.1 60 ((v1 + 1).toNat)) (dc dt_CL_closedBy 24 rfl) rfl ly60 o8 rfl (fun g9 => ?_)
          refine r_aload_n (q := 42) (dc dt_CL_closedBy 25 rfl) rfl rfl 2 rfl ?_
          refine r_getI (q := 45) (v := σ.2.1 9 3) fl_CL_74 (dc dt_CL_closedBy 26 rfl) rfl rfl rfl rfl (fun g10 => ?_)
          refine r_icmp_eq (q := 48) (t := 52) (dc dt_CL_closedBy 27 rfl) rfl (by decide) g9 g10 (fun q_ => ?_) (fun q_ => ?_)
          · have h := h.1 q_
            refine r_aload_n (q := 53) (dc dt_CL_closedBy 32 rfl) rfl rfl 0 rfl ?_
            refine r_getI (q := 56) (v := σ.2.1 3 0) fl_CL_9 (dc dt_CL_closedBy 33 rfl) rfl ly3 rfl rfl (fun g11 => ?_)
            refine r_iload_n (q := 57) (dc dt_CL_closedBy 34 rfl) rfl rfl 1 rfl ?_
            refine r_iconst (q := 58) (dc dt_CL_closedBy 35 rfl) rfl rfl ?_
            refine r_iadd (q := 59) (dc dt_CL_closedBy 36 rfl) rfl ?_
            obtain ⟨o12, h⟩ := h
            have hJ : ∀ (w_0 : Int), w_0 = (if σ.2.1 3 0 ≤ v1 + 2 then (-6 : Int) else v1 + 2) → A G m_CL_closedBy 70 [(0, O 3), (1, I v1), (2, O 9)] [I w_0] σ P := by
              intro w_0 z_0
              subst z_0
              obtain ⟨o13, h⟩ := h
              exact r_iret rfl (dc dt_CL_closedBy 43 rfl) o13 h
            clear h
            refine r_icmp_le (q := 62) (t := 68) (dc dt_CL_closedBy 37 rfl) rfl (by decide) g11 o12 (fun q_ => ?_) (fun q_ => ?_)
            · have q14 := q_
              refine r_bipush (q := 70) (dc dt_CL_closedBy 42 rfl) rfl (by decide) ?_
              exact (hJ (-6) ((if_pos (by first | omega | grind)).symm))
            · have q14 := q_
              refine r_iload_n (q := 63) (dc dt_CL_closedBy 38 rfl) rfl rfl 1 rfl ?_
              refine r_iconst (q := 64) (dc dt_CL_closedBy 39 rfl) rfl rfl ?_
              refine r_iadd (q := 65) (dc dt_CL_closedBy 40 rfl) rfl ?_
              refine r_goto (q := 70) (dc dt_CL_closedBy 41 rfl) (by decide) ?_
              exact (hJ (v1 + 2) ((if_neg (by first | omega | grind)).symm))
          · have h := h.2 q_
            refine r_iload_n (q := 49) (dc dt_CL_closedBy 28 rfl) rfl rfl 1 rfl ?_
            refine r_iconst (q := 50) (dc dt_CL_closedBy 29 rfl) rfl rfl ?_
            refine r_iadd (q := 51) (dc dt_CL_closedBy 30 rfl) rfl ?_
            exact r_iret rfl (dc dt_CL_closedBy 31 rfl) o7 h
      · have h := h.2 q_
        refine r_iload_n (q := 22) (dc dt_CL_closedBy 11 rfl) rfl rfl 1 rfl ?_
        exact r_iret rfl (dc dt_CL_closedBy 12 rfl) o2 h
  ·
    refine r_iload_n (q := 1) (dc dt_CL_closedBy 0 rfl) rfl rfl 1 rfl ?_
    refine r_aload_n (q := 2) (dc dt_CL_closedBy 1 rfl) rfl rfl 0 rfl ?_
    refine r_getI (q := 5) (v := σ.2.1 3 0) fl_CL_9 (dc dt_CL_closedBy 2 rfl) rfl ly3 rfl rfl (fun g1 => ?_)
    obtain ⟨o2, h⟩ := h
    refine r_icmp_ge (q := 8) (t := 21) (dc dt_CL_closedBy 3 rfl) rfl (by decide) o2 g1 (fun q_ => ?_) (fun q_ => ?_)
    · have h := h.1 q_
      refine r_iload_n (q := 22) (dc dt_CL_closedBy 11 rfl) rfl rfl 1 rfl ?_
      exact r_iret rfl (dc dt_CL_closedBy 12 rfl) o2 h
    · have h := h.2 q_
      refine r_aload_n (q := 9) (dc dt_CL_closedBy 4 rfl) rfl rfl 0 rfl ?_
      refine r_getO (q := 12) (v := 60) fl_CL_15 (dc dt_CL_closedBy 5 rfl) rfl ly3 rfl ?_
      refine r_iload_n (q := 13) (dc dt_CL_closedBy 6 rfl) rfl rfl 1 rfl ?_
      obtain ⟨o3, h⟩ := h
      refine r_iald (q := 14) (v := σ.1 60 v1.toNat) (dc dt_CL_closedBy 7 rfl) rfl ly60 o3 rfl (fun g4 => ?_)
      refine r_aload_n (q := 15) (dc dt_CL_closedBy 8 rfl) rfl rfl 2 rfl ?_
      refine r_getI (q := 18) (v := σ.2.1 28 2) fl_CL_71 (dc dt_CL_closedBy 9 rfl) rfl rfl rfl rfl (fun g5 => ?_)
      refine r_icmp_eq (q := 21) (t := 23) (dc dt_CL_closedBy 10 rfl) rfl (by decide) g4 g5 (fun q_ => ?_) (fun q_ => ?_)
      · have h := h.1 q_
        refine r_iload_n (q := 24) (dc dt_CL_closedBy 13 rfl) rfl rfl 1 rfl ?_
        refine r_iconst (q := 25) (dc dt_CL_closedBy 14 rfl) rfl rfl ?_
        refine r_iadd (q := 26) (dc dt_CL_closedBy 15 rfl) rfl ?_
        refine r_aload_n (q := 27) (dc dt_CL_closedBy 16 rfl) rfl rfl 0 rfl ?_
        refine r_getI (q := 30) (v := σ.2.1 3 0) fl_CL_9 (dc dt_CL_closedBy 17 rfl) rfl ly3 rfl rfl (fun g6 => ?_)
        obtain ⟨o7, h⟩ := h
        refine r_icmp_ge (q := 33) (t := 48) (dc dt_CL_closedBy 18 rfl) rfl (by decide) o7 g6 (fun q_ => ?_) (fun q_ => ?_)
        · have h := h.1 q_
          refine r_iload_n (q := 49) (dc dt_CL_closedBy 28 rfl) rfl rfl 1 rfl ?_
          refine r_iconst (q := 50) (dc dt_CL_closedBy 29 rfl) rfl rfl ?_
          refine r_iadd (q := 51) (dc dt_CL_closedBy 30 rfl) rfl ?_
          exact r_iret rfl (dc dt_CL_closedBy 31 rfl) o7 h
        · have h := h.2 q_
          refine r_aload_n (q := 34) (dc dt_CL_closedBy 19 rfl) rfl rfl 0 rfl ?_
          refine r_getO (q := 37) (v := 60) fl_CL_15 (dc dt_CL_closedBy 20 rfl) rfl ly3 rfl ?_
          refine r_iload_n (q := 38) (dc dt_CL_closedBy 21 rfl) rfl rfl 1 rfl ?_
          refine r_iconst (q := 39) (dc dt_CL_closedBy 22 rfl) rfl rfl ?_
          refine r_iadd (q := 40) (dc dt_CL_closedBy 23 rfl) rfl ?_
          obtain ⟨o8, h⟩ := h
          refine r_iald (q := 41) (v := σ.1 60 ((v1 + 1).toNat)) (dc dt_CL_closedBy 24 rfl) rfl ly60 o8 rfl (fun g9 => ?_)
          refine r_aload_n (q := 42) (dc dt_CL_closedBy 25 rfl) rfl rfl 2 rfl ?_
          refine r_getI (q := 45) (v := σ.2.1 28 3) fl_CL_74 (dc dt_CL_closedBy 26 rfl) rfl rfl rfl rfl (fun g10 => ?_)
          refine r_icmp_eq (q := 48) (t := 52) (dc dt_CL_closedBy 27 rfl) rfl (by decide) g9 g10 (fun q_ => ?_) (fun q_ => ?_)
          · have h := h.1 q_
            refine r_aload_n (q := 53) (dc dt_CL_closedBy 32 rfl) rfl rfl 0 rfl ?_
            refine r_getI (q := 56) (v := σ.2.1 3 0) fl_CL_9 (dc dt_CL_closedBy 33 rfl) rfl ly3 rfl rfl (fun g11 => ?_)
            refine r_iload_n (q := 57) (dc dt_CL_closedBy 34 rfl) rfl rfl 1 rfl ?_
            refine r_iconst (q := 58) (dc dt_CL_closedBy 35 rfl) rfl rfl ?_
            refine r_iadd (q := 59) (dc dt_CL_closedBy 36 rfl) rfl ?_
            obtain ⟨o12, h⟩ := h
            have hJ : ∀ (w_0 : Int), w_0 = (if σ.2.1 3 0 ≤ v1 + 2 then (-6 : Int) else v1 + 2) → A G m_CL_closedBy 70 [(0, O 3), (1, I v1), (2, O 28)] [I w_0] σ P := by
              intro w_0 z_0
              subst z_0
              obtain ⟨o13, h⟩ := h
              exact r_iret rfl (dc dt_CL_closedBy 43 rfl) o13 h
            clear h
            refine r_icmp_le (q := 62) (t := 68) (dc dt_CL_closedBy 37 rfl) rfl (by decide) g11 o12 (fun q_ => ?_) (fun q_ => ?_)
            · have q14 := q_
              refine r_bipush (q := 70) (dc dt_CL_closedBy 42 rfl) rfl (by decide) ?_
              exact (hJ (-6) ((if_pos (by first | omega | grind)).symm))
            · have q14 := q_
              refine r_iload_n (q := 63) (dc dt_CL_closedBy 38 rfl) rfl rfl 1 rfl ?_
              refine r_iconst (q := 64) (dc dt_CL_closedBy 39 rfl) rfl rfl ?_
              refine r_iadd (q := 65) (dc dt_CL_closedBy 40 rfl) rfl ?_
              refine r_goto (q := 70) (dc dt_CL_closedBy 41 rfl) (by decide) ?_
              exact (hJ (v1 + 2) ((if_neg (by first | omega | grind)).symm))
          · have h := h.2 q_
            refine r_iload_n (q := 49) (dc dt_CL_closedBy 28 rfl) rfl rfl 1 rfl ?_
            refine r_iconst (q := 50) (dc dt_CL_closedBy 29 rfl) rfl rfl ?_
            refine r_iadd (q := 51) (dc dt_CL_closedBy 30 rfl) rfl ?_
            exact r_iret rfl (dc dt_CL_closedBy 31 rfl) o7 h
      · have h := h.2 q_
        refine r_iload_n (q := 22) (dc dt_CL_closedBy 11 rfl) rfl rfl 1 rfl ?_
        exact r_iret rfl (dc dt_CL_closedBy 12 rfl) o2 h
set_option maxRecDepth 20000 in
theorem sp0_CL_closedBy {G : GT} {σ : St} {q2 : Nat} {v1 : Int} (hq2 : isL q2) (j0 : rng v1) (j1 : (v1 < σ.2.1 3 0 → (0 ≤ v1 ∧ v1 < 260) ∧ (σ.1 60 v1.toNat = σ.2.1 q2 2 → rng (v1 + 1) ∧ (v1 + 1 < σ.2.1 3 0 → (0 ≤ v1 + 1 ∧ v1 + 1 < 260) ∧ (σ.1 60 ((v1 + 1).toNat) = σ.2.1 q2 3 → rng (v1 + 2) ∧ rng (if σ.2.1 3 0 ≤ v1 + 2 then (-6 : Int) else v1 + 2)))))) : CJ G m_CL_closedBy [O 3, I v1, O q2] σ (fun r u => r = (if σ.2.1 3 0 ≤ v1 then v1 else if σ.1 60 v1.toNat = σ.2.1 q2 2 then (if σ.2.1 3 0 ≤ v1 + 1 then v1 + 1 else if σ.1 60 ((v1 + 1).toNat) = σ.2.1 q2 3 then (if σ.2.1 3 0 ≤ v1 + 2 then (-6 : Int) else v1 + 2) else v1 + 1) else v1) ∧ u = σ) := by
  refine CJ.intro (by decide) (by simp [catA]; decide) (fun _ => k_CL_closedBy_0 hq2 ?_)
  refine ⟨by first | assumption | omega | grind, ?_⟩
  refine ⟨fun q_ => ?_, fun q_ => ?_⟩
  ·
    exact ⟨by first | rfl | grind, rfl⟩
  ·
    refine ⟨by first | assumption | omega | grind, ?_⟩
    refine ⟨fun q_ => ?_, fun q_ => ?_⟩
    ·
      refine ⟨by first | assumption | omega | grind, ?_⟩
      refine ⟨fun q_ => ?_, fun q_ => ?_⟩
      ·
        exact ⟨by first | rfl | grind, rfl⟩
      ·
        refine ⟨by first | assumption | omega | grind, ?_⟩
        refine ⟨fun q_ => ?_, fun q_ => ?_⟩
        ·
          refine ⟨by first | assumption | omega | grind, ?_⟩
          refine ⟨by first | assumption | omega | grind, ?_⟩
          exact ⟨by first | rfl | grind, rfl⟩
        ·
          exact ⟨by first | rfl | grind, rfl⟩
    ·
      exact ⟨by first | rfl | grind, rfl⟩
def p_CL_closedBy (σ : St) (q2 : Nat) (v1 : Int) : Prop := rng v1 ∧ (v1 < σ.2.1 3 0 → (0 ≤ v1 ∧ v1 < 260) ∧ (σ.1 60 v1.toNat = σ.2.1 q2 2 → rng (v1 + 1) ∧ (v1 + 1 < σ.2.1 3 0 → (0 ≤ v1 + 1 ∧ v1 + 1 < 260) ∧ (σ.1 60 ((v1 + 1).toNat) = σ.2.1 q2 3 → rng (v1 + 2) ∧ rng (if σ.2.1 3 0 ≤ v1 + 2 then (-6 : Int) else v1 + 2)))))
def f_CL_closedBy (σ : St) (q2 : Nat) (v1 : Int) : Int := if σ.2.1 3 0 ≤ v1 then v1 else if σ.1 60 v1.toNat = σ.2.1 q2 2 then (if σ.2.1 3 0 ≤ v1 + 1 then v1 + 1 else if σ.1 60 ((v1 + 1).toNat) = σ.2.1 q2 3 then (if σ.2.1 3 0 ≤ v1 + 2 then (-6 : Int) else v1 + 2) else v1 + 1) else v1
theorem sp_CL_closedBy {G : GT} {σ : St} {q2 : Nat} {v1 : Int} (hq2 : isL q2) (j : p_CL_closedBy σ q2 v1) : CJ G m_CL_closedBy [O 3, I v1, O q2] σ (fun r u => r = (f_CL_closedBy σ q2 v1) ∧ u = σ) := sp0_CL_closedBy hq2 j.1 j.2
def tb_CL_setBy : List (Nat × Instr × Nat) := [(0, .aload_n 3, 1), (1, .getfield 19, 3), (4, .astore 5, 2), (6, .aload 4, 2), (8, .iload_n 1, 1), (9, .iload_n 2, 1), (10, .invokevirtual 25, 3), (13, .iconst 1, 1), (14, .istore 6, 2), (16, .iconst 0, 1), (17, .istore 7, 2), (19, .iload_n 1, 1), (20, .istore 8, 2), (22, .iconst 0, 1), (23, .istore 9, 2), (25, .iload 9, 2), (27, .bipush 80, 2), (29, .if_icmp .ge 277, 3), (32, .iload 8, 2), (34, .iload_n 2, 1), (35, .if_icmp .gt 271, 3), (38, .iload 7, 2), (40, .aload_n 0, 1), (41, .getfield 9, 3), (44, .if_icmp .ge 19, 3), (47, .aload_n 3, 1), (48, .iload 8, 2), (50, .aload_n 0, 1), (51, .getfield 15, 3), (54, .iload 7, 2), (56, .iaload, 1), (57, .invokevirtual 31, 3), (60, .goto 5, 3), (63, .bipush (-6), 2), (65, .istore 10, 2), (67, .iload 10, 2), (69, .bipush (-6), 2), (71, .if_icmp .ne 6, 3), (74, .iload 7, 2), (76, .ireturn, 1), (77, .iload 7, 2), (79, .iconst 1, 1), (80, .iadd, 1), (81, .aload_n 0, 1), (82, .getfield 9, 3), (85, .if_icmp .ge 30, 3), (88, .aload 5, 2), (90, .aload_n 0, 1), (91, .getfield 15, 3), (94, .iload 7, 2), (96, .iconst 1, 1), (97, .iadd, 1), (98, .iaload, 1), (99, .iload 10, 2), (101, .aload_n 3, 1), (102, .iload 8, 2), (104, .iload 10, 2), (106, .invokevirtual 35, 3), (109, .invokestatic 38, 3), (112, .ifCond .ne 8, 3), (115, .iload 7, 2), (117, .iconst 1, 1), (118, .iadd, 1), (119, .ireturn, 1), (120, .aload_n 3, 1), (121, .getfield 42, 3), (124, .iload 8, 2), (126, .baload, 1), (127, .ifCond .ne 7, 3), (130, .iconst 1, 1), (131, .goto 4, 3), (134, .iconst 0, 1), (135, .istore 11, 2), (137, .iload 11, 2), (139, .ifCond .eq 23, 3), (142, .iload 6, 2), (144, .ifCond .eq 14, 3), (147, .aload_n 3, 1), (148, .aload 4, 2), (150, .iload 8, 2), (152, .invokestatic 46, 3), (155, .ifCond .eq 7, 3), (158, .iconst 1, 1), (159, .goto 4, 3), (162, .iconst 0, 1), (163, .istore 12, 2), (165, .iload 12, 2), (167, .ifCond .eq 7, 3), (170, .iconst 0, 1), (171, .goto 21, 3), (174, .aload 5, 2), (176, .getfield 50, 3), (179, .aload_n 0, 1), (180, .getfield 15, 3), (183, .iload 7, 2), (185, .iconst 1, 1), (186, .iadd, 1), (187, .iaload, 1), (188, .aaload, 1), (189, .bipush 7, 2), (191, .iaload, 1), (192, .istore 13, 2), (194, .iload 7, 2), (196, .iconst 2, 1), (197, .iadd, 1), (198, .aload_n 0, 1), (199, .getfield 9, 3), (202, .if_icmp .ge 21, 3), (205, .aload_n 0, 1), (206, .getfield 15, 3), (209, .iload 7, 2), (211, .iconst 2, 1), (212, .iadd, 1), (213, .iaload, 1), (214, .iconst 0, 1), (215, .iload 13, 2), (217, .invokestatic 56, 3), (220, .ifCond .ne 8, 3), (223, .iload 7, 2), (225, .iconst 2, 1), (226, .iadd, 1), (227, .ireturn, 1), (228, .aload 4, 2), (230, .iload 10, 2), (232, .iload 8, 2), (234, .aload_n 0, 1), (235, .getfield 15, 3), (238, .iload 7, 2), (240, .iconst 1, 1), (241, .iadd, 1), (242, .iaload, 1), (243, .aload_n 0, 1), (244, .getfield 15, 3), (247, .iload 7, 2), (249, .iconst 2, 1), (250, .iadd, 1), (251, .iaload, 1), (252, .invokevirtual 60, 3), (255, .iload 11, 2), (257, .ifCond .eq 20, 3), (260, .iload 6, 2), (262, .ifCond .eq 19, 3), (265, .aload_n 0, 1), (266, .getfield 15, 3), (269, .iload 7, 2), (271, .iconst 2, 1), (272, .iadd, 1), (273, .iaload, 1), (274, .ifCond .ne 7, 3), (277, .iconst 1, 1), (278, .goto 4, 3), (281, .iconst 0, 1), (282, .istore 6, 2), (284, .iload 8, 2), (286, .aload 5, 2), (288, .getfield 64, 3), (291, .iload 10, 2), (293, .iaload, 1), (294, .iadd, 1), (295, .istore 8, 2), (297, .iinc 7 3, 3), (300, .iinc 9 1, 3), (303, .goto (-278), 3), (306, .aload_n 0, 1), (307, .iload 7, 2), (309, .aload 4, 2), (311, .invokevirtual 67, 3), (314, .ireturn, 1)]
theorem dt_CL_setBy : DT (cM m_CL_setBy) tb_CL_setBy := by unfold DT; decide +kernel
abbrev a_CL_setBy_0 (G : GT) (q4 : Nat) (v1 : Int) (v2 : Int) (σ : St) (P : Int → St → Prop) : Prop := A G m_CL_setBy 0 [(0, O 3), (1, I v1), (2, I v2), (3, O 4), (4, O q4)] [] σ P
abbrev a_CL_setBy_25 (G : GT) (q4 : Nat) (v2 : Int) (v6 : Int) (v7 : Int) (v8 : Int) (v9 : Int) (σ : St) (P : Int → St → Prop) : Prop := A G m_CL_setBy 25 [(0, O 3), (2, I v2), (3, O 4), (4, O q4), (5, O 1), (6, I v6), (7, I v7), (8, I v8), (9, I v9)] [] σ P
set_option maxRecDepth 20000 in
theorem k_CL_setBy_0 {G : GT} {σ : St} {P : Int → St → Prop} {q4 : Nat} {v1 : Int} {v2 : Int} (hq4 : isL q4) 
    (h : CJ G m_LN_begin [O q4, I v1, I v2] σ (fun _ u1 => a_CL_setBy_25 G q4 v2 1 0 v1 0 u1 P)) :
    a_CL_setBy_0 G q4 v1 v2 σ P := by
  rcases hq4 with rfl | rfl
  ·
    refine r_aload_n (q := 1) (dc dt_CL_setBy 0 rfl) rfl rfl 3 rfl ?_
    refine r_getO (q := 4) (v := 1) fl_CL_19 (dc dt_CL_setBy 1 rfl) rfl ly4 rfl ?_
    refine r_astore (q := 6) (dc dt_CL_setBy 2 rfl) rfl (by decide) rfl ?_
    refine r_aload (q := 8) (dc dt_CL_setBy 3 rfl) rfl 5 rfl ?_
    refine r_iload_n (q := 9) (dc dt_CL_setBy 4 rfl) rfl rfl 2 rfl ?_
    refine r_iload_n (q := 10) (dc dt_CL_setBy 5 rfl) rfl rfl 3 rfl ?_
    refine r_callVv (q := 13) mk_LN_begin lm_CL_25 (RMO.of rfl) rfl (dc dt_CL_setBy 6 rfl) rfl rfl [I v1, I v2] [] rfl rfl (Nat.le_of_ble_eq_true rfl) h (fun u1 h => ?_)
    refine r_iconst (q := 14) (dc dt_CL_setBy 7 rfl) rfl rfl ?_
    refine r_istore (q := 16) (dc dt_CL_setBy 8 rfl) rfl (by decide) rfl ?_
    refine r_iconst (q := 17) (dc dt_CL_setBy 9 rfl) rfl rfl ?_
    refine r_istore (q := 19) (dc dt_CL_setBy 10 rfl) rfl (by decide) rfl ?_
    refine r_iload_n (q := 20) (dc dt_CL_setBy 11 rfl) rfl rfl 4 rfl ?_
    refine r_istore (q := 22) (dc dt_CL_setBy 12 rfl) rfl (by decide) rfl ?_
    refine r_iconst (q := 23) (dc dt_CL_setBy 13 rfl) rfl rfl ?_
    refine r_istore (q := 25) (dc dt_CL_setBy 14 rfl) rfl (by decide) rfl ?_
    exact r_loc [5, 7, 8, 9, 4, 3, 2, 1, 0] rfl h
  ·
    refine r_aload_n (q := 1) (dc dt_CL_setBy 0 rfl) rfl rfl 3 rfl ?_
    refine r_getO (q := 4) (v := 1) fl_CL_19 (dc dt_CL_setBy 1 rfl) rfl ly4 rfl ?_
    refine r_astore (q := 6) (dc dt_CL_setBy 2 rfl) rfl (by decide) rfl ?_
    refine r_aload (q := 8) (dc dt_CL_setBy 3 rfl) rfl 5 rfl ?_
    refine r_iload_n (q := 9) (dc dt_CL_setBy 4 rfl) rfl rfl 2 rfl ?_
    refine r_iload_n (q := 10) (dc dt_CL_setBy 5 rfl) rfl rfl 3 rfl ?_
    refine r_callVv (q := 13) mk_LN_begin lm_CL_25 (RMO.of rfl) rfl (dc dt_CL_setBy 6 rfl) rfl rfl [I v1, I v2] [] rfl rfl (Nat.le_of_ble_eq_true rfl) h (fun u1 h => ?_)
    refine r_iconst (q := 14) (dc dt_CL_setBy 7 rfl) rfl rfl ?_
    refine r_istore (q := 16) (dc dt_CL_setBy 8 rfl) rfl (by decide) rfl ?_
    refine r_iconst (q := 17) (dc dt_CL_setBy 9 rfl) rfl rfl ?_
    refine r_istore (q := 19) (dc dt_CL_setBy 10 rfl) rfl (by decide) rfl ?_
    refine r_iload_n (q := 20) (dc dt_CL_setBy 11 rfl) rfl rfl 4 rfl ?_
    refine r_istore (q := 22) (dc dt_CL_setBy 12 rfl) rfl (by decide) rfl ?_
    refine r_iconst (q := 23) (dc dt_CL_setBy 13 rfl) rfl rfl ?_
    refine r_istore (q := 25) (dc dt_CL_setBy 14 rfl) rfl (by decide) rfl ?_
    exact r_loc [5, 7, 8, 9, 4, 3, 2, 1, 0] rfl h
set_option maxRecDepth 20000 in
theorem k_CL_setBy_25 {G : GT} {σ : St} {P : Int → St → Prop} {q4 : Nat} {v2 : Int} {v6 : Int} {v7 : Int} {v8 : Int} {v9 : Int} (hq4 : isL q4) 
    (h : rng v9 ∧ (80 ≤ v9 → p_CL_closedBy σ q4 v7 ∧ P (f_CL_closedBy σ q4 v7) σ) ∧ (v9 < 80 → rng v8 ∧ rng v2 ∧ (v2 < v8 → p_CL_closedBy σ q4 v7 ∧ P (f_CL_closedBy σ q4 v7) σ) ∧ (v8 ≤ v2 → rng v7 ∧ (σ.2.1 3 0 ≤ v7 → P v7 σ) ∧ (v7 < σ.2.1 3 0 → (0 ≤ v7 ∧ v7 < 260) ∧ CJ G m_UN_kindOfLength [O 4, I v8, I (σ.1 60 v7.toNat)] σ (fun r16 u15 => (r16 ≠ (-6) → rng (v7 + 1) ∧ (u15.2.1 3 0 ≤ v7 + 1 → P (v7 + 1) u15) ∧ (v7 + 1 < u15.2.1 3 0 → (0 ≤ v7 + 1 ∧ v7 + 1 < 260) ∧ p_UN_placeOf u15 v8 r16 ∧ p_CL_isFormOf u15 (u15.1 60 ((v7 + 1).toNat)) r16 (f_UN_placeOf u15 v8 r16) ∧ (b_CL_isFormOf u15 (u15.1 60 ((v7 + 1).toNat)) r16 (f_UN_placeOf u15 v8 r16) → (0 ≤ v8 ∧ v8 < 80) ∧ ((u15.1 65 v8.toNat = 0 → rng v6 ∧ (v6 ≠ 0 → p_CL_isBehindBar u15 q4 v8))) ∧ ((¬ (u15.1 65 v8.toNat = 0 ∧ (v6 = 0 ∨ b_CL_isBehindBar u15 q4 v8)) → 0 ≤ u15.1 60 ((v7 + 1).toNat) ∧ u15.1 60 ((v7 + 1).toNat) < 200)) ∧ rng (v7 + 2) ∧ (u15.2.1 3 0 ≤ v7 + 2 → P (v7 + 2) u15) ∧ (v7 + 2 < u15.2.1 3 0 → (0 ≤ v7 + 2 ∧ v7 + 2 < 260) ∧ (0 ≤ (u15.1 60 ((v7 + 2).toNat)) → rng (if ¬ (u15.1 65 v8.toNat = 0 ∧ (v6 = 0 ∨ b_CL_isBehindBar u15 q4 v8)) then u15.1 (176 + (u15.1 60 ((v7 + 1).toNat)).toNat) 7 else (0 : Int))) ∧ (0 ≤ (u15.1 60 ((v7 + 2).toNat)) ∧ (u15.1 60 ((v7 + 2).toNat)) ≤ (if ¬ (u15.1 65 v8.toNat = 0 ∧ (v6 = 0 ∨ b_CL_isBehindBar u15 q4 v8)) then u15.1 (176 + (u15.1 60 ((v7 + 1).toNat)).toNat) 7 else (0 : Int)) → CJ G m_LN_addPiece [O q4, I r16, I v8, I (u15.1 60 ((v7 + 1).toNat)), I (u15.1 60 ((v7 + 2).toNat))] u15 (fun _ u42 => ((u15.1 65 v8.toNat = 0 → rng v6)) ∧ (0 ≤ r16 ∧ r16 < 60) ∧ a_CL_setBy_25 G q4 v2 (if (¬ (u15.1 65 v8.toNat = 0)) ∨ (v6 ≠ 0 ∧ u42.1 60 ((v7 + 2).toNat) = 0) then 1 else 0) (v7 + 3) (v8 + (u42.1 49 r16.toNat)) (v9 + 1) u42 P)) ∧ (¬ (0 ≤ (u15.1 60 ((v7 + 2).toNat)) ∧ (u15.1 60 ((v7 + 2).toNat)) ≤ (if ¬ (u15.1 65 v8.toNat = 0 ∧ (v6 = 0 ∨ b_CL_isBehindBar u15 q4 v8)) then u15.1 (176 + (u15.1 60 ((v7 + 1).toNat)).toNat) 7 else (0 : Int))) → P (v7 + 2) u15))) ∧ (¬ (b_CL_isFormOf u15 (u15.1 60 ((v7 + 1).toNat)) r16 (f_UN_placeOf u15 v8 r16)) → P (v7 + 1) u15))) ∧ (r16 = (-6) → P v7 u15)))))) :
    a_CL_setBy_25 G q4 v2 v6 v7 v8 v9 σ P := by
  rcases hq4 with rfl | rfl
  ·
    refine r_iload (q := 27) (dc dt_CL_setBy 15 rfl) rfl 8 rfl ?_
    refine r_bipush (q := 29) (dc dt_CL_setBy 16 rfl) rfl (by decide) ?_
    obtain ⟨o2, h⟩ := h
    refine r_icmp_ge (q := 32) (t := 306) (dc dt_CL_setBy 17 rfl) rfl (by decide) o2 (⟨by decide, by decide⟩ : rng 80) (fun q_ => ?_) (fun q_ => ?_)
    · have h := h.1 q_
      refine r_aload_n (q := 307) (dc dt_CL_setBy 163 rfl) rfl rfl 0 rfl ?_
      refine r_iload (q := 309) (dc dt_CL_setBy 164 rfl) rfl 6 rfl ?_
      refine r_aload (q := 311) (dc dt_CL_setBy 165 rfl) rfl 3 rfl ?_
      obtain ⟨o3, h⟩ := h
      refine r_callVi (q := 314) mk_CL_closedBy lm_CL_67 (RMO.of rfl) rfl (dc dt_CL_setBy 166 rfl) rfl ly3 [I v7, O 9] [] rfl rfl (Nat.le_of_ble_eq_true rfl) (sp_CL_closedBy (by unfold isL; decide) o3) (fun _ _ g4 z => ?_)
      obtain ⟨z, w⟩ := z
      subst z
      replace w := w.symm
      subst w
      exact r_iret rfl (dc dt_CL_setBy 167 rfl) g4 h
    · have h := h.2 q_
      refine r_iload (q := 34) (dc dt_CL_setBy 18 rfl) rfl 7 rfl ?_
      refine r_iload_n (q := 35) (dc dt_CL_setBy 19 rfl) rfl rfl 1 rfl ?_
      obtain ⟨o5, h⟩ := h
      obtain ⟨o6, h⟩ := h
      refine r_icmp_gt (q := 38) (t := 306) (dc dt_CL_setBy 20 rfl) rfl (by decide) o5 o6 (fun q_ => ?_) (fun q_ => ?_)
      · have h := h.1 q_
        refine r_aload_n (q := 307) (dc dt_CL_setBy 163 rfl) rfl rfl 0 rfl ?_
        refine r_iload (q := 309) (dc dt_CL_setBy 164 rfl) rfl 6 rfl ?_
        refine r_aload (q := 311) (dc dt_CL_setBy 165 rfl) rfl 3 rfl ?_
        obtain ⟨o7, h⟩ := h
        refine r_callVi (q := 314) mk_CL_closedBy lm_CL_67 (RMO.of rfl) rfl (dc dt_CL_setBy 166 rfl) rfl ly3 [I v7, O 9] [] rfl rfl (Nat.le_of_ble_eq_true rfl) (sp_CL_closedBy (by unfold isL; decide) o7) (fun _ _ g8 z => ?_)
        obtain ⟨z, w⟩ := z
        subst z
        replace w := w.symm
        subst w
        exact r_iret rfl (dc dt_CL_setBy 167 rfl) g8 h
      · have h := h.2 q_
        refine r_iload (q := 40) (dc dt_CL_setBy 21 rfl) rfl 6 rfl ?_
        refine r_aload_n (q := 41) (dc dt_CL_setBy 22 rfl) rfl rfl 0 rfl ?_
        refine r_getI (q := 44) (v := σ.2.1 3 0) fl_CL_9 (dc dt_CL_setBy 23 rfl) rfl ly3 rfl rfl (fun g9 => ?_)
        obtain ⟨o10, h⟩ := h
        refine r_icmp_ge (q := 47) (t := 63) (dc dt_CL_setBy 24 rfl) rfl (by decide) o10 g9 (fun q_ => ?_) (fun q_ => ?_)
        · have h := h.1 q_
          refine r_bipush (q := 65) (dc dt_CL_setBy 33 rfl) rfl (by decide) ?_
          refine r_istore (q := 67) (dc dt_CL_setBy 34 rfl) rfl (by decide) rfl ?_
          refine r_iload (q := 69) (dc dt_CL_setBy 35 rfl) rfl 0 rfl ?_
          refine r_bipush (q := 71) (dc dt_CL_setBy 36 rfl) rfl (by decide) ?_
          refine r_icmp_ne (q := 74) (t := 77) (dc dt_CL_setBy 37 rfl) rfl (by decide) (⟨by decide, by decide⟩ : rng (-6)) (⟨by decide, by decide⟩ : rng (-6)) (fun q_ => absurd q_ (by decide)) (fun _ => ?_)
          refine r_iload (q := 76) (dc dt_CL_setBy 38 rfl) rfl 7 rfl ?_
          exact r_iret rfl (dc dt_CL_setBy 39 rfl) o10 h
        · have h := h.2 q_
          refine r_aload_n (q := 48) (dc dt_CL_setBy 25 rfl) rfl rfl 2 rfl ?_
          refine r_iload (q := 50) (dc dt_CL_setBy 26 rfl) rfl 7 rfl ?_
          refine r_aload_n (q := 51) (dc dt_CL_setBy 27 rfl) rfl rfl 0 rfl ?_
          refine r_getO (q := 54) (v := 60) fl_CL_15 (dc dt_CL_setBy 28 rfl) rfl ly3 rfl ?_
          refine r_iload (q := 56) (dc dt_CL_setBy 29 rfl) rfl 6 rfl ?_
          obtain ⟨o13, h⟩ := h
          refine r_iald (q := 57) (v := σ.1 60 v7.toNat) (dc dt_CL_setBy 30 rfl) rfl ly60 o13 rfl (fun g14 => ?_)
          refine r_callVi (q := 60) mk_UN_kindOfLength lm_CL_31 (RMO.of rfl) rfl (dc dt_CL_setBy 31 rfl) rfl ly4 [I v8, I (σ.1 60 v7.toNat)] [] rfl rfl (Nat.le_of_ble_eq_true rfl) h (fun r16 u15 g17 h => ?_)
          refine r_goto (q := 65) (dc dt_CL_setBy 32 rfl) (by decide) ?_
          refine r_istore (q := 67) (dc dt_CL_setBy 34 rfl) rfl (by decide) rfl ?_
          refine r_iload (q := 69) (dc dt_CL_setBy 35 rfl) rfl 0 rfl ?_
          refine r_bipush (q := 71) (dc dt_CL_setBy 36 rfl) rfl (by decide) ?_
          refine r_icmp_ne (q := 74) (t := 77) (dc dt_CL_setBy 37 rfl) rfl (by decide) g17 (⟨by decide, by decide⟩ : rng (-6)) (fun q_ => ?_) (fun q_ => ?_)
          · have h := h.1 q_
            refine r_iload (q := 79) (dc dt_CL_setBy 40 rfl) rfl 7 rfl ?_
            refine r_iconst (q := 80) (dc dt_CL_setBy 41 rfl) rfl rfl ?_
            refine r_iadd (q := 81) (dc dt_CL_setBy 42 rfl) rfl ?_
            refine r_aload_n (q := 82) (dc dt_CL_setBy 43 rfl) rfl rfl 1 rfl ?_
            refine r_getI (q := 85) (v := u15.2.1 3 0) fl_CL_9 (dc dt_CL_setBy 44 rfl) rfl ly3 rfl rfl (fun g18 => ?_)
            obtain ⟨o19, h⟩ := h
            refine r_icmp_ge (q := 88) (t := 115) (dc dt_CL_setBy 45 rfl) rfl (by decide) o19 g18 (fun q_ => ?_) (fun q_ => ?_)
            · have h := h.1 q_
              refine r_iload (q := 117) (dc dt_CL_setBy 60 rfl) rfl 7 rfl ?_
              refine r_iconst (q := 118) (dc dt_CL_setBy 61 rfl) rfl rfl ?_
              refine r_iadd (q := 119) (dc dt_CL_setBy 62 rfl) rfl ?_
              exact r_iret rfl (dc dt_CL_setBy 63 rfl) o19 h
            · have h := h.2 q_
              refine r_aload (q := 90) (dc dt_CL_setBy 46 rfl) rfl 5 rfl ?_
              refine r_aload_n (q := 91) (dc dt_CL_setBy 47 rfl) rfl rfl 1 rfl ?_
              refine r_getO (q := 94) (v := 60) fl_CL_15 (dc dt_CL_setBy 48 rfl) rfl ly3 rfl ?_
              refine r_iload (q := 96) (dc dt_CL_setBy 49 rfl) rfl 7 rfl ?_
              refine r_iconst (q := 97) (dc dt_CL_setBy 50 rfl) rfl rfl ?_
              refine r_iadd (q := 98) (dc dt_CL_setBy 51 rfl) rfl ?_
              obtain ⟨o20, h⟩ := h
              refine r_iald (q := 99) (v := u15.1 60 ((v7 + 1).toNat)) (dc dt_CL_setBy 52 rfl) rfl ly60 o20 rfl (fun g21 => ?_)
              refine r_iload (q := 101) (dc dt_CL_setBy 53 rfl) rfl 0 rfl ?_
              refine r_aload_n (q := 102) (dc dt_CL_setBy 54 rfl) rfl rfl 3 rfl ?_
              refine r_iload (q := 104) (dc dt_CL_setBy 55 rfl) rfl 8 rfl ?_
              refine r_iload (q := 106) (dc dt_CL_setBy 56 rfl) rfl 0 rfl ?_
              obtain ⟨o22, h⟩ := h
              refine r_callVi (q := 109) mk_UN_placeOf lm_CL_35 (RMO.of rfl) rfl (dc dt_CL_setBy 57 rfl) rfl ly4 [I v8, I r16] [I r16, I (u15.1 60 ((v7 + 1).toNat)), O 1] rfl rfl (Nat.le_of_ble_eq_true rfl) (sp_UN_placeOf o22) (fun _ _ g23 z => ?_)
              obtain ⟨z, w⟩ := z
              subst z
              replace w := w.symm
              subst w
              obtain ⟨o24, h⟩ := h
              refine r_callSi (q := 112) mk_CL_isFormOf lm_CL_38 (RMO.of rfl) rfl (dc dt_CL_setBy 58 rfl) rfl [O 1, I (u15.1 60 ((v7 + 1).toNat)), I r16, I (f_UN_placeOf u15 v8 r16)] [] rfl rfl (Nat.le_of_ble_eq_true rfl) (sp_CL_isFormOf o24) (fun _ _ g25 z => ?_)
              obtain ⟨z, w⟩ := z
              subst z
              replace w := w.symm
              subst w
              refine r_ifb_ne (q := 115) (t := 120) (dc dt_CL_setBy 59 rfl) rfl (by decide) (fun q_ => ?_) (fun q_ => ?_)
              · have h := h.1 q_
                refine r_aload_n (q := 121) (dc dt_CL_setBy 64 rfl) rfl rfl 3 rfl ?_
                refine r_getO (q := 124) (v := 65) fl_CL_42 (dc dt_CL_setBy 65 rfl) rfl ly4 rfl ?_
                refine r_iload (q := 126) (dc dt_CL_setBy 66 rfl) rfl 8 rfl ?_
                obtain ⟨o26, h⟩ := h
                refine r_zald (q := 127) (v := u15.1 65 v8.toNat) (dc dt_CL_setBy 67 rfl) rfl ly65 o26 rfl (fun g27 => ?_)
                have hJ : ∀ (w_0 : Int), w_0 = (if u15.1 65 v8.toNat = 0 then 1 else 0) → A G m_CL_setBy 135 [(10, I r16), (0, O 3), (2, I v2), (3, O 4), (4, O 9), (5, O 1), (6, I v6), (7, I v7), (8, I v8), (9, I v9)] [I w_0] u15 P := by
                  intro w_0 z_0
                  subst z_0
                  refine r_istore (q := 137) (dc dt_CL_setBy 72 rfl) rfl (by decide) rfl ?_
                  refine r_iload (q := 139) (dc dt_CL_setBy 73 rfl) rfl 0 rfl ?_
                  obtain ⟨ho, h⟩ := h
                  have hJ : ∀ (w_0 : Int), w_0 = (if u15.1 65 v8.toNat = 0 ∧ (v6 = 0 ∨ b_CL_isBehindBar u15 9 v8) then 1 else 0) → A G m_CL_setBy 163 [(11, I (if u15.1 65 v8.toNat = 0 then 1 else 0)), (10, I r16), (0, O 3), (2, I v2), (3, O 4), (4, O 9), (5, O 1), (6, I v6), (7, I v7), (8, I v8), (9, I v9)] [I w_0] u15 P := by
                    intro w_0 z_0
                    subst z_0
                    refine r_istore (q := 165) (dc dt_CL_setBy 85 rfl) rfl (by decide) rfl ?_
                    refine r_iload (q := 167) (dc dt_CL_setBy 86 rfl) rfl 0 rfl ?_
                    obtain ⟨ho, h⟩ := h
                    have hJ : ∀ (w_0 : Int), w_0 = (if ¬ (u15.1 65 v8.toNat = 0 ∧ (v6 = 0 ∨ b_CL_isBehindBar u15 9 v8)) then u15.1 (176 + (u15.1 60 ((v7 + 1).toNat)).toNat) 7 else (0 : Int)) → A G m_CL_setBy 192 [(12, I (if u15.1 65 v8.toNat = 0 ∧ (v6 = 0 ∨ b_CL_isBehindBar u15 9 v8) then 1 else 0)), (11, I (if u15.1 65 v8.toNat = 0 then 1 else 0)), (10, I r16), (0, O 3), (2, I v2), (3, O 4), (4, O 9), (5, O 1), (6, I v6), (7, I v7), (8, I v8), (9, I v9)] [I w_0] u15 P := by
                      intro w_0 z_0
                      subst z_0
                      refine r_istore (q := 194) (dc dt_CL_setBy 101 rfl) rfl (by decide) rfl ?_
                      refine r_iload (q := 196) (dc dt_CL_setBy 102 rfl) rfl 10 rfl ?_
                      refine r_iconst (q := 197) (dc dt_CL_setBy 103 rfl) rfl rfl ?_
                      refine r_iadd (q := 198) (dc dt_CL_setBy 104 rfl) rfl ?_
                      refine r_aload_n (q := 199) (dc dt_CL_setBy 105 rfl) rfl rfl 4 rfl ?_
                      refine r_getI (q := 202) (v := u15.2.1 3 0) fl_CL_9 (dc dt_CL_setBy 106 rfl) rfl ly3 rfl rfl (fun g34 => ?_)
                      obtain ⟨o35, h⟩ := h
                      refine r_icmp_ge (q := 205) (t := 223) (dc dt_CL_setBy 107 rfl) rfl (by decide) o35 g34 (fun q_ => ?_) (fun q_ => ?_)
                      · have h := h.1 q_
                        refine r_iload (q := 225) (dc dt_CL_setBy 118 rfl) rfl 10 rfl ?_
                        refine r_iconst (q := 226) (dc dt_CL_setBy 119 rfl) rfl rfl ?_
                        refine r_iadd (q := 227) (dc dt_CL_setBy 120 rfl) rfl ?_
                        exact r_iret rfl (dc dt_CL_setBy 121 rfl) o35 h
                      · have h := h.2 q_
                        refine r_aload_n (q := 206) (dc dt_CL_setBy 108 rfl) rfl rfl 4 rfl ?_
                        refine r_getO (q := 209) (v := 60) fl_CL_15 (dc dt_CL_setBy 109 rfl) rfl ly3 rfl ?_
                        refine r_iload (q := 211) (dc dt_CL_setBy 110 rfl) rfl 10 rfl ?_
                        refine r_iconst (q := 212) (dc dt_CL_setBy 111 rfl) rfl rfl ?_
                        refine r_iadd (q := 213) (dc dt_CL_setBy 112 rfl) rfl ?_
                        obtain ⟨o36, h⟩ := h
                        refine r_iald (q := 214) (v := u15.1 60 ((v7 + 2).toNat)) (dc dt_CL_setBy 113 rfl) rfl ly60 o36 rfl (fun g37 => ?_)
                        refine r_iconst (q := 215) (dc dt_CL_setBy 114 rfl) rfl rfl ?_
                        refine r_iload (q := 217) (dc dt_CL_setBy 115 rfl) rfl 0 rfl ?_
                        obtain ⟨o38, h⟩ := h
                        refine r_callNi (q := 220) mk_JS_within lm_CL_56 (RMO.of rfl) rfl (dc dt_CL_setBy 116 rfl) rfl [I (u15.1 60 ((v7 + 2).toNat)), I 0, I (if ¬ (u15.1 65 v8.toNat = 0 ∧ (v6 = 0 ∨ b_CL_isBehindBar u15 9 v8)) then u15.1 (176 + (u15.1 60 ((v7 + 1).toNat)).toNat) 7 else (0 : Int))] [] rfl rfl (Nat.le_of_ble_eq_true rfl) (sp_JS_within g37 (⟨by decide, by decide⟩ : rng 0) o38) (fun _ _ g39 z => ?_)
                        obtain ⟨z, w⟩ := z
                        subst z
                        replace w := w.symm
                        subst w
                        refine r_ifb_ne (q := 223) (t := 228) (dc dt_CL_setBy 117 rfl) rfl (by decide) (fun q_ => ?_) (fun q_ => ?_)
                        · have h := h.1 q_
                          refine r_aload (q := 230) (dc dt_CL_setBy 122 rfl) rfl 7 rfl ?_
                          refine r_iload (q := 232) (dc dt_CL_setBy 123 rfl) rfl 3 rfl ?_
                          refine r_iload (q := 234) (dc dt_CL_setBy 124 rfl) rfl 11 rfl ?_
                          refine r_aload_n (q := 235) (dc dt_CL_setBy 125 rfl) rfl rfl 4 rfl ?_
                          refine r_getO (q := 238) (v := 60) fl_CL_15 (dc dt_CL_setBy 126 rfl) rfl ly3 rfl ?_
                          refine r_iload (q := 240) (dc dt_CL_setBy 127 rfl) rfl 10 rfl ?_
                          refine r_iconst (q := 241) (dc dt_CL_setBy 128 rfl) rfl rfl ?_
                          refine r_iadd (q := 242) (dc dt_CL_setBy 129 rfl) rfl ?_
                          refine r_iald (q := 243) (v := u15.1 60 ((v7 + 1).toNat)) (dc dt_CL_setBy 130 rfl) rfl ly60 o20 rfl (fun g40 => ?_)
                          refine r_aload_n (q := 244) (dc dt_CL_setBy 131 rfl) rfl rfl 4 rfl ?_
                          refine r_getO (q := 247) (v := 60) fl_CL_15 (dc dt_CL_setBy 132 rfl) rfl ly3 rfl ?_
                          refine r_iload (q := 249) (dc dt_CL_setBy 133 rfl) rfl 10 rfl ?_
                          refine r_iconst (q := 250) (dc dt_CL_setBy 134 rfl) rfl rfl ?_
                          refine r_iadd (q := 251) (dc dt_CL_setBy 135 rfl) rfl ?_
                          refine r_iald (q := 252) (v := u15.1 60 ((v7 + 2).toNat)) (dc dt_CL_setBy 136 rfl) rfl ly60 o36 rfl (fun g41 => ?_)
                          refine r_callVv (q := 255) mk_LN_addPiece lm_CL_60 (RMO.of rfl) rfl (dc dt_CL_setBy 137 rfl) rfl rfl [I r16, I v8, I (u15.1 60 ((v7 + 1).toNat)), I (u15.1 60 ((v7 + 2).toNat))] [] rfl rfl (Nat.le_of_ble_eq_true rfl) h (fun u42 h => ?_)
                          refine r_iload (q := 257) (dc dt_CL_setBy 138 rfl) rfl 2 rfl ?_
                          obtain ⟨ho, h⟩ := h
                          have hJ : ∀ (w_0 : Int), w_0 = (if (¬ (u15.1 65 v8.toNat = 0)) ∨ (v6 ≠ 0 ∧ u42.1 60 ((v7 + 2).toNat) = 0) then 1 else 0) → A G m_CL_setBy 282 [(13, I (if ¬ (u15.1 65 v8.toNat = 0 ∧ (v6 = 0 ∨ b_CL_isBehindBar u15 9 v8)) then u15.1 (176 + (u15.1 60 ((v7 + 1).toNat)).toNat) 7 else (0 : Int))), (12, I (if u15.1 65 v8.toNat = 0 ∧ (v6 = 0 ∨ b_CL_isBehindBar u15 9 v8) then 1 else 0)), (11, I (if u15.1 65 v8.toNat = 0 then 1 else 0)), (10, I r16), (0, O 3), (2, I v2), (3, O 4), (4, O 9), (5, O 1), (6, I v6), (7, I v7), (8, I v8), (9, I v9)] [I w_0] u42 P := by
                            intro w_0 z_0
                            subst z_0
                            refine r_istore (q := 284) (dc dt_CL_setBy 152 rfl) rfl (by decide) rfl ?_
                            refine r_iload (q := 286) (dc dt_CL_setBy 153 rfl) rfl 11 rfl ?_
                            refine r_aload (q := 288) (dc dt_CL_setBy 154 rfl) rfl 9 rfl ?_
                            refine r_getO (q := 291) (v := 49) fl_CL_64 (dc dt_CL_setBy 155 rfl) rfl ly1 rfl ?_
                            refine r_iload (q := 293) (dc dt_CL_setBy 156 rfl) rfl 4 rfl ?_
                            obtain ⟨o45, h⟩ := h
                            refine r_iald (q := 294) (v := u42.1 49 r16.toNat) (dc dt_CL_setBy 157 rfl) rfl ly49 o45 rfl (fun g46 => ?_)
                            refine r_iadd (q := 295) (dc dt_CL_setBy 158 rfl) rfl ?_
                            refine r_istore (q := 297) (dc dt_CL_setBy 159 rfl) rfl (by decide) rfl ?_
                            refine r_iinc (q := 300) (k := 11) (dc dt_CL_setBy 160 rfl) rfl rfl (by decide) rfl ?_
                            refine r_iinc (q := 303) (k := 12) (dc dt_CL_setBy 161 rfl) rfl rfl (by decide) rfl ?_
                            refine r_goto (q := 25) (dc dt_CL_setBy 162 rfl) (by decide) ?_
                            exact r_loc [8, 9, 10, 11, 12, 3, 1, 2, 0] rfl h
                          clear h
                          refine r_ifb_eq (q := 260) (t := 277) (dc dt_CL_setBy 139 rfl) rfl (by decide) (fun q_ => ?_) (fun q_ => ?_)
                          · have q47 := q_
                            refine r_iconst (q := 278) (dc dt_CL_setBy 149 rfl) rfl rfl ?_
                            refine r_goto (q := 282) (dc dt_CL_setBy 150 rfl) (by decide) ?_
                            exact (hJ 1 ((if_pos (by first | omega | grind)).symm))
                          · have q47 := q_
                            have ho := ho q_
                            refine r_iload (q := 262) (dc dt_CL_setBy 140 rfl) rfl 9 rfl ?_
                            have o43 := ho
                            refine r_if_eq (q := 265) (t := 281) (dc dt_CL_setBy 141 rfl) rfl (by decide) o43 (fun q_ => ?_) (fun q_ => ?_)
                            · have q48 := q_
                              refine r_iconst (q := 282) (dc dt_CL_setBy 151 rfl) rfl rfl ?_
                              exact (hJ 0 ((if_neg (by first | omega | grind)).symm))
                            · have q48 := q_
                              refine r_aload_n (q := 266) (dc dt_CL_setBy 142 rfl) rfl rfl 4 rfl ?_
                              refine r_getO (q := 269) (v := 60) fl_CL_15 (dc dt_CL_setBy 143 rfl) rfl ly3 rfl ?_
                              refine r_iload (q := 271) (dc dt_CL_setBy 144 rfl) rfl 10 rfl ?_
                              refine r_iconst (q := 272) (dc dt_CL_setBy 145 rfl) rfl rfl ?_
                              refine r_iadd (q := 273) (dc dt_CL_setBy 146 rfl) rfl ?_
                              refine r_iald (q := 274) (v := u42.1 60 ((v7 + 2).toNat)) (dc dt_CL_setBy 147 rfl) rfl ly60 o36 rfl (fun g44 => ?_)
                              refine r_if_ne (q := 277) (t := 281) (dc dt_CL_setBy 148 rfl) rfl (by decide) g44 (fun q_ => ?_) (fun q_ => ?_)
                              · have q49 := q_
                                refine r_iconst (q := 282) (dc dt_CL_setBy 151 rfl) rfl rfl ?_
                                exact (hJ 0 ((if_neg (by first | omega | grind)).symm))
                              · have q49 := q_
                                refine r_iconst (q := 278) (dc dt_CL_setBy 149 rfl) rfl rfl ?_
                                refine r_goto (q := 282) (dc dt_CL_setBy 150 rfl) (by decide) ?_
                                exact (hJ 1 ((if_pos (by first | omega | grind)).symm))
                        · have h := h.2 q_
                          refine r_iload (q := 225) (dc dt_CL_setBy 118 rfl) rfl 10 rfl ?_
                          refine r_iconst (q := 226) (dc dt_CL_setBy 119 rfl) rfl rfl ?_
                          refine r_iadd (q := 227) (dc dt_CL_setBy 120 rfl) rfl ?_
                          exact r_iret rfl (dc dt_CL_setBy 121 rfl) o35 h
                    clear h
                    refine r_ifb_eq (q := 170) (t := 174) (dc dt_CL_setBy 87 rfl) rfl (by decide) (fun q_ => ?_) (fun q_ => ?_)
                    · have q50 := q_
                      have ho := ho q_
                      refine r_aload (q := 176) (dc dt_CL_setBy 90 rfl) rfl 7 rfl ?_
                      refine r_getO (q := 179) (v := 54) fl_CL_50 (dc dt_CL_setBy 91 rfl) rfl ly1 rfl ?_
                      refine r_aload_n (q := 180) (dc dt_CL_setBy 92 rfl) rfl rfl 3 rfl ?_
                      refine r_getO (q := 183) (v := 60) fl_CL_15 (dc dt_CL_setBy 93 rfl) rfl ly3 rfl ?_
                      refine r_iload (q := 185) (dc dt_CL_setBy 94 rfl) rfl 9 rfl ?_
                      refine r_iconst (q := 186) (dc dt_CL_setBy 95 rfl) rfl rfl ?_
                      refine r_iadd (q := 187) (dc dt_CL_setBy 96 rfl) rfl ?_
                      refine r_iald (q := 188) (v := u15.1 60 ((v7 + 1).toNat)) (dc dt_CL_setBy 97 rfl) rfl ly60 o20 rfl (fun g31 => ?_)
                      have o32 := ho
                      refine r_aald (q := 189) (dc dt_CL_setBy 98 rfl) rfl ly54 o32 rfl ?_
                      refine r_bipush (q := 191) (dc dt_CL_setBy 99 rfl) rfl (by decide) ?_
                      refine r_iald (q := 192) (v := u15.1 (176 + (u15.1 60 ((v7 + 1).toNat)).toNat) 7) (dc dt_CL_setBy 100 rfl) rfl (lyr_176 o32) ⟨by decide, by decide⟩ rfl (fun g33 => ?_)
                      exact (hJ (u15.1 (176 + (u15.1 60 ((v7 + 1).toNat)).toNat) 7) ((if_pos (by first | omega | grind)).symm))
                    · have q50 := q_
                      refine r_iconst (q := 171) (dc dt_CL_setBy 88 rfl) rfl rfl ?_
                      refine r_goto (q := 192) (dc dt_CL_setBy 89 rfl) (by decide) ?_
                      exact (hJ 0 ((if_neg (by first | omega | grind)).symm))
                  clear h
                  refine r_ifb_eq (q := 142) (t := 162) (dc dt_CL_setBy 74 rfl) rfl (by decide) (fun q_ => ?_) (fun q_ => ?_)
                  · have q51 := q_
                    refine r_iconst (q := 163) (dc dt_CL_setBy 84 rfl) rfl rfl ?_
                    exact (hJ 0 ((if_neg (by first | omega | grind)).symm))
                  · have q51 := q_
                    have ho := ho q_
                    refine r_iload (q := 144) (dc dt_CL_setBy 75 rfl) rfl 7 rfl ?_
                    obtain ⟨o28, ho⟩ := ho
                    refine r_if_eq (q := 147) (t := 158) (dc dt_CL_setBy 76 rfl) rfl (by decide) o28 (fun q_ => ?_) (fun q_ => ?_)
                    · have q52 := q_
                      refine r_iconst (q := 159) (dc dt_CL_setBy 82 rfl) rfl rfl ?_
                      refine r_goto (q := 163) (dc dt_CL_setBy 83 rfl) (by decide) ?_
                      exact (hJ 1 ((if_pos (by first | omega | grind)).symm))
                    · have q52 := q_
                      have ho := ho q_
                      refine r_aload_n (q := 148) (dc dt_CL_setBy 77 rfl) rfl rfl 4 rfl ?_
                      refine r_aload (q := 150) (dc dt_CL_setBy 78 rfl) rfl 5 rfl ?_
                      refine r_iload (q := 152) (dc dt_CL_setBy 79 rfl) rfl 9 rfl ?_
                      have o29 := ho
                      refine r_callSi (q := 155) mk_CL_isBehindBar lm_CL_46 (RMO.of rfl) rfl (dc dt_CL_setBy 80 rfl) rfl [O 4, O 9, I v8] [] rfl rfl (Nat.le_of_ble_eq_true rfl) (sp_CL_isBehindBar (by unfold isL; decide) o29) (fun _ _ g30 z => ?_)
                      obtain ⟨z, w⟩ := z
                      subst z
                      replace w := w.symm
                      subst w
                      refine r_ifb_eq (q := 158) (t := 162) (dc dt_CL_setBy 81 rfl) rfl (by decide) (fun q_ => ?_) (fun q_ => ?_)
                      · have q53 := q_
                        refine r_iconst (q := 163) (dc dt_CL_setBy 84 rfl) rfl rfl ?_
                        exact (hJ 0 ((if_neg (by first | omega | grind)).symm))
                      · have q53 := q_
                        refine r_iconst (q := 159) (dc dt_CL_setBy 82 rfl) rfl rfl ?_
                        refine r_goto (q := 163) (dc dt_CL_setBy 83 rfl) (by decide) ?_
                        exact (hJ 1 ((if_pos (by first | omega | grind)).symm))
                clear h
                refine r_if_ne (q := 130) (t := 134) (dc dt_CL_setBy 68 rfl) rfl (by decide) g27 (fun q_ => ?_) (fun q_ => ?_)
                · have q54 := q_
                  refine r_iconst (q := 135) (dc dt_CL_setBy 71 rfl) rfl rfl ?_
                  exact (hJ 0 ((if_neg (by first | omega | grind)).symm))
                · have q54 := q_
                  refine r_iconst (q := 131) (dc dt_CL_setBy 69 rfl) rfl rfl ?_
                  refine r_goto (q := 135) (dc dt_CL_setBy 70 rfl) (by decide) ?_
                  exact (hJ 1 ((if_pos (by first | omega | grind)).symm))
              · have h := h.2 q_
                refine r_iload (q := 117) (dc dt_CL_setBy 60 rfl) rfl 7 rfl ?_
                refine r_iconst (q := 118) (dc dt_CL_setBy 61 rfl) rfl rfl ?_
                refine r_iadd (q := 119) (dc dt_CL_setBy 62 rfl) rfl ?_
                exact r_iret rfl (dc dt_CL_setBy 63 rfl) o19 h
          · have h := h.2 q_
            refine r_iload (q := 76) (dc dt_CL_setBy 38 rfl) rfl 7 rfl ?_
            exact r_iret rfl (dc dt_CL_setBy 39 rfl) o10 h
  ·
    refine r_iload (q := 27) (dc dt_CL_setBy 15 rfl) rfl 8 rfl ?_
    refine r_bipush (q := 29) (dc dt_CL_setBy 16 rfl) rfl (by decide) ?_
    obtain ⟨o2, h⟩ := h
    refine r_icmp_ge (q := 32) (t := 306) (dc dt_CL_setBy 17 rfl) rfl (by decide) o2 (⟨by decide, by decide⟩ : rng 80) (fun q_ => ?_) (fun q_ => ?_)
    · have h := h.1 q_
      refine r_aload_n (q := 307) (dc dt_CL_setBy 163 rfl) rfl rfl 0 rfl ?_
      refine r_iload (q := 309) (dc dt_CL_setBy 164 rfl) rfl 6 rfl ?_
      refine r_aload (q := 311) (dc dt_CL_setBy 165 rfl) rfl 3 rfl ?_
      obtain ⟨o3, h⟩ := h
      refine r_callVi (q := 314) mk_CL_closedBy lm_CL_67 (RMO.of rfl) rfl (dc dt_CL_setBy 166 rfl) rfl ly3 [I v7, O 28] [] rfl rfl (Nat.le_of_ble_eq_true rfl) (sp_CL_closedBy (by unfold isL; decide) o3) (fun _ _ g4 z => ?_)
      obtain ⟨z, w⟩ := z
      subst z
      replace w := w.symm
      subst w
      exact r_iret rfl (dc dt_CL_setBy 167 rfl) g4 h
    · have h := h.2 q_
      refine r_iload (q := 34) (dc dt_CL_setBy 18 rfl) rfl 7 rfl ?_
      refine r_iload_n (q := 35) (dc dt_CL_setBy 19 rfl) rfl rfl 1 rfl ?_
      obtain ⟨o5, h⟩ := h
      obtain ⟨o6, h⟩ := h
      refine r_icmp_gt (q := 38) (t := 306) (dc dt_CL_setBy 20 rfl) rfl (by decide) o5 o6 (fun q_ => ?_) (fun q_ => ?_)
      · have h := h.1 q_
        refine r_aload_n (q := 307) (dc dt_CL_setBy 163 rfl) rfl rfl 0 rfl ?_
        refine r_iload (q := 309) (dc dt_CL_setBy 164 rfl) rfl 6 rfl ?_
        refine r_aload (q := 311) (dc dt_CL_setBy 165 rfl) rfl 3 rfl ?_
        obtain ⟨o7, h⟩ := h
        refine r_callVi (q := 314) mk_CL_closedBy lm_CL_67 (RMO.of rfl) rfl (dc dt_CL_setBy 166 rfl) rfl ly3 [I v7, O 28] [] rfl rfl (Nat.le_of_ble_eq_true rfl) (sp_CL_closedBy (by unfold isL; decide) o7) (fun _ _ g8 z => ?_)
        obtain ⟨z, w⟩ := z
        subst z
        replace w := w.symm
        subst w
        exact r_iret rfl (dc dt_CL_setBy 167 rfl) g8 h
      · have h := h.2 q_
        refine r_iload (q := 40) (dc dt_CL_setBy 21 rfl) rfl 6 rfl ?_
        refine r_aload_n (q := 41) (dc dt_CL_setBy 22 rfl) rfl rfl 0 rfl ?_
        refine r_getI (q := 44) (v := σ.2.1 3 0) fl_CL_9 (dc dt_CL_setBy 23 rfl) rfl ly3 rfl rfl (fun g9 => ?_)
        obtain ⟨o10, h⟩ := h
        refine r_icmp_ge (q := 47) (t := 63) (dc dt_CL_setBy 24 rfl) rfl (by decide) o10 g9 (fun q_ => ?_) (fun q_ => ?_)
        · have h := h.1 q_
          refine r_bipush (q := 65) (dc dt_CL_setBy 33 rfl) rfl (by decide) ?_
          refine r_istore (q := 67) (dc dt_CL_setBy 34 rfl) rfl (by decide) rfl ?_
          refine r_iload (q := 69) (dc dt_CL_setBy 35 rfl) rfl 0 rfl ?_
          refine r_bipush (q := 71) (dc dt_CL_setBy 36 rfl) rfl (by decide) ?_
          refine r_icmp_ne (q := 74) (t := 77) (dc dt_CL_setBy 37 rfl) rfl (by decide) (⟨by decide, by decide⟩ : rng (-6)) (⟨by decide, by decide⟩ : rng (-6)) (fun q_ => absurd q_ (by decide)) (fun _ => ?_)
          refine r_iload (q := 76) (dc dt_CL_setBy 38 rfl) rfl 7 rfl ?_
          exact r_iret rfl (dc dt_CL_setBy 39 rfl) o10 h
        · have h := h.2 q_
          refine r_aload_n (q := 48) (dc dt_CL_setBy 25 rfl) rfl rfl 2 rfl ?_
          refine r_iload (q := 50) (dc dt_CL_setBy 26 rfl) rfl 7 rfl ?_
          refine r_aload_n (q := 51) (dc dt_CL_setBy 27 rfl) rfl rfl 0 rfl ?_
          refine r_getO (q := 54) (v := 60) fl_CL_15 (dc dt_CL_setBy 28 rfl) rfl ly3 rfl ?_
          refine r_iload (q := 56) (dc dt_CL_setBy 29 rfl) rfl 6 rfl ?_
          obtain ⟨o13, h⟩ := h
          refine r_iald (q := 57) (v := σ.1 60 v7.toNat) (dc dt_CL_setBy 30 rfl) rfl ly60 o13 rfl (fun g14 => ?_)
          refine r_callVi (q := 60) mk_UN_kindOfLength lm_CL_31 (RMO.of rfl) rfl (dc dt_CL_setBy 31 rfl) rfl ly4 [I v8, I (σ.1 60 v7.toNat)] [] rfl rfl (Nat.le_of_ble_eq_true rfl) h (fun r16 u15 g17 h => ?_)
          refine r_goto (q := 65) (dc dt_CL_setBy 32 rfl) (by decide) ?_
          refine r_istore (q := 67) (dc dt_CL_setBy 34 rfl) rfl (by decide) rfl ?_
          refine r_iload (q := 69) (dc dt_CL_setBy 35 rfl) rfl 0 rfl ?_
          refine r_bipush (q := 71) (dc dt_CL_setBy 36 rfl) rfl (by decide) ?_
          refine r_icmp_ne (q := 74) (t := 77) (dc dt_CL_setBy 37 rfl) rfl (by decide) g17 (⟨by decide, by decide⟩ : rng (-6)) (fun q_ => ?_) (fun q_ => ?_)
          · have h := h.1 q_
            refine r_iload (q := 79) (dc dt_CL_setBy 40 rfl) rfl 7 rfl ?_
            refine r_iconst (q := 80) (dc dt_CL_setBy 41 rfl) rfl rfl ?_
            refine r_iadd (q := 81) (dc dt_CL_setBy 42 rfl) rfl ?_
            refine r_aload_n (q := 82) (dc dt_CL_setBy 43 rfl) rfl rfl 1 rfl ?_
            refine r_getI (q := 85) (v := u15.2.1 3 0) fl_CL_9 (dc dt_CL_setBy 44 rfl) rfl ly3 rfl rfl (fun g18 => ?_)
            obtain ⟨o19, h⟩ := h
            refine r_icmp_ge (q := 88) (t := 115) (dc dt_CL_setBy 45 rfl) rfl (by decide) o19 g18 (fun q_ => ?_) (fun q_ => ?_)
            · have h := h.1 q_
              refine r_iload (q := 117) (dc dt_CL_setBy 60 rfl) rfl 7 rfl ?_
              refine r_iconst (q := 118) (dc dt_CL_setBy 61 rfl) rfl rfl ?_
              refine r_iadd (q := 119) (dc dt_CL_setBy 62 rfl) rfl ?_
              exact r_iret rfl (dc dt_CL_setBy 63 rfl) o19 h
            · have h := h.2 q_
              refine r_aload (q := 90) (dc dt_CL_setBy 46 rfl) rfl 5 rfl ?_
              refine r_aload_n (q := 91) (dc dt_CL_setBy 47 rfl) rfl rfl 1 rfl ?_
              refine r_getO (q := 94) (v := 60) fl_CL_15 (dc dt_CL_setBy 48 rfl) rfl ly3 rfl ?_
              refine r_iload (q := 96) (dc dt_CL_setBy 49 rfl) rfl 7 rfl ?_
              refine r_iconst (q := 97) (dc dt_CL_setBy 50 rfl) rfl rfl ?_
              refine r_iadd (q := 98) (dc dt_CL_setBy 51 rfl) rfl ?_
              obtain ⟨o20, h⟩ := h
              refine r_iald (q := 99) (v := u15.1 60 ((v7 + 1).toNat)) (dc dt_CL_setBy 52 rfl) rfl ly60 o20 rfl (fun g21 => ?_)
              refine r_iload (q := 101) (dc dt_CL_setBy 53 rfl) rfl 0 rfl ?_
              refine r_aload_n (q := 102) (dc dt_CL_setBy 54 rfl) rfl rfl 3 rfl ?_
              refine r_iload (q := 104) (dc dt_CL_setBy 55 rfl) rfl 8 rfl ?_
              refine r_iload (q := 106) (dc dt_CL_setBy 56 rfl) rfl 0 rfl ?_
              obtain ⟨o22, h⟩ := h
              refine r_callVi (q := 109) mk_UN_placeOf lm_CL_35 (RMO.of rfl) rfl (dc dt_CL_setBy 57 rfl) rfl ly4 [I v8, I r16] [I r16, I (u15.1 60 ((v7 + 1).toNat)), O 1] rfl rfl (Nat.le_of_ble_eq_true rfl) (sp_UN_placeOf o22) (fun _ _ g23 z => ?_)
              obtain ⟨z, w⟩ := z
              subst z
              replace w := w.symm
              subst w
              obtain ⟨o24, h⟩ := h
              refine r_callSi (q := 112) mk_CL_isFormOf lm_CL_38 (RMO.of rfl) rfl (dc dt_CL_setBy 58 rfl) rfl [O 1, I (u15.1 60 ((v7 + 1).toNat)), I r16, I (f_UN_placeOf u15 v8 r16)] [] rfl rfl (Nat.le_of_ble_eq_true rfl) (sp_CL_isFormOf o24) (fun _ _ g25 z => ?_)
              obtain ⟨z, w⟩ := z
              subst z
              replace w := w.symm
              subst w
              refine r_ifb_ne (q := 115) (t := 120) (dc dt_CL_setBy 59 rfl) rfl (by decide) (fun q_ => ?_) (fun q_ => ?_)
              · have h := h.1 q_
                refine r_aload_n (q := 121) (dc dt_CL_setBy 64 rfl) rfl rfl 3 rfl ?_
                refine r_getO (q := 124) (v := 65) fl_CL_42 (dc dt_CL_setBy 65 rfl) rfl ly4 rfl ?_
                refine r_iload (q := 126) (dc dt_CL_setBy 66 rfl) rfl 8 rfl ?_
                obtain ⟨o26, h⟩ := h
                refine r_zald (q := 127) (v := u15.1 65 v8.toNat) (dc dt_CL_setBy 67 rfl) rfl ly65 o26 rfl (fun g27 => ?_)
                have hJ : ∀ (w_0 : Int), w_0 = (if u15.1 65 v8.toNat = 0 then 1 else 0) → A G m_CL_setBy 135 [(10, I r16), (0, O 3), (2, I v2), (3, O 4), (4, O 28), (5, O 1), (6, I v6), (7, I v7), (8, I v8), (9, I v9)] [I w_0] u15 P := by
                  intro w_0 z_0
                  subst z_0
                  refine r_istore (q := 137) (dc dt_CL_setBy 72 rfl) rfl (by decide) rfl ?_
                  refine r_iload (q := 139) (dc dt_CL_setBy 73 rfl) rfl 0 rfl ?_
                  obtain ⟨ho, h⟩ := h
                  have hJ : ∀ (w_0 : Int), w_0 = (if u15.1 65 v8.toNat = 0 ∧ (v6 = 0 ∨ b_CL_isBehindBar u15 28 v8) then 1 else 0) → A G m_CL_setBy 163 [(11, I (if u15.1 65 v8.toNat = 0 then 1 else 0)), (10, I r16), (0, O 3), (2, I v2), (3, O 4), (4, O 28), (5, O 1), (6, I v6), (7, I v7), (8, I v8), (9, I v9)] [I w_0] u15 P := by
                    intro w_0 z_0
                    subst z_0
                    refine r_istore (q := 165) (dc dt_CL_setBy 85 rfl) rfl (by decide) rfl ?_
                    refine r_iload (q := 167) (dc dt_CL_setBy 86 rfl) rfl 0 rfl ?_
                    obtain ⟨ho, h⟩ := h
                    have hJ : ∀ (w_0 : Int), w_0 = (if ¬ (u15.1 65 v8.toNat = 0 ∧ (v6 = 0 ∨ b_CL_isBehindBar u15 28 v8)) then u15.1 (176 + (u15.1 60 ((v7 + 1).toNat)).toNat) 7 else (0 : Int)) → A G m_CL_setBy 192 [(12, I (if u15.1 65 v8.toNat = 0 ∧ (v6 = 0 ∨ b_CL_isBehindBar u15 28 v8) then 1 else 0)), (11, I (if u15.1 65 v8.toNat = 0 then 1 else 0)), (10, I r16), (0, O 3), (2, I v2), (3, O 4), (4, O 28), (5, O 1), (6, I v6), (7, I v7), (8, I v8), (9, I v9)] [I w_0] u15 P := by
                      intro w_0 z_0
                      subst z_0
                      refine r_istore (q := 194) (dc dt_CL_setBy 101 rfl) rfl (by decide) rfl ?_
                      refine r_iload (q := 196) (dc dt_CL_setBy 102 rfl) rfl 10 rfl ?_
                      refine r_iconst (q := 197) (dc dt_CL_setBy 103 rfl) rfl rfl ?_
                      refine r_iadd (q := 198) (dc dt_CL_setBy 104 rfl) rfl ?_
                      refine r_aload_n (q := 199) (dc dt_CL_setBy 105 rfl) rfl rfl 4 rfl ?_
                      refine r_getI (q := 202) (v := u15.2.1 3 0) fl_CL_9 (dc dt_CL_setBy 106 rfl) rfl ly3 rfl rfl (fun g34 => ?_)
                      obtain ⟨o35, h⟩ := h
                      refine r_icmp_ge (q := 205) (t := 223) (dc dt_CL_setBy 107 rfl) rfl (by decide) o35 g34 (fun q_ => ?_) (fun q_ => ?_)
                      · have h := h.1 q_
                        refine r_iload (q := 225) (dc dt_CL_setBy 118 rfl) rfl 10 rfl ?_
                        refine r_iconst (q := 226) (dc dt_CL_setBy 119 rfl) rfl rfl ?_
                        refine r_iadd (q := 227) (dc dt_CL_setBy 120 rfl) rfl ?_
                        exact r_iret rfl (dc dt_CL_setBy 121 rfl) o35 h
                      · have h := h.2 q_
                        refine r_aload_n (q := 206) (dc dt_CL_setBy 108 rfl) rfl rfl 4 rfl ?_
                        refine r_getO (q := 209) (v := 60) fl_CL_15 (dc dt_CL_setBy 109 rfl) rfl ly3 rfl ?_
                        refine r_iload (q := 211) (dc dt_CL_setBy 110 rfl) rfl 10 rfl ?_
                        refine r_iconst (q := 212) (dc dt_CL_setBy 111 rfl) rfl rfl ?_
                        refine r_iadd (q := 213) (dc dt_CL_setBy 112 rfl) rfl ?_
                        obtain ⟨o36, h⟩ := h
                        refine r_iald (q := 214) (v := u15.1 60 ((v7 + 2).toNat)) (dc dt_CL_setBy 113 rfl) rfl ly60 o36 rfl (fun g37 => ?_)
                        refine r_iconst (q := 215) (dc dt_CL_setBy 114 rfl) rfl rfl ?_
                        refine r_iload (q := 217) (dc dt_CL_setBy 115 rfl) rfl 0 rfl ?_
                        obtain ⟨o38, h⟩ := h
                        refine r_callNi (q := 220) mk_JS_within lm_CL_56 (RMO.of rfl) rfl (dc dt_CL_setBy 116 rfl) rfl [I (u15.1 60 ((v7 + 2).toNat)), I 0, I (if ¬ (u15.1 65 v8.toNat = 0 ∧ (v6 = 0 ∨ b_CL_isBehindBar u15 28 v8)) then u15.1 (176 + (u15.1 60 ((v7 + 1).toNat)).toNat) 7 else (0 : Int))] [] rfl rfl (Nat.le_of_ble_eq_true rfl) (sp_JS_within g37 (⟨by decide, by decide⟩ : rng 0) o38) (fun _ _ g39 z => ?_)
                        obtain ⟨z, w⟩ := z
                        subst z
                        replace w := w.symm
                        subst w
                        refine r_ifb_ne (q := 223) (t := 228) (dc dt_CL_setBy 117 rfl) rfl (by decide) (fun q_ => ?_) (fun q_ => ?_)
                        · have h := h.1 q_
                          refine r_aload (q := 230) (dc dt_CL_setBy 122 rfl) rfl 7 rfl ?_
                          refine r_iload (q := 232) (dc dt_CL_setBy 123 rfl) rfl 3 rfl ?_
                          refine r_iload (q := 234) (dc dt_CL_setBy 124 rfl) rfl 11 rfl ?_
                          refine r_aload_n (q := 235) (dc dt_CL_setBy 125 rfl) rfl rfl 4 rfl ?_
                          refine r_getO (q := 238) (v := 60) fl_CL_15 (dc dt_CL_setBy 126 rfl) rfl ly3 rfl ?_
                          refine r_iload (q := 240) (dc dt_CL_setBy 127 rfl) rfl 10 rfl ?_
                          refine r_iconst (q := 241) (dc dt_CL_setBy 128 rfl) rfl rfl ?_
                          refine r_iadd (q := 242) (dc dt_CL_setBy 129 rfl) rfl ?_
                          refine r_iald (q := 243) (v := u15.1 60 ((v7 + 1).toNat)) (dc dt_CL_setBy 130 rfl) rfl ly60 o20 rfl (fun g40 => ?_)
                          refine r_aload_n (q := 244) (dc dt_CL_setBy 131 rfl) rfl rfl 4 rfl ?_
                          refine r_getO (q := 247) (v := 60) fl_CL_15 (dc dt_CL_setBy 132 rfl) rfl ly3 rfl ?_
                          refine r_iload (q := 249) (dc dt_CL_setBy 133 rfl) rfl 10 rfl ?_
                          refine r_iconst (q := 250) (dc dt_CL_setBy 134 rfl) rfl rfl ?_
                          refine r_iadd (q := 251) (dc dt_CL_setBy 135 rfl) rfl ?_
                          refine r_iald (q := 252) (v := u15.1 60 ((v7 + 2).toNat)) (dc dt_CL_setBy 136 rfl) rfl ly60 o36 rfl (fun g41 => ?_)
                          refine r_callVv (q := 255) mk_LN_addPiece lm_CL_60 (RMO.of rfl) rfl (dc dt_CL_setBy 137 rfl) rfl rfl [I r16, I v8, I (u15.1 60 ((v7 + 1).toNat)), I (u15.1 60 ((v7 + 2).toNat))] [] rfl rfl (Nat.le_of_ble_eq_true rfl) h (fun u42 h => ?_)
                          refine r_iload (q := 257) (dc dt_CL_setBy 138 rfl) rfl 2 rfl ?_
                          obtain ⟨ho, h⟩ := h
                          have hJ : ∀ (w_0 : Int), w_0 = (if (¬ (u15.1 65 v8.toNat = 0)) ∨ (v6 ≠ 0 ∧ u42.1 60 ((v7 + 2).toNat) = 0) then 1 else 0) → A G m_CL_setBy 282 [(13, I (if ¬ (u15.1 65 v8.toNat = 0 ∧ (v6 = 0 ∨ b_CL_isBehindBar u15 28 v8)) then u15.1 (176 + (u15.1 60 ((v7 + 1).toNat)).toNat) 7 else (0 : Int))), (12, I (if u15.1 65 v8.toNat = 0 ∧ (v6 = 0 ∨ b_CL_isBehindBar u15 28 v8) then 1 else 0)), (11, I (if u15.1 65 v8.toNat = 0 then 1 else 0)), (10, I r16), (0, O 3), (2, I v2), (3, O 4), (4, O 28), (5, O 1), (6, I v6), (7, I v7), (8, I v8), (9, I v9)] [I w_0] u42 P := by
                            intro w_0 z_0
                            subst z_0
                            refine r_istore (q := 284) (dc dt_CL_setBy 152 rfl) rfl (by decide) rfl ?_
                            refine r_iload (q := 286) (dc dt_CL_setBy 153 rfl) rfl 11 rfl ?_
                            refine r_aload (q := 288) (dc dt_CL_setBy 154 rfl) rfl 9 rfl ?_
                            refine r_getO (q := 291) (v := 49) fl_CL_64 (dc dt_CL_setBy 155 rfl) rfl ly1 rfl ?_
                            refine r_iload (q := 293) (dc dt_CL_setBy 156 rfl) rfl 4 rfl ?_
                            obtain ⟨o45, h⟩ := h
                            refine r_iald (q := 294) (v := u42.1 49 r16.toNat) (dc dt_CL_setBy 157 rfl) rfl ly49 o45 rfl (fun g46 => ?_)
                            refine r_iadd (q := 295) (dc dt_CL_setBy 158 rfl) rfl ?_
                            refine r_istore (q := 297) (dc dt_CL_setBy 159 rfl) rfl (by decide) rfl ?_
                            refine r_iinc (q := 300) (k := 11) (dc dt_CL_setBy 160 rfl) rfl rfl (by decide) rfl ?_
                            refine r_iinc (q := 303) (k := 12) (dc dt_CL_setBy 161 rfl) rfl rfl (by decide) rfl ?_
                            refine r_goto (q := 25) (dc dt_CL_setBy 162 rfl) (by decide) ?_
                            exact r_loc [8, 9, 10, 11, 12, 3, 1, 2, 0] rfl h
                          clear h
                          refine r_ifb_eq (q := 260) (t := 277) (dc dt_CL_setBy 139 rfl) rfl (by decide) (fun q_ => ?_) (fun q_ => ?_)
                          · have q47 := q_
                            refine r_iconst (q := 278) (dc dt_CL_setBy 149 rfl) rfl rfl ?_
                            refine r_goto (q := 282) (dc dt_CL_setBy 150 rfl) (by decide) ?_
                            exact (hJ 1 ((if_pos (by first | omega | grind)).symm))
                          · have q47 := q_
                            have ho := ho q_
                            refine r_iload (q := 262) (dc dt_CL_setBy 140 rfl) rfl 9 rfl ?_
                            have o43 := ho
                            refine r_if_eq (q := 265) (t := 281) (dc dt_CL_setBy 141 rfl) rfl (by decide) o43 (fun q_ => ?_) (fun q_ => ?_)
                            · have q48 := q_
                              refine r_iconst (q := 282) (dc dt_CL_setBy 151 rfl) rfl rfl ?_
                              exact (hJ 0 ((if_neg (by first | omega | grind)).symm))
                            · have q48 := q_
                              refine r_aload_n (q := 266) (dc dt_CL_setBy 142 rfl) rfl rfl 4 rfl ?_
                              refine r_getO (q := 269) (v := 60) fl_CL_15 (dc dt_CL_setBy 143 rfl) rfl ly3 rfl ?_
                              refine r_iload (q := 271) (dc dt_CL_setBy 144 rfl) rfl 10 rfl ?_
                              refine r_iconst (q := 272) (dc dt_CL_setBy 145 rfl) rfl rfl ?_
                              refine r_iadd (q := 273) (dc dt_CL_setBy 146 rfl) rfl ?_
                              refine r_iald (q := 274) (v := u42.1 60 ((v7 + 2).toNat)) (dc dt_CL_setBy 147 rfl) rfl ly60 o36 rfl (fun g44 => ?_)
                              refine r_if_ne (q := 277) (t := 281) (dc dt_CL_setBy 148 rfl) rfl (by decide) g44 (fun q_ => ?_) (fun q_ => ?_)
                              · have q49 := q_
                                refine r_iconst (q := 282) (dc dt_CL_setBy 151 rfl) rfl rfl ?_
                                exact (hJ 0 ((if_neg (by first | omega | grind)).symm))
                              · have q49 := q_
                                refine r_iconst (q := 278) (dc dt_CL_setBy 149 rfl) rfl rfl ?_
                                refine r_goto (q := 282) (dc dt_CL_setBy 150 rfl) (by decide) ?_
                                exact (hJ 1 ((if_pos (by first | omega | grind)).symm))
                        · have h := h.2 q_
                          refine r_iload (q := 225) (dc dt_CL_setBy 118 rfl) rfl 10 rfl ?_
                          refine r_iconst (q := 226) (dc dt_CL_setBy 119 rfl) rfl rfl ?_
                          refine r_iadd (q := 227) (dc dt_CL_setBy 120 rfl) rfl ?_
                          exact r_iret rfl (dc dt_CL_setBy 121 rfl) o35 h
                    clear h
                    refine r_ifb_eq (q := 170) (t := 174) (dc dt_CL_setBy 87 rfl) rfl (by decide) (fun q_ => ?_) (fun q_ => ?_)
                    · have q50 := q_
                      have ho := ho q_
                      refine r_aload (q := 176) (dc dt_CL_setBy 90 rfl) rfl 7 rfl ?_
                      refine r_getO (q := 179) (v := 54) fl_CL_50 (dc dt_CL_setBy 91 rfl) rfl ly1 rfl ?_
                      refine r_aload_n (q := 180) (dc dt_CL_setBy 92 rfl) rfl rfl 3 rfl ?_
                      refine r_getO (q := 183) (v := 60) fl_CL_15 (dc dt_CL_setBy 93 rfl) rfl ly3 rfl ?_
                      refine r_iload (q := 185) (dc dt_CL_setBy 94 rfl) rfl 9 rfl ?_
                      refine r_iconst (q := 186) (dc dt_CL_setBy 95 rfl) rfl rfl ?_
                      refine r_iadd (q := 187) (dc dt_CL_setBy 96 rfl) rfl ?_
                      refine r_iald (q := 188) (v := u15.1 60 ((v7 + 1).toNat)) (dc dt_CL_setBy 97 rfl) rfl ly60 o20 rfl (fun g31 => ?_)
                      have o32 := ho
                      refine r_aald (q := 189) (dc dt_CL_setBy 98 rfl) rfl ly54 o32 rfl ?_
                      refine r_bipush (q := 191) (dc dt_CL_setBy 99 rfl) rfl (by decide) ?_
                      refine r_iald (q := 192) (v := u15.1 (176 + (u15.1 60 ((v7 + 1).toNat)).toNat) 7) (dc dt_CL_setBy 100 rfl) rfl (lyr_176 o32) ⟨by decide, by decide⟩ rfl (fun g33 => ?_)
                      exact (hJ (u15.1 (176 + (u15.1 60 ((v7 + 1).toNat)).toNat) 7) ((if_pos (by first | omega | grind)).symm))
                    · have q50 := q_
                      refine r_iconst (q := 171) (dc dt_CL_setBy 88 rfl) rfl rfl ?_
                      refine r_goto (q := 192) (dc dt_CL_setBy 89 rfl) (by decide) ?_
                      exact (hJ 0 ((if_neg (by first | omega | grind)).symm))
                  clear h
                  refine r_ifb_eq (q := 142) (t := 162) (dc dt_CL_setBy 74 rfl) rfl (by decide) (fun q_ => ?_) (fun q_ => ?_)
                  · have q51 := q_
                    refine r_iconst (q := 163) (dc dt_CL_setBy 84 rfl) rfl rfl ?_
                    exact (hJ 0 ((if_neg (by first | omega | grind)).symm))
                  · have q51 := q_
                    have ho := ho q_
                    refine r_iload (q := 144) (dc dt_CL_setBy 75 rfl) rfl 7 rfl ?_
                    obtain ⟨o28, ho⟩ := ho
                    refine r_if_eq (q := 147) (t := 158) (dc dt_CL_setBy 76 rfl) rfl (by decide) o28 (fun q_ => ?_) (fun q_ => ?_)
                    · have q52 := q_
                      refine r_iconst (q := 159) (dc dt_CL_setBy 82 rfl) rfl rfl ?_
                      refine r_goto (q := 163) (dc dt_CL_setBy 83 rfl) (by decide) ?_
                      exact (hJ 1 ((if_pos (by first | omega | grind)).symm))
                    · have q52 := q_
                      have ho := ho q_
                      refine r_aload_n (q := 148) (dc dt_CL_setBy 77 rfl) rfl rfl 4 rfl ?_
                      refine r_aload (q := 150) (dc dt_CL_setBy 78 rfl) rfl 5 rfl ?_
                      refine r_iload (q := 152) (dc dt_CL_setBy 79 rfl) rfl 9 rfl ?_
                      have o29 := ho
                      refine r_callSi (q := 155) mk_CL_isBehindBar lm_CL_46 (RMO.of rfl) rfl (dc dt_CL_setBy 80 rfl) rfl [O 4, O 28, I v8] [] rfl rfl (Nat.le_of_ble_eq_true rfl) (sp_CL_isBehindBar (by unfold isL; decide) o29) (fun _ _ g30 z => ?_)
                      obtain ⟨z, w⟩ := z
                      subst z
                      replace w := w.symm
                      subst w
                      refine r_ifb_eq (q := 158) (t := 162) (dc dt_CL_setBy 81 rfl) rfl (by decide) (fun q_ => ?_) (fun q_ => ?_)
                      · have q53 := q_
                        refine r_iconst (q := 163) (dc dt_CL_setBy 84 rfl) rfl rfl ?_
                        exact (hJ 0 ((if_neg (by first | omega | grind)).symm))
                      · have q53 := q_
                        refine r_iconst (q := 159) (dc dt_CL_setBy 82 rfl) rfl rfl ?_
                        refine r_goto (q := 163) (dc dt_CL_setBy 83 rfl) (by decide) ?_
                        exact (hJ 1 ((if_pos (by first | omega | grind)).symm))
                clear h
                refine r_if_ne (q := 130) (t := 134) (dc dt_CL_setBy 68 rfl) rfl (by decide) g27 (fun q_ => ?_) (fun q_ => ?_)
                · have q54 := q_
                  refine r_iconst (q := 135) (dc dt_CL_setBy 71 rfl) rfl rfl ?_
                  exact (hJ 0 ((if_neg (by first | omega | grind)).symm))
                · have q54 := q_
                  refine r_iconst (q := 131) (dc dt_CL_setBy 69 rfl) rfl rfl ?_
                  refine r_goto (q := 135) (dc dt_CL_setBy 70 rfl) (by decide) ?_
                  exact (hJ 1 ((if_pos (by first | omega | grind)).symm))
              · have h := h.2 q_
                refine r_iload (q := 117) (dc dt_CL_setBy 60 rfl) rfl 7 rfl ?_
                refine r_iconst (q := 118) (dc dt_CL_setBy 61 rfl) rfl rfl ?_
                refine r_iadd (q := 119) (dc dt_CL_setBy 62 rfl) rfl ?_
                exact r_iret rfl (dc dt_CL_setBy 63 rfl) o19 h
          · have h := h.2 q_
            refine r_iload (q := 76) (dc dt_CL_setBy 38 rfl) rfl 7 rfl ?_
            exact r_iret rfl (dc dt_CL_setBy 39 rfl) o10 h
