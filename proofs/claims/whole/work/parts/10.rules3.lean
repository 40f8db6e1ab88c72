theorem fl_BX_15 : FL R_BX 15 10 1 := FL.of rfl (by decide) rfl 432 (by decide +kernel)
theorem fl_BX_19 : FL R_BX 19 10 2 := FL.of rfl (by decide) rfl 435 (by decide +kernel)
theorem fl_BX_22 : FL R_BX 22 10 3 := FL.of rfl (by decide) rfl 436 (by decide +kernel)
theorem fl_BX_25 : FL R_BX 25 10 4 := FL.of rfl (by decide) rfl 439 (by decide +kernel)
theorem fl_BX_9 : FL R_BX 9 10 0 := FL.of rfl (by decide) rfl 427 (by decide +kernel)
theorem fl_FI_34 : FL R_FI 34 5 8 := FL.of rfl (by decide) rfl 303 (by decide +kernel)
theorem fl_FI_37 : FL R_FI 37 5 9 := FL.of rfl (by decide) rfl 304 (by decide +kernel)
theorem fl_FI_40 : FL R_FI 40 5 10 := FL.of rfl (by decide) rfl 305 (by decide +kernel)
theorem fl_FI_43 : FL R_FI 43 5 11 := FL.of rfl (by decide) rfl 306 (by decide +kernel)
theorem fl_FI_68 : FL R_FI 68 4 15 := FL.of rfl (by decide) rfl 251 (by decide +kernel)
theorem fl_JS_69 : FL R_JS 69 0 7 := FL.of rfl (by decide) rfl 540 (by decide +kernel)
theorem fl_JS_73 : FL R_JS 73 0 8 := FL.of rfl (by decide) rfl 541 (by decide +kernel)
theorem fl_JS_83 : FL R_JS 83 0 11 := FL.of rfl (by decide) rfl 544 (by decide +kernel)
theorem fl_LN_104 : FL R_LN 104 11 0 := FL.of rfl (by decide) rfl 462 (by decide +kernel)
theorem fl_LN_105 : FL R_LN 105 1 5 := FL.of rfl (by decide) rfl 115 (by decide +kernel)
theorem fl_LN_108 : FL R_LN 108 10 4 := FL.of rfl (by decide) rfl 440 (by decide +kernel)
theorem fl_LN_111 : FL R_LN 111 10 3 := FL.of rfl (by decide) rfl 437 (by decide +kernel)
theorem fl_LN_114 : FL R_LN 114 1 3 := FL.of rfl (by decide) rfl 110 (by decide +kernel)
theorem fl_LN_117 : FL R_LN 117 4 1 := FL.of rfl (by decide) rfl 220 (by decide +kernel)
theorem fl_LN_121 : FL R_LN 121 2 2 := FL.of rfl (by decide) rfl 179 (by decide +kernel)
theorem fl_LN_130 : FL R_LN 130 10 1 := FL.of rfl (by decide) rfl 433 (by decide +kernel)
theorem fl_LN_133 : FL R_LN 133 11 1 := FL.of rfl (by decide) rfl 465 (by decide +kernel)
theorem fl_LN_134 : FL R_LN 134 11 2 := FL.of rfl (by decide) rfl 468 (by decide +kernel)
theorem fl_LN_15 : FL R_LN 15 9 3 := FL.of rfl (by decide) rfl 486 (by decide +kernel)
theorem fl_LN_18 : FL R_LN 18 9 4 := FL.of rfl (by decide) rfl 489 (by decide +kernel)
theorem fl_LN_21 : FL R_LN 21 9 5 := FL.of rfl (by decide) rfl 491 (by decide +kernel)
theorem fl_LN_24 : FL R_LN 24 9 6 := FL.of rfl (by decide) rfl 493 (by decide +kernel)
theorem fl_LN_28 : FL R_LN 28 9 7 := FL.of rfl (by decide) rfl 496 (by decide +kernel)
theorem fl_LN_31 : FL R_LN 31 9 8 := FL.of rfl (by decide) rfl 499 (by decide +kernel)
theorem fl_LN_34 : FL R_LN 34 9 9 := FL.of rfl (by decide) rfl 501 (by decide +kernel)
theorem fl_LN_40 : FL R_LN 40 9 10 := FL.of rfl (by decide) rfl 503 (by decide +kernel)
theorem fl_LN_47 : FL R_LN 47 9 11 := FL.of rfl (by decide) rfl 506 (by decide +kernel)
theorem fl_LN_51 : FL R_LN 51 9 0 := FL.of rfl (by decide) rfl 481 (by decide +kernel)
theorem fl_LN_55 : FL R_LN 55 9 1 := FL.of rfl (by decide) rfl 482 (by decide +kernel)
theorem fl_LN_59 : FL R_LN 59 10 0 := FL.of rfl (by decide) rfl 428 (by decide +kernel)
theorem fl_LN_62 : FL R_LN 62 4 4 := FL.of rfl (by decide) rfl 226 (by decide +kernel)
theorem fl_LN_67 : FL R_LN 67 4 5 := FL.of rfl (by decide) rfl 229 (by decide +kernel)
theorem fl_LN_70 : FL R_LN 70 1 10 := FL.of rfl (by decide) rfl 130 (by decide +kernel)
theorem fl_LN_9 : FL R_LN 9 9 2 := FL.of rfl (by decide) rfl 483 (by decide +kernel)
theorem fl_MK_12 : FL R_MK 12 11 0 := FL.of rfl (by decide) rfl 461 (by decide +kernel)
theorem fl_MK_25 : FL R_MK 25 11 3 := FL.of rfl (by decide) rfl 470 (by decide +kernel)
theorem fl_MK_38 : FL R_MK 38 10 0 := FL.of rfl (by decide) rfl 429 (by decide +kernel)
theorem lm_FI_102 : Cond.methodLink R_FI 102 (yM m_SC_formsOf) ∈ gt := gt_at 828 (by decide +kernel) rfl
theorem lm_FI_105 : Cond.methodLink R_FI 105 (yM m_SC_formNumber) ∈ gt := gt_at 829 (by decide +kernel) rfl
theorem lm_FI_109 : Cond.methodLink R_FI 109 (yM m_FI_offerForm) ∈ gt := gt_at 830 (by decide +kernel) rfl
theorem lm_FI_113 : Cond.methodLink R_FI 113 (yM m_FI_mostAt) ∈ gt := gt_at 834 (by decide +kernel) rfl
theorem lm_FI_116 : Cond.methodLink R_FI 116 (yM m_FI_stateBehind) ∈ gt := gt_at 838 (by decide +kernel) rfl
theorem lm_FI_123 : Cond.methodLink R_FI 123 (yM m_SC_priceOf) ∈ gt := gt_at 842 (by decide +kernel) rfl
theorem lm_FI_126 : Cond.methodLink R_FI 126 (yM m_FI_offer) ∈ gt := gt_at 846 (by decide +kernel) rfl
theorem lm_FI_140 : Cond.methodLink R_FI 140 (yM m_LN_begin) ∈ gt := gt_at 867 (by decide +kernel) rfl
theorem lm_FI_146 : Cond.methodLink R_FI 146 (yM m_FI_choose) ∈ gt := gt_at 871 (by decide +kernel) rfl
theorem lm_FI_150 : Cond.methodLink R_FI 150 (yM m_LN_addPiece) ∈ gt := gt_at 879 (by decide +kernel) rfl
theorem lm_FI_153 : Cond.methodLink R_FI 153 (yM m_FI_chooseStretch) ∈ gt := gt_at 875 (by decide +kernel) rfl
theorem lm_FI_64 : Cond.methodLink R_FI 64 (yM m_FI_statesAt) ∈ gt := gt_at 811 (by decide +kernel) rfl
theorem lm_FI_73 : Cond.methodLink R_FI 73 (yM m_UN_kind) ∈ gt := gt_at 815 (by decide +kernel) rfl
theorem lm_FI_77 : Cond.methodLink R_FI 77 (yM m_FI_offerKind) ∈ gt := gt_at 819 (by decide +kernel) rfl
theorem lm_FI_95 : Cond.methodLink R_FI 95 (yM m_UN_lackMarks) ∈ gt := gt_at 823 (by decide +kernel) rfl
theorem lm_FI_99 : Cond.methodLink R_FI 99 (yM m_UN_placeOf) ∈ gt := gt_at 827 (by decide +kernel) rfl
theorem lm_JS_377 : Cond.methodLink R_JS 377 (yM m_LN_putMarks) ∈ gt := gt_at 892 (by decide +kernel) rfl
theorem lm_LN_126 : Cond.methodLink R_LN 126 (yM m_LN_putMark) ∈ gt := gt_at 896 (by decide +kernel) rfl
theorem lm_LN_137 : Cond.methodLink R_LN 137 (yM m_MK_lift) ∈ gt := gt_at 901 (by decide +kernel) rfl
theorem lm_LN_76 : Cond.methodLink R_LN 76 (yM m_BX_addBox) ∈ gt := gt_at 883 (by decide +kernel) rfl
theorem lm_LN_80 : Cond.methodLink R_LN 80 (yM m_SC_priceOf) ∈ gt := gt_at 887 (by decide +kernel) rfl
theorem lm_LN_98 : Cond.methodLink R_LN 98 (yM m_SC_plainForm) ∈ gt := gt_at 900 (by decide +kernel) rfl
theorem lm_MK_28 : Cond.methodLink R_MK 28 (yM m_BX_wayOff) ∈ gt := gt_at 905 (by decide +kernel) rfl
theorem lm_MK_42 : Cond.methodLink R_MK 42 (yM m_BX_addBox) ∈ gt := gt_at 910 (by decide +kernel) rfl
theorem lm_MK_32 : Cond.methodLink R_MK 32 Lib.Math.min.name ∈ gt := gt_at 909 (by decide +kernel) rfl
theorem mk_BX_addBox : MKV m_BX_addBox 10 4 := ⟨⟨gt_at 886 (by decide +kernel) rfl, gt_at 80 (by decide +kernel) rfl, by decide +kernel, by decide +kernel, by decide +kernel⟩, gt_at 884 (by decide +kernel) rfl, gt_at 885 (by decide +kernel) rfl, _, _, rfl⟩
theorem mk_BX_wayOff : MKV m_BX_wayOff 10 5 := ⟨⟨gt_at 908 (by decide +kernel) rfl, gt_at 80 (by decide +kernel) rfl, by decide +kernel, by decide +kernel, by decide +kernel⟩, gt_at 906 (by decide +kernel) rfl, gt_at 907 (by decide +kernel) rfl, _, _, rfl⟩
theorem mk_FI_choose : MKV m_FI_choose 5 3 := ⟨⟨gt_at 874 (by decide +kernel) rfl, gt_at 76 (by decide +kernel) rfl, by decide +kernel, by decide +kernel, by decide +kernel⟩, gt_at 873 (by decide +kernel) rfl, gt_at 16 (by decide +kernel) rfl, _, _, rfl⟩
theorem mk_FI_chooseStretch : MKV m_FI_chooseStretch 5 5 := ⟨⟨gt_at 878 (by decide +kernel) rfl, gt_at 76 (by decide +kernel) rfl, by decide +kernel, by decide +kernel, by decide +kernel⟩, gt_at 877 (by decide +kernel) rfl, gt_at 17 (by decide +kernel) rfl, _, _, rfl⟩
theorem mk_FI_mostAt : MKV m_FI_mostAt 5 2 := ⟨⟨gt_at 837 (by decide +kernel) rfl, gt_at 76 (by decide +kernel) rfl, by decide +kernel, by decide +kernel, by decide +kernel⟩, gt_at 836 (by decide +kernel) rfl, gt_at 13 (by decide +kernel) rfl, _, _, rfl⟩
theorem mk_FI_offer : MKV m_FI_offer 5 4 := ⟨⟨gt_at 849 (by decide +kernel) rfl, gt_at 76 (by decide +kernel) rfl, by decide +kernel, by decide +kernel, by decide +kernel⟩, gt_at 848 (by decide +kernel) rfl, gt_at 15 (by decide +kernel) rfl, _, _, rfl⟩
theorem mk_FI_offerForm : MKV m_FI_offerForm 5 4 := ⟨⟨gt_at 833 (by decide +kernel) rfl, gt_at 76 (by decide +kernel) rfl, by decide +kernel, by decide +kernel, by decide +kernel⟩, gt_at 832 (by decide +kernel) rfl, gt_at 12 (by decide +kernel) rfl, _, _, rfl⟩
theorem mk_FI_offerKind : MKV m_FI_offerKind 5 3 := ⟨⟨gt_at 822 (by decide +kernel) rfl, gt_at 76 (by decide +kernel) rfl, by decide +kernel, by decide +kernel, by decide +kernel⟩, gt_at 821 (by decide +kernel) rfl, gt_at 11 (by decide +kernel) rfl, _, _, rfl⟩
theorem mk_FI_stateBehind : MKV m_FI_stateBehind 5 4 := ⟨⟨gt_at 841 (by decide +kernel) rfl, gt_at 76 (by decide +kernel) rfl, by decide +kernel, by decide +kernel, by decide +kernel⟩, gt_at 840 (by decide +kernel) rfl, gt_at 14 (by decide +kernel) rfl, _, _, rfl⟩
theorem mk_FI_statesAt : MKV m_FI_statesAt 5 1 := ⟨⟨gt_at 814 (by decide +kernel) rfl, gt_at 76 (by decide +kernel) rfl, by decide +kernel, by decide +kernel, by decide +kernel⟩, gt_at 813 (by decide +kernel) rfl, gt_at 10 (by decide +kernel) rfl, _, _, rfl⟩
theorem mk_LN_addPiece : MKV m_LN_addPiece 9 4 := ⟨⟨gt_at 882 (by decide +kernel) rfl, gt_at 79 (by decide +kernel) rfl, by decide +kernel, by decide +kernel, by decide +kernel⟩, gt_at 880 (by decide +kernel) rfl, gt_at 881 (by decide +kernel) rfl, _, _, rfl⟩
theorem mk_LN_begin : MKV m_LN_begin 9 2 := ⟨⟨gt_at 870 (by decide +kernel) rfl, gt_at 79 (by decide +kernel) rfl, by decide +kernel, by decide +kernel, by decide +kernel⟩, gt_at 868 (by decide +kernel) rfl, gt_at 869 (by decide +kernel) rfl, _, _, rfl⟩
theorem mk_LN_putMark : MKV m_LN_putMark 9 4 := ⟨⟨gt_at 899 (by decide +kernel) rfl, gt_at 79 (by decide +kernel) rfl, by decide +kernel, by decide +kernel, by decide +kernel⟩, gt_at 898 (by decide +kernel) rfl, gt_at 19 (by decide +kernel) rfl, _, _, rfl⟩
theorem mk_LN_putMarks : MKV m_LN_putMarks 9 0 := ⟨⟨gt_at 895 (by decide +kernel) rfl, gt_at 79 (by decide +kernel) rfl, by decide +kernel, by decide +kernel, by decide +kernel⟩, gt_at 893 (by decide +kernel) rfl, gt_at 894 (by decide +kernel) rfl, _, _, rfl⟩
theorem mk_MK_lift : MKV m_MK_lift 11 6 := ⟨⟨gt_at 904 (by decide +kernel) rfl, gt_at 81 (by decide +kernel) rfl, by decide +kernel, by decide +kernel, by decide +kernel⟩, gt_at 902 (by decide +kernel) rfl, gt_at 903 (by decide +kernel) rfl, _, _, rfl⟩
theorem mk_SC_priceOf : MKV m_SC_priceOf 1 2 := ⟨⟨gt_at 845 (by decide +kernel) rfl, gt_at 72 (by decide +kernel) rfl, by decide +kernel, by decide +kernel, by decide +kernel⟩, gt_at 843 (by decide +kernel) rfl, gt_at 844 (by decide +kernel) rfl, _, _, rfl⟩
theorem mk_UN_kind : MKV m_UN_kind 4 2 := ⟨⟨gt_at 818 (by decide +kernel) rfl, gt_at 75 (by decide +kernel) rfl, by decide +kernel, by decide +kernel, by decide +kernel⟩, gt_at 816 (by decide +kernel) rfl, gt_at 817 (by decide +kernel) rfl, _, _, rfl⟩
theorem mk_UN_lackMarks : MKV m_UN_lackMarks 4 2 := ⟨⟨gt_at 826 (by decide +kernel) rfl, gt_at 75 (by decide +kernel) rfl, by decide +kernel, by decide +kernel, by decide +kernel⟩, gt_at 824 (by decide +kernel) rfl, gt_at 825 (by decide +kernel) rfl, _, _, rfl⟩
theorem pf_0_11 : ∀ C T N, classes[0]? = some (C, T, N) → (T 11).2.2.2 = false := fun _ _ _ h => by cases h; rfl
theorem pf_10_0 : ∀ C T N, classes[10]? = some (C, T, N) → (T 0).2.2.2 = false := fun _ _ _ h => by cases h; rfl
theorem pf_5_10 : ∀ C T N, classes[5]? = some (C, T, N) → (T 10).2.2.2 = false := fun _ _ _ h => by cases h; rfl
theorem pf_5_11 : ∀ C T N, classes[5]? = some (C, T, N) → (T 11).2.2.2 = false := fun _ _ _ h => by cases h; rfl
theorem pf_5_8 : ∀ C T N, classes[5]? = some (C, T, N) → (T 8).2.2.2 = false := fun _ _ _ h => by cases h; rfl
theorem pf_5_9 : ∀ C T N, classes[5]? = some (C, T, N) → (T 9).2.2.2 = false := fun _ _ _ h => by cases h; rfl
theorem pf_9_2 : ∀ C T N, classes[9]? = some (C, T, N) → (T 2).2.2.2 = false := fun _ _ _ h => by cases h; rfl
theorem pf_9_3 : ∀ C T N, classes[9]? = some (C, T, N) → (T 3).2.2.2 = false := fun _ _ _ h => by cases h; rfl
theorem pf_9_4 : ∀ C T N, classes[9]? = some (C, T, N) → (T 4).2.2.2 = false := fun _ _ _ h => by cases h; rfl
theorem pf_9_5 : ∀ C T N, classes[9]? = some (C, T, N) → (T 5).2.2.2 = false := fun _ _ _ h => by cases h; rfl
def tb_FI_offerForm : List (Nat × Instr × Nat) := [(0, .aload_n 0, 1), (1, .iload_n 2, 1), (2, .iload 4, 2), (4, .invokevirtual 113, 3), (7, .istore 5, 2), (9, .iload_n 1, 1), (10, .aload_n 0, 1), (11, .getfield 46, 3), (14, .getfield 92, 3), (17, .iload_n 3, 1), (18, .iaload, 1), (19, .iadd, 1), (20, .istore 6, 2), (22, .iconst 0, 1), (23, .istore 7, 2), (25, .iload 7, 2), (27, .iload 5, 2), (29, .if_icmp .gt 62, 3), (32, .iload 6, 2), (34, .iconst 3, 1), (35, .imul, 1), (36, .aload_n 0, 1), (37, .iload_n 1, 1), (38, .iload_n 2, 1), (39, .iload_n 3, 1), (40, .iload 7, 2), (42, .invokevirtual 116, 3), (45, .iadd, 1), (46, .istore 8, 2), (48, .aload_n 0, 1), (49, .iload_n 1, 1), (50, .iconst 3, 1), (51, .imul, 1), (52, .iload_n 2, 1), (53, .iadd, 1), (54, .iload 8, 2), (56, .aload_n 0, 1), (57, .getfield 46, 3), (60, .getfield 120, 3), (63, .iload 4, 2), (65, .aaload, 1), (66, .iconst 2, 1), (67, .iaload, 1), (68, .iload 7, 2), (70, .iadd, 1), (71, .aload_n 0, 1), (72, .getfield 46, 3), (75, .iload 4, 2), (77, .iload 7, 2), (79, .invokevirtual 123, 3), (82, .invokevirtual 126, 3), (85, .iinc 7 1, 3), (88, .goto (-63), 3), (91, .return_, 1)]
theorem dt_FI_offerForm : DT (cM m_FI_offerForm) tb_FI_offerForm := by unfold DT; decide +kernel
abbrev a_FI_offerForm_0 (G : GT)  (v1 : Int) (v2 : Int) (v3 : Int) (v4 : Int) (σ : St) (P : Int → St → Prop) : Prop := A G m_FI_offerForm 0 [(0, O 5), (1, I v1), (2, I v2), (3, I v3), (4, I v4)] [] σ P
abbrev a_FI_offerForm_25 (G : GT)  (v1 : Int) (v2 : Int) (v3 : Int) (v4 : Int) (v5 : Int) (v6 : Int) (v7 : Int) (σ : St) (P : Int → St → Prop) : Prop := A G m_FI_offerForm 25 [(0, O 5), (1, I v1), (2, I v2), (3, I v3), (4, I v4), (5, I v5), (6, I v6), (7, I v7)] [] σ P
set_option maxRecDepth 20000 in
theorem k_FI_offerForm_0 {G : GT} {σ : St} {P : Int → St → Prop}  {v1 : Int} {v2 : Int} {v3 : Int} {v4 : Int}  
    (h : rng v2 ∧ (v2 = 0 → 0 ≤ v4 ∧ v4 < 200) ∧ rng (if v2 ≠ 0 then (0 : Int) else σ.1 (176 + v4.toNat) 7) ∧ (0 ≤ v3 ∧ v3 < 60) ∧ a_FI_offerForm_25 G v1 v2 v3 v4 (if v2 ≠ 0 then (0 : Int) else σ.1 (176 + v4.toNat) 7) (v1 + (σ.1 49 v3.toNat)) 0 σ P) :
    a_FI_offerForm_0 G v1 v2 v3 v4 σ P := by
  refine r_aload_n (q := 1) (dc dt_FI_offerForm 0 rfl) rfl rfl 0 rfl ?_
  refine r_iload_n (q := 2) (dc dt_FI_offerForm 1 rfl) rfl rfl 2 rfl ?_
  refine r_iload (q := 4) (dc dt_FI_offerForm 2 rfl) rfl 4 rfl ?_
  obtain ⟨o1, h⟩ := h
  obtain ⟨o2, h⟩ := h
  obtain ⟨o3, h⟩ := h
  refine r_callVi (q := 7) mk_FI_mostAt lm_FI_113 (RMO.of rfl) rfl (dc dt_FI_offerForm 3 rfl) rfl ly5 [I v2, I v4] [] rfl rfl (Nat.le_of_ble_eq_true rfl) (sp_FI_mostAt o1 o2 o3) (fun _ _ g4 z => ?_)
  obtain ⟨z, w⟩ := z
  subst z
  replace w := w.symm
  subst w
  refine r_istore (q := 9) (dc dt_FI_offerForm 4 rfl) rfl (by decide) rfl ?_
  refine r_iload_n (q := 10) (dc dt_FI_offerForm 5 rfl) rfl rfl 2 rfl ?_
  refine r_aload_n (q := 11) (dc dt_FI_offerForm 6 rfl) rfl rfl 1 rfl ?_
  refine r_getO (q := 14) (v := 1) fl_FI_46 (dc dt_FI_offerForm 7 rfl) rfl ly5 rfl ?_
  refine r_getO (q := 17) (v := 49) fl_FI_92 (dc dt_FI_offerForm 8 rfl) rfl ly1 rfl ?_
  refine r_iload_n (q := 18) (dc dt_FI_offerForm 9 rfl) rfl rfl 4 rfl ?_
  obtain ⟨o5, h⟩ := h
  refine r_iald (q := 19) (v := σ.1 49 v3.toNat) (dc dt_FI_offerForm 10 rfl) rfl ly49 o5 rfl (fun g6 => ?_)
  refine r_iadd (q := 20) (dc dt_FI_offerForm 11 rfl) rfl ?_
  refine r_istore (q := 22) (dc dt_FI_offerForm 12 rfl) rfl (by decide) rfl ?_
  refine r_iconst (q := 23) (dc dt_FI_offerForm 13 rfl) rfl rfl ?_
  refine r_istore (q := 25) (dc dt_FI_offerForm 14 rfl) rfl (by decide) rfl ?_
  exact r_loc [3, 4, 5, 6, 7, 2, 1, 0] rfl h
set_option maxRecDepth 20000 in
theorem k_FI_offerForm_25 {G : GT} {σ : St} {P : Int → St → Prop}  {v1 : Int} {v2 : Int} {v3 : Int} {v4 : Int} {v5 : Int} {v6 : Int} {v7 : Int}  
    (h : rng v7 ∧ rng v5 ∧ (v5 < v7 → P 0 σ) ∧ (v7 ≤ v5 → p_FI_stateBehind σ v1 v2 v3 v7 ∧ (0 ≤ v4 ∧ v4 < 200) ∧ rng ((σ.1 (176 + v4.toNat) 5) + (((σ.1 (176 + v4.toNat) 8) * v7) * v7)) ∧ CJ G m_FI_offer [O 5, I ((v1 * 3) + v2), I ((v6 * 3) + (f_FI_stateBehind σ v1 v2 v3 v7)), I ((σ.1 (176 + v4.toNat) 2) + v7), I ((σ.1 (176 + v4.toNat) 5) + (((σ.1 (176 + v4.toNat) 8) * v7) * v7))] σ (fun _ u21 => a_FI_offerForm_25 G v1 v2 v3 v4 v5 v6 (v7 + 1) u21 P))) :
    a_FI_offerForm_25 G v1 v2 v3 v4 v5 v6 v7 σ P := by
  refine r_iload (q := 27) (dc dt_FI_offerForm 15 rfl) rfl 7 rfl ?_
  refine r_iload (q := 29) (dc dt_FI_offerForm 16 rfl) rfl 5 rfl ?_
  obtain ⟨o7, h⟩ := h
  obtain ⟨o8, h⟩ := h
  refine r_icmp_gt (q := 32) (t := 91) (dc dt_FI_offerForm 17 rfl) rfl (by decide) o7 o8 (fun q_ => ?_) (fun q_ => ?_)
  · have h := h.1 q_
    exact r_vret rfl (dc dt_FI_offerForm 53 rfl) h
  · have h := h.2 q_
    refine r_iload (q := 34) (dc dt_FI_offerForm 18 rfl) rfl 6 rfl ?_
    refine r_iconst (q := 35) (dc dt_FI_offerForm 19 rfl) rfl rfl ?_
    refine r_imul (q := 36) (dc dt_FI_offerForm 20 rfl) rfl ?_
    refine r_aload_n (q := 37) (dc dt_FI_offerForm 21 rfl) rfl rfl 0 rfl ?_
    refine r_iload_n (q := 38) (dc dt_FI_offerForm 22 rfl) rfl rfl 1 rfl ?_
    refine r_iload_n (q := 39) (dc dt_FI_offerForm 23 rfl) rfl rfl 2 rfl ?_
    refine r_iload_n (q := 40) (dc dt_FI_offerForm 24 rfl) rfl rfl 3 rfl ?_
    refine r_iload (q := 42) (dc dt_FI_offerForm 25 rfl) rfl 7 rfl ?_
    obtain ⟨o15, h⟩ := h
    refine r_callVi (q := 45) mk_FI_stateBehind lm_FI_116 (RMO.of rfl) rfl (dc dt_FI_offerForm 26 rfl) rfl ly5 [I v1, I v2, I v3, I v7] [I (v6 * 3)] rfl rfl (Nat.le_of_ble_eq_true rfl) (sp_FI_stateBehind o15) (fun _ _ g16 z => ?_)
    obtain ⟨z, w⟩ := z
    subst z
    replace w := w.symm
    subst w
    refine r_iadd (q := 46) (dc dt_FI_offerForm 27 rfl) rfl ?_
    refine r_istore (q := 48) (dc dt_FI_offerForm 28 rfl) rfl (by decide) rfl ?_
    refine r_aload_n (q := 49) (dc dt_FI_offerForm 29 rfl) rfl rfl 1 rfl ?_
    refine r_iload_n (q := 50) (dc dt_FI_offerForm 30 rfl) rfl rfl 2 rfl ?_
    refine r_iconst (q := 51) (dc dt_FI_offerForm 31 rfl) rfl rfl ?_
    refine r_imul (q := 52) (dc dt_FI_offerForm 32 rfl) rfl ?_
    refine r_iload_n (q := 53) (dc dt_FI_offerForm 33 rfl) rfl rfl 3 rfl ?_
    refine r_iadd (q := 54) (dc dt_FI_offerForm 34 rfl) rfl ?_
    refine r_iload (q := 56) (dc dt_FI_offerForm 35 rfl) rfl 0 rfl ?_
    refine r_aload_n (q := 57) (dc dt_FI_offerForm 36 rfl) rfl rfl 1 rfl ?_
    refine r_getO (q := 60) (v := 1) fl_FI_46 (dc dt_FI_offerForm 37 rfl) rfl ly5 rfl ?_
    refine r_getO (q := 63) (v := 54) fl_FI_120 (dc dt_FI_offerForm 38 rfl) rfl ly1 rfl ?_
    refine r_iload (q := 65) (dc dt_FI_offerForm 39 rfl) rfl 5 rfl ?_
    obtain ⟨o17, h⟩ := h
    refine r_aald (q := 66) (dc dt_FI_offerForm 40 rfl) rfl ly54 o17 rfl ?_
    refine r_iconst (q := 67) (dc dt_FI_offerForm 41 rfl) rfl rfl ?_
    refine r_iald (q := 68) (v := σ.1 (176 + v4.toNat) 2) (dc dt_FI_offerForm 42 rfl) rfl (lyr_176 o17) ⟨by decide, by decide⟩ rfl (fun g18 => ?_)
    refine r_iload (q := 70) (dc dt_FI_offerForm 43 rfl) rfl 8 rfl ?_
    refine r_iadd (q := 71) (dc dt_FI_offerForm 44 rfl) rfl ?_
    refine r_aload_n (q := 72) (dc dt_FI_offerForm 45 rfl) rfl rfl 1 rfl ?_
    refine r_getO (q := 75) (v := 1) fl_FI_46 (dc dt_FI_offerForm 46 rfl) rfl ly5 rfl ?_
    refine r_iload (q := 77) (dc dt_FI_offerForm 47 rfl) rfl 5 rfl ?_
    refine r_iload (q := 79) (dc dt_FI_offerForm 48 rfl) rfl 8 rfl ?_
    obtain ⟨o19, h⟩ := h
    refine r_callVi (q := 82) mk_SC_priceOf lm_FI_123 (RMO.of rfl) rfl (dc dt_FI_offerForm 49 rfl) rfl ly1 [I v4, I v7] [I ((σ.1 (176 + v4.toNat) 2) + v7), I ((v6 * 3) + (f_FI_stateBehind σ v1 v2 v3 v7)), I ((v1 * 3) + v2), O 5] rfl rfl (Nat.le_of_ble_eq_true rfl) (sp_SC_priceOf o17 o19) (fun _ _ g20 z => ?_)
    obtain ⟨z, w⟩ := z
    subst z
    replace w := w.symm
    subst w
    refine r_callVv (q := 85) mk_FI_offer lm_FI_126 (RMO.of rfl) rfl (dc dt_FI_offerForm 50 rfl) rfl ly5 [I ((v1 * 3) + v2), I ((v6 * 3) + (f_FI_stateBehind σ v1 v2 v3 v7)), I ((σ.1 (176 + v4.toNat) 2) + v7), I ((σ.1 (176 + v4.toNat) 5) + (((σ.1 (176 + v4.toNat) 8) * v7) * v7))] [] rfl rfl (Nat.le_of_ble_eq_true rfl) h (fun u21 h => ?_)
    refine r_iinc (q := 88) (k := 8) (dc dt_FI_offerForm 51 rfl) rfl rfl (by decide) rfl ?_
    refine r_goto (q := 25) (dc dt_FI_offerForm 52 rfl) (by decide) ?_
    exact r_loc [2, 3, 4, 5, 6, 7, 8, 0] rfl h
def tb_FI_offerKind : List (Nat × Instr × Nat) := [(0, .aload_n 0, 1), (1, .getfield 46, 3), (4, .getfield 92, 3), (7, .iload_n 3, 1), (8, .iaload, 1), (9, .istore 4, 2), (11, .iload_n 1, 1), (12, .iload 4, 2), (14, .iadd, 1), (15, .aload_n 0, 1), (16, .getfield 23, 3), (19, .if_icmp .gt 20, 3), (22, .aload_n 0, 1), (23, .getfield 50, 3), (26, .iload_n 1, 1), (27, .iload_n 1, 1), (28, .iload 4, 2), (30, .iadd, 1), (31, .iconst 1, 1), (32, .isub, 1), (33, .invokevirtual 95, 3), (36, .ifCond .eq 4, 3), (39, .return_, 1), (40, .aload_n 0, 1), (41, .getfield 50, 3), (44, .iload_n 1, 1), (45, .iload_n 3, 1), (46, .invokevirtual 99, 3), (49, .istore 5, 2), (51, .iconst 0, 1), (52, .istore 6, 2), (54, .iload 6, 2), (56, .aload_n 0, 1), (57, .getfield 46, 3), (60, .iload_n 3, 1), (61, .iload 5, 2), (63, .invokevirtual 102, 3), (66, .if_icmp .ge 48, 3), (69, .aload_n 0, 1), (70, .getfield 46, 3), (73, .iload_n 3, 1), (74, .iload 5, 2), (76, .iload 6, 2), (78, .invokevirtual 105, 3), (81, .istore 7, 2), (83, .iconst 0, 1), (84, .istore 8, 2), (86, .iload 8, 2), (88, .iload_n 2, 1), (89, .if_icmp .ge 19, 3), (92, .aload_n 0, 1), (93, .iload_n 1, 1), (94, .iload 8, 2), (96, .iload_n 3, 1), (97, .iload 7, 2), (99, .invokevirtual 109, 3), (102, .iinc 8 1, 3), (105, .goto (-19), 3), (108, .iinc 6 1, 3), (111, .goto (-57), 3), (114, .return_, 1)]
theorem dt_FI_offerKind : DT (cM m_FI_offerKind) tb_FI_offerKind := by unfold DT; decide +kernel
abbrev a_FI_offerKind_0 (G : GT)  (v1 : Int) (v2 : Int) (v3 : Int) (σ : St) (P : Int → St → Prop) : Prop := A G m_FI_offerKind 0 [(0, O 5), (1, I v1), (2, I v2), (3, I v3)] [] σ P
abbrev a_FI_offerKind_54 (G : GT)  (v1 : Int) (v2 : Int) (v3 : Int) (v5 : Int) (v6 : Int) (σ : St) (P : Int → St → Prop) : Prop := A G m_FI_offerKind 54 [(0, O 5), (1, I v1), (2, I v2), (3, I v3), (5, I v5), (6, I v6)] [] σ P
abbrev a_FI_offerKind_86 (G : GT)  (v1 : Int) (v2 : Int) (v3 : Int) (v5 : Int) (v6 : Int) (v7 : Int) (v8 : Int) (σ : St) (P : Int → St → Prop) : Prop := A G m_FI_offerKind 86 [(0, O 5), (1, I v1), (2, I v2), (3, I v3), (5, I v5), (6, I v6), (7, I v7), (8, I v8)] [] σ P
set_option maxRecDepth 20000 in
theorem k_FI_offerKind_0 {G : GT} {σ : St} {P : Int → St → Prop}  {v1 : Int} {v2 : Int} {v3 : Int}  
    (h : (0 ≤ v3 ∧ v3 < 60) ∧ rng (v1 + (σ.1 49 v3.toNat)) ∧ (σ.2.1 5 5 < v1 + (σ.1 49 v3.toNat) → P 0 σ) ∧ (v1 + (σ.1 49 v3.toNat) ≤ σ.2.1 5 5 → CJ G m_UN_lackMarks [O 4, I v1, I ((v1 + (σ.1 49 v3.toNat)) - 1)] σ (fun r6 u5 => (r6 = 0 → p_UN_placeOf u5 v1 v3 ∧ a_FI_offerKind_54 G v1 v2 v3 (f_UN_placeOf u5 v1 v3) 0 u5 P) ∧ (r6 ≠ 0 → P 0 u5)))) :
    a_FI_offerKind_0 G v1 v2 v3 σ P := by
  refine r_aload_n (q := 1) (dc dt_FI_offerKind 0 rfl) rfl rfl 0 rfl ?_
  refine r_getO (q := 4) (v := 1) fl_FI_46 (dc dt_FI_offerKind 1 rfl) rfl ly5 rfl ?_
  refine r_getO (q := 7) (v := 49) fl_FI_92 (dc dt_FI_offerKind 2 rfl) rfl ly1 rfl ?_
  refine r_iload_n (q := 8) (dc dt_FI_offerKind 3 rfl) rfl rfl 3 rfl ?_
  obtain ⟨o1, h⟩ := h
  refine r_iald (q := 9) (v := σ.1 49 v3.toNat) (dc dt_FI_offerKind 4 rfl) rfl ly49 o1 rfl (fun g2 => ?_)
  refine r_istore (q := 11) (dc dt_FI_offerKind 5 rfl) rfl (by decide) rfl ?_
  refine r_iload_n (q := 12) (dc dt_FI_offerKind 6 rfl) rfl rfl 2 rfl ?_
  refine r_iload (q := 14) (dc dt_FI_offerKind 7 rfl) rfl 0 rfl ?_
  refine r_iadd (q := 15) (dc dt_FI_offerKind 8 rfl) rfl ?_
  refine r_aload_n (q := 16) (dc dt_FI_offerKind 9 rfl) rfl rfl 1 rfl ?_
  refine r_getI (q := 19) (v := σ.2.1 5 5) fl_FI_23 (dc dt_FI_offerKind 10 rfl) rfl ly5 rfl rfl (fun g3 => ?_)
  obtain ⟨o4, h⟩ := h
  refine r_icmp_gt (q := 22) (t := 39) (dc dt_FI_offerKind 11 rfl) rfl (by decide) o4 g3 (fun q_ => ?_) (fun q_ => ?_)
  · have h := h.1 q_
    exact r_vret rfl (dc dt_FI_offerKind 22 rfl) h
  · have h := h.2 q_
    refine r_aload_n (q := 23) (dc dt_FI_offerKind 12 rfl) rfl rfl 1 rfl ?_
    refine r_getO (q := 26) (v := 4) fl_FI_50 (dc dt_FI_offerKind 13 rfl) rfl ly5 rfl ?_
    refine r_iload_n (q := 27) (dc dt_FI_offerKind 14 rfl) rfl rfl 2 rfl ?_
    refine r_iload_n (q := 28) (dc dt_FI_offerKind 15 rfl) rfl rfl 2 rfl ?_
    refine r_iload (q := 30) (dc dt_FI_offerKind 16 rfl) rfl 0 rfl ?_
    refine r_iadd (q := 31) (dc dt_FI_offerKind 17 rfl) rfl ?_
    refine r_iconst (q := 32) (dc dt_FI_offerKind 18 rfl) rfl rfl ?_
    refine r_isub (q := 33) (dc dt_FI_offerKind 19 rfl) rfl ?_
    refine r_callVi (q := 36) mk_UN_lackMarks lm_FI_95 (RMO.of rfl) rfl (dc dt_FI_offerKind 20 rfl) rfl ly4 [I v1, I ((v1 + (σ.1 49 v3.toNat)) - 1)] [] rfl rfl (Nat.le_of_ble_eq_true rfl) h (fun r6 u5 g7 h => ?_)
    refine r_if_eq (q := 39) (t := 40) (dc dt_FI_offerKind 21 rfl) rfl (by decide) g7 (fun q_ => ?_) (fun q_ => ?_)
    · have h := h.1 q_
      refine r_aload_n (q := 41) (dc dt_FI_offerKind 23 rfl) rfl rfl 1 rfl ?_
      refine r_getO (q := 44) (v := 4) fl_FI_50 (dc dt_FI_offerKind 24 rfl) rfl ly5 rfl ?_
      refine r_iload_n (q := 45) (dc dt_FI_offerKind 25 rfl) rfl rfl 2 rfl ?_
      refine r_iload_n (q := 46) (dc dt_FI_offerKind 26 rfl) rfl rfl 4 rfl ?_
      obtain ⟨o8, h⟩ := h
      refine r_callVi (q := 49) mk_UN_placeOf lm_FI_99 (RMO.of rfl) rfl (dc dt_FI_offerKind 27 rfl) rfl ly4 [I v1, I v3] [] rfl rfl (Nat.le_of_ble_eq_true rfl) (sp_UN_placeOf o8) (fun _ _ g9 z => ?_)
      obtain ⟨z, w⟩ := z
      subst z
      replace w := w.symm
      subst w
      refine r_istore (q := 51) (dc dt_FI_offerKind 28 rfl) rfl (by decide) rfl ?_
      refine r_iconst (q := 52) (dc dt_FI_offerKind 29 rfl) rfl rfl ?_
      refine r_istore (q := 54) (dc dt_FI_offerKind 30 rfl) rfl (by decide) rfl ?_
      exact r_loc [3, 4, 5, 6, 1, 0] rfl h
    · have h := h.2 q_
      exact r_vret rfl (dc dt_FI_offerKind 22 rfl) h
set_option maxRecDepth 20000 in
theorem k_FI_offerKind_54 {G : GT} {σ : St} {P : Int → St → Prop}  {v1 : Int} {v2 : Int} {v3 : Int} {v5 : Int} {v6 : Int}  
    (h : (0 ≤ (v3 * 4) + v5 ∧ (v3 * 4) + v5 < 240) ∧ rng v6 ∧ (σ.1 55 (((v3 * 4) + v5).toNat) ≤ v6 → P 0 σ) ∧ (v6 < σ.1 55 (((v3 * 4) + v5).toNat) → (0 ≤ (((v3 * 4) + v5) * 3) + v6 ∧ (((v3 * 4) + v5) * 3) + v6 < 720) ∧ a_FI_offerKind_86 G v1 v2 v3 v5 v6 (σ.1 56 (((((v3 * 4) + v5) * 3) + v6).toNat)) 0 σ P)) :
    a_FI_offerKind_54 G v1 v2 v3 v5 v6 σ P := by
  refine r_iload (q := 56) (dc dt_FI_offerKind 31 rfl) rfl 5 rfl ?_
  refine r_aload_n (q := 57) (dc dt_FI_offerKind 32 rfl) rfl rfl 0 rfl ?_
  refine r_getO (q := 60) (v := 1) fl_FI_46 (dc dt_FI_offerKind 33 rfl) rfl ly5 rfl ?_
  refine r_iload_n (q := 61) (dc dt_FI_offerKind 34 rfl) rfl rfl 3 rfl ?_
  refine r_iload (q := 63) (dc dt_FI_offerKind 35 rfl) rfl 4 rfl ?_
  obtain ⟨o10, h⟩ := h
  refine r_callVi (q := 66) mk_SC_formsOf lm_FI_102 (RMO.of rfl) rfl (dc dt_FI_offerKind 36 rfl) rfl ly1 [I v3, I v5] [I v6] rfl rfl (Nat.le_of_ble_eq_true rfl) (sp_SC_formsOf o10) (fun _ _ g11 z => ?_)
  obtain ⟨z, w⟩ := z
  subst z
  replace w := w.symm
  subst w
  obtain ⟨o12, h⟩ := h
  refine r_icmp_ge (q := 69) (t := 114) (dc dt_FI_offerKind 37 rfl) rfl (by decide) o12 g11 (fun q_ => ?_) (fun q_ => ?_)
  · have h := h.1 q_
    exact r_vret rfl (dc dt_FI_offerKind 60 rfl) h
  · have h := h.2 q_
    refine r_aload_n (q := 70) (dc dt_FI_offerKind 38 rfl) rfl rfl 0 rfl ?_
    refine r_getO (q := 73) (v := 1) fl_FI_46 (dc dt_FI_offerKind 39 rfl) rfl ly5 rfl ?_
    refine r_iload_n (q := 74) (dc dt_FI_offerKind 40 rfl) rfl rfl 3 rfl ?_
    refine r_iload (q := 76) (dc dt_FI_offerKind 41 rfl) rfl 4 rfl ?_
    refine r_iload (q := 78) (dc dt_FI_offerKind 42 rfl) rfl 5 rfl ?_
    obtain ⟨o15, h⟩ := h
    refine r_callVi (q := 81) mk_SC_formNumber lm_FI_105 (RMO.of rfl) rfl (dc dt_FI_offerKind 43 rfl) rfl ly1 [I v3, I v5, I v6] [] rfl rfl (Nat.le_of_ble_eq_true rfl) (sp_SC_formNumber o15) (fun _ _ g16 z => ?_)
    obtain ⟨z, w⟩ := z
    subst z
    replace w := w.symm
    subst w
    refine r_istore (q := 83) (dc dt_FI_offerKind 44 rfl) rfl (by decide) rfl ?_
    refine r_iconst (q := 84) (dc dt_FI_offerKind 45 rfl) rfl rfl ?_
    refine r_istore (q := 86) (dc dt_FI_offerKind 46 rfl) rfl (by decide) rfl ?_
    exact r_loc [2, 3, 4, 5, 6, 7, 1, 0] rfl h
set_option maxRecDepth 20000 in
theorem k_FI_offerKind_86 {G : GT} {σ : St} {P : Int → St → Prop}  {v1 : Int} {v2 : Int} {v3 : Int} {v5 : Int} {v6 : Int} {v7 : Int} {v8 : Int}  
    (h : rng v8 ∧ rng v2 ∧ (v2 ≤ v8 → a_FI_offerKind_54 G v1 v2 v3 v5 (v6 + 1) σ P) ∧ (v8 < v2 → CJ G m_FI_offerForm [O 5, I v1, I v8, I v3, I v7] σ (fun _ u19 => a_FI_offerKind_86 G v1 v2 v3 v5 v6 v7 (v8 + 1) u19 P))) :
    a_FI_offerKind_86 G v1 v2 v3 v5 v6 v7 v8 σ P := by
  refine r_iload (q := 88) (dc dt_FI_offerKind 47 rfl) rfl 7 rfl ?_
  refine r_iload_n (q := 89) (dc dt_FI_offerKind 48 rfl) rfl rfl 2 rfl ?_
  obtain ⟨o17, h⟩ := h
  obtain ⟨o18, h⟩ := h
  refine r_icmp_ge (q := 92) (t := 108) (dc dt_FI_offerKind 49 rfl) rfl (by decide) o17 o18 (fun q_ => ?_) (fun q_ => ?_)
  · have h := h.1 q_
    refine r_iinc (q := 111) (k := 5) (dc dt_FI_offerKind 58 rfl) rfl rfl (by decide) rfl ?_
    refine r_goto (q := 54) (dc dt_FI_offerKind 59 rfl) (by decide) ?_
    exact r_loc [1, 2, 3, 4, 5, 0] rfl h
  · have h := h.2 q_
    refine r_aload_n (q := 93) (dc dt_FI_offerKind 50 rfl) rfl rfl 0 rfl ?_
    refine r_iload_n (q := 94) (dc dt_FI_offerKind 51 rfl) rfl rfl 1 rfl ?_
    refine r_iload (q := 96) (dc dt_FI_offerKind 52 rfl) rfl 7 rfl ?_
    refine r_iload_n (q := 97) (dc dt_FI_offerKind 53 rfl) rfl rfl 3 rfl ?_
    refine r_iload (q := 99) (dc dt_FI_offerKind 54 rfl) rfl 6 rfl ?_
    refine r_callVv (q := 102) mk_FI_offerForm lm_FI_109 (RMO.of rfl) rfl (dc dt_FI_offerKind 55 rfl) rfl ly5 [I v1, I v8, I v3, I v7] [] rfl rfl (Nat.le_of_ble_eq_true rfl) h (fun u19 h => ?_)
    refine r_iinc (q := 105) (k := 7) (dc dt_FI_offerKind 56 rfl) rfl rfl (by decide) rfl ?_
    refine r_goto (q := 86) (dc dt_FI_offerKind 57 rfl) (by decide) ?_
    exact r_loc [1, 2, 3, 4, 5, 6, 7, 0] rfl h
def tb_FI_goBack : List (Nat × Instr × Nat) := [(0, .iload_n 2, 1), (1, .istore_n 3, 1), (2, .iload_n 3, 1), (3, .iload_n 1, 1), (4, .if_icmp .lt 82, 3), (7, .aload_n 0, 1), (8, .iload_n 3, 1), (9, .invokevirtual 64, 3), (12, .istore 4, 2), (14, .iconst 0, 1), (15, .istore 5, 2), (17, .iload 5, 2), (19, .iload 4, 2), (21, .if_icmp .ge 19, 3), (24, .aload_n 0, 1), (25, .iload_n 3, 1), (26, .iconst 3, 1), (27, .imul, 1), (28, .iload 5, 2), (30, .iadd, 1), (31, .invokevirtual 60, 3), (34, .iinc 5 1, 3), (37, .goto (-20), 3), (40, .iconst 0, 1), (41, .istore 5, 2), (43, .iload 5, 2), (45, .aload_n 0, 1), (46, .getfield 50, 3), (49, .getfield 68, 3), (52, .iload_n 3, 1), (53, .iaload, 1), (54, .if_icmp .ge 26, 3), (57, .aload_n 0, 1), (58, .iload_n 3, 1), (59, .iload 4, 2), (61, .aload_n 0, 1), (62, .getfield 50, 3), (65, .iload_n 3, 1), (66, .iload 5, 2), (68, .invokevirtual 73, 3), (71, .invokevirtual 77, 3), (74, .iinc 5 1, 3), (77, .goto (-34), 3), (80, .iinc 3 (-1), 3), (83, .goto (-81), 3), (86, .return_, 1)]
theorem dt_FI_goBack : DT (cM m_FI_goBack) tb_FI_goBack := by unfold DT; decide +kernel
abbrev a_FI_goBack_0 (G : GT)  (v1 : Int) (v2 : Int) (σ : St) (P : Int → St → Prop) : Prop := A G m_FI_goBack 0 [(0, O 5), (1, I v1), (2, I v2)] [] σ P
abbrev a_FI_goBack_2 (G : GT)  (v1 : Int) (v3 : Int) (σ : St) (P : Int → St → Prop) : Prop := A G m_FI_goBack 2 [(0, O 5), (1, I v1), (3, I v3)] [] σ P
abbrev a_FI_goBack_17 (G : GT)  (v1 : Int) (v3 : Int) (v4 : Int) (v5 : Int) (σ : St) (P : Int → St → Prop) : Prop := A G m_FI_goBack 17 [(0, O 5), (1, I v1), (3, I v3), (4, I v4), (5, I v5)] [] σ P
abbrev a_FI_goBack_43 (G : GT)  (v1 : Int) (v3 : Int) (v4 : Int) (v5 : Int) (σ : St) (P : Int → St → Prop) : Prop := A G m_FI_goBack 43 [(0, O 5), (1, I v1), (3, I v3), (4, I v4), (5, I v5)] [] σ P
set_option maxRecDepth 20000 in
theorem k_FI_goBack_0 {G : GT} {σ : St} {P : Int → St → Prop}  {v1 : Int} {v2 : Int}  
    (h : a_FI_goBack_2 G v1 v2 σ P) :
    a_FI_goBack_0 G v1 v2 σ P := by
  refine r_iload_n (q := 1) (dc dt_FI_goBack 0 rfl) rfl rfl 2 rfl ?_
  refine r_istore_n (q := 2) (dc dt_FI_goBack 1 rfl) rfl rfl (by decide) rfl ?_
  exact r_loc [1, 2, 0] rfl h
set_option maxRecDepth 20000 in
theorem k_FI_goBack_2 {G : GT} {σ : St} {P : Int → St → Prop}  {v1 : Int} {v3 : Int}  
    (h : rng v3 ∧ rng v1 ∧ (v3 < v1 → P 0 σ) ∧ (v1 ≤ v3 → p_FI_statesAt σ v3 ∧ a_FI_goBack_17 G v1 v3 (f_FI_statesAt σ v3) 0 σ P)) :
    a_FI_goBack_2 G v1 v3 σ P := by
  refine r_iload_n (q := 3) (dc dt_FI_goBack 2 rfl) rfl rfl 2 rfl ?_
  refine r_iload_n (q := 4) (dc dt_FI_goBack 3 rfl) rfl rfl 1 rfl ?_
  obtain ⟨o1, h⟩ := h
  obtain ⟨o2, h⟩ := h
  refine r_icmp_lt (q := 7) (t := 86) (dc dt_FI_goBack 4 rfl) rfl (by decide) o1 o2 (fun q_ => ?_) (fun q_ => ?_)
  · have h := h.1 q_
    exact r_vret rfl (dc dt_FI_goBack 45 rfl) h
  · have h := h.2 q_
    refine r_aload_n (q := 8) (dc dt_FI_goBack 5 rfl) rfl rfl 0 rfl ?_
    refine r_iload_n (q := 9) (dc dt_FI_goBack 6 rfl) rfl rfl 2 rfl ?_
    obtain ⟨o5, h⟩ := h
    refine r_callVi (q := 12) mk_FI_statesAt lm_FI_64 (RMO.of rfl) rfl (dc dt_FI_goBack 7 rfl) rfl ly5 [I v3] [] rfl rfl (Nat.le_of_ble_eq_true rfl) (sp_FI_statesAt o5) (fun _ _ g6 z => ?_)
    obtain ⟨z, w⟩ := z
    subst z
    replace w := w.symm
    subst w
    refine r_istore (q := 14) (dc dt_FI_goBack 8 rfl) rfl (by decide) rfl ?_
    refine r_iconst (q := 15) (dc dt_FI_goBack 9 rfl) rfl rfl ?_
    refine r_istore (q := 17) (dc dt_FI_goBack 10 rfl) rfl (by decide) rfl ?_
    exact r_loc [2, 3, 4, 1, 0] rfl h
set_option maxRecDepth 20000 in
theorem k_FI_goBack_17 {G : GT} {σ : St} {P : Int → St → Prop}  {v1 : Int} {v3 : Int} {v4 : Int} {v5 : Int}  
    (h : rng v5 ∧ rng v4 ∧ (v4 ≤ v5 → a_FI_goBack_43 G v1 v3 v4 0 σ P) ∧ (v5 < v4 → CJ G m_FI_clear [O 5, I ((v3 * 3) + v5)] σ (fun _ u9 => a_FI_goBack_17 G v1 v3 v4 (v5 + 1) u9 P))) :
    a_FI_goBack_17 G v1 v3 v4 v5 σ P := by
  refine r_iload (q := 19) (dc dt_FI_goBack 11 rfl) rfl 4 rfl ?_
  refine r_iload (q := 21) (dc dt_FI_goBack 12 rfl) rfl 3 rfl ?_
  obtain ⟨o7, h⟩ := h
  obtain ⟨o8, h⟩ := h
  refine r_icmp_ge (q := 24) (t := 40) (dc dt_FI_goBack 13 rfl) rfl (by decide) o7 o8 (fun q_ => ?_) (fun q_ => ?_)
  · have h := h.1 q_
    refine r_iconst (q := 41) (dc dt_FI_goBack 23 rfl) rfl rfl ?_
    refine r_istore (q := 43) (dc dt_FI_goBack 24 rfl) rfl (by decide) rfl ?_
    exact r_loc [1, 2, 3, 4, 0] rfl h
  · have h := h.2 q_
    refine r_aload_n (q := 25) (dc dt_FI_goBack 14 rfl) rfl rfl 0 rfl ?_
    refine r_iload_n (q := 26) (dc dt_FI_goBack 15 rfl) rfl rfl 2 rfl ?_
    refine r_iconst (q := 27) (dc dt_FI_goBack 16 rfl) rfl rfl ?_
    refine r_imul (q := 28) (dc dt_FI_goBack 17 rfl) rfl ?_
    refine r_iload (q := 30) (dc dt_FI_goBack 18 rfl) rfl 4 rfl ?_
    refine r_iadd (q := 31) (dc dt_FI_goBack 19 rfl) rfl ?_
    refine r_callVv (q := 34) mk_FI_clear lm_FI_60 (RMO.of rfl) rfl (dc dt_FI_goBack 20 rfl) rfl ly5 [I ((v3 * 3) + v5)] [] rfl rfl (Nat.le_of_ble_eq_true rfl) h (fun u9 h => ?_)
    refine r_iinc (q := 37) (k := 4) (dc dt_FI_goBack 21 rfl) rfl rfl (by decide) rfl ?_
    refine r_goto (q := 17) (dc dt_FI_goBack 22 rfl) (by decide) ?_
    exact r_loc [1, 2, 3, 4, 0] rfl h
set_option maxRecDepth 20000 in
theorem k_FI_goBack_43 {G : GT} {σ : St} {P : Int → St → Prop}  {v1 : Int} {v3 : Int} {v4 : Int} {v5 : Int}  
    (h : (0 ≤ v3 ∧ v3 < 80) ∧ rng v5 ∧ (σ.1 72 v3.toNat ≤ v5 → a_FI_goBack_2 G v1 (v3 + (-1)) σ P) ∧ (v5 < σ.1 72 v3.toNat → (0 ≤ (v3 * 3) + v5 ∧ (v3 * 3) + v5 < 240) ∧ CJ G m_FI_offerKind [O 5, I v3, I v4, I (σ.1 73 (((v3 * 3) + v5).toNat))] σ (fun _ u17 => a_FI_goBack_43 G v1 v3 v4 (v5 + 1) u17 P))) :
    a_FI_goBack_43 G v1 v3 v4 v5 σ P := by
  refine r_iload (q := 45) (dc dt_FI_goBack 25 rfl) rfl 4 rfl ?_
  refine r_aload_n (q := 46) (dc dt_FI_goBack 26 rfl) rfl rfl 0 rfl ?_
  refine r_getO (q := 49) (v := 4) fl_FI_50 (dc dt_FI_goBack 27 rfl) rfl ly5 rfl ?_
  refine r_getO (q := 52) (v := 72) fl_FI_68 (dc dt_FI_goBack 28 rfl) rfl ly4 rfl ?_
  refine r_iload_n (q := 53) (dc dt_FI_goBack 29 rfl) rfl rfl 2 rfl ?_
  obtain ⟨o10, h⟩ := h
  refine r_iald (q := 54) (v := σ.1 72 v3.toNat) (dc dt_FI_goBack 30 rfl) rfl ly72 o10 rfl (fun g11 => ?_)
  obtain ⟨o12, h⟩ := h
  refine r_icmp_ge (q := 57) (t := 80) (dc dt_FI_goBack 31 rfl) rfl (by decide) o12 g11 (fun q_ => ?_) (fun q_ => ?_)
  · have h := h.1 q_
    refine r_iinc (q := 83) (k := 2) (dc dt_FI_goBack 43 rfl) rfl rfl (by decide) rfl ?_
    refine r_goto (q := 2) (dc dt_FI_goBack 44 rfl) (by decide) ?_
    exact r_loc [1, 2, 0] rfl h
  · have h := h.2 q_
    refine r_aload_n (q := 58) (dc dt_FI_goBack 32 rfl) rfl rfl 0 rfl ?_
    refine r_iload_n (q := 59) (dc dt_FI_goBack 33 rfl) rfl rfl 2 rfl ?_
    refine r_iload (q := 61) (dc dt_FI_goBack 34 rfl) rfl 3 rfl ?_
    refine r_aload_n (q := 62) (dc dt_FI_goBack 35 rfl) rfl rfl 0 rfl ?_
    refine r_getO (q := 65) (v := 4) fl_FI_50 (dc dt_FI_goBack 36 rfl) rfl ly5 rfl ?_
    refine r_iload_n (q := 66) (dc dt_FI_goBack 37 rfl) rfl rfl 2 rfl ?_
    refine r_iload (q := 68) (dc dt_FI_goBack 38 rfl) rfl 4 rfl ?_
    obtain ⟨o15, h⟩ := h
    refine r_callVi (q := 71) mk_UN_kind lm_FI_73 (RMO.of rfl) rfl (dc dt_FI_goBack 39 rfl) rfl ly4 [I v3, I v5] [I v4, I v3, O 5] rfl rfl (Nat.le_of_ble_eq_true rfl) (sp_UN_kind o15) (fun _ _ g16 z => ?_)
    obtain ⟨z, w⟩ := z
    subst z
    replace w := w.symm
    subst w
    refine r_callVv (q := 74) mk_FI_offerKind lm_FI_77 (RMO.of rfl) rfl (dc dt_FI_goBack 40 rfl) rfl ly5 [I v3, I v4, I (σ.1 73 (((v3 * 3) + v5).toNat))] [] rfl rfl (Nat.le_of_ble_eq_true rfl) h (fun u17 h => ?_)
    refine r_iinc (q := 77) (k := 4) (dc dt_FI_goBack 41 rfl) rfl rfl (by decide) rfl ?_
    refine r_goto (q := 43) (dc dt_FI_goBack 42 rfl) (by decide) ?_
    exact r_loc [1, 2, 3, 4, 0] rfl h
def tb_FI_nextWidth : List (Nat × Instr × Nat) := [(0, .aload_n 0, 1), (1, .getfield 13, 3), (4, .iload_n 1, 1), (5, .iconst 3, 1), (6, .imul, 1), (7, .aaload, 1), (8, .astore 4, 2), (10, .iload_n 2, 1), (11, .iload_n 3, 1), (12, .iadd, 1), (13, .istore 5, 2), (15, .iload 5, 2), (17, .ifCond .lt 33, 3), (20, .iload 5, 2), (22, .sipush 300, 3), (25, .if_icmp .gt 25, 3), (28, .aload 4, 2), (30, .iload 5, 2), (32, .iaload, 1), (33, .ldc 81, 2), (35, .if_icmp .ge 6, 3), (38, .iload 5, 2), (40, .ireturn, 1), (41, .iload 5, 2), (43, .iload_n 3, 1), (44, .iadd, 1), (45, .istore 5, 2), (47, .goto (-32), 3), (50, .bipush (-6), 2), (52, .ireturn, 1)]
theorem dt_FI_nextWidth : DT (cM m_FI_nextWidth) tb_FI_nextWidth := by unfold DT; decide +kernel
abbrev a_FI_nextWidth_0 (G : GT)  (v1 : Int) (v2 : Int) (v3 : Int) (σ : St) (P : Int → St → Prop) : Prop := A G m_FI_nextWidth 0 [(0, O 5), (1, I v1), (2, I v2), (3, I v3)] [] σ P
abbrev a_FI_nextWidth_15 (G : GT)  (v3 : Int) (k4 : Nat) (v5 : Int) (σ : St) (P : Int → St → Prop) : Prop := A G m_FI_nextWidth 15 [(3, I v3), (4, O k4), (5, I v5)] [] σ P
set_option maxRecDepth 20000 in
theorem k_FI_nextWidth_0 {G : GT} {σ : St} {P : Int → St → Prop}  {v1 : Int} {v2 : Int} {v3 : Int}  
    (h : (0 ≤ v1 * 3 ∧ v1 * 3 < 243) ∧ a_FI_nextWidth_15 G v3 (376 + (v1 * 3).toNat) (v2 + v3) σ P) :
    a_FI_nextWidth_0 G v1 v2 v3 σ P := by
  refine r_aload_n (q := 1) (dc dt_FI_nextWidth 0 rfl) rfl rfl 0 rfl ?_
  refine r_getO (q := 4) (v := 74) fl_FI_13 (dc dt_FI_nextWidth 1 rfl) rfl ly5 rfl ?_
  refine r_iload_n (q := 5) (dc dt_FI_nextWidth 2 rfl) rfl rfl 1 rfl ?_
  refine r_iconst (q := 6) (dc dt_FI_nextWidth 3 rfl) rfl rfl ?_
  refine r_imul (q := 7) (dc dt_FI_nextWidth 4 rfl) rfl ?_
  obtain ⟨o1, h⟩ := h
  refine r_aald (q := 8) (dc dt_FI_nextWidth 5 rfl) rfl ly74 o1 rfl ?_
  refine r_astore (q := 10) (dc dt_FI_nextWidth 6 rfl) rfl (by decide) rfl ?_
  refine r_iload_n (q := 11) (dc dt_FI_nextWidth 7 rfl) rfl rfl 3 rfl ?_
  refine r_iload_n (q := 12) (dc dt_FI_nextWidth 8 rfl) rfl rfl 4 rfl ?_
  refine r_iadd (q := 13) (dc dt_FI_nextWidth 9 rfl) rfl ?_
  refine r_istore (q := 15) (dc dt_FI_nextWidth 10 rfl) rfl (by decide) rfl ?_
  exact r_loc [5, 1, 0] rfl h
set_option maxRecDepth 20000 in
theorem k_FI_nextWidth_15 {G : GT} {σ : St} {P : Int → St → Prop}  {v3 : Int} {k4 : Nat} {v5 : Int}  (g4 : lyt k4 = (1, 301))
    (h : rng v5 ∧ (v5 < 0 → P (-6) σ) ∧ (0 ≤ v5 → (300 < v5 → P (-6) σ) ∧ (v5 ≤ 300 → (0 ≤ v5 ∧ v5 < 301) ∧ (536870912 ≤ σ.1 k4 v5.toNat → a_FI_nextWidth_15 G v3 k4 (v5 + v3) σ P) ∧ (σ.1 k4 v5.toNat < 536870912 → P v5 σ)))) :
    a_FI_nextWidth_15 G v3 k4 v5 σ P := by
  refine r_iload (q := 17) (dc dt_FI_nextWidth 11 rfl) rfl 2 rfl ?_
  obtain ⟨o2, h⟩ := h
  refine r_if_lt (q := 20) (t := 50) (dc dt_FI_nextWidth 12 rfl) rfl (by decide) o2 (fun q_ => ?_) (fun q_ => ?_)
  · have h := h.1 q_
    refine r_bipush (q := 52) (dc dt_FI_nextWidth 28 rfl) rfl (by decide) ?_
    exact r_iret rfl (dc dt_FI_nextWidth 29 rfl) (⟨by decide, by decide⟩ : rng (-6)) h
  · have h := h.2 q_
    refine r_iload (q := 22) (dc dt_FI_nextWidth 13 rfl) rfl 2 rfl ?_
    refine r_sipush (q := 25) (dc dt_FI_nextWidth 14 rfl) rfl (by decide) ?_
    refine r_icmp_gt (q := 28) (t := 50) (dc dt_FI_nextWidth 15 rfl) rfl (by decide) o2 (⟨by decide, by decide⟩ : rng 300) (fun q_ => ?_) (fun q_ => ?_)
    · have h := h.1 q_
      refine r_bipush (q := 52) (dc dt_FI_nextWidth 28 rfl) rfl (by decide) ?_
      exact r_iret rfl (dc dt_FI_nextWidth 29 rfl) (⟨by decide, by decide⟩ : rng (-6)) h
    · have h := h.2 q_
      refine r_aload (q := 30) (dc dt_FI_nextWidth 16 rfl) rfl 1 rfl ?_
      refine r_iload (q := 32) (dc dt_FI_nextWidth 17 rfl) rfl 2 rfl ?_
      obtain ⟨o3, h⟩ := h
      refine r_iald (q := 33) (v := σ.1 k4 v5.toNat) (dc dt_FI_nextWidth 18 rfl) rfl g4 o3 rfl (fun g4 => ?_)
      refine r_ldc (q := 35) (n := 536870912) (dc dt_FI_nextWidth 19 rfl) rfl (gt_at 803 (by decide +kernel) rfl) ?_
      refine r_icmp_ge (q := 38) (t := 41) (dc dt_FI_nextWidth 20 rfl) rfl (by decide) g4 (⟨by decide, by decide⟩ : rng 536870912) (fun q_ => ?_) (fun q_ => ?_)
      · have h := h.1 q_
        refine r_iload (q := 43) (dc dt_FI_nextWidth 23 rfl) rfl 2 rfl ?_
        refine r_iload_n (q := 44) (dc dt_FI_nextWidth 24 rfl) rfl rfl 0 rfl ?_
        refine r_iadd (q := 45) (dc dt_FI_nextWidth 25 rfl) rfl ?_
        refine r_istore (q := 47) (dc dt_FI_nextWidth 26 rfl) rfl (by decide) rfl ?_
        refine r_goto (q := 15) (dc dt_FI_nextWidth 27 rfl) (by decide) ?_
        exact r_loc [1, 2, 0] rfl h
      · have h := h.2 q_
        refine r_iload (q := 40) (dc dt_FI_nextWidth 21 rfl) rfl 2 rfl ?_
        exact r_iret rfl (dc dt_FI_nextWidth 22 rfl) o2 h
def tb_FI_leastPrice : List (Nat × Instr × Nat) := [(0, .aload_n 0, 1), (1, .getfield 13, 3), (4, .iload_n 1, 1), (5, .iconst 3, 1), (6, .imul, 1), (7, .aaload, 1), (8, .iload_n 2, 1), (9, .iaload, 1), (10, .ireturn, 1)]
theorem dt_FI_leastPrice : DT (cM m_FI_leastPrice) tb_FI_leastPrice := by unfold DT; decide +kernel
abbrev a_FI_leastPrice_0 (G : GT)  (v1 : Int) (v2 : Int) (σ : St) (P : Int → St → Prop) : Prop := A G m_FI_leastPrice 0 [(0, O 5), (1, I v1), (2, I v2)] [] σ P
set_option maxRecDepth 20000 in
theorem k_FI_leastPrice_0 {G : GT} {σ : St} {P : Int → St → Prop}  {v1 : Int} {v2 : Int}  
    (h : (0 ≤ v1 * 3 ∧ v1 * 3 < 243) ∧ (0 ≤ v2 ∧ v2 < 301) ∧ P (σ.1 (376 + (v1 * 3).toNat) v2.toNat) σ) :
    a_FI_leastPrice_0 G v1 v2 σ P := by
  refine r_aload_n (q := 1) (dc dt_FI_leastPrice 0 rfl) rfl rfl 0 rfl ?_
  refine r_getO (q := 4) (v := 74) fl_FI_13 (dc dt_FI_leastPrice 1 rfl) rfl ly5 rfl ?_
  refine r_iload_n (q := 5) (dc dt_FI_leastPrice 2 rfl) rfl rfl 1 rfl ?_
  refine r_iconst (q := 6) (dc dt_FI_leastPrice 3 rfl) rfl rfl ?_
  refine r_imul (q := 7) (dc dt_FI_leastPrice 4 rfl) rfl ?_
  obtain ⟨o1, h⟩ := h
  refine r_aald (q := 8) (dc dt_FI_leastPrice 5 rfl) rfl ly74 o1 rfl ?_
  refine r_iload_n (q := 9) (dc dt_FI_leastPrice 6 rfl) rfl rfl 2 rfl ?_
  obtain ⟨o2, h⟩ := h
  refine r_iald (q := 10) (v := σ.1 (376 + (v1 * 3).toNat) v2.toNat) (dc dt_FI_leastPrice 7 rfl) rfl (lyr_376 o1) o2 rfl (fun g3 => ?_)
  exact r_iret rfl (dc dt_FI_leastPrice 8 rfl) g3 h
set_option maxRecDepth 20000 in
theorem sp_FI_leastPrice {G : GT} {σ : St} {v1 : Int} {v2 : Int}  (j0 : 0 ≤ v1 * 3 ∧ v1 * 3 < 243) (j1 : 0 ≤ v2 ∧ v2 < 301) : CJ G m_FI_leastPrice [O 5, I v1, I v2] σ (fun r u => r = (σ.1 (376 + (v1 * 3).toNat) v2.toNat) ∧ u = σ) := by
  refine CJ.intro (by decide) (by simp [catA]; decide) (fun _ => k_FI_leastPrice_0  ?_)
  refine ⟨by first | assumption | omega | grind, ?_⟩
  refine ⟨by first | assumption | omega | grind, ?_⟩
  exact ⟨by first | rfl | grind, rfl⟩
def tb_LN_begin : List (Nat × Instr × Nat) := [(0, .aload_n 0, 1), (1, .iconst 0, 1), (2, .putfield 9, 3), (5, .aload_n 0, 1), (6, .iconst 0, 1), (7, .putfield 15, 3), (10, .aload_n 0, 1), (11, .getfield 40, 3), (14, .iconst 0, 1), (15, .putfield 59, 3), (18, .aload_n 0, 1), (19, .aload_n 0, 1), (20, .getfield 55, 3), (23, .getfield 62, 3), (26, .iload_n 1, 1), (27, .iaload, 1), (28, .putfield 18, 3), (31, .aload_n 0, 1), (32, .aload_n 0, 1), (33, .getfield 55, 3), (36, .getfield 67, 3), (39, .iload_n 2, 1), (40, .iaload, 1), (41, .putfield 21, 3), (44, .return_, 1)]
theorem dt_LN_begin : DT (cM m_LN_begin) tb_LN_begin := by unfold DT; decide +kernel
abbrev a_LN_begin_0 (G : GT) (q0 : Nat) (v1 : Int) (v2 : Int) (σ : St) (P : Int → St → Prop) : Prop := A G m_LN_begin 0 [(0, O q0), (1, I v1), (2, I v2)] [] σ P
set_option maxRecDepth 20000 in
theorem k_LN_begin_0 {G : GT} {σ : St} {P : Int → St → Prop} {q0 : Nat} {v1 : Int} {v2 : Int} (hq0 : isL q0) 
    (h : (∀ σ1, σ1 = sf σ q0 2 0 → (∀ σ3, σ3 = sf σ1 q0 3 0 → (∀ σ5, σ5 = sf σ3 (q0 + 1) 0 0 → (0 ≤ v1 ∧ v1 < 80) ∧ (∀ σ9, σ9 = sf σ5 q0 4 (σ.1 61 v1.toNat) → (0 ≤ v2 ∧ v2 < 80) ∧ (∀ σ13, σ13 = sf σ9 q0 5 (σ.1 62 v2.toNat) → P 0 σ13)))))) :
    a_LN_begin_0 G q0 v1 v2 σ P := by
  rcases hq0 with rfl | rfl
  ·
    refine r_aload_n (q := 1) (dc dt_LN_begin 0 rfl) rfl rfl 0 rfl ?_
    refine r_iconst (q := 2) (dc dt_LN_begin 1 rfl) rfl rfl ?_
    refine r_put (q := 5) fl_LN_9 (dc dt_LN_begin 2 rfl) rfl rfl (fun _ => rfl) (Or.inl rfl) pf_9_2 (⟨by decide, by decide⟩ : rng 0) (fun σ1 e2 => ?_)
    have h := h σ1 e2
    refine r_aload_n (q := 6) (dc dt_LN_begin 3 rfl) rfl rfl 0 rfl ?_
    refine r_iconst (q := 7) (dc dt_LN_begin 4 rfl) rfl rfl ?_
    refine r_put (q := 10) fl_LN_15 (dc dt_LN_begin 5 rfl) rfl rfl (fun _ => rfl) (Or.inl rfl) pf_9_3 (⟨by decide, by decide⟩ : rng 0) (fun σ3 e4 => ?_)
    have h := h σ3 e4
    refine r_aload_n (q := 11) (dc dt_LN_begin 6 rfl) rfl rfl 0 rfl ?_
    refine r_getO (q := 14) (v := 9 + 1) fl_LN_40 (dc dt_LN_begin 7 rfl) rfl rfl rfl ?_
    refine r_iconst (q := 15) (dc dt_LN_begin 8 rfl) rfl rfl ?_
    refine r_put (q := 18) fl_LN_59 (dc dt_LN_begin 9 rfl) rfl rfl (fun _ => rfl) (Or.inl rfl) pf_10_0 (⟨by decide, by decide⟩ : rng 0) (fun σ5 e6 => ?_)
    have h := h σ5 e6
    refine r_aload_n (q := 19) (dc dt_LN_begin 10 rfl) rfl rfl 0 rfl ?_
    refine r_aload_n (q := 20) (dc dt_LN_begin 11 rfl) rfl rfl 0 rfl ?_
    refine r_getO (q := 23) (v := 4) fl_LN_55 (dc dt_LN_begin 12 rfl) rfl rfl rfl ?_
    refine r_getO (q := 26) (v := 61) fl_LN_62 (dc dt_LN_begin 13 rfl) rfl ly4 rfl ?_
    refine r_iload_n (q := 27) (dc dt_LN_begin 14 rfl) rfl rfl 1 rfl ?_
    obtain ⟨o7, h⟩ := h
    refine r_iald (q := 28) (v := σ.1 61 v1.toNat) (dc dt_LN_begin 15 rfl) rfl ly61 o7 (by rw [e6, e4, e2]; rfl) (fun g8 => ?_)
    refine r_put (q := 31) fl_LN_18 (dc dt_LN_begin 16 rfl) rfl rfl (fun _ => rfl) (Or.inl rfl) pf_9_4 g8 (fun σ9 e10 => ?_)
    have h := h σ9 e10
    refine r_aload_n (q := 32) (dc dt_LN_begin 17 rfl) rfl rfl 0 rfl ?_
    refine r_aload_n (q := 33) (dc dt_LN_begin 18 rfl) rfl rfl 0 rfl ?_
    refine r_getO (q := 36) (v := 4) fl_LN_55 (dc dt_LN_begin 19 rfl) rfl rfl rfl ?_
    refine r_getO (q := 39) (v := 62) fl_LN_67 (dc dt_LN_begin 20 rfl) rfl ly4 rfl ?_
    refine r_iload_n (q := 40) (dc dt_LN_begin 21 rfl) rfl rfl 2 rfl ?_
    obtain ⟨o11, h⟩ := h
    refine r_iald (q := 41) (v := σ.1 62 v2.toNat) (dc dt_LN_begin 22 rfl) rfl ly62 o11 (by rw [e10, e6, e4, e2]; rfl) (fun g12 => ?_)
    refine r_put (q := 44) fl_LN_21 (dc dt_LN_begin 23 rfl) rfl rfl (fun _ => rfl) (Or.inl rfl) pf_9_5 g12 (fun σ13 e14 => ?_)
    have h := h σ13 e14
    exact r_vret rfl (dc dt_LN_begin 24 rfl) h
  ·
    refine r_aload_n (q := 1) (dc dt_LN_begin 0 rfl) rfl rfl 0 rfl ?_
    refine r_iconst (q := 2) (dc dt_LN_begin 1 rfl) rfl rfl ?_
    refine r_put (q := 5) fl_LN_9 (dc dt_LN_begin 2 rfl) rfl rfl (fun _ => rfl) (Or.inl rfl) pf_9_2 (⟨by decide, by decide⟩ : rng 0) (fun σ1 e2 => ?_)
    have h := h σ1 e2
    refine r_aload_n (q := 6) (dc dt_LN_begin 3 rfl) rfl rfl 0 rfl ?_
    refine r_iconst (q := 7) (dc dt_LN_begin 4 rfl) rfl rfl ?_
    refine r_put (q := 10) fl_LN_15 (dc dt_LN_begin 5 rfl) rfl rfl (fun _ => rfl) (Or.inl rfl) pf_9_3 (⟨by decide, by decide⟩ : rng 0) (fun σ3 e4 => ?_)
    have h := h σ3 e4
    refine r_aload_n (q := 11) (dc dt_LN_begin 6 rfl) rfl rfl 0 rfl ?_
    refine r_getO (q := 14) (v := 28 + 1) fl_LN_40 (dc dt_LN_begin 7 rfl) rfl rfl rfl ?_
    refine r_iconst (q := 15) (dc dt_LN_begin 8 rfl) rfl rfl ?_
    refine r_put (q := 18) fl_LN_59 (dc dt_LN_begin 9 rfl) rfl rfl (fun _ => rfl) (Or.inl rfl) pf_10_0 (⟨by decide, by decide⟩ : rng 0) (fun σ5 e6 => ?_)
    have h := h σ5 e6
    refine r_aload_n (q := 19) (dc dt_LN_begin 10 rfl) rfl rfl 0 rfl ?_
    refine r_aload_n (q := 20) (dc dt_LN_begin 11 rfl) rfl rfl 0 rfl ?_
    refine r_getO (q := 23) (v := 4) fl_LN_55 (dc dt_LN_begin 12 rfl) rfl rfl rfl ?_
    refine r_getO (q := 26) (v := 61) fl_LN_62 (dc dt_LN_begin 13 rfl) rfl ly4 rfl ?_
    refine r_iload_n (q := 27) (dc dt_LN_begin 14 rfl) rfl rfl 1 rfl ?_
    obtain ⟨o7, h⟩ := h
    refine r_iald (q := 28) (v := σ.1 61 v1.toNat) (dc dt_LN_begin 15 rfl) rfl ly61 o7 (by rw [e6, e4, e2]; rfl) (fun g8 => ?_)
    refine r_put (q := 31) fl_LN_18 (dc dt_LN_begin 16 rfl) rfl rfl (fun _ => rfl) (Or.inl rfl) pf_9_4 g8 (fun σ9 e10 => ?_)
    have h := h σ9 e10
    refine r_aload_n (q := 32) (dc dt_LN_begin 17 rfl) rfl rfl 0 rfl ?_
    refine r_aload_n (q := 33) (dc dt_LN_begin 18 rfl) rfl rfl 0 rfl ?_
    refine r_getO (q := 36) (v := 4) fl_LN_55 (dc dt_LN_begin 19 rfl) rfl rfl rfl ?_
    refine r_getO (q := 39) (v := 62) fl_LN_67 (dc dt_LN_begin 20 rfl) rfl ly4 rfl ?_
    refine r_iload_n (q := 40) (dc dt_LN_begin 21 rfl) rfl rfl 2 rfl ?_
    obtain ⟨o11, h⟩ := h
    refine r_iald (q := 41) (v := σ.1 62 v2.toNat) (dc dt_LN_begin 22 rfl) rfl ly62 o11 (by rw [e10, e6, e4, e2]; rfl) (fun g12 => ?_)
    refine r_put (q := 44) fl_LN_21 (dc dt_LN_begin 23 rfl) rfl rfl (fun _ => rfl) (Or.inl rfl) pf_9_5 g12 (fun σ13 e14 => ?_)
    have h := h σ13 e14
    exact r_vret rfl (dc dt_LN_begin 24 rfl) h
def tb_FI_chooseStretch : List (Nat × Instr × Nat) := [(0, .aload_n 0, 1), (1, .getfield 13, 3), (4, .iload_n 1, 1), (5, .iconst 3, 1), (6, .imul, 1), (7, .iload_n 2, 1), (8, .iadd, 1), (9, .aaload, 1), (10, .iload_n 3, 1), (11, .iaload, 1), (12, .istore 6, 2), (14, .iload_n 1, 1), (15, .aload_n 0, 1), (16, .getfield 46, 3), (19, .getfield 92, 3), (22, .iload 4, 2), (24, .iaload, 1), (25, .iadd, 1), (26, .istore 7, 2), (28, .aload_n 0, 1), (29, .iload_n 2, 1), (30, .iload 5, 2), (32, .invokevirtual 113, 3), (35, .iload_n 3, 1), (36, .aload_n 0, 1), (37, .getfield 46, 3), (40, .getfield 120, 3), (43, .iload 5, 2), (45, .aaload, 1), (46, .iconst 2, 1), (47, .iaload, 1), (48, .isub, 1), (49, .invokestatic 132, 3), (52, .istore 8, 2), (54, .iconst 0, 1), (55, .istore 9, 2), (57, .iload 9, 2), (59, .iload 8, 2), (61, .if_icmp .gt 98, 3), (64, .aload_n 0, 1), (65, .iload_n 1, 1), (66, .iload_n 2, 1), (67, .iload 4, 2), (69, .iload 9, 2), (71, .invokevirtual 116, 3), (74, .istore 10, 2), (76, .iload_n 3, 1), (77, .aload_n 0, 1), (78, .getfield 46, 3), (81, .getfield 120, 3), (84, .iload 5, 2), (86, .aaload, 1), (87, .iconst 2, 1), (88, .iaload, 1), (89, .isub, 1), (90, .iload 9, 2), (92, .isub, 1), (93, .istore 11, 2), (95, .aload_n 0, 1), (96, .getfield 13, 3), (99, .iload 7, 2), (101, .iconst 3, 1), (102, .imul, 1), (103, .iload 10, 2), (105, .iadd, 1), (106, .aaload, 1), (107, .iload 11, 2), (109, .iaload, 1), (110, .aload_n 0, 1), (111, .getfield 46, 3), (114, .iload 5, 2), (116, .iload 9, 2), (118, .invokevirtual 123, 3), (121, .iadd, 1), (122, .iload 6, 2), (124, .if_icmp .ne 29, 3), (127, .aload_n 0, 1), (128, .iload 4, 2), (130, .putfield 34, 3), (133, .aload_n 0, 1), (134, .iload 5, 2), (136, .putfield 37, 3), (139, .aload_n 0, 1), (140, .iload 9, 2), (142, .putfield 40, 3), (145, .aload_n 0, 1), (146, .iload 10, 2), (148, .putfield 43, 3), (151, .iconst 1, 1), (152, .ireturn, 1), (153, .iinc 9 1, 3), (156, .goto (-99), 3), (159, .iconst 0, 1), (160, .ireturn, 1)]
theorem dt_FI_chooseStretch : DT (cM m_FI_chooseStretch) tb_FI_chooseStretch := by unfold DT; decide +kernel
abbrev a_FI_chooseStretch_0 (G : GT)  (v1 : Int) (v2 : Int) (v3 : Int) (v4 : Int) (v5 : Int) (σ : St) (P : Int → St → Prop) : Prop := A G m_FI_chooseStretch 0 [(0, O 5), (1, I v1), (2, I v2), (3, I v3), (4, I v4), (5, I v5)] [] σ P
abbrev a_FI_chooseStretch_57 (G : GT)  (v1 : Int) (v2 : Int) (v3 : Int) (v4 : Int) (v5 : Int) (v6 : Int) (v7 : Int) (v8 : Int) (v9 : Int) (σ : St) (P : Int → St → Prop) : Prop := A G m_FI_chooseStretch 57 [(0, O 5), (1, I v1), (2, I v2), (3, I v3), (4, I v4), (5, I v5), (6, I v6), (7, I v7), (8, I v8), (9, I v9)] [] σ P
set_option maxRecDepth 20000 in
theorem k_FI_chooseStretch_0 {G : GT} {σ : St} {P : Int → St → Prop}  {v1 : Int} {v2 : Int} {v3 : Int} {v4 : Int} {v5 : Int}  
    (h : (0 ≤ (v1 * 3) + v2 ∧ (v1 * 3) + v2 < 243) ∧ (0 ≤ v3 ∧ v3 < 301) ∧ (0 ≤ v4 ∧ v4 < 60) ∧ rng v2 ∧ (v2 = 0 → 0 ≤ v5 ∧ v5 < 200) ∧ rng (if v2 ≠ 0 then (0 : Int) else σ.1 (176 + v5.toNat) 7) ∧ (0 ≤ v5 ∧ v5 < 200) ∧ rng (v3 - (σ.1 (176 + v5.toNat) 2)) ∧ a_FI_chooseStretch_57 G v1 v2 v3 v4 v5 (σ.1 (376 + ((v1 * 3) + v2).toNat) v3.toNat) (v1 + (σ.1 49 v4.toNat)) (min (if v2 ≠ 0 then (0 : Int) else σ.1 (176 + v5.toNat) 7) (v3 - (σ.1 (176 + v5.toNat) 2))) 0 σ P) :
    a_FI_chooseStretch_0 G v1 v2 v3 v4 v5 σ P := by
  refine r_aload_n (q := 1) (dc dt_FI_chooseStretch 0 rfl) rfl rfl 0 rfl ?_
  refine r_getO (q := 4) (v := 74) fl_FI_13 (dc dt_FI_chooseStretch 1 rfl) rfl ly5 rfl ?_
  refine r_iload_n (q := 5) (dc dt_FI_chooseStretch 2 rfl) rfl rfl 1 rfl ?_
  refine r_iconst (q := 6) (dc dt_FI_chooseStretch 3 rfl) rfl rfl ?_
  refine r_imul (q := 7) (dc dt_FI_chooseStretch 4 rfl) rfl ?_
  refine r_iload_n (q := 8) (dc dt_FI_chooseStretch 5 rfl) rfl rfl 2 rfl ?_
  refine r_iadd (q := 9) (dc dt_FI_chooseStretch 6 rfl) rfl ?_
  obtain ⟨o1, h⟩ := h
  refine r_aald (q := 10) (dc dt_FI_chooseStretch 7 rfl) rfl ly74 o1 rfl ?_
  refine r_iload_n (q := 11) (dc dt_FI_chooseStretch 8 rfl) rfl rfl 3 rfl ?_
  obtain ⟨o2, h⟩ := h
  refine r_iald (q := 12) (v := σ.1 (376 + ((v1 * 3) + v2).toNat) v3.toNat) (dc dt_FI_chooseStretch 9 rfl) rfl (lyr_376 o1) o2 rfl (fun g3 => ?_)
  refine r_istore (q := 14) (dc dt_FI_chooseStretch 10 rfl) rfl (by decide) rfl ?_
  refine r_iload_n (q := 15) (dc dt_FI_chooseStretch 11 rfl) rfl rfl 2 rfl ?_
  refine r_aload_n (q := 16) (dc dt_FI_chooseStretch 12 rfl) rfl rfl 1 rfl ?_
  refine r_getO (q := 19) (v := 1) fl_FI_46 (dc dt_FI_chooseStretch 13 rfl) rfl ly5 rfl ?_
  refine r_getO (q := 22) (v := 49) fl_FI_92 (dc dt_FI_chooseStretch 14 rfl) rfl ly1 rfl ?_
  refine r_iload (q := 24) (dc dt_FI_chooseStretch 15 rfl) rfl 5 rfl ?_
  obtain ⟨o4, h⟩ := h
  refine r_iald (q := 25) (v := σ.1 49 v4.toNat) (dc dt_FI_chooseStretch 16 rfl) rfl ly49 o4 rfl (fun g5 => ?_)
  refine r_iadd (q := 26) (dc dt_FI_chooseStretch 17 rfl) rfl ?_
  refine r_istore (q := 28) (dc dt_FI_chooseStretch 18 rfl) rfl (by decide) rfl ?_
  refine r_aload_n (q := 29) (dc dt_FI_chooseStretch 19 rfl) rfl rfl 2 rfl ?_
  refine r_iload_n (q := 30) (dc dt_FI_chooseStretch 20 rfl) rfl rfl 4 rfl ?_
  refine r_iload (q := 32) (dc dt_FI_chooseStretch 21 rfl) rfl 7 rfl ?_
  obtain ⟨o6, h⟩ := h
  obtain ⟨o7, h⟩ := h
  obtain ⟨o8, h⟩ := h
  refine r_callVi (q := 35) mk_FI_mostAt lm_FI_113 (RMO.of rfl) rfl (dc dt_FI_chooseStretch 22 rfl) rfl ly5 [I v2, I v5] [] rfl rfl (Nat.le_of_ble_eq_true rfl) (sp_FI_mostAt o6 o7 o8) (fun _ _ g9 z => ?_)
  obtain ⟨z, w⟩ := z
  subst z
  replace w := w.symm
  subst w
  refine r_iload_n (q := 36) (dc dt_FI_chooseStretch 23 rfl) rfl rfl 5 rfl ?_
  refine r_aload_n (q := 37) (dc dt_FI_chooseStretch 24 rfl) rfl rfl 2 rfl ?_
  refine r_getO (q := 40) (v := 1) fl_FI_46 (dc dt_FI_chooseStretch 25 rfl) rfl ly5 rfl ?_
  refine r_getO (q := 43) (v := 54) fl_FI_120 (dc dt_FI_chooseStretch 26 rfl) rfl ly1 rfl ?_
  refine r_iload (q := 45) (dc dt_FI_chooseStretch 27 rfl) rfl 7 rfl ?_
  obtain ⟨o10, h⟩ := h
  refine r_aald (q := 46) (dc dt_FI_chooseStretch 28 rfl) rfl ly54 o10 rfl ?_
  refine r_iconst (q := 47) (dc dt_FI_chooseStretch 29 rfl) rfl rfl ?_
  refine r_iald (q := 48) (v := σ.1 (176 + v5.toNat) 2) (dc dt_FI_chooseStretch 30 rfl) rfl (lyr_176 o10) ⟨by decide, by decide⟩ rfl (fun g11 => ?_)
  refine r_isub (q := 49) (dc dt_FI_chooseStretch 31 rfl) rfl ?_
  obtain ⟨o12, h⟩ := h
  refine r_mmin (q := 52) lm_FI_132 (by decide) (dc dt_FI_chooseStretch 32 rfl) rfl (by simp [catA]; decide) g9 o12 ?_
  refine r_istore (q := 54) (dc dt_FI_chooseStretch 33 rfl) rfl (by decide) rfl ?_
  refine r_iconst (q := 55) (dc dt_FI_chooseStretch 34 rfl) rfl rfl ?_
  refine r_istore (q := 57) (dc dt_FI_chooseStretch 35 rfl) rfl (by decide) rfl ?_
  exact r_loc [4, 5, 6, 7, 8, 9, 3, 2, 1, 0] rfl h
set_option maxRecDepth 20000 in
theorem k_FI_chooseStretch_57 {G : GT} {σ : St} {P : Int → St → Prop}  {v1 : Int} {v2 : Int} {v3 : Int} {v4 : Int} {v5 : Int} {v6 : Int} {v7 : Int} {v8 : Int} {v9 : Int}  
    (h : rng v9 ∧ rng v8 ∧ (v8 < v9 → P 0 σ) ∧ (v9 ≤ v8 → p_FI_stateBehind σ v1 v2 v4 v9 ∧ (0 ≤ v5 ∧ v5 < 200) ∧ (0 ≤ (v7 * 3) + (f_FI_stateBehind σ v1 v2 v4 v9) ∧ (v7 * 3) + (f_FI_stateBehind σ v1 v2 v4 v9) < 243) ∧ (0 ≤ (v3 - (σ.1 (176 + v5.toNat) 2)) - v9 ∧ (v3 - (σ.1 (176 + v5.toNat) 2)) - v9 < 301) ∧ rng ((σ.1 (176 + v5.toNat) 5) + (((σ.1 (176 + v5.toNat) 8) * v9) * v9)) ∧ rng ((σ.1 (376 + ((v7 * 3) + (f_FI_stateBehind σ v1 v2 v4 v9)).toNat) (((v3 - (σ.1 (176 + v5.toNat) 2)) - v9).toNat)) + ((σ.1 (176 + v5.toNat) 5) + (((σ.1 (176 + v5.toNat) 8) * v9) * v9))) ∧ rng v6 ∧ ((σ.1 (376 + ((v7 * 3) + (f_FI_stateBehind σ v1 v2 v4 v9)).toNat) (((v3 - (σ.1 (176 + v5.toNat) 2)) - v9).toNat)) + ((σ.1 (176 + v5.toNat) 5) + (((σ.1 (176 + v5.toNat) 8) * v9) * v9)) ≠ v6 → a_FI_chooseStretch_57 G v1 v2 v3 v4 v5 v6 v7 v8 (v9 + 1) σ P) ∧ ((σ.1 (376 + ((v7 * 3) + (f_FI_stateBehind σ v1 v2 v4 v9)).toNat) (((v3 - (σ.1 (176 + v5.toNat) 2)) - v9).toNat)) + ((σ.1 (176 + v5.toNat) 5) + (((σ.1 (176 + v5.toNat) 8) * v9) * v9)) = v6 → rng v4 ∧ (∀ σ26, σ26 = sf σ 5 8 v4 → rng v5 ∧ (∀ σ29, σ29 = sf σ26 5 9 v5 → (∀ σ32, σ32 = sf σ29 5 10 v9 → (∀ σ34, σ34 = sf σ32 5 11 (f_FI_stateBehind σ v1 v2 v4 v9) → P 1 σ34))))))) :
    a_FI_chooseStretch_57 G v1 v2 v3 v4 v5 v6 v7 v8 v9 σ P := by
  refine r_iload (q := 59) (dc dt_FI_chooseStretch 36 rfl) rfl 9 rfl ?_
  refine r_iload (q := 61) (dc dt_FI_chooseStretch 37 rfl) rfl 8 rfl ?_
  obtain ⟨o13, h⟩ := h
  obtain ⟨o14, h⟩ := h
  refine r_icmp_gt (q := 64) (t := 159) (dc dt_FI_chooseStretch 38 rfl) rfl (by decide) o13 o14 (fun q_ => ?_) (fun q_ => ?_)
  · have h := h.1 q_
    refine r_iconst (q := 160) (dc dt_FI_chooseStretch 92 rfl) rfl rfl ?_
    exact r_zret rfl (dc dt_FI_chooseStretch 93 rfl) (by decide) h
  · have h := h.2 q_
    refine r_aload_n (q := 65) (dc dt_FI_chooseStretch 39 rfl) rfl rfl 0 rfl ?_
    refine r_iload_n (q := 66) (dc dt_FI_chooseStretch 40 rfl) rfl rfl 1 rfl ?_
    refine r_iload_n (q := 67) (dc dt_FI_chooseStretch 41 rfl) rfl rfl 2 rfl ?_
    refine r_iload (q := 69) (dc dt_FI_chooseStretch 42 rfl) rfl 4 rfl ?_
    refine r_iload (q := 71) (dc dt_FI_chooseStretch 43 rfl) rfl 9 rfl ?_
    obtain ⟨o15, h⟩ := h
    refine r_callVi (q := 74) mk_FI_stateBehind lm_FI_116 (RMO.of rfl) rfl (dc dt_FI_chooseStretch 44 rfl) rfl ly5 [I v1, I v2, I v4, I v9] [] rfl rfl (Nat.le_of_ble_eq_true rfl) (sp_FI_stateBehind o15) (fun _ _ g16 z => ?_)
    obtain ⟨z, w⟩ := z
    subst z
    replace w := w.symm
    subst w
    refine r_istore (q := 76) (dc dt_FI_chooseStretch 45 rfl) rfl (by decide) rfl ?_
    refine r_iload_n (q := 77) (dc dt_FI_chooseStretch 46 rfl) rfl rfl 4 rfl ?_
    refine r_aload_n (q := 78) (dc dt_FI_chooseStretch 47 rfl) rfl rfl 1 rfl ?_
    refine r_getO (q := 81) (v := 1) fl_FI_46 (dc dt_FI_chooseStretch 48 rfl) rfl ly5 rfl ?_
    refine r_getO (q := 84) (v := 54) fl_FI_120 (dc dt_FI_chooseStretch 49 rfl) rfl ly1 rfl ?_
    refine r_iload (q := 86) (dc dt_FI_chooseStretch 50 rfl) rfl 6 rfl ?_
    obtain ⟨o17, h⟩ := h
    refine r_aald (q := 87) (dc dt_FI_chooseStretch 51 rfl) rfl ly54 o17 rfl ?_
    refine r_iconst (q := 88) (dc dt_FI_chooseStretch 52 rfl) rfl rfl ?_
    refine r_iald (q := 89) (v := σ.1 (176 + v5.toNat) 2) (dc dt_FI_chooseStretch 53 rfl) rfl (lyr_176 o17) ⟨by decide, by decide⟩ rfl (fun g18 => ?_)
    refine r_isub (q := 90) (dc dt_FI_chooseStretch 54 rfl) rfl ?_
    refine r_iload (q := 92) (dc dt_FI_chooseStretch 55 rfl) rfl 10 rfl ?_
    refine r_isub (q := 93) (dc dt_FI_chooseStretch 56 rfl) rfl ?_
    refine r_istore (q := 95) (dc dt_FI_chooseStretch 57 rfl) rfl (by decide) rfl ?_
    refine r_aload_n (q := 96) (dc dt_FI_chooseStretch 58 rfl) rfl rfl 2 rfl ?_
    refine r_getO (q := 99) (v := 74) fl_FI_13 (dc dt_FI_chooseStretch 59 rfl) rfl ly5 rfl ?_
    refine r_iload (q := 101) (dc dt_FI_chooseStretch 60 rfl) rfl 9 rfl ?_
    refine r_iconst (q := 102) (dc dt_FI_chooseStretch 61 rfl) rfl rfl ?_
    refine r_imul (q := 103) (dc dt_FI_chooseStretch 62 rfl) rfl ?_
    refine r_iload (q := 105) (dc dt_FI_chooseStretch 63 rfl) rfl 1 rfl ?_
    refine r_iadd (q := 106) (dc dt_FI_chooseStretch 64 rfl) rfl ?_
    obtain ⟨o19, h⟩ := h
    refine r_aald (q := 107) (dc dt_FI_chooseStretch 65 rfl) rfl ly74 o19 rfl ?_
    refine r_iload (q := 109) (dc dt_FI_chooseStretch 66 rfl) rfl 0 rfl ?_
    obtain ⟨o20, h⟩ := h
    refine r_iald (q := 110) (v := σ.1 (376 + ((v7 * 3) + (f_FI_stateBehind σ v1 v2 v4 v9)).toNat) (((v3 - (σ.1 (176 + v5.toNat) 2)) - v9).toNat)) (dc dt_FI_chooseStretch 67 rfl) rfl (lyr_376 o19) o20 rfl (fun g21 => ?_)
    refine r_aload_n (q := 111) (dc dt_FI_chooseStretch 68 rfl) rfl rfl 2 rfl ?_
    refine r_getO (q := 114) (v := 1) fl_FI_46 (dc dt_FI_chooseStretch 69 rfl) rfl ly5 rfl ?_
    refine r_iload (q := 116) (dc dt_FI_chooseStretch 70 rfl) rfl 7 rfl ?_
    refine r_iload (q := 118) (dc dt_FI_chooseStretch 71 rfl) rfl 11 rfl ?_
    obtain ⟨o22, h⟩ := h
    refine r_callVi (q := 121) mk_SC_priceOf lm_FI_123 (RMO.of rfl) rfl (dc dt_FI_chooseStretch 72 rfl) rfl ly1 [I v5, I v9] [I (σ.1 (376 + ((v7 * 3) + (f_FI_stateBehind σ v1 v2 v4 v9)).toNat) (((v3 - (σ.1 (176 + v5.toNat) 2)) - v9).toNat))] rfl rfl (Nat.le_of_ble_eq_true rfl) (sp_SC_priceOf o17 o22) (fun _ _ g23 z => ?_)
    obtain ⟨z, w⟩ := z
    subst z
    replace w := w.symm
    subst w
    refine r_iadd (q := 122) (dc dt_FI_chooseStretch 73 rfl) rfl ?_
    refine r_iload (q := 124) (dc dt_FI_chooseStretch 74 rfl) rfl 8 rfl ?_
    obtain ⟨o24, h⟩ := h
    obtain ⟨o25, h⟩ := h
    refine r_icmp_ne (q := 127) (t := 153) (dc dt_FI_chooseStretch 75 rfl) rfl (by decide) o24 o25 (fun q_ => ?_) (fun q_ => ?_)
    · have h := h.1 q_
      refine r_iinc (q := 156) (k := 11) (dc dt_FI_chooseStretch 90 rfl) rfl rfl (by decide) rfl ?_
      refine r_goto (q := 57) (dc dt_FI_chooseStretch 91 rfl) (by decide) ?_
      exact r_loc [3, 4, 5, 6, 7, 8, 9, 10, 11, 0] rfl h
    · have h := h.2 q_
      refine r_aload_n (q := 128) (dc dt_FI_chooseStretch 76 rfl) rfl rfl 2 rfl ?_
      refine r_iload (q := 130) (dc dt_FI_chooseStretch 77 rfl) rfl 6 rfl ?_
      obtain ⟨o28, h⟩ := h
      refine r_put (q := 133) fl_FI_34 (dc dt_FI_chooseStretch 78 rfl) rfl ly5 (fun _ => rfl) (Or.inl rfl) pf_5_8 o28 (fun σ26 e27 => ?_)
      have h := h σ26 e27
      refine r_aload_n (q := 134) (dc dt_FI_chooseStretch 79 rfl) rfl rfl 2 rfl ?_
      refine r_iload (q := 136) (dc dt_FI_chooseStretch 80 rfl) rfl 7 rfl ?_
      obtain ⟨o31, h⟩ := h
      refine r_put (q := 139) fl_FI_37 (dc dt_FI_chooseStretch 81 rfl) rfl ly5 (fun _ => rfl) (Or.inl rfl) pf_5_9 o31 (fun σ29 e30 => ?_)
      have h := h σ29 e30
      refine r_aload_n (q := 140) (dc dt_FI_chooseStretch 82 rfl) rfl rfl 2 rfl ?_
      refine r_iload (q := 142) (dc dt_FI_chooseStretch 83 rfl) rfl 11 rfl ?_
      refine r_put (q := 145) fl_FI_40 (dc dt_FI_chooseStretch 84 rfl) rfl ly5 (fun _ => rfl) (Or.inl rfl) pf_5_10 o13 (fun σ32 e33 => ?_)
      have h := h σ32 e33
      refine r_aload_n (q := 146) (dc dt_FI_chooseStretch 85 rfl) rfl rfl 2 rfl ?_
      refine r_iload (q := 148) (dc dt_FI_chooseStretch 86 rfl) rfl 1 rfl ?_
      refine r_put (q := 151) fl_FI_43 (dc dt_FI_chooseStretch 87 rfl) rfl ly5 (fun _ => rfl) (Or.inl rfl) pf_5_11 g16 (fun σ34 e35 => ?_)
      have h := h σ34 e35
      refine r_iconst (q := 152) (dc dt_FI_chooseStretch 88 rfl) rfl rfl ?_
      exact r_zret rfl (dc dt_FI_chooseStretch 89 rfl) (by decide) h
def tb_FI_choose : List (Nat × Instr × Nat) := [(0, .iconst 0, 1), (1, .istore 4, 2), (3, .iload 4, 2), (5, .aload_n 0, 1), (6, .getfield 50, 3), (9, .getfield 68, 3), (12, .iload_n 1, 1), (13, .iaload, 1), (14, .if_icmp .ge 104, 3), (17, .aload_n 0, 1), (18, .getfield 50, 3), (21, .iload_n 1, 1), (22, .iload 4, 2), (24, .invokevirtual 73, 3), (27, .istore 5, 2), (29, .iload_n 1, 1), (30, .aload_n 0, 1), (31, .getfield 46, 3), (34, .getfield 92, 3), (37, .iload 5, 2), (39, .iaload, 1), (40, .iadd, 1), (41, .aload_n 0, 1), (42, .getfield 23, 3), (45, .if_icmp .gt 67, 3), (48, .aload_n 0, 1), (49, .getfield 50, 3), (52, .iload_n 1, 1), (53, .iload 5, 2), (55, .invokevirtual 99, 3), (58, .istore 6, 2), (60, .iconst 0, 1), (61, .istore 7, 2), (63, .iload 7, 2), (65, .aload_n 0, 1), (66, .getfield 46, 3), (69, .iload 5, 2), (71, .iload 6, 2), (73, .invokevirtual 102, 3), (76, .if_icmp .ge 36, 3), (79, .aload_n 0, 1), (80, .iload_n 1, 1), (81, .iload_n 2, 1), (82, .iload_n 3, 1), (83, .iload 5, 2), (85, .aload_n 0, 1), (86, .getfield 46, 3), (89, .iload 5, 2), (91, .iload 6, 2), (93, .iload 7, 2), (95, .invokevirtual 105, 3), (98, .invokevirtual 153, 3), (101, .ifCond .eq 5, 3), (104, .iconst 1, 1), (105, .ireturn, 1), (106, .iinc 7 1, 3), (109, .goto (-46), 3), (112, .iinc 4 1, 3), (115, .goto (-112), 3), (118, .iconst 0, 1), (119, .ireturn, 1)]
theorem dt_FI_choose : DT (cM m_FI_choose) tb_FI_choose := by unfold DT; decide +kernel
abbrev a_FI_choose_0 (G : GT)  (v1 : Int) (v2 : Int) (v3 : Int) (σ : St) (P : Int → St → Prop) : Prop := A G m_FI_choose 0 [(0, O 5), (1, I v1), (2, I v2), (3, I v3)] [] σ P
abbrev a_FI_choose_3 (G : GT)  (v1 : Int) (v2 : Int) (v3 : Int) (v4 : Int) (σ : St) (P : Int → St → Prop) : Prop := A G m_FI_choose 3 [(0, O 5), (1, I v1), (2, I v2), (3, I v3), (4, I v4)] [] σ P
abbrev a_FI_choose_63 (G : GT)  (v1 : Int) (v2 : Int) (v3 : Int) (v4 : Int) (v5 : Int) (v6 : Int) (v7 : Int) (σ : St) (P : Int → St → Prop) : Prop := A G m_FI_choose 63 [(0, O 5), (1, I v1), (2, I v2), (3, I v3), (4, I v4), (5, I v5), (6, I v6), (7, I v7)] [] σ P
set_option maxRecDepth 20000 in
theorem k_FI_choose_0 {G : GT} {σ : St} {P : Int → St → Prop}  {v1 : Int} {v2 : Int} {v3 : Int}  
    (h : a_FI_choose_3 G v1 v2 v3 0 σ P) :
    a_FI_choose_0 G v1 v2 v3 σ P := by
  refine r_iconst (q := 1) (dc dt_FI_choose 0 rfl) rfl rfl ?_
  refine r_istore (q := 3) (dc dt_FI_choose 1 rfl) rfl (by decide) rfl ?_
  exact r_loc [1, 2, 3, 4, 0] rfl h
set_option maxRecDepth 20000 in
theorem k_FI_choose_3 {G : GT} {σ : St} {P : Int → St → Prop}  {v1 : Int} {v2 : Int} {v3 : Int} {v4 : Int}  
    (h : (0 ≤ v1 ∧ v1 < 80) ∧ rng v4 ∧ (σ.1 72 v1.toNat ≤ v4 → P 0 σ) ∧ (v4 < σ.1 72 v1.toNat → (0 ≤ (v1 * 3) + v4 ∧ (v1 * 3) + v4 < 240) ∧ (0 ≤ σ.1 73 (((v1 * 3) + v4).toNat) ∧ σ.1 73 (((v1 * 3) + v4).toNat) < 60) ∧ rng (v1 + (σ.1 49 ((σ.1 73 (((v1 * 3) + v4).toNat)).toNat))) ∧ (σ.2.1 5 5 < v1 + (σ.1 49 ((σ.1 73 (((v1 * 3) + v4).toNat)).toNat)) → a_FI_choose_3 G v1 v2 v3 (v4 + 1) σ P) ∧ (v1 + (σ.1 49 ((σ.1 73 (((v1 * 3) + v4).toNat)).toNat)) ≤ σ.2.1 5 5 → p_UN_placeOf σ v1 (σ.1 73 (((v1 * 3) + v4).toNat)) ∧ a_FI_choose_63 G v1 v2 v3 v4 (σ.1 73 (((v1 * 3) + v4).toNat)) (f_UN_placeOf σ v1 (σ.1 73 (((v1 * 3) + v4).toNat))) 0 σ P))) :
    a_FI_choose_3 G v1 v2 v3 v4 σ P := by
  refine r_iload (q := 5) (dc dt_FI_choose 2 rfl) rfl 4 rfl ?_
  refine r_aload_n (q := 6) (dc dt_FI_choose 3 rfl) rfl rfl 0 rfl ?_
  refine r_getO (q := 9) (v := 4) fl_FI_50 (dc dt_FI_choose 4 rfl) rfl ly5 rfl ?_
  refine r_getO (q := 12) (v := 72) fl_FI_68 (dc dt_FI_choose 5 rfl) rfl ly4 rfl ?_
  refine r_iload_n (q := 13) (dc dt_FI_choose 6 rfl) rfl rfl 1 rfl ?_
  obtain ⟨o1, h⟩ := h
  refine r_iald (q := 14) (v := σ.1 72 v1.toNat) (dc dt_FI_choose 7 rfl) rfl ly72 o1 rfl (fun g2 => ?_)
  obtain ⟨o3, h⟩ := h
  refine r_icmp_ge (q := 17) (t := 118) (dc dt_FI_choose 8 rfl) rfl (by decide) o3 g2 (fun q_ => ?_) (fun q_ => ?_)
  · have h := h.1 q_
    refine r_iconst (q := 119) (dc dt_FI_choose 59 rfl) rfl rfl ?_
    exact r_zret rfl (dc dt_FI_choose 60 rfl) (by decide) h
  · have h := h.2 q_
    refine r_aload_n (q := 18) (dc dt_FI_choose 9 rfl) rfl rfl 0 rfl ?_
    refine r_getO (q := 21) (v := 4) fl_FI_50 (dc dt_FI_choose 10 rfl) rfl ly5 rfl ?_
    refine r_iload_n (q := 22) (dc dt_FI_choose 11 rfl) rfl rfl 1 rfl ?_
    refine r_iload (q := 24) (dc dt_FI_choose 12 rfl) rfl 4 rfl ?_
    obtain ⟨o4, h⟩ := h
    refine r_callVi (q := 27) mk_UN_kind lm_FI_73 (RMO.of rfl) rfl (dc dt_FI_choose 13 rfl) rfl ly4 [I v1, I v4] [] rfl rfl (Nat.le_of_ble_eq_true rfl) (sp_UN_kind o4) (fun _ _ g5 z => ?_)
    obtain ⟨z, w⟩ := z
    subst z
    replace w := w.symm
    subst w
    refine r_istore (q := 29) (dc dt_FI_choose 14 rfl) rfl (by decide) rfl ?_
    refine r_iload_n (q := 30) (dc dt_FI_choose 15 rfl) rfl rfl 2 rfl ?_
    refine r_aload_n (q := 31) (dc dt_FI_choose 16 rfl) rfl rfl 1 rfl ?_
    refine r_getO (q := 34) (v := 1) fl_FI_46 (dc dt_FI_choose 17 rfl) rfl ly5 rfl ?_
    refine r_getO (q := 37) (v := 49) fl_FI_92 (dc dt_FI_choose 18 rfl) rfl ly1 rfl ?_
    refine r_iload (q := 39) (dc dt_FI_choose 19 rfl) rfl 0 rfl ?_
    obtain ⟨o6, h⟩ := h
    refine r_iald (q := 40) (v := σ.1 49 ((σ.1 73 (((v1 * 3) + v4).toNat)).toNat)) (dc dt_FI_choose 20 rfl) rfl ly49 o6 rfl (fun g7 => ?_)
    refine r_iadd (q := 41) (dc dt_FI_choose 21 rfl) rfl ?_
    refine r_aload_n (q := 42) (dc dt_FI_choose 22 rfl) rfl rfl 1 rfl ?_
    refine r_getI (q := 45) (v := σ.2.1 5 5) fl_FI_23 (dc dt_FI_choose 23 rfl) rfl ly5 rfl rfl (fun g8 => ?_)
    obtain ⟨o9, h⟩ := h
    refine r_icmp_gt (q := 48) (t := 112) (dc dt_FI_choose 24 rfl) rfl (by decide) o9 g8 (fun q_ => ?_) (fun q_ => ?_)
    · have h := h.1 q_
      refine r_iinc (q := 115) (k := 5) (dc dt_FI_choose 57 rfl) rfl rfl (by decide) rfl ?_
      refine r_goto (q := 3) (dc dt_FI_choose 58 rfl) (by decide) ?_
      exact r_loc [2, 3, 4, 5, 0] rfl h
    · have h := h.2 q_
      refine r_aload_n (q := 49) (dc dt_FI_choose 25 rfl) rfl rfl 1 rfl ?_
      refine r_getO (q := 52) (v := 4) fl_FI_50 (dc dt_FI_choose 26 rfl) rfl ly5 rfl ?_
      refine r_iload_n (q := 53) (dc dt_FI_choose 27 rfl) rfl rfl 2 rfl ?_
      refine r_iload (q := 55) (dc dt_FI_choose 28 rfl) rfl 0 rfl ?_
      obtain ⟨o10, h⟩ := h
      refine r_callVi (q := 58) mk_UN_placeOf lm_FI_99 (RMO.of rfl) rfl (dc dt_FI_choose 29 rfl) rfl ly4 [I v1, I (σ.1 73 (((v1 * 3) + v4).toNat))] [] rfl rfl (Nat.le_of_ble_eq_true rfl) (sp_UN_placeOf o10) (fun _ _ g11 z => ?_)
      obtain ⟨z, w⟩ := z
      subst z
      replace w := w.symm
      subst w
      refine r_istore (q := 60) (dc dt_FI_choose 30 rfl) rfl (by decide) rfl ?_
      refine r_iconst (q := 61) (dc dt_FI_choose 31 rfl) rfl rfl ?_
      refine r_istore (q := 63) (dc dt_FI_choose 32 rfl) rfl (by decide) rfl ?_
      exact r_loc [3, 4, 5, 6, 7, 2, 1, 0] rfl h
set_option maxRecDepth 20000 in
theorem k_FI_choose_63 {G : GT} {σ : St} {P : Int → St → Prop}  {v1 : Int} {v2 : Int} {v3 : Int} {v4 : Int} {v5 : Int} {v6 : Int} {v7 : Int}  
    (h : (0 ≤ (v5 * 4) + v6 ∧ (v5 * 4) + v6 < 240) ∧ rng v7 ∧ (σ.1 55 (((v5 * 4) + v6).toNat) ≤ v7 → a_FI_choose_3 G v1 v2 v3 (v4 + 1) σ P) ∧ (v7 < σ.1 55 (((v5 * 4) + v6).toNat) → (0 ≤ (((v5 * 4) + v6) * 3) + v7 ∧ (((v5 * 4) + v6) * 3) + v7 < 720) ∧ CJ G m_FI_chooseStretch [O 5, I v1, I v2, I v3, I v5, I (σ.1 56 (((((v5 * 4) + v6) * 3) + v7).toNat))] σ (fun r18 u17 => (r18 = 0 → a_FI_choose_63 G v1 v2 v3 v4 v5 v6 (v7 + 1) u17 P) ∧ (r18 ≠ 0 → P 1 u17)))) :
    a_FI_choose_63 G v1 v2 v3 v4 v5 v6 v7 σ P := by
  refine r_iload (q := 65) (dc dt_FI_choose 33 rfl) rfl 7 rfl ?_
  refine r_aload_n (q := 66) (dc dt_FI_choose 34 rfl) rfl rfl 0 rfl ?_
  refine r_getO (q := 69) (v := 1) fl_FI_46 (dc dt_FI_choose 35 rfl) rfl ly5 rfl ?_
  refine r_iload (q := 71) (dc dt_FI_choose 36 rfl) rfl 5 rfl ?_
  refine r_iload (q := 73) (dc dt_FI_choose 37 rfl) rfl 6 rfl ?_
  obtain ⟨o12, h⟩ := h
  refine r_callVi (q := 76) mk_SC_formsOf lm_FI_102 (RMO.of rfl) rfl (dc dt_FI_choose 38 rfl) rfl ly1 [I v5, I v6] [I v7] rfl rfl (Nat.le_of_ble_eq_true rfl) (sp_SC_formsOf o12) (fun _ _ g13 z => ?_)
  obtain ⟨z, w⟩ := z
  subst z
  replace w := w.symm
  subst w
  obtain ⟨o14, h⟩ := h
  refine r_icmp_ge (q := 79) (t := 112) (dc dt_FI_choose 39 rfl) rfl (by decide) o14 g13 (fun q_ => ?_) (fun q_ => ?_)
  · have h := h.1 q_
    refine r_iinc (q := 115) (k := 4) (dc dt_FI_choose 57 rfl) rfl rfl (by decide) rfl ?_
    refine r_goto (q := 3) (dc dt_FI_choose 58 rfl) (by decide) ?_
    exact r_loc [1, 2, 3, 4, 0] rfl h
  · have h := h.2 q_
    refine r_aload_n (q := 80) (dc dt_FI_choose 40 rfl) rfl rfl 0 rfl ?_
    refine r_iload_n (q := 81) (dc dt_FI_choose 41 rfl) rfl rfl 1 rfl ?_
    refine r_iload_n (q := 82) (dc dt_FI_choose 42 rfl) rfl rfl 2 rfl ?_
    refine r_iload_n (q := 83) (dc dt_FI_choose 43 rfl) rfl rfl 3 rfl ?_
    refine r_iload (q := 85) (dc dt_FI_choose 44 rfl) rfl 5 rfl ?_
    refine r_aload_n (q := 86) (dc dt_FI_choose 45 rfl) rfl rfl 0 rfl ?_
    refine r_getO (q := 89) (v := 1) fl_FI_46 (dc dt_FI_choose 46 rfl) rfl ly5 rfl ?_
    refine r_iload (q := 91) (dc dt_FI_choose 47 rfl) rfl 5 rfl ?_
    refine r_iload (q := 93) (dc dt_FI_choose 48 rfl) rfl 6 rfl ?_
    refine r_iload (q := 95) (dc dt_FI_choose 49 rfl) rfl 7 rfl ?_
    obtain ⟨o15, h⟩ := h
    refine r_callVi (q := 98) mk_SC_formNumber lm_FI_105 (RMO.of rfl) rfl (dc dt_FI_choose 50 rfl) rfl ly1 [I v5, I v6, I v7] [I v5, I v3, I v2, I v1, O 5] rfl rfl (Nat.le_of_ble_eq_true rfl) (sp_SC_formNumber o15) (fun _ _ g16 z => ?_)
    obtain ⟨z, w⟩ := z
    subst z
    replace w := w.symm
    subst w
    refine r_callVi (q := 101) mk_FI_chooseStretch lm_FI_153 (RMO.of rfl) rfl (dc dt_FI_choose 51 rfl) rfl ly5 [I v1, I v2, I v3, I v5, I (σ.1 56 (((((v5 * 4) + v6) * 3) + v7).toNat))] [] rfl rfl (Nat.le_of_ble_eq_true rfl) h (fun r18 u17 g19 h => ?_)
    refine r_if_eq (q := 104) (t := 106) (dc dt_FI_choose 52 rfl) rfl (by decide) g19 (fun q_ => ?_) (fun q_ => ?_)
    · have h := h.1 q_
      refine r_iinc (q := 109) (k := 7) (dc dt_FI_choose 55 rfl) rfl rfl (by decide) rfl ?_
      refine r_goto (q := 63) (dc dt_FI_choose 56 rfl) (by decide) ?_
      exact r_loc [1, 2, 3, 4, 5, 6, 7, 0] rfl h
    · have h := h.2 q_
      refine r_iconst (q := 105) (dc dt_FI_choose 53 rfl) rfl rfl ?_
      exact r_zret rfl (dc dt_FI_choose 54 rfl) (by decide) h
def tb_BX_addBox : List (Nat × Instr × Nat) := [(0, .aload_n 0, 1), (1, .getfield 15, 3), (4, .aload_n 0, 1), (5, .getfield 9, 3), (8, .iload_n 1, 1), (9, .iastore, 1), (10, .aload_n 0, 1), (11, .getfield 19, 3), (14, .aload_n 0, 1), (15, .getfield 9, 3), (18, .iload_n 2, 1), (19, .iastore, 1), (20, .aload_n 0, 1), (21, .getfield 22, 3), (24, .aload_n 0, 1), (25, .getfield 9, 3), (28, .iload_n 3, 1), (29, .iastore, 1), (30, .aload_n 0, 1), (31, .getfield 25, 3), (34, .aload_n 0, 1), (35, .getfield 9, 3), (38, .iload 4, 2), (40, .iastore, 1), (41, .aload_n 0, 1), (42, .dup, 1), (43, .getfield 9, 3), (46, .iconst 1, 1), (47, .iadd, 1), (48, .putfield 9, 3), (51, .return_, 1)]
theorem dt_BX_addBox : DT (cM m_BX_addBox) tb_BX_addBox := by unfold DT; decide +kernel
abbrev a_BX_addBox_0 (G : GT) (q0 : Nat) (v1 : Int) (v2 : Int) (v3 : Int) (v4 : Int) (σ : St) (P : Int → St → Prop) : Prop := A G m_BX_addBox 0 [(0, O q0), (1, I v1), (2, I v2), (3, I v3), (4, I v4)] [] σ P
set_option maxRecDepth 20000 in
theorem k_BX_addBox_0 {G : GT} {σ : St} {P : Int → St → Prop} {q0 : Nat} {v1 : Int} {v2 : Int} {v3 : Int} {v4 : Int} (hq0 : isB q0) 
    (h : (0 ≤ σ.2.1 q0 0 ∧ σ.2.1 q0 0 < 80) ∧ rng v1 ∧ (∀ σ4, σ4 = sa σ (q0 + 1) ((σ.2.1 q0 0).toNat) v1 → rng v2 ∧ (∀ σ8, σ8 = sa σ4 (q0 + 2) ((σ.2.1 q0 0).toNat) v2 → rng v3 ∧ (∀ σ12, σ12 = sa σ8 (q0 + 3) ((σ.2.1 q0 0).toNat) v3 → rng v4 ∧ (∀ σ16, σ16 = sa σ12 (q0 + 4) ((σ.2.1 q0 0).toNat) v4 → rng ((σ.2.1 q0 0) + 1) ∧ (∀ σ19, σ19 = sf σ16 q0 0 ((σ.2.1 q0 0) + 1) → P 0 σ19)))))) :
    a_BX_addBox_0 G q0 v1 v2 v3 v4 σ P := by
  rcases hq0 with rfl | rfl | rfl | rfl
  ·
    refine r_aload_n (q := 1) (dc dt_BX_addBox 0 rfl) rfl rfl 0 rfl ?_
    refine r_getO (q := 4) (v := 10 + 1) fl_BX_15 (dc dt_BX_addBox 1 rfl) rfl rfl rfl ?_
    refine r_aload_n (q := 5) (dc dt_BX_addBox 2 rfl) rfl rfl 0 rfl ?_
    refine r_getI (q := 8) (v := σ.2.1 10 0) fl_BX_9 (dc dt_BX_addBox 3 rfl) rfl rfl rfl rfl (fun g1 => ?_)
    refine r_iload_n (q := 9) (dc dt_BX_addBox 4 rfl) rfl rfl 1 rfl ?_
    obtain ⟨o2, h⟩ := h
    obtain ⟨o3, h⟩ := h
    refine r_iast (q := 10) (dc dt_BX_addBox 5 rfl) rfl rfl o2 o3 (fun σ4 e5 => ?_)
    have h := h σ4 e5
    refine r_aload_n (q := 11) (dc dt_BX_addBox 6 rfl) rfl rfl 0 rfl ?_
    refine r_getO (q := 14) (v := 10 + 2) fl_BX_19 (dc dt_BX_addBox 7 rfl) rfl rfl rfl ?_
    refine r_aload_n (q := 15) (dc dt_BX_addBox 8 rfl) rfl rfl 0 rfl ?_
    refine r_getI (q := 18) (v := σ.2.1 10 0) fl_BX_9 (dc dt_BX_addBox 9 rfl) rfl rfl rfl (by rw [e5]; rfl) (fun g6 => ?_)
    refine r_iload_n (q := 19) (dc dt_BX_addBox 10 rfl) rfl rfl 2 rfl ?_
    obtain ⟨o7, h⟩ := h
    refine r_iast (q := 20) (dc dt_BX_addBox 11 rfl) rfl rfl o2 o7 (fun σ8 e9 => ?_)
    have h := h σ8 e9
    refine r_aload_n (q := 21) (dc dt_BX_addBox 12 rfl) rfl rfl 0 rfl ?_
    refine r_getO (q := 24) (v := 10 + 3) fl_BX_22 (dc dt_BX_addBox 13 rfl) rfl rfl rfl ?_
    refine r_aload_n (q := 25) (dc dt_BX_addBox 14 rfl) rfl rfl 0 rfl ?_
    refine r_getI (q := 28) (v := σ.2.1 10 0) fl_BX_9 (dc dt_BX_addBox 15 rfl) rfl rfl rfl (by rw [e9, e5]; rfl) (fun g10 => ?_)
    refine r_iload_n (q := 29) (dc dt_BX_addBox 16 rfl) rfl rfl 3 rfl ?_
    obtain ⟨o11, h⟩ := h
    refine r_iast (q := 30) (dc dt_BX_addBox 17 rfl) rfl rfl o2 o11 (fun σ12 e13 => ?_)
    have h := h σ12 e13
    refine r_aload_n (q := 31) (dc dt_BX_addBox 18 rfl) rfl rfl 0 rfl ?_
    refine r_getO (q := 34) (v := 10 + 4) fl_BX_25 (dc dt_BX_addBox 19 rfl) rfl rfl rfl ?_
    refine r_aload_n (q := 35) (dc dt_BX_addBox 20 rfl) rfl rfl 0 rfl ?_
    refine r_getI (q := 38) (v := σ.2.1 10 0) fl_BX_9 (dc dt_BX_addBox 21 rfl) rfl rfl rfl (by rw [e13, e9, e5]; rfl) (fun g14 => ?_)
    refine r_iload (q := 40) (dc dt_BX_addBox 22 rfl) rfl 4 rfl ?_
    obtain ⟨o15, h⟩ := h
    refine r_iast (q := 41) (dc dt_BX_addBox 23 rfl) rfl rfl o2 o15 (fun σ16 e17 => ?_)
    have h := h σ16 e17
    refine r_aload_n (q := 42) (dc dt_BX_addBox 24 rfl) rfl rfl 0 rfl ?_
    refine r_dupo (q := 43) (dc dt_BX_addBox 25 rfl) rfl ?_
    refine r_getI (q := 46) (v := σ.2.1 10 0) fl_BX_9 (dc dt_BX_addBox 26 rfl) rfl rfl rfl (by rw [e17, e13, e9, e5]; rfl) (fun g18 => ?_)
    refine r_iconst (q := 47) (dc dt_BX_addBox 27 rfl) rfl rfl ?_
    refine r_iadd (q := 48) (dc dt_BX_addBox 28 rfl) rfl ?_
    obtain ⟨o21, h⟩ := h
    refine r_put (q := 51) fl_BX_9 (dc dt_BX_addBox 29 rfl) rfl rfl (fun _ => rfl) (Or.inl rfl) pf_10_0 o21 (fun σ19 e20 => ?_)
    have h := h σ19 e20
    exact r_vret rfl (dc dt_BX_addBox 30 rfl) h
  ·
    refine r_aload_n (q := 1) (dc dt_BX_addBox 0 rfl) rfl rfl 0 rfl ?_
    refine r_getO (q := 4) (v := 16 + 1) fl_BX_15 (dc dt_BX_addBox 1 rfl) rfl rfl rfl ?_
    refine r_aload_n (q := 5) (dc dt_BX_addBox 2 rfl) rfl rfl 0 rfl ?_
    refine r_getI (q := 8) (v := σ.2.1 16 0) fl_BX_9 (dc dt_BX_addBox 3 rfl) rfl rfl rfl rfl (fun g1 => ?_)
    refine r_iload_n (q := 9) (dc dt_BX_addBox 4 rfl) rfl rfl 1 rfl ?_
    obtain ⟨o2, h⟩ := h
    obtain ⟨o3, h⟩ := h
    refine r_iast (q := 10) (dc dt_BX_addBox 5 rfl) rfl rfl o2 o3 (fun σ4 e5 => ?_)
    have h := h σ4 e5
    refine r_aload_n (q := 11) (dc dt_BX_addBox 6 rfl) rfl rfl 0 rfl ?_
    refine r_getO (q := 14) (v := 16 + 2) fl_BX_19 (dc dt_BX_addBox 7 rfl) rfl rfl rfl ?_
    refine r_aload_n (q := 15) (dc dt_BX_addBox 8 rfl) rfl rfl 0 rfl ?_
    refine r_getI (q := 18) (v := σ.2.1 16 0) fl_BX_9 (dc dt_BX_addBox 9 rfl) rfl rfl rfl (by rw [e5]; rfl) (fun g6 => ?_)
    refine r_iload_n (q := 19) (dc dt_BX_addBox 10 rfl) rfl rfl 2 rfl ?_
    obtain ⟨o7, h⟩ := h
    refine r_iast (q := 20) (dc dt_BX_addBox 11 rfl) rfl rfl o2 o7 (fun σ8 e9 => ?_)
    have h := h σ8 e9
    refine r_aload_n (q := 21) (dc dt_BX_addBox 12 rfl) rfl rfl 0 rfl ?_
    refine r_getO (q := 24) (v := 16 + 3) fl_BX_22 (dc dt_BX_addBox 13 rfl) rfl rfl rfl ?_
    refine r_aload_n (q := 25) (dc dt_BX_addBox 14 rfl) rfl rfl 0 rfl ?_
    refine r_getI (q := 28) (v := σ.2.1 16 0) fl_BX_9 (dc dt_BX_addBox 15 rfl) rfl rfl rfl (by rw [e9, e5]; rfl) (fun g10 => ?_)
    refine r_iload_n (q := 29) (dc dt_BX_addBox 16 rfl) rfl rfl 3 rfl ?_
    obtain ⟨o11, h⟩ := h
    refine r_iast (q := 30) (dc dt_BX_addBox 17 rfl) rfl rfl o2 o11 (fun σ12 e13 => ?_)
    have h := h σ12 e13
    refine r_aload_n (q := 31) (dc dt_BX_addBox 18 rfl) rfl rfl 0 rfl ?_
    refine r_getO (q := 34) (v := 16 + 4) fl_BX_25 (dc dt_BX_addBox 19 rfl) rfl rfl rfl ?_
    refine r_aload_n (q := 35) (dc dt_BX_addBox 20 rfl) rfl rfl 0 rfl ?_
    refine r_getI (q := 38) (v := σ.2.1 16 0) fl_BX_9 (dc dt_BX_addBox 21 rfl) rfl rfl rfl (by rw [e13, e9, e5]; rfl) (fun g14 => ?_)
    refine r_iload (q := 40) (dc dt_BX_addBox 22 rfl) rfl 4 rfl ?_
    obtain ⟨o15, h⟩ := h
    refine r_iast (q := 41) (dc dt_BX_addBox 23 rfl) rfl rfl o2 o15 (fun σ16 e17 => ?_)
    have h := h σ16 e17
    refine r_aload_n (q := 42) (dc dt_BX_addBox 24 rfl) rfl rfl 0 rfl ?_
    refine r_dupo (q := 43) (dc dt_BX_addBox 25 rfl) rfl ?_
    refine r_getI (q := 46) (v := σ.2.1 16 0) fl_BX_9 (dc dt_BX_addBox 26 rfl) rfl rfl rfl (by rw [e17, e13, e9, e5]; rfl) (fun g18 => ?_)
    refine r_iconst (q := 47) (dc dt_BX_addBox 27 rfl) rfl rfl ?_
    refine r_iadd (q := 48) (dc dt_BX_addBox 28 rfl) rfl ?_
    obtain ⟨o21, h⟩ := h
    refine r_put (q := 51) fl_BX_9 (dc dt_BX_addBox 29 rfl) rfl rfl (fun _ => rfl) (Or.inl rfl) pf_10_0 o21 (fun σ19 e20 => ?_)
    have h := h σ19 e20
    exact r_vret rfl (dc dt_BX_addBox 30 rfl) h
  ·
    refine r_aload_n (q := 1) (dc dt_BX_addBox 0 rfl) rfl rfl 0 rfl ?_
    refine r_getO (q := 4) (v := 29 + 1) fl_BX_15 (dc dt_BX_addBox 1 rfl) rfl rfl rfl ?_
    refine r_aload_n (q := 5) (dc dt_BX_addBox 2 rfl) rfl rfl 0 rfl ?_
    refine r_getI (q := 8) (v := σ.2.1 29 0) fl_BX_9 (dc dt_BX_addBox 3 rfl) rfl rfl rfl rfl (fun g1 => ?_)
    refine r_iload_n (q := 9) (dc dt_BX_addBox 4 rfl) rfl rfl 1 rfl ?_
    obtain ⟨o2, h⟩ := h
    obtain ⟨o3, h⟩ := h
    refine r_iast (q := 10) (dc dt_BX_addBox 5 rfl) rfl rfl o2 o3 (fun σ4 e5 => ?_)
    have h := h σ4 e5
    refine r_aload_n (q := 11) (dc dt_BX_addBox 6 rfl) rfl rfl 0 rfl ?_
    refine r_getO (q := 14) (v := 29 + 2) fl_BX_19 (dc dt_BX_addBox 7 rfl) rfl rfl rfl ?_
    refine r_aload_n (q := 15) (dc dt_BX_addBox 8 rfl) rfl rfl 0 rfl ?_
    refine r_getI (q := 18) (v := σ.2.1 29 0) fl_BX_9 (dc dt_BX_addBox 9 rfl) rfl rfl rfl (by rw [e5]; rfl) (fun g6 => ?_)
    refine r_iload_n (q := 19) (dc dt_BX_addBox 10 rfl) rfl rfl 2 rfl ?_
    obtain ⟨o7, h⟩ := h
    refine r_iast (q := 20) (dc dt_BX_addBox 11 rfl) rfl rfl o2 o7 (fun σ8 e9 => ?_)
    have h := h σ8 e9
    refine r_aload_n (q := 21) (dc dt_BX_addBox 12 rfl) rfl rfl 0 rfl ?_
    refine r_getO (q := 24) (v := 29 + 3) fl_BX_22 (dc dt_BX_addBox 13 rfl) rfl rfl rfl ?_
    refine r_aload_n (q := 25) (dc dt_BX_addBox 14 rfl) rfl rfl 0 rfl ?_
    refine r_getI (q := 28) (v := σ.2.1 29 0) fl_BX_9 (dc dt_BX_addBox 15 rfl) rfl rfl rfl (by rw [e9, e5]; rfl) (fun g10 => ?_)
    refine r_iload_n (q := 29) (dc dt_BX_addBox 16 rfl) rfl rfl 3 rfl ?_
    obtain ⟨o11, h⟩ := h
    refine r_iast (q := 30) (dc dt_BX_addBox 17 rfl) rfl rfl o2 o11 (fun σ12 e13 => ?_)
    have h := h σ12 e13
    refine r_aload_n (q := 31) (dc dt_BX_addBox 18 rfl) rfl rfl 0 rfl ?_
    refine r_getO (q := 34) (v := 29 + 4) fl_BX_25 (dc dt_BX_addBox 19 rfl) rfl rfl rfl ?_
    refine r_aload_n (q := 35) (dc dt_BX_addBox 20 rfl) rfl rfl 0 rfl ?_
    refine r_getI (q := 38) (v := σ.2.1 29 0) fl_BX_9 (dc dt_BX_addBox 21 rfl) rfl rfl rfl (by rw [e13, e9, e5]; rfl) (fun g14 => ?_)
    refine r_iload (q := 40) (dc dt_BX_addBox 22 rfl) rfl 4 rfl ?_
    obtain ⟨o15, h⟩ := h
    refine r_iast (q := 41) (dc dt_BX_addBox 23 rfl) rfl rfl o2 o15 (fun σ16 e17 => ?_)
    have h := h σ16 e17
    refine r_aload_n (q := 42) (dc dt_BX_addBox 24 rfl) rfl rfl 0 rfl ?_
    refine r_dupo (q := 43) (dc dt_BX_addBox 25 rfl) rfl ?_
    refine r_getI (q := 46) (v := σ.2.1 29 0) fl_BX_9 (dc dt_BX_addBox 26 rfl) rfl rfl rfl (by rw [e17, e13, e9, e5]; rfl) (fun g18 => ?_)
    refine r_iconst (q := 47) (dc dt_BX_addBox 27 rfl) rfl rfl ?_
    refine r_iadd (q := 48) (dc dt_BX_addBox 28 rfl) rfl ?_
    obtain ⟨o21, h⟩ := h
    refine r_put (q := 51) fl_BX_9 (dc dt_BX_addBox 29 rfl) rfl rfl (fun _ => rfl) (Or.inl rfl) pf_10_0 o21 (fun σ19 e20 => ?_)
    have h := h σ19 e20
    exact r_vret rfl (dc dt_BX_addBox 30 rfl) h
  ·
    refine r_aload_n (q := 1) (dc dt_BX_addBox 0 rfl) rfl rfl 0 rfl ?_
    refine r_getO (q := 4) (v := 35 + 1) fl_BX_15 (dc dt_BX_addBox 1 rfl) rfl rfl rfl ?_
    refine r_aload_n (q := 5) (dc dt_BX_addBox 2 rfl) rfl rfl 0 rfl ?_
    refine r_getI (q := 8) (v := σ.2.1 35 0) fl_BX_9 (dc dt_BX_addBox 3 rfl) rfl rfl rfl rfl (fun g1 => ?_)
    refine r_iload_n (q := 9) (dc dt_BX_addBox 4 rfl) rfl rfl 1 rfl ?_
    obtain ⟨o2, h⟩ := h
    obtain ⟨o3, h⟩ := h
    refine r_iast (q := 10) (dc dt_BX_addBox 5 rfl) rfl rfl o2 o3 (fun σ4 e5 => ?_)
    have h := h σ4 e5
    refine r_aload_n (q := 11) (dc dt_BX_addBox 6 rfl) rfl rfl 0 rfl ?_
    refine r_getO (q := 14) (v := 35 + 2) fl_BX_19 (dc dt_BX_addBox 7 rfl) rfl rfl rfl ?_
    refine r_aload_n (q := 15) (dc dt_BX_addBox 8 rfl) rfl rfl 0 rfl ?_
    refine r_getI (q := 18) (v := σ.2.1 35 0) fl_BX_9 (dc dt_BX_addBox 9 rfl) rfl rfl rfl (by rw [e5]; rfl) (fun g6 => ?_)
    refine r_iload_n (q := 19) (dc dt_BX_addBox 10 rfl) rfl rfl 2 rfl ?_
    obtain ⟨o7, h⟩ := h
    refine r_iast (q := 20) (dc dt_BX_addBox 11 rfl) rfl rfl o2 o7 (fun σ8 e9 => ?_)
    have h := h σ8 e9
    refine r_aload_n (q := 21) (dc dt_BX_addBox 12 rfl) rfl rfl 0 rfl ?_
    refine r_getO (q := 24) (v := 35 + 3) fl_BX_22 (dc dt_BX_addBox 13 rfl) rfl rfl rfl ?_
    refine r_aload_n (q := 25) (dc dt_BX_addBox 14 rfl) rfl rfl 0 rfl ?_
    refine r_getI (q := 28) (v := σ.2.1 35 0) fl_BX_9 (dc dt_BX_addBox 15 rfl) rfl rfl rfl (by rw [e9, e5]; rfl) (fun g10 => ?_)
    refine r_iload_n (q := 29) (dc dt_BX_addBox 16 rfl) rfl rfl 3 rfl ?_
    obtain ⟨o11, h⟩ := h
    refine r_iast (q := 30) (dc dt_BX_addBox 17 rfl) rfl rfl o2 o11 (fun σ12 e13 => ?_)
    have h := h σ12 e13
    refine r_aload_n (q := 31) (dc dt_BX_addBox 18 rfl) rfl rfl 0 rfl ?_
    refine r_getO (q := 34) (v := 35 + 4) fl_BX_25 (dc dt_BX_addBox 19 rfl) rfl rfl rfl ?_
    refine r_aload_n (q := 35) (dc dt_BX_addBox 20 rfl) rfl rfl 0 rfl ?_
    refine r_getI (q := 38) (v := σ.2.1 35 0) fl_BX_9 (dc dt_BX_addBox 21 rfl) rfl rfl rfl (by rw [e13, e9, e5]; rfl) (fun g14 => ?_)
    refine r_iload (q := 40) (dc dt_BX_addBox 22 rfl) rfl 4 rfl ?_
    obtain ⟨o15, h⟩ := h
    refine r_iast (q := 41) (dc dt_BX_addBox 23 rfl) rfl rfl o2 o15 (fun σ16 e17 => ?_)
    have h := h σ16 e17
    refine r_aload_n (q := 42) (dc dt_BX_addBox 24 rfl) rfl rfl 0 rfl ?_
    refine r_dupo (q := 43) (dc dt_BX_addBox 25 rfl) rfl ?_
    refine r_getI (q := 46) (v := σ.2.1 35 0) fl_BX_9 (dc dt_BX_addBox 26 rfl) rfl rfl rfl (by rw [e17, e13, e9, e5]; rfl) (fun g18 => ?_)
    refine r_iconst (q := 47) (dc dt_BX_addBox 27 rfl) rfl rfl ?_
    refine r_iadd (q := 48) (dc dt_BX_addBox 28 rfl) rfl ?_
    obtain ⟨o21, h⟩ := h
    refine r_put (q := 51) fl_BX_9 (dc dt_BX_addBox 29 rfl) rfl rfl (fun _ => rfl) (Or.inl rfl) pf_10_0 o21 (fun σ19 e20 => ?_)
    have h := h σ19 e20
    exact r_vret rfl (dc dt_BX_addBox 30 rfl) h
def tb_LN_addPiece : List (Nat × Instr × Nat) := [(0, .aload_n 0, 1), (1, .getfield 40, 3), (4, .getfield 59, 3), (7, .istore 5, 2), (9, .aload_n 0, 1), (10, .getfield 51, 3), (13, .getfield 70, 3), (16, .iload_n 3, 1), (17, .aaload, 1), (18, .astore 6, 2), (20, .aload_n 0, 1), (21, .getfield 24, 3), (24, .iload 5, 2), (26, .iload_n 1, 1), (27, .iastore, 1), (28, .aload_n 0, 1), (29, .getfield 28, 3), (32, .iload 5, 2), (34, .iload_n 2, 1), (35, .iastore, 1), (36, .aload_n 0, 1), (37, .getfield 31, 3), (40, .iload 5, 2), (42, .iload_n 3, 1), (43, .iastore, 1), (44, .aload_n 0, 1), (45, .getfield 34, 3), (48, .iload 5, 2), (50, .iload 4, 2), (52, .iastore, 1), (53, .aload_n 0, 1), (54, .getfield 9, 3), (57, .aload 6, 2), (59, .iconst 2, 1), (60, .iaload, 1), (61, .iadd, 1), (62, .iload 4, 2), (64, .iadd, 1), (65, .istore 7, 2), (67, .aload_n 0, 1), (68, .getfield 40, 3), (71, .aload_n 0, 1), (72, .getfield 9, 3), (75, .iload 7, 2), (77, .aload 6, 2), (79, .iconst 4, 1), (80, .iaload, 1), (81, .ineg, 1), (82, .aload 6, 2), (84, .iconst 3, 1), (85, .iaload, 1), (86, .invokevirtual 76, 3), (89, .aload_n 0, 1), (90, .iload 7, 2), (92, .putfield 9, 3), (95, .aload_n 0, 1), (96, .dup, 1), (97, .getfield 15, 3), (100, .aload_n 0, 1), (101, .getfield 51, 3), (104, .iload_n 3, 1), (105, .iload 4, 2), (107, .invokevirtual 80, 3), (110, .iadd, 1), (111, .putfield 15, 3), (114, .return_, 1)]
theorem dt_LN_addPiece : DT (cM m_LN_addPiece) tb_LN_addPiece := by unfold DT; decide +kernel
abbrev a_LN_addPiece_0 (G : GT) (q0 : Nat) (v1 : Int) (v2 : Int) (v3 : Int) (v4 : Int) (σ : St) (P : Int → St → Prop) : Prop := A G m_LN_addPiece 0 [(0, O q0), (1, I v1), (2, I v2), (3, I v3), (4, I v4)] [] σ P
set_option maxRecDepth 20000 in
theorem k_LN_addPiece_0 {G : GT} {σ : St} {P : Int → St → Prop} {q0 : Nat} {v1 : Int} {v2 : Int} {v3 : Int} {v4 : Int} (hq0 : isL q0) 
    (h : (0 ≤ v3 ∧ v3 < 200) ∧ (0 ≤ σ.2.1 (q0 + 1) 0 ∧ σ.2.1 (q0 + 1) 0 < 80) ∧ rng v1 ∧ (∀ σ5, σ5 = sa σ (q0 + 15) ((σ.2.1 (q0 + 1) 0).toNat) v1 → rng v2 ∧ (∀ σ8, σ8 = sa σ5 (q0 + 16) ((σ.2.1 (q0 + 1) 0).toNat) v2 → rng v3 ∧ (∀ σ11, σ11 = sa σ8 (q0 + 17) ((σ.2.1 (q0 + 1) 0).toNat) v3 → rng v4 ∧ (∀ σ14, σ14 = sa σ11 (q0 + 18) ((σ.2.1 (q0 + 1) 0).toNat) v4 → CJ G m_BX_addBox [O (q0 + 1), I (σ.2.1 q0 2), I (((σ.2.1 q0 2) + (σ14.1 (176 + v3.toNat) 2)) + v4), I (-(σ14.1 (176 + v3.toNat) 4)), I (σ14.1 (176 + v3.toNat) 3)] σ14 (fun _ u21 => rng (((σ.2.1 q0 2) + (σ14.1 (176 + v3.toNat) 2)) + v4) ∧ (∀ σ22, σ22 = sf u21 q0 2 (((σ.2.1 q0 2) + (σ14.1 (176 + v3.toNat) 2)) + v4) → rng ((σ22.1 (176 + v3.toNat) 5) + (((σ22.1 (176 + v3.toNat) 8) * v4) * v4)) ∧ rng ((u21.2.1 q0 3) + ((σ22.1 (176 + v3.toNat) 5) + (((σ22.1 (176 + v3.toNat) 8) * v4) * v4))) ∧ (∀ σ28, σ28 = sf σ22 q0 3 ((u21.2.1 q0 3) + ((σ22.1 (176 + v3.toNat) 5) + (((σ22.1 (176 + v3.toNat) 8) * v4) * v4))) → P 0 σ28)))))))) :
    a_LN_addPiece_0 G q0 v1 v2 v3 v4 σ P := by
  rcases hq0 with rfl | rfl
  ·
    refine r_aload_n (q := 1) (dc dt_LN_addPiece 0 rfl) rfl rfl 0 rfl ?_
    refine r_getO (q := 4) (v := 9 + 1) fl_LN_40 (dc dt_LN_addPiece 1 rfl) rfl rfl rfl ?_
    refine r_getI (q := 7) (v := σ.2.1 (9 + 1) 0) fl_LN_59 (dc dt_LN_addPiece 2 rfl) rfl rfl rfl rfl (fun g1 => ?_)
    refine r_istore (q := 9) (dc dt_LN_addPiece 3 rfl) rfl (by decide) rfl ?_
    refine r_aload_n (q := 10) (dc dt_LN_addPiece 4 rfl) rfl rfl 1 rfl ?_
    refine r_getO (q := 13) (v := 1) fl_LN_51 (dc dt_LN_addPiece 5 rfl) rfl rfl rfl ?_
    refine r_getO (q := 16) (v := 54) fl_LN_70 (dc dt_LN_addPiece 6 rfl) rfl ly1 rfl ?_
    refine r_iload_n (q := 17) (dc dt_LN_addPiece 7 rfl) rfl rfl 4 rfl ?_
    obtain ⟨o2, h⟩ := h
    refine r_aald (q := 18) (dc dt_LN_addPiece 8 rfl) rfl ly54 o2 rfl ?_
    refine r_astore (q := 20) (dc dt_LN_addPiece 9 rfl) rfl (by decide) rfl ?_
    refine r_aload_n (q := 21) (dc dt_LN_addPiece 10 rfl) rfl rfl 2 rfl ?_
    refine r_getO (q := 24) (v := 9 + 15) fl_LN_24 (dc dt_LN_addPiece 11 rfl) rfl rfl rfl ?_
    refine r_iload (q := 26) (dc dt_LN_addPiece 12 rfl) rfl 1 rfl ?_
    refine r_iload_n (q := 27) (dc dt_LN_addPiece 13 rfl) rfl rfl 3 rfl ?_
    obtain ⟨o3, h⟩ := h
    obtain ⟨o4, h⟩ := h
    refine r_iast (q := 28) (dc dt_LN_addPiece 14 rfl) rfl rfl o3 o4 (fun σ5 e6 => ?_)
    have h := h σ5 e6
    refine r_aload_n (q := 29) (dc dt_LN_addPiece 15 rfl) rfl rfl 2 rfl ?_
    refine r_getO (q := 32) (v := 9 + 16) fl_LN_28 (dc dt_LN_addPiece 16 rfl) rfl rfl rfl ?_
    refine r_iload (q := 34) (dc dt_LN_addPiece 17 rfl) rfl 1 rfl ?_
    refine r_iload_n (q := 35) (dc dt_LN_addPiece 18 rfl) rfl rfl 4 rfl ?_
    obtain ⟨o7, h⟩ := h
    refine r_iast (q := 36) (dc dt_LN_addPiece 19 rfl) rfl rfl o3 o7 (fun σ8 e9 => ?_)
    have h := h σ8 e9
    refine r_aload_n (q := 37) (dc dt_LN_addPiece 20 rfl) rfl rfl 2 rfl ?_
    refine r_getO (q := 40) (v := 9 + 17) fl_LN_31 (dc dt_LN_addPiece 21 rfl) rfl rfl rfl ?_
    refine r_iload (q := 42) (dc dt_LN_addPiece 22 rfl) rfl 1 rfl ?_
    refine r_iload_n (q := 43) (dc dt_LN_addPiece 23 rfl) rfl rfl 5 rfl ?_
    obtain ⟨o10, h⟩ := h
    refine r_iast (q := 44) (dc dt_LN_addPiece 24 rfl) rfl rfl o3 o10 (fun σ11 e12 => ?_)
    have h := h σ11 e12
    refine r_aload_n (q := 45) (dc dt_LN_addPiece 25 rfl) rfl rfl 2 rfl ?_
    refine r_getO (q := 48) (v := 9 + 18) fl_LN_34 (dc dt_LN_addPiece 26 rfl) rfl rfl rfl ?_
    refine r_iload (q := 50) (dc dt_LN_addPiece 27 rfl) rfl 1 rfl ?_
    refine r_iload (q := 52) (dc dt_LN_addPiece 28 rfl) rfl 6 rfl ?_
    obtain ⟨o13, h⟩ := h
    refine r_iast (q := 53) (dc dt_LN_addPiece 29 rfl) rfl rfl o3 o13 (fun σ14 e15 => ?_)
    have h := h σ14 e15
    refine r_aload_n (q := 54) (dc dt_LN_addPiece 30 rfl) rfl rfl 2 rfl ?_
    refine r_getI (q := 57) (v := σ.2.1 9 2) fl_LN_9 (dc dt_LN_addPiece 31 rfl) rfl rfl rfl (by rw [e15, e12, e9, e6]; rfl) (fun g16 => ?_)
    refine r_aload (q := 59) (dc dt_LN_addPiece 32 rfl) rfl 0 rfl ?_
    refine r_iconst (q := 60) (dc dt_LN_addPiece 33 rfl) rfl rfl ?_
    refine r_iald (q := 61) (v := σ14.1 (176 + v3.toNat) 2) (dc dt_LN_addPiece 34 rfl) rfl (lyr_176 o2) ⟨by decide, by decide⟩ rfl (fun g17 => ?_)
    refine r_iadd (q := 62) (dc dt_LN_addPiece 35 rfl) rfl ?_
    refine r_iload (q := 64) (dc dt_LN_addPiece 36 rfl) rfl 6 rfl ?_
    refine r_iadd (q := 65) (dc dt_LN_addPiece 37 rfl) rfl ?_
    refine r_istore (q := 67) (dc dt_LN_addPiece 38 rfl) rfl (by decide) rfl ?_
    refine r_aload_n (q := 68) (dc dt_LN_addPiece 39 rfl) rfl rfl 3 rfl ?_
    refine r_getO (q := 71) (v := 9 + 1) fl_LN_40 (dc dt_LN_addPiece 40 rfl) rfl rfl rfl ?_
    refine r_aload_n (q := 72) (dc dt_LN_addPiece 41 rfl) rfl rfl 3 rfl ?_
    refine r_getI (q := 75) (v := σ.2.1 9 2) fl_LN_9 (dc dt_LN_addPiece 42 rfl) rfl rfl rfl (by rw [e15, e12, e9, e6]; rfl) (fun g18 => ?_)
    refine r_iload (q := 77) (dc dt_LN_addPiece 43 rfl) rfl 0 rfl ?_
    refine r_aload (q := 79) (dc dt_LN_addPiece 44 rfl) rfl 1 rfl ?_
    refine r_iconst (q := 80) (dc dt_LN_addPiece 45 rfl) rfl rfl ?_
    refine r_iald (q := 81) (v := σ14.1 (176 + v3.toNat) 4) (dc dt_LN_addPiece 46 rfl) rfl (lyr_176 o2) ⟨by decide, by decide⟩ rfl (fun g19 => ?_)
    refine r_ineg (q := 82) (dc dt_LN_addPiece 47 rfl) rfl ?_
    refine r_aload (q := 84) (dc dt_LN_addPiece 48 rfl) rfl 1 rfl ?_
    refine r_iconst (q := 85) (dc dt_LN_addPiece 49 rfl) rfl rfl ?_
    refine r_iald (q := 86) (v := σ14.1 (176 + v3.toNat) 3) (dc dt_LN_addPiece 50 rfl) rfl (lyr_176 o2) ⟨by decide, by decide⟩ rfl (fun g20 => ?_)
    refine r_callVv (q := 89) mk_BX_addBox lm_LN_76 (RMO.of rfl) rfl (dc dt_LN_addPiece 51 rfl) rfl rfl [I (σ.2.1 9 2), I (((σ.2.1 9 2) + (σ14.1 (176 + v3.toNat) 2)) + v4), I (-(σ14.1 (176 + v3.toNat) 4)), I (σ14.1 (176 + v3.toNat) 3)] [] rfl rfl (Nat.le_of_ble_eq_true rfl) h (fun u21 h => ?_)
    refine r_aload_n (q := 90) (dc dt_LN_addPiece 52 rfl) rfl rfl 3 rfl ?_
    refine r_iload (q := 92) (dc dt_LN_addPiece 53 rfl) rfl 0 rfl ?_
    obtain ⟨o24, h⟩ := h
    refine r_put (q := 95) fl_LN_9 (dc dt_LN_addPiece 54 rfl) rfl rfl (fun _ => rfl) (Or.inl rfl) pf_9_2 o24 (fun σ22 e23 => ?_)
    have h := h σ22 e23
    refine r_aload_n (q := 96) (dc dt_LN_addPiece 55 rfl) rfl rfl 3 rfl ?_
    refine r_dupo (q := 97) (dc dt_LN_addPiece 56 rfl) rfl ?_
    refine r_getI (q := 100) (v := u21.2.1 9 3) fl_LN_15 (dc dt_LN_addPiece 57 rfl) rfl rfl rfl (by rw [e23]; rfl) (fun g25 => ?_)
    refine r_aload_n (q := 101) (dc dt_LN_addPiece 58 rfl) rfl rfl 3 rfl ?_
    refine r_getO (q := 104) (v := 1) fl_LN_51 (dc dt_LN_addPiece 59 rfl) rfl rfl rfl ?_
    refine r_iload_n (q := 105) (dc dt_LN_addPiece 60 rfl) rfl rfl 6 rfl ?_
    refine r_iload (q := 107) (dc dt_LN_addPiece 61 rfl) rfl 7 rfl ?_
    obtain ⟨o26, h⟩ := h
    refine r_callVi (q := 110) mk_SC_priceOf lm_LN_80 (RMO.of rfl) rfl (dc dt_LN_addPiece 62 rfl) rfl ly1 [I v3, I v4] [I (u21.2.1 9 3), O 9] rfl rfl (Nat.le_of_ble_eq_true rfl) (sp_SC_priceOf o2 o26) (fun _ _ g27 z => ?_)
    obtain ⟨z, w⟩ := z
    subst z
    replace w := w.symm
    subst w
    refine r_iadd (q := 111) (dc dt_LN_addPiece 63 rfl) rfl ?_
    obtain ⟨o30, h⟩ := h
    refine r_put (q := 114) fl_LN_15 (dc dt_LN_addPiece 64 rfl) rfl rfl (fun _ => rfl) (Or.inl rfl) pf_9_3 o30 (fun σ28 e29 => ?_)
    have h := h σ28 e29
    exact r_vret rfl (dc dt_LN_addPiece 65 rfl) h
  ·
    refine r_aload_n (q := 1) (dc dt_LN_addPiece 0 rfl) rfl rfl 0 rfl ?_
    refine r_getO (q := 4) (v := 28 + 1) fl_LN_40 (dc dt_LN_addPiece 1 rfl) rfl rfl rfl ?_
    refine r_getI (q := 7) (v := σ.2.1 (28 + 1) 0) fl_LN_59 (dc dt_LN_addPiece 2 rfl) rfl rfl rfl rfl (fun g1 => ?_)
    refine r_istore (q := 9) (dc dt_LN_addPiece 3 rfl) rfl (by decide) rfl ?_
    refine r_aload_n (q := 10) (dc dt_LN_addPiece 4 rfl) rfl rfl 1 rfl ?_
    refine r_getO (q := 13) (v := 1) fl_LN_51 (dc dt_LN_addPiece 5 rfl) rfl rfl rfl ?_
    refine r_getO (q := 16) (v := 54) fl_LN_70 (dc dt_LN_addPiece 6 rfl) rfl ly1 rfl ?_
    refine r_iload_n (q := 17) (dc dt_LN_addPiece 7 rfl) rfl rfl 4 rfl ?_
    obtain ⟨o2, h⟩ := h
    refine r_aald (q := 18) (dc dt_LN_addPiece 8 rfl) rfl ly54 o2 rfl ?_
    refine r_astore (q := 20) (dc dt_LN_addPiece 9 rfl) rfl (by decide) rfl ?_
    refine r_aload_n (q := 21) (dc dt_LN_addPiece 10 rfl) rfl rfl 2 rfl ?_
    refine r_getO (q := 24) (v := 28 + 15) fl_LN_24 (dc dt_LN_addPiece 11 rfl) rfl rfl rfl ?_
    refine r_iload (q := 26) (dc dt_LN_addPiece 12 rfl) rfl 1 rfl ?_
    refine r_iload_n (q := 27) (dc dt_LN_addPiece 13 rfl) rfl rfl 3 rfl ?_
    obtain ⟨o3, h⟩ := h
    obtain ⟨o4, h⟩ := h
    refine r_iast (q := 28) (dc dt_LN_addPiece 14 rfl) rfl rfl o3 o4 (fun σ5 e6 => ?_)
    have h := h σ5 e6
    refine r_aload_n (q := 29) (dc dt_LN_addPiece 15 rfl) rfl rfl 2 rfl ?_
    refine r_getO (q := 32) (v := 28 + 16) fl_LN_28 (dc dt_LN_addPiece 16 rfl) rfl rfl rfl ?_
    refine r_iload (q := 34) (dc dt_LN_addPiece 17 rfl) rfl 1 rfl ?_
    refine r_iload_n (q := 35) (dc dt_LN_addPiece 18 rfl) rfl rfl 4 rfl ?_
    obtain ⟨o7, h⟩ := h
    refine r_iast (q := 36) (dc dt_LN_addPiece 19 rfl) rfl rfl o3 o7 (fun σ8 e9 => ?_)
    have h := h σ8 e9
    refine r_aload_n (q := 37) (dc dt_LN_addPiece 20 rfl) rfl rfl 2 rfl ?_
    refine r_getO (q := 40) (v := 28 + 17) fl_LN_31 (dc dt_LN_addPiece 21 rfl) rfl rfl rfl ?_
    refine r_iload (q := 42) (dc dt_LN_addPiece 22 rfl) rfl 1 rfl ?_
    refine r_iload_n (q := 43) (dc dt_LN_addPiece 23 rfl) rfl rfl 5 rfl ?_
    obtain ⟨o10, h⟩ := h
    refine r_iast (q := 44) (dc dt_LN_addPiece 24 rfl) rfl rfl o3 o10 (fun σ11 e12 => ?_)
    have h := h σ11 e12
    refine r_aload_n (q := 45) (dc dt_LN_addPiece 25 rfl) rfl rfl 2 rfl ?_
    refine r_getO (q := 48) (v := 28 + 18) fl_LN_34 (dc dt_LN_addPiece 26 rfl) rfl rfl rfl ?_
    refine r_iload (q := 50) (dc dt_LN_addPiece 27 rfl) rfl 1 rfl ?_
    refine r_iload (q := 52) (dc dt_LN_addPiece 28 rfl) rfl 6 rfl ?_
    obtain ⟨o13, h⟩ := h
    refine r_iast (q := 53) (dc dt_LN_addPiece 29 rfl) rfl rfl o3 o13 (fun σ14 e15 => ?_)
    have h := h σ14 e15
    refine r_aload_n (q := 54) (dc dt_LN_addPiece 30 rfl) rfl rfl 2 rfl ?_
    refine r_getI (q := 57) (v := σ.2.1 28 2) fl_LN_9 (dc dt_LN_addPiece 31 rfl) rfl rfl rfl (by rw [e15, e12, e9, e6]; rfl) (fun g16 => ?_)
    refine r_aload (q := 59) (dc dt_LN_addPiece 32 rfl) rfl 0 rfl ?_
    refine r_iconst (q := 60) (dc dt_LN_addPiece 33 rfl) rfl rfl ?_
    refine r_iald (q := 61) (v := σ14.1 (176 + v3.toNat) 2) (dc dt_LN_addPiece 34 rfl) rfl (lyr_176 o2) ⟨by decide, by decide⟩ rfl (fun g17 => ?_)
    refine r_iadd (q := 62) (dc dt_LN_addPiece 35 rfl) rfl ?_
    refine r_iload (q := 64) (dc dt_LN_addPiece 36 rfl) rfl 6 rfl ?_
    refine r_iadd (q := 65) (dc dt_LN_addPiece 37 rfl) rfl ?_
    refine r_istore (q := 67) (dc dt_LN_addPiece 38 rfl) rfl (by decide) rfl ?_
    refine r_aload_n (q := 68) (dc dt_LN_addPiece 39 rfl) rfl rfl 3 rfl ?_
    refine r_getO (q := 71) (v := 28 + 1) fl_LN_40 (dc dt_LN_addPiece 40 rfl) rfl rfl rfl ?_
    refine r_aload_n (q := 72) (dc dt_LN_addPiece 41 rfl) rfl rfl 3 rfl ?_
    refine r_getI (q := 75) (v := σ.2.1 28 2) fl_LN_9 (dc dt_LN_addPiece 42 rfl) rfl rfl rfl (by rw [e15, e12, e9, e6]; rfl) (fun g18 => ?_)
    refine r_iload (q := 77) (dc dt_LN_addPiece 43 rfl) rfl 0 rfl ?_
    refine r_aload (q := 79) (dc dt_LN_addPiece 44 rfl) rfl 1 rfl ?_
    refine r_iconst (q := 80) (dc dt_LN_addPiece 45 rfl) rfl rfl ?_
    refine r_iald (q := 81) (v := σ14.1 (176 + v3.toNat) 4) (dc dt_LN_addPiece 46 rfl) rfl (lyr_176 o2) ⟨by decide, by decide⟩ rfl (fun g19 => ?_)
    refine r_ineg (q := 82) (dc dt_LN_addPiece 47 rfl) rfl ?_
    refine r_aload (q := 84) (dc dt_LN_addPiece 48 rfl) rfl 1 rfl ?_
    refine r_iconst (q := 85) (dc dt_LN_addPiece 49 rfl) rfl rfl ?_
    refine r_iald (q := 86) (v := σ14.1 (176 + v3.toNat) 3) (dc dt_LN_addPiece 50 rfl) rfl (lyr_176 o2) ⟨by decide, by decide⟩ rfl (fun g20 => ?_)
    refine r_callVv (q := 89) mk_BX_addBox lm_LN_76 (RMO.of rfl) rfl (dc dt_LN_addPiece 51 rfl) rfl rfl [I (σ.2.1 28 2), I (((σ.2.1 28 2) + (σ14.1 (176 + v3.toNat) 2)) + v4), I (-(σ14.1 (176 + v3.toNat) 4)), I (σ14.1 (176 + v3.toNat) 3)] [] rfl rfl (Nat.le_of_ble_eq_true rfl) h (fun u21 h => ?_)
    refine r_aload_n (q := 90) (dc dt_LN_addPiece 52 rfl) rfl rfl 3 rfl ?_
    refine r_iload (q := 92) (dc dt_LN_addPiece 53 rfl) rfl 0 rfl ?_
    obtain ⟨o24, h⟩ := h
    refine r_put (q := 95) fl_LN_9 (dc dt_LN_addPiece 54 rfl) rfl rfl (fun _ => rfl) (Or.inl rfl) pf_9_2 o24 (fun σ22 e23 => ?_)
    have h := h σ22 e23
    refine r_aload_n (q := 96) (dc dt_LN_addPiece 55 rfl) rfl rfl 3 rfl ?_
    refine r_dupo (q := 97) (dc dt_LN_addPiece 56 rfl) rfl ?_
    refine r_getI (q := 100) (v := u21.2.1 28 3) fl_LN_15 (dc dt_LN_addPiece 57 rfl) rfl rfl rfl (by rw [e23]; rfl) (fun g25 => ?_)
    refine r_aload_n (q := 101) (dc dt_LN_addPiece 58 rfl) rfl rfl 3 rfl ?_
    refine r_getO (q := 104) (v := 1) fl_LN_51 (dc dt_LN_addPiece 59 rfl) rfl rfl rfl ?_
    refine r_iload_n (q := 105) (dc dt_LN_addPiece 60 rfl) rfl rfl 6 rfl ?_
    refine r_iload (q := 107) (dc dt_LN_addPiece 61 rfl) rfl 7 rfl ?_
    obtain ⟨o26, h⟩ := h
    refine r_callVi (q := 110) mk_SC_priceOf lm_LN_80 (RMO.of rfl) rfl (dc dt_LN_addPiece 62 rfl) rfl ly1 [I v3, I v4] [I (u21.2.1 28 3), O 28] rfl rfl (Nat.le_of_ble_eq_true rfl) (sp_SC_priceOf o2 o26) (fun _ _ g27 z => ?_)
    obtain ⟨z, w⟩ := z
    subst z
    replace w := w.symm
    subst w
    refine r_iadd (q := 111) (dc dt_LN_addPiece 63 rfl) rfl ?_
    obtain ⟨o30, h⟩ := h
    refine r_put (q := 114) fl_LN_15 (dc dt_LN_addPiece 64 rfl) rfl rfl (fun _ => rfl) (Or.inl rfl) pf_9_3 o30 (fun σ28 e29 => ?_)
    have h := h σ28 e29
    exact r_vret rfl (dc dt_LN_addPiece 65 rfl) h
def tb_FI_trace : List (Nat × Instr × Nat) := [(0, .aload_n 3, 1), (1, .iload_n 1, 1), (2, .aload_n 0, 1), (3, .getfield 23, 3), (6, .iconst 1, 1), (7, .isub, 1), (8, .invokevirtual 140, 3), (11, .iconst 0, 1), (12, .istore 4, 2), (14, .iload_n 2, 1), (15, .istore 5, 2), (17, .iload_n 1, 1), (18, .istore 6, 2), (20, .iconst 0, 1), (21, .istore 7, 2), (23, .iload 7, 2), (25, .bipush 80, 2), (27, .if_icmp .ge 96, 3), (30, .iload 6, 2), (32, .aload_n 0, 1), (33, .getfield 23, 3), (36, .if_icmp .ge 87, 3), (39, .aload_n 0, 1), (40, .iload 6, 2), (42, .iload 4, 2), (44, .iload 5, 2), (46, .invokevirtual 146, 3), (49, .ifCond .eq 74, 3), (52, .aload_n 3, 1), (53, .aload_n 0, 1), (54, .getfield 34, 3), (57, .iload 6, 2), (59, .aload_n 0, 1), (60, .getfield 37, 3), (63, .aload_n 0, 1), (64, .getfield 40, 3), (67, .invokevirtual 150, 3), (70, .iload 5, 2), (72, .aload_n 0, 1), (73, .getfield 46, 3), (76, .getfield 120, 3), (79, .aload_n 0, 1), (80, .getfield 37, 3), (83, .aaload, 1), (84, .iconst 2, 1), (85, .iaload, 1), (86, .aload_n 0, 1), (87, .getfield 40, 3), (90, .iadd, 1), (91, .isub, 1), (92, .istore 5, 2), (94, .iload 6, 2), (96, .aload_n 0, 1), (97, .getfield 46, 3), (100, .getfield 92, 3), (103, .aload_n 0, 1), (104, .getfield 34, 3), (107, .iaload, 1), (108, .iadd, 1), (109, .istore 6, 2), (111, .aload_n 0, 1), (112, .getfield 43, 3), (115, .istore 4, 2), (117, .iinc 7 1, 3), (120, .goto (-97), 3), (123, .return_, 1)]
theorem dt_FI_trace : DT (cM m_FI_trace) tb_FI_trace := by unfold DT; decide +kernel
abbrev a_FI_trace_0 (G : GT) (q3 : Nat) (v1 : Int) (v2 : Int) (σ : St) (P : Int → St → Prop) : Prop := A G m_FI_trace 0 [(0, O 5), (1, I v1), (2, I v2), (3, O q3)] [] σ P
abbrev a_FI_trace_23 (G : GT) (q3 : Nat) (v4 : Int) (v5 : Int) (v6 : Int) (v7 : Int) (σ : St) (P : Int → St → Prop) : Prop := A G m_FI_trace 23 [(0, O 5), (3, O q3), (4, I v4), (5, I v5), (6, I v6), (7, I v7)] [] σ P
set_option maxRecDepth 20000 in
theorem k_FI_trace_0 {G : GT} {σ : St} {P : Int → St → Prop} {q3 : Nat} {v1 : Int} {v2 : Int} (hq3 : isL q3) 
    (h : CJ G m_LN_begin [O q3, I v1, I ((σ.2.1 5 5) - 1)] σ (fun _ u2 => a_FI_trace_23 G q3 0 v2 v1 0 u2 P)) :
    a_FI_trace_0 G q3 v1 v2 σ P := by
  rcases hq3 with rfl | rfl
  ·
    refine r_aload_n (q := 1) (dc dt_FI_trace 0 rfl) rfl rfl 3 rfl ?_
    refine r_iload_n (q := 2) (dc dt_FI_trace 1 rfl) rfl rfl 1 rfl ?_
    refine r_aload_n (q := 3) (dc dt_FI_trace 2 rfl) rfl rfl 0 rfl ?_
    refine r_getI (q := 6) (v := σ.2.1 5 5) fl_FI_23 (dc dt_FI_trace 3 rfl) rfl ly5 rfl rfl (fun g1 => ?_)
    refine r_iconst (q := 7) (dc dt_FI_trace 4 rfl) rfl rfl ?_
    refine r_isub (q := 8) (dc dt_FI_trace 5 rfl) rfl ?_
    refine r_callVv (q := 11) mk_LN_begin lm_FI_140 (RMO.of rfl) rfl (dc dt_FI_trace 6 rfl) rfl rfl [I v1, I ((σ.2.1 5 5) - 1)] [] rfl rfl (Nat.le_of_ble_eq_true rfl) h (fun u2 h => ?_)
    refine r_iconst (q := 12) (dc dt_FI_trace 7 rfl) rfl rfl ?_
    refine r_istore (q := 14) (dc dt_FI_trace 8 rfl) rfl (by decide) rfl ?_
    refine r_iload_n (q := 15) (dc dt_FI_trace 9 rfl) rfl rfl 3 rfl ?_
    refine r_istore (q := 17) (dc dt_FI_trace 10 rfl) rfl (by decide) rfl ?_
    refine r_iload_n (q := 18) (dc dt_FI_trace 11 rfl) rfl rfl 3 rfl ?_
    refine r_istore (q := 20) (dc dt_FI_trace 12 rfl) rfl (by decide) rfl ?_
    refine r_iconst (q := 21) (dc dt_FI_trace 13 rfl) rfl rfl ?_
    refine r_istore (q := 23) (dc dt_FI_trace 14 rfl) rfl (by decide) rfl ?_
    exact r_loc [4, 7, 3, 2, 1, 0] rfl h
  ·
    refine r_aload_n (q := 1) (dc dt_FI_trace 0 rfl) rfl rfl 3 rfl ?_
    refine r_iload_n (q := 2) (dc dt_FI_trace 1 rfl) rfl rfl 1 rfl ?_
    refine r_aload_n (q := 3) (dc dt_FI_trace 2 rfl) rfl rfl 0 rfl ?_
    refine r_getI (q := 6) (v := σ.2.1 5 5) fl_FI_23 (dc dt_FI_trace 3 rfl) rfl ly5 rfl rfl (fun g1 => ?_)
    refine r_iconst (q := 7) (dc dt_FI_trace 4 rfl) rfl rfl ?_
    refine r_isub (q := 8) (dc dt_FI_trace 5 rfl) rfl ?_
    refine r_callVv (q := 11) mk_LN_begin lm_FI_140 (RMO.of rfl) rfl (dc dt_FI_trace 6 rfl) rfl rfl [I v1, I ((σ.2.1 5 5) - 1)] [] rfl rfl (Nat.le_of_ble_eq_true rfl) h (fun u2 h => ?_)
    refine r_iconst (q := 12) (dc dt_FI_trace 7 rfl) rfl rfl ?_
    refine r_istore (q := 14) (dc dt_FI_trace 8 rfl) rfl (by decide) rfl ?_
    refine r_iload_n (q := 15) (dc dt_FI_trace 9 rfl) rfl rfl 3 rfl ?_
    refine r_istore (q := 17) (dc dt_FI_trace 10 rfl) rfl (by decide) rfl ?_
    refine r_iload_n (q := 18) (dc dt_FI_trace 11 rfl) rfl rfl 3 rfl ?_
    refine r_istore (q := 20) (dc dt_FI_trace 12 rfl) rfl (by decide) rfl ?_
    refine r_iconst (q := 21) (dc dt_FI_trace 13 rfl) rfl rfl ?_
    refine r_istore (q := 23) (dc dt_FI_trace 14 rfl) rfl (by decide) rfl ?_
    exact r_loc [4, 7, 3, 2, 1, 0] rfl h
set_option maxRecDepth 20000 in
theorem k_FI_trace_23 {G : GT} {σ : St} {P : Int → St → Prop} {q3 : Nat} {v4 : Int} {v5 : Int} {v6 : Int} {v7 : Int} (hq3 : isL q3) 
    (h : rng v7 ∧ (80 ≤ v7 → P 0 σ) ∧ (v7 < 80 → rng v6 ∧ (σ.2.1 5 5 ≤ v6 → P 0 σ) ∧ (v6 < σ.2.1 5 5 → CJ G m_FI_choose [O 5, I v6, I v4, I v5] σ (fun r9 u8 => (r9 = 0 → P 0 u8) ∧ (r9 ≠ 0 → CJ G m_LN_addPiece [O q3, I (u8.2.1 5 8), I v6, I (u8.2.1 5 9), I (u8.2.1 5 10)] u8 (fun _ u17 => (0 ≤ u17.2.1 5 9 ∧ u17.2.1 5 9 < 200) ∧ (0 ≤ u17.2.1 5 8 ∧ u17.2.1 5 8 < 60) ∧ a_FI_trace_23 G q3 (u17.2.1 5 11) (v5 - ((u17.1 (176 + (u17.2.1 5 9).toNat) 2) + (u17.2.1 5 10))) (v6 + (u17.1 49 ((u17.2.1 5 8).toNat))) (v7 + 1) u17 P)))))) :
    a_FI_trace_23 G q3 v4 v5 v6 v7 σ P := by
  rcases hq3 with rfl | rfl
  ·
    refine r_iload (q := 25) (dc dt_FI_trace 15 rfl) rfl 5 rfl ?_
    refine r_bipush (q := 27) (dc dt_FI_trace 16 rfl) rfl (by decide) ?_
    obtain ⟨o3, h⟩ := h
    refine r_icmp_ge (q := 30) (t := 123) (dc dt_FI_trace 17 rfl) rfl (by decide) o3 (⟨by decide, by decide⟩ : rng 80) (fun q_ => ?_) (fun q_ => ?_)
    · have h := h.1 q_
      exact r_vret rfl (dc dt_FI_trace 65 rfl) h
    · have h := h.2 q_
      refine r_iload (q := 32) (dc dt_FI_trace 18 rfl) rfl 4 rfl ?_
      refine r_aload_n (q := 33) (dc dt_FI_trace 19 rfl) rfl rfl 0 rfl ?_
      refine r_getI (q := 36) (v := σ.2.1 5 5) fl_FI_23 (dc dt_FI_trace 20 rfl) rfl ly5 rfl rfl (fun g6 => ?_)
      obtain ⟨o7, h⟩ := h
      refine r_icmp_ge (q := 39) (t := 123) (dc dt_FI_trace 21 rfl) rfl (by decide) o7 g6 (fun q_ => ?_) (fun q_ => ?_)
      · have h := h.1 q_
        exact r_vret rfl (dc dt_FI_trace 65 rfl) h
      · have h := h.2 q_
        refine r_aload_n (q := 40) (dc dt_FI_trace 22 rfl) rfl rfl 0 rfl ?_
        refine r_iload (q := 42) (dc dt_FI_trace 23 rfl) rfl 4 rfl ?_
        refine r_iload (q := 44) (dc dt_FI_trace 24 rfl) rfl 2 rfl ?_
        refine r_iload (q := 46) (dc dt_FI_trace 25 rfl) rfl 3 rfl ?_
        refine r_callVi (q := 49) mk_FI_choose lm_FI_146 (RMO.of rfl) rfl (dc dt_FI_trace 26 rfl) rfl ly5 [I v6, I v4, I v5] [] rfl rfl (Nat.le_of_ble_eq_true rfl) h (fun r9 u8 g10 h => ?_)
        refine r_if_eq (q := 52) (t := 123) (dc dt_FI_trace 27 rfl) rfl (by decide) g10 (fun q_ => ?_) (fun q_ => ?_)
        · have h := h.1 q_
          exact r_vret rfl (dc dt_FI_trace 65 rfl) h
        · have h := h.2 q_
          refine r_aload_n (q := 53) (dc dt_FI_trace 28 rfl) rfl rfl 1 rfl ?_
          refine r_aload_n (q := 54) (dc dt_FI_trace 29 rfl) rfl rfl 0 rfl ?_
          refine r_getI (q := 57) (v := u8.2.1 5 8) fl_FI_34 (dc dt_FI_trace 30 rfl) rfl ly5 rfl rfl (fun g14 => ?_)
          refine r_iload (q := 59) (dc dt_FI_trace 31 rfl) rfl 4 rfl ?_
          refine r_aload_n (q := 60) (dc dt_FI_trace 32 rfl) rfl rfl 0 rfl ?_
          refine r_getI (q := 63) (v := u8.2.1 5 9) fl_FI_37 (dc dt_FI_trace 33 rfl) rfl ly5 rfl rfl (fun g15 => ?_)
          refine r_aload_n (q := 64) (dc dt_FI_trace 34 rfl) rfl rfl 0 rfl ?_
          refine r_getI (q := 67) (v := u8.2.1 5 10) fl_FI_40 (dc dt_FI_trace 35 rfl) rfl ly5 rfl rfl (fun g16 => ?_)
          refine r_callVv (q := 70) mk_LN_addPiece lm_FI_150 (RMO.of rfl) rfl (dc dt_FI_trace 36 rfl) rfl rfl [I (u8.2.1 5 8), I v6, I (u8.2.1 5 9), I (u8.2.1 5 10)] [] rfl rfl (Nat.le_of_ble_eq_true rfl) h (fun u17 h => ?_)
          refine r_iload (q := 72) (dc dt_FI_trace 37 rfl) rfl 3 rfl ?_
          refine r_aload_n (q := 73) (dc dt_FI_trace 38 rfl) rfl rfl 0 rfl ?_
          refine r_getO (q := 76) (v := 1) fl_FI_46 (dc dt_FI_trace 39 rfl) rfl ly5 rfl ?_
          refine r_getO (q := 79) (v := 54) fl_FI_120 (dc dt_FI_trace 40 rfl) rfl ly1 rfl ?_
          refine r_aload_n (q := 80) (dc dt_FI_trace 41 rfl) rfl rfl 0 rfl ?_
          refine r_getI (q := 83) (v := u17.2.1 5 9) fl_FI_37 (dc dt_FI_trace 42 rfl) rfl ly5 rfl rfl (fun g18 => ?_)
          obtain ⟨o19, h⟩ := h
          refine r_aald (q := 84) (dc dt_FI_trace 43 rfl) rfl ly54 o19 rfl ?_
          refine r_iconst (q := 85) (dc dt_FI_trace 44 rfl) rfl rfl ?_
          refine r_iald (q := 86) (v := u17.1 (176 + (u17.2.1 5 9).toNat) 2) (dc dt_FI_trace 45 rfl) rfl (lyr_176 o19) ⟨by decide, by decide⟩ rfl (fun g20 => ?_)
          refine r_aload_n (q := 87) (dc dt_FI_trace 46 rfl) rfl rfl 0 rfl ?_
          refine r_getI (q := 90) (v := u17.2.1 5 10) fl_FI_40 (dc dt_FI_trace 47 rfl) rfl ly5 rfl rfl (fun g21 => ?_)
          refine r_iadd (q := 91) (dc dt_FI_trace 48 rfl) rfl ?_
          refine r_isub (q := 92) (dc dt_FI_trace 49 rfl) rfl ?_
          refine r_istore (q := 94) (dc dt_FI_trace 50 rfl) rfl (by decide) rfl ?_
          refine r_iload (q := 96) (dc dt_FI_trace 51 rfl) rfl 4 rfl ?_
          refine r_aload_n (q := 97) (dc dt_FI_trace 52 rfl) rfl rfl 1 rfl ?_
          refine r_getO (q := 100) (v := 1) fl_FI_46 (dc dt_FI_trace 53 rfl) rfl ly5 rfl ?_
          refine r_getO (q := 103) (v := 49) fl_FI_92 (dc dt_FI_trace 54 rfl) rfl ly1 rfl ?_
          refine r_aload_n (q := 104) (dc dt_FI_trace 55 rfl) rfl rfl 1 rfl ?_
          refine r_getI (q := 107) (v := u17.2.1 5 8) fl_FI_34 (dc dt_FI_trace 56 rfl) rfl ly5 rfl rfl (fun g22 => ?_)
          obtain ⟨o23, h⟩ := h
          refine r_iald (q := 108) (v := u17.1 49 ((u17.2.1 5 8).toNat)) (dc dt_FI_trace 57 rfl) rfl ly49 o23 rfl (fun g24 => ?_)
          refine r_iadd (q := 109) (dc dt_FI_trace 58 rfl) rfl ?_
          refine r_istore (q := 111) (dc dt_FI_trace 59 rfl) rfl (by decide) rfl ?_
          refine r_aload_n (q := 112) (dc dt_FI_trace 60 rfl) rfl rfl 2 rfl ?_
          refine r_getI (q := 115) (v := u17.2.1 5 11) fl_FI_43 (dc dt_FI_trace 61 rfl) rfl ly5 rfl rfl (fun g25 => ?_)
          refine r_istore (q := 117) (dc dt_FI_trace 62 rfl) rfl (by decide) rfl ?_
          refine r_iinc (q := 120) (k := 5) (dc dt_FI_trace 63 rfl) rfl rfl (by decide) rfl ?_
          refine r_goto (q := 23) (dc dt_FI_trace 64 rfl) (by decide) ?_
          exact r_loc [4, 5, 1, 3, 2, 0] rfl h
  ·
    refine r_iload (q := 25) (dc dt_FI_trace 15 rfl) rfl 5 rfl ?_
    refine r_bipush (q := 27) (dc dt_FI_trace 16 rfl) rfl (by decide) ?_
    obtain ⟨o3, h⟩ := h
    refine r_icmp_ge (q := 30) (t := 123) (dc dt_FI_trace 17 rfl) rfl (by decide) o3 (⟨by decide, by decide⟩ : rng 80) (fun q_ => ?_) (fun q_ => ?_)
    · have h := h.1 q_
      exact r_vret rfl (dc dt_FI_trace 65 rfl) h
    · have h := h.2 q_
      refine r_iload (q := 32) (dc dt_FI_trace 18 rfl) rfl 4 rfl ?_
      refine r_aload_n (q := 33) (dc dt_FI_trace 19 rfl) rfl rfl 0 rfl ?_
      refine r_getI (q := 36) (v := σ.2.1 5 5) fl_FI_23 (dc dt_FI_trace 20 rfl) rfl ly5 rfl rfl (fun g6 => ?_)
      obtain ⟨o7, h⟩ := h
      refine r_icmp_ge (q := 39) (t := 123) (dc dt_FI_trace 21 rfl) rfl (by decide) o7 g6 (fun q_ => ?_) (fun q_ => ?_)
      · have h := h.1 q_
        exact r_vret rfl (dc dt_FI_trace 65 rfl) h
      · have h := h.2 q_
        refine r_aload_n (q := 40) (dc dt_FI_trace 22 rfl) rfl rfl 0 rfl ?_
        refine r_iload (q := 42) (dc dt_FI_trace 23 rfl) rfl 4 rfl ?_
        refine r_iload (q := 44) (dc dt_FI_trace 24 rfl) rfl 2 rfl ?_
        refine r_iload (q := 46) (dc dt_FI_trace 25 rfl) rfl 3 rfl ?_
        refine r_callVi (q := 49) mk_FI_choose lm_FI_146 (RMO.of rfl) rfl (dc dt_FI_trace 26 rfl) rfl ly5 [I v6, I v4, I v5] [] rfl rfl (Nat.le_of_ble_eq_true rfl) h (fun r9 u8 g10 h => ?_)
        refine r_if_eq (q := 52) (t := 123) (dc dt_FI_trace 27 rfl) rfl (by decide) g10 (fun q_ => ?_) (fun q_ => ?_)
        · have h := h.1 q_
          exact r_vret rfl (dc dt_FI_trace 65 rfl) h
        · have h := h.2 q_
          refine r_aload_n (q := 53) (dc dt_FI_trace 28 rfl) rfl rfl 1 rfl ?_
          refine r_aload_n (q := 54) (dc dt_FI_trace 29 rfl) rfl rfl 0 rfl ?_
          refine r_getI (q := 57) (v := u8.2.1 5 8) fl_FI_34 (dc dt_FI_trace 30 rfl) rfl ly5 rfl rfl (fun g14 => ?_)
          refine r_iload (q := 59) (dc dt_FI_trace 31 rfl) rfl 4 rfl ?_
          refine r_aload_n (q := 60) (dc dt_FI_trace 32 rfl) rfl rfl 0 rfl ?_
          refine r_getI (q := 63) (v := u8.2.1 5 9) fl_FI_37 (dc dt_FI_trace 33 rfl) rfl ly5 rfl rfl (fun g15 => ?_)
          refine r_aload_n (q := 64) (dc dt_FI_trace 34 rfl) rfl rfl 0 rfl ?_
          refine r_getI (q := 67) (v := u8.2.1 5 10) fl_FI_40 (dc dt_FI_trace 35 rfl) rfl ly5 rfl rfl (fun g16 => ?_)
          refine r_callVv (q := 70) mk_LN_addPiece lm_FI_150 (RMO.of rfl) rfl (dc dt_FI_trace 36 rfl) rfl rfl [I (u8.2.1 5 8), I v6, I (u8.2.1 5 9), I (u8.2.1 5 10)] [] rfl rfl (Nat.le_of_ble_eq_true rfl) h (fun u17 h => ?_)
          refine r_iload (q := 72) (dc dt_FI_trace 37 rfl) rfl 3 rfl ?_
          refine r_aload_n (q := 73) (dc dt_FI_trace 38 rfl) rfl rfl 0 rfl ?_
          refine r_getO (q := 76) (v := 1) fl_FI_46 (dc dt_FI_trace 39 rfl) rfl ly5 rfl ?_
          refine r_getO (q := 79) (v := 54) fl_FI_120 (dc dt_FI_trace 40 rfl) rfl ly1 rfl ?_
          refine r_aload_n (q := 80) (dc dt_FI_trace 41 rfl) rfl rfl 0 rfl ?_
          refine r_getI (q := 83) (v := u17.2.1 5 9) fl_FI_37 (dc dt_FI_trace 42 rfl) rfl ly5 rfl rfl (fun g18 => ?_)
          obtain ⟨o19, h⟩ := h
          refine r_aald (q := 84) (dc dt_FI_trace 43 rfl) rfl ly54 o19 rfl ?_
          refine r_iconst (q := 85) (dc dt_FI_trace 44 rfl) rfl rfl ?_
          refine r_iald (q := 86) (v := u17.1 (176 + (u17.2.1 5 9).toNat) 2) (dc dt_FI_trace 45 rfl) rfl (lyr_176 o19) ⟨by decide, by decide⟩ rfl (fun g20 => ?_)
          refine r_aload_n (q := 87) (dc dt_FI_trace 46 rfl) rfl rfl 0 rfl ?_
          refine r_getI (q := 90) (v := u17.2.1 5 10) fl_FI_40 (dc dt_FI_trace 47 rfl) rfl ly5 rfl rfl (fun g21 => ?_)
          refine r_iadd (q := 91) (dc dt_FI_trace 48 rfl) rfl ?_
          refine r_isub (q := 92) (dc dt_FI_trace 49 rfl) rfl ?_
          refine r_istore (q := 94) (dc dt_FI_trace 50 rfl) rfl (by decide) rfl ?_
          refine r_iload (q := 96) (dc dt_FI_trace 51 rfl) rfl 4 rfl ?_
          refine r_aload_n (q := 97) (dc dt_FI_trace 52 rfl) rfl rfl 1 rfl ?_
          refine r_getO (q := 100) (v := 1) fl_FI_46 (dc dt_FI_trace 53 rfl) rfl ly5 rfl ?_
          refine r_getO (q := 103) (v := 49) fl_FI_92 (dc dt_FI_trace 54 rfl) rfl ly1 rfl ?_
          refine r_aload_n (q := 104) (dc dt_FI_trace 55 rfl) rfl rfl 1 rfl ?_
          refine r_getI (q := 107) (v := u17.2.1 5 8) fl_FI_34 (dc dt_FI_trace 56 rfl) rfl ly5 rfl rfl (fun g22 => ?_)
          obtain ⟨o23, h⟩ := h
          refine r_iald (q := 108) (v := u17.1 49 ((u17.2.1 5 8).toNat)) (dc dt_FI_trace 57 rfl) rfl ly49 o23 rfl (fun g24 => ?_)
          refine r_iadd (q := 109) (dc dt_FI_trace 58 rfl) rfl ?_
          refine r_istore (q := 111) (dc dt_FI_trace 59 rfl) rfl (by decide) rfl ?_
          refine r_aload_n (q := 112) (dc dt_FI_trace 60 rfl) rfl rfl 2 rfl ?_
          refine r_getI (q := 115) (v := u17.2.1 5 11) fl_FI_43 (dc dt_FI_trace 61 rfl) rfl ly5 rfl rfl (fun g25 => ?_)
          refine r_istore (q := 117) (dc dt_FI_trace 62 rfl) rfl (by decide) rfl ?_
          refine r_iinc (q := 120) (k := 5) (dc dt_FI_trace 63 rfl) rfl rfl (by decide) rfl ?_
          refine r_goto (q := 23) (dc dt_FI_trace 64 rfl) (by decide) ?_
          exact r_loc [4, 5, 1, 3, 2, 0] rfl h
def tb_BX_wayOff : List (Nat × Instr × Nat) := [(0, .iload_n 3, 1), (1, .iload 4, 2), (3, .if_icmp .lt 5, 3), (6, .iconst 0, 1), (7, .ireturn, 1), (8, .iconst 0, 1), (9, .istore 6, 2), (11, .iload 6, 2), (13, .aload_n 0, 1), (14, .getfield 9, 3), (17, .if_icmp .ge 123, 3), (20, .iload_n 1, 1), (21, .aload_n 0, 1), (22, .getfield 19, 3), (25, .iload 6, 2), (27, .iaload, 1), (28, .if_icmp .ge 18, 3), (31, .aload_n 0, 1), (32, .getfield 15, 3), (35, .iload 6, 2), (37, .iaload, 1), (38, .iload_n 2, 1), (39, .if_icmp .ge 7, 3), (42, .iconst 1, 1), (43, .goto 4, 3), (46, .iconst 0, 1), (47, .istore 7, 2), (49, .iload_n 3, 1), (50, .aload_n 0, 1), (51, .getfield 25, 3), (54, .iload 6, 2), (56, .iaload, 1), (57, .if_icmp .ge 36, 3), (60, .aload_n 0, 1), (61, .getfield 22, 3), (64, .iload 6, 2), (66, .iaload, 1), (67, .iload 4, 2), (69, .if_icmp .ge 24, 3), (72, .aload_n 0, 1), (73, .getfield 22, 3), (76, .iload 6, 2), (78, .iaload, 1), (79, .aload_n 0, 1), (80, .getfield 25, 3), (83, .iload 6, 2), (85, .iaload, 1), (86, .if_icmp .ge 7, 3), (89, .iconst 1, 1), (90, .goto 4, 3), (93, .iconst 0, 1), (94, .istore 8, 2), (96, .iload 7, 2), (98, .ifCond .eq 36, 3), (101, .iload 8, 2), (103, .ifCond .eq 31, 3), (106, .iload 5, 2), (108, .ifCond .eq 15, 3), (111, .aload_n 0, 1), (112, .getfield 25, 3), (115, .iload 6, 2), (117, .iaload, 1), (118, .iload_n 3, 1), (119, .isub, 1), (120, .goto 13, 3), (123, .iload 4, 2), (125, .aload_n 0, 1), (126, .getfield 22, 3), (129, .iload 6, 2), (131, .iaload, 1), (132, .isub, 1), (133, .ireturn, 1), (134, .iinc 6 1, 3), (137, .goto (-126), 3), (140, .iconst 0, 1), (141, .ireturn, 1)]
theorem dt_BX_wayOff : DT (cM m_BX_wayOff) tb_BX_wayOff := by unfold DT; decide +kernel
abbrev a_BX_wayOff_0 (G : GT) (q0 : Nat) (v1 : Int) (v2 : Int) (v3 : Int) (v4 : Int) (v5 : Int) (σ : St) (P : Int → St → Prop) : Prop := A G m_BX_wayOff 0 [(0, O q0), (1, I v1), (2, I v2), (3, I v3), (4, I v4), (5, I v5)] [] σ P
abbrev a_BX_wayOff_11 (G : GT) (q0 : Nat) (v1 : Int) (v2 : Int) (v3 : Int) (v4 : Int) (v5 : Int) (v6 : Int) (σ : St) (P : Int → St → Prop) : Prop := A G m_BX_wayOff 11 [(0, O q0), (1, I v1), (2, I v2), (3, I v3), (4, I v4), (5, I v5), (6, I v6)] [] σ P
set_option maxRecDepth 20000 in
theorem k_BX_wayOff_0 {G : GT} {σ : St} {P : Int → St → Prop} {q0 : Nat} {v1 : Int} {v2 : Int} {v3 : Int} {v4 : Int} {v5 : Int} (hq0 : isB q0) 
    (h : rng v3 ∧ rng v4 ∧ (v3 < v4 → a_BX_wayOff_11 G q0 v1 v2 v3 v4 v5 0 σ P) ∧ (v4 ≤ v3 → P 0 σ)) :
    a_BX_wayOff_0 G q0 v1 v2 v3 v4 v5 σ P := by
  rcases hq0 with rfl | rfl | rfl | rfl
  ·
    refine r_iload_n (q := 1) (dc dt_BX_wayOff 0 rfl) rfl rfl 3 rfl ?_
    refine r_iload (q := 3) (dc dt_BX_wayOff 1 rfl) rfl 4 rfl ?_
    obtain ⟨o1, h⟩ := h
    obtain ⟨o2, h⟩ := h
    refine r_icmp_lt (q := 6) (t := 8) (dc dt_BX_wayOff 2 rfl) rfl (by decide) o1 o2 (fun q_ => ?_) (fun q_ => ?_)
    · have h := h.1 q_
      refine r_iconst (q := 9) (dc dt_BX_wayOff 5 rfl) rfl rfl ?_
      refine r_istore (q := 11) (dc dt_BX_wayOff 6 rfl) rfl (by decide) rfl ?_
      exact r_loc [1, 2, 3, 4, 5, 6, 0] rfl h
    · have h := h.2 q_
      refine r_iconst (q := 7) (dc dt_BX_wayOff 3 rfl) rfl rfl ?_
      exact r_iret rfl (dc dt_BX_wayOff 4 rfl) (⟨by decide, by decide⟩ : rng 0) h
  ·
    refine r_iload_n (q := 1) (dc dt_BX_wayOff 0 rfl) rfl rfl 3 rfl ?_
    refine r_iload (q := 3) (dc dt_BX_wayOff 1 rfl) rfl 4 rfl ?_
    obtain ⟨o1, h⟩ := h
    obtain ⟨o2, h⟩ := h
    refine r_icmp_lt (q := 6) (t := 8) (dc dt_BX_wayOff 2 rfl) rfl (by decide) o1 o2 (fun q_ => ?_) (fun q_ => ?_)
    · have h := h.1 q_
      refine r_iconst (q := 9) (dc dt_BX_wayOff 5 rfl) rfl rfl ?_
      refine r_istore (q := 11) (dc dt_BX_wayOff 6 rfl) rfl (by decide) rfl ?_
      exact r_loc [1, 2, 3, 4, 5, 6, 0] rfl h
    · have h := h.2 q_
      refine r_iconst (q := 7) (dc dt_BX_wayOff 3 rfl) rfl rfl ?_
      exact r_iret rfl (dc dt_BX_wayOff 4 rfl) (⟨by decide, by decide⟩ : rng 0) h
  ·
    refine r_iload_n (q := 1) (dc dt_BX_wayOff 0 rfl) rfl rfl 3 rfl ?_
    refine r_iload (q := 3) (dc dt_BX_wayOff 1 rfl) rfl 4 rfl ?_
    obtain ⟨o1, h⟩ := h
    obtain ⟨o2, h⟩ := h
    refine r_icmp_lt (q := 6) (t := 8) (dc dt_BX_wayOff 2 rfl) rfl (by decide) o1 o2 (fun q_ => ?_) (fun q_ => ?_)
    · have h := h.1 q_
      refine r_iconst (q := 9) (dc dt_BX_wayOff 5 rfl) rfl rfl ?_
      refine r_istore (q := 11) (dc dt_BX_wayOff 6 rfl) rfl (by decide) rfl ?_
      exact r_loc [1, 2, 3, 4, 5, 6, 0] rfl h
    · have h := h.2 q_
      refine r_iconst (q := 7) (dc dt_BX_wayOff 3 rfl) rfl rfl ?_
      exact r_iret rfl (dc dt_BX_wayOff 4 rfl) (⟨by decide, by decide⟩ : rng 0) h
  ·
    refine r_iload_n (q := 1) (dc dt_BX_wayOff 0 rfl) rfl rfl 3 rfl ?_
    refine r_iload (q := 3) (dc dt_BX_wayOff 1 rfl) rfl 4 rfl ?_
    obtain ⟨o1, h⟩ := h
    obtain ⟨o2, h⟩ := h
    refine r_icmp_lt (q := 6) (t := 8) (dc dt_BX_wayOff 2 rfl) rfl (by decide) o1 o2 (fun q_ => ?_) (fun q_ => ?_)
    · have h := h.1 q_
      refine r_iconst (q := 9) (dc dt_BX_wayOff 5 rfl) rfl rfl ?_
      refine r_istore (q := 11) (dc dt_BX_wayOff 6 rfl) rfl (by decide) rfl ?_
      exact r_loc [1, 2, 3, 4, 5, 6, 0] rfl h
    · have h := h.2 q_
      refine r_iconst (q := 7) (dc dt_BX_wayOff 3 rfl) rfl rfl ?_
      exact r_iret rfl (dc dt_BX_wayOff 4 rfl) (⟨by decide, by decide⟩ : rng 0) h
set_option maxRecDepth 20000 in
theorem k_BX_wayOff_11 {G : GT} {σ : St} {P : Int → St → Prop} {q0 : Nat} {v1 : Int} {v2 : Int} {v3 : Int} {v4 : Int} {v5 : Int} {v6 : Int} (hq0 : isB q0) 
    (h : rng v6 ∧ (σ.2.1 q0 0 ≤ v6 → P 0 σ) ∧ (v6 < σ.2.1 q0 0 → (0 ≤ v6 ∧ v6 < 80) ∧ rng v1 ∧ ((v1 < σ.1 (q0 + 2) v6.toNat → rng v2)) ∧ rng v3 ∧ ((v3 < σ.1 (q0 + 4) v6.toNat → rng v4)) ∧ (¬ (v1 < σ.1 (q0 + 2) v6.toNat ∧ σ.1 (q0 + 1) v6.toNat < v2) → a_BX_wayOff_11 G q0 v1 v2 v3 v4 v5 (v6 + 1) σ P) ∧ (v1 < σ.1 (q0 + 2) v6.toNat ∧ σ.1 (q0 + 1) v6.toNat < v2 → (¬ (v3 < σ.1 (q0 + 4) v6.toNat ∧ (σ.1 (q0 + 3) v6.toNat < v4 ∧ σ.1 (q0 + 3) v6.toNat < σ.1 (q0 + 4) v6.toNat)) → a_BX_wayOff_11 G q0 v1 v2 v3 v4 v5 (v6 + 1) σ P) ∧ (v3 < σ.1 (q0 + 4) v6.toNat ∧ (σ.1 (q0 + 3) v6.toNat < v4 ∧ σ.1 (q0 + 3) v6.toNat < σ.1 (q0 + 4) v6.toNat) → rng v5 ∧ rng (if v5 = 0 then v4 - (σ.1 (q0 + 3) v6.toNat) else (σ.1 (q0 + 4) v6.toNat) - v3) ∧ P (if v5 = 0 then v4 - (σ.1 (q0 + 3) v6.toNat) else (σ.1 (q0 + 4) v6.toNat) - v3) σ)))) :
    a_BX_wayOff_11 G q0 v1 v2 v3 v4 v5 v6 σ P := by
  rcases hq0 with rfl | rfl | rfl | rfl
  ·
    refine r_iload (q := 13) (dc dt_BX_wayOff 7 rfl) rfl 6 rfl ?_
    refine r_aload_n (q := 14) (dc dt_BX_wayOff 8 rfl) rfl rfl 0 rfl ?_
    refine r_getI (q := 17) (v := σ.2.1 10 0) fl_BX_9 (dc dt_BX_wayOff 9 rfl) rfl rfl rfl rfl (fun g3 => ?_)
    obtain ⟨o4, h⟩ := h
    refine r_icmp_ge (q := 20) (t := 140) (dc dt_BX_wayOff 10 rfl) rfl (by decide) o4 g3 (fun q_ => ?_) (fun q_ => ?_)
    · have h := h.1 q_
      refine r_iconst (q := 141) (dc dt_BX_wayOff 74 rfl) rfl rfl ?_
      exact r_iret rfl (dc dt_BX_wayOff 75 rfl) (⟨by decide, by decide⟩ : rng 0) h
    · have h := h.2 q_
      refine r_iload_n (q := 21) (dc dt_BX_wayOff 11 rfl) rfl rfl 1 rfl ?_
      refine r_aload_n (q := 22) (dc dt_BX_wayOff 12 rfl) rfl rfl 0 rfl ?_
      refine r_getO (q := 25) (v := 10 + 2) fl_BX_19 (dc dt_BX_wayOff 13 rfl) rfl rfl rfl ?_
      refine r_iload (q := 27) (dc dt_BX_wayOff 14 rfl) rfl 6 rfl ?_
      obtain ⟨o5, h⟩ := h
      refine r_iald (q := 28) (v := σ.1 (10 + 2) v6.toNat) (dc dt_BX_wayOff 15 rfl) rfl rfl o5 rfl (fun g6 => ?_)
      obtain ⟨o7, h⟩ := h
      obtain ⟨ho, h⟩ := h
      have hJ : ∀ (w_0 : Int), w_0 = (if v1 < σ.1 (10 + 2) v6.toNat ∧ σ.1 (10 + 1) v6.toNat < v2 then 1 else 0) → A G m_BX_wayOff 47 [(0, O 10), (1, I v1), (2, I v2), (3, I v3), (4, I v4), (5, I v5), (6, I v6)] [I w_0] σ P := by
        intro w_0 z_0
        subst z_0
        refine r_istore (q := 49) (dc dt_BX_wayOff 26 rfl) rfl (by decide) rfl ?_
        refine r_iload_n (q := 50) (dc dt_BX_wayOff 27 rfl) rfl rfl 4 rfl ?_
        refine r_aload_n (q := 51) (dc dt_BX_wayOff 28 rfl) rfl rfl 1 rfl ?_
        refine r_getO (q := 54) (v := 10 + 4) fl_BX_25 (dc dt_BX_wayOff 29 rfl) rfl rfl rfl ?_
        refine r_iload (q := 56) (dc dt_BX_wayOff 30 rfl) rfl 7 rfl ?_
        refine r_iald (q := 57) (v := σ.1 (10 + 4) v6.toNat) (dc dt_BX_wayOff 31 rfl) rfl rfl o5 rfl (fun g10 => ?_)
        obtain ⟨o11, h⟩ := h
        obtain ⟨ho, h⟩ := h
        have hJ : ∀ (w_0 : Int), w_0 = (if v3 < σ.1 (10 + 4) v6.toNat ∧ (σ.1 (10 + 3) v6.toNat < v4 ∧ σ.1 (10 + 3) v6.toNat < σ.1 (10 + 4) v6.toNat) then 1 else 0) → A G m_BX_wayOff 94 [(7, I (if v1 < σ.1 (10 + 2) v6.toNat ∧ σ.1 (10 + 1) v6.toNat < v2 then 1 else 0)), (0, O 10), (1, I v1), (2, I v2), (3, I v3), (4, I v4), (5, I v5), (6, I v6)] [I w_0] σ P := by
          intro w_0 z_0
          subst z_0
          refine r_istore (q := 96) (dc dt_BX_wayOff 51 rfl) rfl (by decide) rfl ?_
          refine r_iload (q := 98) (dc dt_BX_wayOff 52 rfl) rfl 1 rfl ?_
          refine r_ifb_eq (q := 101) (t := 134) (dc dt_BX_wayOff 53 rfl) rfl (by decide) (fun q_ => ?_) (fun q_ => ?_)
          · have h := h.1 q_
            refine r_iinc (q := 137) (k := 8) (dc dt_BX_wayOff 72 rfl) rfl rfl (by decide) rfl ?_
            refine r_goto (q := 11) (dc dt_BX_wayOff 73 rfl) (by decide) ?_
            exact r_loc [3, 4, 5, 6, 7, 8, 0] rfl h
          · have h := h.2 q_
            refine r_iload (q := 103) (dc dt_BX_wayOff 54 rfl) rfl 0 rfl ?_
            refine r_ifb_eq (q := 106) (t := 134) (dc dt_BX_wayOff 55 rfl) rfl (by decide) (fun q_ => ?_) (fun q_ => ?_)
            · have h := h.1 q_
              refine r_iinc (q := 137) (k := 8) (dc dt_BX_wayOff 72 rfl) rfl rfl (by decide) rfl ?_
              refine r_goto (q := 11) (dc dt_BX_wayOff 73 rfl) (by decide) ?_
              exact r_loc [3, 4, 5, 6, 7, 8, 0] rfl h
            · have h := h.2 q_
              refine r_iload (q := 108) (dc dt_BX_wayOff 56 rfl) rfl 7 rfl ?_
              obtain ⟨o16, h⟩ := h
              have hJ : ∀ (w_0 : Int), w_0 = (if v5 = 0 then v4 - (σ.1 (10 + 3) v6.toNat) else (σ.1 (10 + 4) v6.toNat) - v3) → A G m_BX_wayOff 133 [(8, I (if v3 < σ.1 (10 + 4) v6.toNat ∧ (σ.1 (10 + 3) v6.toNat < v4 ∧ σ.1 (10 + 3) v6.toNat < σ.1 (10 + 4) v6.toNat) then 1 else 0)), (7, I (if v1 < σ.1 (10 + 2) v6.toNat ∧ σ.1 (10 + 1) v6.toNat < v2 then 1 else 0)), (0, O 10), (1, I v1), (2, I v2), (3, I v3), (4, I v4), (5, I v5), (6, I v6)] [I w_0] σ P := by
                intro w_0 z_0
                subst z_0
                obtain ⟨o19, h⟩ := h
                exact r_iret rfl (dc dt_BX_wayOff 71 rfl) o19 h
              clear h
              refine r_if_eq (q := 111) (t := 123) (dc dt_BX_wayOff 57 rfl) rfl (by decide) o16 (fun q_ => ?_) (fun q_ => ?_)
              · have q20 := q_
                refine r_iload (q := 125) (dc dt_BX_wayOff 65 rfl) rfl 6 rfl ?_
                refine r_aload_n (q := 126) (dc dt_BX_wayOff 66 rfl) rfl rfl 2 rfl ?_
                refine r_getO (q := 129) (v := 10 + 3) fl_BX_22 (dc dt_BX_wayOff 67 rfl) rfl rfl rfl ?_
                refine r_iload (q := 131) (dc dt_BX_wayOff 68 rfl) rfl 8 rfl ?_
                refine r_iald (q := 132) (v := σ.1 (10 + 3) v6.toNat) (dc dt_BX_wayOff 69 rfl) rfl rfl o5 rfl (fun g17 => ?_)
                refine r_isub (q := 133) (dc dt_BX_wayOff 70 rfl) rfl ?_
                exact (hJ (v4 - (σ.1 (10 + 3) v6.toNat)) ((if_pos (by first | omega | grind)).symm))
              · have q20 := q_
                refine r_aload_n (q := 112) (dc dt_BX_wayOff 58 rfl) rfl rfl 2 rfl ?_
                refine r_getO (q := 115) (v := 10 + 4) fl_BX_25 (dc dt_BX_wayOff 59 rfl) rfl rfl rfl ?_
                refine r_iload (q := 117) (dc dt_BX_wayOff 60 rfl) rfl 8 rfl ?_
                refine r_iald (q := 118) (v := σ.1 (10 + 4) v6.toNat) (dc dt_BX_wayOff 61 rfl) rfl rfl o5 rfl (fun g18 => ?_)
                refine r_iload_n (q := 119) (dc dt_BX_wayOff 62 rfl) rfl rfl 5 rfl ?_
                refine r_isub (q := 120) (dc dt_BX_wayOff 63 rfl) rfl ?_
                refine r_goto (q := 133) (dc dt_BX_wayOff 64 rfl) (by decide) ?_
                exact (hJ ((σ.1 (10 + 4) v6.toNat) - v3) ((if_neg (by first | omega | grind)).symm))
        clear h
        refine r_icmp_ge (q := 60) (t := 93) (dc dt_BX_wayOff 32 rfl) rfl (by decide) o11 g10 (fun q_ => ?_) (fun q_ => ?_)
        · have q21 := q_
          refine r_iconst (q := 94) (dc dt_BX_wayOff 50 rfl) rfl rfl ?_
          exact (hJ 0 ((if_neg (by first | omega | grind)).symm))
        · have q21 := q_
          have ho := ho q_
          refine r_aload_n (q := 61) (dc dt_BX_wayOff 33 rfl) rfl rfl 1 rfl ?_
          refine r_getO (q := 64) (v := 10 + 3) fl_BX_22 (dc dt_BX_wayOff 34 rfl) rfl rfl rfl ?_
          refine r_iload (q := 66) (dc dt_BX_wayOff 35 rfl) rfl 7 rfl ?_
          refine r_iald (q := 67) (v := σ.1 (10 + 3) v6.toNat) (dc dt_BX_wayOff 36 rfl) rfl rfl o5 rfl (fun g12 => ?_)
          refine r_iload (q := 69) (dc dt_BX_wayOff 37 rfl) rfl 5 rfl ?_
          have o13 := ho
          refine r_icmp_ge (q := 72) (t := 93) (dc dt_BX_wayOff 38 rfl) rfl (by decide) g12 o13 (fun q_ => ?_) (fun q_ => ?_)
          · have q22 := q_
            refine r_iconst (q := 94) (dc dt_BX_wayOff 50 rfl) rfl rfl ?_
            exact (hJ 0 ((if_neg (by first | omega | grind)).symm))
          · have q22 := q_
            refine r_aload_n (q := 73) (dc dt_BX_wayOff 39 rfl) rfl rfl 1 rfl ?_
            refine r_getO (q := 76) (v := 10 + 3) fl_BX_22 (dc dt_BX_wayOff 40 rfl) rfl rfl rfl ?_
            refine r_iload (q := 78) (dc dt_BX_wayOff 41 rfl) rfl 7 rfl ?_
            refine r_iald (q := 79) (v := σ.1 (10 + 3) v6.toNat) (dc dt_BX_wayOff 42 rfl) rfl rfl o5 rfl (fun g14 => ?_)
            refine r_aload_n (q := 80) (dc dt_BX_wayOff 43 rfl) rfl rfl 1 rfl ?_
            refine r_getO (q := 83) (v := 10 + 4) fl_BX_25 (dc dt_BX_wayOff 44 rfl) rfl rfl rfl ?_
            refine r_iload (q := 85) (dc dt_BX_wayOff 45 rfl) rfl 7 rfl ?_
            refine r_iald (q := 86) (v := σ.1 (10 + 4) v6.toNat) (dc dt_BX_wayOff 46 rfl) rfl rfl o5 rfl (fun g15 => ?_)
            refine r_icmp_ge (q := 89) (t := 93) (dc dt_BX_wayOff 47 rfl) rfl (by decide) g14 g15 (fun q_ => ?_) (fun q_ => ?_)
            · have q23 := q_
              refine r_iconst (q := 94) (dc dt_BX_wayOff 50 rfl) rfl rfl ?_
              exact (hJ 0 ((if_neg (by first | omega | grind)).symm))
            · have q23 := q_
              refine r_iconst (q := 90) (dc dt_BX_wayOff 48 rfl) rfl rfl ?_
              refine r_goto (q := 94) (dc dt_BX_wayOff 49 rfl) (by decide) ?_
              exact (hJ 1 ((if_pos (by first | omega | grind)).symm))
      clear h
      refine r_icmp_ge (q := 31) (t := 46) (dc dt_BX_wayOff 16 rfl) rfl (by decide) o7 g6 (fun q_ => ?_) (fun q_ => ?_)
      · have q24 := q_
        refine r_iconst (q := 47) (dc dt_BX_wayOff 25 rfl) rfl rfl ?_
        exact (hJ 0 ((if_neg (by first | omega | grind)).symm))
      · have q24 := q_
        have ho := ho q_
        refine r_aload_n (q := 32) (dc dt_BX_wayOff 17 rfl) rfl rfl 0 rfl ?_
        refine r_getO (q := 35) (v := 10 + 1) fl_BX_15 (dc dt_BX_wayOff 18 rfl) rfl rfl rfl ?_
        refine r_iload (q := 37) (dc dt_BX_wayOff 19 rfl) rfl 6 rfl ?_
        refine r_iald (q := 38) (v := σ.1 (10 + 1) v6.toNat) (dc dt_BX_wayOff 20 rfl) rfl rfl o5 rfl (fun g8 => ?_)
        refine r_iload_n (q := 39) (dc dt_BX_wayOff 21 rfl) rfl rfl 2 rfl ?_
        have o9 := ho
        refine r_icmp_ge (q := 42) (t := 46) (dc dt_BX_wayOff 22 rfl) rfl (by decide) g8 o9 (fun q_ => ?_) (fun q_ => ?_)
        · have q25 := q_
          refine r_iconst (q := 47) (dc dt_BX_wayOff 25 rfl) rfl rfl ?_
          exact (hJ 0 ((if_neg (by first | omega | grind)).symm))
        · have q25 := q_
          refine r_iconst (q := 43) (dc dt_BX_wayOff 23 rfl) rfl rfl ?_
          refine r_goto (q := 47) (dc dt_BX_wayOff 24 rfl) (by decide) ?_
          exact (hJ 1 ((if_pos (by first | omega | grind)).symm))
  ·
    refine r_iload (q := 13) (dc dt_BX_wayOff 7 rfl) rfl 6 rfl ?_
    refine r_aload_n (q := 14) (dc dt_BX_wayOff 8 rfl) rfl rfl 0 rfl ?_
    refine r_getI (q := 17) (v := σ.2.1 16 0) fl_BX_9 (dc dt_BX_wayOff 9 rfl) rfl rfl rfl rfl (fun g3 => ?_)
    obtain ⟨o4, h⟩ := h
    refine r_icmp_ge (q := 20) (t := 140) (dc dt_BX_wayOff 10 rfl) rfl (by decide) o4 g3 (fun q_ => ?_) (fun q_ => ?_)
    · have h := h.1 q_
      refine r_iconst (q := 141) (dc dt_BX_wayOff 74 rfl) rfl rfl ?_
      exact r_iret rfl (dc dt_BX_wayOff 75 rfl) (⟨by decide, by decide⟩ : rng 0) h
    · have h := h.2 q_
      refine r_iload_n (q := 21) (dc dt_BX_wayOff 11 rfl) rfl rfl 1 rfl ?_
      refine r_aload_n (q := 22) (dc dt_BX_wayOff 12 rfl) rfl rfl 0 rfl ?_
      refine r_getO (q := 25) (v := 16 + 2) fl_BX_19 (dc dt_BX_wayOff 13 rfl) rfl rfl rfl ?_
      refine r_iload (q := 27) (dc dt_BX_wayOff 14 rfl) rfl 6 rfl ?_
      obtain ⟨o5, h⟩ := h
      refine r_iald (q := 28) (v := σ.1 (16 + 2) v6.toNat) (dc dt_BX_wayOff 15 rfl) rfl rfl o5 rfl (fun g6 => ?_)
      obtain ⟨o7, h⟩ := h
      obtain ⟨ho, h⟩ := h
      have hJ : ∀ (w_0 : Int), w_0 = (if v1 < σ.1 (16 + 2) v6.toNat ∧ σ.1 (16 + 1) v6.toNat < v2 then 1 else 0) → A G m_BX_wayOff 47 [(0, O 16), (1, I v1), (2, I v2), (3, I v3), (4, I v4), (5, I v5), (6, I v6)] [I w_0] σ P := by
        intro w_0 z_0
        subst z_0
        refine r_istore (q := 49) (dc dt_BX_wayOff 26 rfl) rfl (by decide) rfl ?_
        refine r_iload_n (q := 50) (dc dt_BX_wayOff 27 rfl) rfl rfl 4 rfl ?_
        refine r_aload_n (q := 51) (dc dt_BX_wayOff 28 rfl) rfl rfl 1 rfl ?_
        refine r_getO (q := 54) (v := 16 + 4) fl_BX_25 (dc dt_BX_wayOff 29 rfl) rfl rfl rfl ?_
        refine r_iload (q := 56) (dc dt_BX_wayOff 30 rfl) rfl 7 rfl ?_
        refine r_iald (q := 57) (v := σ.1 (16 + 4) v6.toNat) (dc dt_BX_wayOff 31 rfl) rfl rfl o5 rfl (fun g10 => ?_)
        obtain ⟨o11, h⟩ := h
        obtain ⟨ho, h⟩ := h
        have hJ : ∀ (w_0 : Int), w_0 = (if v3 < σ.1 (16 + 4) v6.toNat ∧ (σ.1 (16 + 3) v6.toNat < v4 ∧ σ.1 (16 + 3) v6.toNat < σ.1 (16 + 4) v6.toNat) then 1 else 0) → A G m_BX_wayOff 94 [(7, I (if v1 < σ.1 (16 + 2) v6.toNat ∧ σ.1 (16 + 1) v6.toNat < v2 then 1 else 0)), (0, O 16), (1, I v1), (2, I v2), (3, I v3), (4, I v4), (5, I v5), (6, I v6)] [I w_0] σ P := by
          intro w_0 z_0
          subst z_0
          refine r_istore (q := 96) (dc dt_BX_wayOff 51 rfl) rfl (by decide) rfl ?_
          refine r_iload (q := 98) (dc dt_BX_wayOff 52 rfl) rfl 1 rfl ?_
          refine r_ifb_eq (q := 101) (t := 134) (dc dt_BX_wayOff 53 rfl) rfl (by decide) (fun q_ => ?_) (fun q_ => ?_)
          · have h := h.1 q_
            refine r_iinc (q := 137) (k := 8) (dc dt_BX_wayOff 72 rfl) rfl rfl (by decide) rfl ?_
            refine r_goto (q := 11) (dc dt_BX_wayOff 73 rfl) (by decide) ?_
            exact r_loc [3, 4, 5, 6, 7, 8, 0] rfl h
          · have h := h.2 q_
            refine r_iload (q := 103) (dc dt_BX_wayOff 54 rfl) rfl 0 rfl ?_
            refine r_ifb_eq (q := 106) (t := 134) (dc dt_BX_wayOff 55 rfl) rfl (by decide) (fun q_ => ?_) (fun q_ => ?_)
            · have h := h.1 q_
              refine r_iinc (q := 137) (k := 8) (dc dt_BX_wayOff 72 rfl) rfl rfl (by decide) rfl ?_
              refine r_goto (q := 11) (dc dt_BX_wayOff 73 rfl) (by decide) ?_
              exact r_loc [3, 4, 5, 6, 7, 8, 0] rfl h
            · have h := h.2 q_
              refine r_iload (q := 108) (dc dt_BX_wayOff 56 rfl) rfl 7 rfl ?_
              obtain ⟨o16, h⟩ := h
              have hJ : ∀ (w_0 : Int), w_0 = (if v5 = 0 then v4 - (σ.1 (16 + 3) v6.toNat) else (σ.1 (16 + 4) v6.toNat) - v3) → A G m_BX_wayOff 133 [(8, I (if v3 < σ.1 (16 + 4) v6.toNat ∧ (σ.1 (16 + 3) v6.toNat < v4 ∧ σ.1 (16 + 3) v6.toNat < σ.1 (16 + 4) v6.toNat) then 1 else 0)), (7, I (if v1 < σ.1 (16 + 2) v6.toNat ∧ σ.1 (16 + 1) v6.toNat < v2 then 1 else 0)), (0, O 16), (1, I v1), (2, I v2), (3, I v3), (4, I v4), (5, I v5), (6, I v6)] [I w_0] σ P := by
                intro w_0 z_0
                subst z_0
                obtain ⟨o19, h⟩ := h
                exact r_iret rfl (dc dt_BX_wayOff 71 rfl) o19 h
              clear h
              refine r_if_eq (q := 111) (t := 123) (dc dt_BX_wayOff 57 rfl) rfl (by decide) o16 (fun q_ => ?_) (fun q_ => ?_)
              · have q20 := q_
                refine r_iload (q := 125) (dc dt_BX_wayOff 65 rfl) rfl 6 rfl ?_
                refine r_aload_n (q := 126) (dc dt_BX_wayOff 66 rfl) rfl rfl 2 rfl ?_
                refine r_getO (q := 129) (v := 16 + 3) fl_BX_22 (dc dt_BX_wayOff 67 rfl) rfl rfl rfl ?_
                refine r_iload (q := 131) (dc dt_BX_wayOff 68 rfl) rfl 8 rfl ?_
                refine r_iald (q := 132) (v := σ.1 (16 + 3) v6.toNat) (dc dt_BX_wayOff 69 rfl) rfl rfl o5 rfl (fun g17 => ?_)
                refine r_isub (q := 133) (dc dt_BX_wayOff 70 rfl) rfl ?_
                exact (hJ (v4 - (σ.1 (16 + 3) v6.toNat)) ((if_pos (by first | omega | grind)).symm))
              · have q20 := q_
                refine r_aload_n (q := 112) (dc dt_BX_wayOff 58 rfl) rfl rfl 2 rfl ?_
                refine r_getO (q := 115) (v := 16 + 4) fl_BX_25 (dc dt_BX_wayOff 59 rfl) rfl rfl rfl ?_
                refine r_iload (q := 117) (dc dt_BX_wayOff 60 rfl) rfl 8 rfl ?_
                refine r_iald (q := 118) (v := σ.1 (16 + 4) v6.toNat) (dc dt_BX_wayOff 61 rfl) rfl rfl o5 rfl (fun g18 => ?_)
                refine r_iload_n (q := 119) (dc dt_BX_wayOff 62 rfl) rfl rfl 5 rfl ?_
                refine r_isub (q := 120) (dc dt_BX_wayOff 63 rfl) rfl ?_
                refine r_goto (q := 133) (dc dt_BX_wayOff 64 rfl) (by decide) ?_
                exact (hJ ((σ.1 (16 + 4) v6.toNat) - v3) ((if_neg (by first | omega | grind)).symm))
        clear h
        refine r_icmp_ge (q := 60) (t := 93) (dc dt_BX_wayOff 32 rfl) rfl (by decide) o11 g10 (fun q_ => ?_) (fun q_ => ?_)
        · have q21 := q_
          refine r_iconst (q := 94) (dc dt_BX_wayOff 50 rfl) rfl rfl ?_
          exact (hJ 0 ((if_neg (by first | omega | grind)).symm))
        · have q21 := q_
          have ho := ho q_
          refine r_aload_n (q := 61) (dc dt_BX_wayOff 33 rfl) rfl rfl 1 rfl ?_
          refine r_getO (q := 64) (v := 16 + 3) fl_BX_22 (dc dt_BX_wayOff 34 rfl) rfl rfl rfl ?_
          refine r_iload (q := 66) (dc dt_BX_wayOff 35 rfl) rfl 7 rfl ?_
          refine r_iald (q := 67) (v := σ.1 (16 + 3) v6.toNat) (dc dt_BX_wayOff 36 rfl) rfl rfl o5 rfl (fun g12 => ?_)
          refine r_iload (q := 69) (dc dt_BX_wayOff 37 rfl) rfl 5 rfl ?_
          have o13 := ho
          refine r_icmp_ge (q := 72) (t := 93) (dc dt_BX_wayOff 38 rfl) rfl (by decide) g12 o13 (fun q_ => ?_) (fun q_ => ?_)
          · have q22 := q_
            refine r_iconst (q := 94) (dc dt_BX_wayOff 50 rfl) rfl rfl ?_
            exact (hJ 0 ((if_neg (by first | omega | grind)).symm))
          · have q22 := q_
            refine r_aload_n (q := 73) (dc dt_BX_wayOff 39 rfl) rfl rfl 1 rfl ?_
            refine r_getO (q := 76) (v := 16 + 3) fl_BX_22 (dc dt_BX_wayOff 40 rfl) rfl rfl rfl ?_
            refine r_iload (q := 78) (dc dt_BX_wayOff 41 rfl) rfl 7 rfl ?_
            refine r_iald (q := 79) (v := σ.1 (16 + 3) v6.toNat) (dc dt_BX_wayOff 42 rfl) rfl rfl o5 rfl (fun g14 => ?_)
            refine r_aload_n (q := 80) (dc dt_BX_wayOff 43 rfl) rfl rfl 1 rfl ?_
            refine r_getO (q := 83) (v := 16 + 4) fl_BX_25 (dc dt_BX_wayOff 44 rfl) rfl rfl rfl ?_
            refine r_iload (q := 85) (dc dt_BX_wayOff 45 rfl) rfl 7 rfl ?_
            refine r_iald (q := 86) (v := σ.1 (16 + 4) v6.toNat) (dc dt_BX_wayOff 46 rfl) rfl rfl o5 rfl (fun g15 => ?_)
            refine r_icmp_ge (q := 89) (t := 93) (dc dt_BX_wayOff 47 rfl) rfl (by decide) g14 g15 (fun q_ => ?_) (fun q_ => ?_)
            · have q23 := q_
              refine r_iconst (q := 94) (dc dt_BX_wayOff 50 rfl) rfl rfl ?_
              exact (hJ 0 ((if_neg (by first | omega | grind)).symm))
            · have q23 := q_
              refine r_iconst (q := 90) (dc dt_BX_wayOff 48 rfl) rfl rfl ?_
              refine r_goto (q := 94) (dc dt_BX_wayOff 49 rfl) (by decide) ?_
              exact (hJ 1 ((if_pos (by first | omega | grind)).symm))
      clear h
      refine r_icmp_ge (q := 31) (t := 46) (dc dt_BX_wayOff 16 rfl) rfl (by decide) o7 g6 (fun q_ => ?_) (fun q_ => ?_)
      · have q24 := q_
        refine r_iconst (q := 47) (dc dt_BX_wayOff 25 rfl) rfl rfl ?_
        exact (hJ 0 ((if_neg (by first | omega | grind)).symm))
      · have q24 := q_
        have ho := ho q_
        refine r_aload_n (q := 32) (dc dt_BX_wayOff 17 rfl) rfl rfl 0 rfl ?_
        refine r_getO (q := 35) (v := 16 + 1) fl_BX_15 (dc dt_BX_wayOff 18 rfl) rfl rfl rfl ?_
        refine r_iload (q := 37) (dc dt_BX_wayOff 19 rfl) rfl 6 rfl ?_
        refine r_iald (q := 38) (v := σ.1 (16 + 1) v6.toNat) (dc dt_BX_wayOff 20 rfl) rfl rfl o5 rfl (fun g8 => ?_)
        refine r_iload_n (q := 39) (dc dt_BX_wayOff 21 rfl) rfl rfl 2 rfl ?_
        have o9 := ho
        refine r_icmp_ge (q := 42) (t := 46) (dc dt_BX_wayOff 22 rfl) rfl (by decide) g8 o9 (fun q_ => ?_) (fun q_ => ?_)
        · have q25 := q_
          refine r_iconst (q := 47) (dc dt_BX_wayOff 25 rfl) rfl rfl ?_
          exact (hJ 0 ((if_neg (by first | omega | grind)).symm))
        · have q25 := q_
          refine r_iconst (q := 43) (dc dt_BX_wayOff 23 rfl) rfl rfl ?_
          refine r_goto (q := 47) (dc dt_BX_wayOff 24 rfl) (by decide) ?_
          exact (hJ 1 ((if_pos (by first | omega | grind)).symm))
  ·
    refine r_iload (q := 13) (dc dt_BX_wayOff 7 rfl) rfl 6 rfl ?_
    refine r_aload_n (q := 14) (dc dt_BX_wayOff 8 rfl) rfl rfl 0 rfl ?_
    refine r_getI (q := 17) (v := σ.2.1 29 0) fl_BX_9 (dc dt_BX_wayOff 9 rfl) rfl rfl rfl rfl (fun g3 => ?_)
    obtain ⟨o4, h⟩ := h
    refine r_icmp_ge (q := 20) (t := 140) (dc dt_BX_wayOff 10 rfl) rfl (by decide) o4 g3 (fun q_ => ?_) (fun q_ => ?_)
    · have h := h.1 q_
      refine r_iconst (q := 141) (dc dt_BX_wayOff 74 rfl) rfl rfl ?_
      exact r_iret rfl (dc dt_BX_wayOff 75 rfl) (⟨by decide, by decide⟩ : rng 0) h
    · have h := h.2 q_
      refine r_iload_n (q := 21) (dc dt_BX_wayOff 11 rfl) rfl rfl 1 rfl ?_
      refine r_aload_n (q := 22) (dc dt_BX_wayOff 12 rfl) rfl rfl 0 rfl ?_
      refine r_getO (q := 25) (v := 29 + 2) fl_BX_19 (dc dt_BX_wayOff 13 rfl) rfl rfl rfl ?_
      refine r_iload (q := 27) (dc dt_BX_wayOff 14 rfl) rfl 6 rfl ?_
      obtain ⟨o5, h⟩ := h
      refine r_iald (q := 28) (v := σ.1 (29 + 2) v6.toNat) (dc dt_BX_wayOff 15 rfl) rfl rfl o5 rfl (fun g6 => ?_)
      obtain ⟨o7, h⟩ := h
      obtain ⟨ho, h⟩ := h
      have hJ : ∀ (w_0 : Int), w_0 = (if v1 < σ.1 (29 + 2) v6.toNat ∧ σ.1 (29 + 1) v6.toNat < v2 then 1 else 0) → A G m_BX_wayOff 47 [(0, O 29), (1, I v1), (2, I v2), (3, I v3), (4, I v4), (5, I v5), (6, I v6)] [I w_0] σ P := by
        intro w_0 z_0
        subst z_0
        refine r_istore (q := 49) (dc dt_BX_wayOff 26 rfl) rfl (by decide) rfl ?_
        refine r_iload_n (q := 50) (dc dt_BX_wayOff 27 rfl) rfl rfl 4 rfl ?_
        refine r_aload_n (q := 51) (dc dt_BX_wayOff 28 rfl) rfl rfl 1 rfl ?_
        refine r_getO (q := 54) (v := 29 + 4) fl_BX_25 (dc dt_BX_wayOff 29 rfl) rfl rfl rfl ?_
        refine r_iload (q := 56) (dc dt_BX_wayOff 30 rfl) rfl 7 rfl ?_
        refine r_iald (q := 57) (v := σ.1 (29 + 4) v6.toNat) (dc dt_BX_wayOff 31 rfl) rfl rfl o5 rfl (fun g10 => ?_)
        obtain ⟨o11, h⟩ := h
        obtain ⟨ho, h⟩ := h
        have hJ : ∀ (w_0 : Int), w_0 = (if v3 < σ.1 (29 + 4) v6.toNat ∧ (σ.1 (29 + 3) v6.toNat < v4 ∧ σ.1 (29 + 3) v6.toNat < σ.1 (29 + 4) v6.toNat) then 1 else 0) → A G m_BX_wayOff 94 [(7, I (if v1 < σ.1 (29 + 2) v6.toNat ∧ σ.1 (29 + 1) v6.toNat < v2 then 1 else 0)), (0, O 29), (1, I v1), (2, I v2), (3, I v3), (4, I v4), (5, I v5), (6, I v6)] [I w_0] σ P := by
          intro w_0 z_0
          subst z_0
          refine r_istore (q := 96) (dc dt_BX_wayOff 51 rfl) rfl (by decide) rfl ?_
          refine r_iload (q := 98) (dc dt_BX_wayOff 52 rfl) rfl 1 rfl ?_
          refine r_ifb_eq (q := 101) (t := 134) (dc dt_BX_wayOff 53 rfl) rfl (by decide) (fun q_ => ?_) (fun q_ => ?_)
          · have h := h.1 q_
            refine r_iinc (q := 137) (k := 8) (dc dt_BX_wayOff 72 rfl) rfl rfl (by decide) rfl ?_
            refine r_goto (q := 11) (dc dt_BX_wayOff 73 rfl) (by decide) ?_
            exact r_loc [3, 4, 5, 6, 7, 8, 0] rfl h
          · have h := h.2 q_
            refine r_iload (q := 103) (dc dt_BX_wayOff 54 rfl) rfl 0 rfl ?_
            refine r_ifb_eq (q := 106) (t := 134) (dc dt_BX_wayOff 55 rfl) rfl (by decide) (fun q_ => ?_) (fun q_ => ?_)
            · have h := h.1 q_
              refine r_iinc (q := 137) (k := 8) (dc dt_BX_wayOff 72 rfl) rfl rfl (by decide) rfl ?_
              refine r_goto (q := 11) (dc dt_BX_wayOff 73 rfl) (by decide) ?_
              exact r_loc [3, 4, 5, 6, 7, 8, 0] rfl h
            · have h := h.2 q_
              refine r_iload (q := 108) (dc dt_BX_wayOff 56 rfl) rfl 7 rfl ?_
              obtain ⟨o16, h⟩ := h
              have hJ : ∀ (w_0 : Int), w_0 = (if v5 = 0 then v4 - (σ.1 (29 + 3) v6.toNat) else (σ.1 (29 + 4) v6.toNat) - v3) → A G m_BX_wayOff 133 [(8, I (if v3 < σ.1 (29 + 4) v6.toNat ∧ (σ.1 (29 + 3) v6.toNat < v4 ∧ σ.1 (29 + 3) v6.toNat < σ.1 (29 + 4) v6.toNat) then 1 else 0)), (7, I (if v1 < σ.1 (29 + 2) v6.toNat ∧ σ.1 (29 + 1) v6.toNat < v2 then 1 else 0)), (0, O 29), (1, I v1), (2, I v2), (3, I v3), (4, I v4), (5, I v5), (6, I v6)] [I w_0] σ P := by
                intro w_0 z_0
                subst z_0
                obtain ⟨o19, h⟩ := h
                exact r_iret rfl (dc dt_BX_wayOff 71 rfl) o19 h
              clear h
              refine r_if_eq (q := 111) (t := 123) (dc dt_BX_wayOff 57 rfl) rfl (by decide) o16 (fun q_ => ?_) (fun q_ => ?_)
              · have q20 := q_
                refine r_iload (q := 125) (dc dt_BX_wayOff 65 rfl) rfl 6 rfl ?_
                refine r_aload_n (q := 126) (dc dt_BX_wayOff 66 rfl) rfl rfl 2 rfl ?_
                refine r_getO (q := 129) (v := 29 + 3) fl_BX_22 (dc dt_BX_wayOff 67 rfl) rfl rfl rfl ?_
                refine r_iload (q := 131) (dc dt_BX_wayOff 68 rfl) rfl 8 rfl ?_
                refine r_iald (q := 132) (v := σ.1 (29 + 3) v6.toNat) (dc dt_BX_wayOff 69 rfl) rfl rfl o5 rfl (fun g17 => ?_)
                refine r_isub (q := 133) (dc dt_BX_wayOff 70 rfl) rfl ?_
                exact (hJ (v4 - (σ.1 (29 + 3) v6.toNat)) ((if_pos (by first | omega | grind)).symm))
              · have q20 := q_
                refine r_aload_n (q := 112) (dc dt_BX_wayOff 58 rfl) rfl rfl 2 rfl ?_
                refine r_getO (q := 115) (v := 29 + 4) fl_BX_25 (dc dt_BX_wayOff 59 rfl) rfl rfl rfl ?_
                refine r_iload (q := 117) (dc dt_BX_wayOff 60 rfl) rfl 8 rfl ?_
                refine r_iald (q := 118) (v := σ.1 (29 + 4) v6.toNat) (dc dt_BX_wayOff 61 rfl) rfl rfl o5 rfl (fun g18 => ?_)
                refine r_iload_n (q := 119) (dc dt_BX_wayOff 62 rfl) rfl rfl 5 rfl ?_
                refine r_isub (q := 120) (dc dt_BX_wayOff 63 rfl) rfl ?_
                refine r_goto (q := 133) (dc dt_BX_wayOff 64 rfl) (by decide) ?_
                exact (hJ ((σ.1 (29 + 4) v6.toNat) - v3) ((if_neg (by first | omega | grind)).symm))
        clear h
        refine r_icmp_ge (q := 60) (t := 93) (dc dt_BX_wayOff 32 rfl) rfl (by decide) o11 g10 (fun q_ => ?_) (fun q_ => ?_)
        · have q21 := q_
          refine r_iconst (q := 94) (dc dt_BX_wayOff 50 rfl) rfl rfl ?_
          exact (hJ 0 ((if_neg (by first | omega | grind)).symm))
        · have q21 := q_
          have ho := ho q_
          refine r_aload_n (q := 61) (dc dt_BX_wayOff 33 rfl) rfl rfl 1 rfl ?_
          refine r_getO (q := 64) (v := 29 + 3) fl_BX_22 (dc dt_BX_wayOff 34 rfl) rfl rfl rfl ?_
          refine r_iload (q := 66) (dc dt_BX_wayOff 35 rfl) rfl 7 rfl ?_
          refine r_iald (q := 67) (v := σ.1 (29 + 3) v6.toNat) (dc dt_BX_wayOff 36 rfl) rfl rfl o5 rfl (fun g12 => ?_)
          refine r_iload (q := 69) (dc dt_BX_wayOff 37 rfl) rfl 5 rfl ?_
          have o13 := ho
          refine r_icmp_ge (q := 72) (t := 93) (dc dt_BX_wayOff 38 rfl) rfl (by decide) g12 o13 (fun q_ => ?_) (fun q_ => ?_)
          · have q22 := q_
            refine r_iconst (q := 94) (dc dt_BX_wayOff 50 rfl) rfl rfl ?_
            exact (hJ 0 ((if_neg (by first | omega | grind)).symm))
          · have q22 := q_
            refine r_aload_n (q := 73) (dc dt_BX_wayOff 39 rfl) rfl rfl 1 rfl ?_
            refine r_getO (q := 76) (v := 29 + 3) fl_BX_22 (dc dt_BX_wayOff 40 rfl) rfl rfl rfl ?_
            refine r_iload (q := 78) (dc dt_BX_wayOff 41 rfl) rfl 7 rfl ?_
            refine r_iald (q := 79) (v := σ.1 (29 + 3) v6.toNat) (dc dt_BX_wayOff 42 rfl) rfl rfl o5 rfl (fun g14 => ?_)
            refine r_aload_n (q := 80) (dc dt_BX_wayOff 43 rfl) rfl rfl 1 rfl ?_
            refine r_getO (q := 83) (v := 29 + 4) fl_BX_25 (dc dt_BX_wayOff 44 rfl) rfl rfl rfl ?_
            refine r_iload (q := 85) (dc dt_BX_wayOff 45 rfl) rfl 7 rfl ?_
            refine r_iald (q := 86) (v := σ.1 (29 + 4) v6.toNat) (dc dt_BX_wayOff 46 rfl) rfl rfl o5 rfl (fun g15 => ?_)
            refine r_icmp_ge (q := 89) (t := 93) (dc dt_BX_wayOff 47 rfl) rfl (by decide) g14 g15 (fun q_ => ?_) (fun q_ => ?_)
            · have q23 := q_
              refine r_iconst (q := 94) (dc dt_BX_wayOff 50 rfl) rfl rfl ?_
              exact (hJ 0 ((if_neg (by first | omega | grind)).symm))
            · have q23 := q_
              refine r_iconst (q := 90) (dc dt_BX_wayOff 48 rfl) rfl rfl ?_
              refine r_goto (q := 94) (dc dt_BX_wayOff 49 rfl) (by decide) ?_
              exact (hJ 1 ((if_pos (by first | omega | grind)).symm))
      clear h
      refine r_icmp_ge (q := 31) (t := 46) (dc dt_BX_wayOff 16 rfl) rfl (by decide) o7 g6 (fun q_ => ?_) (fun q_ => ?_)
      · have q24 := q_
        refine r_iconst (q := 47) (dc dt_BX_wayOff 25 rfl) rfl rfl ?_
        exact (hJ 0 ((if_neg (by first | omega | grind)).symm))
      · have q24 := q_
        have ho := ho q_
        refine r_aload_n (q := 32) (dc dt_BX_wayOff 17 rfl) rfl rfl 0 rfl ?_
        refine r_getO (q := 35) (v := 29 + 1) fl_BX_15 (dc dt_BX_wayOff 18 rfl) rfl rfl rfl ?_
        refine r_iload (q := 37) (dc dt_BX_wayOff 19 rfl) rfl 6 rfl ?_
        refine r_iald (q := 38) (v := σ.1 (29 + 1) v6.toNat) (dc dt_BX_wayOff 20 rfl) rfl rfl o5 rfl (fun g8 => ?_)
        refine r_iload_n (q := 39) (dc dt_BX_wayOff 21 rfl) rfl rfl 2 rfl ?_
        have o9 := ho
        refine r_icmp_ge (q := 42) (t := 46) (dc dt_BX_wayOff 22 rfl) rfl (by decide) g8 o9 (fun q_ => ?_) (fun q_ => ?_)
        · have q25 := q_
          refine r_iconst (q := 47) (dc dt_BX_wayOff 25 rfl) rfl rfl ?_
          exact (hJ 0 ((if_neg (by first | omega | grind)).symm))
        · have q25 := q_
          refine r_iconst (q := 43) (dc dt_BX_wayOff 23 rfl) rfl rfl ?_
          refine r_goto (q := 47) (dc dt_BX_wayOff 24 rfl) (by decide) ?_
          exact (hJ 1 ((if_pos (by first | omega | grind)).symm))
  ·
    refine r_iload (q := 13) (dc dt_BX_wayOff 7 rfl) rfl 6 rfl ?_
    refine r_aload_n (q := 14) (dc dt_BX_wayOff 8 rfl) rfl rfl 0 rfl ?_
    refine r_getI (q := 17) (v := σ.2.1 35 0) fl_BX_9 (dc dt_BX_wayOff 9 rfl) rfl rfl rfl rfl (fun g3 => ?_)
    obtain ⟨o4, h⟩ := h
    refine r_icmp_ge (q := 20) (t := 140) (dc dt_BX_wayOff 10 rfl) rfl (by decide) o4 g3 (fun q_ => ?_) (fun q_ => ?_)
    · have h := h.1 q_
      refine r_iconst (q := 141) (dc dt_BX_wayOff 74 rfl) rfl rfl ?_
      exact r_iret rfl (dc dt_BX_wayOff 75 rfl) (⟨by decide, by decide⟩ : rng 0) h
    · have h := h.2 q_
      refine r_iload_n (q := 21) (dc dt_BX_wayOff 11 rfl) rfl rfl 1 rfl ?_
      refine r_aload_n (q := 22) (dc dt_BX_wayOff 12 rfl) rfl rfl 0 rfl ?_
      refine r_getO (q := 25) (v := 35 + 2) fl_BX_19 (dc dt_BX_wayOff 13 rfl) rfl rfl rfl ?_
      refine r_iload (q := 27) (dc dt_BX_wayOff 14 rfl) rfl 6 rfl ?_
      obtain ⟨o5, h⟩ := h
      refine r_iald (q := 28) (v := σ.1 (35 + 2) v6.toNat) (dc dt_BX_wayOff 15 rfl) rfl rfl o5 rfl (fun g6 => ?_)
      obtain ⟨o7, h⟩ := h
      obtain ⟨ho, h⟩ := h
      have hJ : ∀ (w_0 : Int), w_0 = (if v1 < σ.1 (35 + 2) v6.toNat ∧ σ.1 (35 + 1) v6.toNat < v2 then 1 else 0) → A G m_BX_wayOff 47 [(0, O 35), (1, I v1), (2, I v2), (3, I v3), (4, I v4), (5, I v5), (6, I v6)] [I w_0] σ P := by
        intro w_0 z_0
        subst z_0
        refine r_istore (q := 49) (dc dt_BX_wayOff 26 rfl) rfl (by decide) rfl ?_
        refine r_iload_n (q := 50) (dc dt_BX_wayOff 27 rfl) rfl rfl 4 rfl ?_
        refine r_aload_n (q := 51) (dc dt_BX_wayOff 28 rfl) rfl rfl 1 rfl ?_
        refine r_getO (q := 54) (v := 35 + 4) fl_BX_25 (dc dt_BX_wayOff 29 rfl) rfl rfl rfl ?_
        refine r_iload (q := 56) (dc dt_BX_wayOff 30 rfl) rfl 7 rfl ?_
        refine r_iald (q := 57) (v := σ.1 (35 + 4) v6.toNat) (dc dt_BX_wayOff 31 rfl) rfl rfl o5 rfl (fun g10 => ?_)
        obtain ⟨o11, h⟩ := h
        obtain ⟨ho, h⟩ := h
        have hJ : ∀ (w_0 : Int), w_0 = (if v3 < σ.1 (35 + 4) v6.toNat ∧ (σ.1 (35 + 3) v6.toNat < v4 ∧ σ.1 (35 + 3) v6.toNat < σ.1 (35 + 4) v6.toNat) then 1 else 0) → A G m_BX_wayOff 94 [(7, I (if v1 < σ.1 (35 + 2) v6.toNat ∧ σ.1 (35 + 1) v6.toNat < v2 then 1 else 0)), (0, O 35), (1, I v1), (2, I v2), (3, I v3), (4, I v4), (5, I v5), (6, I v6)] [I w_0] σ P := by
          intro w_0 z_0
          subst z_0
          refine r_istore (q := 96) (dc dt_BX_wayOff 51 rfl) rfl (by decide) rfl ?_
          refine r_iload (q := 98) (dc dt_BX_wayOff 52 rfl) rfl 1 rfl ?_
          refine r_ifb_eq (q := 101) (t := 134) (dc dt_BX_wayOff 53 rfl) rfl (by decide) (fun q_ => ?_) (fun q_ => ?_)
          · have h := h.1 q_
            refine r_iinc (q := 137) (k := 8) (dc dt_BX_wayOff 72 rfl) rfl rfl (by decide) rfl ?_
            refine r_goto (q := 11) (dc dt_BX_wayOff 73 rfl) (by decide) ?_
            exact r_loc [3, 4, 5, 6, 7, 8, 0] rfl h
          · have h := h.2 q_
            refine r_iload (q := 103) (dc dt_BX_wayOff 54 rfl) rfl 0 rfl ?_
            refine r_ifb_eq (q := 106) (t := 134) (dc dt_BX_wayOff 55 rfl) rfl (by decide) (fun q_ => ?_) (fun q_ => ?_)
            · have h := h.1 q_
              refine r_iinc (q := 137) (k := 8) (dc dt_BX_wayOff 72 rfl) rfl rfl (by decide) rfl ?_
              refine r_goto (q := 11) (dc dt_BX_wayOff 73 rfl) (by decide) ?_
              exact r_loc [3, 4, 5, 6, 7, 8, 0] rfl h
            · have h := h.2 q_
              refine r_iload (q := 108) (dc dt_BX_wayOff 56 rfl) rfl 7 rfl ?_
              obtain ⟨o16, h⟩ := h
              have hJ : ∀ (w_0 : Int), w_0 = (if v5 = 0 then v4 - (σ.1 (35 + 3) v6.toNat) else (σ.1 (35 + 4) v6.toNat) - v3) → A G m_BX_wayOff 133 [(8, I (if v3 < σ.1 (35 + 4) v6.toNat ∧ (σ.1 (35 + 3) v6.toNat < v4 ∧ σ.1 (35 + 3) v6.toNat < σ.1 (35 + 4) v6.toNat) then 1 else 0)), (7, I (if v1 < σ.1 (35 + 2) v6.toNat ∧ σ.1 (35 + 1) v6.toNat < v2 then 1 else 0)), (0, O 35), (1, I v1), (2, I v2), (3, I v3), (4, I v4), (5, I v5), (6, I v6)] [I w_0] σ P := by
                intro w_0 z_0
                subst z_0
                obtain ⟨o19, h⟩ := h
                exact r_iret rfl (dc dt_BX_wayOff 71 rfl) o19 h
              clear h
              refine r_if_eq (q := 111) (t := 123) (dc dt_BX_wayOff 57 rfl) rfl (by decide) o16 (fun q_ => ?_) (fun q_ => ?_)
              · have q20 := q_
                refine r_iload (q := 125) (dc dt_BX_wayOff 65 rfl) rfl 6 rfl ?_
                refine r_aload_n (q := 126) (dc dt_BX_wayOff 66 rfl) rfl rfl 2 rfl ?_
                refine r_getO (q := 129) (v := 35 + 3) fl_BX_22 (dc dt_BX_wayOff 67 rfl) rfl rfl rfl ?_
                refine r_iload (q := 131) (dc dt_BX_wayOff 68 rfl) rfl 8 rfl ?_
                refine r_iald (q := 132) (v := σ.1 (35 + 3) v6.toNat) (dc dt_BX_wayOff 69 rfl) rfl rfl o5 rfl (fun g17 => ?_)
                refine r_isub (q := 133) (dc dt_BX_wayOff 70 rfl) rfl ?_
                exact (hJ (v4 - (σ.1 (35 + 3) v6.toNat)) ((if_pos (by first | omega | grind)).symm))
              · have q20 := q_
                refine r_aload_n (q := 112) (dc dt_BX_wayOff 58 rfl) rfl rfl 2 rfl ?_
                refine r_getO (q := 115) (v := 35 + 4) fl_BX_25 (dc dt_BX_wayOff 59 rfl) rfl rfl rfl ?_
                refine r_iload (q := 117) (dc dt_BX_wayOff 60 rfl) rfl 8 rfl ?_
                refine r_iald (q := 118) (v := σ.1 (35 + 4) v6.toNat) (dc dt_BX_wayOff 61 rfl) rfl rfl o5 rfl (fun g18 => ?_)
                refine r_iload_n (q := 119) (dc dt_BX_wayOff 62 rfl) rfl rfl 5 rfl ?_
                refine r_isub (q := 120) (dc dt_BX_wayOff 63 rfl) rfl ?_
                refine r_goto (q := 133) (dc dt_BX_wayOff 64 rfl) (by decide) ?_
                exact (hJ ((σ.1 (35 + 4) v6.toNat) - v3) ((if_neg (by first | omega | grind)).symm))
        clear h
        refine r_icmp_ge (q := 60) (t := 93) (dc dt_BX_wayOff 32 rfl) rfl (by decide) o11 g10 (fun q_ => ?_) (fun q_ => ?_)
        · have q21 := q_
          refine r_iconst (q := 94) (dc dt_BX_wayOff 50 rfl) rfl rfl ?_
          exact (hJ 0 ((if_neg (by first | omega | grind)).symm))
        · have q21 := q_
          have ho := ho q_
          refine r_aload_n (q := 61) (dc dt_BX_wayOff 33 rfl) rfl rfl 1 rfl ?_
          refine r_getO (q := 64) (v := 35 + 3) fl_BX_22 (dc dt_BX_wayOff 34 rfl) rfl rfl rfl ?_
          refine r_iload (q := 66) (dc dt_BX_wayOff 35 rfl) rfl 7 rfl ?_
          refine r_iald (q := 67) (v := σ.1 (35 + 3) v6.toNat) (dc dt_BX_wayOff 36 rfl) rfl rfl o5 rfl (fun g12 => ?_)
          refine r_iload (q := 69) (dc dt_BX_wayOff 37 rfl) rfl 5 rfl ?_
          have o13 := ho
          refine r_icmp_ge (q := 72) (t := 93) (dc dt_BX_wayOff 38 rfl) rfl (by decide) g12 o13 (fun q_ => ?_) (fun q_ => ?_)
          · have q22 := q_
            refine r_iconst (q := 94) (dc dt_BX_wayOff 50 rfl) rfl rfl ?_
            exact (hJ 0 ((if_neg (by first | omega | grind)).symm))
          · have q22 := q_
            refine r_aload_n (q := 73) (dc dt_BX_wayOff 39 rfl) rfl rfl 1 rfl ?_
            refine r_getO (q := 76) (v := 35 + 3) fl_BX_22 (dc dt_BX_wayOff 40 rfl) rfl rfl rfl ?_
            refine r_iload (q := 78) (dc dt_BX_wayOff 41 rfl) rfl 7 rfl ?_
            refine r_iald (q := 79) (v := σ.1 (35 + 3) v6.toNat) (dc dt_BX_wayOff 42 rfl) rfl rfl o5 rfl (fun g14 => ?_)
            refine r_aload_n (q := 80) (dc dt_BX_wayOff 43 rfl) rfl rfl 1 rfl ?_
            refine r_getO (q := 83) (v := 35 + 4) fl_BX_25 (dc dt_BX_wayOff 44 rfl) rfl rfl rfl ?_
            refine r_iload (q := 85) (dc dt_BX_wayOff 45 rfl) rfl 7 rfl ?_
            refine r_iald (q := 86) (v := σ.1 (35 + 4) v6.toNat) (dc dt_BX_wayOff 46 rfl) rfl rfl o5 rfl (fun g15 => ?_)
            refine r_icmp_ge (q := 89) (t := 93) (dc dt_BX_wayOff 47 rfl) rfl (by decide) g14 g15 (fun q_ => ?_) (fun q_ => ?_)
            · have q23 := q_
              refine r_iconst (q := 94) (dc dt_BX_wayOff 50 rfl) rfl rfl ?_
              exact (hJ 0 ((if_neg (by first | omega | grind)).symm))
            · have q23 := q_
              refine r_iconst (q := 90) (dc dt_BX_wayOff 48 rfl) rfl rfl ?_
              refine r_goto (q := 94) (dc dt_BX_wayOff 49 rfl) (by decide) ?_
              exact (hJ 1 ((if_pos (by first | omega | grind)).symm))
      clear h
      refine r_icmp_ge (q := 31) (t := 46) (dc dt_BX_wayOff 16 rfl) rfl (by decide) o7 g6 (fun q_ => ?_) (fun q_ => ?_)
      · have q24 := q_
        refine r_iconst (q := 47) (dc dt_BX_wayOff 25 rfl) rfl rfl ?_
        exact (hJ 0 ((if_neg (by first | omega | grind)).symm))
      · have q24 := q_
        have ho := ho q_
        refine r_aload_n (q := 32) (dc dt_BX_wayOff 17 rfl) rfl rfl 0 rfl ?_
        refine r_getO (q := 35) (v := 35 + 1) fl_BX_15 (dc dt_BX_wayOff 18 rfl) rfl rfl rfl ?_
        refine r_iload (q := 37) (dc dt_BX_wayOff 19 rfl) rfl 6 rfl ?_
        refine r_iald (q := 38) (v := σ.1 (35 + 1) v6.toNat) (dc dt_BX_wayOff 20 rfl) rfl rfl o5 rfl (fun g8 => ?_)
        refine r_iload_n (q := 39) (dc dt_BX_wayOff 21 rfl) rfl rfl 2 rfl ?_
        have o9 := ho
        refine r_icmp_ge (q := 42) (t := 46) (dc dt_BX_wayOff 22 rfl) rfl (by decide) g8 o9 (fun q_ => ?_) (fun q_ => ?_)
        · have q25 := q_
          refine r_iconst (q := 47) (dc dt_BX_wayOff 25 rfl) rfl rfl ?_
          exact (hJ 0 ((if_neg (by first | omega | grind)).symm))
        · have q25 := q_
          refine r_iconst (q := 43) (dc dt_BX_wayOff 23 rfl) rfl rfl ?_
          refine r_goto (q := 47) (dc dt_BX_wayOff 24 rfl) (by decide) ?_
          exact (hJ 1 ((if_pos (by first | omega | grind)).symm))
def tb_MK_lift : List (Nat × Instr × Nat) := [(0, .iconst 0, 1), (1, .istore 7, 2), (3, .iload 5, 2), (5, .ifCond .eq 7, 3), (8, .iload_n 3, 1), (9, .goto 7, 3), (12, .iload_n 3, 1), (13, .iload 4, 2), (15, .isub, 1), (16, .istore 8, 2), (18, .iconst 0, 1), (19, .istore 9, 2), (21, .iload 9, 2), (23, .sipush 300, 3), (26, .if_icmp .ge 107, 3), (29, .iload 7, 2), (31, .sipush 300, 3), (34, .if_icmp .ge 99, 3), (37, .iload 5, 2), (39, .ifCond .eq 8, 3), (42, .iload 7, 2), (44, .goto 6, 3), (47, .iload 7, 2), (49, .ineg, 1), (50, .istore 10, 2), (52, .iload 8, 2), (54, .iload 10, 2), (56, .iadd, 1), (57, .istore 11, 2), (59, .aload 6, 2), (61, .iload_n 1, 1), (62, .iload_n 1, 1), (63, .iload_n 2, 1), (64, .iadd, 1), (65, .iload 11, 2), (67, .iload 11, 2), (69, .iload 4, 2), (71, .iadd, 1), (72, .iload 5, 2), (74, .invokevirtual 28, 3), (77, .istore 12, 2), (79, .iload 12, 2), (81, .ifCond .ne 25, 3), (84, .aload_n 0, 1), (85, .getfield 12, 3), (88, .iload_n 1, 1), (89, .iload_n 1, 1), (90, .iload_n 2, 1), (91, .iadd, 1), (92, .iload 11, 2), (94, .iload 11, 2), (96, .iload 4, 2), (98, .iadd, 1), (99, .iload 5, 2), (101, .invokevirtual 28, 3), (104, .istore 12, 2), (106, .iload 12, 2), (108, .ifCond .ne 6, 3), (111, .goto 22, 3), (114, .iload 7, 2), (116, .iload 12, 2), (118, .iadd, 1), (119, .sipush 300, 3), (122, .invokestatic 32, 3), (125, .istore 7, 2), (127, .iinc 9 1, 3), (130, .goto (-109), 3), (133, .iload 8, 2), (135, .iload 5, 2), (137, .ifCond .eq 8, 3), (140, .iload 7, 2), (142, .goto 6, 3), (145, .iload 7, 2), (147, .ineg, 1), (148, .iadd, 1), (149, .istore 9, 2), (151, .aload_n 0, 1), (152, .getfield 25, 3), (155, .aload_n 0, 1), (156, .getfield 12, 3), (159, .getfield 38, 3), (162, .iload 7, 2), (164, .iastore, 1), (165, .aload_n 0, 1), (166, .getfield 12, 3), (169, .iload_n 1, 1), (170, .iload_n 1, 1), (171, .iload_n 2, 1), (172, .iadd, 1), (173, .iload 9, 2), (175, .iload 9, 2), (177, .iload 4, 2), (179, .iadd, 1), (180, .invokevirtual 42, 3), (183, .iload 5, 2), (185, .ifCond .eq 11, 3), (188, .iload 9, 2), (190, .iload 4, 2), (192, .iadd, 1), (193, .goto 5, 3), (196, .iload 9, 2), (198, .ireturn, 1)]
theorem dt_MK_lift : DT (cM m_MK_lift) tb_MK_lift := by unfold DT; decide +kernel
abbrev a_MK_lift_0 (G : GT) (q0 : Nat) (q6 : Nat) (v1 : Int) (v2 : Int) (v3 : Int) (v4 : Int) (v5 : Int) (σ : St) (P : Int → St → Prop) : Prop := A G m_MK_lift 0 [(0, O q0), (1, I v1), (2, I v2), (3, I v3), (4, I v4), (5, I v5), (6, O q6)] [] σ P
abbrev a_MK_lift_21 (G : GT) (q0 : Nat) (q6 : Nat) (v1 : Int) (v2 : Int) (v4 : Int) (v5 : Int) (v7 : Int) (v8 : Int) (v9 : Int) (σ : St) (P : Int → St → Prop) : Prop := A G m_MK_lift 21 [(0, O q0), (1, I v1), (2, I v2), (4, I v4), (5, I v5), (6, O q6), (7, I v7), (8, I v8), (9, I v9)] [] σ P
abbrev a_MK_lift_133 (G : GT) (q0 : Nat) (q6 : Nat) (v1 : Int) (v2 : Int) (v4 : Int) (v5 : Int) (v7 : Int) (v8 : Int) (σ : St) (P : Int → St → Prop) : Prop := A G m_MK_lift 133 [(0, O q0), (1, I v1), (2, I v2), (4, I v4), (5, I v5), (7, I v7), (8, I v8)] [] σ P
set_option maxRecDepth 20000 in
theorem k_MK_lift_0 {G : GT} {σ : St} {P : Int → St → Prop} {q0 : Nat} {q6 : Nat} {v1 : Int} {v2 : Int} {v3 : Int} {v4 : Int} {v5 : Int} (hq0 : isM q0) (hq6 : isB q6) 
    (h : rng v5 ∧ a_MK_lift_21 G q0 q6 v1 v2 v4 v5 0 (if v5 = 0 then v3 - v4 else v3) 0 σ P) :
    a_MK_lift_0 G q0 q6 v1 v2 v3 v4 v5 σ P := by
  rcases hq0 with rfl | rfl
  ·
    rcases hq6 with rfl | rfl | rfl | rfl
    ·
      refine r_iconst (q := 1) (dc dt_MK_lift 0 rfl) rfl rfl ?_
      refine r_istore (q := 3) (dc dt_MK_lift 1 rfl) rfl (by decide) rfl ?_
      refine r_iload (q := 5) (dc dt_MK_lift 2 rfl) rfl 6 rfl ?_
      obtain ⟨o1, h⟩ := h
      have hJ : ∀ (w_0 : Int), w_0 = (if v5 = 0 then v3 - v4 else v3) → A G m_MK_lift 16 [(7, I 0), (0, O 15), (1, I v1), (2, I v2), (3, I v3), (4, I v4), (5, I v5), (6, O 10)] [I w_0] σ P := by
        intro w_0 z_0
        subst z_0
        refine r_istore (q := 18) (dc dt_MK_lift 9 rfl) rfl (by decide) rfl ?_
        refine r_iconst (q := 19) (dc dt_MK_lift 10 rfl) rfl rfl ?_
        refine r_istore (q := 21) (dc dt_MK_lift 11 rfl) rfl (by decide) rfl ?_
        exact r_loc [3, 4, 5, 7, 8, 9, 2, 1, 0] rfl h
      clear h
      refine r_if_eq (q := 8) (t := 12) (dc dt_MK_lift 3 rfl) rfl (by decide) o1 (fun q_ => ?_) (fun q_ => ?_)
      · have q21 := q_
        refine r_iload_n (q := 13) (dc dt_MK_lift 6 rfl) rfl rfl 4 rfl ?_
        refine r_iload (q := 15) (dc dt_MK_lift 7 rfl) rfl 5 rfl ?_
        refine r_isub (q := 16) (dc dt_MK_lift 8 rfl) rfl ?_
        exact (hJ (v3 - v4) ((if_pos (by first | omega | grind)).symm))
      · have q21 := q_
        refine r_iload_n (q := 9) (dc dt_MK_lift 4 rfl) rfl rfl 4 rfl ?_
        refine r_goto (q := 16) (dc dt_MK_lift 5 rfl) (by decide) ?_
        exact (hJ v3 ((if_neg (by first | omega | grind)).symm))
    ·
      refine r_iconst (q := 1) (dc dt_MK_lift 0 rfl) rfl rfl ?_
      refine r_istore (q := 3) (dc dt_MK_lift 1 rfl) rfl (by decide) rfl ?_
      refine r_iload (q := 5) (dc dt_MK_lift 2 rfl) rfl 6 rfl ?_
      obtain ⟨o1, h⟩ := h
      have hJ : ∀ (w_0 : Int), w_0 = (if v5 = 0 then v3 - v4 else v3) → A G m_MK_lift 16 [(7, I 0), (0, O 15), (1, I v1), (2, I v2), (3, I v3), (4, I v4), (5, I v5), (6, O 16)] [I w_0] σ P := by
        intro w_0 z_0
        subst z_0
        refine r_istore (q := 18) (dc dt_MK_lift 9 rfl) rfl (by decide) rfl ?_
        refine r_iconst (q := 19) (dc dt_MK_lift 10 rfl) rfl rfl ?_
        refine r_istore (q := 21) (dc dt_MK_lift 11 rfl) rfl (by decide) rfl ?_
        exact r_loc [3, 4, 5, 7, 8, 9, 2, 1, 0] rfl h
      clear h
      refine r_if_eq (q := 8) (t := 12) (dc dt_MK_lift 3 rfl) rfl (by decide) o1 (fun q_ => ?_) (fun q_ => ?_)
      · have q21 := q_
        refine r_iload_n (q := 13) (dc dt_MK_lift 6 rfl) rfl rfl 4 rfl ?_
        refine r_iload (q := 15) (dc dt_MK_lift 7 rfl) rfl 5 rfl ?_
        refine r_isub (q := 16) (dc dt_MK_lift 8 rfl) rfl ?_
        exact (hJ (v3 - v4) ((if_pos (by first | omega | grind)).symm))
      · have q21 := q_
        refine r_iload_n (q := 9) (dc dt_MK_lift 4 rfl) rfl rfl 4 rfl ?_
        refine r_goto (q := 16) (dc dt_MK_lift 5 rfl) (by decide) ?_
        exact (hJ v3 ((if_neg (by first | omega | grind)).symm))
    ·
      refine r_iconst (q := 1) (dc dt_MK_lift 0 rfl) rfl rfl ?_
      refine r_istore (q := 3) (dc dt_MK_lift 1 rfl) rfl (by decide) rfl ?_
      refine r_iload (q := 5) (dc dt_MK_lift 2 rfl) rfl 6 rfl ?_
      obtain ⟨o1, h⟩ := h
      have hJ : ∀ (w_0 : Int), w_0 = (if v5 = 0 then v3 - v4 else v3) → A G m_MK_lift 16 [(7, I 0), (0, O 15), (1, I v1), (2, I v2), (3, I v3), (4, I v4), (5, I v5), (6, O 29)] [I w_0] σ P := by
        intro w_0 z_0
        subst z_0
        refine r_istore (q := 18) (dc dt_MK_lift 9 rfl) rfl (by decide) rfl ?_
        refine r_iconst (q := 19) (dc dt_MK_lift 10 rfl) rfl rfl ?_
        refine r_istore (q := 21) (dc dt_MK_lift 11 rfl) rfl (by decide) rfl ?_
        exact r_loc [3, 4, 5, 7, 8, 9, 2, 1, 0] rfl h
      clear h
      refine r_if_eq (q := 8) (t := 12) (dc dt_MK_lift 3 rfl) rfl (by decide) o1 (fun q_ => ?_) (fun q_ => ?_)
      · have q21 := q_
        refine r_iload_n (q := 13) (dc dt_MK_lift 6 rfl) rfl rfl 4 rfl ?_
        refine r_iload (q := 15) (dc dt_MK_lift 7 rfl) rfl 5 rfl ?_
        refine r_isub (q := 16) (dc dt_MK_lift 8 rfl) rfl ?_
        exact (hJ (v3 - v4) ((if_pos (by first | omega | grind)).symm))
      · have q21 := q_
        refine r_iload_n (q := 9) (dc dt_MK_lift 4 rfl) rfl rfl 4 rfl ?_
        refine r_goto (q := 16) (dc dt_MK_lift 5 rfl) (by decide) ?_
        exact (hJ v3 ((if_neg (by first | omega | grind)).symm))
    ·
      refine r_iconst (q := 1) (dc dt_MK_lift 0 rfl) rfl rfl ?_
      refine r_istore (q := 3) (dc dt_MK_lift 1 rfl) rfl (by decide) rfl ?_
      refine r_iload (q := 5) (dc dt_MK_lift 2 rfl) rfl 6 rfl ?_
      obtain ⟨o1, h⟩ := h
      have hJ : ∀ (w_0 : Int), w_0 = (if v5 = 0 then v3 - v4 else v3) → A G m_MK_lift 16 [(7, I 0), (0, O 15), (1, I v1), (2, I v2), (3, I v3), (4, I v4), (5, I v5), (6, O 35)] [I w_0] σ P := by
        intro w_0 z_0
        subst z_0
        refine r_istore (q := 18) (dc dt_MK_lift 9 rfl) rfl (by decide) rfl ?_
        refine r_iconst (q := 19) (dc dt_MK_lift 10 rfl) rfl rfl ?_
        refine r_istore (q := 21) (dc dt_MK_lift 11 rfl) rfl (by decide) rfl ?_
        exact r_loc [3, 4, 5, 7, 8, 9, 2, 1, 0] rfl h
      clear h
      refine r_if_eq (q := 8) (t := 12) (dc dt_MK_lift 3 rfl) rfl (by decide) o1 (fun q_ => ?_) (fun q_ => ?_)
      · have q21 := q_
        refine r_iload_n (q := 13) (dc dt_MK_lift 6 rfl) rfl rfl 4 rfl ?_
        refine r_iload (q := 15) (dc dt_MK_lift 7 rfl) rfl 5 rfl ?_
        refine r_isub (q := 16) (dc dt_MK_lift 8 rfl) rfl ?_
        exact (hJ (v3 - v4) ((if_pos (by first | omega | grind)).symm))
      · have q21 := q_
        refine r_iload_n (q := 9) (dc dt_MK_lift 4 rfl) rfl rfl 4 rfl ?_
        refine r_goto (q := 16) (dc dt_MK_lift 5 rfl) (by decide) ?_
        exact (hJ v3 ((if_neg (by first | omega | grind)).symm))
  ·
    rcases hq6 with rfl | rfl | rfl | rfl
    ·
      refine r_iconst (q := 1) (dc dt_MK_lift 0 rfl) rfl rfl ?_
      refine r_istore (q := 3) (dc dt_MK_lift 1 rfl) rfl (by decide) rfl ?_
      refine r_iload (q := 5) (dc dt_MK_lift 2 rfl) rfl 6 rfl ?_
      obtain ⟨o1, h⟩ := h
      have hJ : ∀ (w_0 : Int), w_0 = (if v5 = 0 then v3 - v4 else v3) → A G m_MK_lift 16 [(7, I 0), (0, O 34), (1, I v1), (2, I v2), (3, I v3), (4, I v4), (5, I v5), (6, O 10)] [I w_0] σ P := by
        intro w_0 z_0
        subst z_0
        refine r_istore (q := 18) (dc dt_MK_lift 9 rfl) rfl (by decide) rfl ?_
        refine r_iconst (q := 19) (dc dt_MK_lift 10 rfl) rfl rfl ?_
        refine r_istore (q := 21) (dc dt_MK_lift 11 rfl) rfl (by decide) rfl ?_
        exact r_loc [3, 4, 5, 7, 8, 9, 2, 1, 0] rfl h
      clear h
      refine r_if_eq (q := 8) (t := 12) (dc dt_MK_lift 3 rfl) rfl (by decide) o1 (fun q_ => ?_) (fun q_ => ?_)
      · have q21 := q_
        refine r_iload_n (q := 13) (dc dt_MK_lift 6 rfl) rfl rfl 4 rfl ?_
        refine r_iload (q := 15) (dc dt_MK_lift 7 rfl) rfl 5 rfl ?_
        refine r_isub (q := 16) (dc dt_MK_lift 8 rfl) rfl ?_
        exact (hJ (v3 - v4) ((if_pos (by first | omega | grind)).symm))
      · have q21 := q_
        refine r_iload_n (q := 9) (dc dt_MK_lift 4 rfl) rfl rfl 4 rfl ?_
        refine r_goto (q := 16) (dc dt_MK_lift 5 rfl) (by decide) ?_
        exact (hJ v3 ((if_neg (by first | omega | grind)).symm))
    ·
      refine r_iconst (q := 1) (dc dt_MK_lift 0 rfl) rfl rfl ?_
      refine r_istore (q := 3) (dc dt_MK_lift 1 rfl) rfl (by decide) rfl ?_
      refine r_iload (q := 5) (dc dt_MK_lift 2 rfl) rfl 6 rfl ?_
      obtain ⟨o1, h⟩ := h
      have hJ : ∀ (w_0 : Int), w_0 = (if v5 = 0 then v3 - v4 else v3) → A G m_MK_lift 16 [(7, I 0), (0, O 34), (1, I v1), (2, I v2), (3, I v3), (4, I v4), (5, I v5), (6, O 16)] [I w_0] σ P := by
        intro w_0 z_0
        subst z_0
        refine r_istore (q := 18) (dc dt_MK_lift 9 rfl) rfl (by decide) rfl ?_
        refine r_iconst (q := 19) (dc dt_MK_lift 10 rfl) rfl rfl ?_
        refine r_istore (q := 21) (dc dt_MK_lift 11 rfl) rfl (by decide) rfl ?_
        exact r_loc [3, 4, 5, 7, 8, 9, 2, 1, 0] rfl h
      clear h
      refine r_if_eq (q := 8) (t := 12) (dc dt_MK_lift 3 rfl) rfl (by decide) o1 (fun q_ => ?_) (fun q_ => ?_)
      · have q21 := q_
        refine r_iload_n (q := 13) (dc dt_MK_lift 6 rfl) rfl rfl 4 rfl ?_
        refine r_iload (q := 15) (dc dt_MK_lift 7 rfl) rfl 5 rfl ?_
        refine r_isub (q := 16) (dc dt_MK_lift 8 rfl) rfl ?_
        exact (hJ (v3 - v4) ((if_pos (by first | omega | grind)).symm))
      · have q21 := q_
        refine r_iload_n (q := 9) (dc dt_MK_lift 4 rfl) rfl rfl 4 rfl ?_
        refine r_goto (q := 16) (dc dt_MK_lift 5 rfl) (by decide) ?_
        exact (hJ v3 ((if_neg (by first | omega | grind)).symm))
    ·
      refine r_iconst (q := 1) (dc dt_MK_lift 0 rfl) rfl rfl ?_
      refine r_istore (q := 3) (dc dt_MK_lift 1 rfl) rfl (by decide) rfl ?_
      refine r_iload (q := 5) (dc dt_MK_lift 2 rfl) rfl 6 rfl ?_
      obtain ⟨o1, h⟩ := h
      have hJ : ∀ (w_0 : Int), w_0 = (if v5 = 0 then v3 - v4 else v3) → A G m_MK_lift 16 [(7, I 0), (0, O 34), (1, I v1), (2, I v2), (3, I v3), (4, I v4), (5, I v5), (6, O 29)] [I w_0] σ P := by
        intro w_0 z_0
        subst z_0
        refine r_istore (q := 18) (dc dt_MK_lift 9 rfl) rfl (by decide) rfl ?_
        refine r_iconst (q := 19) (dc dt_MK_lift 10 rfl) rfl rfl ?_
        refine r_istore (q := 21) (dc dt_MK_lift 11 rfl) rfl (by decide) rfl ?_
        exact r_loc [3, 4, 5, 7, 8, 9, 2, 1, 0] rfl h
      clear h
      refine r_if_eq (q := 8) (t := 12) (dc dt_MK_lift 3 rfl) rfl (by decide) o1 (fun q_ => ?_) (fun q_ => ?_)
      · have q21 := q_
        refine r_iload_n (q := 13) (dc dt_MK_lift 6 rfl) rfl rfl 4 rfl ?_
        refine r_iload (q := 15) (dc dt_MK_lift 7 rfl) rfl 5 rfl ?_
        refine r_isub (q := 16) (dc dt_MK_lift 8 rfl) rfl ?_
        exact (hJ (v3 - v4) ((if_pos (by first | omega | grind)).symm))
      · have q21 := q_
        refine r_iload_n (q := 9) (dc dt_MK_lift 4 rfl) rfl rfl 4 rfl ?_
        refine r_goto (q := 16) (dc dt_MK_lift 5 rfl) (by decide) ?_
        exact (hJ v3 ((if_neg (by first | omega | grind)).symm))
    ·
      refine r_iconst (q := 1) (dc dt_MK_lift 0 rfl) rfl rfl ?_
      refine r_istore (q := 3) (dc dt_MK_lift 1 rfl) rfl (by decide) rfl ?_
      refine r_iload (q := 5) (dc dt_MK_lift 2 rfl) rfl 6 rfl ?_
      obtain ⟨o1, h⟩ := h
      have hJ : ∀ (w_0 : Int), w_0 = (if v5 = 0 then v3 - v4 else v3) → A G m_MK_lift 16 [(7, I 0), (0, O 34), (1, I v1), (2, I v2), (3, I v3), (4, I v4), (5, I v5), (6, O 35)] [I w_0] σ P := by
        intro w_0 z_0
        subst z_0
        refine r_istore (q := 18) (dc dt_MK_lift 9 rfl) rfl (by decide) rfl ?_
        refine r_iconst (q := 19) (dc dt_MK_lift 10 rfl) rfl rfl ?_
        refine r_istore (q := 21) (dc dt_MK_lift 11 rfl) rfl (by decide) rfl ?_
        exact r_loc [3, 4, 5, 7, 8, 9, 2, 1, 0] rfl h
      clear h
      refine r_if_eq (q := 8) (t := 12) (dc dt_MK_lift 3 rfl) rfl (by decide) o1 (fun q_ => ?_) (fun q_ => ?_)
      · have q21 := q_
        refine r_iload_n (q := 13) (dc dt_MK_lift 6 rfl) rfl rfl 4 rfl ?_
        refine r_iload (q := 15) (dc dt_MK_lift 7 rfl) rfl 5 rfl ?_
        refine r_isub (q := 16) (dc dt_MK_lift 8 rfl) rfl ?_
        exact (hJ (v3 - v4) ((if_pos (by first | omega | grind)).symm))
      · have q21 := q_
        refine r_iload_n (q := 9) (dc dt_MK_lift 4 rfl) rfl rfl 4 rfl ?_
        refine r_goto (q := 16) (dc dt_MK_lift 5 rfl) (by decide) ?_
        exact (hJ v3 ((if_neg (by first | omega | grind)).symm))
set_option maxRecDepth 20000 in
theorem k_MK_lift_21 {G : GT} {σ : St} {P : Int → St → Prop} {q0 : Nat} {q6 : Nat} {v1 : Int} {v2 : Int} {v4 : Int} {v5 : Int} {v7 : Int} {v8 : Int} {v9 : Int} (hq0 : isM q0) (hq6 : isB q6) 
    (h : rng v9 ∧ (300 ≤ v9 → a_MK_lift_133 G q0 q6 v1 v2 v4 v5 v7 v8 σ P) ∧ (v9 < 300 → rng v7 ∧ (300 ≤ v7 → a_MK_lift_133 G q0 q6 v1 v2 v4 v5 v7 v8 σ P) ∧ (v7 < 300 → rng v5 ∧ CJ G m_BX_wayOff [O q6, I v1, I (v1 + v2), I (v8 + (if v5 = 0 then -v7 else v7)), I ((v8 + (if v5 = 0 then -v7 else v7)) + v4), I v5] σ (fun r6 u5 => (r6 ≠ 0 → (r6 ≠ 0 → rng (v7 + r6) ∧ a_MK_lift_21 G q0 q6 v1 v2 v4 v5 (min (v7 + r6) 300) v8 (v9 + 1) u5 P) ∧ (r6 = 0 → a_MK_lift_133 G q0 q6 v1 v2 v4 v5 v7 v8 u5 P)) ∧ (r6 = 0 → CJ G m_BX_wayOff [O (q0 + 1), I v1, I (v1 + v2), I (v8 + (if v5 = 0 then -v7 else v7)), I ((v8 + (if v5 = 0 then -v7 else v7)) + v4), I v5] u5 (fun r10 u9 => (r10 ≠ 0 → rng (v7 + r10) ∧ a_MK_lift_21 G q0 q6 v1 v2 v4 v5 (min (v7 + r10) 300) v8 (v9 + 1) u9 P) ∧ (r10 = 0 → a_MK_lift_133 G q0 q6 v1 v2 v4 v5 v7 v8 u9 P))))))) :
    a_MK_lift_21 G q0 q6 v1 v2 v4 v5 v7 v8 v9 σ P := by
  rcases hq0 with rfl | rfl
  ·
    rcases hq6 with rfl | rfl | rfl | rfl
    ·
      refine r_iload (q := 23) (dc dt_MK_lift 12 rfl) rfl 8 rfl ?_
      refine r_sipush (q := 26) (dc dt_MK_lift 13 rfl) rfl (by decide) ?_
      obtain ⟨o2, h⟩ := h
      refine r_icmp_ge (q := 29) (t := 133) (dc dt_MK_lift 14 rfl) rfl (by decide) o2 (⟨by decide, by decide⟩ : rng 300) (fun q_ => ?_) (fun q_ => ?_)
      · have h := h.1 q_
        exact r_loc [0, 1, 2, 3, 4, 6, 7] rfl h
      · have h := h.2 q_
        refine r_iload (q := 31) (dc dt_MK_lift 15 rfl) rfl 6 rfl ?_
        refine r_sipush (q := 34) (dc dt_MK_lift 16 rfl) rfl (by decide) ?_
        obtain ⟨o3, h⟩ := h
        refine r_icmp_ge (q := 37) (t := 133) (dc dt_MK_lift 17 rfl) rfl (by decide) o3 (⟨by decide, by decide⟩ : rng 300) (fun q_ => ?_) (fun q_ => ?_)
        · have h := h.1 q_
          exact r_loc [0, 1, 2, 3, 4, 6, 7] rfl h
        · have h := h.2 q_
          refine r_iload (q := 39) (dc dt_MK_lift 18 rfl) rfl 4 rfl ?_
          obtain ⟨o4, h⟩ := h
          have hJ : ∀ (w_0 : Int), w_0 = (if v5 = 0 then -v7 else v7) → A G m_MK_lift 50 [(0, O 15), (1, I v1), (2, I v2), (4, I v4), (5, I v5), (6, O 10), (7, I v7), (8, I v8), (9, I v9)] [I w_0] σ P := by
            intro w_0 z_0
            subst z_0
            refine r_istore (q := 52) (dc dt_MK_lift 24 rfl) rfl (by decide) rfl ?_
            refine r_iload (q := 54) (dc dt_MK_lift 25 rfl) rfl 8 rfl ?_
            refine r_iload (q := 56) (dc dt_MK_lift 26 rfl) rfl 0 rfl ?_
            refine r_iadd (q := 57) (dc dt_MK_lift 27 rfl) rfl ?_
            refine r_istore (q := 59) (dc dt_MK_lift 28 rfl) rfl (by decide) rfl ?_
            refine r_aload (q := 61) (dc dt_MK_lift 29 rfl) rfl 7 rfl ?_
            refine r_iload_n (q := 62) (dc dt_MK_lift 30 rfl) rfl rfl 3 rfl ?_
            refine r_iload_n (q := 63) (dc dt_MK_lift 31 rfl) rfl rfl 3 rfl ?_
            refine r_iload_n (q := 64) (dc dt_MK_lift 32 rfl) rfl rfl 4 rfl ?_
            refine r_iadd (q := 65) (dc dt_MK_lift 33 rfl) rfl ?_
            refine r_iload (q := 67) (dc dt_MK_lift 34 rfl) rfl 0 rfl ?_
            refine r_iload (q := 69) (dc dt_MK_lift 35 rfl) rfl 0 rfl ?_
            refine r_iload (q := 71) (dc dt_MK_lift 36 rfl) rfl 5 rfl ?_
            refine r_iadd (q := 72) (dc dt_MK_lift 37 rfl) rfl ?_
            refine r_iload (q := 74) (dc dt_MK_lift 38 rfl) rfl 6 rfl ?_
            refine r_callVi (q := 77) mk_BX_wayOff lm_MK_28 (RMO.of rfl) rfl (dc dt_MK_lift 39 rfl) rfl rfl [I v1, I (v1 + v2), I (v8 + (if v5 = 0 then -v7 else v7)), I ((v8 + (if v5 = 0 then -v7 else v7)) + v4), I v5] [] rfl rfl (Nat.le_of_ble_eq_true rfl) h (fun r6 u5 g7 h => ?_)
            refine r_istore (q := 79) (dc dt_MK_lift 40 rfl) rfl (by decide) rfl ?_
            refine r_iload (q := 81) (dc dt_MK_lift 41 rfl) rfl 0 rfl ?_
            refine r_if_ne (q := 84) (t := 106) (dc dt_MK_lift 42 rfl) rfl (by decide) g7 (fun q_ => ?_) (fun q_ => ?_)
            · have h := h.1 q_
              refine r_iload (q := 108) (dc dt_MK_lift 56 rfl) rfl 0 rfl ?_
              refine r_if_ne (q := 111) (t := 114) (dc dt_MK_lift 57 rfl) rfl (by decide) g7 (fun q_ => ?_) (fun q_ => ?_)
              · have h := h.1 q_
                refine r_iload (q := 116) (dc dt_MK_lift 59 rfl) rfl 9 rfl ?_
                refine r_iload (q := 118) (dc dt_MK_lift 60 rfl) rfl 0 rfl ?_
                refine r_iadd (q := 119) (dc dt_MK_lift 61 rfl) rfl ?_
                refine r_sipush (q := 122) (dc dt_MK_lift 62 rfl) rfl (by decide) ?_
                obtain ⟨o8, h⟩ := h
                refine r_mmin (q := 125) lm_MK_32 (by decide) (dc dt_MK_lift 63 rfl) rfl (by simp [catA]; decide) o8 (⟨by decide, by decide⟩ : rng 300) ?_
                refine r_istore (q := 127) (dc dt_MK_lift 64 rfl) rfl (by decide) rfl ?_
                refine r_iinc (q := 130) (k := 11) (dc dt_MK_lift 65 rfl) rfl rfl (by decide) rfl ?_
                refine r_goto (q := 21) (dc dt_MK_lift 66 rfl) (by decide) ?_
                exact r_loc [5, 6, 7, 8, 9, 10, 1, 11, 0] rfl h
              · have h := h.2 q_
                refine r_goto (q := 133) (dc dt_MK_lift 58 rfl) (by decide) ?_
                exact r_loc [3, 4, 5, 6, 7, 9, 10] rfl h
            · have h := h.2 q_
              refine r_aload_n (q := 85) (dc dt_MK_lift 43 rfl) rfl rfl 3 rfl ?_
              refine r_getO (q := 88) (v := 15 + 1) fl_MK_12 (dc dt_MK_lift 44 rfl) rfl rfl rfl ?_
              refine r_iload_n (q := 89) (dc dt_MK_lift 45 rfl) rfl rfl 4 rfl ?_
              refine r_iload_n (q := 90) (dc dt_MK_lift 46 rfl) rfl rfl 4 rfl ?_
              refine r_iload_n (q := 91) (dc dt_MK_lift 47 rfl) rfl rfl 5 rfl ?_
              refine r_iadd (q := 92) (dc dt_MK_lift 48 rfl) rfl ?_
              refine r_iload (q := 94) (dc dt_MK_lift 49 rfl) rfl 1 rfl ?_
              refine r_iload (q := 96) (dc dt_MK_lift 50 rfl) rfl 1 rfl ?_
              refine r_iload (q := 98) (dc dt_MK_lift 51 rfl) rfl 6 rfl ?_
              refine r_iadd (q := 99) (dc dt_MK_lift 52 rfl) rfl ?_
              refine r_iload (q := 101) (dc dt_MK_lift 53 rfl) rfl 7 rfl ?_
              refine r_callVi (q := 104) mk_BX_wayOff lm_MK_28 (RMO.of rfl) rfl (dc dt_MK_lift 54 rfl) rfl rfl [I v1, I (v1 + v2), I (v8 + (if v5 = 0 then -v7 else v7)), I ((v8 + (if v5 = 0 then -v7 else v7)) + v4), I v5] [] rfl rfl (Nat.le_of_ble_eq_true rfl) h (fun r10 u9 g11 h => ?_)
              refine r_istore (q := 106) (dc dt_MK_lift 55 rfl) rfl (by decide) rfl ?_
              refine r_iload (q := 108) (dc dt_MK_lift 56 rfl) rfl 0 rfl ?_
              refine r_if_ne (q := 111) (t := 114) (dc dt_MK_lift 57 rfl) rfl (by decide) g11 (fun q_ => ?_) (fun q_ => ?_)
              · have h := h.1 q_
                refine r_iload (q := 116) (dc dt_MK_lift 59 rfl) rfl 9 rfl ?_
                refine r_iload (q := 118) (dc dt_MK_lift 60 rfl) rfl 0 rfl ?_
                refine r_iadd (q := 119) (dc dt_MK_lift 61 rfl) rfl ?_
                refine r_sipush (q := 122) (dc dt_MK_lift 62 rfl) rfl (by decide) ?_
                obtain ⟨o12, h⟩ := h
                refine r_mmin (q := 125) lm_MK_32 (by decide) (dc dt_MK_lift 63 rfl) rfl (by simp [catA]; decide) o12 (⟨by decide, by decide⟩ : rng 300) ?_
                refine r_istore (q := 127) (dc dt_MK_lift 64 rfl) rfl (by decide) rfl ?_
                refine r_iinc (q := 130) (k := 11) (dc dt_MK_lift 65 rfl) rfl rfl (by decide) rfl ?_
                refine r_goto (q := 21) (dc dt_MK_lift 66 rfl) (by decide) ?_
                exact r_loc [5, 6, 7, 8, 9, 10, 1, 11, 0] rfl h
              · have h := h.2 q_
                refine r_goto (q := 133) (dc dt_MK_lift 58 rfl) (by decide) ?_
                exact r_loc [3, 4, 5, 6, 7, 9, 10] rfl h
          clear h
          refine r_if_eq (q := 42) (t := 47) (dc dt_MK_lift 19 rfl) rfl (by decide) o4 (fun q_ => ?_) (fun q_ => ?_)
          · have q22 := q_
            refine r_iload (q := 49) (dc dt_MK_lift 22 rfl) rfl 6 rfl ?_
            refine r_ineg (q := 50) (dc dt_MK_lift 23 rfl) rfl ?_
            exact (hJ (-v7) ((if_pos (by first | omega | grind)).symm))
          · have q22 := q_
            refine r_iload (q := 44) (dc dt_MK_lift 20 rfl) rfl 6 rfl ?_
            refine r_goto (q := 50) (dc dt_MK_lift 21 rfl) (by decide) ?_
            exact (hJ v7 ((if_neg (by first | omega | grind)).symm))
    ·
      refine r_iload (q := 23) (dc dt_MK_lift 12 rfl) rfl 8 rfl ?_
      refine r_sipush (q := 26) (dc dt_MK_lift 13 rfl) rfl (by decide) ?_
      obtain ⟨o2, h⟩ := h
      refine r_icmp_ge (q := 29) (t := 133) (dc dt_MK_lift 14 rfl) rfl (by decide) o2 (⟨by decide, by decide⟩ : rng 300) (fun q_ => ?_) (fun q_ => ?_)
      · have h := h.1 q_
        exact r_loc [0, 1, 2, 3, 4, 6, 7] rfl h
      · have h := h.2 q_
        refine r_iload (q := 31) (dc dt_MK_lift 15 rfl) rfl 6 rfl ?_
        refine r_sipush (q := 34) (dc dt_MK_lift 16 rfl) rfl (by decide) ?_
        obtain ⟨o3, h⟩ := h
        refine r_icmp_ge (q := 37) (t := 133) (dc dt_MK_lift 17 rfl) rfl (by decide) o3 (⟨by decide, by decide⟩ : rng 300) (fun q_ => ?_) (fun q_ => ?_)
        · have h := h.1 q_
          exact r_loc [0, 1, 2, 3, 4, 6, 7] rfl h
        · have h := h.2 q_
          refine r_iload (q := 39) (dc dt_MK_lift 18 rfl) rfl 4 rfl ?_
          obtain ⟨o4, h⟩ := h
          have hJ : ∀ (w_0 : Int), w_0 = (if v5 = 0 then -v7 else v7) → A G m_MK_lift 50 [(0, O 15), (1, I v1), (2, I v2), (4, I v4), (5, I v5), (6, O 16), (7, I v7), (8, I v8), (9, I v9)] [I w_0] σ P := by
            intro w_0 z_0
            subst z_0
            refine r_istore (q := 52) (dc dt_MK_lift 24 rfl) rfl (by decide) rfl ?_
            refine r_iload (q := 54) (dc dt_MK_lift 25 rfl) rfl 8 rfl ?_
            refine r_iload (q := 56) (dc dt_MK_lift 26 rfl) rfl 0 rfl ?_
            refine r_iadd (q := 57) (dc dt_MK_lift 27 rfl) rfl ?_
            refine r_istore (q := 59) (dc dt_MK_lift 28 rfl) rfl (by decide) rfl ?_
            refine r_aload (q := 61) (dc dt_MK_lift 29 rfl) rfl 7 rfl ?_
            refine r_iload_n (q := 62) (dc dt_MK_lift 30 rfl) rfl rfl 3 rfl ?_
            refine r_iload_n (q := 63) (dc dt_MK_lift 31 rfl) rfl rfl 3 rfl ?_
            refine r_iload_n (q := 64) (dc dt_MK_lift 32 rfl) rfl rfl 4 rfl ?_
            refine r_iadd (q := 65) (dc dt_MK_lift 33 rfl) rfl ?_
            refine r_iload (q := 67) (dc dt_MK_lift 34 rfl) rfl 0 rfl ?_
            refine r_iload (q := 69) (dc dt_MK_lift 35 rfl) rfl 0 rfl ?_
            refine r_iload (q := 71) (dc dt_MK_lift 36 rfl) rfl 5 rfl ?_
            refine r_iadd (q := 72) (dc dt_MK_lift 37 rfl) rfl ?_
            refine r_iload (q := 74) (dc dt_MK_lift 38 rfl) rfl 6 rfl ?_
            refine r_callVi (q := 77) mk_BX_wayOff lm_MK_28 (RMO.of rfl) rfl (dc dt_MK_lift 39 rfl) rfl rfl [I v1, I (v1 + v2), I (v8 + (if v5 = 0 then -v7 else v7)), I ((v8 + (if v5 = 0 then -v7 else v7)) + v4), I v5] [] rfl rfl (Nat.le_of_ble_eq_true rfl) h (fun r6 u5 g7 h => ?_)
            refine r_istore (q := 79) (dc dt_MK_lift 40 rfl) rfl (by decide) rfl ?_
            refine r_iload (q := 81) (dc dt_MK_lift 41 rfl) rfl 0 rfl ?_
            refine r_if_ne (q := 84) (t := 106) (dc dt_MK_lift 42 rfl) rfl (by decide) g7 (fun q_ => ?_) (fun q_ => ?_)
            · have h := h.1 q_
              refine r_iload (q := 108) (dc dt_MK_lift 56 rfl) rfl 0 rfl ?_
              refine r_if_ne (q := 111) (t := 114) (dc dt_MK_lift 57 rfl) rfl (by decide) g7 (fun q_ => ?_) (fun q_ => ?_)
              · have h := h.1 q_
                refine r_iload (q := 116) (dc dt_MK_lift 59 rfl) rfl 9 rfl ?_
                refine r_iload (q := 118) (dc dt_MK_lift 60 rfl) rfl 0 rfl ?_
                refine r_iadd (q := 119) (dc dt_MK_lift 61 rfl) rfl ?_
                refine r_sipush (q := 122) (dc dt_MK_lift 62 rfl) rfl (by decide) ?_
                obtain ⟨o8, h⟩ := h
                refine r_mmin (q := 125) lm_MK_32 (by decide) (dc dt_MK_lift 63 rfl) rfl (by simp [catA]; decide) o8 (⟨by decide, by decide⟩ : rng 300) ?_
                refine r_istore (q := 127) (dc dt_MK_lift 64 rfl) rfl (by decide) rfl ?_
                refine r_iinc (q := 130) (k := 11) (dc dt_MK_lift 65 rfl) rfl rfl (by decide) rfl ?_
                refine r_goto (q := 21) (dc dt_MK_lift 66 rfl) (by decide) ?_
                exact r_loc [5, 6, 7, 8, 9, 10, 1, 11, 0] rfl h
              · have h := h.2 q_
                refine r_goto (q := 133) (dc dt_MK_lift 58 rfl) (by decide) ?_
                exact r_loc [3, 4, 5, 6, 7, 9, 10] rfl h
            · have h := h.2 q_
              refine r_aload_n (q := 85) (dc dt_MK_lift 43 rfl) rfl rfl 3 rfl ?_
              refine r_getO (q := 88) (v := 15 + 1) fl_MK_12 (dc dt_MK_lift 44 rfl) rfl rfl rfl ?_
              refine r_iload_n (q := 89) (dc dt_MK_lift 45 rfl) rfl rfl 4 rfl ?_
              refine r_iload_n (q := 90) (dc dt_MK_lift 46 rfl) rfl rfl 4 rfl ?_
              refine r_iload_n (q := 91) (dc dt_MK_lift 47 rfl) rfl rfl 5 rfl ?_
              refine r_iadd (q := 92) (dc dt_MK_lift 48 rfl) rfl ?_
              refine r_iload (q := 94) (dc dt_MK_lift 49 rfl) rfl 1 rfl ?_
              refine r_iload (q := 96) (dc dt_MK_lift 50 rfl) rfl 1 rfl ?_
              refine r_iload (q := 98) (dc dt_MK_lift 51 rfl) rfl 6 rfl ?_
              refine r_iadd (q := 99) (dc dt_MK_lift 52 rfl) rfl ?_
              refine r_iload (q := 101) (dc dt_MK_lift 53 rfl) rfl 7 rfl ?_
              refine r_callVi (q := 104) mk_BX_wayOff lm_MK_28 (RMO.of rfl) rfl (dc dt_MK_lift 54 rfl) rfl rfl [I v1, I (v1 + v2), I (v8 + (if v5 = 0 then -v7 else v7)), I ((v8 + (if v5 = 0 then -v7 else v7)) + v4), I v5] [] rfl rfl (Nat.le_of_ble_eq_true rfl) h (fun r10 u9 g11 h => ?_)
              refine r_istore (q := 106) (dc dt_MK_lift 55 rfl) rfl (by decide) rfl ?_
              refine r_iload (q := 108) (dc dt_MK_lift 56 rfl) rfl 0 rfl ?_
              refine r_if_ne (q := 111) (t := 114) (dc dt_MK_lift 57 rfl) rfl (by decide) g11 (fun q_ => ?_) (fun q_ => ?_)
              · have h := h.1 q_
                refine r_iload (q := 116) (dc dt_MK_lift 59 rfl) rfl 9 rfl ?_
                refine r_iload (q := 118) (dc dt_MK_lift 60 rfl) rfl 0 rfl ?_
                refine r_iadd (q := 119) (dc dt_MK_lift 61 rfl) rfl ?_
                refine r_sipush (q := 122) (dc dt_MK_lift 62 rfl) rfl (by decide) ?_
                obtain ⟨o12, h⟩ := h
                refine r_mmin (q := 125) lm_MK_32 (by decide) (dc dt_MK_lift 63 rfl) rfl (by simp [catA]; decide) o12 (⟨by decide, by decide⟩ : rng 300) ?_
                refine r_istore (q := 127) (dc dt_MK_lift 64 rfl) rfl (by decide) rfl ?_
                refine r_iinc (q := 130) (k := 11) (dc dt_MK_lift 65 rfl) rfl rfl (by decide) rfl ?_
                refine r_goto (q := 21) (dc dt_MK_lift 66 rfl) (by decide) ?_
                exact r_loc [5, 6, 7, 8, 9, 10, 1, 11, 0] rfl h
              · have h := h.2 q_
                refine r_goto (q := 133) (dc dt_MK_lift 58 rfl) (by decide) ?_
                exact r_loc [3, 4, 5, 6, 7, 9, 10] rfl h
          clear h
          refine r_if_eq (q := 42) (t := 47) (dc dt_MK_lift 19 rfl) rfl (by decide) o4 (fun q_ => ?_) (fun q_ => ?_)
          · have q22 := q_
            refine r_iload (q := 49) (dc dt_MK_lift 22 rfl) rfl 6 rfl ?_
            refine r_ineg (q := 50) (dc dt_MK_lift 23 rfl) rfl ?_
            exact (hJ (-v7) ((if_pos (by first | omega | grind)).symm))
          · have q22 := q_
            refine r_iload (q := 44) (dc dt_MK_lift 20 rfl) rfl 6 rfl ?_
            refine r_goto (q := 50) (dc dt_MK_lift 21 rfl) (by decide) ?_
            exact (hJ v7 ((if_neg (by first | omega | grind)).symm))
    ·
      refine r_iload (q := 23) (dc dt_MK_lift 12 rfl) rfl 8 rfl ?_
      refine r_sipush (q := 26) (dc dt_MK_lift 13 rfl) rfl (by decide) ?_
      obtain ⟨o2, h⟩ := h
      refine r_icmp_ge (q := 29) (t := 133) (dc dt_MK_lift 14 rfl) rfl (by decide) o2 (⟨by decide, by decide⟩ : rng 300) (fun q_ => ?_) (fun q_ => ?_)
      · have h := h.1 q_
        exact r_loc [0, 1, 2, 3, 4, 6, 7] rfl h
      · have h := h.2 q_
        refine r_iload (q := 31) (dc dt_MK_lift 15 rfl) rfl 6 rfl ?_
        refine r_sipush (q := 34) (dc dt_MK_lift 16 rfl) rfl (by decide) ?_
        obtain ⟨o3, h⟩ := h
        refine r_icmp_ge (q := 37) (t := 133) (dc dt_MK_lift 17 rfl) rfl (by decide) o3 (⟨by decide, by decide⟩ : rng 300) (fun q_ => ?_) (fun q_ => ?_)
        · have h := h.1 q_
          exact r_loc [0, 1, 2, 3, 4, 6, 7] rfl h
        · have h := h.2 q_
          refine r_iload (q := 39) (dc dt_MK_lift 18 rfl) rfl 4 rfl ?_
          obtain ⟨o4, h⟩ := h
          have hJ : ∀ (w_0 : Int), w_0 = (if v5 = 0 then -v7 else v7) → A G m_MK_lift 50 [(0, O 15), (1, I v1), (2, I v2), (4, I v4), (5, I v5), (6, O 29), (7, I v7), (8, I v8), (9, I v9)] [I w_0] σ P := by
            intro w_0 z_0
            subst z_0
            refine r_istore (q := 52) (dc dt_MK_lift 24 rfl) rfl (by decide) rfl ?_
            refine r_iload (q := 54) (dc dt_MK_lift 25 rfl) rfl 8 rfl ?_
            refine r_iload (q := 56) (dc dt_MK_lift 26 rfl) rfl 0 rfl ?_
            refine r_iadd (q := 57) (dc dt_MK_lift 27 rfl) rfl ?_
            refine r_istore (q := 59) (dc dt_MK_lift 28 rfl) rfl (by decide) rfl ?_
            refine r_aload (q := 61) (dc dt_MK_lift 29 rfl) rfl 7 rfl ?_
            refine r_iload_n (q := 62) (dc dt_MK_lift 30 rfl) rfl rfl 3 rfl ?_
            refine r_iload_n (q := 63) (dc dt_MK_lift 31 rfl) rfl rfl 3 rfl ?_
            refine r_iload_n (q := 64) (dc dt_MK_lift 32 rfl) rfl rfl 4 rfl ?_
            refine r_iadd (q := 65) (dc dt_MK_lift 33 rfl) rfl ?_
            refine r_iload (q := 67) (dc dt_MK_lift 34 rfl) rfl 0 rfl ?_
            refine r_iload (q := 69) (dc dt_MK_lift 35 rfl) rfl 0 rfl ?_
            refine r_iload (q := 71) (dc dt_MK_lift 36 rfl) rfl 5 rfl ?_
            refine r_iadd (q := 72) (dc dt_MK_lift 37 rfl) rfl ?_
            refine r_iload (q := 74) (dc dt_MK_lift 38 rfl) rfl 6 rfl ?_
            refine r_callVi (q := 77) mk_BX_wayOff lm_MK_28 (RMO.of rfl) rfl (dc dt_MK_lift 39 rfl) rfl rfl [I v1, I (v1 + v2), I (v8 + (if v5 = 0 then -v7 else v7)), I ((v8 + (if v5 = 0 then -v7 else v7)) + v4), I v5] [] rfl rfl (Nat.le_of_ble_eq_true rfl) h (fun r6 u5 g7 h => ?_)
            refine r_istore (q := 79) (dc dt_MK_lift 40 rfl) rfl (by decide) rfl ?_
            refine r_iload (q := 81) (dc dt_MK_lift 41 rfl) rfl 0 rfl ?_
            refine r_if_ne (q := 84) (t := 106) (dc dt_MK_lift 42 rfl) rfl (by decide) g7 (fun q_ => ?_) (fun q_ => ?_)
            · have h := h.1 q_
              refine r_iload (q := 108) (dc dt_MK_lift 56 rfl) rfl 0 rfl ?_
              refine r_if_ne (q := 111) (t := 114) (dc dt_MK_lift 57 rfl) rfl (by decide) g7 (fun q_ => ?_) (fun q_ => ?_)
              · have h := h.1 q_
                refine r_iload (q := 116) (dc dt_MK_lift 59 rfl) rfl 9 rfl ?_
                refine r_iload (q := 118) (dc dt_MK_lift 60 rfl) rfl 0 rfl ?_
                refine r_iadd (q := 119) (dc dt_MK_lift 61 rfl) rfl ?_
                refine r_sipush (q := 122) (dc dt_MK_lift 62 rfl) rfl (by decide) ?_
                obtain ⟨o8, h⟩ := h
                refine r_mmin (q := 125) lm_MK_32 (by decide) (dc dt_MK_lift 63 rfl) rfl (by simp [catA]; decide) o8 (⟨by decide, by decide⟩ : rng 300) ?_
                refine r_istore (q := 127) (dc dt_MK_lift 64 rfl) rfl (by decide) rfl ?_
                refine r_iinc (q := 130) (k := 11) (dc dt_MK_lift 65 rfl) rfl rfl (by decide) rfl ?_
                refine r_goto (q := 21) (dc dt_MK_lift 66 rfl) (by decide) ?_
                exact r_loc [5, 6, 7, 8, 9, 10, 1, 11, 0] rfl h
              · have h := h.2 q_
                refine r_goto (q := 133) (dc dt_MK_lift 58 rfl) (by decide) ?_
                exact r_loc [3, 4, 5, 6, 7, 9, 10] rfl h
            · have h := h.2 q_
              refine r_aload_n (q := 85) (dc dt_MK_lift 43 rfl) rfl rfl 3 rfl ?_
              refine r_getO (q := 88) (v := 15 + 1) fl_MK_12 (dc dt_MK_lift 44 rfl) rfl rfl rfl ?_
              refine r_iload_n (q := 89) (dc dt_MK_lift 45 rfl) rfl rfl 4 rfl ?_
              refine r_iload_n (q := 90) (dc dt_MK_lift 46 rfl) rfl rfl 4 rfl ?_
              refine r_iload_n (q := 91) (dc dt_MK_lift 47 rfl) rfl rfl 5 rfl ?_
              refine r_iadd (q := 92) (dc dt_MK_lift 48 rfl) rfl ?_
              refine r_iload (q := 94) (dc dt_MK_lift 49 rfl) rfl 1 rfl ?_
              refine r_iload (q := 96) (dc dt_MK_lift 50 rfl) rfl 1 rfl ?_
              refine r_iload (q := 98) (dc dt_MK_lift 51 rfl) rfl 6 rfl ?_
              refine r_iadd (q := 99) (dc dt_MK_lift 52 rfl) rfl ?_
              refine r_iload (q := 101) (dc dt_MK_lift 53 rfl) rfl 7 rfl ?_
              refine r_callVi (q := 104) mk_BX_wayOff lm_MK_28 (RMO.of rfl) rfl (dc dt_MK_lift 54 rfl) rfl rfl [I v1, I (v1 + v2), I (v8 + (if v5 = 0 then -v7 else v7)), I ((v8 + (if v5 = 0 then -v7 else v7)) + v4), I v5] [] rfl rfl (Nat.le_of_ble_eq_true rfl) h (fun r10 u9 g11 h => ?_)
              refine r_istore (q := 106) (dc dt_MK_lift 55 rfl) rfl (by decide) rfl ?_
              refine r_iload (q := 108) (dc dt_MK_lift 56 rfl) rfl 0 rfl ?_
              refine r_if_ne (q := 111) (t := 114) (dc dt_MK_lift 57 rfl) rfl (by decide) g11 (fun q_ => ?_) (fun q_ => ?_)
              · have h := h.1 q_
                refine r_iload (q := 116) (dc dt_MK_lift 59 rfl) rfl 9 rfl ?_
                refine r_iload (q := 118) (dc dt_MK_lift 60 rfl) rfl 0 rfl ?_
                refine r_iadd (q := 119) (dc dt_MK_lift 61 rfl) rfl ?_
                refine r_sipush (q := 122) (dc dt_MK_lift 62 rfl) rfl (by decide) ?_
                obtain ⟨o12, h⟩ := h
                refine r_mmin (q := 125) lm_MK_32 (by decide) (dc dt_MK_lift 63 rfl) rfl (by simp [catA]; decide) o12 (⟨by decide, by decide⟩ : rng 300) ?_
                refine r_istore (q := 127) (dc dt_MK_lift 64 rfl) rfl (by decide) rfl ?_
                refine r_iinc (q := 130) (k := 11) (dc dt_MK_lift 65 rfl) rfl rfl (by decide) rfl ?_
                refine r_goto (q := 21) (dc dt_MK_lift 66 rfl) (by decide) ?_
                exact r_loc [5, 6, 7, 8, 9, 10, 1, 11, 0] rfl h
              · have h := h.2 q_
                refine r_goto (q := 133) (dc dt_MK_lift 58 rfl) (by decide) ?_
                exact r_loc [3, 4, 5, 6, 7, 9, 10] rfl h
          clear h
          refine r_if_eq (q := 42) (t := 47) (dc dt_MK_lift 19 rfl) rfl (by decide) o4 (fun q_ => ?_) (fun q_ => ?_)
          · have q22 := q_
            refine r_iload (q := 49) (dc dt_MK_lift 22 rfl) rfl 6 rfl ?_
            refine r_ineg (q := 50) (dc dt_MK_lift 23 rfl) rfl ?_
            exact (hJ (-v7) ((if_pos (by first | omega | grind)).symm))
          · have q22 := q_
            refine r_iload (q := 44) (dc dt_MK_lift 20 rfl) rfl 6 rfl ?_
            refine r_goto (q := 50) (dc dt_MK_lift 21 rfl) (by decide) ?_
            exact (hJ v7 ((if_neg (by first | omega | grind)).symm))
    ·
      refine r_iload (q := 23) (dc dt_MK_lift 12 rfl) rfl 8 rfl ?_
      refine r_sipush (q := 26) (dc dt_MK_lift 13 rfl) rfl (by decide) ?_
      obtain ⟨o2, h⟩ := h
      refine r_icmp_ge (q := 29) (t := 133) (dc dt_MK_lift 14 rfl) rfl (by decide) o2 (⟨by decide, by decide⟩ : rng 300) (fun q_ => ?_) (fun q_ => ?_)
      · have h := h.1 q_
        exact r_loc [0, 1, 2, 3, 4, 6, 7] rfl h
      · have h := h.2 q_
        refine r_iload (q := 31) (dc dt_MK_lift 15 rfl) rfl 6 rfl ?_
        refine r_sipush (q := 34) (dc dt_MK_lift 16 rfl) rfl (by decide) ?_
        obtain ⟨o3, h⟩ := h
        refine r_icmp_ge (q := 37) (t := 133) (dc dt_MK_lift 17 rfl) rfl (by decide) o3 (⟨by decide, by decide⟩ : rng 300) (fun q_ => ?_) (fun q_ => ?_)
        · have h := h.1 q_
          exact r_loc [0, 1, 2, 3, 4, 6, 7] rfl h
        · have h := h.2 q_
          refine r_iload (q := 39) (dc dt_MK_lift 18 rfl) rfl 4 rfl ?_
          obtain ⟨o4, h⟩ := h
          have hJ : ∀ (w_0 : Int), w_0 = (if v5 = 0 then -v7 else v7) → A G m_MK_lift 50 [(0, O 15), (1, I v1), (2, I v2), (4, I v4), (5, I v5), (6, O 35), (7, I v7), (8, I v8), (9, I v9)] [I w_0] σ P := by
            intro w_0 z_0
            subst z_0
            refine r_istore (q := 52) (dc dt_MK_lift 24 rfl) rfl (by decide) rfl ?_
            refine r_iload (q := 54) (dc dt_MK_lift 25 rfl) rfl 8 rfl ?_
            refine r_iload (q := 56) (dc dt_MK_lift 26 rfl) rfl 0 rfl ?_
            refine r_iadd (q := 57) (dc dt_MK_lift 27 rfl) rfl ?_
            refine r_istore (q := 59) (dc dt_MK_lift 28 rfl) rfl (by decide) rfl ?_
            refine r_aload (q := 61) (dc dt_MK_lift 29 rfl) rfl 7 rfl ?_
            refine r_iload_n (q := 62) (dc dt_MK_lift 30 rfl) rfl rfl 3 rfl ?_
            refine r_iload_n (q := 63) (dc dt_MK_lift 31 rfl) rfl rfl 3 rfl ?_
            refine r_iload_n (q := 64) (dc dt_MK_lift 32 rfl) rfl rfl 4 rfl ?_
            refine r_iadd (q := 65) (dc dt_MK_lift 33 rfl) rfl ?_
            refine r_iload (q := 67) (dc dt_MK_lift 34 rfl) rfl 0 rfl ?_
            refine r_iload (q := 69) (dc dt_MK_lift 35 rfl) rfl 0 rfl ?_
            refine r_iload (q := 71) (dc dt_MK_lift 36 rfl) rfl 5 rfl ?_
            refine r_iadd (q := 72) (dc dt_MK_lift 37 rfl) rfl ?_
            refine r_iload (q := 74) (dc dt_MK_lift 38 rfl) rfl 6 rfl ?_
            refine r_callVi (q := 77) mk_BX_wayOff lm_MK_28 (RMO.of rfl) rfl (dc dt_MK_lift 39 rfl) rfl rfl [I v1, I (v1 + v2), I (v8 + (if v5 = 0 then -v7 else v7)), I ((v8 + (if v5 = 0 then -v7 else v7)) + v4), I v5] [] rfl rfl (Nat.le_of_ble_eq_true rfl) h (fun r6 u5 g7 h => ?_)
            refine r_istore (q := 79) (dc dt_MK_lift 40 rfl) rfl (by decide) rfl ?_
            refine r_iload (q := 81) (dc dt_MK_lift 41 rfl) rfl 0 rfl ?_
            refine r_if_ne (q := 84) (t := 106) (dc dt_MK_lift 42 rfl) rfl (by decide) g7 (fun q_ => ?_) (fun q_ => ?_)
            · have h := h.1 q_
              refine r_iload (q := 108) (dc dt_MK_lift 56 rfl) rfl 0 rfl ?_
              refine r_if_ne (q := 111) (t := 114) (dc dt_MK_lift 57 rfl) rfl (by decide) g7 (fun q_ => ?_) (fun q_ => ?_)
              · have h := h.1 q_
                refine r_iload (q := 116) (dc dt_MK_lift 59 rfl) rfl 9 rfl ?_
                refine r_iload (q := 118) (dc dt_MK_lift 60 rfl) rfl 0 rfl ?_
                refine r_iadd (q := 119) (dc dt_MK_lift 61 rfl) rfl ?_
                refine r_sipush (q := 122) (dc dt_MK_lift 62 rfl) rfl (by decide) ?_
                obtain ⟨o8, h⟩ := h
                refine r_mmin (q := 125) lm_MK_32 (by decide) (dc dt_MK_lift 63 rfl) rfl (by simp [catA]; decide) o8 (⟨by decide, by decide⟩ : rng 300) ?_
                refine r_istore (q := 127) (dc dt_MK_lift 64 rfl) rfl (by decide) rfl ?_
                refine r_iinc (q := 130) (k := 11) (dc dt_MK_lift 65 rfl) rfl rfl (by decide) rfl ?_
                refine r_goto (q := 21) (dc dt_MK_lift 66 rfl) (by decide) ?_
                exact r_loc [5, 6, 7, 8, 9, 10, 1, 11, 0] rfl h
              · have h := h.2 q_
                refine r_goto (q := 133) (dc dt_MK_lift 58 rfl) (by decide) ?_
                exact r_loc [3, 4, 5, 6, 7, 9, 10] rfl h
            · have h := h.2 q_
              refine r_aload_n (q := 85) (dc dt_MK_lift 43 rfl) rfl rfl 3 rfl ?_
              refine r_getO (q := 88) (v := 15 + 1) fl_MK_12 (dc dt_MK_lift 44 rfl) rfl rfl rfl ?_
              refine r_iload_n (q := 89) (dc dt_MK_lift 45 rfl) rfl rfl 4 rfl ?_
              refine r_iload_n (q := 90) (dc dt_MK_lift 46 rfl) rfl rfl 4 rfl ?_
              refine r_iload_n (q := 91) (dc dt_MK_lift 47 rfl) rfl rfl 5 rfl ?_
              refine r_iadd (q := 92) (dc dt_MK_lift 48 rfl) rfl ?_
              refine r_iload (q := 94) (dc dt_MK_lift 49 rfl) rfl 1 rfl ?_
              refine r_iload (q := 96) (dc dt_MK_lift 50 rfl) rfl 1 rfl ?_
              refine r_iload (q := 98) (dc dt_MK_lift 51 rfl) rfl 6 rfl ?_
              refine r_iadd (q := 99) (dc dt_MK_lift 52 rfl) rfl ?_
              refine r_iload (q := 101) (dc dt_MK_lift 53 rfl) rfl 7 rfl ?_
              refine r_callVi (q := 104) mk_BX_wayOff lm_MK_28 (RMO.of rfl) rfl (dc dt_MK_lift 54 rfl) rfl rfl [I v1, I (v1 + v2), I (v8 + (if v5 = 0 then -v7 else v7)), I ((v8 + (if v5 = 0 then -v7 else v7)) + v4), I v5] [] rfl rfl (Nat.le_of_ble_eq_true rfl) h (fun r10 u9 g11 h => ?_)
              refine r_istore (q := 106) (dc dt_MK_lift 55 rfl) rfl (by decide) rfl ?_
              refine r_iload (q := 108) (dc dt_MK_lift 56 rfl) rfl 0 rfl ?_
              refine r_if_ne (q := 111) (t := 114) (dc dt_MK_lift 57 rfl) rfl (by decide) g11 (fun q_ => ?_) (fun q_ => ?_)
              · have h := h.1 q_
                refine r_iload (q := 116) (dc dt_MK_lift 59 rfl) rfl 9 rfl ?_
                refine r_iload (q := 118) (dc dt_MK_lift 60 rfl) rfl 0 rfl ?_
                refine r_iadd (q := 119) (dc dt_MK_lift 61 rfl) rfl ?_
                refine r_sipush (q := 122) (dc dt_MK_lift 62 rfl) rfl (by decide) ?_
                obtain ⟨o12, h⟩ := h
                refine r_mmin (q := 125) lm_MK_32 (by decide) (dc dt_MK_lift 63 rfl) rfl (by simp [catA]; decide) o12 (⟨by decide, by decide⟩ : rng 300) ?_
                refine r_istore (q := 127) (dc dt_MK_lift 64 rfl) rfl (by decide) rfl ?_
                refine r_iinc (q := 130) (k := 11) (dc dt_MK_lift 65 rfl) rfl rfl (by decide) rfl ?_
                refine r_goto (q := 21) (dc dt_MK_lift 66 rfl) (by decide) ?_
                exact r_loc [5, 6, 7, 8, 9, 10, 1, 11, 0] rfl h
              · have h := h.2 q_
                refine r_goto (q := 133) (dc dt_MK_lift 58 rfl) (by decide) ?_
                exact r_loc [3, 4, 5, 6, 7, 9, 10] rfl h
          clear h
          refine r_if_eq (q := 42) (t := 47) (dc dt_MK_lift 19 rfl) rfl (by decide) o4 (fun q_ => ?_) (fun q_ => ?_)
          · have q22 := q_
            refine r_iload (q := 49) (dc dt_MK_lift 22 rfl) rfl 6 rfl ?_
            refine r_ineg (q := 50) (dc dt_MK_lift 23 rfl) rfl ?_
            exact (hJ (-v7) ((if_pos (by first | omega | grind)).symm))
          · have q22 := q_
            refine r_iload (q := 44) (dc dt_MK_lift 20 rfl) rfl 6 rfl ?_
            refine r_goto (q := 50) (dc dt_MK_lift 21 rfl) (by decide) ?_
            exact (hJ v7 ((if_neg (by first | omega | grind)).symm))
  ·
    rcases hq6 with rfl | rfl | rfl | rfl
    ·
      refine r_iload (q := 23) (dc dt_MK_lift 12 rfl) rfl 8 rfl ?_
      refine r_sipush (q := 26) (dc dt_MK_lift 13 rfl) rfl (by decide) ?_
      obtain ⟨o2, h⟩ := h
      refine r_icmp_ge (q := 29) (t := 133) (dc dt_MK_lift 14 rfl) rfl (by decide) o2 (⟨by decide, by decide⟩ : rng 300) (fun q_ => ?_) (fun q_ => ?_)
      · have h := h.1 q_
        exact r_loc [0, 1, 2, 3, 4, 6, 7] rfl h
      · have h := h.2 q_
        refine r_iload (q := 31) (dc dt_MK_lift 15 rfl) rfl 6 rfl ?_
        refine r_sipush (q := 34) (dc dt_MK_lift 16 rfl) rfl (by decide) ?_
        obtain ⟨o3, h⟩ := h
        refine r_icmp_ge (q := 37) (t := 133) (dc dt_MK_lift 17 rfl) rfl (by decide) o3 (⟨by decide, by decide⟩ : rng 300) (fun q_ => ?_) (fun q_ => ?_)
        · have h := h.1 q_
          exact r_loc [0, 1, 2, 3, 4, 6, 7] rfl h
        · have h := h.2 q_
          refine r_iload (q := 39) (dc dt_MK_lift 18 rfl) rfl 4 rfl ?_
          obtain ⟨o4, h⟩ := h
          have hJ : ∀ (w_0 : Int), w_0 = (if v5 = 0 then -v7 else v7) → A G m_MK_lift 50 [(0, O 34), (1, I v1), (2, I v2), (4, I v4), (5, I v5), (6, O 10), (7, I v7), (8, I v8), (9, I v9)] [I w_0] σ P := by
            intro w_0 z_0
            subst z_0
            refine r_istore (q := 52) (dc dt_MK_lift 24 rfl) rfl (by decide) rfl ?_
            refine r_iload (q := 54) (dc dt_MK_lift 25 rfl) rfl 8 rfl ?_
            refine r_iload (q := 56) (dc dt_MK_lift 26 rfl) rfl 0 rfl ?_
            refine r_iadd (q := 57) (dc dt_MK_lift 27 rfl) rfl ?_
            refine r_istore (q := 59) (dc dt_MK_lift 28 rfl) rfl (by decide) rfl ?_
            refine r_aload (q := 61) (dc dt_MK_lift 29 rfl) rfl 7 rfl ?_
            refine r_iload_n (q := 62) (dc dt_MK_lift 30 rfl) rfl rfl 3 rfl ?_
            refine r_iload_n (q := 63) (dc dt_MK_lift 31 rfl) rfl rfl 3 rfl ?_
            refine r_iload_n (q := 64) (dc dt_MK_lift 32 rfl) rfl rfl 4 rfl ?_
            refine r_iadd (q := 65) (dc dt_MK_lift 33 rfl) rfl ?_
            refine r_iload (q := 67) (dc dt_MK_lift 34 rfl) rfl 0 rfl ?_
            refine r_iload (q := 69) (dc dt_MK_lift 35 rfl) rfl 0 rfl ?_
            refine r_iload (q := 71) (dc dt_MK_lift 36 rfl) rfl 5 rfl ?_
            refine r_iadd (q := 72) (dc dt_MK_lift 37 rfl) rfl ?_
            refine r_iload (q := 74) (dc dt_MK_lift 38 rfl) rfl 6 rfl ?_
            refine r_callVi (q := 77) mk_BX_wayOff lm_MK_28 (RMO.of rfl) rfl (dc dt_MK_lift 39 rfl) rfl rfl [I v1, I (v1 + v2), I (v8 + (if v5 = 0 then -v7 else v7)), I ((v8 + (if v5 = 0 then -v7 else v7)) + v4), I v5] [] rfl rfl (Nat.le_of_ble_eq_true rfl) h (fun r6 u5 g7 h => ?_)
            refine r_istore (q := 79) (dc dt_MK_lift 40 rfl) rfl (by decide) rfl ?_
            refine r_iload (q := 81) (dc dt_MK_lift 41 rfl) rfl 0 rfl ?_
            refine r_if_ne (q := 84) (t := 106) (dc dt_MK_lift 42 rfl) rfl (by decide) g7 (fun q_ => ?_) (fun q_ => ?_)
            · have h := h.1 q_
              refine r_iload (q := 108) (dc dt_MK_lift 56 rfl) rfl 0 rfl ?_
              refine r_if_ne (q := 111) (t := 114) (dc dt_MK_lift 57 rfl) rfl (by decide) g7 (fun q_ => ?_) (fun q_ => ?_)
              · have h := h.1 q_
                refine r_iload (q := 116) (dc dt_MK_lift 59 rfl) rfl 9 rfl ?_
                refine r_iload (q := 118) (dc dt_MK_lift 60 rfl) rfl 0 rfl ?_
                refine r_iadd (q := 119) (dc dt_MK_lift 61 rfl) rfl ?_
                refine r_sipush (q := 122) (dc dt_MK_lift 62 rfl) rfl (by decide) ?_
                obtain ⟨o8, h⟩ := h
                refine r_mmin (q := 125) lm_MK_32 (by decide) (dc dt_MK_lift 63 rfl) rfl (by simp [catA]; decide) o8 (⟨by decide, by decide⟩ : rng 300) ?_
                refine r_istore (q := 127) (dc dt_MK_lift 64 rfl) rfl (by decide) rfl ?_
                refine r_iinc (q := 130) (k := 11) (dc dt_MK_lift 65 rfl) rfl rfl (by decide) rfl ?_
                refine r_goto (q := 21) (dc dt_MK_lift 66 rfl) (by decide) ?_
                exact r_loc [5, 6, 7, 8, 9, 10, 1, 11, 0] rfl h
              · have h := h.2 q_
                refine r_goto (q := 133) (dc dt_MK_lift 58 rfl) (by decide) ?_
                exact r_loc [3, 4, 5, 6, 7, 9, 10] rfl h
            · have h := h.2 q_
              refine r_aload_n (q := 85) (dc dt_MK_lift 43 rfl) rfl rfl 3 rfl ?_
              refine r_getO (q := 88) (v := 34 + 1) fl_MK_12 (dc dt_MK_lift 44 rfl) rfl rfl rfl ?_
              refine r_iload_n (q := 89) (dc dt_MK_lift 45 rfl) rfl rfl 4 rfl ?_
              refine r_iload_n (q := 90) (dc dt_MK_lift 46 rfl) rfl rfl 4 rfl ?_
              refine r_iload_n (q := 91) (dc dt_MK_lift 47 rfl) rfl rfl 5 rfl ?_
              refine r_iadd (q := 92) (dc dt_MK_lift 48 rfl) rfl ?_
              refine r_iload (q := 94) (dc dt_MK_lift 49 rfl) rfl 1 rfl ?_
              refine r_iload (q := 96) (dc dt_MK_lift 50 rfl) rfl 1 rfl ?_
              refine r_iload (q := 98) (dc dt_MK_lift 51 rfl) rfl 6 rfl ?_
              refine r_iadd (q := 99) (dc dt_MK_lift 52 rfl) rfl ?_
              refine r_iload (q := 101) (dc dt_MK_lift 53 rfl) rfl 7 rfl ?_
              refine r_callVi (q := 104) mk_BX_wayOff lm_MK_28 (RMO.of rfl) rfl (dc dt_MK_lift 54 rfl) rfl rfl [I v1, I (v1 + v2), I (v8 + (if v5 = 0 then -v7 else v7)), I ((v8 + (if v5 = 0 then -v7 else v7)) + v4), I v5] [] rfl rfl (Nat.le_of_ble_eq_true rfl) h (fun r10 u9 g11 h => ?_)
              refine r_istore (q := 106) (dc dt_MK_lift 55 rfl) rfl (by decide) rfl ?_
              refine r_iload (q := 108) (dc dt_MK_lift 56 rfl) rfl 0 rfl ?_
              refine r_if_ne (q := 111) (t := 114) (dc dt_MK_lift 57 rfl) rfl (by decide) g11 (fun q_ => ?_) (fun q_ => ?_)
              · have h := h.1 q_
                refine r_iload (q := 116) (dc dt_MK_lift 59 rfl) rfl 9 rfl ?_
                refine r_iload (q := 118) (dc dt_MK_lift 60 rfl) rfl 0 rfl ?_
                refine r_iadd (q := 119) (dc dt_MK_lift 61 rfl) rfl ?_
                refine r_sipush (q := 122) (dc dt_MK_lift 62 rfl) rfl (by decide) ?_
                obtain ⟨o12, h⟩ := h
                refine r_mmin (q := 125) lm_MK_32 (by decide) (dc dt_MK_lift 63 rfl) rfl (by simp [catA]; decide) o12 (⟨by decide, by decide⟩ : rng 300) ?_
                refine r_istore (q := 127) (dc dt_MK_lift 64 rfl) rfl (by decide) rfl ?_
                refine r_iinc (q := 130) (k := 11) (dc dt_MK_lift 65 rfl) rfl rfl (by decide) rfl ?_
                refine r_goto (q := 21) (dc dt_MK_lift 66 rfl) (by decide) ?_
                exact r_loc [5, 6, 7, 8, 9, 10, 1, 11, 0] rfl h
              · have h := h.2 q_
                refine r_goto (q := 133) (dc dt_MK_lift 58 rfl) (by decide) ?_
                exact r_loc [3, 4, 5, 6, 7, 9, 10] rfl h
          clear h
          refine r_if_eq (q := 42) (t := 47) (dc dt_MK_lift 19 rfl) rfl (by decide) o4 (fun q_ => ?_) (fun q_ => ?_)
          · have q22 := q_
            refine r_iload (q := 49) (dc dt_MK_lift 22 rfl) rfl 6 rfl ?_
            refine r_ineg (q := 50) (dc dt_MK_lift 23 rfl) rfl ?_
            exact (hJ (-v7) ((if_pos (by first | omega | grind)).symm))
          · have q22 := q_
            refine r_iload (q := 44) (dc dt_MK_lift 20 rfl) rfl 6 rfl ?_
            refine r_goto (q := 50) (dc dt_MK_lift 21 rfl) (by decide) ?_
            exact (hJ v7 ((if_neg (by first | omega | grind)).symm))
    ·
      refine r_iload (q := 23) (dc dt_MK_lift 12 rfl) rfl 8 rfl ?_
      refine r_sipush (q := 26) (dc dt_MK_lift 13 rfl) rfl (by decide) ?_
      obtain ⟨o2, h⟩ := h
      refine r_icmp_ge (q := 29) (t := 133) (dc dt_MK_lift 14 rfl) rfl (by decide) o2 (⟨by decide, by decide⟩ : rng 300) (fun q_ => ?_) (fun q_ => ?_)
      · have h := h.1 q_
        exact r_loc [0, 1, 2, 3, 4, 6, 7] rfl h
      · have h := h.2 q_
        refine r_iload (q := 31) (dc dt_MK_lift 15 rfl) rfl 6 rfl ?_
        refine r_sipush (q := 34) (dc dt_MK_lift 16 rfl) rfl (by decide) ?_
        obtain ⟨o3, h⟩ := h
        refine r_icmp_ge (q := 37) (t := 133) (dc dt_MK_lift 17 rfl) rfl (by decide) o3 (⟨by decide, by decide⟩ : rng 300) (fun q_ => ?_) (fun q_ => ?_)
        · have h := h.1 q_
          exact r_loc [0, 1, 2, 3, 4, 6, 7] rfl h
        · have h := h.2 q_
          refine r_iload (q := 39) (dc dt_MK_lift 18 rfl) rfl 4 rfl ?_
          obtain ⟨o4, h⟩ := h
          have hJ : ∀ (w_0 : Int), w_0 = (if v5 = 0 then -v7 else v7) → A G m_MK_lift 50 [(0, O 34), (1, I v1), (2, I v2), (4, I v4), (5, I v5), (6, O 16), (7, I v7), (8, I v8), (9, I v9)] [I w_0] σ P := by
            intro w_0 z_0
            subst z_0
            refine r_istore (q := 52) (dc dt_MK_lift 24 rfl) rfl (by decide) rfl ?_
            refine r_iload (q := 54) (dc dt_MK_lift 25 rfl) rfl 8 rfl ?_
            refine r_iload (q := 56) (dc dt_MK_lift 26 rfl) rfl 0 rfl ?_
            refine r_iadd (q := 57) (dc dt_MK_lift 27 rfl) rfl ?_
            refine r_istore (q := 59) (dc dt_MK_lift 28 rfl) rfl (by decide) rfl ?_
            refine r_aload (q := 61) (dc dt_MK_lift 29 rfl) rfl 7 rfl ?_
            refine r_iload_n (q := 62) (dc dt_MK_lift 30 rfl) rfl rfl 3 rfl ?_
            refine r_iload_n (q := 63) (dc dt_MK_lift 31 rfl) rfl rfl 3 rfl ?_
            refine r_iload_n (q := 64) (dc dt_MK_lift 32 rfl) rfl rfl 4 rfl ?_
            refine r_iadd (q := 65) (dc dt_MK_lift 33 rfl) rfl ?_
            refine r_iload (q := 67) (dc dt_MK_lift 34 rfl) rfl 0 rfl ?_
            refine r_iload (q := 69) (dc dt_MK_lift 35 rfl) rfl 0 rfl ?_
            refine r_iload (q := 71) (dc dt_MK_lift 36 rfl) rfl 5 rfl ?_
            refine r_iadd (q := 72) (dc dt_MK_lift 37 rfl) rfl ?_
            refine r_iload (q := 74) (dc dt_MK_lift 38 rfl) rfl 6 rfl ?_
            refine r_callVi (q := 77) mk_BX_wayOff lm_MK_28 (RMO.of rfl) rfl (dc dt_MK_lift 39 rfl) rfl rfl [I v1, I (v1 + v2), I (v8 + (if v5 = 0 then -v7 else v7)), I ((v8 + (if v5 = 0 then -v7 else v7)) + v4), I v5] [] rfl rfl (Nat.le_of_ble_eq_true rfl) h (fun r6 u5 g7 h => ?_)
            refine r_istore (q := 79) (dc dt_MK_lift 40 rfl) rfl (by decide) rfl ?_
            refine r_iload (q := 81) (dc dt_MK_lift 41 rfl) rfl 0 rfl ?_
            refine r_if_ne (q := 84) (t := 106) (dc dt_MK_lift 42 rfl) rfl (by decide) g7 (fun q_ => ?_) (fun q_ => ?_)
            · have h := h.1 q_
              refine r_iload (q := 108) (dc dt_MK_lift 56 rfl) rfl 0 rfl ?_
              refine r_if_ne (q := 111) (t := 114) (dc dt_MK_lift 57 rfl) rfl (by decide) g7 (fun q_ => ?_) (fun q_ => ?_)
              · have h := h.1 q_
                refine r_iload (q := 116) (dc dt_MK_lift 59 rfl) rfl 9 rfl ?_
                refine r_iload (q := 118) (dc dt_MK_lift 60 rfl) rfl 0 rfl ?_
                refine r_iadd (q := 119) (dc dt_MK_lift 61 rfl) rfl ?_
                refine r_sipush (q := 122) (dc dt_MK_lift 62 rfl) rfl (by decide) ?_
                obtain ⟨o8, h⟩ := h
                refine r_mmin (q := 125) lm_MK_32 (by decide) (dc dt_MK_lift 63 rfl) rfl (by simp [catA]; decide) o8 (⟨by decide, by decide⟩ : rng 300) ?_
                refine r_istore (q := 127) (dc dt_MK_lift 64 rfl) rfl (by decide) rfl ?_
                refine r_iinc (q := 130) (k := 11) (dc dt_MK_lift 65 rfl) rfl rfl (by decide) rfl ?_
                refine r_goto (q := 21) (dc dt_MK_lift 66 rfl) (by decide) ?_
                exact r_loc [5, 6, 7, 8, 9, 10, 1, 11, 0] rfl h
              · have h := h.2 q_
                refine r_goto (q := 133) (dc dt_MK_lift 58 rfl) (by decide) ?_
                exact r_loc [3, 4, 5, 6, 7, 9, 10] rfl h
            · have h := h.2 q_
              refine r_aload_n (q := 85) (dc dt_MK_lift 43 rfl) rfl rfl 3 rfl ?_
              refine r_getO (q := 88) (v := 34 + 1) fl_MK_12 (dc dt_MK_lift 44 rfl) rfl rfl rfl ?_
              refine r_iload_n (q := 89) (dc dt_MK_lift 45 rfl) rfl rfl 4 rfl ?_
              refine r_iload_n (q := 90) (dc dt_MK_lift 46 rfl) rfl rfl 4 rfl ?_
              refine r_iload_n (q := 91) (dc dt_MK_lift 47 rfl) rfl rfl 5 rfl ?_
              refine r_iadd (q := 92) (dc dt_MK_lift 48 rfl) rfl ?_
              refine r_iload (q := 94) (dc dt_MK_lift 49 rfl) rfl 1 rfl ?_
              refine r_iload (q := 96) (dc dt_MK_lift 50 rfl) rfl 1 rfl ?_
              refine r_iload (q := 98) (dc dt_MK_lift 51 rfl) rfl 6 rfl ?_
              refine r_iadd (q := 99) (dc dt_MK_lift 52 rfl) rfl ?_
              refine r_iload (q := 101) (dc dt_MK_lift 53 rfl) rfl 7 rfl ?_
              refine r_callVi (q := 104) mk_BX_wayOff lm_MK_28 (RMO.of rfl) rfl (dc dt_MK_lift 54 rfl) rfl rfl [I v1, I (v1 + v2), I (v8 + (if v5 = 0 then -v7 else v7)), I ((v8 + (if v5 = 0 then -v7 else v7)) + v4), I v5] [] rfl rfl (Nat.le_of_ble_eq_true rfl) h (fun r10 u9 g11 h => ?_)
              refine r_istore (q := 106) (dc dt_MK_lift 55 rfl) rfl (by decide) rfl ?_
              refine r_iload (q := 108) (dc dt_MK_lift 56 rfl) rfl 0 rfl ?_
              refine r_if_ne (q := 111) (t := 114) (dc dt_MK_lift 57 rfl) rfl (by decide) g11 (fun q_ => ?_) (fun q_ => ?_)
              · have h := h.1 q_
                refine r_iload (q := 116) (dc dt_MK_lift 59 rfl) rfl 9 rfl ?_
                refine r_iload (q := 118) (dc dt_MK_lift 60 rfl) rfl 0 rfl ?_
                refine r_iadd (q := 119) (dc dt_MK_lift 61 rfl) rfl ?_
                refine r_sipush (q := 122) (dc dt_MK_lift 62 rfl) rfl (by decide) ?_
                obtain ⟨o12, h⟩ := h
                refine r_mmin (q := 125) lm_MK_32 (by decide) (dc dt_MK_lift 63 rfl) rfl (by simp [catA]; decide) o12 (⟨by decide, by decide⟩ : rng 300) ?_
                refine r_istore (q := 127) (dc dt_MK_lift 64 rfl) rfl (by decide) rfl ?_
                refine r_iinc (q := 130) (k := 11) (dc dt_MK_lift 65 rfl) rfl rfl (by decide) rfl ?_
                refine r_goto (q := 21) (dc dt_MK_lift 66 rfl) (by decide) ?_
                exact r_loc [5, 6, 7, 8, 9, 10, 1, 11, 0] rfl h
              · have h := h.2 q_
                refine r_goto (q := 133) (dc dt_MK_lift 58 rfl) (by decide) ?_
                exact r_loc [3, 4, 5, 6, 7, 9, 10] rfl h
          clear h
          refine r_if_eq (q := 42) (t := 47) (dc dt_MK_lift 19 rfl) rfl (by decide) o4 (fun q_ => ?_) (fun q_ => ?_)
          · have q22 := q_
            refine r_iload (q := 49) (dc dt_MK_lift 22 rfl) rfl 6 rfl ?_
            refine r_ineg (q := 50) (dc dt_MK_lift 23 rfl) rfl ?_
            exact (hJ (-v7) ((if_pos (by first | omega | grind)).symm))
          · have q22 := q_
            refine r_iload (q := 44) (dc dt_MK_lift 20 rfl) rfl 6 rfl ?_
            refine r_goto (q := 50) (dc dt_MK_lift 21 rfl) (by decide) ?_
            exact (hJ v7 ((if_neg (by first | omega | grind)).symm))
    ·
      refine r_iload (q := 23) (dc dt_MK_lift 12 rfl) rfl 8 rfl ?_
      refine r_sipush (q := 26) (dc dt_MK_lift 13 rfl) rfl (by decide) ?_
      obtain ⟨o2, h⟩ := h
      refine r_icmp_ge (q := 29) (t := 133) (dc dt_MK_lift 14 rfl) rfl (by decide) o2 (⟨by decide, by decide⟩ : rng 300) (fun q_ => ?_) (fun q_ => ?_)
      · have h := h.1 q_
        exact r_loc [0, 1, 2, 3, 4, 6, 7] rfl h
      · have h := h.2 q_
        refine r_iload (q := 31) (dc dt_MK_lift 15 rfl) rfl 6 rfl ?_
        refine r_sipush (q := 34) (dc dt_MK_lift 16 rfl) rfl (by decide) ?_
        obtain ⟨o3, h⟩ := h
        refine r_icmp_ge (q := 37) (t := 133) (dc dt_MK_lift 17 rfl) rfl (by decide) o3 (⟨by decide, by decide⟩ : rng 300) (fun q_ => ?_) (fun q_ => ?_)
        · have h := h.1 q_
          exact r_loc [0, 1, 2, 3, 4, 6, 7] rfl h
        · have h := h.2 q_
          refine r_iload (q := 39) (dc dt_MK_lift 18 rfl) rfl 4 rfl ?_
          obtain ⟨o4, h⟩ := h
          have hJ : ∀ (w_0 : Int), w_0 = (if v5 = 0 then -v7 else v7) → A G m_MK_lift 50 [(0, O 34), (1, I v1), (2, I v2), (4, I v4), (5, I v5), (6, O 29), (7, I v7), (8, I v8), (9, I v9)] [I w_0] σ P := by
            intro w_0 z_0
            subst z_0
            refine r_istore (q := 52) (dc dt_MK_lift 24 rfl) rfl (by decide) rfl ?_
            refine r_iload (q := 54) (dc dt_MK_lift 25 rfl) rfl 8 rfl ?_
            refine r_iload (q := 56) (dc dt_MK_lift 26 rfl) rfl 0 rfl ?_
            refine r_iadd (q := 57) (dc dt_MK_lift 27 rfl) rfl ?_
            refine r_istore (q := 59) (dc dt_MK_lift 28 rfl) rfl (by decide) rfl ?_
            refine r_aload (q := 61) (dc dt_MK_lift 29 rfl) rfl 7 rfl ?_
            refine r_iload_n (q := 62) (dc dt_MK_lift 30 rfl) rfl rfl 3 rfl ?_
            refine r_iload_n (q := 63) (dc dt_MK_lift 31 rfl) rfl rfl 3 rfl ?_
            refine r_iload_n (q := 64) (dc dt_MK_lift 32 rfl) rfl rfl 4 rfl ?_
            refine r_iadd (q := 65) (dc dt_MK_lift 33 rfl) rfl ?_
            refine r_iload (q := 67) (dc dt_MK_lift 34 rfl) rfl 0 rfl ?_
            refine r_iload (q := 69) (dc dt_MK_lift 35 rfl) rfl 0 rfl ?_
            refine r_iload (q := 71) (dc dt_MK_lift 36 rfl) rfl 5 rfl ?_
            refine r_iadd (q := 72) (dc dt_MK_lift 37 rfl) rfl ?_
            refine r_iload (q := 74) (dc dt_MK_lift 38 rfl) rfl 6 rfl ?_
            refine r_callVi (q := 77) mk_BX_wayOff lm_MK_28 (RMO.of rfl) rfl (dc dt_MK_lift 39 rfl) rfl rfl [I v1, I (v1 + v2), I (v8 + (if v5 = 0 then -v7 else v7)), I ((v8 + (if v5 = 0 then -v7 else v7)) + v4), I v5] [] rfl rfl (Nat.le_of_ble_eq_true rfl) h (fun r6 u5 g7 h => ?_)
            refine r_istore (q := 79) (dc dt_MK_lift 40 rfl) rfl (by decide) rfl ?_
            refine r_iload (q := 81) (dc dt_MK_lift 41 rfl) rfl 0 rfl ?_
            refine r_if_ne (q := 84) (t := 106) (dc dt_MK_lift 42 rfl) rfl (by decide) g7 (fun q_ => ?_) (fun q_ => ?_)
            · have h := h.1 q_
              refine r_iload (q := 108) (dc dt_MK_lift 56 rfl) rfl 0 rfl ?_
              refine r_if_ne (q := 111) (t := 114) (dc dt_MK_lift 57 rfl) rfl (by decide) g7 (fun q_ => ?_) (fun q_ => ?_)
              · have h := h.1 q_
                refine r_iload (q := 116) (dc dt_MK_lift 59 rfl) rfl 9 rfl ?_
                refine r_iload (q := 118) (dc dt_MK_lift 60 rfl) rfl 0 rfl ?_
                refine r_iadd (q := 119) (dc dt_MK_lift 61 rfl) rfl ?_
                refine r_sipush (q := 122) (dc dt_MK_lift 62 rfl) rfl (by decide) ?_
                obtain ⟨o8, h⟩ := h
                refine r_mmin (q := 125) lm_MK_32 (by decide) (dc dt_MK_lift 63 rfl) rfl (by simp [catA]; decide) o8 (⟨by decide, by decide⟩ : rng 300) ?_
                refine r_istore (q := 127) (dc dt_MK_lift 64 rfl) rfl (by decide) rfl ?_
                refine r_iinc (q := 130) (k := 11) (dc dt_MK_lift 65 rfl) rfl rfl (by decide) rfl ?_
                refine r_goto (q := 21) (dc dt_MK_lift 66 rfl) (by decide) ?_
                exact r_loc [5, 6, 7, 8, 9, 10, 1, 11, 0] rfl h
              · have h := h.2 q_
                refine r_goto (q := 133) (dc dt_MK_lift 58 rfl) (by decide) ?_
                exact r_loc [3, 4, 5, 6, 7, 9, 10] rfl h
            · have h := h.2 q_
              refine r_aload_n (q := 85) (dc dt_MK_lift 43 rfl) rfl rfl 3 rfl ?_
              refine r_getO (q := 88) (v := 34 + 1) fl_MK_12 (dc dt_MK_lift 44 rfl) rfl rfl rfl ?_
              refine r_iload_n (q := 89) (dc dt_MK_lift 45 rfl) rfl rfl 4 rfl ?_
              refine r_iload_n (q := 90) (dc dt_MK_lift 46 rfl) rfl rfl 4 rfl ?_
              refine r_iload_n (q := 91) (dc dt_MK_lift 47 rfl) rfl rfl 5 rfl ?_
              refine r_iadd (q := 92) (dc dt_MK_lift 48 rfl) rfl ?_
              refine r_iload (q := 94) (dc dt_MK_lift 49 rfl) rfl 1 rfl ?_
              refine r_iload (q := 96) (dc dt_MK_lift 50 rfl) rfl 1 rfl ?_
              refine r_iload (q := 98) (dc dt_MK_lift 51 rfl) rfl 6 rfl ?_
              refine r_iadd (q := 99) (dc dt_MK_lift 52 rfl) rfl ?_
              refine r_iload (q := 101) (dc dt_MK_lift 53 rfl) rfl 7 rfl ?_
              refine r_callVi (q := 104) mk_BX_wayOff lm_MK_28 (RMO.of rfl) rfl (dc dt_MK_lift 54 rfl) rfl rfl [I v1, I (v1 + v2), I (v8 + (if v5 = 0 then -v7 else v7)), I ((v8 + (if v5 = 0 then -v7 else v7)) + v4), I v5] [] rfl rfl (Nat.le_of_ble_eq_true rfl) h (fun r10 u9 g11 h => ?_)
              refine r_istore (q := 106) (dc dt_MK_lift 55 rfl) rfl (by decide) rfl ?_
              refine r_iload (q := 108) (dc dt_MK_lift 56 rfl) rfl 0 rfl ?_
              refine r_if_ne (q := 111) (t := 114) (dc dt_MK_lift 57 rfl) rfl (by decide) g11 (fun q_ => ?_) (fun q_ => ?_)
              · have h := h.1 q_
                refine r_iload (q := 116) (dc dt_MK_lift 59 rfl) rfl 9 rfl ?_
                refine r_iload (q := 118) (dc dt_MK_lift 60 rfl) rfl 0 rfl ?_
                refine r_iadd (q := 119) (dc dt_MK_lift 61 rfl) rfl ?_
                refine r_sipush (q := 122) (dc dt_MK_lift 62 rfl) rfl (by decide) ?_
                obtain ⟨o12, h⟩ := h
                refine r_mmin (q := 125) lm_MK_32 (by decide) (dc dt_MK_lift 63 rfl) rfl (by simp [catA]; decide) o12 (⟨by decide, by decide⟩ : rng 300) ?_
                refine r_istore (q := 127) (dc dt_MK_lift 64 rfl) rfl (by decide) rfl ?_
                refine r_iinc (q := 130) (k := 11) (dc dt_MK_lift 65 rfl) rfl rfl (by decide) rfl ?_
                refine r_goto (q := 21) (dc dt_MK_lift 66 rfl) (by decide) ?_
                exact r_loc [5, 6, 7, 8, 9, 10, 1, 11, 0] rfl h
              · have h := h.2 q_
                refine r_goto (q := 133) (dc dt_MK_lift 58 rfl) (by decide) ?_
                exact r_loc [3, 4, 5, 6, 7, 9, 10] rfl h
          clear h
          refine r_if_eq (q := 42) (t := 47) (dc dt_MK_lift 19 rfl) rfl (by decide) o4 (fun q_ => ?_) (fun q_ => ?_)
          · have q22 := q_
            refine r_iload (q := 49) (dc dt_MK_lift 22 rfl) rfl 6 rfl ?_
            refine r_ineg (q := 50) (dc dt_MK_lift 23 rfl) rfl ?_
            exact (hJ (-v7) ((if_pos (by first | omega | grind)).symm))
          · have q22 := q_
            refine r_iload (q := 44) (dc dt_MK_lift 20 rfl) rfl 6 rfl ?_
            refine r_goto (q := 50) (dc dt_MK_lift 21 rfl) (by decide) ?_
            exact (hJ v7 ((if_neg (by first | omega | grind)).symm))
    ·
      refine r_iload (q := 23) (dc dt_MK_lift 12 rfl) rfl 8 rfl ?_
      refine r_sipush (q := 26) (dc dt_MK_lift 13 rfl) rfl (by decide) ?_
      obtain ⟨o2, h⟩ := h
      refine r_icmp_ge (q := 29) (t := 133) (dc dt_MK_lift 14 rfl) rfl (by decide) o2 (⟨by decide, by decide⟩ : rng 300) (fun q_ => ?_) (fun q_ => ?_)
      · have h := h.1 q_
        exact r_loc [0, 1, 2, 3, 4, 6, 7] rfl h
      · have h := h.2 q_
        refine r_iload (q := 31) (dc dt_MK_lift 15 rfl) rfl 6 rfl ?_
        refine r_sipush (q := 34) (dc dt_MK_lift 16 rfl) rfl (by decide) ?_
        obtain ⟨o3, h⟩ := h
        refine r_icmp_ge (q := 37) (t := 133) (dc dt_MK_lift 17 rfl) rfl (by decide) o3 (⟨by decide, by decide⟩ : rng 300) (fun q_ => ?_) (fun q_ => ?_)
        · have h := h.1 q_
          exact r_loc [0, 1, 2, 3, 4, 6, 7] rfl h
        · have h := h.2 q_
          refine r_iload (q := 39) (dc dt_MK_lift 18 rfl) rfl 4 rfl ?_
          obtain ⟨o4, h⟩ := h
          have hJ : ∀ (w_0 : Int), w_0 = (if v5 = 0 then -v7 else v7) → A G m_MK_lift 50 [(0, O 34), (1, I v1), (2, I v2), (4, I v4), (5, I v5), (6, O 35), (7, I v7), (8, I v8), (9, I v9)] [I w_0] σ P := by
            intro w_0 z_0
            subst z_0
            refine r_istore (q := 52) (dc dt_MK_lift 24 rfl) rfl (by decide) rfl ?_
            refine r_iload (q := 54) (dc dt_MK_lift 25 rfl) rfl 8 rfl ?_
            refine r_iload (q := 56) (dc dt_MK_lift 26 rfl) rfl 0 rfl ?_
            refine r_iadd (q := 57) (dc dt_MK_lift 27 rfl) rfl ?_
            refine r_istore (q := 59) (dc dt_MK_lift 28 rfl) rfl (by decide) rfl ?_
            refine r_aload (q := 61) (dc dt_MK_lift 29 rfl) rfl 7 rfl ?_
            refine r_iload_n (q := 62) (dc dt_MK_lift 30 rfl) rfl rfl 3 rfl ?_
            refine r_iload_n (q := 63) (dc dt_MK_lift 31 rfl) rfl rfl 3 rfl ?_
            refine r_iload_n (q := 64) (dc dt_MK_lift 32 rfl) rfl rfl 4 rfl ?_
            refine r_iadd (q := 65) (dc dt_MK_lift 33 rfl) rfl ?_
            refine r_iload (q := 67) (dc dt_MK_lift 34 rfl) rfl 0 rfl ?_
            refine r_iload (q := 69) (dc dt_MK_lift 35 rfl) rfl 0 rfl ?_
            refine r_iload (q := 71) (dc dt_MK_lift 36 rfl) rfl 5 rfl ?_
            refine r_iadd (q := 72) (dc dt_MK_lift 37 rfl) rfl ?_
            refine r_iload (q := 74) (dc dt_MK_lift 38 rfl) rfl 6 rfl ?_
            refine r_callVi (q := 77) mk_BX_wayOff lm_MK_28 (RMO.of rfl) rfl (dc dt_MK_lift 39 rfl) rfl rfl [I v1, I (v1 + v2), I (v8 + (if v5 = 0 then -v7 else v7)), I ((v8 + (if v5 = 0 then -v7 else v7)) + v4), I v5] [] rfl rfl (Nat.le_of_ble_eq_true rfl) h (fun r6 u5 g7 h => ?_)
            refine r_istore (q := 79) (dc dt_MK_lift 40 rfl) rfl (by decide) rfl ?_
            refine r_iload (q := 81) (dc dt_MK_lift 41 rfl) rfl 0 rfl ?_
            refine r_if_ne (q := 84) (t := 106) (dc dt_MK_lift 42 rfl) rfl (by decide) g7 (fun q_ => ?_) (fun q_ => ?_)
            · have h := h.1 q_
              refine r_iload (q := 108) (dc dt_MK_lift 56 rfl) rfl 0 rfl ?_
              refine r_if_ne (q := 111) (t := 114) (dc dt_MK_lift 57 rfl) rfl (by decide) g7 (fun q_ => ?_) (fun q_ => ?_)
              · have h := h.1 q_
                refine r_iload (q := 116) (dc dt_MK_lift 59 rfl) rfl 9 rfl ?_
                refine r_iload (q := 118) (dc dt_MK_lift 60 rfl) rfl 0 rfl ?_
                refine r_iadd (q := 119) (dc dt_MK_lift 61 rfl) rfl ?_
                refine r_sipush (q := 122) (dc dt_MK_lift 62 rfl) rfl (by decide) ?_
                obtain ⟨o8, h⟩ := h
                refine r_mmin (q := 125) lm_MK_32 (by decide) (dc dt_MK_lift 63 rfl) rfl (by simp [catA]; decide) o8 (⟨by decide, by decide⟩ : rng 300) ?_
                refine r_istore (q := 127) (dc dt_MK_lift 64 rfl) rfl (by decide) rfl ?_
                refine r_iinc (q := 130) (k := 11) (dc dt_MK_lift 65 rfl) rfl rfl (by decide) rfl ?_
                refine r_goto (q := 21) (dc dt_MK_lift 66 rfl) (by decide) ?_
                exact r_loc [5, 6, 7, 8, 9, 10, 1, 11, 0] rfl h
              · have h := h.2 q_
                refine r_goto (q := 133) (dc dt_MK_lift 58 rfl) (by decide) ?_
                exact r_loc [3, 4, 5, 6, 7, 9, 10] rfl h
            · have h := h.2 q_
              refine r_aload_n (q := 85) (dc dt_MK_lift 43 rfl) rfl rfl 3 rfl ?_
              refine r_getO (q := 88) (v := 34 + 1) fl_MK_12 (dc dt_MK_lift 44 rfl) rfl rfl rfl ?_
              refine r_iload_n (q := 89) (dc dt_MK_lift 45 rfl) rfl rfl 4 rfl ?_
              refine r_iload_n (q := 90) (dc dt_MK_lift 46 rfl) rfl rfl 4 rfl ?_
              refine r_iload_n (q := 91) (dc dt_MK_lift 47 rfl) rfl rfl 5 rfl ?_
              refine r_iadd (q := 92) (dc dt_MK_lift 48 rfl) rfl ?_
              refine r_iload (q := 94) (dc dt_MK_lift 49 rfl) rfl 1 rfl ?_
              refine r_iload (q := 96) (dc dt_MK_lift 50 rfl) rfl 1 rfl ?_
              refine r_iload (q := 98) (dc dt_MK_lift 51 rfl) rfl 6 rfl ?_
              refine r_iadd (q := 99) (dc dt_MK_lift 52 rfl) rfl ?_
              refine r_iload (q := 101) (dc dt_MK_lift 53 rfl) rfl 7 rfl ?_
              refine r_callVi (q := 104) mk_BX_wayOff lm_MK_28 (RMO.of rfl) rfl (dc dt_MK_lift 54 rfl) rfl rfl [I v1, I (v1 + v2), I (v8 + (if v5 = 0 then -v7 else v7)), I ((v8 + (if v5 = 0 then -v7 else v7)) + v4), I v5] [] rfl rfl (Nat.le_of_ble_eq_true rfl) h (fun r10 u9 g11 h => ?_)
              refine r_istore (q := 106) (dc dt_MK_lift 55 rfl) rfl (by decide) rfl ?_
              refine r_iload (q := 108) (dc dt_MK_lift 56 rfl) rfl 0 rfl ?_
              refine r_if_ne (q := 111) (t := 114) (dc dt_MK_lift 57 rfl) rfl (by decide) g11 (fun q_ => ?_) (fun q_ => ?_)
              · have h := h.1 q_
                refine r_iload (q := 116) (dc dt_MK_lift 59 rfl) rfl 9 rfl ?_
                refine r_iload (q := 118) (dc dt_MK_lift 60 rfl) rfl 0 rfl ?_
                refine r_iadd (q := 119) (dc dt_MK_lift 61 rfl) rfl ?_
                refine r_sipush (q := 122) (dc dt_MK_lift 62 rfl) rfl (by decide) ?_
                obtain ⟨o12, h⟩ := h
                refine r_mmin (q := 125) lm_MK_32 (by decide) (dc dt_MK_lift 63 rfl) rfl (by simp [catA]; decide) o12 (⟨by decide, by decide⟩ : rng 300) ?_
                refine r_istore (q := 127) (dc dt_MK_lift 64 rfl) rfl (by decide) rfl ?_
                refine r_iinc (q := 130) (k := 11) (dc dt_MK_lift 65 rfl) rfl rfl (by decide) rfl ?_
                refine r_goto (q := 21) (dc dt_MK_lift 66 rfl) (by decide) ?_
                exact r_loc [5, 6, 7, 8, 9, 10, 1, 11, 0] rfl h
              · have h := h.2 q_
                refine r_goto (q := 133) (dc dt_MK_lift 58 rfl) (by decide) ?_
                exact r_loc [3, 4, 5, 6, 7, 9, 10] rfl h
          clear h
          refine r_if_eq (q := 42) (t := 47) (dc dt_MK_lift 19 rfl) rfl (by decide) o4 (fun q_ => ?_) (fun q_ => ?_)
          · have q22 := q_
            refine r_iload (q := 49) (dc dt_MK_lift 22 rfl) rfl 6 rfl ?_
            refine r_ineg (q := 50) (dc dt_MK_lift 23 rfl) rfl ?_
            exact (hJ (-v7) ((if_pos (by first | omega | grind)).symm))
          · have q22 := q_
            refine r_iload (q := 44) (dc dt_MK_lift 20 rfl) rfl 6 rfl ?_
            refine r_goto (q := 50) (dc dt_MK_lift 21 rfl) (by decide) ?_
            exact (hJ v7 ((if_neg (by first | omega | grind)).symm))
set_option maxRecDepth 20000 in
theorem k_MK_lift_133 {G : GT} {σ : St} {P : Int → St → Prop} {q0 : Nat} {q6 : Nat} {v1 : Int} {v2 : Int} {v4 : Int} {v5 : Int} {v7 : Int} {v8 : Int} (hq0 : isM q0) (hq6 : isB q6) 
    (h : rng v5 ∧ (0 ≤ σ.2.1 (q0 + 1) 0 ∧ σ.2.1 (q0 + 1) 0 < 80) ∧ rng v7 ∧ (∀ σ17, σ17 = sa σ (q0 + 8) ((σ.2.1 (q0 + 1) 0).toNat) v7 → CJ G m_BX_addBox [O (q0 + 1), I v1, I (v1 + v2), I (v8 + (if v5 = 0 then -v7 else v7)), I ((v8 + (if v5 = 0 then -v7 else v7)) + v4)] σ17 (fun _ u19 => rng (if v5 = 0 then v8 + (if v5 = 0 then -v7 else v7) else (v8 + (if v5 = 0 then -v7 else v7)) + v4) ∧ P (if v5 = 0 then v8 + (if v5 = 0 then -v7 else v7) else (v8 + (if v5 = 0 then -v7 else v7)) + v4) u19))) :
    a_MK_lift_133 G q0 q6 v1 v2 v4 v5 v7 v8 σ P := by
  rcases hq0 with rfl | rfl
  ·
    rcases hq6 with rfl | rfl | rfl | rfl
    ·
      refine r_iload (q := 135) (dc dt_MK_lift 67 rfl) rfl 6 rfl ?_
      refine r_iload (q := 137) (dc dt_MK_lift 68 rfl) rfl 4 rfl ?_
      obtain ⟨o13, h⟩ := h
      have hJ : ∀ (w_0 : Int), w_0 = (if v5 = 0 then -v7 else v7) → A G m_MK_lift 148 [(0, O 15), (1, I v1), (2, I v2), (4, I v4), (5, I v5), (7, I v7), (8, I v8)] [I w_0, I v8] σ P := by
        intro w_0 z_0
        subst z_0
        refine r_iadd (q := 149) (dc dt_MK_lift 74 rfl) rfl ?_
        refine r_istore (q := 151) (dc dt_MK_lift 75 rfl) rfl (by decide) rfl ?_
        refine r_aload_n (q := 152) (dc dt_MK_lift 76 rfl) rfl rfl 1 rfl ?_
        refine r_getO (q := 155) (v := 15 + 8) fl_MK_25 (dc dt_MK_lift 77 rfl) rfl rfl rfl ?_
        refine r_aload_n (q := 156) (dc dt_MK_lift 78 rfl) rfl rfl 1 rfl ?_
        refine r_getO (q := 159) (v := 15 + 1) fl_MK_12 (dc dt_MK_lift 79 rfl) rfl rfl rfl ?_
        refine r_getI (q := 162) (v := σ.2.1 (15 + 1) 0) fl_MK_38 (dc dt_MK_lift 80 rfl) rfl rfl rfl rfl (fun g14 => ?_)
        refine r_iload (q := 164) (dc dt_MK_lift 81 rfl) rfl 6 rfl ?_
        obtain ⟨o15, h⟩ := h
        obtain ⟨o16, h⟩ := h
        refine r_iast (q := 165) (dc dt_MK_lift 82 rfl) rfl rfl o15 o16 (fun σ17 e18 => ?_)
        have h := h σ17 e18
        refine r_aload_n (q := 166) (dc dt_MK_lift 83 rfl) rfl rfl 1 rfl ?_
        refine r_getO (q := 169) (v := 15 + 1) fl_MK_12 (dc dt_MK_lift 84 rfl) rfl rfl rfl ?_
        refine r_iload_n (q := 170) (dc dt_MK_lift 85 rfl) rfl rfl 2 rfl ?_
        refine r_iload_n (q := 171) (dc dt_MK_lift 86 rfl) rfl rfl 2 rfl ?_
        refine r_iload_n (q := 172) (dc dt_MK_lift 87 rfl) rfl rfl 3 rfl ?_
        refine r_iadd (q := 173) (dc dt_MK_lift 88 rfl) rfl ?_
        refine r_iload (q := 175) (dc dt_MK_lift 89 rfl) rfl 0 rfl ?_
        refine r_iload (q := 177) (dc dt_MK_lift 90 rfl) rfl 0 rfl ?_
        refine r_iload (q := 179) (dc dt_MK_lift 91 rfl) rfl 4 rfl ?_
        refine r_iadd (q := 180) (dc dt_MK_lift 92 rfl) rfl ?_
        refine r_callVv (q := 183) mk_BX_addBox lm_MK_42 (RMO.of rfl) rfl (dc dt_MK_lift 93 rfl) rfl rfl [I v1, I (v1 + v2), I (v8 + (if v5 = 0 then -v7 else v7)), I ((v8 + (if v5 = 0 then -v7 else v7)) + v4)] [] rfl rfl (Nat.le_of_ble_eq_true rfl) h (fun u19 h => ?_)
        refine r_iload (q := 185) (dc dt_MK_lift 94 rfl) rfl 5 rfl ?_
        have hJ : ∀ (w_0 : Int), w_0 = (if v5 = 0 then v8 + (if v5 = 0 then -v7 else v7) else (v8 + (if v5 = 0 then -v7 else v7)) + v4) → A G m_MK_lift 198 [(9, I (v8 + (if v5 = 0 then -v7 else v7))), (0, O 15), (1, I v1), (2, I v2), (4, I v4), (5, I v5), (7, I v7), (8, I v8)] [I w_0] u19 P := by
          intro w_0 z_0
          subst z_0
          obtain ⟨o20, h⟩ := h
          exact r_iret rfl (dc dt_MK_lift 101 rfl) o20 h
        clear h
        refine r_if_eq (q := 188) (t := 196) (dc dt_MK_lift 95 rfl) rfl (by decide) o13 (fun q_ => ?_) (fun q_ => ?_)
        · have q23 := q_
          refine r_iload (q := 198) (dc dt_MK_lift 100 rfl) rfl 0 rfl ?_
          exact (hJ (v8 + (if v5 = 0 then -v7 else v7)) ((if_pos (by first | omega | grind)).symm))
        · have q23 := q_
          refine r_iload (q := 190) (dc dt_MK_lift 96 rfl) rfl 0 rfl ?_
          refine r_iload (q := 192) (dc dt_MK_lift 97 rfl) rfl 4 rfl ?_
          refine r_iadd (q := 193) (dc dt_MK_lift 98 rfl) rfl ?_
          refine r_goto (q := 198) (dc dt_MK_lift 99 rfl) (by decide) ?_
          exact (hJ ((v8 + (if v5 = 0 then -v7 else v7)) + v4) ((if_neg (by first | omega | grind)).symm))
      clear h
      refine r_if_eq (q := 140) (t := 145) (dc dt_MK_lift 69 rfl) rfl (by decide) o13 (fun q_ => ?_) (fun q_ => ?_)
      · have q24 := q_
        refine r_iload (q := 147) (dc dt_MK_lift 72 rfl) rfl 5 rfl ?_
        refine r_ineg (q := 148) (dc dt_MK_lift 73 rfl) rfl ?_
        exact (hJ (-v7) ((if_pos (by first | omega | grind)).symm))
      · have q24 := q_
        refine r_iload (q := 142) (dc dt_MK_lift 70 rfl) rfl 5 rfl ?_
        refine r_goto (q := 148) (dc dt_MK_lift 71 rfl) (by decide) ?_
        exact (hJ v7 ((if_neg (by first | omega | grind)).symm))
    ·
      refine r_iload (q := 135) (dc dt_MK_lift 67 rfl) rfl 6 rfl ?_
      refine r_iload (q := 137) (dc dt_MK_lift 68 rfl) rfl 4 rfl ?_
      obtain ⟨o13, h⟩ := h
      have hJ : ∀ (w_0 : Int), w_0 = (if v5 = 0 then -v7 else v7) → A G m_MK_lift 148 [(0, O 15), (1, I v1), (2, I v2), (4, I v4), (5, I v5), (7, I v7), (8, I v8)] [I w_0, I v8] σ P := by
        intro w_0 z_0
        subst z_0
        refine r_iadd (q := 149) (dc dt_MK_lift 74 rfl) rfl ?_
        refine r_istore (q := 151) (dc dt_MK_lift 75 rfl) rfl (by decide) rfl ?_
        refine r_aload_n (q := 152) (dc dt_MK_lift 76 rfl) rfl rfl 1 rfl ?_
        refine r_getO (q := 155) (v := 15 + 8) fl_MK_25 (dc dt_MK_lift 77 rfl) rfl rfl rfl ?_
        refine r_aload_n (q := 156) (dc dt_MK_lift 78 rfl) rfl rfl 1 rfl ?_
        refine r_getO (q := 159) (v := 15 + 1) fl_MK_12 (dc dt_MK_lift 79 rfl) rfl rfl rfl ?_
        refine r_getI (q := 162) (v := σ.2.1 (15 + 1) 0) fl_MK_38 (dc dt_MK_lift 80 rfl) rfl rfl rfl rfl (fun g14 => ?_)
        refine r_iload (q := 164) (dc dt_MK_lift 81 rfl) rfl 6 rfl ?_
        obtain ⟨o15, h⟩ := h
        obtain ⟨o16, h⟩ := h
        refine r_iast (q := 165) (dc dt_MK_lift 82 rfl) rfl rfl o15 o16 (fun σ17 e18 => ?_)
        have h := h σ17 e18
        refine r_aload_n (q := 166) (dc dt_MK_lift 83 rfl) rfl rfl 1 rfl ?_
        refine r_getO (q := 169) (v := 15 + 1) fl_MK_12 (dc dt_MK_lift 84 rfl) rfl rfl rfl ?_
        refine r_iload_n (q := 170) (dc dt_MK_lift 85 rfl) rfl rfl 2 rfl ?_
        refine r_iload_n (q := 171) (dc dt_MK_lift 86 rfl) rfl rfl 2 rfl ?_
        refine r_iload_n (q := 172) (dc dt_MK_lift 87 rfl) rfl rfl 3 rfl ?_
        refine r_iadd (q := 173) (dc dt_MK_lift 88 rfl) rfl ?_
        refine r_iload (q := 175) (dc dt_MK_lift 89 rfl) rfl 0 rfl ?_
        refine r_iload (q := 177) (dc dt_MK_lift 90 rfl) rfl 0 rfl ?_
        refine r_iload (q := 179) (dc dt_MK_lift 91 rfl) rfl 4 rfl ?_
        refine r_iadd (q := 180) (dc dt_MK_lift 92 rfl) rfl ?_
        refine r_callVv (q := 183) mk_BX_addBox lm_MK_42 (RMO.of rfl) rfl (dc dt_MK_lift 93 rfl) rfl rfl [I v1, I (v1 + v2), I (v8 + (if v5 = 0 then -v7 else v7)), I ((v8 + (if v5 = 0 then -v7 else v7)) + v4)] [] rfl rfl (Nat.le_of_ble_eq_true rfl) h (fun u19 h => ?_)
        refine r_iload (q := 185) (dc dt_MK_lift 94 rfl) rfl 5 rfl ?_
        have hJ : ∀ (w_0 : Int), w_0 = (if v5 = 0 then v8 + (if v5 = 0 then -v7 else v7) else (v8 + (if v5 = 0 then -v7 else v7)) + v4) → A G m_MK_lift 198 [(9, I (v8 + (if v5 = 0 then -v7 else v7))), (0, O 15), (1, I v1), (2, I v2), (4, I v4), (5, I v5), (7, I v7), (8, I v8)] [I w_0] u19 P := by
          intro w_0 z_0
          subst z_0
          obtain ⟨o20, h⟩ := h
          exact r_iret rfl (dc dt_MK_lift 101 rfl) o20 h
        clear h
        refine r_if_eq (q := 188) (t := 196) (dc dt_MK_lift 95 rfl) rfl (by decide) o13 (fun q_ => ?_) (fun q_ => ?_)
        · have q23 := q_
          refine r_iload (q := 198) (dc dt_MK_lift 100 rfl) rfl 0 rfl ?_
          exact (hJ (v8 + (if v5 = 0 then -v7 else v7)) ((if_pos (by first | omega | grind)).symm))
        · have q23 := q_
          refine r_iload (q := 190) (dc dt_MK_lift 96 rfl) rfl 0 rfl ?_
          refine r_iload (q := 192) (dc dt_MK_lift 97 rfl) rfl 4 rfl ?_
          refine r_iadd (q := 193) (dc dt_MK_lift 98 rfl) rfl ?_
          refine r_goto (q := 198) (dc dt_MK_lift 99 rfl) (by decide) ?_
          exact (hJ ((v8 + (if v5 = 0 then -v7 else v7)) + v4) ((if_neg (by first | omega | grind)).symm))
      clear h
      refine r_if_eq (q := 140) (t := 145) (dc dt_MK_lift 69 rfl) rfl (by decide) o13 (fun q_ => ?_) (fun q_ => ?_)
      · have q24 := q_
        refine r_iload (q := 147) (dc dt_MK_lift 72 rfl) rfl 5 rfl ?_
        refine r_ineg (q := 148) (dc dt_MK_lift 73 rfl) rfl ?_
        exact (hJ (-v7) ((if_pos (by first | omega | grind)).symm))
      · have q24 := q_
        refine r_iload (q := 142) (dc dt_MK_lift 70 rfl) rfl 5 rfl ?_
        refine r_goto (q := 148) (dc dt_MK_lift 71 rfl) (by decide) ?_
        exact (hJ v7 ((if_neg (by first | omega | grind)).symm))
    ·
      refine r_iload (q := 135) (dc dt_MK_lift 67 rfl) rfl 6 rfl ?_
      refine r_iload (q := 137) (dc dt_MK_lift 68 rfl) rfl 4 rfl ?_
      obtain ⟨o13, h⟩ := h
      have hJ : ∀ (w_0 : Int), w_0 = (if v5 = 0 then -v7 else v7) → A G m_MK_lift 148 [(0, O 15), (1, I v1), (2, I v2), (4, I v4), (5, I v5), (7, I v7), (8, I v8)] [I w_0, I v8] σ P := by
        intro w_0 z_0
        subst z_0
        refine r_iadd (q := 149) (dc dt_MK_lift 74 rfl) rfl ?_
        refine r_istore (q := 151) (dc dt_MK_lift 75 rfl) rfl (by decide) rfl ?_
        refine r_aload_n (q := 152) (dc dt_MK_lift 76 rfl) rfl rfl 1 rfl ?_
        refine r_getO (q := 155) (v := 15 + 8) fl_MK_25 (dc dt_MK_lift 77 rfl) rfl rfl rfl ?_
        refine r_aload_n (q := 156) (dc dt_MK_lift 78 rfl) rfl rfl 1 rfl ?_
        refine r_getO (q := 159) (v := 15 + 1) fl_MK_12 (dc dt_MK_lift 79 rfl) rfl rfl rfl ?_
        refine r_getI (q := 162) (v := σ.2.1 (15 + 1) 0) fl_MK_38 (dc dt_MK_lift 80 rfl) rfl rfl rfl rfl (fun g14 => ?_)
        refine r_iload (q := 164) (dc dt_MK_lift 81 rfl) rfl 6 rfl ?_
        obtain ⟨o15, h⟩ := h
        obtain ⟨o16, h⟩ := h
        refine r_iast (q := 165) (dc dt_MK_lift 82 rfl) rfl rfl o15 o16 (fun σ17 e18 => ?_)
        have h := h σ17 e18
        refine r_aload_n (q := 166) (dc dt_MK_lift 83 rfl) rfl rfl 1 rfl ?_
        refine r_getO (q := 169) (v := 15 + 1) fl_MK_12 (dc dt_MK_lift 84 rfl) rfl rfl rfl ?_
        refine r_iload_n (q := 170) (dc dt_MK_lift 85 rfl) rfl rfl 2 rfl ?_
        refine r_iload_n (q := 171) (dc dt_MK_lift 86 rfl) rfl rfl 2 rfl ?_
        refine r_iload_n (q := 172) (dc dt_MK_lift 87 rfl) rfl rfl 3 rfl ?_
        refine r_iadd (q := 173) (dc dt_MK_lift 88 rfl) rfl ?_
        refine r_iload (q := 175) (dc dt_MK_lift 89 rfl) rfl 0 rfl ?_
        refine r_iload (q := 177) (dc dt_MK_lift 90 rfl) rfl 0 rfl ?_
        refine r_iload (q := 179) (dc dt_MK_lift 91 rfl) rfl 4 rfl ?_
        refine r_iadd (q := 180) (dc dt_MK_lift 92 rfl) rfl ?_
        refine r_callVv (q := 183) mk_BX_addBox lm_MK_42 (RMO.of rfl) rfl (dc dt_MK_lift 93 rfl) rfl rfl [I v1, I (v1 + v2), I (v8 + (if v5 = 0 then -v7 else v7)), I ((v8 + (if v5 = 0 then -v7 else v7)) + v4)] [] rfl rfl (Nat.le_of_ble_eq_true rfl) h (fun u19 h => ?_)
        refine r_iload (q := 185) (dc dt_MK_lift 94 rfl) rfl 5 rfl ?_
        have hJ : ∀ (w_0 : Int), w_0 = (if v5 = 0 then v8 + (if v5 = 0 then -v7 else v7) else (v8 + (if v5 = 0 then -v7 else v7)) + v4) → A G m_MK_lift 198 [(9, I (v8 + (if v5 = 0 then -v7 else v7))), (0, O 15), (1, I v1), (2, I v2), (4, I v4), (5, I v5), (7, I v7), (8, I v8)] [I w_0] u19 P := by
          intro w_0 z_0
          subst z_0
          obtain ⟨o20, h⟩ := h
          exact r_iret rfl (dc dt_MK_lift 101 rfl) o20 h
        clear h
        refine r_if_eq (q := 188) (t := 196) (dc dt_MK_lift 95 rfl) rfl (by decide) o13 (fun q_ => ?_) (fun q_ => ?_)
        · have q23 := q_
          refine r_iload (q := 198) (dc dt_MK_lift 100 rfl) rfl 0 rfl ?_
          exact (hJ (v8 + (if v5 = 0 then -v7 else v7)) ((if_pos (by first | omega | grind)).symm))
        · have q23 := q_
          refine r_iload (q := 190) (dc dt_MK_lift 96 rfl) rfl 0 rfl ?_
          refine r_iload (q := 192) (dc dt_MK_lift 97 rfl) rfl 4 rfl ?_
          refine r_iadd (q := 193) (dc dt_MK_lift 98 rfl) rfl ?_
          refine r_goto (q := 198) (dc dt_MK_lift 99 rfl) (by decide) ?_
          exact (hJ ((v8 + (if v5 = 0 then -v7 else v7)) + v4) ((if_neg (by first | omega | grind)).symm))
      clear h
      refine r_if_eq (q := 140) (t := 145) (dc dt_MK_lift 69 rfl) rfl (by decide) o13 (fun q_ => ?_) (fun q_ => ?_)
      · have q24 := q_
        refine r_iload (q := 147) (dc dt_MK_lift 72 rfl) rfl 5 rfl ?_
        refine r_ineg (q := 148) (dc dt_MK_lift 73 rfl) rfl ?_
        exact (hJ (-v7) ((if_pos (by first | omega | grind)).symm))
      · have q24 := q_
        refine r_iload (q := 142) (dc dt_MK_lift 70 rfl) rfl 5 rfl ?_
        refine r_goto (q := 148) (dc dt_MK_lift 71 rfl) (by decide) ?_
        exact (hJ v7 ((if_neg (by first | omega | grind)).symm))
    ·
      refine r_iload (q := 135) (dc dt_MK_lift 67 rfl) rfl 6 rfl ?_
      refine r_iload (q := 137) (dc dt_MK_lift 68 rfl) rfl 4 rfl ?_
      obtain ⟨o13, h⟩ := h
      have hJ : ∀ (w_0 : Int), w_0 = (if v5 = 0 then -v7 else v7) → A G m_MK_lift 148 [(0, O 15), (1, I v1), (2, I v2), (4, I v4), (5, I v5), (7, I v7), (8, I v8)] [I w_0, I v8] σ P := by
        intro w_0 z_0
        subst z_0
        refine r_iadd (q := 149) (dc dt_MK_lift 74 rfl) rfl ?_
        refine r_istore (q := 151) (dc dt_MK_lift 75 rfl) rfl (by decide) rfl ?_
        refine r_aload_n (q := 152) (dc dt_MK_lift 76 rfl) rfl rfl 1 rfl ?_
        refine r_getO (q := 155) (v := 15 + 8) fl_MK_25 (dc dt_MK_lift 77 rfl) rfl rfl rfl ?_
        refine r_aload_n (q := 156) (dc dt_MK_lift 78 rfl) rfl rfl 1 rfl ?_
        refine r_getO (q := 159) (v := 15 + 1) fl_MK_12 (dc dt_MK_lift 79 rfl) rfl rfl rfl ?_
        refine r_getI (q := 162) (v := σ.2.1 (15 + 1) 0) fl_MK_38 (dc dt_MK_lift 80 rfl) rfl rfl rfl rfl (fun g14 => ?_)
        refine r_iload (q := 164) (dc dt_MK_lift 81 rfl) rfl 6 rfl ?_
        obtain ⟨o15, h⟩ := h
        obtain ⟨o16, h⟩ := h
        refine r_iast (q := 165) (dc dt_MK_lift 82 rfl) rfl rfl o15 o16 (fun σ17 e18 => ?_)
        have h := h σ17 e18
        refine r_aload_n (q := 166) (dc dt_MK_lift 83 rfl) rfl rfl 1 rfl ?_
        refine r_getO (q := 169) (v := 15 + 1) fl_MK_12 (dc dt_MK_lift 84 rfl) rfl rfl rfl ?_
        refine r_iload_n (q := 170) (dc dt_MK_lift 85 rfl) rfl rfl 2 rfl ?_
        refine r_iload_n (q := 171) (dc dt_MK_lift 86 rfl) rfl rfl 2 rfl ?_
        refine r_iload_n (q := 172) (dc dt_MK_lift 87 rfl) rfl rfl 3 rfl ?_
        refine r_iadd (q := 173) (dc dt_MK_lift 88 rfl) rfl ?_
        refine r_iload (q := 175) (dc dt_MK_lift 89 rfl) rfl 0 rfl ?_
        refine r_iload (q := 177) (dc dt_MK_lift 90 rfl) rfl 0 rfl ?_
        refine r_iload (q := 179) (dc dt_MK_lift 91 rfl) rfl 4 rfl ?_
        refine r_iadd (q := 180) (dc dt_MK_lift 92 rfl) rfl ?_
        refine r_callVv (q := 183) mk_BX_addBox lm_MK_42 (RMO.of rfl) rfl (dc dt_MK_lift 93 rfl) rfl rfl [I v1, I (v1 + v2), I (v8 + (if v5 = 0 then -v7 else v7)), I ((v8 + (if v5 = 0 then -v7 else v7)) + v4)] [] rfl rfl (Nat.le_of_ble_eq_true rfl) h (fun u19 h => ?_)
        refine r_iload (q := 185) (dc dt_MK_lift 94 rfl) rfl 5 rfl ?_
        have hJ : ∀ (w_0 : Int), w_0 = (if v5 = 0 then v8 + (if v5 = 0 then -v7 else v7) else (v8 + (if v5 = 0 then -v7 else v7)) + v4) → A G m_MK_lift 198 [(9, I (v8 + (if v5 = 0 then -v7 else v7))), (0, O 15), (1, I v1), (2, I v2), (4, I v4), (5, I v5), (7, I v7), (8, I v8)] [I w_0] u19 P := by
          intro w_0 z_0
          subst z_0
          obtain ⟨o20, h⟩ := h
          exact r_iret rfl (dc dt_MK_lift 101 rfl) o20 h
        clear h
        refine r_if_eq (q := 188) (t := 196) (dc dt_MK_lift 95 rfl) rfl (by decide) o13 (fun q_ => ?_) (fun q_ => ?_)
        · have q23 := q_
          refine r_iload (q := 198) (dc dt_MK_lift 100 rfl) rfl 0 rfl ?_
          exact (hJ (v8 + (if v5 = 0 then -v7 else v7)) ((if_pos (by first | omega | grind)).symm))
        · have q23 := q_
          refine r_iload (q := 190) (dc dt_MK_lift 96 rfl) rfl 0 rfl ?_
          refine r_iload (q := 192) (dc dt_MK_lift 97 rfl) rfl 4 rfl ?_
          refine r_iadd (q := 193) (dc dt_MK_lift 98 rfl) rfl ?_
          refine r_goto (q := 198) (dc dt_MK_lift 99 rfl) (by decide) ?_
          exact (hJ ((v8 + (if v5 = 0 then -v7 else v7)) + v4) ((if_neg (by first | omega | grind)).symm))
      clear h
      refine r_if_eq (q := 140) (t := 145) (dc dt_MK_lift 69 rfl) rfl (by decide) o13 (fun q_ => ?_) (fun q_ => ?_)
      · have q24 := q_
        refine r_iload (q := 147) (dc dt_MK_lift 72 rfl) rfl 5 rfl ?_
        refine r_ineg (q := 148) (dc dt_MK_lift 73 rfl) rfl ?_
        exact (hJ (-v7) ((if_pos (by first | omega | grind)).symm))
      · have q24 := q_
        refine r_iload (q := 142) (dc dt_MK_lift 70 rfl) rfl 5 rfl ?_
        refine r_goto (q := 148) (dc dt_MK_lift 71 rfl) (by decide) ?_
        exact (hJ v7 ((if_neg (by first | omega | grind)).symm))
  ·
    rcases hq6 with rfl | rfl | rfl | rfl
    ·
      refine r_iload (q := 135) (dc dt_MK_lift 67 rfl) rfl 6 rfl ?_
      refine r_iload (q := 137) (dc dt_MK_lift 68 rfl) rfl 4 rfl ?_
      obtain ⟨o13, h⟩ := h
      have hJ : ∀ (w_0 : Int), w_0 = (if v5 = 0 then -v7 else v7) → A G m_MK_lift 148 [(0, O 34), (1, I v1), (2, I v2), (4, I v4), (5, I v5), (7, I v7), (8, I v8)] [I w_0, I v8] σ P := by
        intro w_0 z_0
        subst z_0
        refine r_iadd (q := 149) (dc dt_MK_lift 74 rfl) rfl ?_
        refine r_istore (q := 151) (dc dt_MK_lift 75 rfl) rfl (by decide) rfl ?_
        refine r_aload_n (q := 152) (dc dt_MK_lift 76 rfl) rfl rfl 1 rfl ?_
        refine r_getO (q := 155) (v := 34 + 8) fl_MK_25 (dc dt_MK_lift 77 rfl) rfl rfl rfl ?_
        refine r_aload_n (q := 156) (dc dt_MK_lift 78 rfl) rfl rfl 1 rfl ?_
        refine r_getO (q := 159) (v := 34 + 1) fl_MK_12 (dc dt_MK_lift 79 rfl) rfl rfl rfl ?_
        refine r_getI (q := 162) (v := σ.2.1 (34 + 1) 0) fl_MK_38 (dc dt_MK_lift 80 rfl) rfl rfl rfl rfl (fun g14 => ?_)
        refine r_iload (q := 164) (dc dt_MK_lift 81 rfl) rfl 6 rfl ?_
        obtain ⟨o15, h⟩ := h
        obtain ⟨o16, h⟩ := h
        refine r_iast (q := 165) (dc dt_MK_lift 82 rfl) rfl rfl o15 o16 (fun σ17 e18 => ?_)
        have h := h σ17 e18
        refine r_aload_n (q := 166) (dc dt_MK_lift 83 rfl) rfl rfl 1 rfl ?_
        refine r_getO (q := 169) (v := 34 + 1) fl_MK_12 (dc dt_MK_lift 84 rfl) rfl rfl rfl ?_
        refine r_iload_n (q := 170) (dc dt_MK_lift 85 rfl) rfl rfl 2 rfl ?_
        refine r_iload_n (q := 171) (dc dt_MK_lift 86 rfl) rfl rfl 2 rfl ?_
        refine r_iload_n (q := 172) (dc dt_MK_lift 87 rfl) rfl rfl 3 rfl ?_
        refine r_iadd (q := 173) (dc dt_MK_lift 88 rfl) rfl ?_
        refine r_iload (q := 175) (dc dt_MK_lift 89 rfl) rfl 0 rfl ?_
        refine r_iload (q := 177) (dc dt_MK_lift 90 rfl) rfl 0 rfl ?_
        refine r_iload (q := 179) (dc dt_MK_lift 91 rfl) rfl 4 rfl ?_
        refine r_iadd (q := 180) (dc dt_MK_lift 92 rfl) rfl ?_
        refine r_callVv (q := 183) mk_BX_addBox lm_MK_42 (RMO.of rfl) rfl (dc dt_MK_lift 93 rfl) rfl rfl [I v1, I (v1 + v2), I (v8 + (if v5 = 0 then -v7 else v7)), I ((v8 + (if v5 = 0 then -v7 else v7)) + v4)] [] rfl rfl (Nat.le_of_ble_eq_true rfl) h (fun u19 h => ?_)
        refine r_iload (q := 185) (dc dt_MK_lift 94 rfl) rfl 5 rfl ?_
        have hJ : ∀ (w_0 : Int), w_0 = (if v5 = 0 then v8 + (if v5 = 0 then -v7 else v7) else (v8 + (if v5 = 0 then -v7 else v7)) + v4) → A G m_MK_lift 198 [(9, I (v8 + (if v5 = 0 then -v7 else v7))), (0, O 34), (1, I v1), (2, I v2), (4, I v4), (5, I v5), (7, I v7), (8, I v8)] [I w_0] u19 P := by
          intro w_0 z_0
          subst z_0
          obtain ⟨o20, h⟩ := h
          exact r_iret rfl (dc dt_MK_lift 101 rfl) o20 h
        clear h
        refine r_if_eq (q := 188) (t := 196) (dc dt_MK_lift 95 rfl) rfl (by decide) o13 (fun q_ => ?_) (fun q_ => ?_)
        · have q23 := q_
          refine r_iload (q := 198) (dc dt_MK_lift 100 rfl) rfl 0 rfl ?_
          exact (hJ (v8 + (if v5 = 0 then -v7 else v7)) ((if_pos (by first | omega | grind)).symm))
        · have q23 := q_
          refine r_iload (q := 190) (dc dt_MK_lift 96 rfl) rfl 0 rfl ?_
          refine r_iload (q := 192) (dc dt_MK_lift 97 rfl) rfl 4 rfl ?_
          refine r_iadd (q := 193) (dc dt_MK_lift 98 rfl) rfl ?_
          refine r_goto (q := 198) (dc dt_MK_lift 99 rfl) (by decide) ?_
          exact (hJ ((v8 + (if v5 = 0 then -v7 else v7)) + v4) ((if_neg (by first | omega | grind)).symm))
      clear h
      refine r_if_eq (q := 140) (t := 145) (dc dt_MK_lift 69 rfl) rfl (by decide) o13 (fun q_ => ?_) (fun q_ => ?_)
      · have q24 := q_
        refine r_iload (q := 147) (dc dt_MK_lift 72 rfl) rfl 5 rfl ?_
        refine r_ineg (q := 148) (dc dt_MK_lift 73 rfl) rfl ?_
        exact (hJ (-v7) ((if_pos (by first | omega | grind)).symm))
      · have q24 := q_
        refine r_iload (q := 142) (dc dt_MK_lift 70 rfl) rfl 5 rfl ?_
        refine r_goto (q := 148) (dc dt_MK_lift 71 rfl) (by decide) ?_
        exact (hJ v7 ((if_neg (by first | omega | grind)).symm))
    ·
      refine r_iload (q := 135) (dc dt_MK_lift 67 rfl) rfl 6 rfl ?_
      refine r_iload (q := 137) (dc dt_MK_lift 68 rfl) rfl 4 rfl ?_
      obtain ⟨o13, h⟩ := h
      have hJ : ∀ (w_0 : Int), w_0 = (if v5 = 0 then -v7 else v7) → A G m_MK_lift 148 [(0, O 34), (1, I v1), (2, I v2), (4, I v4), (5, I v5), (7, I v7), (8, I v8)] [I w_0, I v8] σ P := by
        intro w_0 z_0
        subst z_0
        refine r_iadd (q := 149) (dc dt_MK_lift 74 rfl) rfl ?_
        refine r_istore (q := 151) (dc dt_MK_lift 75 rfl) rfl (by decide) rfl ?_
        refine r_aload_n (q := 152) (dc dt_MK_lift 76 rfl) rfl rfl 1 rfl ?_
        refine r_getO (q := 155) (v := 34 + 8) fl_MK_25 (dc dt_MK_lift 77 rfl) rfl rfl rfl ?_
        refine r_aload_n (q := 156) (dc dt_MK_lift 78 rfl) rfl rfl 1 rfl ?_
        refine r_getO (q := 159) (v := 34 + 1) fl_MK_12 (dc dt_MK_lift 79 rfl) rfl rfl rfl ?_
        refine r_getI (q := 162) (v := σ.2.1 (34 + 1) 0) fl_MK_38 (dc dt_MK_lift 80 rfl) rfl rfl rfl rfl (fun g14 => ?_)
        refine r_iload (q := 164) (dc dt_MK_lift 81 rfl) rfl 6 rfl ?_
        obtain ⟨o15, h⟩ := h
        obtain ⟨o16, h⟩ := h
        refine r_iast (q := 165) (dc dt_MK_lift 82 rfl) rfl rfl o15 o16 (fun σ17 e18 => ?_)
        have h := h σ17 e18
        refine r_aload_n (q := 166) (dc dt_MK_lift 83 rfl) rfl rfl 1 rfl ?_
        refine r_getO (q := 169) (v := 34 + 1) fl_MK_12 (dc dt_MK_lift 84 rfl) rfl rfl rfl ?_
        refine r_iload_n (q := 170) (dc dt_MK_lift 85 rfl) rfl rfl 2 rfl ?_
        refine r_iload_n (q := 171) (dc dt_MK_lift 86 rfl) rfl rfl 2 rfl ?_
        refine r_iload_n (q := 172) (dc dt_MK_lift 87 rfl) rfl rfl 3 rfl ?_
        refine r_iadd (q := 173) (dc dt_MK_lift 88 rfl) rfl ?_
        refine r_iload (q := 175) (dc dt_MK_lift 89 rfl) rfl 0 rfl ?_
        refine r_iload (q := 177) (dc dt_MK_lift 90 rfl) rfl 0 rfl ?_
        refine r_iload (q := 179) (dc dt_MK_lift 91 rfl) rfl 4 rfl ?_
        refine r_iadd (q := 180) (dc dt_MK_lift 92 rfl) rfl ?_
        refine r_callVv (q := 183) mk_BX_addBox lm_MK_42 (RMO.of rfl) rfl (dc dt_MK_lift 93 rfl) rfl rfl [I v1, I (v1 + v2), I (v8 + (if v5 = 0 then -v7 else v7)), I ((v8 + (if v5 = 0 then -v7 else v7)) + v4)] [] rfl rfl (Nat.le_of_ble_eq_true rfl) h (fun u19 h => ?_)
        refine r_iload (q := 185) (dc dt_MK_lift 94 rfl) rfl 5 rfl ?_
        have hJ : ∀ (w_0 : Int), w_0 = (if v5 = 0 then v8 + (if v5 = 0 then -v7 else v7) else (v8 + (if v5 = 0 then -v7 else v7)) + v4) → A G m_MK_lift 198 [(9, I (v8 + (if v5 = 0 then -v7 else v7))), (0, O 34), (1, I v1), (2, I v2), (4, I v4), (5, I v5), (7, I v7), (8, I v8)] [I w_0] u19 P := by
          intro w_0 z_0
          subst z_0
          obtain ⟨o20, h⟩ := h
          exact r_iret rfl (dc dt_MK_lift 101 rfl) o20 h
        clear h
        refine r_if_eq (q := 188) (t := 196) (dc dt_MK_lift 95 rfl) rfl (by decide) o13 (fun q_ => ?_) (fun q_ => ?_)
        · have q23 := q_
          refine r_iload (q := 198) (dc dt_MK_lift 100 rfl) rfl 0 rfl ?_
          exact (hJ (v8 + (if v5 = 0 then -v7 else v7)) ((if_pos (by first | omega | grind)).symm))
        · have q23 := q_
          refine r_iload (q := 190) (dc dt_MK_lift 96 rfl) rfl 0 rfl ?_
          refine r_iload (q := 192) (dc dt_MK_lift 97 rfl) rfl 4 rfl ?_
          refine r_iadd (q := 193) (dc dt_MK_lift 98 rfl) rfl ?_
          refine r_goto (q := 198) (dc dt_MK_lift 99 rfl) (by decide) ?_
          exact (hJ ((v8 + (if v5 = 0 then -v7 else v7)) + v4) ((if_neg (by first | omega | grind)).symm))
      clear h
      refine r_if_eq (q := 140) (t := 145) (dc dt_MK_lift 69 rfl) rfl (by decide) o13 (fun q_ => ?_) (fun q_ => ?_)
      · have q24 := q_
        refine r_iload (q := 147) (dc dt_MK_lift 72 rfl) rfl 5 rfl ?_
        refine r_ineg (q := 148) (dc dt_MK_lift 73 rfl) rfl ?_
        exact (hJ (-v7) ((if_pos (by first | omega | grind)).symm))
      · have q24 := q_
        refine r_iload (q := 142) (dc dt_MK_lift 70 rfl) rfl 5 rfl ?_
        refine r_goto (q := 148) (dc dt_MK_lift 71 rfl) (by decide) ?_
        exact (hJ v7 ((if_neg (by first | omega | grind)).symm))
    ·
      refine r_iload (q := 135) (dc dt_MK_lift 67 rfl) rfl 6 rfl ?_
      refine r_iload (q := 137) (dc dt_MK_lift 68 rfl) rfl 4 rfl ?_
      obtain ⟨o13, h⟩ := h
      have hJ : ∀ (w_0 : Int), w_0 = (if v5 = 0 then -v7 else v7) → A G m_MK_lift 148 [(0, O 34), (1, I v1), (2, I v2), (4, I v4), (5, I v5), (7, I v7), (8, I v8)] [I w_0, I v8] σ P := by
        intro w_0 z_0
        subst z_0
        refine r_iadd (q := 149) (dc dt_MK_lift 74 rfl) rfl ?_
        refine r_istore (q := 151) (dc dt_MK_lift 75 rfl) rfl (by decide) rfl ?_
        refine r_aload_n (q := 152) (dc dt_MK_lift 76 rfl) rfl rfl 1 rfl ?_
        refine r_getO (q := 155) (v := 34 + 8) fl_MK_25 (dc dt_MK_lift 77 rfl) rfl rfl rfl ?_
        refine r_aload_n (q := 156) (dc dt_MK_lift 78 rfl) rfl rfl 1 rfl ?_
        refine r_getO (q := 159) (v := 34 + 1) fl_MK_12 (dc dt_MK_lift 79 rfl) rfl rfl rfl ?_
        refine r_getI (q := 162) (v := σ.2.1 (34 + 1) 0) fl_MK_38 (dc dt_MK_lift 80 rfl) rfl rfl rfl rfl (fun g14 => ?_)
        refine r_iload (q := 164) (dc dt_MK_lift 81 rfl) rfl 6 rfl ?_
        obtain ⟨o15, h⟩ := h
        obtain ⟨o16, h⟩ := h
        refine r_iast (q := 165) (dc dt_MK_lift 82 rfl) rfl rfl o15 o16 (fun σ17 e18 => ?_)
        have h := h σ17 e18
        refine r_aload_n (q := 166) (dc dt_MK_lift 83 rfl) rfl rfl 1 rfl ?_
        refine r_getO (q := 169) (v := 34 + 1) fl_MK_12 (dc dt_MK_lift 84 rfl) rfl rfl rfl ?_
        refine r_iload_n (q := 170) (dc dt_MK_lift 85 rfl) rfl rfl 2 rfl ?_
        refine r_iload_n (q := 171) (dc dt_MK_lift 86 rfl) rfl rfl 2 rfl ?_
        refine r_iload_n (q := 172) (dc dt_MK_lift 87 rfl) rfl rfl 3 rfl ?_
        refine r_iadd (q := 173) (dc dt_MK_lift 88 rfl) rfl ?_
        refine r_iload (q := 175) (dc dt_MK_lift 89 rfl) rfl 0 rfl ?_
        refine r_iload (q := 177) (dc dt_MK_lift 90 rfl) rfl 0 rfl ?_
        refine r_iload (q := 179) (dc dt_MK_lift 91 rfl) rfl 4 rfl ?_
        refine r_iadd (q := 180) (dc dt_MK_lift 92 rfl) rfl ?_
        refine r_callVv (q := 183) mk_BX_addBox lm_MK_42 (RMO.of rfl) rfl (dc dt_MK_lift 93 rfl) rfl rfl [I v1, I (v1 + v2), I (v8 + (if v5 = 0 then -v7 else v7)), I ((v8 + (if v5 = 0 then -v7 else v7)) + v4)] [] rfl rfl (Nat.le_of_ble_eq_true rfl) h (fun u19 h => ?_)
        refine r_iload (q := 185) (dc dt_MK_lift 94 rfl) rfl 5 rfl ?_
        have hJ : ∀ (w_0 : Int), w_0 = (if v5 = 0 then v8 + (if v5 = 0 then -v7 else v7) else (v8 + (if v5 = 0 then -v7 else v7)) + v4) → A G m_MK_lift 198 [(9, I (v8 + (if v5 = 0 then -v7 else v7))), (0, O 34), (1, I v1), (2, I v2), (4, I v4), (5, I v5), (7, I v7), (8, I v8)] [I w_0] u19 P := by
          intro w_0 z_0
          subst z_0
          obtain ⟨o20, h⟩ := h
          exact r_iret rfl (dc dt_MK_lift 101 rfl) o20 h
        clear h
        refine r_if_eq (q := 188) (t := 196) (dc dt_MK_lift 95 rfl) rfl (by decide) o13 (fun q_ => ?_) (fun q_ => ?_)
        · have q23 := q_
          refine r_iload (q := 198) (dc dt_MK_lift 100 rfl) rfl 0 rfl ?_
          exact (hJ (v8 + (if v5 = 0 then -v7 else v7)) ((if_pos (by first | omega | grind)).symm))
        · have q23 := q_
          refine r_iload (q := 190) (dc dt_MK_lift 96 rfl) rfl 0 rfl ?_
          refine r_iload (q := 192) (dc dt_MK_lift 97 rfl) rfl 4 rfl ?_
          refine r_iadd (q := 193) (dc dt_MK_lift 98 rfl) rfl ?_
          refine r_goto (q := 198) (dc dt_MK_lift 99 rfl) (by decide) ?_
          exact (hJ ((v8 + (if v5 = 0 then -v7 else v7)) + v4) ((if_neg (by first | omega | grind)).symm))
      clear h
      refine r_if_eq (q := 140) (t := 145) (dc dt_MK_lift 69 rfl) rfl (by decide) o13 (fun q_ => ?_) (fun q_ => ?_)
      · have q24 := q_
        refine r_iload (q := 147) (dc dt_MK_lift 72 rfl) rfl 5 rfl ?_
        refine r_ineg (q := 148) (dc dt_MK_lift 73 rfl) rfl ?_
        exact (hJ (-v7) ((if_pos (by first | omega | grind)).symm))
      · have q24 := q_
        refine r_iload (q := 142) (dc dt_MK_lift 70 rfl) rfl 5 rfl ?_
        refine r_goto (q := 148) (dc dt_MK_lift 71 rfl) (by decide) ?_
        exact (hJ v7 ((if_neg (by first | omega | grind)).symm))
    ·
      refine r_iload (q := 135) (dc dt_MK_lift 67 rfl) rfl 6 rfl ?_
      refine r_iload (q := 137) (dc dt_MK_lift 68 rfl) rfl 4 rfl ?_
      obtain ⟨o13, h⟩ := h
      have hJ : ∀ (w_0 : Int), w_0 = (if v5 = 0 then -v7 else v7) → A G m_MK_lift 148 [(0, O 34), (1, I v1), (2, I v2), (4, I v4), (5, I v5), (7, I v7), (8, I v8)] [I w_0, I v8] σ P := by
        intro w_0 z_0
        subst z_0
        refine r_iadd (q := 149) (dc dt_MK_lift 74 rfl) rfl ?_
        refine r_istore (q := 151) (dc dt_MK_lift 75 rfl) rfl (by decide) rfl ?_
        refine r_aload_n (q := 152) (dc dt_MK_lift 76 rfl) rfl rfl 1 rfl ?_
        refine r_getO (q := 155) (v := 34 + 8) fl_MK_25 (dc dt_MK_lift 77 rfl) rfl rfl rfl ?_
        refine r_aload_n (q := 156) (dc dt_MK_lift 78 rfl) rfl rfl 1 rfl ?_
        refine r_getO (q := 159) (v := 34 + 1) fl_MK_12 (dc dt_MK_lift 79 rfl) rfl rfl rfl ?_
        refine r_getI (q := 162) (v := σ.2.1 (34 + 1) 0) fl_MK_38 (dc dt_MK_lift 80 rfl) rfl rfl rfl rfl (fun g14 => ?_)
        refine r_iload (q := 164) (dc dt_MK_lift 81 rfl) rfl 6 rfl ?_
        obtain ⟨o15, h⟩ := h
        obtain ⟨o16, h⟩ := h
        refine r_iast (q := 165) (dc dt_MK_lift 82 rfl) rfl rfl o15 o16 (fun σ17 e18 => ?_)
        have h := h σ17 e18
        refine r_aload_n (q := 166) (dc dt_MK_lift 83 rfl) rfl rfl 1 rfl ?_
        refine r_getO (q := 169) (v := 34 + 1) fl_MK_12 (dc dt_MK_lift 84 rfl) rfl rfl rfl ?_
        refine r_iload_n (q := 170) (dc dt_MK_lift 85 rfl) rfl rfl 2 rfl ?_
        refine r_iload_n (q := 171) (dc dt_MK_lift 86 rfl) rfl rfl 2 rfl ?_
        refine r_iload_n (q := 172) (dc dt_MK_lift 87 rfl) rfl rfl 3 rfl ?_
        refine r_iadd (q := 173) (dc dt_MK_lift 88 rfl) rfl ?_
        refine r_iload (q := 175) (dc dt_MK_lift 89 rfl) rfl 0 rfl ?_
        refine r_iload (q := 177) (dc dt_MK_lift 90 rfl) rfl 0 rfl ?_
        refine r_iload (q := 179) (dc dt_MK_lift 91 rfl) rfl 4 rfl ?_
        refine r_iadd (q := 180) (dc dt_MK_lift 92 rfl) rfl ?_
        refine r_callVv (q := 183) mk_BX_addBox lm_MK_42 (RMO.of rfl) rfl (dc dt_MK_lift 93 rfl) rfl rfl [I v1, I (v1 + v2), I (v8 + (if v5 = 0 then -v7 else v7)), I ((v8 + (if v5 = 0 then -v7 else v7)) + v4)] [] rfl rfl (Nat.le_of_ble_eq_true rfl) h (fun u19 h => ?_)
        refine r_iload (q := 185) (dc dt_MK_lift 94 rfl) rfl 5 rfl ?_
        have hJ : ∀ (w_0 : Int), w_0 = (if v5 = 0 then v8 + (if v5 = 0 then -v7 else v7) else (v8 + (if v5 = 0 then -v7 else v7)) + v4) → A G m_MK_lift 198 [(9, I (v8 + (if v5 = 0 then -v7 else v7))), (0, O 34), (1, I v1), (2, I v2), (4, I v4), (5, I v5), (7, I v7), (8, I v8)] [I w_0] u19 P := by
          intro w_0 z_0
          subst z_0
          obtain ⟨o20, h⟩ := h
          exact r_iret rfl (dc dt_MK_lift 101 rfl) o20 h
        clear h
        refine r_if_eq (q := 188) (t := 196) (dc dt_MK_lift 95 rfl) rfl (by decide) o13 (fun q_ => ?_) (fun q_ => ?_)
        · have q23 := q_
          refine r_iload (q := 198) (dc dt_MK_lift 100 rfl) rfl 0 rfl ?_
          exact (hJ (v8 + (if v5 = 0 then -v7 else v7)) ((if_pos (by first | omega | grind)).symm))
        · have q23 := q_
          refine r_iload (q := 190) (dc dt_MK_lift 96 rfl) rfl 0 rfl ?_
          refine r_iload (q := 192) (dc dt_MK_lift 97 rfl) rfl 4 rfl ?_
          refine r_iadd (q := 193) (dc dt_MK_lift 98 rfl) rfl ?_
          refine r_goto (q := 198) (dc dt_MK_lift 99 rfl) (by decide) ?_
          exact (hJ ((v8 + (if v5 = 0 then -v7 else v7)) + v4) ((if_neg (by first | omega | grind)).symm))
      clear h
      refine r_if_eq (q := 140) (t := 145) (dc dt_MK_lift 69 rfl) rfl (by decide) o13 (fun q_ => ?_) (fun q_ => ?_)
      · have q24 := q_
        refine r_iload (q := 147) (dc dt_MK_lift 72 rfl) rfl 5 rfl ?_
        refine r_ineg (q := 148) (dc dt_MK_lift 73 rfl) rfl ?_
        exact (hJ (-v7) ((if_pos (by first | omega | grind)).symm))
      · have q24 := q_
        refine r_iload (q := 142) (dc dt_MK_lift 70 rfl) rfl 5 rfl ?_
        refine r_goto (q := 148) (dc dt_MK_lift 71 rfl) (by decide) ?_
        exact (hJ v7 ((if_neg (by first | omega | grind)).symm))
def tb_LN_putMark : List (Nat × Instr × Nat) := [(0, .aload_n 0, 1), (1, .getfield 51, 3), (4, .aload_n 0, 1), (5, .getfield 55, 3), (8, .getfield 117, 3), (11, .getfield 121, 3), (14, .iload_n 1, 1), (15, .iaload, 1), (16, .iconst 0, 1), (17, .invokevirtual 98, 3), (20, .istore 5, 2), (22, .iload 5, 2), (24, .bipush (-6), 2), (26, .if_icmp .ne 5, 3), (29, .iload_n 3, 1), (30, .ireturn, 1), (31, .aload_n 0, 1), (32, .getfield 51, 3), (35, .getfield 70, 3), (38, .iload 5, 2), (40, .aaload, 1), (41, .astore 6, 2), (43, .aload_n 0, 1), (44, .getfield 40, 3), (47, .getfield 130, 3), (50, .iload_n 2, 1), (51, .iaload, 1), (52, .aload_n 0, 1), (53, .getfield 51, 3), (56, .getfield 70, 3), (59, .aload_n 0, 1), (60, .getfield 31, 3), (63, .iload_n 2, 1), (64, .iaload, 1), (65, .aaload, 1), (66, .bipush 6, 2), (68, .iaload, 1), (69, .iadd, 1), (70, .aload 6, 2), (72, .iconst 2, 1), (73, .iaload, 1), (74, .iconst 2, 1), (75, .idiv, 1), (76, .isub, 1), (77, .istore 7, 2), (79, .aload_n 0, 1), (80, .getfield 47, 3), (83, .getfield 133, 3), (86, .aload_n 0, 1), (87, .getfield 47, 3), (90, .getfield 104, 3), (93, .getfield 59, 3), (96, .iload_n 1, 1), (97, .iastore, 1), (98, .aload_n 0, 1), (99, .getfield 47, 3), (102, .getfield 134, 3), (105, .aload_n 0, 1), (106, .getfield 47, 3), (109, .getfield 104, 3), (112, .getfield 59, 3), (115, .iload_n 2, 1), (116, .iastore, 1), (117, .aload_n 0, 1), (118, .getfield 47, 3), (121, .iload 7, 2), (123, .aload 6, 2), (125, .iconst 2, 1), (126, .iaload, 1), (127, .iload_n 3, 1), (128, .aload 6, 2), (130, .iconst 3, 1), (131, .iaload, 1), (132, .iload 4, 2), (134, .aload_n 0, 1), (135, .getfield 40, 3), (138, .invokevirtual 137, 3), (141, .ireturn, 1)]
theorem dt_LN_putMark : DT (cM m_LN_putMark) tb_LN_putMark := by unfold DT; decide +kernel
abbrev a_LN_putMark_0 (G : GT) (q0 : Nat) (v1 : Int) (v2 : Int) (v3 : Int) (v4 : Int) (σ : St) (P : Int → St → Prop) : Prop := A G m_LN_putMark 0 [(0, O q0), (1, I v1), (2, I v2), (3, I v3), (4, I v4)] [] σ P
set_option maxRecDepth 20000 in
theorem k_LN_putMark_0 {G : GT} {σ : St} {P : Int → St → Prop} {q0 : Nat} {v1 : Int} {v2 : Int} {v3 : Int} {v4 : Int} (hq0 : isL q0) 
    (h : (0 ≤ v1 ∧ v1 < 80) ∧ p_SC_plainForm σ (σ.1 57 v1.toNat) 0 ∧ (f_SC_plainForm σ (σ.1 57 v1.toNat) 0 ≠ (-6) → (0 ≤ f_SC_plainForm σ (σ.1 57 v1.toNat) 0 ∧ f_SC_plainForm σ (σ.1 57 v1.toNat) 0 < 200) ∧ (0 ≤ v2 ∧ v2 < 80) ∧ (0 ≤ σ.1 (q0 + 17) v2.toNat ∧ σ.1 (q0 + 17) v2.toNat < 200) ∧ 0 ≤ σ.1 (176 + (f_SC_plainForm σ (σ.1 57 v1.toNat) 0).toNat) 2 ∧ (0 ≤ σ.2.1 (q0 + 7) 0 ∧ σ.2.1 (q0 + 7) 0 < 80) ∧ rng v1 ∧ (∀ σ16, σ16 = sa σ (q0 + 12) ((σ.2.1 (q0 + 7) 0).toNat) v1 → rng v2 ∧ (∀ σ20, σ20 = sa σ16 (q0 + 13) ((σ.2.1 (q0 + 7) 0).toNat) v2 → CJ G m_MK_lift [O (q0 + 6), I (((σ.1 (q0 + 2) v2.toNat) + (σ.1 (176 + (σ.1 (q0 + 17) v2.toNat).toNat) 6)) - ((σ.1 (176 + (f_SC_plainForm σ (σ.1 57 v1.toNat) 0).toNat) 2) / 2)), I (σ20.1 (176 + (f_SC_plainForm σ (σ.1 57 v1.toNat) 0).toNat) 2), I v3, I (σ20.1 (176 + (f_SC_plainForm σ (σ.1 57 v1.toNat) 0).toNat) 3), I v4, O (q0 + 1)] σ20 (fun r25 u24 => P r25 u24)))) ∧ (f_SC_plainForm σ (σ.1 57 v1.toNat) 0 = (-6) → rng v3 ∧ P v3 σ)) :
    a_LN_putMark_0 G q0 v1 v2 v3 v4 σ P := by
  rcases hq0 with rfl | rfl
  ·
    refine r_aload_n (q := 1) (dc dt_LN_putMark 0 rfl) rfl rfl 0 rfl ?_
    refine r_getO (q := 4) (v := 1) fl_LN_51 (dc dt_LN_putMark 1 rfl) rfl rfl rfl ?_
    refine r_aload_n (q := 5) (dc dt_LN_putMark 2 rfl) rfl rfl 0 rfl ?_
    refine r_getO (q := 8) (v := 4) fl_LN_55 (dc dt_LN_putMark 3 rfl) rfl rfl rfl ?_
    refine r_getO (q := 11) (v := 2) fl_LN_117 (dc dt_LN_putMark 4 rfl) rfl ly4 rfl ?_
    refine r_getO (q := 14) (v := 57) fl_LN_121 (dc dt_LN_putMark 5 rfl) rfl ly2 rfl ?_
    refine r_iload_n (q := 15) (dc dt_LN_putMark 6 rfl) rfl rfl 1 rfl ?_
    obtain ⟨o1, h⟩ := h
    refine r_iald (q := 16) (v := σ.1 57 v1.toNat) (dc dt_LN_putMark 7 rfl) rfl ly57 o1 rfl (fun g2 => ?_)
    refine r_iconst (q := 17) (dc dt_LN_putMark 8 rfl) rfl rfl ?_
    obtain ⟨o3, h⟩ := h
    refine r_callVi (q := 20) mk_SC_plainForm lm_LN_98 (RMO.of rfl) rfl (dc dt_LN_putMark 9 rfl) rfl ly1 [I (σ.1 57 v1.toNat), I 0] [] rfl rfl (Nat.le_of_ble_eq_true rfl) (sp_SC_plainForm o3) (fun _ _ g4 z => ?_)
    obtain ⟨z, w⟩ := z
    subst z
    replace w := w.symm
    subst w
    refine r_istore (q := 22) (dc dt_LN_putMark 10 rfl) rfl (by decide) rfl ?_
    refine r_iload (q := 24) (dc dt_LN_putMark 11 rfl) rfl 0 rfl ?_
    refine r_bipush (q := 26) (dc dt_LN_putMark 12 rfl) rfl (by decide) ?_
    refine r_icmp_ne (q := 29) (t := 31) (dc dt_LN_putMark 13 rfl) rfl (by decide) g4 (⟨by decide, by decide⟩ : rng (-6)) (fun q_ => ?_) (fun q_ => ?_)
    · have h := h.1 q_
      refine r_aload_n (q := 32) (dc dt_LN_putMark 16 rfl) rfl rfl 1 rfl ?_
      refine r_getO (q := 35) (v := 1) fl_LN_51 (dc dt_LN_putMark 17 rfl) rfl rfl rfl ?_
      refine r_getO (q := 38) (v := 54) fl_LN_70 (dc dt_LN_putMark 18 rfl) rfl ly1 rfl ?_
      refine r_iload (q := 40) (dc dt_LN_putMark 19 rfl) rfl 0 rfl ?_
      obtain ⟨o5, h⟩ := h
      refine r_aald (q := 41) (dc dt_LN_putMark 20 rfl) rfl ly54 o5 rfl ?_
      refine r_astore (q := 43) (dc dt_LN_putMark 21 rfl) rfl (by decide) rfl ?_
      refine r_aload_n (q := 44) (dc dt_LN_putMark 22 rfl) rfl rfl 2 rfl ?_
      refine r_getO (q := 47) (v := 9 + 1) fl_LN_40 (dc dt_LN_putMark 23 rfl) rfl rfl rfl ?_
      refine r_getO (q := 50) (v := 9 + 2) fl_LN_130 (dc dt_LN_putMark 24 rfl) rfl rfl rfl ?_
      refine r_iload_n (q := 51) (dc dt_LN_putMark 25 rfl) rfl rfl 4 rfl ?_
      obtain ⟨o6, h⟩ := h
      refine r_iald (q := 52) (v := σ.1 (9 + 2) v2.toNat) (dc dt_LN_putMark 26 rfl) rfl rfl o6 rfl (fun g7 => ?_)
      refine r_aload_n (q := 53) (dc dt_LN_putMark 27 rfl) rfl rfl 2 rfl ?_
      refine r_getO (q := 56) (v := 1) fl_LN_51 (dc dt_LN_putMark 28 rfl) rfl rfl rfl ?_
      refine r_getO (q := 59) (v := 54) fl_LN_70 (dc dt_LN_putMark 29 rfl) rfl ly1 rfl ?_
      refine r_aload_n (q := 60) (dc dt_LN_putMark 30 rfl) rfl rfl 2 rfl ?_
      refine r_getO (q := 63) (v := 9 + 17) fl_LN_31 (dc dt_LN_putMark 31 rfl) rfl rfl rfl ?_
      refine r_iload_n (q := 64) (dc dt_LN_putMark 32 rfl) rfl rfl 4 rfl ?_
      refine r_iald (q := 65) (v := σ.1 (9 + 17) v2.toNat) (dc dt_LN_putMark 33 rfl) rfl rfl o6 rfl (fun g8 => ?_)
      obtain ⟨o9, h⟩ := h
      refine r_aald (q := 66) (dc dt_LN_putMark 34 rfl) rfl ly54 o9 rfl ?_
      refine r_bipush (q := 68) (dc dt_LN_putMark 35 rfl) rfl (by decide) ?_
      refine r_iald (q := 69) (v := σ.1 (176 + (σ.1 (9 + 17) v2.toNat).toNat) 6) (dc dt_LN_putMark 36 rfl) rfl (lyr_176 o9) ⟨by decide, by decide⟩ rfl (fun g10 => ?_)
      refine r_iadd (q := 70) (dc dt_LN_putMark 37 rfl) rfl ?_
      refine r_aload (q := 72) (dc dt_LN_putMark 38 rfl) rfl 0 rfl ?_
      refine r_iconst (q := 73) (dc dt_LN_putMark 39 rfl) rfl rfl ?_
      refine r_iald (q := 74) (v := σ.1 (176 + (f_SC_plainForm σ (σ.1 57 v1.toNat) 0).toNat) 2) (dc dt_LN_putMark 40 rfl) rfl (lyr_176 o5) ⟨by decide, by decide⟩ rfl (fun g11 => ?_)
      refine r_iconst (q := 75) (dc dt_LN_putMark 41 rfl) rfl rfl ?_
      obtain ⟨o12, h⟩ := h
      refine r_idiv (q := 76) (dc dt_LN_putMark 42 rfl) rfl o12 g11 (by decide) (by decide) ?_
      refine r_isub (q := 77) (dc dt_LN_putMark 43 rfl) rfl ?_
      refine r_istore (q := 79) (dc dt_LN_putMark 44 rfl) rfl (by decide) rfl ?_
      refine r_aload_n (q := 80) (dc dt_LN_putMark 45 rfl) rfl rfl 3 rfl ?_
      refine r_getO (q := 83) (v := 9 + 6) fl_LN_47 (dc dt_LN_putMark 46 rfl) rfl rfl rfl ?_
      refine r_getO (q := 86) (v := 9 + 12) fl_LN_133 (dc dt_LN_putMark 47 rfl) rfl rfl rfl ?_
      refine r_aload_n (q := 87) (dc dt_LN_putMark 48 rfl) rfl rfl 3 rfl ?_
      refine r_getO (q := 90) (v := 9 + 6) fl_LN_47 (dc dt_LN_putMark 49 rfl) rfl rfl rfl ?_
      refine r_getO (q := 93) (v := 9 + 7) fl_LN_104 (dc dt_LN_putMark 50 rfl) rfl rfl rfl ?_
      refine r_getI (q := 96) (v := σ.2.1 (9 + 7) 0) fl_LN_59 (dc dt_LN_putMark 51 rfl) rfl rfl rfl rfl (fun g13 => ?_)
      refine r_iload_n (q := 97) (dc dt_LN_putMark 52 rfl) rfl rfl 4 rfl ?_
      obtain ⟨o14, h⟩ := h
      obtain ⟨o15, h⟩ := h
      refine r_iast (q := 98) (dc dt_LN_putMark 53 rfl) rfl rfl o14 o15 (fun σ16 e17 => ?_)
      have h := h σ16 e17
      refine r_aload_n (q := 99) (dc dt_LN_putMark 54 rfl) rfl rfl 3 rfl ?_
      refine r_getO (q := 102) (v := 9 + 6) fl_LN_47 (dc dt_LN_putMark 55 rfl) rfl rfl rfl ?_
      refine r_getO (q := 105) (v := 9 + 13) fl_LN_134 (dc dt_LN_putMark 56 rfl) rfl rfl rfl ?_
      refine r_aload_n (q := 106) (dc dt_LN_putMark 57 rfl) rfl rfl 3 rfl ?_
      refine r_getO (q := 109) (v := 9 + 6) fl_LN_47 (dc dt_LN_putMark 58 rfl) rfl rfl rfl ?_
      refine r_getO (q := 112) (v := 9 + 7) fl_LN_104 (dc dt_LN_putMark 59 rfl) rfl rfl rfl ?_
      refine r_getI (q := 115) (v := σ.2.1 (9 + 7) 0) fl_LN_59 (dc dt_LN_putMark 60 rfl) rfl rfl rfl (by rw [e17]; rfl) (fun g18 => ?_)
      refine r_iload_n (q := 116) (dc dt_LN_putMark 61 rfl) rfl rfl 5 rfl ?_
      obtain ⟨o19, h⟩ := h
      refine r_iast (q := 117) (dc dt_LN_putMark 62 rfl) rfl rfl o14 o19 (fun σ20 e21 => ?_)
      have h := h σ20 e21
      refine r_aload_n (q := 118) (dc dt_LN_putMark 63 rfl) rfl rfl 3 rfl ?_
      refine r_getO (q := 121) (v := 9 + 6) fl_LN_47 (dc dt_LN_putMark 64 rfl) rfl rfl rfl ?_
      refine r_iload (q := 123) (dc dt_LN_putMark 65 rfl) rfl 0 rfl ?_
      refine r_aload (q := 125) (dc dt_LN_putMark 66 rfl) rfl 1 rfl ?_
      refine r_iconst (q := 126) (dc dt_LN_putMark 67 rfl) rfl rfl ?_
      refine r_iald (q := 127) (v := σ20.1 (176 + (f_SC_plainForm σ (σ.1 57 v1.toNat) 0).toNat) 2) (dc dt_LN_putMark 68 rfl) rfl (lyr_176 o5) ⟨by decide, by decide⟩ rfl (fun g22 => ?_)
      refine r_iload_n (q := 128) (dc dt_LN_putMark 69 rfl) rfl rfl 6 rfl ?_
      refine r_aload (q := 130) (dc dt_LN_putMark 70 rfl) rfl 1 rfl ?_
      refine r_iconst (q := 131) (dc dt_LN_putMark 71 rfl) rfl rfl ?_
      refine r_iald (q := 132) (v := σ20.1 (176 + (f_SC_plainForm σ (σ.1 57 v1.toNat) 0).toNat) 3) (dc dt_LN_putMark 72 rfl) rfl (lyr_176 o5) ⟨by decide, by decide⟩ rfl (fun g23 => ?_)
      refine r_iload (q := 134) (dc dt_LN_putMark 73 rfl) rfl 7 rfl ?_
      refine r_aload_n (q := 135) (dc dt_LN_putMark 74 rfl) rfl rfl 3 rfl ?_
      refine r_getO (q := 138) (v := 9 + 1) fl_LN_40 (dc dt_LN_putMark 75 rfl) rfl rfl rfl ?_
      refine r_callVi (q := 141) mk_MK_lift lm_LN_137 (RMO.of rfl) rfl (dc dt_LN_putMark 76 rfl) rfl rfl [I (((σ.1 (9 + 2) v2.toNat) + (σ.1 (176 + (σ.1 (9 + 17) v2.toNat).toNat) 6)) - ((σ.1 (176 + (f_SC_plainForm σ (σ.1 57 v1.toNat) 0).toNat) 2) / 2)), I (σ20.1 (176 + (f_SC_plainForm σ (σ.1 57 v1.toNat) 0).toNat) 2), I v3, I (σ20.1 (176 + (f_SC_plainForm σ (σ.1 57 v1.toNat) 0).toNat) 3), I v4, O (9 + 1)] [] rfl rfl (Nat.le_of_ble_eq_true rfl) h (fun r25 u24 g26 h => ?_)
      exact r_iret rfl (dc dt_LN_putMark 77 rfl) g26 h
    · have h := h.2 q_
      refine r_iload_n (q := 30) (dc dt_LN_putMark 14 rfl) rfl rfl 4 rfl ?_
      obtain ⟨o27, h⟩ := h
      exact r_iret rfl (dc dt_LN_putMark 15 rfl) o27 h
  ·
    refine r_aload_n (q := 1) (dc dt_LN_putMark 0 rfl) rfl rfl 0 rfl ?_
    refine r_getO (q := 4) (v := 1) fl_LN_51 (dc dt_LN_putMark 1 rfl) rfl rfl rfl ?_
    refine r_aload_n (q := 5) (dc dt_LN_putMark 2 rfl) rfl rfl 0 rfl ?_
    refine r_getO (q := 8) (v := 4) fl_LN_55 (dc dt_LN_putMark 3 rfl) rfl rfl rfl ?_
    refine r_getO (q := 11) (v := 2) fl_LN_117 (dc dt_LN_putMark 4 rfl) rfl ly4 rfl ?_
    refine r_getO (q := 14) (v := 57) fl_LN_121 (dc dt_LN_putMark 5 rfl) rfl ly2 rfl ?_
    refine r_iload_n (q := 15) (dc dt_LN_putMark 6 rfl) rfl rfl 1 rfl ?_
    obtain ⟨o1, h⟩ := h
    refine r_iald (q := 16) (v := σ.1 57 v1.toNat) (dc dt_LN_putMark 7 rfl) rfl ly57 o1 rfl (fun g2 => ?_)
    refine r_iconst (q := 17) (dc dt_LN_putMark 8 rfl) rfl rfl ?_
    obtain ⟨o3, h⟩ := h
    refine r_callVi (q := 20) mk_SC_plainForm lm_LN_98 (RMO.of rfl) rfl (dc dt_LN_putMark 9 rfl) rfl ly1 [I (σ.1 57 v1.toNat), I 0] [] rfl rfl (Nat.le_of_ble_eq_true rfl) (sp_SC_plainForm o3) (fun _ _ g4 z => ?_)
    obtain ⟨z, w⟩ := z
    subst z
    replace w := w.symm
    subst w
    refine r_istore (q := 22) (dc dt_LN_putMark 10 rfl) rfl (by decide) rfl ?_
    refine r_iload (q := 24) (dc dt_LN_putMark 11 rfl) rfl 0 rfl ?_
    refine r_bipush (q := 26) (dc dt_LN_putMark 12 rfl) rfl (by decide) ?_
    refine r_icmp_ne (q := 29) (t := 31) (dc dt_LN_putMark 13 rfl) rfl (by decide) g4 (⟨by decide, by decide⟩ : rng (-6)) (fun q_ => ?_) (fun q_ => ?_)
    · have h := h.1 q_
      refine r_aload_n (q := 32) (dc dt_LN_putMark 16 rfl) rfl rfl 1 rfl ?_
      refine r_getO (q := 35) (v := 1) fl_LN_51 (dc dt_LN_putMark 17 rfl) rfl rfl rfl ?_
      refine r_getO (q := 38) (v := 54) fl_LN_70 (dc dt_LN_putMark 18 rfl) rfl ly1 rfl ?_
      refine r_iload (q := 40) (dc dt_LN_putMark 19 rfl) rfl 0 rfl ?_
      obtain ⟨o5, h⟩ := h
      refine r_aald (q := 41) (dc dt_LN_putMark 20 rfl) rfl ly54 o5 rfl ?_
      refine r_astore (q := 43) (dc dt_LN_putMark 21 rfl) rfl (by decide) rfl ?_
      refine r_aload_n (q := 44) (dc dt_LN_putMark 22 rfl) rfl rfl 2 rfl ?_
      refine r_getO (q := 47) (v := 28 + 1) fl_LN_40 (dc dt_LN_putMark 23 rfl) rfl rfl rfl ?_
      refine r_getO (q := 50) (v := 28 + 2) fl_LN_130 (dc dt_LN_putMark 24 rfl) rfl rfl rfl ?_
      refine r_iload_n (q := 51) (dc dt_LN_putMark 25 rfl) rfl rfl 4 rfl ?_
      obtain ⟨o6, h⟩ := h
      refine r_iald (q := 52) (v := σ.1 (28 + 2) v2.toNat) (dc dt_LN_putMark 26 rfl) rfl rfl o6 rfl (fun g7 => ?_)
      refine r_aload_n (q := 53) (dc dt_LN_putMark 27 rfl) rfl rfl 2 rfl ?_
      refine r_getO (q := 56) (v := 1) fl_LN_51 (dc dt_LN_putMark 28 rfl) rfl rfl rfl ?_
      refine r_getO (q := 59) (v := 54) fl_LN_70 (dc dt_LN_putMark 29 rfl) rfl ly1 rfl ?_
      refine r_aload_n (q := 60) (dc dt_LN_putMark 30 rfl) rfl rfl 2 rfl ?_
      refine r_getO (q := 63) (v := 28 + 17) fl_LN_31 (dc dt_LN_putMark 31 rfl) rfl rfl rfl ?_
      refine r_iload_n (q := 64) (dc dt_LN_putMark 32 rfl) rfl rfl 4 rfl ?_
      refine r_iald (q := 65) (v := σ.1 (28 + 17) v2.toNat) (dc dt_LN_putMark 33 rfl) rfl rfl o6 rfl (fun g8 => ?_)
      obtain ⟨o9, h⟩ := h
      refine r_aald (q := 66) (dc dt_LN_putMark 34 rfl) rfl ly54 o9 rfl ?_
      refine r_bipush (q := 68) (dc dt_LN_putMark 35 rfl) rfl (by decide) ?_
      refine r_iald (q := 69) (v := σ.1 (176 + (σ.1 (28 + 17) v2.toNat).toNat) 6) (dc dt_LN_putMark 36 rfl) rfl (lyr_176 o9) ⟨by decide, by decide⟩ rfl (fun g10 => ?_)
      refine r_iadd (q := 70) (dc dt_LN_putMark 37 rfl) rfl ?_
      refine r_aload (q := 72) (dc dt_LN_putMark 38 rfl) rfl 0 rfl ?_
      refine r_iconst (q := 73) (dc dt_LN_putMark 39 rfl) rfl rfl ?_
      refine r_iald (q := 74) (v := σ.1 (176 + (f_SC_plainForm σ (σ.1 57 v1.toNat) 0).toNat) 2) (dc dt_LN_putMark 40 rfl) rfl (lyr_176 o5) ⟨by decide, by decide⟩ rfl (fun g11 => ?_)
      refine r_iconst (q := 75) (dc dt_LN_putMark 41 rfl) rfl rfl ?_
      obtain ⟨o12, h⟩ := h
      refine r_idiv (q := 76) (dc dt_LN_putMark 42 rfl) rfl o12 g11 (by decide) (by decide) ?_
      refine r_isub (q := 77) (dc dt_LN_putMark 43 rfl) rfl ?_
      refine r_istore (q := 79) (dc dt_LN_putMark 44 rfl) rfl (by decide) rfl ?_
      refine r_aload_n (q := 80) (dc dt_LN_putMark 45 rfl) rfl rfl 3 rfl ?_
      refine r_getO (q := 83) (v := 28 + 6) fl_LN_47 (dc dt_LN_putMark 46 rfl) rfl rfl rfl ?_
      refine r_getO (q := 86) (v := 28 + 12) fl_LN_133 (dc dt_LN_putMark 47 rfl) rfl rfl rfl ?_
      refine r_aload_n (q := 87) (dc dt_LN_putMark 48 rfl) rfl rfl 3 rfl ?_
      refine r_getO (q := 90) (v := 28 + 6) fl_LN_47 (dc dt_LN_putMark 49 rfl) rfl rfl rfl ?_
      refine r_getO (q := 93) (v := 28 + 7) fl_LN_104 (dc dt_LN_putMark 50 rfl) rfl rfl rfl ?_
      refine r_getI (q := 96) (v := σ.2.1 (28 + 7) 0) fl_LN_59 (dc dt_LN_putMark 51 rfl) rfl rfl rfl rfl (fun g13 => ?_)
      refine r_iload_n (q := 97) (dc dt_LN_putMark 52 rfl) rfl rfl 4 rfl ?_
      obtain ⟨o14, h⟩ := h
      obtain ⟨o15, h⟩ := h
      refine r_iast (q := 98) (dc dt_LN_putMark 53 rfl) rfl rfl o14 o15 (fun σ16 e17 => ?_)
      have h := h σ16 e17
      refine r_aload_n (q := 99) (dc dt_LN_putMark 54 rfl) rfl rfl 3 rfl ?_
      refine r_getO (q := 102) (v := 28 + 6) fl_LN_47 (dc dt_LN_putMark 55 rfl) rfl rfl rfl ?_
      refine r_getO (q := 105) (v := 28 + 13) fl_LN_134 (dc dt_LN_putMark 56 rfl) rfl rfl rfl ?_
      refine r_aload_n (q := 106) (dc dt_LN_putMark 57 rfl) rfl rfl 3 rfl ?_
      refine r_getO (q := 109) (v := 28 + 6) fl_LN_47 (dc dt_LN_putMark 58 rfl) rfl rfl rfl ?_
      refine r_getO (q := 112) (v := 28 + 7) fl_LN_104 (dc dt_LN_putMark 59 rfl) rfl rfl rfl ?_
      refine r_getI (q := 115) (v := σ.2.1 (28 + 7) 0) fl_LN_59 (dc dt_LN_putMark 60 rfl) rfl rfl rfl (by rw [e17]; rfl) (fun g18 => ?_)
      refine r_iload_n (q := 116) (dc dt_LN_putMark 61 rfl) rfl rfl 5 rfl ?_
      obtain ⟨o19, h⟩ := h
      refine r_iast (q := 117) (dc dt_LN_putMark 62 rfl) rfl rfl o14 o19 (fun σ20 e21 => ?_)
      have h := h σ20 e21
      refine r_aload_n (q := 118) (dc dt_LN_putMark 63 rfl) rfl rfl 3 rfl ?_
      refine r_getO (q := 121) (v := 28 + 6) fl_LN_47 (dc dt_LN_putMark 64 rfl) rfl rfl rfl ?_
      refine r_iload (q := 123) (dc dt_LN_putMark 65 rfl) rfl 0 rfl ?_
      refine r_aload (q := 125) (dc dt_LN_putMark 66 rfl) rfl 1 rfl ?_
      refine r_iconst (q := 126) (dc dt_LN_putMark 67 rfl) rfl rfl ?_
      refine r_iald (q := 127) (v := σ20.1 (176 + (f_SC_plainForm σ (σ.1 57 v1.toNat) 0).toNat) 2) (dc dt_LN_putMark 68 rfl) rfl (lyr_176 o5) ⟨by decide, by decide⟩ rfl (fun g22 => ?_)
      refine r_iload_n (q := 128) (dc dt_LN_putMark 69 rfl) rfl rfl 6 rfl ?_
      refine r_aload (q := 130) (dc dt_LN_putMark 70 rfl) rfl 1 rfl ?_
      refine r_iconst (q := 131) (dc dt_LN_putMark 71 rfl) rfl rfl ?_
      refine r_iald (q := 132) (v := σ20.1 (176 + (f_SC_plainForm σ (σ.1 57 v1.toNat) 0).toNat) 3) (dc dt_LN_putMark 72 rfl) rfl (lyr_176 o5) ⟨by decide, by decide⟩ rfl (fun g23 => ?_)
      refine r_iload (q := 134) (dc dt_LN_putMark 73 rfl) rfl 7 rfl ?_
      refine r_aload_n (q := 135) (dc dt_LN_putMark 74 rfl) rfl rfl 3 rfl ?_
      refine r_getO (q := 138) (v := 28 + 1) fl_LN_40 (dc dt_LN_putMark 75 rfl) rfl rfl rfl ?_
      refine r_callVi (q := 141) mk_MK_lift lm_LN_137 (RMO.of rfl) rfl (dc dt_LN_putMark 76 rfl) rfl rfl [I (((σ.1 (28 + 2) v2.toNat) + (σ.1 (176 + (σ.1 (28 + 17) v2.toNat).toNat) 6)) - ((σ.1 (176 + (f_SC_plainForm σ (σ.1 57 v1.toNat) 0).toNat) 2) / 2)), I (σ20.1 (176 + (f_SC_plainForm σ (σ.1 57 v1.toNat) 0).toNat) 2), I v3, I (σ20.1 (176 + (f_SC_plainForm σ (σ.1 57 v1.toNat) 0).toNat) 3), I v4, O (28 + 1)] [] rfl rfl (Nat.le_of_ble_eq_true rfl) h (fun r25 u24 g26 h => ?_)
      exact r_iret rfl (dc dt_LN_putMark 77 rfl) g26 h
    · have h := h.2 q_
      refine r_iload_n (q := 30) (dc dt_LN_putMark 14 rfl) rfl rfl 4 rfl ?_
      obtain ⟨o27, h⟩ := h
      exact r_iret rfl (dc dt_LN_putMark 15 rfl) o27 h
def tb_LN_putMarks : List (Nat × Instr × Nat) := [(0, .aload_n 0, 1), (1, .getfield 47, 3), (4, .getfield 104, 3), (7, .iconst 0, 1), (8, .putfield 59, 3), (11, .iconst 0, 1), (12, .istore_n 1, 1), (13, .iload_n 1, 1), (14, .aload_n 0, 1), (15, .getfield 40, 3), (18, .getfield 59, 3), (21, .if_icmp .ge 157, 3), (24, .aload_n 0, 1), (25, .getfield 28, 3), (28, .iload_n 1, 1), (29, .iaload, 1), (30, .aload_n 0, 1), (31, .getfield 51, 3), (34, .getfield 105, 3), (37, .aload_n 0, 1), (38, .getfield 24, 3), (41, .iload_n 1, 1), (42, .iaload, 1), (43, .iaload, 1), (44, .iadd, 1), (45, .istore_n 2, 1), (46, .aload_n 0, 1), (47, .getfield 40, 3), (50, .getfield 108, 3), (53, .iload_n 1, 1), (54, .iaload, 1), (55, .istore_n 3, 1), (56, .aload_n 0, 1), (57, .getfield 40, 3), (60, .getfield 111, 3), (63, .iload_n 1, 1), (64, .iaload, 1), (65, .istore 4, 2), (67, .aload_n 0, 1), (68, .getfield 28, 3), (71, .iload_n 1, 1), (72, .iaload, 1), (73, .istore 5, 2), (75, .iload 5, 2), (77, .iload_n 2, 1), (78, .if_icmp .ge 94, 3), (81, .aload_n 0, 1), (82, .getfield 55, 3), (85, .getfield 62, 3), (88, .iload 5, 2), (90, .iaload, 1), (91, .iconst 1, 1), (92, .iadd, 1), (93, .istore 6, 2), (95, .iload 6, 2), (97, .aload_n 0, 1), (98, .getfield 55, 3), (101, .getfield 67, 3), (104, .iload 5, 2), (106, .iaload, 1), (107, .if_icmp .gt 59, 3), (110, .aload_n 0, 1), (111, .getfield 51, 3), (114, .getfield 114, 3), (117, .aload_n 0, 1), (118, .getfield 55, 3), (121, .getfield 117, 3), (124, .getfield 121, 3), (127, .iload 6, 2), (129, .iaload, 1), (130, .iaload, 1), (131, .iconst 3, 1), (132, .if_icmp .ne 16, 3), (135, .aload_n 0, 1), (136, .iload 6, 2), (138, .iload_n 1, 1), (139, .iload_n 3, 1), (140, .iconst 1, 1), (141, .invokevirtual 126, 3), (144, .istore_n 3, 1), (145, .goto 15, 3), (148, .aload_n 0, 1), (149, .iload 6, 2), (151, .iload_n 1, 1), (152, .iload 4, 2), (154, .iconst 0, 1), (155, .invokevirtual 126, 3), (158, .istore 4, 2), (160, .iinc 6 1, 3), (163, .goto (-68), 3), (166, .iinc 5 1, 3), (169, .goto (-94), 3), (172, .iinc 1 1, 3), (175, .goto (-162), 3), (178, .return_, 1)]
theorem dt_LN_putMarks : DT (cM m_LN_putMarks) tb_LN_putMarks := by unfold DT; decide +kernel
abbrev a_LN_putMarks_0 (G : GT) (q0 : Nat)  (σ : St) (P : Int → St → Prop) : Prop := A G m_LN_putMarks 0 [(0, O q0)] [] σ P
abbrev a_LN_putMarks_13 (G : GT) (q0 : Nat) (v1 : Int) (σ : St) (P : Int → St → Prop) : Prop := A G m_LN_putMarks 13 [(0, O q0), (1, I v1)] [] σ P
abbrev a_LN_putMarks_75 (G : GT) (q0 : Nat) (v1 : Int) (v2 : Int) (v3 : Int) (v4 : Int) (v5 : Int) (σ : St) (P : Int → St → Prop) : Prop := A G m_LN_putMarks 75 [(0, O q0), (1, I v1), (2, I v2), (3, I v3), (4, I v4), (5, I v5)] [] σ P
abbrev a_LN_putMarks_95 (G : GT) (q0 : Nat) (v1 : Int) (v2 : Int) (v3 : Int) (v4 : Int) (v5 : Int) (v6 : Int) (σ : St) (P : Int → St → Prop) : Prop := A G m_LN_putMarks 95 [(0, O q0), (1, I v1), (2, I v2), (3, I v3), (4, I v4), (5, I v5), (6, I v6)] [] σ P
set_option maxRecDepth 20000 in
theorem k_LN_putMarks_0 {G : GT} {σ : St} {P : Int → St → Prop} {q0 : Nat}  (hq0 : isL q0) 
    (h : (∀ σ1, σ1 = sf σ (q0 + 7) 0 0 → a_LN_putMarks_13 G q0 0 σ1 P)) :
    a_LN_putMarks_0 G q0  σ P := by
  rcases hq0 with rfl | rfl
  ·
    refine r_aload_n (q := 1) (dc dt_LN_putMarks 0 rfl) rfl rfl 0 rfl ?_
    refine r_getO (q := 4) (v := 9 + 6) fl_LN_47 (dc dt_LN_putMarks 1 rfl) rfl rfl rfl ?_
    refine r_getO (q := 7) (v := 9 + 7) fl_LN_104 (dc dt_LN_putMarks 2 rfl) rfl rfl rfl ?_
    refine r_iconst (q := 8) (dc dt_LN_putMarks 3 rfl) rfl rfl ?_
    refine r_put (q := 11) fl_LN_59 (dc dt_LN_putMarks 4 rfl) rfl rfl (fun _ => rfl) (Or.inl rfl) pf_10_0 (⟨by decide, by decide⟩ : rng 0) (fun σ1 e2 => ?_)
    have h := h σ1 e2
    refine r_iconst (q := 12) (dc dt_LN_putMarks 5 rfl) rfl rfl ?_
    refine r_istore_n (q := 13) (dc dt_LN_putMarks 6 rfl) rfl rfl (by decide) rfl ?_
    exact r_loc [1, 0] rfl h
  ·
    refine r_aload_n (q := 1) (dc dt_LN_putMarks 0 rfl) rfl rfl 0 rfl ?_
    refine r_getO (q := 4) (v := 28 + 6) fl_LN_47 (dc dt_LN_putMarks 1 rfl) rfl rfl rfl ?_
    refine r_getO (q := 7) (v := 28 + 7) fl_LN_104 (dc dt_LN_putMarks 2 rfl) rfl rfl rfl ?_
    refine r_iconst (q := 8) (dc dt_LN_putMarks 3 rfl) rfl rfl ?_
    refine r_put (q := 11) fl_LN_59 (dc dt_LN_putMarks 4 rfl) rfl rfl (fun _ => rfl) (Or.inl rfl) pf_10_0 (⟨by decide, by decide⟩ : rng 0) (fun σ1 e2 => ?_)
    have h := h σ1 e2
    refine r_iconst (q := 12) (dc dt_LN_putMarks 5 rfl) rfl rfl ?_
    refine r_istore_n (q := 13) (dc dt_LN_putMarks 6 rfl) rfl rfl (by decide) rfl ?_
    exact r_loc [1, 0] rfl h
set_option maxRecDepth 20000 in
theorem k_LN_putMarks_13 {G : GT} {σ : St} {P : Int → St → Prop} {q0 : Nat} {v1 : Int} (hq0 : isL q0) 
    (h : rng v1 ∧ (σ.2.1 (q0 + 1) 0 ≤ v1 → P 0 σ) ∧ (v1 < σ.2.1 (q0 + 1) 0 → (0 ≤ v1 ∧ v1 < 80) ∧ (0 ≤ σ.1 (q0 + 15) v1.toNat ∧ σ.1 (q0 + 15) v1.toNat < 60) ∧ a_LN_putMarks_75 G q0 v1 ((σ.1 (q0 + 16) v1.toNat) + (σ.1 49 ((σ.1 (q0 + 15) v1.toNat).toNat))) (σ.1 (q0 + 5) v1.toNat) (σ.1 (q0 + 4) v1.toNat) (σ.1 (q0 + 16) v1.toNat) σ P)) :
    a_LN_putMarks_13 G q0 v1 σ P := by
  rcases hq0 with rfl | rfl
  ·
    refine r_iload_n (q := 14) (dc dt_LN_putMarks 7 rfl) rfl rfl 1 rfl ?_
    refine r_aload_n (q := 15) (dc dt_LN_putMarks 8 rfl) rfl rfl 0 rfl ?_
    refine r_getO (q := 18) (v := 9 + 1) fl_LN_40 (dc dt_LN_putMarks 9 rfl) rfl rfl rfl ?_
    refine r_getI (q := 21) (v := σ.2.1 (9 + 1) 0) fl_LN_59 (dc dt_LN_putMarks 10 rfl) rfl rfl rfl rfl (fun g3 => ?_)
    obtain ⟨o4, h⟩ := h
    refine r_icmp_ge (q := 24) (t := 178) (dc dt_LN_putMarks 11 rfl) rfl (by decide) o4 g3 (fun q_ => ?_) (fun q_ => ?_)
    · have h := h.1 q_
      exact r_vret rfl (dc dt_LN_putMarks 94 rfl) h
    · have h := h.2 q_
      refine r_aload_n (q := 25) (dc dt_LN_putMarks 12 rfl) rfl rfl 0 rfl ?_
      refine r_getO (q := 28) (v := 9 + 16) fl_LN_28 (dc dt_LN_putMarks 13 rfl) rfl rfl rfl ?_
      refine r_iload_n (q := 29) (dc dt_LN_putMarks 14 rfl) rfl rfl 1 rfl ?_
      obtain ⟨o13, h⟩ := h
      refine r_iald (q := 30) (v := σ.1 (9 + 16) v1.toNat) (dc dt_LN_putMarks 15 rfl) rfl rfl o13 rfl (fun g14 => ?_)
      refine r_aload_n (q := 31) (dc dt_LN_putMarks 16 rfl) rfl rfl 0 rfl ?_
      refine r_getO (q := 34) (v := 1) fl_LN_51 (dc dt_LN_putMarks 17 rfl) rfl rfl rfl ?_
      refine r_getO (q := 37) (v := 49) fl_LN_105 (dc dt_LN_putMarks 18 rfl) rfl ly1 rfl ?_
      refine r_aload_n (q := 38) (dc dt_LN_putMarks 19 rfl) rfl rfl 0 rfl ?_
      refine r_getO (q := 41) (v := 9 + 15) fl_LN_24 (dc dt_LN_putMarks 20 rfl) rfl rfl rfl ?_
      refine r_iload_n (q := 42) (dc dt_LN_putMarks 21 rfl) rfl rfl 1 rfl ?_
      refine r_iald (q := 43) (v := σ.1 (9 + 15) v1.toNat) (dc dt_LN_putMarks 22 rfl) rfl rfl o13 rfl (fun g15 => ?_)
      obtain ⟨o16, h⟩ := h
      refine r_iald (q := 44) (v := σ.1 49 ((σ.1 (9 + 15) v1.toNat).toNat)) (dc dt_LN_putMarks 23 rfl) rfl ly49 o16 rfl (fun g17 => ?_)
      refine r_iadd (q := 45) (dc dt_LN_putMarks 24 rfl) rfl ?_
      refine r_istore_n (q := 46) (dc dt_LN_putMarks 25 rfl) rfl rfl (by decide) rfl ?_
      refine r_aload_n (q := 47) (dc dt_LN_putMarks 26 rfl) rfl rfl 1 rfl ?_
      refine r_getO (q := 50) (v := 9 + 1) fl_LN_40 (dc dt_LN_putMarks 27 rfl) rfl rfl rfl ?_
      refine r_getO (q := 53) (v := 9 + 5) fl_LN_108 (dc dt_LN_putMarks 28 rfl) rfl rfl rfl ?_
      refine r_iload_n (q := 54) (dc dt_LN_putMarks 29 rfl) rfl rfl 2 rfl ?_
      refine r_iald (q := 55) (v := σ.1 (9 + 5) v1.toNat) (dc dt_LN_putMarks 30 rfl) rfl rfl o13 rfl (fun g18 => ?_)
      refine r_istore_n (q := 56) (dc dt_LN_putMarks 31 rfl) rfl rfl (by decide) rfl ?_
      refine r_aload_n (q := 57) (dc dt_LN_putMarks 32 rfl) rfl rfl 2 rfl ?_
      refine r_getO (q := 60) (v := 9 + 1) fl_LN_40 (dc dt_LN_putMarks 33 rfl) rfl rfl rfl ?_
      refine r_getO (q := 63) (v := 9 + 4) fl_LN_111 (dc dt_LN_putMarks 34 rfl) rfl rfl rfl ?_
      refine r_iload_n (q := 64) (dc dt_LN_putMarks 35 rfl) rfl rfl 3 rfl ?_
      refine r_iald (q := 65) (v := σ.1 (9 + 4) v1.toNat) (dc dt_LN_putMarks 36 rfl) rfl rfl o13 rfl (fun g19 => ?_)
      refine r_istore (q := 67) (dc dt_LN_putMarks 37 rfl) rfl (by decide) rfl ?_
      refine r_aload_n (q := 68) (dc dt_LN_putMarks 38 rfl) rfl rfl 3 rfl ?_
      refine r_getO (q := 71) (v := 9 + 16) fl_LN_28 (dc dt_LN_putMarks 39 rfl) rfl rfl rfl ?_
      refine r_iload_n (q := 72) (dc dt_LN_putMarks 40 rfl) rfl rfl 4 rfl ?_
      refine r_iald (q := 73) (v := σ.1 (9 + 16) v1.toNat) (dc dt_LN_putMarks 41 rfl) rfl rfl o13 rfl (fun g20 => ?_)
      refine r_istore (q := 75) (dc dt_LN_putMarks 42 rfl) rfl (by decide) rfl ?_
      exact r_loc [4, 5, 3, 2, 1, 0] rfl h
  ·
    refine r_iload_n (q := 14) (dc dt_LN_putMarks 7 rfl) rfl rfl 1 rfl ?_
    refine r_aload_n (q := 15) (dc dt_LN_putMarks 8 rfl) rfl rfl 0 rfl ?_
    refine r_getO (q := 18) (v := 28 + 1) fl_LN_40 (dc dt_LN_putMarks 9 rfl) rfl rfl rfl ?_
    refine r_getI (q := 21) (v := σ.2.1 (28 + 1) 0) fl_LN_59 (dc dt_LN_putMarks 10 rfl) rfl rfl rfl rfl (fun g3 => ?_)
    obtain ⟨o4, h⟩ := h
    refine r_icmp_ge (q := 24) (t := 178) (dc dt_LN_putMarks 11 rfl) rfl (by decide) o4 g3 (fun q_ => ?_) (fun q_ => ?_)
    · have h := h.1 q_
      exact r_vret rfl (dc dt_LN_putMarks 94 rfl) h
    · have h := h.2 q_
      refine r_aload_n (q := 25) (dc dt_LN_putMarks 12 rfl) rfl rfl 0 rfl ?_
      refine r_getO (q := 28) (v := 28 + 16) fl_LN_28 (dc dt_LN_putMarks 13 rfl) rfl rfl rfl ?_
      refine r_iload_n (q := 29) (dc dt_LN_putMarks 14 rfl) rfl rfl 1 rfl ?_
      obtain ⟨o13, h⟩ := h
      refine r_iald (q := 30) (v := σ.1 (28 + 16) v1.toNat) (dc dt_LN_putMarks 15 rfl) rfl rfl o13 rfl (fun g14 => ?_)
      refine r_aload_n (q := 31) (dc dt_LN_putMarks 16 rfl) rfl rfl 0 rfl ?_
      refine r_getO (q := 34) (v := 1) fl_LN_51 (dc dt_LN_putMarks 17 rfl) rfl rfl rfl ?_
      refine r_getO (q := 37) (v := 49) fl_LN_105 (dc dt_LN_putMarks 18 rfl) rfl ly1 rfl ?_
      refine r_aload_n (q := 38) (dc dt_LN_putMarks 19 rfl) rfl rfl 0 rfl ?_
      refine r_getO (q := 41) (v := 28 + 15) fl_LN_24 (dc dt_LN_putMarks 20 rfl) rfl rfl rfl ?_
      refine r_iload_n (q := 42) (dc dt_LN_putMarks 21 rfl) rfl rfl 1 rfl ?_
      refine r_iald (q := 43) (v := σ.1 (28 + 15) v1.toNat) (dc dt_LN_putMarks 22 rfl) rfl rfl o13 rfl (fun g15 => ?_)
      obtain ⟨o16, h⟩ := h
      refine r_iald (q := 44) (v := σ.1 49 ((σ.1 (28 + 15) v1.toNat).toNat)) (dc dt_LN_putMarks 23 rfl) rfl ly49 o16 rfl (fun g17 => ?_)
      refine r_iadd (q := 45) (dc dt_LN_putMarks 24 rfl) rfl ?_
      refine r_istore_n (q := 46) (dc dt_LN_putMarks 25 rfl) rfl rfl (by decide) rfl ?_
      refine r_aload_n (q := 47) (dc dt_LN_putMarks 26 rfl) rfl rfl 1 rfl ?_
      refine r_getO (q := 50) (v := 28 + 1) fl_LN_40 (dc dt_LN_putMarks 27 rfl) rfl rfl rfl ?_
      refine r_getO (q := 53) (v := 28 + 5) fl_LN_108 (dc dt_LN_putMarks 28 rfl) rfl rfl rfl ?_
      refine r_iload_n (q := 54) (dc dt_LN_putMarks 29 rfl) rfl rfl 2 rfl ?_
      refine r_iald (q := 55) (v := σ.1 (28 + 5) v1.toNat) (dc dt_LN_putMarks 30 rfl) rfl rfl o13 rfl (fun g18 => ?_)
      refine r_istore_n (q := 56) (dc dt_LN_putMarks 31 rfl) rfl rfl (by decide) rfl ?_
      refine r_aload_n (q := 57) (dc dt_LN_putMarks 32 rfl) rfl rfl 2 rfl ?_
      refine r_getO (q := 60) (v := 28 + 1) fl_LN_40 (dc dt_LN_putMarks 33 rfl) rfl rfl rfl ?_
      refine r_getO (q := 63) (v := 28 + 4) fl_LN_111 (dc dt_LN_putMarks 34 rfl) rfl rfl rfl ?_
      refine r_iload_n (q := 64) (dc dt_LN_putMarks 35 rfl) rfl rfl 3 rfl ?_
      refine r_iald (q := 65) (v := σ.1 (28 + 4) v1.toNat) (dc dt_LN_putMarks 36 rfl) rfl rfl o13 rfl (fun g19 => ?_)
      refine r_istore (q := 67) (dc dt_LN_putMarks 37 rfl) rfl (by decide) rfl ?_
      refine r_aload_n (q := 68) (dc dt_LN_putMarks 38 rfl) rfl rfl 3 rfl ?_
      refine r_getO (q := 71) (v := 28 + 16) fl_LN_28 (dc dt_LN_putMarks 39 rfl) rfl rfl rfl ?_
      refine r_iload_n (q := 72) (dc dt_LN_putMarks 40 rfl) rfl rfl 4 rfl ?_
      refine r_iald (q := 73) (v := σ.1 (28 + 16) v1.toNat) (dc dt_LN_putMarks 41 rfl) rfl rfl o13 rfl (fun g20 => ?_)
      refine r_istore (q := 75) (dc dt_LN_putMarks 42 rfl) rfl (by decide) rfl ?_
      exact r_loc [4, 5, 3, 2, 1, 0] rfl h
set_option maxRecDepth 20000 in
theorem k_LN_putMarks_75 {G : GT} {σ : St} {P : Int → St → Prop} {q0 : Nat} {v1 : Int} {v2 : Int} {v3 : Int} {v4 : Int} {v5 : Int} (hq0 : isL q0) 
    (h : rng v5 ∧ rng v2 ∧ (v2 ≤ v5 → a_LN_putMarks_13 G q0 (v1 + 1) σ P) ∧ (v5 < v2 → (0 ≤ v5 ∧ v5 < 80) ∧ a_LN_putMarks_95 G q0 v1 v2 v3 v4 v5 ((σ.1 61 v5.toNat) + 1) σ P)) :
    a_LN_putMarks_75 G q0 v1 v2 v3 v4 v5 σ P := by
  rcases hq0 with rfl | rfl
  ·
    refine r_iload (q := 77) (dc dt_LN_putMarks 43 rfl) rfl 5 rfl ?_
    refine r_iload_n (q := 78) (dc dt_LN_putMarks 44 rfl) rfl rfl 2 rfl ?_
    obtain ⟨o21, h⟩ := h
    obtain ⟨o22, h⟩ := h
    refine r_icmp_ge (q := 81) (t := 172) (dc dt_LN_putMarks 45 rfl) rfl (by decide) o21 o22 (fun q_ => ?_) (fun q_ => ?_)
    · have h := h.1 q_
      refine r_iinc (q := 175) (k := 1) (dc dt_LN_putMarks 92 rfl) rfl rfl (by decide) rfl ?_
      refine r_goto (q := 13) (dc dt_LN_putMarks 93 rfl) (by decide) ?_
      exact r_loc [1, 0] rfl h
    · have h := h.2 q_
      refine r_aload_n (q := 82) (dc dt_LN_putMarks 46 rfl) rfl rfl 0 rfl ?_
      refine r_getO (q := 85) (v := 4) fl_LN_55 (dc dt_LN_putMarks 47 rfl) rfl rfl rfl ?_
      refine r_getO (q := 88) (v := 61) fl_LN_62 (dc dt_LN_putMarks 48 rfl) rfl ly4 rfl ?_
      refine r_iload (q := 90) (dc dt_LN_putMarks 49 rfl) rfl 5 rfl ?_
      obtain ⟨o25, h⟩ := h
      refine r_iald (q := 91) (v := σ.1 61 v5.toNat) (dc dt_LN_putMarks 50 rfl) rfl ly61 o25 rfl (fun g26 => ?_)
      refine r_iconst (q := 92) (dc dt_LN_putMarks 51 rfl) rfl rfl ?_
      refine r_iadd (q := 93) (dc dt_LN_putMarks 52 rfl) rfl ?_
      refine r_istore (q := 95) (dc dt_LN_putMarks 53 rfl) rfl (by decide) rfl ?_
      exact r_loc [1, 2, 3, 4, 5, 6, 0] rfl h
  ·
    refine r_iload (q := 77) (dc dt_LN_putMarks 43 rfl) rfl 5 rfl ?_
    refine r_iload_n (q := 78) (dc dt_LN_putMarks 44 rfl) rfl rfl 2 rfl ?_
    obtain ⟨o21, h⟩ := h
    obtain ⟨o22, h⟩ := h
    refine r_icmp_ge (q := 81) (t := 172) (dc dt_LN_putMarks 45 rfl) rfl (by decide) o21 o22 (fun q_ => ?_) (fun q_ => ?_)
    · have h := h.1 q_
      refine r_iinc (q := 175) (k := 1) (dc dt_LN_putMarks 92 rfl) rfl rfl (by decide) rfl ?_
      refine r_goto (q := 13) (dc dt_LN_putMarks 93 rfl) (by decide) ?_
      exact r_loc [1, 0] rfl h
    · have h := h.2 q_
      refine r_aload_n (q := 82) (dc dt_LN_putMarks 46 rfl) rfl rfl 0 rfl ?_
      refine r_getO (q := 85) (v := 4) fl_LN_55 (dc dt_LN_putMarks 47 rfl) rfl rfl rfl ?_
      refine r_getO (q := 88) (v := 61) fl_LN_62 (dc dt_LN_putMarks 48 rfl) rfl ly4 rfl ?_
      refine r_iload (q := 90) (dc dt_LN_putMarks 49 rfl) rfl 5 rfl ?_
      obtain ⟨o25, h⟩ := h
      refine r_iald (q := 91) (v := σ.1 61 v5.toNat) (dc dt_LN_putMarks 50 rfl) rfl ly61 o25 rfl (fun g26 => ?_)
      refine r_iconst (q := 92) (dc dt_LN_putMarks 51 rfl) rfl rfl ?_
      refine r_iadd (q := 93) (dc dt_LN_putMarks 52 rfl) rfl ?_
      refine r_istore (q := 95) (dc dt_LN_putMarks 53 rfl) rfl (by decide) rfl ?_
      exact r_loc [1, 2, 3, 4, 5, 6, 0] rfl h
set_option maxRecDepth 20000 in
theorem k_LN_putMarks_95 {G : GT} {σ : St} {P : Int → St → Prop} {q0 : Nat} {v1 : Int} {v2 : Int} {v3 : Int} {v4 : Int} {v5 : Int} {v6 : Int} (hq0 : isL q0) 
    (h : (0 ≤ v5 ∧ v5 < 80) ∧ rng v6 ∧ (σ.1 62 v5.toNat < v6 → a_LN_putMarks_75 G q0 v1 v2 v3 v4 (v5 + 1) σ P) ∧ (v6 ≤ σ.1 62 v5.toNat → (0 ≤ v6 ∧ v6 < 80) ∧ (0 ≤ σ.1 57 v6.toNat ∧ σ.1 57 v6.toNat < 60) ∧ (σ.1 47 ((σ.1 57 v6.toNat).toNat) ≠ 3 → CJ G m_LN_putMark [O q0, I v6, I v1, I v4, I 0] σ (fun r39 u38 => a_LN_putMarks_95 G q0 v1 v2 v3 r39 v5 (v6 + 1) u38 P)) ∧ (σ.1 47 ((σ.1 57 v6.toNat).toNat) = 3 → CJ G m_LN_putMark [O q0, I v6, I v1, I v3, I 1] σ (fun r42 u41 => a_LN_putMarks_95 G q0 v1 v2 r42 v4 v5 (v6 + 1) u41 P)))) :
    a_LN_putMarks_95 G q0 v1 v2 v3 v4 v5 v6 σ P := by
  rcases hq0 with rfl | rfl
  ·
    refine r_iload (q := 97) (dc dt_LN_putMarks 54 rfl) rfl 6 rfl ?_
    refine r_aload_n (q := 98) (dc dt_LN_putMarks 55 rfl) rfl rfl 0 rfl ?_
    refine r_getO (q := 101) (v := 4) fl_LN_55 (dc dt_LN_putMarks 56 rfl) rfl rfl rfl ?_
    refine r_getO (q := 104) (v := 62) fl_LN_67 (dc dt_LN_putMarks 57 rfl) rfl ly4 rfl ?_
    refine r_iload (q := 106) (dc dt_LN_putMarks 58 rfl) rfl 5 rfl ?_
    obtain ⟨o27, h⟩ := h
    refine r_iald (q := 107) (v := σ.1 62 v5.toNat) (dc dt_LN_putMarks 59 rfl) rfl ly62 o27 rfl (fun g28 => ?_)
    obtain ⟨o29, h⟩ := h
    refine r_icmp_gt (q := 110) (t := 166) (dc dt_LN_putMarks 60 rfl) rfl (by decide) o29 g28 (fun q_ => ?_) (fun q_ => ?_)
    · have h := h.1 q_
      refine r_iinc (q := 169) (k := 5) (dc dt_LN_putMarks 90 rfl) rfl rfl (by decide) rfl ?_
      refine r_goto (q := 75) (dc dt_LN_putMarks 91 rfl) (by decide) ?_
      exact r_loc [1, 2, 3, 4, 5, 0] rfl h
    · have h := h.2 q_
      refine r_aload_n (q := 111) (dc dt_LN_putMarks 61 rfl) rfl rfl 0 rfl ?_
      refine r_getO (q := 114) (v := 1) fl_LN_51 (dc dt_LN_putMarks 62 rfl) rfl rfl rfl ?_
      refine r_getO (q := 117) (v := 47) fl_LN_114 (dc dt_LN_putMarks 63 rfl) rfl ly1 rfl ?_
      refine r_aload_n (q := 118) (dc dt_LN_putMarks 64 rfl) rfl rfl 0 rfl ?_
      refine r_getO (q := 121) (v := 4) fl_LN_55 (dc dt_LN_putMarks 65 rfl) rfl rfl rfl ?_
      refine r_getO (q := 124) (v := 2) fl_LN_117 (dc dt_LN_putMarks 66 rfl) rfl ly4 rfl ?_
      refine r_getO (q := 127) (v := 57) fl_LN_121 (dc dt_LN_putMarks 67 rfl) rfl ly2 rfl ?_
      refine r_iload (q := 129) (dc dt_LN_putMarks 68 rfl) rfl 6 rfl ?_
      obtain ⟨o34, h⟩ := h
      refine r_iald (q := 130) (v := σ.1 57 v6.toNat) (dc dt_LN_putMarks 69 rfl) rfl ly57 o34 rfl (fun g35 => ?_)
      obtain ⟨o36, h⟩ := h
      refine r_iald (q := 131) (v := σ.1 47 ((σ.1 57 v6.toNat).toNat)) (dc dt_LN_putMarks 70 rfl) rfl ly47 o36 rfl (fun g37 => ?_)
      refine r_iconst (q := 132) (dc dt_LN_putMarks 71 rfl) rfl rfl ?_
      refine r_icmp_ne (q := 135) (t := 148) (dc dt_LN_putMarks 72 rfl) rfl (by decide) g37 (⟨by decide, by decide⟩ : rng 3) (fun q_ => ?_) (fun q_ => ?_)
      · have h := h.1 q_
        refine r_aload_n (q := 149) (dc dt_LN_putMarks 81 rfl) rfl rfl 0 rfl ?_
        refine r_iload (q := 151) (dc dt_LN_putMarks 82 rfl) rfl 6 rfl ?_
        refine r_iload_n (q := 152) (dc dt_LN_putMarks 83 rfl) rfl rfl 1 rfl ?_
        refine r_iload (q := 154) (dc dt_LN_putMarks 84 rfl) rfl 4 rfl ?_
        refine r_iconst (q := 155) (dc dt_LN_putMarks 85 rfl) rfl rfl ?_
        refine r_callVi (q := 158) mk_LN_putMark lm_LN_126 (RMO.of rfl) rfl (dc dt_LN_putMarks 86 rfl) rfl rfl [I v6, I v1, I v4, I 0] [] rfl rfl (Nat.le_of_ble_eq_true rfl) h (fun r39 u38 g40 h => ?_)
        refine r_istore (q := 160) (dc dt_LN_putMarks 87 rfl) rfl (by decide) rfl ?_
        refine r_iinc (q := 163) (k := 6) (dc dt_LN_putMarks 88 rfl) rfl rfl (by decide) rfl ?_
        refine r_goto (q := 95) (dc dt_LN_putMarks 89 rfl) (by decide) ?_
        exact r_loc [2, 3, 4, 5, 1, 6, 0] rfl h
      · have h := h.2 q_
        refine r_aload_n (q := 136) (dc dt_LN_putMarks 73 rfl) rfl rfl 0 rfl ?_
        refine r_iload (q := 138) (dc dt_LN_putMarks 74 rfl) rfl 6 rfl ?_
        refine r_iload_n (q := 139) (dc dt_LN_putMarks 75 rfl) rfl rfl 1 rfl ?_
        refine r_iload_n (q := 140) (dc dt_LN_putMarks 76 rfl) rfl rfl 3 rfl ?_
        refine r_iconst (q := 141) (dc dt_LN_putMarks 77 rfl) rfl rfl ?_
        refine r_callVi (q := 144) mk_LN_putMark lm_LN_126 (RMO.of rfl) rfl (dc dt_LN_putMarks 78 rfl) rfl rfl [I v6, I v1, I v3, I 1] [] rfl rfl (Nat.le_of_ble_eq_true rfl) h (fun r42 u41 g43 h => ?_)
        refine r_istore_n (q := 145) (dc dt_LN_putMarks 79 rfl) rfl rfl (by decide) rfl ?_
        refine r_goto (q := 160) (dc dt_LN_putMarks 80 rfl) (by decide) ?_
        refine r_iinc (q := 163) (k := 6) (dc dt_LN_putMarks 88 rfl) rfl rfl (by decide) rfl ?_
        refine r_goto (q := 95) (dc dt_LN_putMarks 89 rfl) (by decide) ?_
        exact r_loc [2, 3, 4, 1, 5, 6, 0] rfl h
  ·
    refine r_iload (q := 97) (dc dt_LN_putMarks 54 rfl) rfl 6 rfl ?_
    refine r_aload_n (q := 98) (dc dt_LN_putMarks 55 rfl) rfl rfl 0 rfl ?_
    refine r_getO (q := 101) (v := 4) fl_LN_55 (dc dt_LN_putMarks 56 rfl) rfl rfl rfl ?_
    refine r_getO (q := 104) (v := 62) fl_LN_67 (dc dt_LN_putMarks 57 rfl) rfl ly4 rfl ?_
    refine r_iload (q := 106) (dc dt_LN_putMarks 58 rfl) rfl 5 rfl ?_
    obtain ⟨o27, h⟩ := h
    refine r_iald (q := 107) (v := σ.1 62 v5.toNat) (dc dt_LN_putMarks 59 rfl) rfl ly62 o27 rfl (fun g28 => ?_)
    obtain ⟨o29, h⟩ := h
    refine r_icmp_gt (q := 110) (t := 166) (dc dt_LN_putMarks 60 rfl) rfl (by decide) o29 g28 (fun q_ => ?_) (fun q_ => ?_)
    · have h := h.1 q_
      refine r_iinc (q := 169) (k := 5) (dc dt_LN_putMarks 90 rfl) rfl rfl (by decide) rfl ?_
      refine r_goto (q := 75) (dc dt_LN_putMarks 91 rfl) (by decide) ?_
      exact r_loc [1, 2, 3, 4, 5, 0] rfl h
    · have h := h.2 q_
      refine r_aload_n (q := 111) (dc dt_LN_putMarks 61 rfl) rfl rfl 0 rfl ?_
      refine r_getO (q := 114) (v := 1) fl_LN_51 (dc dt_LN_putMarks 62 rfl) rfl rfl rfl ?_
      refine r_getO (q := 117) (v := 47) fl_LN_114 (dc dt_LN_putMarks 63 rfl) rfl ly1 rfl ?_
      refine r_aload_n (q := 118) (dc dt_LN_putMarks 64 rfl) rfl rfl 0 rfl ?_
      refine r_getO (q := 121) (v := 4) fl_LN_55 (dc dt_LN_putMarks 65 rfl) rfl rfl rfl ?_
      refine r_getO (q := 124) (v := 2) fl_LN_117 (dc dt_LN_putMarks 66 rfl) rfl ly4 rfl ?_
      refine r_getO (q := 127) (v := 57) fl_LN_121 (dc dt_LN_putMarks 67 rfl) rfl ly2 rfl ?_
      refine r_iload (q := 129) (dc dt_LN_putMarks 68 rfl) rfl 6 rfl ?_
      obtain ⟨o34, h⟩ := h
      refine r_iald (q := 130) (v := σ.1 57 v6.toNat) (dc dt_LN_putMarks 69 rfl) rfl ly57 o34 rfl (fun g35 => ?_)
      obtain ⟨o36, h⟩ := h
      refine r_iald (q := 131) (v := σ.1 47 ((σ.1 57 v6.toNat).toNat)) (dc dt_LN_putMarks 70 rfl) rfl ly47 o36 rfl (fun g37 => ?_)
      refine r_iconst (q := 132) (dc dt_LN_putMarks 71 rfl) rfl rfl ?_
      refine r_icmp_ne (q := 135) (t := 148) (dc dt_LN_putMarks 72 rfl) rfl (by decide) g37 (⟨by decide, by decide⟩ : rng 3) (fun q_ => ?_) (fun q_ => ?_)
      · have h := h.1 q_
        refine r_aload_n (q := 149) (dc dt_LN_putMarks 81 rfl) rfl rfl 0 rfl ?_
        refine r_iload (q := 151) (dc dt_LN_putMarks 82 rfl) rfl 6 rfl ?_
        refine r_iload_n (q := 152) (dc dt_LN_putMarks 83 rfl) rfl rfl 1 rfl ?_
        refine r_iload (q := 154) (dc dt_LN_putMarks 84 rfl) rfl 4 rfl ?_
        refine r_iconst (q := 155) (dc dt_LN_putMarks 85 rfl) rfl rfl ?_
        refine r_callVi (q := 158) mk_LN_putMark lm_LN_126 (RMO.of rfl) rfl (dc dt_LN_putMarks 86 rfl) rfl rfl [I v6, I v1, I v4, I 0] [] rfl rfl (Nat.le_of_ble_eq_true rfl) h (fun r39 u38 g40 h => ?_)
        refine r_istore (q := 160) (dc dt_LN_putMarks 87 rfl) rfl (by decide) rfl ?_
        refine r_iinc (q := 163) (k := 6) (dc dt_LN_putMarks 88 rfl) rfl rfl (by decide) rfl ?_
        refine r_goto (q := 95) (dc dt_LN_putMarks 89 rfl) (by decide) ?_
        exact r_loc [2, 3, 4, 5, 1, 6, 0] rfl h
      · have h := h.2 q_
        refine r_aload_n (q := 136) (dc dt_LN_putMarks 73 rfl) rfl rfl 0 rfl ?_
        refine r_iload (q := 138) (dc dt_LN_putMarks 74 rfl) rfl 6 rfl ?_
        refine r_iload_n (q := 139) (dc dt_LN_putMarks 75 rfl) rfl rfl 1 rfl ?_
        refine r_iload_n (q := 140) (dc dt_LN_putMarks 76 rfl) rfl rfl 3 rfl ?_
        refine r_iconst (q := 141) (dc dt_LN_putMarks 77 rfl) rfl rfl ?_
        refine r_callVi (q := 144) mk_LN_putMark lm_LN_126 (RMO.of rfl) rfl (dc dt_LN_putMarks 78 rfl) rfl rfl [I v6, I v1, I v3, I 1] [] rfl rfl (Nat.le_of_ble_eq_true rfl) h (fun r42 u41 g43 h => ?_)
        refine r_istore_n (q := 145) (dc dt_LN_putMarks 79 rfl) rfl rfl (by decide) rfl ?_
        refine r_goto (q := 160) (dc dt_LN_putMarks 80 rfl) (by decide) ?_
        refine r_iinc (q := 163) (k := 6) (dc dt_LN_putMarks 88 rfl) rfl rfl (by decide) rfl ?_
        refine r_goto (q := 95) (dc dt_LN_putMarks 89 rfl) (by decide) ?_
        exact r_loc [2, 3, 4, 1, 5, 6, 0] rfl h
def tb_JS_takeSpare : List (Nat × Instr × Nat) := [(0, .aload_n 0, 1), (1, .getfield 73, 3), (4, .invokevirtual 377, 3), (7, .aload_n 0, 1), (8, .getfield 69, 3), (11, .astore_n 1, 1), (12, .aload_n 0, 1), (13, .aload_n 0, 1), (14, .getfield 73, 3), (17, .putfield 69, 3), (20, .aload_n 0, 1), (21, .aload_n 1, 1), (22, .putfield 73, 3), (25, .aload_n 0, 1), (26, .aload_n 0, 1), (27, .getfield 76, 3), (30, .putfield 83, 3), (33, .return_, 1)]
theorem dt_JS_takeSpare : DT (cM m_JS_takeSpare) tb_JS_takeSpare := by unfold DT; decide +kernel
abbrev a_JS_takeSpare_0 (G : GT)   (σ : St) (P : Int → St → Prop) : Prop := A G m_JS_takeSpare 0 [(0, O 0)] [] σ P
set_option maxRecDepth 20000 in
theorem k_JS_takeSpare_0 {G : GT} {σ : St} {P : Int → St → Prop}    
    (h : isL σ.2.2.2 ∧ CJ G m_LN_putMarks [O σ.2.2.2] σ (fun _ u2 => (∀ σ3, σ3 = sh u2 u2.2.2.2 → (∀ σ5, σ5 = sp σ3 u2.2.2.1 → (∀ σ8, σ8 = sf σ5 0 11 (σ5.2.1 0 9) → P 0 σ8))))) :
    a_JS_takeSpare_0 G  σ P := by
  refine r_aload_n (q := 1) (dc dt_JS_takeSpare 0 rfl) rfl rfl 0 rfl ?_
  refine r_getO (q := 4) (v := σ.2.2.2) fl_JS_73 (dc dt_JS_takeSpare 1 rfl) rfl ly0 rfl ?_
  obtain ⟨o1, h⟩ := h
  refine r_callVv (q := 7) mk_LN_putMarks lm_JS_377 (RMO.of rfl) rfl (dc dt_JS_takeSpare 2 rfl) rfl (lyL_0 o1) [] [] rfl rfl (Nat.le_of_ble_eq_true rfl) h (fun u2 h => ?_)
  refine r_aload_n (q := 8) (dc dt_JS_takeSpare 3 rfl) rfl rfl 0 rfl ?_
  refine r_getO (q := 11) (v := u2.2.2.1) fl_JS_69 (dc dt_JS_takeSpare 4 rfl) rfl ly0 rfl ?_
  refine r_astore_n (q := 12) (dc dt_JS_takeSpare 5 rfl) rfl rfl (by decide) rfl ?_
  refine r_aload_n (q := 13) (dc dt_JS_takeSpare 6 rfl) rfl rfl 1 rfl ?_
  refine r_aload_n (q := 14) (dc dt_JS_takeSpare 7 rfl) rfl rfl 1 rfl ?_
  refine r_getO (q := 17) (v := u2.2.2.2) fl_JS_73 (dc dt_JS_takeSpare 8 rfl) rfl ly0 rfl ?_
  refine r_putsh (q := 20) fl_JS_69 (dc dt_JS_takeSpare 9 rfl) rfl (fun σ3 e4 => ?_)
  have h := h σ3 e4
  refine r_aload_n (q := 21) (dc dt_JS_takeSpare 10 rfl) rfl rfl 1 rfl ?_
  refine r_aload_n (q := 22) (dc dt_JS_takeSpare 11 rfl) rfl rfl 0 rfl ?_
  refine r_putsp (q := 25) fl_JS_73 (dc dt_JS_takeSpare 12 rfl) rfl (fun σ5 e6 => ?_)
  have h := h σ5 e6
  refine r_aload_n (q := 26) (dc dt_JS_takeSpare 13 rfl) rfl rfl 1 rfl ?_
  refine r_aload_n (q := 27) (dc dt_JS_takeSpare 14 rfl) rfl rfl 1 rfl ?_
  refine r_getI (q := 30) (v := σ5.2.1 0 9) fl_JS_76 (dc dt_JS_takeSpare 15 rfl) rfl ly0 rfl rfl (fun g7 => ?_)
  refine r_put (q := 33) fl_JS_83 (dc dt_JS_takeSpare 16 rfl) rfl ly0 (fun _ => rfl) (Or.inl rfl) pf_0_11 g7 (fun σ8 e9 => ?_)
  have h := h σ8 e9
  exact r_vret rfl (dc dt_JS_takeSpare 17 rfl) h
