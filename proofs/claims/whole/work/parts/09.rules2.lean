theorem fl_FI_120 : FL R_FI 120 1 10 := FL.of rfl (by decide) rfl 133 (by decide +kernel)
theorem fl_FI_129 : FL R_FI 129 1 6 := FL.of rfl (by decide) rfl 122 (by decide +kernel)
theorem fl_FI_13 : FL R_FI 13 5 2 := FL.of rfl (by decide) rfl 297 (by decide +kernel)
theorem fl_FI_16 : FL R_FI 16 5 3 := FL.of rfl (by decide) rfl 298 (by decide +kernel)
theorem fl_FI_20 : FL R_FI 20 5 4 := FL.of rfl (by decide) rfl 299 (by decide +kernel)
theorem fl_FI_23 : FL R_FI 23 5 5 := FL.of rfl (by decide) rfl 300 (by decide +kernel)
theorem fl_FI_27 : FL R_FI 27 5 6 := FL.of rfl (by decide) rfl 301 (by decide +kernel)
theorem fl_FI_30 : FL R_FI 30 5 7 := FL.of rfl (by decide) rfl 302 (by decide +kernel)
theorem fl_FI_46 : FL R_FI 46 5 0 := FL.of rfl (by decide) rfl 295 (by decide +kernel)
theorem fl_FI_50 : FL R_FI 50 5 1 := FL.of rfl (by decide) rfl 296 (by decide +kernel)
theorem fl_FI_88 : FL R_FI 88 4 8 := FL.of rfl (by decide) rfl 236 (by decide +kernel)
theorem fl_FI_92 : FL R_FI 92 1 5 := FL.of rfl (by decide) rfl 117 (by decide +kernel)
theorem fl_JS_184 : FL R_JS 184 2 1 := FL.of rfl (by decide) rfl 176 (by decide +kernel)
theorem fl_JS_190 : FL R_JS 190 2 2 := FL.of rfl (by decide) rfl 180 (by decide +kernel)
theorem fl_JS_195 : FL R_JS 195 4 14 := FL.of rfl (by decide) rfl 249 (by decide +kernel)
theorem fl_JS_198 : FL R_JS 198 4 11 := FL.of rfl (by decide) rfl 244 (by decide +kernel)
theorem fl_JS_204 : FL R_JS 204 4 7 := FL.of rfl (by decide) rfl 233 (by decide +kernel)
theorem fl_JS_207 : FL R_JS 207 4 4 := FL.of rfl (by decide) rfl 227 (by decide +kernel)
theorem fl_JS_216 : FL R_JS 216 4 3 := FL.of rfl (by decide) rfl 224 (by decide +kernel)
theorem fl_JS_35 : FL R_JS 35 0 3 := FL.of rfl (by decide) rfl 536 (by decide +kernel)
theorem fl_JS_80 : FL R_JS 80 0 10 := FL.of rfl (by decide) rfl 543 (by decide +kernel)
theorem fl_SC_31 : FL R_SC 31 1 6 := FL.of rfl (by decide) rfl 119 (by decide +kernel)
theorem fl_UN_109 : FL R_UN 109 1 5 := FL.of rfl (by decide) rfl 116 (by decide +kernel)
theorem fl_UN_112 : FL R_UN 112 1 1 := FL.of rfl (by decide) rfl 105 (by decide +kernel)
theorem fl_UN_115 : FL R_UN 115 1 7 := FL.of rfl (by decide) rfl 124 (by decide +kernel)
theorem fl_UN_118 : FL R_UN 118 1 9 := FL.of rfl (by decide) rfl 128 (by decide +kernel)
theorem fl_UN_125 : FL R_UN 125 1 8 := FL.of rfl (by decide) rfl 126 (by decide +kernel)
theorem fl_UN_15 : FL R_UN 15 4 3 := FL.of rfl (by decide) rfl 222 (by decide +kernel)
theorem fl_UN_18 : FL R_UN 18 4 4 := FL.of rfl (by decide) rfl 225 (by decide +kernel)
theorem fl_UN_22 : FL R_UN 22 4 5 := FL.of rfl (by decide) rfl 228 (by decide +kernel)
theorem fl_UN_25 : FL R_UN 25 4 6 := FL.of rfl (by decide) rfl 230 (by decide +kernel)
theorem fl_UN_28 : FL R_UN 28 4 7 := FL.of rfl (by decide) rfl 231 (by decide +kernel)
theorem fl_UN_31 : FL R_UN 31 4 8 := FL.of rfl (by decide) rfl 234 (by decide +kernel)
theorem fl_UN_35 : FL R_UN 35 4 9 := FL.of rfl (by decide) rfl 237 (by decide +kernel)
theorem fl_UN_38 : FL R_UN 38 4 10 := FL.of rfl (by decide) rfl 240 (by decide +kernel)
theorem fl_UN_41 : FL R_UN 41 4 11 := FL.of rfl (by decide) rfl 243 (by decide +kernel)
theorem fl_UN_44 : FL R_UN 44 4 12 := FL.of rfl (by decide) rfl 245 (by decide +kernel)
theorem fl_UN_47 : FL R_UN 47 4 13 := FL.of rfl (by decide) rfl 246 (by decide +kernel)
theorem fl_UN_50 : FL R_UN 50 4 14 := FL.of rfl (by decide) rfl 247 (by decide +kernel)
theorem fl_UN_53 : FL R_UN 53 4 15 := FL.of rfl (by decide) rfl 250 (by decide +kernel)
theorem fl_UN_56 : FL R_UN 56 4 16 := FL.of rfl (by decide) rfl 252 (by decide +kernel)
theorem fl_UN_59 : FL R_UN 59 4 0 := FL.of rfl (by decide) rfl 217 (by decide +kernel)
theorem fl_UN_63 : FL R_UN 63 4 1 := FL.of rfl (by decide) rfl 219 (by decide +kernel)
theorem fl_UN_70 : FL R_UN 70 1 3 := FL.of rfl (by decide) rfl 109 (by decide +kernel)
theorem fl_UN_85 : FL R_UN 85 2 0 := FL.of rfl (by decide) rfl 173 (by decide +kernel)
theorem fl_UN_88 : FL R_UN 88 2 2 := FL.of rfl (by decide) rfl 178 (by decide +kernel)
theorem fl_UN_9 : FL R_UN 9 4 2 := FL.of rfl (by decide) rfl 221 (by decide +kernel)
theorem lm_FI_54 : Cond.methodLink R_FI 54 (yM m_SC_anyBarred) ∈ gt := gt_at 795 (by decide +kernel) rfl
theorem lm_FI_60 : Cond.methodLink R_FI 60 (yM m_FI_clear) ∈ gt := gt_at 799 (by decide +kernel) rfl
theorem lm_FI_82 : Cond.methodLink R_FI 82 (yM m_AR_fill) ∈ gt := gt_at 804 (by decide +kernel) rfl
theorem lm_JS_187 : Cond.methodLink R_JS 187 (yM m_TY_undoLatest) ∈ gt := gt_at 704 (by decide +kernel) rfl
theorem lm_JS_192 : Cond.methodLink R_JS 192 (yM m_JS_lookAtText) ∈ gt := gt_at 718 (by decide +kernel) rfl
theorem lm_JS_201 : Cond.methodLink R_JS 201 (yM m_UN_base) ∈ gt := gt_at 773 (by decide +kernel) rfl
theorem lm_JS_210 : Cond.methodLink R_JS 210 (yM m_UN_placeOf) ∈ gt := gt_at 774 (by decide +kernel) rfl
theorem lm_JS_213 : Cond.methodLink R_JS 213 (yM m_SC_plainForm) ∈ gt := gt_at 778 (by decide +kernel) rfl
theorem lm_JS_374 : Cond.methodLink R_JS 374 (yM m_UN_build) ∈ gt := gt_at 722 (by decide +kernel) rfl
theorem lm_SC_67 : Cond.methodLink R_SC 67 (yM m_SC_formsOf) ∈ gt := gt_at 739 (by decide +kernel) rfl
theorem lm_SC_71 : Cond.methodLink R_SC 71 (yM m_SC_formNumber) ∈ gt := gt_at 740 (by decide +kernel) rfl
theorem lm_UN_101 : Cond.methodLink R_UN 101 (yM m_SC_plainForm) ∈ gt := gt_at 735 (by decide +kernel) rfl
theorem lm_UN_105 : Cond.methodLink R_UN 105 (yM m_UN_longestMust) ∈ gt := gt_at 753 (by decide +kernel) rfl
theorem lm_UN_121 : Cond.methodLink R_UN 121 (yM m_UN_standsAt) ∈ gt := gt_at 757 (by decide +kernel) rfl
theorem lm_UN_129 : Cond.methodLink R_UN 129 (yM m_UN_areAlone) ∈ gt := gt_at 765 (by decide +kernel) rfl
theorem lm_UN_132 : Cond.methodLink R_UN 132 (yM m_UN_base) ∈ gt := gt_at 769 (by decide +kernel) rfl
theorem lm_UN_67 : Cond.methodLink R_UN 67 (yM m_UN_splitWords) ∈ gt := gt_at 726 (by decide +kernel) rfl
theorem lm_UN_75 : Cond.methodLink R_UN 75 (yM m_SC_joinsBack) ∈ gt := gt_at 748 (by decide +kernel) rfl
theorem lm_UN_79 : Cond.methodLink R_UN 79 (yM m_UN_findBases) ∈ gt := gt_at 749 (by decide +kernel) rfl
theorem lm_UN_82 : Cond.methodLink R_UN 82 (yM m_UN_findOthers) ∈ gt := gt_at 761 (by decide +kernel) rfl
theorem lm_UN_91 : Cond.methodLink R_UN 91 (yM m_SC_isMark) ∈ gt := gt_at 730 (by decide +kernel) rfl
theorem lm_UN_94 : Cond.methodLink R_UN 94 (yM m_UN_standOn) ∈ gt := gt_at 731 (by decide +kernel) rfl
theorem lm_UN_98 : Cond.methodLink R_UN 98 (yM m_UN_addUnit) ∈ gt := gt_at 744 (by decide +kernel) rfl
theorem lm_FI_132 : Cond.methodLink R_FI 132 Lib.Math.min.name ∈ gt := gt_at 850 (by decide +kernel) rfl
theorem lm_FI_137 : Cond.methodLink R_FI 137 Lib.Math.max.name ∈ gt := gt_at 851 (by decide +kernel) rfl
theorem mk_FI_clear : MKV m_FI_clear 5 1 := ⟨⟨gt_at 802 (by decide +kernel) rfl, gt_at 76 (by decide +kernel) rfl, by decide +kernel, by decide +kernel, by decide +kernel⟩, gt_at 801 (by decide +kernel) rfl, gt_at 9 (by decide +kernel) rfl, _, _, rfl⟩
theorem mk_SC_anyBarred : MKV m_SC_anyBarred 1 0 := ⟨⟨gt_at 798 (by decide +kernel) rfl, gt_at 72 (by decide +kernel) rfl, by decide +kernel, by decide +kernel, by decide +kernel⟩, gt_at 796 (by decide +kernel) rfl, gt_at 797 (by decide +kernel) rfl, _, _, rfl⟩
theorem mk_SC_formNumber : MKV m_SC_formNumber 1 3 := ⟨⟨gt_at 743 (by decide +kernel) rfl, gt_at 72 (by decide +kernel) rfl, by decide +kernel, by decide +kernel, by decide +kernel⟩, gt_at 741 (by decide +kernel) rfl, gt_at 742 (by decide +kernel) rfl, _, _, rfl⟩
theorem mk_SC_plainForm : MKV m_SC_plainForm 1 2 := ⟨⟨gt_at 738 (by decide +kernel) rfl, gt_at 72 (by decide +kernel) rfl, by decide +kernel, by decide +kernel, by decide +kernel⟩, gt_at 736 (by decide +kernel) rfl, gt_at 737 (by decide +kernel) rfl, _, _, rfl⟩
theorem mk_TY_undoLatest : MKV m_TY_undoLatest 2 0 := ⟨⟨gt_at 707 (by decide +kernel) rfl, gt_at 73 (by decide +kernel) rfl, by decide +kernel, by decide +kernel, by decide +kernel⟩, gt_at 705 (by decide +kernel) rfl, gt_at 706 (by decide +kernel) rfl, _, _, rfl⟩
theorem mk_UN_addUnit : MKV m_UN_addUnit 4 3 := ⟨⟨gt_at 747 (by decide +kernel) rfl, gt_at 75 (by decide +kernel) rfl, by decide +kernel, by decide +kernel, by decide +kernel⟩, gt_at 746 (by decide +kernel) rfl, gt_at 3 (by decide +kernel) rfl, _, _, rfl⟩
theorem mk_UN_areAlone : MKV m_UN_areAlone 4 2 := ⟨⟨gt_at 768 (by decide +kernel) rfl, gt_at 75 (by decide +kernel) rfl, by decide +kernel, by decide +kernel, by decide +kernel⟩, gt_at 767 (by decide +kernel) rfl, gt_at 8 (by decide +kernel) rfl, _, _, rfl⟩
theorem mk_UN_base : MKV m_UN_base 4 1 := ⟨⟨gt_at 772 (by decide +kernel) rfl, gt_at 75 (by decide +kernel) rfl, by decide +kernel, by decide +kernel, by decide +kernel⟩, gt_at 770 (by decide +kernel) rfl, gt_at 771 (by decide +kernel) rfl, _, _, rfl⟩
theorem mk_UN_build : MKV m_UN_build 4 0 := ⟨⟨gt_at 725 (by decide +kernel) rfl, gt_at 75 (by decide +kernel) rfl, by decide +kernel, by decide +kernel, by decide +kernel⟩, gt_at 723 (by decide +kernel) rfl, gt_at 724 (by decide +kernel) rfl, _, _, rfl⟩
theorem mk_UN_findBases : MKV m_UN_findBases 4 0 := ⟨⟨gt_at 752 (by decide +kernel) rfl, gt_at 75 (by decide +kernel) rfl, by decide +kernel, by decide +kernel, by decide +kernel⟩, gt_at 751 (by decide +kernel) rfl, gt_at 4 (by decide +kernel) rfl, _, _, rfl⟩
theorem mk_UN_findOthers : MKV m_UN_findOthers 4 0 := ⟨⟨gt_at 764 (by decide +kernel) rfl, gt_at 75 (by decide +kernel) rfl, by decide +kernel, by decide +kernel, by decide +kernel⟩, gt_at 763 (by decide +kernel) rfl, gt_at 7 (by decide +kernel) rfl, _, _, rfl⟩
theorem mk_UN_longestMust : MKV m_UN_longestMust 4 1 := ⟨⟨gt_at 756 (by decide +kernel) rfl, gt_at 75 (by decide +kernel) rfl, by decide +kernel, by decide +kernel, by decide +kernel⟩, gt_at 755 (by decide +kernel) rfl, gt_at 5 (by decide +kernel) rfl, _, _, rfl⟩
theorem mk_UN_placeOf : MKV m_UN_placeOf 4 2 := ⟨⟨gt_at 777 (by decide +kernel) rfl, gt_at 75 (by decide +kernel) rfl, by decide +kernel, by decide +kernel, by decide +kernel⟩, gt_at 775 (by decide +kernel) rfl, gt_at 776 (by decide +kernel) rfl, _, _, rfl⟩
theorem mk_UN_splitWords : MKV m_UN_splitWords 4 0 := ⟨⟨gt_at 729 (by decide +kernel) rfl, gt_at 75 (by decide +kernel) rfl, by decide +kernel, by decide +kernel, by decide +kernel⟩, gt_at 728 (by decide +kernel) rfl, gt_at 1 (by decide +kernel) rfl, _, _, rfl⟩
theorem mk_UN_standOn : MKV m_UN_standOn 4 3 := ⟨⟨gt_at 734 (by decide +kernel) rfl, gt_at 75 (by decide +kernel) rfl, by decide +kernel, by decide +kernel, by decide +kernel⟩, gt_at 733 (by decide +kernel) rfl, gt_at 2 (by decide +kernel) rfl, _, _, rfl⟩
theorem mk_UN_standsAt : MKV m_UN_standsAt 4 2 := ⟨⟨gt_at 760 (by decide +kernel) rfl, gt_at 75 (by decide +kernel) rfl, by decide +kernel, by decide +kernel, by decide +kernel⟩, gt_at 759 (by decide +kernel) rfl, gt_at 6 (by decide +kernel) rfl, _, _, rfl⟩
theorem mk_JS_lookAtText : MKV m_JS_lookAtText 0 0 := ⟨⟨gt_at 721 (by decide +kernel) rfl, gt_at 71 (by decide +kernel) rfl, by decide +kernel, by decide +kernel, by decide +kernel⟩, gt_at 720 (by decide +kernel) rfl, gt_at 0 (by decide +kernel) rfl, _, _, rfl⟩
theorem mk_AR_fill : MKS m_AR_fill 2 := ⟨⟨gt_at 806 (by decide +kernel) rfl, gt_at 84 (by decide +kernel) rfl, by decide +kernel, by decide +kernel, by decide +kernel⟩, gt_at 805 (by decide +kernel) rfl⟩
theorem pf_0_10 : ∀ C T N, classes[0]? = some (C, T, N) → (T 10).2.2.2 = false := fun _ _ _ h => by cases h; rfl
theorem pf_4_2 : ∀ C T N, classes[4]? = some (C, T, N) → (T 2).2.2.2 = false := fun _ _ _ h => by cases h; rfl
theorem pf_4_3 : ∀ C T N, classes[4]? = some (C, T, N) → (T 3).2.2.2 = false := fun _ _ _ h => by cases h; rfl
theorem pf_5_5 : ∀ C T N, classes[5]? = some (C, T, N) → (T 5).2.2.2 = false := fun _ _ _ h => by cases h; rfl
theorem pf_5_6 : ∀ C T N, classes[5]? = some (C, T, N) → (T 6).2.2.2 = false := fun _ _ _ h => by cases h; rfl
theorem pf_5_7 : ∀ C T N, classes[5]? = some (C, T, N) → (T 7).2.2.2 = false := fun _ _ _ h => by cases h; rfl
def tb_JS_undo : List (Nat × Instr × Nat) := [(0, .aload_n 0, 1), (1, .getfield 19, 3), (4, .getfield 184, 3), (7, .ifCond .ne 6, 3), (10, .bipush (-3), 2), (12, .ireturn, 1), (13, .aload_n 0, 1), (14, .dup, 1), (15, .getfield 76, 3), (18, .iconst 1, 1), (19, .iadd, 1), (20, .putfield 76, 3), (23, .aload_n 0, 1), (24, .getfield 19, 3), (27, .invokevirtual 187, 3), (30, .aload_n 0, 1), (31, .getfield 19, 3), (34, .getfield 161, 3), (37, .ireturn, 1)]
theorem dt_JS_undo : DT (cM m_JS_undo) tb_JS_undo := by unfold DT; decide +kernel
abbrev a_JS_undo_0 (G : GT)   (σ : St) (P : Int → St → Prop) : Prop := A G m_JS_undo 0 [(0, O 0)] [] σ P
set_option maxRecDepth 20000 in
theorem k_JS_undo_0 {G : GT} {σ : St} {P : Int → St → Prop}    
    (h : (σ.2.1 2 1 ≠ 0 → rng ((σ.2.1 0 9) + 1) ∧ (∀ σ3, σ3 = sf σ 0 9 ((σ.2.1 0 9) + 1) → CJ G m_TY_undoLatest [O 2] σ3 (fun _ u6 => P (u6.2.1 2 0) u6))) ∧ (σ.2.1 2 1 = 0 → P (-3) σ)) :
    a_JS_undo_0 G  σ P := by
  refine r_aload_n (q := 1) (dc dt_JS_undo 0 rfl) rfl rfl 0 rfl ?_
  refine r_getO (q := 4) (v := 2) fl_JS_19 (dc dt_JS_undo 1 rfl) rfl ly0 rfl ?_
  refine r_getI (q := 7) (v := σ.2.1 2 1) fl_JS_184 (dc dt_JS_undo 2 rfl) rfl ly2 rfl rfl (fun g1 => ?_)
  refine r_if_ne (q := 10) (t := 13) (dc dt_JS_undo 3 rfl) rfl (by decide) g1 (fun q_ => ?_) (fun q_ => ?_)
  · have h := h.1 q_
    refine r_aload_n (q := 14) (dc dt_JS_undo 6 rfl) rfl rfl 0 rfl ?_
    refine r_dupo (q := 15) (dc dt_JS_undo 7 rfl) rfl ?_
    refine r_getI (q := 18) (v := σ.2.1 0 9) fl_JS_76 (dc dt_JS_undo 8 rfl) rfl ly0 rfl rfl (fun g2 => ?_)
    refine r_iconst (q := 19) (dc dt_JS_undo 9 rfl) rfl rfl ?_
    refine r_iadd (q := 20) (dc dt_JS_undo 10 rfl) rfl ?_
    obtain ⟨o5, h⟩ := h
    refine r_put (q := 23) fl_JS_76 (dc dt_JS_undo 11 rfl) rfl ly0 (fun _ => rfl) (Or.inl rfl) pf_0_9 o5 (fun σ3 e4 => ?_)
    have h := h σ3 e4
    refine r_aload_n (q := 24) (dc dt_JS_undo 12 rfl) rfl rfl 0 rfl ?_
    refine r_getO (q := 27) (v := 2) fl_JS_19 (dc dt_JS_undo 13 rfl) rfl ly0 rfl ?_
    refine r_callVv (q := 30) mk_TY_undoLatest lm_JS_187 (RMO.of rfl) rfl (dc dt_JS_undo 14 rfl) rfl ly2 [] [] rfl rfl (Nat.le_of_ble_eq_true rfl) h (fun u6 h => ?_)
    refine r_aload_n (q := 31) (dc dt_JS_undo 15 rfl) rfl rfl 0 rfl ?_
    refine r_getO (q := 34) (v := 2) fl_JS_19 (dc dt_JS_undo 16 rfl) rfl ly0 rfl ?_
    refine r_getI (q := 37) (v := u6.2.1 2 0) fl_JS_161 (dc dt_JS_undo 17 rfl) rfl ly2 rfl rfl (fun g7 => ?_)
    exact r_iret rfl (dc dt_JS_undo 18 rfl) g7 h
  · have h := h.2 q_
    refine r_bipush (q := 12) (dc dt_JS_undo 4 rfl) rfl (by decide) ?_
    exact r_iret rfl (dc dt_JS_undo 5 rfl) (⟨by decide, by decide⟩ : rng (-3)) h
def tb_JS_text : List (Nat × Instr × Nat) := [(0, .aload_n 0, 1), (1, .getfield 19, 3), (4, .iload_n 1, 1), (5, .invokevirtual 178, 3), (8, .ifCond .eq 15, 3), (11, .aload_n 0, 1), (12, .getfield 19, 3), (15, .getfield 190, 3), (18, .iload_n 1, 1), (19, .iaload, 1), (20, .goto 5, 3), (23, .bipush (-6), 2), (25, .ireturn, 1)]
theorem dt_JS_text : DT (cM m_JS_text) tb_JS_text := by unfold DT; decide +kernel
abbrev a_JS_text_0 (G : GT)  (v1 : Int) (σ : St) (P : Int → St → Prop) : Prop := A G m_JS_text 0 [(0, O 0), (1, I v1)] [] σ P
set_option maxRecDepth 20000 in
theorem k_JS_text_0 {G : GT} {σ : St} {P : Int → St → Prop}  {v1 : Int}  
    (h : rng v1 ∧ (0 ≤ v1 → rng ((σ.2.1 2 0) - 1)) ∧ ((0 ≤ v1 ∧ v1 ≤ ((σ.2.1 2 0) - 1) → 0 ≤ v1 ∧ v1 < 80)) ∧ (rng (if ¬ (0 ≤ v1 ∧ v1 ≤ ((σ.2.1 2 0) - 1)) then (-6 : Int) else σ.1 57 v1.toNat)) ∧ P (if ¬ (0 ≤ v1 ∧ v1 ≤ ((σ.2.1 2 0) - 1)) then (-6 : Int) else σ.1 57 v1.toNat) σ) :
    a_JS_text_0 G v1 σ P := by
  refine r_aload_n (q := 1) (dc dt_JS_text 0 rfl) rfl rfl 0 rfl ?_
  refine r_getO (q := 4) (v := 2) fl_JS_19 (dc dt_JS_text 1 rfl) rfl ly0 rfl ?_
  refine r_iload_n (q := 5) (dc dt_JS_text 2 rfl) rfl rfl 1 rfl ?_
  obtain ⟨o1, h⟩ := h
  obtain ⟨o2, h⟩ := h
  refine r_callVi (q := 8) mk_TY_has lm_JS_178 (RMO.of rfl) rfl (dc dt_JS_text 3 rfl) rfl ly2 [I v1] [] rfl rfl (Nat.le_of_ble_eq_true rfl) (sp_TY_has o1 o2) (fun _ _ g3 z => ?_)
  obtain ⟨z, w⟩ := z
  subst z
  replace w := w.symm
  subst w
  obtain ⟨ho, h⟩ := h
  have hJ : ∀ (w_0 : Int), w_0 = (if ¬ (0 ≤ v1 ∧ v1 ≤ ((σ.2.1 2 0) - 1)) then (-6 : Int) else σ.1 57 v1.toNat) → A G m_JS_text 25 [(0, O 0), (1, I v1)] [I w_0] σ P := by
    intro w_0 z_0
    subst z_0
    obtain ⟨o6, h⟩ := h
    exact r_iret rfl (dc dt_JS_text 12 rfl) o6 h
  clear h
  refine r_ifb_eq (q := 11) (t := 23) (dc dt_JS_text 4 rfl) rfl (by decide) (fun q_ => ?_) (fun q_ => ?_)
  · have q7 := q_
    refine r_bipush (q := 25) (dc dt_JS_text 11 rfl) rfl (by decide) ?_
    exact (hJ (-6) ((if_pos (by first | omega | grind)).symm))
  · have q7 := q_
    have ho := ho q_
    refine r_aload_n (q := 12) (dc dt_JS_text 5 rfl) rfl rfl 0 rfl ?_
    refine r_getO (q := 15) (v := 2) fl_JS_19 (dc dt_JS_text 6 rfl) rfl ly0 rfl ?_
    refine r_getO (q := 18) (v := 57) fl_JS_190 (dc dt_JS_text 7 rfl) rfl ly2 rfl ?_
    refine r_iload_n (q := 19) (dc dt_JS_text 8 rfl) rfl rfl 1 rfl ?_
    have o4 := ho
    refine r_iald (q := 20) (v := σ.1 57 v1.toNat) (dc dt_JS_text 9 rfl) rfl ly57 o4 rfl (fun g5 => ?_)
    refine r_goto (q := 25) (dc dt_JS_text 10 rfl) (by decide) ?_
    exact (hJ (σ.1 57 v1.toNat) ((if_neg (by first | omega | grind)).symm))
set_option maxRecDepth 20000 in
theorem sp0_JS_text {G : GT} {σ : St} {v1 : Int}  (j0 : rng v1) (j1 : (0 ≤ v1 → rng ((σ.2.1 2 0) - 1))) (j2 : (0 ≤ v1 ∧ v1 ≤ ((σ.2.1 2 0) - 1) → 0 ≤ v1 ∧ v1 < 80)) (j3 : rng (if ¬ (0 ≤ v1 ∧ v1 ≤ ((σ.2.1 2 0) - 1)) then (-6 : Int) else σ.1 57 v1.toNat)) : CJ G m_JS_text [O 0, I v1] σ (fun r u => r = (if ¬ (0 ≤ v1 ∧ v1 ≤ ((σ.2.1 2 0) - 1)) then (-6 : Int) else σ.1 57 v1.toNat) ∧ u = σ) := by
  refine CJ.intro (by decide) (by simp [catA]; decide) (fun _ => k_JS_text_0  ?_)
  refine ⟨by first | assumption | omega | grind, ?_⟩
  refine ⟨by first | assumption | omega | grind, ?_⟩
  refine ⟨by first | assumption | omega | grind, ?_⟩
  refine ⟨by first | assumption | omega | grind, ?_⟩
  exact ⟨by first | rfl | grind, rfl⟩
def p_JS_text (σ : St) (v1 : Int) : Prop := rng v1 ∧ (0 ≤ v1 → rng ((σ.2.1 2 0) - 1)) ∧ (0 ≤ v1 ∧ v1 ≤ ((σ.2.1 2 0) - 1) → 0 ≤ v1 ∧ v1 < 80) ∧ (rng (if ¬ (0 ≤ v1 ∧ v1 ≤ ((σ.2.1 2 0) - 1)) then (-6 : Int) else σ.1 57 v1.toNat))
def f_JS_text (σ : St) (v1 : Int) : Int := if ¬ (0 ≤ v1 ∧ v1 ≤ ((σ.2.1 2 0) - 1)) then (-6 : Int) else σ.1 57 v1.toNat
theorem sp_JS_text {G : GT} {σ : St} {v1 : Int}  (j : p_JS_text σ v1) : CJ G m_JS_text [O 0, I v1] σ (fun r u => r = (f_JS_text σ v1) ∧ u = σ) := sp0_JS_text  j.1 j.2.1 j.2.2.1 j.2.2.2
def tb_SC_formNumber : List (Nat × Instr × Nat) := [(0, .aload_n 0, 1), (1, .getfield 52, 3), (4, .iload_n 1, 1), (5, .iconst 4, 1), (6, .imul, 1), (7, .iload_n 2, 1), (8, .iadd, 1), (9, .iconst 3, 1), (10, .imul, 1), (11, .iload_n 3, 1), (12, .iadd, 1), (13, .iaload, 1), (14, .ireturn, 1)]
theorem dt_SC_formNumber : DT (cM m_SC_formNumber) tb_SC_formNumber := by unfold DT; decide +kernel
abbrev a_SC_formNumber_0 (G : GT)  (v1 : Int) (v2 : Int) (v3 : Int) (σ : St) (P : Int → St → Prop) : Prop := A G m_SC_formNumber 0 [(0, O 1), (1, I v1), (2, I v2), (3, I v3)] [] σ P
set_option maxRecDepth 20000 in
theorem k_SC_formNumber_0 {G : GT} {σ : St} {P : Int → St → Prop}  {v1 : Int} {v2 : Int} {v3 : Int}  
    (h : (0 ≤ (((v1 * 4) + v2) * 3) + v3 ∧ (((v1 * 4) + v2) * 3) + v3 < 720) ∧ P (σ.1 56 (((((v1 * 4) + v2) * 3) + v3).toNat)) σ) :
    a_SC_formNumber_0 G v1 v2 v3 σ P := by
  refine r_aload_n (q := 1) (dc dt_SC_formNumber 0 rfl) rfl rfl 0 rfl ?_
  refine r_getO (q := 4) (v := 56) fl_SC_52 (dc dt_SC_formNumber 1 rfl) rfl ly1 rfl ?_
  refine r_iload_n (q := 5) (dc dt_SC_formNumber 2 rfl) rfl rfl 1 rfl ?_
  refine r_iconst (q := 6) (dc dt_SC_formNumber 3 rfl) rfl rfl ?_
  refine r_imul (q := 7) (dc dt_SC_formNumber 4 rfl) rfl ?_
  refine r_iload_n (q := 8) (dc dt_SC_formNumber 5 rfl) rfl rfl 2 rfl ?_
  refine r_iadd (q := 9) (dc dt_SC_formNumber 6 rfl) rfl ?_
  refine r_iconst (q := 10) (dc dt_SC_formNumber 7 rfl) rfl rfl ?_
  refine r_imul (q := 11) (dc dt_SC_formNumber 8 rfl) rfl ?_
  refine r_iload_n (q := 12) (dc dt_SC_formNumber 9 rfl) rfl rfl 3 rfl ?_
  refine r_iadd (q := 13) (dc dt_SC_formNumber 10 rfl) rfl ?_
  obtain ⟨o1, h⟩ := h
  refine r_iald (q := 14) (v := σ.1 56 (((((v1 * 4) + v2) * 3) + v3).toNat)) (dc dt_SC_formNumber 11 rfl) rfl ly56 o1 rfl (fun g2 => ?_)
  exact r_iret rfl (dc dt_SC_formNumber 12 rfl) g2 h
set_option maxRecDepth 20000 in
theorem sp_SC_formNumber {G : GT} {σ : St} {v1 : Int} {v2 : Int} {v3 : Int}  (j0 : 0 ≤ (((v1 * 4) + v2) * 3) + v3 ∧ (((v1 * 4) + v2) * 3) + v3 < 720) : CJ G m_SC_formNumber [O 1, I v1, I v2, I v3] σ (fun r u => r = (σ.1 56 (((((v1 * 4) + v2) * 3) + v3).toNat)) ∧ u = σ) := by
  refine CJ.intro (by decide) (by simp [catA]; decide) (fun _ => k_SC_formNumber_0  ?_)
  refine ⟨by first | assumption | omega | grind, ?_⟩
  exact ⟨by first | rfl | grind, rfl⟩
def tb_SC_plainForm : List (Nat × Instr × Nat) := [(0, .aload_n 0, 1), (1, .iload_n 1, 1), (2, .iload_n 2, 1), (3, .invokevirtual 67, 3), (6, .ifCond .le 13, 3), (9, .aload_n 0, 1), (10, .iload_n 1, 1), (11, .iload_n 2, 1), (12, .iconst 0, 1), (13, .invokevirtual 71, 3), (16, .goto 5, 3), (19, .bipush (-6), 2), (21, .ireturn, 1)]
theorem dt_SC_plainForm : DT (cM m_SC_plainForm) tb_SC_plainForm := by unfold DT; decide +kernel
abbrev a_SC_plainForm_0 (G : GT)  (v1 : Int) (v2 : Int) (σ : St) (P : Int → St → Prop) : Prop := A G m_SC_plainForm 0 [(0, O 1), (1, I v1), (2, I v2)] [] σ P
set_option maxRecDepth 20000 in
theorem k_SC_plainForm_0 {G : GT} {σ : St} {P : Int → St → Prop}  {v1 : Int} {v2 : Int}  
    (h : (0 ≤ (v1 * 4) + v2 ∧ (v1 * 4) + v2 < 240) ∧ ((0 < σ.1 55 (((v1 * 4) + v2).toNat) → 0 ≤ (((v1 * 4) + v2) * 3) + 0 ∧ (((v1 * 4) + v2) * 3) + 0 < 720)) ∧ rng (if σ.1 55 (((v1 * 4) + v2).toNat) ≤ 0 then (-6 : Int) else σ.1 56 (((((v1 * 4) + v2) * 3) + 0).toNat)) ∧ P (if σ.1 55 (((v1 * 4) + v2).toNat) ≤ 0 then (-6 : Int) else σ.1 56 (((((v1 * 4) + v2) * 3) + 0).toNat)) σ) :
    a_SC_plainForm_0 G v1 v2 σ P := by
  refine r_aload_n (q := 1) (dc dt_SC_plainForm 0 rfl) rfl rfl 0 rfl ?_
  refine r_iload_n (q := 2) (dc dt_SC_plainForm 1 rfl) rfl rfl 1 rfl ?_
  refine r_iload_n (q := 3) (dc dt_SC_plainForm 2 rfl) rfl rfl 2 rfl ?_
  obtain ⟨o1, h⟩ := h
  refine r_callVi (q := 6) mk_SC_formsOf lm_SC_67 (RMO.of rfl) rfl (dc dt_SC_plainForm 3 rfl) rfl ly1 [I v1, I v2] [] rfl rfl (Nat.le_of_ble_eq_true rfl) (sp_SC_formsOf o1) (fun _ _ g2 z => ?_)
  obtain ⟨z, w⟩ := z
  subst z
  replace w := w.symm
  subst w
  obtain ⟨ho, h⟩ := h
  have hJ : ∀ (w_0 : Int), w_0 = (if σ.1 55 (((v1 * 4) + v2).toNat) ≤ 0 then (-6 : Int) else σ.1 56 (((((v1 * 4) + v2) * 3) + 0).toNat)) → A G m_SC_plainForm 21 [(0, O 1), (1, I v1), (2, I v2)] [I w_0] σ P := by
    intro w_0 z_0
    subst z_0
    obtain ⟨o5, h⟩ := h
    exact r_iret rfl (dc dt_SC_plainForm 12 rfl) o5 h
  clear h
  refine r_if_le (q := 9) (t := 19) (dc dt_SC_plainForm 4 rfl) rfl (by decide) g2 (fun q_ => ?_) (fun q_ => ?_)
  · have q6 := q_
    refine r_bipush (q := 21) (dc dt_SC_plainForm 11 rfl) rfl (by decide) ?_
    exact (hJ (-6) ((if_pos (by first | omega | grind)).symm))
  · have q6 := q_
    have ho := ho q_
    refine r_aload_n (q := 10) (dc dt_SC_plainForm 5 rfl) rfl rfl 0 rfl ?_
    refine r_iload_n (q := 11) (dc dt_SC_plainForm 6 rfl) rfl rfl 1 rfl ?_
    refine r_iload_n (q := 12) (dc dt_SC_plainForm 7 rfl) rfl rfl 2 rfl ?_
    refine r_iconst (q := 13) (dc dt_SC_plainForm 8 rfl) rfl rfl ?_
    have o3 := ho
    refine r_callVi (q := 16) mk_SC_formNumber lm_SC_71 (RMO.of rfl) rfl (dc dt_SC_plainForm 9 rfl) rfl ly1 [I v1, I v2, I 0] [] rfl rfl (Nat.le_of_ble_eq_true rfl) (sp_SC_formNumber o3) (fun _ _ g4 z => ?_)
    obtain ⟨z, w⟩ := z
    subst z
    replace w := w.symm
    subst w
    refine r_goto (q := 21) (dc dt_SC_plainForm 10 rfl) (by decide) ?_
    exact (hJ (σ.1 56 (((((v1 * 4) + v2) * 3) + 0).toNat)) ((if_neg (by first | omega | grind)).symm))
set_option maxRecDepth 20000 in
theorem sp0_SC_plainForm {G : GT} {σ : St} {v1 : Int} {v2 : Int}  (j0 : 0 ≤ (v1 * 4) + v2 ∧ (v1 * 4) + v2 < 240) (j1 : (0 < σ.1 55 (((v1 * 4) + v2).toNat) → 0 ≤ (((v1 * 4) + v2) * 3) + 0 ∧ (((v1 * 4) + v2) * 3) + 0 < 720)) (j2 : rng (if σ.1 55 (((v1 * 4) + v2).toNat) ≤ 0 then (-6 : Int) else σ.1 56 (((((v1 * 4) + v2) * 3) + 0).toNat))) : CJ G m_SC_plainForm [O 1, I v1, I v2] σ (fun r u => r = (if σ.1 55 (((v1 * 4) + v2).toNat) ≤ 0 then (-6 : Int) else σ.1 56 (((((v1 * 4) + v2) * 3) + 0).toNat)) ∧ u = σ) := by
  refine CJ.intro (by decide) (by simp [catA]; decide) (fun _ => k_SC_plainForm_0  ?_)
  refine ⟨by first | assumption | omega | grind, ?_⟩
  refine ⟨by first | assumption | omega | grind, ?_⟩
  refine ⟨by first | assumption | omega | grind, ?_⟩
  exact ⟨by first | rfl | grind, rfl⟩
def p_SC_plainForm (σ : St) (v1 : Int) (v2 : Int) : Prop := (0 ≤ (v1 * 4) + v2 ∧ (v1 * 4) + v2 < 240) ∧ (0 < σ.1 55 (((v1 * 4) + v2).toNat) → 0 ≤ (((v1 * 4) + v2) * 3) + 0 ∧ (((v1 * 4) + v2) * 3) + 0 < 720) ∧ rng (if σ.1 55 (((v1 * 4) + v2).toNat) ≤ 0 then (-6 : Int) else σ.1 56 (((((v1 * 4) + v2) * 3) + 0).toNat))
def f_SC_plainForm (σ : St) (v1 : Int) (v2 : Int) : Int := if σ.1 55 (((v1 * 4) + v2).toNat) ≤ 0 then (-6 : Int) else σ.1 56 (((((v1 * 4) + v2) * 3) + 0).toNat)
theorem sp_SC_plainForm {G : GT} {σ : St} {v1 : Int} {v2 : Int}  (j : p_SC_plainForm σ v1 v2) : CJ G m_SC_plainForm [O 1, I v1, I v2] σ (fun r u => r = (f_SC_plainForm σ v1 v2) ∧ u = σ) := sp0_SC_plainForm  j.1 j.2.1 j.2.2
def tb_UN_standOn : List (Nat × Instr × Nat) := [(0, .aload_n 0, 1), (1, .getfield 41, 3), (4, .iload_n 2, 1), (5, .iload_n 1, 1), (6, .iastore, 1), (7, .aload_n 0, 1), (8, .getfield 22, 3), (11, .iload_n 1, 1), (12, .iload_n 2, 1), (13, .iastore, 1), (14, .aload_n 0, 1), (15, .getfield 59, 3), (18, .iload_n 3, 1), (19, .iconst 0, 1), (20, .invokevirtual 101, 3), (23, .bipush (-6), 2), (25, .if_icmp .ne 10, 3), (28, .aload_n 0, 1), (29, .getfield 47, 3), (32, .iload_n 1, 1), (33, .iconst 1, 1), (34, .bastore, 1), (35, .return_, 1)]
theorem dt_UN_standOn : DT (cM m_UN_standOn) tb_UN_standOn := by unfold DT; decide +kernel
abbrev a_UN_standOn_0 (G : GT)  (v1 : Int) (v2 : Int) (v3 : Int) (σ : St) (P : Int → St → Prop) : Prop := A G m_UN_standOn 0 [(0, O 4), (1, I v1), (2, I v2), (3, I v3)] [] σ P
set_option maxRecDepth 20000 in
theorem k_UN_standOn_0 {G : GT} {σ : St} {P : Int → St → Prop}  {v1 : Int} {v2 : Int} {v3 : Int}  
    (h : (0 ≤ v2 ∧ v2 < 80) ∧ rng v1 ∧ (∀ σ3, σ3 = sa σ 68 v2.toNat v1 → (0 ≤ v1 ∧ v1 < 80) ∧ rng v2 ∧ (∀ σ7, σ7 = sa σ3 62 v1.toNat v2 → p_SC_plainForm σ7 v3 0 ∧ (f_SC_plainForm σ7 v3 0 ≠ (-6) → P 0 σ7) ∧ (f_SC_plainForm σ7 v3 0 = (-6) → (∀ σ11, σ11 = sa σ7 70 v1.toNat 1 → P 0 σ11))))) :
    a_UN_standOn_0 G v1 v2 v3 σ P := by
  refine r_aload_n (q := 1) (dc dt_UN_standOn 0 rfl) rfl rfl 0 rfl ?_
  refine r_getO (q := 4) (v := 68) fl_UN_41 (dc dt_UN_standOn 1 rfl) rfl ly4 rfl ?_
  refine r_iload_n (q := 5) (dc dt_UN_standOn 2 rfl) rfl rfl 2 rfl ?_
  refine r_iload_n (q := 6) (dc dt_UN_standOn 3 rfl) rfl rfl 1 rfl ?_
  obtain ⟨o1, h⟩ := h
  obtain ⟨o2, h⟩ := h
  refine r_iast (q := 7) (dc dt_UN_standOn 4 rfl) rfl ly68 o1 o2 (fun σ3 e4 => ?_)
  have h := h σ3 e4
  refine r_aload_n (q := 8) (dc dt_UN_standOn 5 rfl) rfl rfl 0 rfl ?_
  refine r_getO (q := 11) (v := 62) fl_UN_22 (dc dt_UN_standOn 6 rfl) rfl ly4 rfl ?_
  refine r_iload_n (q := 12) (dc dt_UN_standOn 7 rfl) rfl rfl 1 rfl ?_
  refine r_iload_n (q := 13) (dc dt_UN_standOn 8 rfl) rfl rfl 2 rfl ?_
  obtain ⟨o5, h⟩ := h
  obtain ⟨o6, h⟩ := h
  refine r_iast (q := 14) (dc dt_UN_standOn 9 rfl) rfl ly62 o5 o6 (fun σ7 e8 => ?_)
  have h := h σ7 e8
  refine r_aload_n (q := 15) (dc dt_UN_standOn 10 rfl) rfl rfl 0 rfl ?_
  refine r_getO (q := 18) (v := 1) fl_UN_59 (dc dt_UN_standOn 11 rfl) rfl ly4 rfl ?_
  refine r_iload_n (q := 19) (dc dt_UN_standOn 12 rfl) rfl rfl 3 rfl ?_
  refine r_iconst (q := 20) (dc dt_UN_standOn 13 rfl) rfl rfl ?_
  obtain ⟨o9, h⟩ := h
  refine r_callVi (q := 23) mk_SC_plainForm lm_UN_101 (RMO.of rfl) rfl (dc dt_UN_standOn 14 rfl) rfl ly1 [I v3, I 0] [] rfl rfl (Nat.le_of_ble_eq_true rfl) (sp_SC_plainForm o9) (fun _ _ g10 z => ?_)
  obtain ⟨z, w⟩ := z
  subst z
  replace w := w.symm
  subst w
  refine r_bipush (q := 25) (dc dt_UN_standOn 15 rfl) rfl (by decide) ?_
  refine r_icmp_ne (q := 28) (t := 35) (dc dt_UN_standOn 16 rfl) rfl (by decide) g10 (⟨by decide, by decide⟩ : rng (-6)) (fun q_ => ?_) (fun q_ => ?_)
  · have h := h.1 q_
    exact r_vret rfl (dc dt_UN_standOn 22 rfl) h
  · have h := h.2 q_
    refine r_aload_n (q := 29) (dc dt_UN_standOn 17 rfl) rfl rfl 0 rfl ?_
    refine r_getO (q := 32) (v := 70) fl_UN_47 (dc dt_UN_standOn 18 rfl) rfl ly4 rfl ?_
    refine r_iload_n (q := 33) (dc dt_UN_standOn 19 rfl) rfl rfl 1 rfl ?_
    refine r_iconst (q := 34) (dc dt_UN_standOn 20 rfl) rfl rfl ?_
    refine r_zast (q := 35) (dc dt_UN_standOn 21 rfl) rfl ly70 o5 (by decide) (fun σ11 e12 => ?_)
    have h := h σ11 e12
    exact r_vret rfl (dc dt_UN_standOn 22 rfl) h
def tb_UN_addUnit : List (Nat × Instr × Nat) := [(0, .aload_n 0, 1), (1, .getfield 18, 3), (4, .aload_n 0, 1), (5, .getfield 9, 3), (8, .iload_n 1, 1), (9, .iastore, 1), (10, .aload_n 0, 1), (11, .getfield 22, 3), (14, .aload_n 0, 1), (15, .getfield 9, 3), (18, .iload_n 1, 1), (19, .iastore, 1), (20, .aload_n 0, 1), (21, .getfield 25, 3), (24, .aload_n 0, 1), (25, .getfield 9, 3), (28, .iload_n 2, 1), (29, .iastore, 1), (30, .aload_n 0, 1), (31, .getfield 28, 3), (34, .aload_n 0, 1), (35, .getfield 9, 3), (38, .iload_n 3, 1), (39, .iastore, 1), (40, .aload_n 0, 1), (41, .getfield 31, 3), (44, .aload_n 0, 1), (45, .getfield 9, 3), (48, .iload_n 3, 1), (49, .bipush (-6), 2), (51, .if_icmp .ne 7, 3), (54, .iconst 1, 1), (55, .goto 4, 3), (58, .iconst 0, 1), (59, .bastore, 1), (60, .aload_n 0, 1), (61, .getfield 47, 3), (64, .aload_n 0, 1), (65, .getfield 9, 3), (68, .iconst 0, 1), (69, .bastore, 1), (70, .aload_n 0, 1), (71, .getfield 41, 3), (74, .iload_n 1, 1), (75, .aload_n 0, 1), (76, .getfield 9, 3), (79, .iastore, 1), (80, .aload_n 0, 1), (81, .dup, 1), (82, .getfield 9, 3), (85, .iconst 1, 1), (86, .iadd, 1), (87, .putfield 9, 3), (90, .return_, 1)]
theorem dt_UN_addUnit : DT (cM m_UN_addUnit) tb_UN_addUnit := by unfold DT; decide +kernel
abbrev a_UN_addUnit_0 (G : GT)  (v1 : Int) (v2 : Int) (v3 : Int) (σ : St) (P : Int → St → Prop) : Prop := A G m_UN_addUnit 0 [(0, O 4), (1, I v1), (2, I v2), (3, I v3)] [] σ P
set_option maxRecDepth 20000 in
theorem k_UN_addUnit_0 {G : GT} {σ : St} {P : Int → St → Prop}  {v1 : Int} {v2 : Int} {v3 : Int}  
    (h : (0 ≤ σ.2.1 4 2 ∧ σ.2.1 4 2 < 80) ∧ rng v1 ∧ (∀ σ4, σ4 = sa σ 61 ((σ.2.1 4 2).toNat) v1 → (∀ σ7, σ7 = sa σ4 62 ((σ.2.1 4 2).toNat) v1 → rng v2 ∧ (∀ σ11, σ11 = sa σ7 63 ((σ.2.1 4 2).toNat) v2 → rng v3 ∧ (∀ σ15, σ15 = sa σ11 64 ((σ.2.1 4 2).toNat) v3 → (∀ σ18, σ18 = sa σ15 65 ((σ.2.1 4 2).toNat) (if v3 = (-6) then 1 else 0) → (∀ σ21, σ21 = sa σ18 70 ((σ.2.1 4 2).toNat) 0 → (0 ≤ v1 ∧ v1 < 80) ∧ (∀ σ25, σ25 = sa σ21 68 v1.toNat (σ.2.1 4 2) → rng ((σ.2.1 4 2) + 1) ∧ (∀ σ28, σ28 = sf σ25 4 2 ((σ.2.1 4 2) + 1) → P 0 σ28))))))))) :
    a_UN_addUnit_0 G v1 v2 v3 σ P := by
  refine r_aload_n (q := 1) (dc dt_UN_addUnit 0 rfl) rfl rfl 0 rfl ?_
  refine r_getO (q := 4) (v := 61) fl_UN_18 (dc dt_UN_addUnit 1 rfl) rfl ly4 rfl ?_
  refine r_aload_n (q := 5) (dc dt_UN_addUnit 2 rfl) rfl rfl 0 rfl ?_
  refine r_getI (q := 8) (v := σ.2.1 4 2) fl_UN_9 (dc dt_UN_addUnit 3 rfl) rfl ly4 rfl rfl (fun g1 => ?_)
  refine r_iload_n (q := 9) (dc dt_UN_addUnit 4 rfl) rfl rfl 1 rfl ?_
  obtain ⟨o2, h⟩ := h
  obtain ⟨o3, h⟩ := h
  refine r_iast (q := 10) (dc dt_UN_addUnit 5 rfl) rfl ly61 o2 o3 (fun σ4 e5 => ?_)
  have h := h σ4 e5
  refine r_aload_n (q := 11) (dc dt_UN_addUnit 6 rfl) rfl rfl 0 rfl ?_
  refine r_getO (q := 14) (v := 62) fl_UN_22 (dc dt_UN_addUnit 7 rfl) rfl ly4 rfl ?_
  refine r_aload_n (q := 15) (dc dt_UN_addUnit 8 rfl) rfl rfl 0 rfl ?_
  refine r_getI (q := 18) (v := σ.2.1 4 2) fl_UN_9 (dc dt_UN_addUnit 9 rfl) rfl ly4 rfl (by rw [e5]; rfl) (fun g6 => ?_)
  refine r_iload_n (q := 19) (dc dt_UN_addUnit 10 rfl) rfl rfl 1 rfl ?_
  refine r_iast (q := 20) (dc dt_UN_addUnit 11 rfl) rfl ly62 o2 o3 (fun σ7 e8 => ?_)
  have h := h σ7 e8
  refine r_aload_n (q := 21) (dc dt_UN_addUnit 12 rfl) rfl rfl 0 rfl ?_
  refine r_getO (q := 24) (v := 63) fl_UN_25 (dc dt_UN_addUnit 13 rfl) rfl ly4 rfl ?_
  refine r_aload_n (q := 25) (dc dt_UN_addUnit 14 rfl) rfl rfl 0 rfl ?_
  refine r_getI (q := 28) (v := σ.2.1 4 2) fl_UN_9 (dc dt_UN_addUnit 15 rfl) rfl ly4 rfl (by rw [e8, e5]; rfl) (fun g9 => ?_)
  refine r_iload_n (q := 29) (dc dt_UN_addUnit 16 rfl) rfl rfl 2 rfl ?_
  obtain ⟨o10, h⟩ := h
  refine r_iast (q := 30) (dc dt_UN_addUnit 17 rfl) rfl ly63 o2 o10 (fun σ11 e12 => ?_)
  have h := h σ11 e12
  refine r_aload_n (q := 31) (dc dt_UN_addUnit 18 rfl) rfl rfl 0 rfl ?_
  refine r_getO (q := 34) (v := 64) fl_UN_28 (dc dt_UN_addUnit 19 rfl) rfl ly4 rfl ?_
  refine r_aload_n (q := 35) (dc dt_UN_addUnit 20 rfl) rfl rfl 0 rfl ?_
  refine r_getI (q := 38) (v := σ.2.1 4 2) fl_UN_9 (dc dt_UN_addUnit 21 rfl) rfl ly4 rfl (by rw [e12, e8, e5]; rfl) (fun g13 => ?_)
  refine r_iload_n (q := 39) (dc dt_UN_addUnit 22 rfl) rfl rfl 3 rfl ?_
  obtain ⟨o14, h⟩ := h
  refine r_iast (q := 40) (dc dt_UN_addUnit 23 rfl) rfl ly64 o2 o14 (fun σ15 e16 => ?_)
  have h := h σ15 e16
  refine r_aload_n (q := 41) (dc dt_UN_addUnit 24 rfl) rfl rfl 0 rfl ?_
  refine r_getO (q := 44) (v := 65) fl_UN_31 (dc dt_UN_addUnit 25 rfl) rfl ly4 rfl ?_
  refine r_aload_n (q := 45) (dc dt_UN_addUnit 26 rfl) rfl rfl 0 rfl ?_
  refine r_getI (q := 48) (v := σ.2.1 4 2) fl_UN_9 (dc dt_UN_addUnit 27 rfl) rfl ly4 rfl (by rw [e16, e12, e8, e5]; rfl) (fun g17 => ?_)
  refine r_iload_n (q := 49) (dc dt_UN_addUnit 28 rfl) rfl rfl 3 rfl ?_
  refine r_bipush (q := 51) (dc dt_UN_addUnit 29 rfl) rfl (by decide) ?_
  have hJ : ∀ (w_0 : Int), w_0 = (if v3 = (-6) then 1 else 0) → A G m_UN_addUnit 59 [(0, O 4), (1, I v1), (2, I v2), (3, I v3)] [I w_0, I (σ.2.1 4 2), O 65] σ15 P := by
    intro w_0 z_0
    subst z_0
    refine r_zast (q := 60) (dc dt_UN_addUnit 34 rfl) rfl ly65 o2 b01_or (fun σ18 e19 => ?_)
    have h := h σ18 e19
    refine r_aload_n (q := 61) (dc dt_UN_addUnit 35 rfl) rfl rfl 0 rfl ?_
    refine r_getO (q := 64) (v := 70) fl_UN_47 (dc dt_UN_addUnit 36 rfl) rfl ly4 rfl ?_
    refine r_aload_n (q := 65) (dc dt_UN_addUnit 37 rfl) rfl rfl 0 rfl ?_
    refine r_getI (q := 68) (v := σ.2.1 4 2) fl_UN_9 (dc dt_UN_addUnit 38 rfl) rfl ly4 rfl (by rw [e19, e16, e12, e8, e5]; rfl) (fun g20 => ?_)
    refine r_iconst (q := 69) (dc dt_UN_addUnit 39 rfl) rfl rfl ?_
    refine r_zast (q := 70) (dc dt_UN_addUnit 40 rfl) rfl ly70 o2 (by decide) (fun σ21 e22 => ?_)
    have h := h σ21 e22
    refine r_aload_n (q := 71) (dc dt_UN_addUnit 41 rfl) rfl rfl 0 rfl ?_
    refine r_getO (q := 74) (v := 68) fl_UN_41 (dc dt_UN_addUnit 42 rfl) rfl ly4 rfl ?_
    refine r_iload_n (q := 75) (dc dt_UN_addUnit 43 rfl) rfl rfl 1 rfl ?_
    refine r_aload_n (q := 76) (dc dt_UN_addUnit 44 rfl) rfl rfl 0 rfl ?_
    refine r_getI (q := 79) (v := σ.2.1 4 2) fl_UN_9 (dc dt_UN_addUnit 45 rfl) rfl ly4 rfl (by rw [e22, e19, e16, e12, e8, e5]; rfl) (fun g23 => ?_)
    obtain ⟨o24, h⟩ := h
    refine r_iast (q := 80) (dc dt_UN_addUnit 46 rfl) rfl ly68 o24 g23 (fun σ25 e26 => ?_)
    have h := h σ25 e26
    refine r_aload_n (q := 81) (dc dt_UN_addUnit 47 rfl) rfl rfl 0 rfl ?_
    refine r_dupo (q := 82) (dc dt_UN_addUnit 48 rfl) rfl ?_
    refine r_getI (q := 85) (v := σ.2.1 4 2) fl_UN_9 (dc dt_UN_addUnit 49 rfl) rfl ly4 rfl (by rw [e26, e22, e19, e16, e12, e8, e5]; rfl) (fun g27 => ?_)
    refine r_iconst (q := 86) (dc dt_UN_addUnit 50 rfl) rfl rfl ?_
    refine r_iadd (q := 87) (dc dt_UN_addUnit 51 rfl) rfl ?_
    obtain ⟨o30, h⟩ := h
    refine r_put (q := 90) fl_UN_9 (dc dt_UN_addUnit 52 rfl) rfl ly4 (fun _ => rfl) (Or.inl rfl) pf_4_2 o30 (fun σ28 e29 => ?_)
    have h := h σ28 e29
    exact r_vret rfl (dc dt_UN_addUnit 53 rfl) h
  clear h
  refine r_icmp_ne (q := 54) (t := 58) (dc dt_UN_addUnit 30 rfl) rfl (by decide) o14 (⟨by decide, by decide⟩ : rng (-6)) (fun q_ => ?_) (fun q_ => ?_)
  · have q31 := q_
    refine r_iconst (q := 59) (dc dt_UN_addUnit 33 rfl) rfl rfl ?_
    exact (hJ 0 ((if_neg (by first | omega | grind)).symm))
  · have q31 := q_
    refine r_iconst (q := 55) (dc dt_UN_addUnit 31 rfl) rfl rfl ?_
    refine r_goto (q := 59) (dc dt_UN_addUnit 32 rfl) (by decide) ?_
    exact (hJ 1 ((if_pos (by first | omega | grind)).symm))
def tb_UN_splitWords : List (Nat × Instr × Nat) := [(0, .aload_n 0, 1), (1, .iconst 0, 1), (2, .putfield 9, 3), (5, .aload_n 0, 1), (6, .iconst 0, 1), (7, .putfield 15, 3), (10, .iconst 0, 1), (11, .istore_n 1, 1), (12, .iconst 0, 1), (13, .istore_n 2, 1), (14, .iconst 0, 1), (15, .istore_n 3, 1), (16, .iload_n 3, 1), (17, .aload_n 0, 1), (18, .getfield 63, 3), (21, .getfield 85, 3), (24, .if_icmp .ge 178, 3), (27, .aload_n 0, 1), (28, .getfield 63, 3), (31, .getfield 88, 3), (34, .iload_n 3, 1), (35, .iaload, 1), (36, .istore 4, 2), (38, .aload_n 0, 1), (39, .getfield 59, 3), (42, .iload 4, 2), (44, .invokevirtual 91, 3), (47, .istore 5, 2), (49, .aload_n 0, 1), (50, .getfield 59, 3), (53, .getfield 70, 3), (56, .iload 4, 2), (58, .iaload, 1), (59, .bipush 6, 2), (61, .if_icmp .ne 7, 3), (64, .iconst 1, 1), (65, .goto 4, 3), (68, .iconst 0, 1), (69, .istore 6, 2), (71, .iload 6, 2), (73, .ifCond .ne 32, 3), (76, .iload_n 1, 1), (77, .ifCond .ne 28, 3), (80, .aload_n 0, 1), (81, .getfield 35, 3), (84, .aload_n 0, 1), (85, .getfield 15, 3), (88, .aload_n 0, 1), (89, .getfield 9, 3), (92, .iastore, 1), (93, .aload_n 0, 1), (94, .dup, 1), (95, .getfield 15, 3), (98, .iconst 1, 1), (99, .iadd, 1), (100, .putfield 15, 3), (103, .iconst 0, 1), (104, .istore_n 2, 1), (105, .iload 6, 2), (107, .ifCond .ne 7, 3), (110, .iconst 1, 1), (111, .goto 4, 3), (114, .iconst 0, 1), (115, .istore_n 1, 1), (116, .iload 5, 2), (118, .ifCond .eq 23, 3), (121, .iload_n 2, 1), (122, .ifCond .eq 19, 3), (125, .aload_n 0, 1), (126, .aload_n 0, 1), (127, .getfield 9, 3), (130, .iconst 1, 1), (131, .isub, 1), (132, .iload_n 3, 1), (133, .iload 4, 2), (135, .invokevirtual 94, 3), (138, .goto 37, 3), (141, .aload_n 0, 1), (142, .iload_n 3, 1), (143, .iload 4, 2), (145, .iload 6, 2), (147, .ifCond .eq 8, 3), (150, .bipush (-6), 2), (152, .goto 9, 3), (155, .aload_n 0, 1), (156, .getfield 15, 3), (159, .iconst 1, 1), (160, .isub, 1), (161, .invokevirtual 98, 3), (164, .iload 5, 2), (166, .ifCond .ne 7, 3), (169, .iconst 1, 1), (170, .goto 4, 3), (173, .iconst 0, 1), (174, .istore_n 2, 1), (175, .iload_n 1, 1), (176, .ifCond .eq 20, 3), (179, .aload_n 0, 1), (180, .getfield 38, 3), (183, .aload_n 0, 1), (184, .getfield 15, 3), (187, .iconst 1, 1), (188, .isub, 1), (189, .aload_n 0, 1), (190, .getfield 9, 3), (193, .iconst 1, 1), (194, .isub, 1), (195, .iastore, 1), (196, .iinc 3 1, 3), (199, .goto (-183), 3), (202, .return_, 1)]
theorem dt_UN_splitWords : DT (cM m_UN_splitWords) tb_UN_splitWords := by unfold DT; decide +kernel
abbrev a_UN_splitWords_0 (G : GT)   (σ : St) (P : Int → St → Prop) : Prop := A G m_UN_splitWords 0 [(0, O 4)] [] σ P
abbrev a_UN_splitWords_16 (G : GT)  (v1 : Int) (v2 : Int) (v3 : Int) (σ : St) (P : Int → St → Prop) : Prop := A G m_UN_splitWords 16 [(0, O 4), (1, I v1), (2, I v2), (3, I v3)] [] σ P
abbrev a_UN_splitWords_105 (G : GT)  (v2 : Int) (v3 : Int) (v4 : Int) (v5 : Int) (v6 : Int) (σ : St) (P : Int → St → Prop) : Prop := A G m_UN_splitWords 105 [(0, O 4), (2, I v2), (3, I v3), (4, I v4), (5, I v5), (6, I v6)] [] σ P
set_option maxRecDepth 20000 in
theorem k_UN_splitWords_0 {G : GT} {σ : St} {P : Int → St → Prop}    
    (h : (∀ σ1, σ1 = sf σ 4 2 0 → (∀ σ3, σ3 = sf σ1 4 3 0 → a_UN_splitWords_16 G 0 0 0 σ3 P))) :
    a_UN_splitWords_0 G  σ P := by
  refine r_aload_n (q := 1) (dc dt_UN_splitWords 0 rfl) rfl rfl 0 rfl ?_
  refine r_iconst (q := 2) (dc dt_UN_splitWords 1 rfl) rfl rfl ?_
  refine r_put (q := 5) fl_UN_9 (dc dt_UN_splitWords 2 rfl) rfl ly4 (fun _ => rfl) (Or.inl rfl) pf_4_2 (⟨by decide, by decide⟩ : rng 0) (fun σ1 e2 => ?_)
  have h := h σ1 e2
  refine r_aload_n (q := 6) (dc dt_UN_splitWords 3 rfl) rfl rfl 0 rfl ?_
  refine r_iconst (q := 7) (dc dt_UN_splitWords 4 rfl) rfl rfl ?_
  refine r_put (q := 10) fl_UN_15 (dc dt_UN_splitWords 5 rfl) rfl ly4 (fun _ => rfl) (Or.inl rfl) pf_4_3 (⟨by decide, by decide⟩ : rng 0) (fun σ3 e4 => ?_)
  have h := h σ3 e4
  refine r_iconst (q := 11) (dc dt_UN_splitWords 6 rfl) rfl rfl ?_
  refine r_istore_n (q := 12) (dc dt_UN_splitWords 7 rfl) rfl rfl (by decide) rfl ?_
  refine r_iconst (q := 13) (dc dt_UN_splitWords 8 rfl) rfl rfl ?_
  refine r_istore_n (q := 14) (dc dt_UN_splitWords 9 rfl) rfl rfl (by decide) rfl ?_
  refine r_iconst (q := 15) (dc dt_UN_splitWords 10 rfl) rfl rfl ?_
  refine r_istore_n (q := 16) (dc dt_UN_splitWords 11 rfl) rfl rfl (by decide) rfl ?_
  exact r_loc [3, 2, 1, 0] rfl h
set_option maxRecDepth 20000 in
theorem k_UN_splitWords_16 {G : GT} {σ : St} {P : Int → St → Prop}  {v1 : Int} {v2 : Int} {v3 : Int}  
    (h : rng v3 ∧ (σ.2.1 2 0 ≤ v3 → P 0 σ) ∧ (v3 < σ.2.1 2 0 → (0 ≤ v3 ∧ v3 < 80) ∧ (0 ≤ (σ.1 57 v3.toNat) ∧ (σ.1 57 v3.toNat) < 60) ∧ (0 ≤ σ.1 57 v3.toNat ∧ σ.1 57 v3.toNat < 60) ∧ (σ.1 47 ((σ.1 57 v3.toNat).toNat) = 6 → a_UN_splitWords_105 G v2 v3 (σ.1 57 v3.toNat) (if σ.1 47 (σ.1 57 v3.toNat).toNat = 3 ∨ σ.1 47 (σ.1 57 v3.toNat).toNat = 4 then 1 else 0) (if σ.1 47 ((σ.1 57 v3.toNat).toNat) = 6 then 1 else 0) σ P) ∧ (¬ (σ.1 47 ((σ.1 57 v3.toNat).toNat) = 6) → rng v1 ∧ (v1 ≠ 0 → a_UN_splitWords_105 G v2 v3 (σ.1 57 v3.toNat) (if σ.1 47 (σ.1 57 v3.toNat).toNat = 3 ∨ σ.1 47 (σ.1 57 v3.toNat).toNat = 4 then 1 else 0) (if σ.1 47 ((σ.1 57 v3.toNat).toNat) = 6 then 1 else 0) σ P) ∧ (v1 = 0 → (0 ≤ σ.2.1 4 3 ∧ σ.2.1 4 3 < 80) ∧ (∀ σ24, σ24 = sa σ 66 ((σ.2.1 4 3).toNat) (σ.2.1 4 2) → rng ((σ.2.1 4 3) + 1) ∧ (∀ σ27, σ27 = sf σ24 4 3 ((σ.2.1 4 3) + 1) → a_UN_splitWords_105 G 0 v3 (σ.1 57 v3.toNat) (if σ.1 47 (σ.1 57 v3.toNat).toNat = 3 ∨ σ.1 47 (σ.1 57 v3.toNat).toNat = 4 then 1 else 0) (if σ.1 47 ((σ.1 57 v3.toNat).toNat) = 6 then 1 else 0) σ27 P)))))) :
    a_UN_splitWords_16 G v1 v2 v3 σ P := by
  refine r_iload_n (q := 17) (dc dt_UN_splitWords 12 rfl) rfl rfl 3 rfl ?_
  refine r_aload_n (q := 18) (dc dt_UN_splitWords 13 rfl) rfl rfl 0 rfl ?_
  refine r_getO (q := 21) (v := 2) fl_UN_63 (dc dt_UN_splitWords 14 rfl) rfl ly4 rfl ?_
  refine r_getI (q := 24) (v := σ.2.1 2 0) fl_UN_85 (dc dt_UN_splitWords 15 rfl) rfl ly2 rfl rfl (fun g5 => ?_)
  obtain ⟨o6, h⟩ := h
  refine r_icmp_ge (q := 27) (t := 202) (dc dt_UN_splitWords 16 rfl) rfl (by decide) o6 g5 (fun q_ => ?_) (fun q_ => ?_)
  · have h := h.1 q_
    exact r_vret rfl (dc dt_UN_splitWords 110 rfl) h
  · have h := h.2 q_
    refine r_aload_n (q := 28) (dc dt_UN_splitWords 17 rfl) rfl rfl 0 rfl ?_
    refine r_getO (q := 31) (v := 2) fl_UN_63 (dc dt_UN_splitWords 18 rfl) rfl ly4 rfl ?_
    refine r_getO (q := 34) (v := 57) fl_UN_88 (dc dt_UN_splitWords 19 rfl) rfl ly2 rfl ?_
    refine r_iload_n (q := 35) (dc dt_UN_splitWords 20 rfl) rfl rfl 3 rfl ?_
    obtain ⟨o14, h⟩ := h
    refine r_iald (q := 36) (v := σ.1 57 v3.toNat) (dc dt_UN_splitWords 21 rfl) rfl ly57 o14 rfl (fun g15 => ?_)
    refine r_istore (q := 38) (dc dt_UN_splitWords 22 rfl) rfl (by decide) rfl ?_
    refine r_aload_n (q := 39) (dc dt_UN_splitWords 23 rfl) rfl rfl 1 rfl ?_
    refine r_getO (q := 42) (v := 1) fl_UN_59 (dc dt_UN_splitWords 24 rfl) rfl ly4 rfl ?_
    refine r_iload (q := 44) (dc dt_UN_splitWords 25 rfl) rfl 0 rfl ?_
    obtain ⟨o16, h⟩ := h
    refine r_callVi (q := 47) mk_SC_isMark lm_UN_91 (RMO.of rfl) rfl (dc dt_UN_splitWords 26 rfl) rfl ly1 [I (σ.1 57 v3.toNat)] [] rfl rfl (Nat.le_of_ble_eq_true rfl) (sp_SC_isMark o16) (fun _ _ g17 z => ?_)
    obtain ⟨z, w⟩ := z
    subst z
    replace w := w.symm
    subst w
    refine r_istore (q := 49) (dc dt_UN_splitWords 27 rfl) rfl (by decide) rfl ?_
    refine r_aload_n (q := 50) (dc dt_UN_splitWords 28 rfl) rfl rfl 2 rfl ?_
    refine r_getO (q := 53) (v := 1) fl_UN_59 (dc dt_UN_splitWords 29 rfl) rfl ly4 rfl ?_
    refine r_getO (q := 56) (v := 47) fl_UN_70 (dc dt_UN_splitWords 30 rfl) rfl ly1 rfl ?_
    refine r_iload (q := 58) (dc dt_UN_splitWords 31 rfl) rfl 1 rfl ?_
    obtain ⟨o18, h⟩ := h
    refine r_iald (q := 59) (v := σ.1 47 ((σ.1 57 v3.toNat).toNat)) (dc dt_UN_splitWords 32 rfl) rfl ly47 o18 rfl (fun g19 => ?_)
    refine r_bipush (q := 61) (dc dt_UN_splitWords 33 rfl) rfl (by decide) ?_
    have hJ : ∀ (w_0 : Int), w_0 = (if σ.1 47 ((σ.1 57 v3.toNat).toNat) = 6 then 1 else 0) → A G m_UN_splitWords 69 [(5, I (if σ.1 47 (σ.1 57 v3.toNat).toNat = 3 ∨ σ.1 47 (σ.1 57 v3.toNat).toNat = 4 then 1 else 0)), (4, I (σ.1 57 v3.toNat)), (0, O 4), (1, I v1), (2, I v2), (3, I v3)] [I w_0] σ P := by
      intro w_0 z_0
      subst z_0
      refine r_istore (q := 71) (dc dt_UN_splitWords 38 rfl) rfl (by decide) rfl ?_
      refine r_iload (q := 73) (dc dt_UN_splitWords 39 rfl) rfl 0 rfl ?_
      refine r_ifb_ne (q := 76) (t := 105) (dc dt_UN_splitWords 40 rfl) rfl (by decide) (fun q_ => ?_) (fun q_ => ?_)
      · have h := h.1 q_
        exact r_loc [3, 5, 6, 2, 1, 0] rfl h
      · have h := h.2 q_
        refine r_iload_n (q := 77) (dc dt_UN_splitWords 41 rfl) rfl rfl 4 rfl ?_
        obtain ⟨o20, h⟩ := h
        refine r_if_ne (q := 80) (t := 105) (dc dt_UN_splitWords 42 rfl) rfl (by decide) o20 (fun q_ => ?_) (fun q_ => ?_)
        · have h := h.1 q_
          exact r_loc [3, 5, 6, 2, 1, 0] rfl h
        · have h := h.2 q_
          refine r_aload_n (q := 81) (dc dt_UN_splitWords 43 rfl) rfl rfl 3 rfl ?_
          refine r_getO (q := 84) (v := 66) fl_UN_35 (dc dt_UN_splitWords 44 rfl) rfl ly4 rfl ?_
          refine r_aload_n (q := 85) (dc dt_UN_splitWords 45 rfl) rfl rfl 3 rfl ?_
          refine r_getI (q := 88) (v := σ.2.1 4 3) fl_UN_15 (dc dt_UN_splitWords 46 rfl) rfl ly4 rfl rfl (fun g21 => ?_)
          refine r_aload_n (q := 89) (dc dt_UN_splitWords 47 rfl) rfl rfl 3 rfl ?_
          refine r_getI (q := 92) (v := σ.2.1 4 2) fl_UN_9 (dc dt_UN_splitWords 48 rfl) rfl ly4 rfl rfl (fun g22 => ?_)
          obtain ⟨o23, h⟩ := h
          refine r_iast (q := 93) (dc dt_UN_splitWords 49 rfl) rfl ly66 o23 g22 (fun σ24 e25 => ?_)
          have h := h σ24 e25
          refine r_aload_n (q := 94) (dc dt_UN_splitWords 50 rfl) rfl rfl 3 rfl ?_
          refine r_dupo (q := 95) (dc dt_UN_splitWords 51 rfl) rfl ?_
          refine r_getI (q := 98) (v := σ.2.1 4 3) fl_UN_15 (dc dt_UN_splitWords 52 rfl) rfl ly4 rfl (by rw [e25]; rfl) (fun g26 => ?_)
          refine r_iconst (q := 99) (dc dt_UN_splitWords 53 rfl) rfl rfl ?_
          refine r_iadd (q := 100) (dc dt_UN_splitWords 54 rfl) rfl ?_
          obtain ⟨o29, h⟩ := h
          refine r_put (q := 103) fl_UN_15 (dc dt_UN_splitWords 55 rfl) rfl ly4 (fun _ => rfl) (Or.inl rfl) pf_4_3 o29 (fun σ27 e28 => ?_)
          have h := h σ27 e28
          refine r_iconst (q := 104) (dc dt_UN_splitWords 56 rfl) rfl rfl ?_
          refine r_istore_n (q := 105) (dc dt_UN_splitWords 57 rfl) rfl rfl (by decide) rfl ?_
          exact r_loc [4, 0, 6, 3, 2, 1] rfl h
    clear h
    refine r_icmp_ne (q := 64) (t := 68) (dc dt_UN_splitWords 34 rfl) rfl (by decide) g19 (⟨by decide, by decide⟩ : rng 6) (fun q_ => ?_) (fun q_ => ?_)
    · have q67 := q_
      refine r_iconst (q := 69) (dc dt_UN_splitWords 37 rfl) rfl rfl ?_
      exact (hJ 0 ((if_neg (by first | omega | grind)).symm))
    · have q67 := q_
      refine r_iconst (q := 65) (dc dt_UN_splitWords 35 rfl) rfl rfl ?_
      refine r_goto (q := 69) (dc dt_UN_splitWords 36 rfl) (by decide) ?_
      exact (hJ 1 ((if_pos (by first | omega | grind)).symm))
set_option maxRecDepth 20000 in
theorem k_UN_splitWords_105 {G : GT} {σ : St} {P : Int → St → Prop}  {v2 : Int} {v3 : Int} {v4 : Int} {v5 : Int} {v6 : Int}  
    (h : rng v6 ∧ rng v5 ∧ (v5 = 0 → CJ G m_UN_addUnit [O 4, I v3, I v4, I (if v6 = 0 then (σ.2.1 4 3) - 1 else (-6 : Int))] σ (fun _ u35 => (¬ (v6 = 0) → a_UN_splitWords_16 G (if v6 = 0 then 1 else 0) (if v5 = 0 then 1 else 0) (v3 + 1) u35 P) ∧ (v6 = 0 → (0 ≤ (u35.2.1 4 3) - 1 ∧ (u35.2.1 4 3) - 1 < 80) ∧ rng ((u35.2.1 4 2) - 1) ∧ (∀ σ42, σ42 = sa u35 67 (((u35.2.1 4 3) - 1).toNat) ((u35.2.1 4 2) - 1) → a_UN_splitWords_16 G (if v6 = 0 then 1 else 0) (if v5 = 0 then 1 else 0) (v3 + 1) σ42 P)))) ∧ (v5 ≠ 0 → rng v2 ∧ (v2 = 0 → CJ G m_UN_addUnit [O 4, I v3, I v4, I (if v6 = 0 then (σ.2.1 4 3) - 1 else (-6 : Int))] σ (fun _ u48 => (¬ (v6 = 0) → a_UN_splitWords_16 G (if v6 = 0 then 1 else 0) (if v5 = 0 then 1 else 0) (v3 + 1) u48 P) ∧ (v6 = 0 → (0 ≤ (u48.2.1 4 3) - 1 ∧ (u48.2.1 4 3) - 1 < 80) ∧ rng ((u48.2.1 4 2) - 1) ∧ (∀ σ55, σ55 = sa u48 67 (((u48.2.1 4 3) - 1).toNat) ((u48.2.1 4 2) - 1) → a_UN_splitWords_16 G (if v6 = 0 then 1 else 0) (if v5 = 0 then 1 else 0) (v3 + 1) σ55 P)))) ∧ (v2 ≠ 0 → CJ G m_UN_standOn [O 4, I ((σ.2.1 4 2) - 1), I v3, I v4] σ (fun _ u58 => (¬ (v6 = 0) → a_UN_splitWords_16 G (if v6 = 0 then 1 else 0) v2 (v3 + 1) u58 P) ∧ (v6 = 0 → (0 ≤ (u58.2.1 4 3) - 1 ∧ (u58.2.1 4 3) - 1 < 80) ∧ rng ((u58.2.1 4 2) - 1) ∧ (∀ σ65, σ65 = sa u58 67 (((u58.2.1 4 3) - 1).toNat) ((u58.2.1 4 2) - 1) → a_UN_splitWords_16 G (if v6 = 0 then 1 else 0) v2 (v3 + 1) σ65 P)))))) :
    a_UN_splitWords_105 G v2 v3 v4 v5 v6 σ P := by
  refine r_iload (q := 107) (dc dt_UN_splitWords 58 rfl) rfl 5 rfl ?_
  obtain ⟨o30, h⟩ := h
  have hJ : ∀ (w_0 : Int), w_0 = (if v6 = 0 then 1 else 0) → A G m_UN_splitWords 115 [(0, O 4), (2, I v2), (3, I v3), (4, I v4), (5, I v5), (6, I v6)] [I w_0] σ P := by
    intro w_0 z_0
    subst z_0
    refine r_istore_n (q := 116) (dc dt_UN_splitWords 63 rfl) rfl rfl (by decide) rfl ?_
    refine r_iload (q := 118) (dc dt_UN_splitWords 64 rfl) rfl 5 rfl ?_
    obtain ⟨o31, h⟩ := h
    refine r_if_eq (q := 121) (t := 141) (dc dt_UN_splitWords 65 rfl) rfl (by decide) o31 (fun q_ => ?_) (fun q_ => ?_)
    · have h := h.1 q_
      refine r_aload_n (q := 142) (dc dt_UN_splitWords 77 rfl) rfl rfl 1 rfl ?_
      refine r_iload_n (q := 143) (dc dt_UN_splitWords 78 rfl) rfl rfl 3 rfl ?_
      refine r_iload (q := 145) (dc dt_UN_splitWords 79 rfl) rfl 4 rfl ?_
      refine r_iload (q := 147) (dc dt_UN_splitWords 80 rfl) rfl 6 rfl ?_
      have hJ : ∀ (w_0 : Int), w_0 = (if v6 = 0 then (σ.2.1 4 3) - 1 else (-6 : Int)) → A G m_UN_splitWords 161 [(1, I (if v6 = 0 then 1 else 0)), (0, O 4), (2, I v2), (3, I v3), (4, I v4), (5, I v5), (6, I v6)] [I w_0, I v4, I v3, O 4] σ P := by
        intro w_0 z_0
        subst z_0
        refine r_callVv (q := 164) mk_UN_addUnit lm_UN_98 (RMO.of rfl) rfl (dc dt_UN_splitWords 88 rfl) rfl ly4 [I v3, I v4, I (if v6 = 0 then (σ.2.1 4 3) - 1 else (-6 : Int))] [] rfl rfl (Nat.le_of_ble_eq_true rfl) h (fun u35 h => ?_)
        refine r_iload (q := 166) (dc dt_UN_splitWords 89 rfl) rfl 5 rfl ?_
        have hJ : ∀ (w_0 : Int), w_0 = (if v5 = 0 then 1 else 0) → A G m_UN_splitWords 174 [(1, I (if v6 = 0 then 1 else 0)), (0, O 4), (2, I v2), (3, I v3), (4, I v4), (5, I v5), (6, I v6)] [I w_0] u35 P := by
          intro w_0 z_0
          subst z_0
          refine r_istore_n (q := 175) (dc dt_UN_splitWords 94 rfl) rfl rfl (by decide) rfl ?_
          refine r_iload_n (q := 176) (dc dt_UN_splitWords 95 rfl) rfl rfl 1 rfl ?_
          refine r_ifb_eq (q := 179) (t := 196) (dc dt_UN_splitWords 96 rfl) rfl (by decide) (fun q_ => ?_) (fun q_ => ?_)
          · have h := h.1 q_
            refine r_iinc (q := 199) (k := 3) (dc dt_UN_splitWords 108 rfl) rfl rfl (by decide) rfl ?_
            refine r_goto (q := 16) (dc dt_UN_splitWords 109 rfl) (by decide) ?_
            exact r_loc [3, 2, 1, 0] rfl h
          · have h := h.2 q_
            refine r_aload_n (q := 180) (dc dt_UN_splitWords 97 rfl) rfl rfl 2 rfl ?_
            refine r_getO (q := 183) (v := 67) fl_UN_38 (dc dt_UN_splitWords 98 rfl) rfl ly4 rfl ?_
            refine r_aload_n (q := 184) (dc dt_UN_splitWords 99 rfl) rfl rfl 2 rfl ?_
            refine r_getI (q := 187) (v := u35.2.1 4 3) fl_UN_15 (dc dt_UN_splitWords 100 rfl) rfl ly4 rfl rfl (fun g38 => ?_)
            refine r_iconst (q := 188) (dc dt_UN_splitWords 101 rfl) rfl rfl ?_
            refine r_isub (q := 189) (dc dt_UN_splitWords 102 rfl) rfl ?_
            refine r_aload_n (q := 190) (dc dt_UN_splitWords 103 rfl) rfl rfl 2 rfl ?_
            refine r_getI (q := 193) (v := u35.2.1 4 2) fl_UN_9 (dc dt_UN_splitWords 104 rfl) rfl ly4 rfl rfl (fun g39 => ?_)
            refine r_iconst (q := 194) (dc dt_UN_splitWords 105 rfl) rfl rfl ?_
            refine r_isub (q := 195) (dc dt_UN_splitWords 106 rfl) rfl ?_
            obtain ⟨o40, h⟩ := h
            obtain ⟨o41, h⟩ := h
            refine r_iast (q := 196) (dc dt_UN_splitWords 107 rfl) rfl ly67 o40 o41 (fun σ42 e43 => ?_)
            have h := h σ42 e43
            refine r_iinc (q := 199) (k := 3) (dc dt_UN_splitWords 108 rfl) rfl rfl (by decide) rfl ?_
            refine r_goto (q := 16) (dc dt_UN_splitWords 109 rfl) (by decide) ?_
            exact r_loc [3, 2, 1, 0] rfl h
        clear h
        refine r_if_ne (q := 169) (t := 173) (dc dt_UN_splitWords 90 rfl) rfl (by decide) o31 (fun q_ => ?_) (fun q_ => ?_)
        · have q68 := q_
          refine r_iconst (q := 174) (dc dt_UN_splitWords 93 rfl) rfl rfl ?_
          exact (hJ 0 ((if_neg (by first | omega | grind)).symm))
        · have q68 := q_
          refine r_iconst (q := 170) (dc dt_UN_splitWords 91 rfl) rfl rfl ?_
          refine r_goto (q := 174) (dc dt_UN_splitWords 92 rfl) (by decide) ?_
          exact (hJ 1 ((if_pos (by first | omega | grind)).symm))
      clear h
      refine r_if_eq (q := 150) (t := 155) (dc dt_UN_splitWords 81 rfl) rfl (by decide) o30 (fun q_ => ?_) (fun q_ => ?_)
      · have q69 := q_
        refine r_aload_n (q := 156) (dc dt_UN_splitWords 84 rfl) rfl rfl 1 rfl ?_
        refine r_getI (q := 159) (v := σ.2.1 4 3) fl_UN_15 (dc dt_UN_splitWords 85 rfl) rfl ly4 rfl rfl (fun g34 => ?_)
        refine r_iconst (q := 160) (dc dt_UN_splitWords 86 rfl) rfl rfl ?_
        refine r_isub (q := 161) (dc dt_UN_splitWords 87 rfl) rfl ?_
        exact (hJ ((σ.2.1 4 3) - 1) ((if_pos (by first | omega | grind)).symm))
      · have q69 := q_
        refine r_bipush (q := 152) (dc dt_UN_splitWords 82 rfl) rfl (by decide) ?_
        refine r_goto (q := 161) (dc dt_UN_splitWords 83 rfl) (by decide) ?_
        exact (hJ (-6) ((if_neg (by first | omega | grind)).symm))
    · have h := h.2 q_
      refine r_iload_n (q := 122) (dc dt_UN_splitWords 66 rfl) rfl rfl 2 rfl ?_
      obtain ⟨o44, h⟩ := h
      refine r_if_eq (q := 125) (t := 141) (dc dt_UN_splitWords 67 rfl) rfl (by decide) o44 (fun q_ => ?_) (fun q_ => ?_)
      · have h := h.1 q_
        refine r_aload_n (q := 142) (dc dt_UN_splitWords 77 rfl) rfl rfl 1 rfl ?_
        refine r_iload_n (q := 143) (dc dt_UN_splitWords 78 rfl) rfl rfl 3 rfl ?_
        refine r_iload (q := 145) (dc dt_UN_splitWords 79 rfl) rfl 4 rfl ?_
        refine r_iload (q := 147) (dc dt_UN_splitWords 80 rfl) rfl 6 rfl ?_
        have hJ : ∀ (w_0 : Int), w_0 = (if v6 = 0 then (σ.2.1 4 3) - 1 else (-6 : Int)) → A G m_UN_splitWords 161 [(1, I (if v6 = 0 then 1 else 0)), (0, O 4), (2, I v2), (3, I v3), (4, I v4), (5, I v5), (6, I v6)] [I w_0, I v4, I v3, O 4] σ P := by
          intro w_0 z_0
          subst z_0
          refine r_callVv (q := 164) mk_UN_addUnit lm_UN_98 (RMO.of rfl) rfl (dc dt_UN_splitWords 88 rfl) rfl ly4 [I v3, I v4, I (if v6 = 0 then (σ.2.1 4 3) - 1 else (-6 : Int))] [] rfl rfl (Nat.le_of_ble_eq_true rfl) h (fun u48 h => ?_)
          refine r_iload (q := 166) (dc dt_UN_splitWords 89 rfl) rfl 5 rfl ?_
          have hJ : ∀ (w_0 : Int), w_0 = (if v5 = 0 then 1 else 0) → A G m_UN_splitWords 174 [(1, I (if v6 = 0 then 1 else 0)), (0, O 4), (2, I v2), (3, I v3), (4, I v4), (5, I v5), (6, I v6)] [I w_0] u48 P := by
            intro w_0 z_0
            subst z_0
            refine r_istore_n (q := 175) (dc dt_UN_splitWords 94 rfl) rfl rfl (by decide) rfl ?_
            refine r_iload_n (q := 176) (dc dt_UN_splitWords 95 rfl) rfl rfl 1 rfl ?_
            refine r_ifb_eq (q := 179) (t := 196) (dc dt_UN_splitWords 96 rfl) rfl (by decide) (fun q_ => ?_) (fun q_ => ?_)
            · have h := h.1 q_
              refine r_iinc (q := 199) (k := 3) (dc dt_UN_splitWords 108 rfl) rfl rfl (by decide) rfl ?_
              refine r_goto (q := 16) (dc dt_UN_splitWords 109 rfl) (by decide) ?_
              exact r_loc [3, 2, 1, 0] rfl h
            · have h := h.2 q_
              refine r_aload_n (q := 180) (dc dt_UN_splitWords 97 rfl) rfl rfl 2 rfl ?_
              refine r_getO (q := 183) (v := 67) fl_UN_38 (dc dt_UN_splitWords 98 rfl) rfl ly4 rfl ?_
              refine r_aload_n (q := 184) (dc dt_UN_splitWords 99 rfl) rfl rfl 2 rfl ?_
              refine r_getI (q := 187) (v := u48.2.1 4 3) fl_UN_15 (dc dt_UN_splitWords 100 rfl) rfl ly4 rfl rfl (fun g51 => ?_)
              refine r_iconst (q := 188) (dc dt_UN_splitWords 101 rfl) rfl rfl ?_
              refine r_isub (q := 189) (dc dt_UN_splitWords 102 rfl) rfl ?_
              refine r_aload_n (q := 190) (dc dt_UN_splitWords 103 rfl) rfl rfl 2 rfl ?_
              refine r_getI (q := 193) (v := u48.2.1 4 2) fl_UN_9 (dc dt_UN_splitWords 104 rfl) rfl ly4 rfl rfl (fun g52 => ?_)
              refine r_iconst (q := 194) (dc dt_UN_splitWords 105 rfl) rfl rfl ?_
              refine r_isub (q := 195) (dc dt_UN_splitWords 106 rfl) rfl ?_
              obtain ⟨o53, h⟩ := h
              obtain ⟨o54, h⟩ := h
              refine r_iast (q := 196) (dc dt_UN_splitWords 107 rfl) rfl ly67 o53 o54 (fun σ55 e56 => ?_)
              have h := h σ55 e56
              refine r_iinc (q := 199) (k := 3) (dc dt_UN_splitWords 108 rfl) rfl rfl (by decide) rfl ?_
              refine r_goto (q := 16) (dc dt_UN_splitWords 109 rfl) (by decide) ?_
              exact r_loc [3, 2, 1, 0] rfl h
          clear h
          refine r_if_ne (q := 169) (t := 173) (dc dt_UN_splitWords 90 rfl) rfl (by decide) o31 (fun q_ => ?_) (fun q_ => ?_)
          · have q70 := q_
            refine r_iconst (q := 174) (dc dt_UN_splitWords 93 rfl) rfl rfl ?_
            exact (hJ 0 ((if_neg (by first | omega | grind)).symm))
          · have q70 := q_
            refine r_iconst (q := 170) (dc dt_UN_splitWords 91 rfl) rfl rfl ?_
            refine r_goto (q := 174) (dc dt_UN_splitWords 92 rfl) (by decide) ?_
            exact (hJ 1 ((if_pos (by first | omega | grind)).symm))
        clear h
        refine r_if_eq (q := 150) (t := 155) (dc dt_UN_splitWords 81 rfl) rfl (by decide) o30 (fun q_ => ?_) (fun q_ => ?_)
        · have q71 := q_
          refine r_aload_n (q := 156) (dc dt_UN_splitWords 84 rfl) rfl rfl 1 rfl ?_
          refine r_getI (q := 159) (v := σ.2.1 4 3) fl_UN_15 (dc dt_UN_splitWords 85 rfl) rfl ly4 rfl rfl (fun g47 => ?_)
          refine r_iconst (q := 160) (dc dt_UN_splitWords 86 rfl) rfl rfl ?_
          refine r_isub (q := 161) (dc dt_UN_splitWords 87 rfl) rfl ?_
          exact (hJ ((σ.2.1 4 3) - 1) ((if_pos (by first | omega | grind)).symm))
        · have q71 := q_
          refine r_bipush (q := 152) (dc dt_UN_splitWords 82 rfl) rfl (by decide) ?_
          refine r_goto (q := 161) (dc dt_UN_splitWords 83 rfl) (by decide) ?_
          exact (hJ (-6) ((if_neg (by first | omega | grind)).symm))
      · have h := h.2 q_
        refine r_aload_n (q := 126) (dc dt_UN_splitWords 68 rfl) rfl rfl 1 rfl ?_
        refine r_aload_n (q := 127) (dc dt_UN_splitWords 69 rfl) rfl rfl 1 rfl ?_
        refine r_getI (q := 130) (v := σ.2.1 4 2) fl_UN_9 (dc dt_UN_splitWords 70 rfl) rfl ly4 rfl rfl (fun g57 => ?_)
        refine r_iconst (q := 131) (dc dt_UN_splitWords 71 rfl) rfl rfl ?_
        refine r_isub (q := 132) (dc dt_UN_splitWords 72 rfl) rfl ?_
        refine r_iload_n (q := 133) (dc dt_UN_splitWords 73 rfl) rfl rfl 3 rfl ?_
        refine r_iload (q := 135) (dc dt_UN_splitWords 74 rfl) rfl 4 rfl ?_
        refine r_callVv (q := 138) mk_UN_standOn lm_UN_94 (RMO.of rfl) rfl (dc dt_UN_splitWords 75 rfl) rfl ly4 [I ((σ.2.1 4 2) - 1), I v3, I v4] [] rfl rfl (Nat.le_of_ble_eq_true rfl) h (fun u58 h => ?_)
        refine r_goto (q := 175) (dc dt_UN_splitWords 76 rfl) (by decide) ?_
        refine r_iload_n (q := 176) (dc dt_UN_splitWords 95 rfl) rfl rfl 0 rfl ?_
        refine r_ifb_eq (q := 179) (t := 196) (dc dt_UN_splitWords 96 rfl) rfl (by decide) (fun q_ => ?_) (fun q_ => ?_)
        · have h := h.1 q_
          refine r_iinc (q := 199) (k := 3) (dc dt_UN_splitWords 108 rfl) rfl rfl (by decide) rfl ?_
          refine r_goto (q := 16) (dc dt_UN_splitWords 109 rfl) (by decide) ?_
          exact r_loc [2, 1, 3, 0] rfl h
        · have h := h.2 q_
          refine r_aload_n (q := 180) (dc dt_UN_splitWords 97 rfl) rfl rfl 1 rfl ?_
          refine r_getO (q := 183) (v := 67) fl_UN_38 (dc dt_UN_splitWords 98 rfl) rfl ly4 rfl ?_
          refine r_aload_n (q := 184) (dc dt_UN_splitWords 99 rfl) rfl rfl 1 rfl ?_
          refine r_getI (q := 187) (v := u58.2.1 4 3) fl_UN_15 (dc dt_UN_splitWords 100 rfl) rfl ly4 rfl rfl (fun g61 => ?_)
          refine r_iconst (q := 188) (dc dt_UN_splitWords 101 rfl) rfl rfl ?_
          refine r_isub (q := 189) (dc dt_UN_splitWords 102 rfl) rfl ?_
          refine r_aload_n (q := 190) (dc dt_UN_splitWords 103 rfl) rfl rfl 1 rfl ?_
          refine r_getI (q := 193) (v := u58.2.1 4 2) fl_UN_9 (dc dt_UN_splitWords 104 rfl) rfl ly4 rfl rfl (fun g62 => ?_)
          refine r_iconst (q := 194) (dc dt_UN_splitWords 105 rfl) rfl rfl ?_
          refine r_isub (q := 195) (dc dt_UN_splitWords 106 rfl) rfl ?_
          obtain ⟨o63, h⟩ := h
          obtain ⟨o64, h⟩ := h
          refine r_iast (q := 196) (dc dt_UN_splitWords 107 rfl) rfl ly67 o63 o64 (fun σ65 e66 => ?_)
          have h := h σ65 e66
          refine r_iinc (q := 199) (k := 3) (dc dt_UN_splitWords 108 rfl) rfl rfl (by decide) rfl ?_
          refine r_goto (q := 16) (dc dt_UN_splitWords 109 rfl) (by decide) ?_
          exact r_loc [2, 1, 3, 0] rfl h
  clear h
  refine r_if_ne (q := 110) (t := 114) (dc dt_UN_splitWords 59 rfl) rfl (by decide) o30 (fun q_ => ?_) (fun q_ => ?_)
  · have q72 := q_
    refine r_iconst (q := 115) (dc dt_UN_splitWords 62 rfl) rfl rfl ?_
    exact (hJ 0 ((if_neg (by first | omega | grind)).symm))
  · have q72 := q_
    refine r_iconst (q := 111) (dc dt_UN_splitWords 60 rfl) rfl rfl ?_
    refine r_goto (q := 115) (dc dt_UN_splitWords 61 rfl) (by decide) ?_
    exact (hJ 1 ((if_pos (by first | omega | grind)).symm))
def tb_UN_standsAt : List (Nat × Instr × Nat) := [(0, .aload_n 0, 1), (1, .getfield 59, 3), (4, .getfield 109, 3), (7, .aload_n 0, 1), (8, .getfield 59, 3), (11, .getfield 115, 3), (14, .iload_n 1, 1), (15, .iaload, 1), (16, .iaload, 1), (17, .istore_n 3, 1), (18, .iload_n 2, 1), (19, .iload_n 3, 1), (20, .iadd, 1), (21, .aload_n 0, 1), (22, .getfield 9, 3), (25, .if_icmp .le 5, 3), (28, .iconst 0, 1), (29, .ireturn, 1), (30, .iconst 0, 1), (31, .istore 4, 2), (33, .iload 4, 2), (35, .iload_n 3, 1), (36, .if_icmp .ge 35, 3), (39, .aload_n 0, 1), (40, .getfield 25, 3), (43, .iload_n 2, 1), (44, .iload 4, 2), (46, .iadd, 1), (47, .iaload, 1), (48, .aload_n 0, 1), (49, .getfield 59, 3), (52, .getfield 125, 3), (55, .iload_n 1, 1), (56, .aaload, 1), (57, .iload 4, 2), (59, .iaload, 1), (60, .if_icmp .eq 5, 3), (63, .iconst 0, 1), (64, .ireturn, 1), (65, .iinc 4 1, 3), (68, .goto (-35), 3), (71, .iconst 1, 1), (72, .ireturn, 1)]
theorem dt_UN_standsAt : DT (cM m_UN_standsAt) tb_UN_standsAt := by unfold DT; decide +kernel
abbrev a_UN_standsAt_0 (G : GT)  (v1 : Int) (v2 : Int) (σ : St) (P : Int → St → Prop) : Prop := A G m_UN_standsAt 0 [(0, O 4), (1, I v1), (2, I v2)] [] σ P
abbrev a_UN_standsAt_33 (G : GT)  (v1 : Int) (v2 : Int) (v3 : Int) (v4 : Int) (σ : St) (P : Int → St → Prop) : Prop := A G m_UN_standsAt 33 [(0, O 4), (1, I v1), (2, I v2), (3, I v3), (4, I v4)] [] σ P
set_option maxRecDepth 20000 in
theorem k_UN_standsAt_0 {G : GT} {σ : St} {P : Int → St → Prop}  {v1 : Int} {v2 : Int}  
    (h : (0 ≤ v1 ∧ v1 < 8) ∧ (0 ≤ σ.1 51 v1.toNat ∧ σ.1 51 v1.toNat < 60) ∧ rng (v2 + (σ.1 49 ((σ.1 51 v1.toNat).toNat))) ∧ (v2 + (σ.1 49 ((σ.1 51 v1.toNat).toNat)) ≤ σ.2.1 4 2 → a_UN_standsAt_33 G v1 v2 (σ.1 49 ((σ.1 51 v1.toNat).toNat)) 0 σ P) ∧ (σ.2.1 4 2 < v2 + (σ.1 49 ((σ.1 51 v1.toNat).toNat)) → P 0 σ)) :
    a_UN_standsAt_0 G v1 v2 σ P := by
  refine r_aload_n (q := 1) (dc dt_UN_standsAt 0 rfl) rfl rfl 0 rfl ?_
  refine r_getO (q := 4) (v := 1) fl_UN_59 (dc dt_UN_standsAt 1 rfl) rfl ly4 rfl ?_
  refine r_getO (q := 7) (v := 49) fl_UN_109 (dc dt_UN_standsAt 2 rfl) rfl ly1 rfl ?_
  refine r_aload_n (q := 8) (dc dt_UN_standsAt 3 rfl) rfl rfl 0 rfl ?_
  refine r_getO (q := 11) (v := 1) fl_UN_59 (dc dt_UN_standsAt 4 rfl) rfl ly4 rfl ?_
  refine r_getO (q := 14) (v := 51) fl_UN_115 (dc dt_UN_standsAt 5 rfl) rfl ly1 rfl ?_
  refine r_iload_n (q := 15) (dc dt_UN_standsAt 6 rfl) rfl rfl 1 rfl ?_
  obtain ⟨o1, h⟩ := h
  refine r_iald (q := 16) (v := σ.1 51 v1.toNat) (dc dt_UN_standsAt 7 rfl) rfl ly51 o1 rfl (fun g2 => ?_)
  obtain ⟨o3, h⟩ := h
  refine r_iald (q := 17) (v := σ.1 49 ((σ.1 51 v1.toNat).toNat)) (dc dt_UN_standsAt 8 rfl) rfl ly49 o3 rfl (fun g4 => ?_)
  refine r_istore_n (q := 18) (dc dt_UN_standsAt 9 rfl) rfl rfl (by decide) rfl ?_
  refine r_iload_n (q := 19) (dc dt_UN_standsAt 10 rfl) rfl rfl 3 rfl ?_
  refine r_iload_n (q := 20) (dc dt_UN_standsAt 11 rfl) rfl rfl 0 rfl ?_
  refine r_iadd (q := 21) (dc dt_UN_standsAt 12 rfl) rfl ?_
  refine r_aload_n (q := 22) (dc dt_UN_standsAt 13 rfl) rfl rfl 1 rfl ?_
  refine r_getI (q := 25) (v := σ.2.1 4 2) fl_UN_9 (dc dt_UN_standsAt 14 rfl) rfl ly4 rfl rfl (fun g5 => ?_)
  obtain ⟨o6, h⟩ := h
  refine r_icmp_le (q := 28) (t := 30) (dc dt_UN_standsAt 15 rfl) rfl (by decide) o6 g5 (fun q_ => ?_) (fun q_ => ?_)
  · have h := h.1 q_
    refine r_iconst (q := 31) (dc dt_UN_standsAt 18 rfl) rfl rfl ?_
    refine r_istore (q := 33) (dc dt_UN_standsAt 19 rfl) rfl (by decide) rfl ?_
    exact r_loc [2, 3, 4, 1, 0] rfl h
  · have h := h.2 q_
    refine r_iconst (q := 29) (dc dt_UN_standsAt 16 rfl) rfl rfl ?_
    exact r_zret rfl (dc dt_UN_standsAt 17 rfl) (by decide) h
set_option maxRecDepth 20000 in
theorem k_UN_standsAt_33 {G : GT} {σ : St} {P : Int → St → Prop}  {v1 : Int} {v2 : Int} {v3 : Int} {v4 : Int}  
    (h : rng v4 ∧ rng v3 ∧ (v3 ≤ v4 → P 1 σ) ∧ (v4 < v3 → (0 ≤ v2 + v4 ∧ v2 + v4 < 80) ∧ (0 ≤ v1 ∧ v1 < 8) ∧ (0 ≤ v4 ∧ v4 < 3) ∧ (σ.1 63 ((v2 + v4).toNat) = σ.1 (168 + v1.toNat) v4.toNat → a_UN_standsAt_33 G v1 v2 v3 (v4 + 1) σ P) ∧ (σ.1 63 ((v2 + v4).toNat) ≠ σ.1 (168 + v1.toNat) v4.toNat → P 0 σ))) :
    a_UN_standsAt_33 G v1 v2 v3 v4 σ P := by
  refine r_iload (q := 35) (dc dt_UN_standsAt 20 rfl) rfl 4 rfl ?_
  refine r_iload_n (q := 36) (dc dt_UN_standsAt 21 rfl) rfl rfl 3 rfl ?_
  obtain ⟨o7, h⟩ := h
  obtain ⟨o8, h⟩ := h
  refine r_icmp_ge (q := 39) (t := 71) (dc dt_UN_standsAt 22 rfl) rfl (by decide) o7 o8 (fun q_ => ?_) (fun q_ => ?_)
  · have h := h.1 q_
    refine r_iconst (q := 72) (dc dt_UN_standsAt 41 rfl) rfl rfl ?_
    exact r_zret rfl (dc dt_UN_standsAt 42 rfl) (by decide) h
  · have h := h.2 q_
    refine r_aload_n (q := 40) (dc dt_UN_standsAt 23 rfl) rfl rfl 0 rfl ?_
    refine r_getO (q := 43) (v := 63) fl_UN_25 (dc dt_UN_standsAt 24 rfl) rfl ly4 rfl ?_
    refine r_iload_n (q := 44) (dc dt_UN_standsAt 25 rfl) rfl rfl 2 rfl ?_
    refine r_iload (q := 46) (dc dt_UN_standsAt 26 rfl) rfl 4 rfl ?_
    refine r_iadd (q := 47) (dc dt_UN_standsAt 27 rfl) rfl ?_
    obtain ⟨o9, h⟩ := h
    refine r_iald (q := 48) (v := σ.1 63 ((v2 + v4).toNat)) (dc dt_UN_standsAt 28 rfl) rfl ly63 o9 rfl (fun g10 => ?_)
    refine r_aload_n (q := 49) (dc dt_UN_standsAt 29 rfl) rfl rfl 0 rfl ?_
    refine r_getO (q := 52) (v := 1) fl_UN_59 (dc dt_UN_standsAt 30 rfl) rfl ly4 rfl ?_
    refine r_getO (q := 55) (v := 52) fl_UN_125 (dc dt_UN_standsAt 31 rfl) rfl ly1 rfl ?_
    refine r_iload_n (q := 56) (dc dt_UN_standsAt 32 rfl) rfl rfl 1 rfl ?_
    obtain ⟨o11, h⟩ := h
    refine r_aald (q := 57) (dc dt_UN_standsAt 33 rfl) rfl ly52 o11 rfl ?_
    refine r_iload (q := 59) (dc dt_UN_standsAt 34 rfl) rfl 4 rfl ?_
    obtain ⟨o12, h⟩ := h
    refine r_iald (q := 60) (v := σ.1 (168 + v1.toNat) v4.toNat) (dc dt_UN_standsAt 35 rfl) rfl (lyr_168 o11) o12 rfl (fun g13 => ?_)
    refine r_icmp_eq (q := 63) (t := 65) (dc dt_UN_standsAt 36 rfl) rfl (by decide) g10 g13 (fun q_ => ?_) (fun q_ => ?_)
    · have h := h.1 q_
      refine r_iinc (q := 68) (k := 4) (dc dt_UN_standsAt 39 rfl) rfl rfl (by decide) rfl ?_
      refine r_goto (q := 33) (dc dt_UN_standsAt 40 rfl) (by decide) ?_
      exact r_loc [1, 2, 3, 4, 0] rfl h
    · have h := h.2 q_
      refine r_iconst (q := 64) (dc dt_UN_standsAt 37 rfl) rfl rfl ?_
      exact r_zret rfl (dc dt_UN_standsAt 38 rfl) (by decide) h
def tb_UN_longestMust : List (Nat × Instr × Nat) := [(0, .aload_n 0, 1), (1, .getfield 25, 3), (4, .iload_n 1, 1), (5, .iaload, 1), (6, .istore_n 2, 1), (7, .iconst 0, 1), (8, .istore_n 3, 1), (9, .iload_n 3, 1), (10, .aload_n 0, 1), (11, .getfield 59, 3), (14, .getfield 112, 3), (17, .if_icmp .ge 66, 3), (20, .aload_n 0, 1), (21, .getfield 59, 3), (24, .getfield 115, 3), (27, .iload_n 3, 1), (28, .iaload, 1), (29, .istore 4, 2), (31, .aload_n 0, 1), (32, .getfield 59, 3), (35, .getfield 118, 3), (38, .iload_n 3, 1), (39, .baload, 1), (40, .ifCond .eq 37, 3), (43, .aload_n 0, 1), (44, .getfield 59, 3), (47, .getfield 109, 3), (50, .iload 4, 2), (52, .iaload, 1), (53, .aload_n 0, 1), (54, .getfield 59, 3), (57, .getfield 109, 3), (60, .iload_n 2, 1), (61, .iaload, 1), (62, .if_icmp .le 15, 3), (65, .aload_n 0, 1), (66, .iload_n 3, 1), (67, .iload_n 1, 1), (68, .invokevirtual 121, 3), (71, .ifCond .eq 6, 3), (74, .iload 4, 2), (76, .istore_n 2, 1), (77, .iinc 3 1, 3), (80, .goto (-71), 3), (83, .iload_n 2, 1), (84, .ireturn, 1)]
theorem dt_UN_longestMust : DT (cM m_UN_longestMust) tb_UN_longestMust := by unfold DT; decide +kernel
abbrev a_UN_longestMust_0 (G : GT)  (v1 : Int) (σ : St) (P : Int → St → Prop) : Prop := A G m_UN_longestMust 0 [(0, O 4), (1, I v1)] [] σ P
abbrev a_UN_longestMust_9 (G : GT)  (v1 : Int) (v2 : Int) (v3 : Int) (σ : St) (P : Int → St → Prop) : Prop := A G m_UN_longestMust 9 [(0, O 4), (1, I v1), (2, I v2), (3, I v3)] [] σ P
set_option maxRecDepth 20000 in
theorem k_UN_longestMust_0 {G : GT} {σ : St} {P : Int → St → Prop}  {v1 : Int}  
    (h : (0 ≤ v1 ∧ v1 < 80) ∧ a_UN_longestMust_9 G v1 (σ.1 63 v1.toNat) 0 σ P) :
    a_UN_longestMust_0 G v1 σ P := by
  refine r_aload_n (q := 1) (dc dt_UN_longestMust 0 rfl) rfl rfl 0 rfl ?_
  refine r_getO (q := 4) (v := 63) fl_UN_25 (dc dt_UN_longestMust 1 rfl) rfl ly4 rfl ?_
  refine r_iload_n (q := 5) (dc dt_UN_longestMust 2 rfl) rfl rfl 1 rfl ?_
  obtain ⟨o1, h⟩ := h
  refine r_iald (q := 6) (v := σ.1 63 v1.toNat) (dc dt_UN_longestMust 3 rfl) rfl ly63 o1 rfl (fun g2 => ?_)
  refine r_istore_n (q := 7) (dc dt_UN_longestMust 4 rfl) rfl rfl (by decide) rfl ?_
  refine r_iconst (q := 8) (dc dt_UN_longestMust 5 rfl) rfl rfl ?_
  refine r_istore_n (q := 9) (dc dt_UN_longestMust 6 rfl) rfl rfl (by decide) rfl ?_
  exact r_loc [2, 3, 1, 0] rfl h
set_option maxRecDepth 20000 in
theorem k_UN_longestMust_9 {G : GT} {σ : St} {P : Int → St → Prop}  {v1 : Int} {v2 : Int} {v3 : Int}  
    (h : rng v3 ∧ (σ.2.1 1 1 ≤ v3 → rng v2 ∧ P v2 σ) ∧ (v3 < σ.2.1 1 1 → (0 ≤ v3 ∧ v3 < 8) ∧ (σ.1 53 v3.toNat = 0 → a_UN_longestMust_9 G v1 v2 (v3 + 1) σ P) ∧ (σ.1 53 v3.toNat ≠ 0 → (0 ≤ σ.1 51 v3.toNat ∧ σ.1 51 v3.toNat < 60) ∧ (0 ≤ v2 ∧ v2 < 60) ∧ (σ.1 49 ((σ.1 51 v3.toNat).toNat) ≤ σ.1 49 v2.toNat → a_UN_longestMust_9 G v1 v2 (v3 + 1) σ P) ∧ (σ.1 49 v2.toNat < σ.1 49 ((σ.1 51 v3.toNat).toNat) → CJ G m_UN_standsAt [O 4, I v3, I v1] σ (fun r25 u24 => a_UN_longestMust_9 G v1 (if r25 = 0 then v2 else σ.1 51 v3.toNat) (v3 + 1) u24 P))))) :
    a_UN_longestMust_9 G v1 v2 v3 σ P := by
  refine r_iload_n (q := 10) (dc dt_UN_longestMust 7 rfl) rfl rfl 3 rfl ?_
  refine r_aload_n (q := 11) (dc dt_UN_longestMust 8 rfl) rfl rfl 0 rfl ?_
  refine r_getO (q := 14) (v := 1) fl_UN_59 (dc dt_UN_longestMust 9 rfl) rfl ly4 rfl ?_
  refine r_getI (q := 17) (v := σ.2.1 1 1) fl_UN_112 (dc dt_UN_longestMust 10 rfl) rfl ly1 rfl rfl (fun g3 => ?_)
  obtain ⟨o4, h⟩ := h
  refine r_icmp_ge (q := 20) (t := 83) (dc dt_UN_longestMust 11 rfl) rfl (by decide) o4 g3 (fun q_ => ?_) (fun q_ => ?_)
  · have h := h.1 q_
    refine r_iload_n (q := 84) (dc dt_UN_longestMust 44 rfl) rfl rfl 2 rfl ?_
    obtain ⟨o12, h⟩ := h
    exact r_iret rfl (dc dt_UN_longestMust 45 rfl) o12 h
  · have h := h.2 q_
    refine r_aload_n (q := 21) (dc dt_UN_longestMust 12 rfl) rfl rfl 0 rfl ?_
    refine r_getO (q := 24) (v := 1) fl_UN_59 (dc dt_UN_longestMust 13 rfl) rfl ly4 rfl ?_
    refine r_getO (q := 27) (v := 51) fl_UN_115 (dc dt_UN_longestMust 14 rfl) rfl ly1 rfl ?_
    refine r_iload_n (q := 28) (dc dt_UN_longestMust 15 rfl) rfl rfl 3 rfl ?_
    obtain ⟨o13, h⟩ := h
    refine r_iald (q := 29) (v := σ.1 51 v3.toNat) (dc dt_UN_longestMust 16 rfl) rfl ly51 o13 rfl (fun g14 => ?_)
    refine r_istore (q := 31) (dc dt_UN_longestMust 17 rfl) rfl (by decide) rfl ?_
    refine r_aload_n (q := 32) (dc dt_UN_longestMust 18 rfl) rfl rfl 1 rfl ?_
    refine r_getO (q := 35) (v := 1) fl_UN_59 (dc dt_UN_longestMust 19 rfl) rfl ly4 rfl ?_
    refine r_getO (q := 38) (v := 53) fl_UN_118 (dc dt_UN_longestMust 20 rfl) rfl ly1 rfl ?_
    refine r_iload_n (q := 39) (dc dt_UN_longestMust 21 rfl) rfl rfl 4 rfl ?_
    refine r_zald (q := 40) (v := σ.1 53 v3.toNat) (dc dt_UN_longestMust 22 rfl) rfl ly53 o13 rfl (fun g15 => ?_)
    refine r_if_eq (q := 43) (t := 77) (dc dt_UN_longestMust 23 rfl) rfl (by decide) g15 (fun q_ => ?_) (fun q_ => ?_)
    · have h := h.1 q_
      refine r_iinc (q := 80) (k := 4) (dc dt_UN_longestMust 42 rfl) rfl rfl (by decide) rfl ?_
      refine r_goto (q := 9) (dc dt_UN_longestMust 43 rfl) (by decide) ?_
      exact r_loc [2, 3, 4, 0] rfl h
    · have h := h.2 q_
      refine r_aload_n (q := 44) (dc dt_UN_longestMust 24 rfl) rfl rfl 1 rfl ?_
      refine r_getO (q := 47) (v := 1) fl_UN_59 (dc dt_UN_longestMust 25 rfl) rfl ly4 rfl ?_
      refine r_getO (q := 50) (v := 49) fl_UN_109 (dc dt_UN_longestMust 26 rfl) rfl ly1 rfl ?_
      refine r_iload (q := 52) (dc dt_UN_longestMust 27 rfl) rfl 0 rfl ?_
      obtain ⟨o20, h⟩ := h
      refine r_iald (q := 53) (v := σ.1 49 ((σ.1 51 v3.toNat).toNat)) (dc dt_UN_longestMust 28 rfl) rfl ly49 o20 rfl (fun g21 => ?_)
      refine r_aload_n (q := 54) (dc dt_UN_longestMust 29 rfl) rfl rfl 1 rfl ?_
      refine r_getO (q := 57) (v := 1) fl_UN_59 (dc dt_UN_longestMust 30 rfl) rfl ly4 rfl ?_
      refine r_getO (q := 60) (v := 49) fl_UN_109 (dc dt_UN_longestMust 31 rfl) rfl ly1 rfl ?_
      refine r_iload_n (q := 61) (dc dt_UN_longestMust 32 rfl) rfl rfl 3 rfl ?_
      obtain ⟨o22, h⟩ := h
      refine r_iald (q := 62) (v := σ.1 49 v2.toNat) (dc dt_UN_longestMust 33 rfl) rfl ly49 o22 rfl (fun g23 => ?_)
      refine r_icmp_le (q := 65) (t := 77) (dc dt_UN_longestMust 34 rfl) rfl (by decide) g21 g23 (fun q_ => ?_) (fun q_ => ?_)
      · have h := h.1 q_
        refine r_iinc (q := 80) (k := 4) (dc dt_UN_longestMust 42 rfl) rfl rfl (by decide) rfl ?_
        refine r_goto (q := 9) (dc dt_UN_longestMust 43 rfl) (by decide) ?_
        exact r_loc [2, 3, 4, 0] rfl h
      · have h := h.2 q_
        refine r_aload_n (q := 66) (dc dt_UN_longestMust 35 rfl) rfl rfl 1 rfl ?_
        refine r_iload_n (q := 67) (dc dt_UN_longestMust 36 rfl) rfl rfl 4 rfl ?_
        refine r_iload_n (q := 68) (dc dt_UN_longestMust 37 rfl) rfl rfl 2 rfl ?_
        refine r_callVi (q := 71) mk_UN_standsAt lm_UN_121 (RMO.of rfl) rfl (dc dt_UN_longestMust 38 rfl) rfl ly4 [I v3, I v1] [] rfl rfl (Nat.le_of_ble_eq_true rfl) h (fun r25 u24 g26 h => ?_)
        have hJ : ∀ (w_0 : Int), w_0 = (if r25 = 0 then v2 else σ.1 51 v3.toNat) → A G m_UN_longestMust 77 [(4, I (σ.1 51 v3.toNat)), (0, O 4), (1, I v1), (2, I w_0), (3, I v3)] [] u24 P := by
          intro w_0 z_0
          subst z_0
          refine r_iinc (q := 80) (k := 4) (dc dt_UN_longestMust 42 rfl) rfl rfl (by decide) rfl ?_
          refine r_goto (q := 9) (dc dt_UN_longestMust 43 rfl) (by decide) ?_
          exact r_loc [2, 3, 4, 0] rfl h
        clear h
        refine r_if_eq (q := 74) (t := 77) (dc dt_UN_longestMust 39 rfl) rfl (by decide) g26 (fun q_ => ?_) (fun q_ => ?_)
        · have q27 := q_
          exact (hJ v2 ((if_pos (by first | omega | grind)).symm))
        · have q27 := q_
          refine r_iload (q := 76) (dc dt_UN_longestMust 40 rfl) rfl 0 rfl ?_
          refine r_istore_n (q := 77) (dc dt_UN_longestMust 41 rfl) rfl rfl (by decide) rfl ?_
          exact r_loc [1, 2, 3, 0, 4] rfl (hJ (σ.1 51 v3.toNat) ((if_neg (by first | omega | grind)).symm))
def tb_UN_findBases : List (Nat × Instr × Nat) := [(0, .iconst 0, 1), (1, .istore_n 1, 1), (2, .iconst 0, 1), (3, .istore_n 2, 1), (4, .iconst 0, 1), (5, .istore_n 3, 1), (6, .iload_n 3, 1), (7, .aload_n 0, 1), (8, .getfield 9, 3), (11, .if_icmp .ge 81, 3), (14, .iload_n 3, 1), (15, .iload_n 2, 1), (16, .if_icmp .lt 7, 3), (19, .iconst 1, 1), (20, .goto 4, 3), (23, .iconst 0, 1), (24, .istore 4, 2), (26, .iload 4, 2), (28, .ifCond .eq 35, 3), (31, .aload_n 0, 1), (32, .iload_n 3, 1), (33, .invokevirtual 105, 3), (36, .istore 5, 2), (38, .aload_n 0, 1), (39, .getfield 56, 3), (42, .iload_n 3, 1), (43, .iconst 3, 1), (44, .imul, 1), (45, .iload 5, 2), (47, .iastore, 1), (48, .iload_n 3, 1), (49, .istore_n 1, 1), (50, .iload_n 3, 1), (51, .aload_n 0, 1), (52, .getfield 59, 3), (55, .getfield 109, 3), (58, .iload 5, 2), (60, .iaload, 1), (61, .iadd, 1), (62, .istore_n 2, 1), (63, .aload_n 0, 1), (64, .getfield 50, 3), (67, .iload_n 3, 1), (68, .iload_n 1, 1), (69, .iastore, 1), (70, .aload_n 0, 1), (71, .getfield 53, 3), (74, .iload_n 3, 1), (75, .iload 4, 2), (77, .ifCond .eq 7, 3), (80, .iconst 1, 1), (81, .goto 4, 3), (84, .iconst 0, 1), (85, .iastore, 1), (86, .iinc 3 1, 3), (89, .goto (-83), 3), (92, .return_, 1)]
theorem dt_UN_findBases : DT (cM m_UN_findBases) tb_UN_findBases := by unfold DT; decide +kernel
abbrev a_UN_findBases_0 (G : GT)   (σ : St) (P : Int → St → Prop) : Prop := A G m_UN_findBases 0 [(0, O 4)] [] σ P
abbrev a_UN_findBases_6 (G : GT)  (v1 : Int) (v2 : Int) (v3 : Int) (σ : St) (P : Int → St → Prop) : Prop := A G m_UN_findBases 6 [(0, O 4), (1, I v1), (2, I v2), (3, I v3)] [] σ P
set_option maxRecDepth 20000 in
theorem k_UN_findBases_0 {G : GT} {σ : St} {P : Int → St → Prop}    
    (h : a_UN_findBases_6 G 0 0 0 σ P) :
    a_UN_findBases_0 G  σ P := by
  refine r_iconst (q := 1) (dc dt_UN_findBases 0 rfl) rfl rfl ?_
  refine r_istore_n (q := 2) (dc dt_UN_findBases 1 rfl) rfl rfl (by decide) rfl ?_
  refine r_iconst (q := 3) (dc dt_UN_findBases 2 rfl) rfl rfl ?_
  refine r_istore_n (q := 4) (dc dt_UN_findBases 3 rfl) rfl rfl (by decide) rfl ?_
  refine r_iconst (q := 5) (dc dt_UN_findBases 4 rfl) rfl rfl ?_
  refine r_istore_n (q := 6) (dc dt_UN_findBases 5 rfl) rfl rfl (by decide) rfl ?_
  exact r_loc [3, 2, 1, 0] rfl h
set_option maxRecDepth 20000 in
theorem k_UN_findBases_6 {G : GT} {σ : St} {P : Int → St → Prop}  {v1 : Int} {v2 : Int} {v3 : Int}  
    (h : rng v3 ∧ (σ.2.1 4 2 ≤ v3 → P 0 σ) ∧ (v3 < σ.2.1 4 2 → rng v2 ∧ (¬ (v2 ≤ v3) → (0 ≤ v3 ∧ v3 < 80) ∧ rng v1 ∧ (∀ σ7, σ7 = sa σ 71 v3.toNat v1 → (∀ σ9, σ9 = sa σ7 72 v3.toNat (if v2 ≤ v3 then 1 else 0) → a_UN_findBases_6 G v1 v2 (v3 + 1) σ9 P))) ∧ (v2 ≤ v3 → CJ G m_UN_longestMust [O 4, I v3] σ (fun r12 u11 => (0 ≤ v3 * 3 ∧ v3 * 3 < 240) ∧ (∀ σ15, σ15 = sa u11 73 ((v3 * 3).toNat) r12 → (0 ≤ r12 ∧ r12 < 60) ∧ (0 ≤ v3 ∧ v3 < 80) ∧ (∀ σ20, σ20 = sa σ15 71 v3.toNat v3 → (∀ σ22, σ22 = sa σ20 72 v3.toNat (if v2 ≤ v3 then 1 else 0) → a_UN_findBases_6 G v3 (v3 + (u11.1 49 r12.toNat)) (v3 + 1) σ22 P))))))) :
    a_UN_findBases_6 G v1 v2 v3 σ P := by
  refine r_iload_n (q := 7) (dc dt_UN_findBases 6 rfl) rfl rfl 3 rfl ?_
  refine r_aload_n (q := 8) (dc dt_UN_findBases 7 rfl) rfl rfl 0 rfl ?_
  refine r_getI (q := 11) (v := σ.2.1 4 2) fl_UN_9 (dc dt_UN_findBases 8 rfl) rfl ly4 rfl rfl (fun g1 => ?_)
  obtain ⟨o2, h⟩ := h
  refine r_icmp_ge (q := 14) (t := 92) (dc dt_UN_findBases 9 rfl) rfl (by decide) o2 g1 (fun q_ => ?_) (fun q_ => ?_)
  · have h := h.1 q_
    exact r_vret rfl (dc dt_UN_findBases 56 rfl) h
  · have h := h.2 q_
    refine r_iload_n (q := 15) (dc dt_UN_findBases 10 rfl) rfl rfl 3 rfl ?_
    refine r_iload_n (q := 16) (dc dt_UN_findBases 11 rfl) rfl rfl 2 rfl ?_
    obtain ⟨o4, h⟩ := h
    have hJ : ∀ (w_0 : Int), w_0 = (if v2 ≤ v3 then 1 else 0) → A G m_UN_findBases 24 [(0, O 4), (1, I v1), (2, I v2), (3, I v3)] [I w_0] σ P := by
      intro w_0 z_0
      subst z_0
      refine r_istore (q := 26) (dc dt_UN_findBases 16 rfl) rfl (by decide) rfl ?_
      refine r_iload (q := 28) (dc dt_UN_findBases 17 rfl) rfl 0 rfl ?_
      refine r_ifb_eq (q := 31) (t := 63) (dc dt_UN_findBases 18 rfl) rfl (by decide) (fun q_ => ?_) (fun q_ => ?_)
      · have h := h.1 q_
        refine r_aload_n (q := 64) (dc dt_UN_findBases 40 rfl) rfl rfl 1 rfl ?_
        refine r_getO (q := 67) (v := 71) fl_UN_50 (dc dt_UN_findBases 41 rfl) rfl ly4 rfl ?_
        refine r_iload_n (q := 68) (dc dt_UN_findBases 42 rfl) rfl rfl 4 rfl ?_
        refine r_iload_n (q := 69) (dc dt_UN_findBases 43 rfl) rfl rfl 2 rfl ?_
        obtain ⟨o5, h⟩ := h
        obtain ⟨o6, h⟩ := h
        refine r_iast (q := 70) (dc dt_UN_findBases 44 rfl) rfl ly71 o5 o6 (fun σ7 e8 => ?_)
        have h := h σ7 e8
        refine r_aload_n (q := 71) (dc dt_UN_findBases 45 rfl) rfl rfl 1 rfl ?_
        refine r_getO (q := 74) (v := 72) fl_UN_53 (dc dt_UN_findBases 46 rfl) rfl ly4 rfl ?_
        refine r_iload_n (q := 75) (dc dt_UN_findBases 47 rfl) rfl rfl 4 rfl ?_
        refine r_iload (q := 77) (dc dt_UN_findBases 48 rfl) rfl 0 rfl ?_
        have hJ : ∀ (w_0 : Int), w_0 = (if v2 ≤ v3 then 1 else 0) → A G m_UN_findBases 85 [(4, I (if v2 ≤ v3 then 1 else 0)), (0, O 4), (1, I v1), (2, I v2), (3, I v3)] [I w_0, I v3, O 72] σ7 P := by
          intro w_0 z_0
          subst z_0
          refine r_iast (q := 86) (dc dt_UN_findBases 53 rfl) rfl ly72 o5 b01_rng (fun σ9 e10 => ?_)
          have h := h σ9 e10
          refine r_iinc (q := 89) (k := 4) (dc dt_UN_findBases 54 rfl) rfl rfl (by decide) rfl ?_
          refine r_goto (q := 6) (dc dt_UN_findBases 55 rfl) (by decide) ?_
          exact r_loc [2, 3, 4, 0] rfl h
        clear h
        refine r_ifb_eq (q := 80) (t := 84) (dc dt_UN_findBases 49 rfl) rfl (by decide) (fun q_ => ?_) (fun q_ => ?_)
        · have q24 := q_
          refine r_iconst (q := 85) (dc dt_UN_findBases 52 rfl) rfl rfl ?_
          exact (hJ 0 ((if_neg (by first | omega | grind)).symm))
        · have q24 := q_
          refine r_iconst (q := 81) (dc dt_UN_findBases 50 rfl) rfl rfl ?_
          refine r_goto (q := 85) (dc dt_UN_findBases 51 rfl) (by decide) ?_
          exact (hJ 1 ((if_pos (by first | omega | grind)).symm))
      · have h := h.2 q_
        refine r_aload_n (q := 32) (dc dt_UN_findBases 19 rfl) rfl rfl 1 rfl ?_
        refine r_iload_n (q := 33) (dc dt_UN_findBases 20 rfl) rfl rfl 4 rfl ?_
        refine r_callVi (q := 36) mk_UN_longestMust lm_UN_105 (RMO.of rfl) rfl (dc dt_UN_findBases 21 rfl) rfl ly4 [I v3] [] rfl rfl (Nat.le_of_ble_eq_true rfl) h (fun r12 u11 g13 h => ?_)
        refine r_istore (q := 38) (dc dt_UN_findBases 22 rfl) rfl (by decide) rfl ?_
        refine r_aload_n (q := 39) (dc dt_UN_findBases 23 rfl) rfl rfl 2 rfl ?_
        refine r_getO (q := 42) (v := 73) fl_UN_56 (dc dt_UN_findBases 24 rfl) rfl ly4 rfl ?_
        refine r_iload_n (q := 43) (dc dt_UN_findBases 25 rfl) rfl rfl 5 rfl ?_
        refine r_iconst (q := 44) (dc dt_UN_findBases 26 rfl) rfl rfl ?_
        refine r_imul (q := 45) (dc dt_UN_findBases 27 rfl) rfl ?_
        refine r_iload (q := 47) (dc dt_UN_findBases 28 rfl) rfl 0 rfl ?_
        obtain ⟨o14, h⟩ := h
        refine r_iast (q := 48) (dc dt_UN_findBases 29 rfl) rfl ly73 o14 g13 (fun σ15 e16 => ?_)
        have h := h σ15 e16
        refine r_iload_n (q := 49) (dc dt_UN_findBases 30 rfl) rfl rfl 5 rfl ?_
        refine r_istore_n (q := 50) (dc dt_UN_findBases 31 rfl) rfl rfl (by decide) rfl ?_
        refine r_iload_n (q := 51) (dc dt_UN_findBases 32 rfl) rfl rfl 5 rfl ?_
        refine r_aload_n (q := 52) (dc dt_UN_findBases 33 rfl) rfl rfl 3 rfl ?_
        refine r_getO (q := 55) (v := 1) fl_UN_59 (dc dt_UN_findBases 34 rfl) rfl ly4 rfl ?_
        refine r_getO (q := 58) (v := 49) fl_UN_109 (dc dt_UN_findBases 35 rfl) rfl ly1 rfl ?_
        refine r_iload (q := 60) (dc dt_UN_findBases 36 rfl) rfl 1 rfl ?_
        obtain ⟨o17, h⟩ := h
        refine r_iald (q := 61) (v := u11.1 49 r12.toNat) (dc dt_UN_findBases 37 rfl) rfl ly49 o17 (by rw [e16]; rfl) (fun g18 => ?_)
        refine r_iadd (q := 62) (dc dt_UN_findBases 38 rfl) rfl ?_
        refine r_istore_n (q := 63) (dc dt_UN_findBases 39 rfl) rfl rfl (by decide) rfl ?_
        refine r_aload_n (q := 64) (dc dt_UN_findBases 40 rfl) rfl rfl 4 rfl ?_
        refine r_getO (q := 67) (v := 71) fl_UN_50 (dc dt_UN_findBases 41 rfl) rfl ly4 rfl ?_
        refine r_iload_n (q := 68) (dc dt_UN_findBases 42 rfl) rfl rfl 5 rfl ?_
        refine r_iload_n (q := 69) (dc dt_UN_findBases 43 rfl) rfl rfl 1 rfl ?_
        obtain ⟨o19, h⟩ := h
        refine r_iast (q := 70) (dc dt_UN_findBases 44 rfl) rfl ly71 o19 o2 (fun σ20 e21 => ?_)
        have h := h σ20 e21
        refine r_aload_n (q := 71) (dc dt_UN_findBases 45 rfl) rfl rfl 4 rfl ?_
        refine r_getO (q := 74) (v := 72) fl_UN_53 (dc dt_UN_findBases 46 rfl) rfl ly4 rfl ?_
        refine r_iload_n (q := 75) (dc dt_UN_findBases 47 rfl) rfl rfl 5 rfl ?_
        refine r_iload (q := 77) (dc dt_UN_findBases 48 rfl) rfl 3 rfl ?_
        have hJ : ∀ (w_0 : Int), w_0 = (if v2 ≤ v3 then 1 else 0) → A G m_UN_findBases 85 [(2, I (v3 + (u11.1 49 r12.toNat))), (1, I v3), (5, I r12), (4, I (if v2 ≤ v3 then 1 else 0)), (0, O 4), (3, I v3)] [I w_0, I v3, O 72] σ20 P := by
          intro w_0 z_0
          subst z_0
          refine r_iast (q := 86) (dc dt_UN_findBases 53 rfl) rfl ly72 o19 b01_rng (fun σ22 e23 => ?_)
          have h := h σ22 e23
          refine r_iinc (q := 89) (k := 5) (dc dt_UN_findBases 54 rfl) rfl rfl (by decide) rfl ?_
          refine r_goto (q := 6) (dc dt_UN_findBases 55 rfl) (by decide) ?_
          exact r_loc [5, 2, 1, 0] rfl h
        clear h
        refine r_ifb_eq (q := 80) (t := 84) (dc dt_UN_findBases 49 rfl) rfl (by decide) (fun q_ => ?_) (fun q_ => ?_)
        · have q25 := q_
          refine r_iconst (q := 85) (dc dt_UN_findBases 52 rfl) rfl rfl ?_
          exact (hJ 0 ((if_neg (by first | omega | grind)).symm))
        · have q25 := q_
          refine r_iconst (q := 81) (dc dt_UN_findBases 50 rfl) rfl rfl ?_
          refine r_goto (q := 85) (dc dt_UN_findBases 51 rfl) (by decide) ?_
          exact (hJ 1 ((if_pos (by first | omega | grind)).symm))
    clear h
    refine r_icmp_lt (q := 19) (t := 23) (dc dt_UN_findBases 12 rfl) rfl (by decide) o2 o4 (fun q_ => ?_) (fun q_ => ?_)
    · have q26 := q_
      refine r_iconst (q := 24) (dc dt_UN_findBases 15 rfl) rfl rfl ?_
      exact (hJ 0 ((if_neg (by first | omega | grind)).symm))
    · have q26 := q_
      refine r_iconst (q := 20) (dc dt_UN_findBases 13 rfl) rfl rfl ?_
      refine r_goto (q := 24) (dc dt_UN_findBases 14 rfl) (by decide) ?_
      exact (hJ 1 ((if_pos (by first | omega | grind)).symm))
def tb_UN_base : List (Nat × Instr × Nat) := [(0, .aload_n 0, 1), (1, .getfield 56, 3), (4, .iload_n 1, 1), (5, .iconst 3, 1), (6, .imul, 1), (7, .iaload, 1), (8, .ireturn, 1)]
theorem dt_UN_base : DT (cM m_UN_base) tb_UN_base := by unfold DT; decide +kernel
abbrev a_UN_base_0 (G : GT)  (v1 : Int) (σ : St) (P : Int → St → Prop) : Prop := A G m_UN_base 0 [(0, O 4), (1, I v1)] [] σ P
set_option maxRecDepth 20000 in
theorem k_UN_base_0 {G : GT} {σ : St} {P : Int → St → Prop}  {v1 : Int}  
    (h : (0 ≤ v1 * 3 ∧ v1 * 3 < 240) ∧ P (σ.1 73 ((v1 * 3).toNat)) σ) :
    a_UN_base_0 G v1 σ P := by
  refine r_aload_n (q := 1) (dc dt_UN_base 0 rfl) rfl rfl 0 rfl ?_
  refine r_getO (q := 4) (v := 73) fl_UN_56 (dc dt_UN_base 1 rfl) rfl ly4 rfl ?_
  refine r_iload_n (q := 5) (dc dt_UN_base 2 rfl) rfl rfl 1 rfl ?_
  refine r_iconst (q := 6) (dc dt_UN_base 3 rfl) rfl rfl ?_
  refine r_imul (q := 7) (dc dt_UN_base 4 rfl) rfl ?_
  obtain ⟨o1, h⟩ := h
  refine r_iald (q := 8) (v := σ.1 73 ((v1 * 3).toNat)) (dc dt_UN_base 5 rfl) rfl ly73 o1 rfl (fun g2 => ?_)
  exact r_iret rfl (dc dt_UN_base 6 rfl) g2 h
set_option maxRecDepth 20000 in
theorem sp_UN_base {G : GT} {σ : St} {v1 : Int}  (j0 : 0 ≤ v1 * 3 ∧ v1 * 3 < 240) : CJ G m_UN_base [O 4, I v1] σ (fun r u => r = (σ.1 73 ((v1 * 3).toNat)) ∧ u = σ) := by
  refine CJ.intro (by decide) (by simp [catA]; decide) (fun _ => k_UN_base_0  ?_)
  refine ⟨by first | assumption | omega | grind, ?_⟩
  exact ⟨by first | rfl | grind, rfl⟩
def tb_UN_areAlone : List (Nat × Instr × Nat) := [(0, .iload_n 1, 1), (1, .istore_n 3, 1), (2, .iload_n 3, 1), (3, .iload_n 1, 1), (4, .iload_n 2, 1), (5, .iadd, 1), (6, .if_icmp .ge 35, 3), (9, .aload_n 0, 1), (10, .getfield 50, 3), (13, .iload_n 3, 1), (14, .iaload, 1), (15, .iload_n 3, 1), (16, .if_icmp .ne 17, 3), (19, .aload_n 0, 1), (20, .iload_n 3, 1), (21, .invokevirtual 132, 3), (24, .aload_n 0, 1), (25, .getfield 25, 3), (28, .iload_n 3, 1), (29, .iaload, 1), (30, .if_icmp .eq 5, 3), (33, .iconst 0, 1), (34, .ireturn, 1), (35, .iinc 3 1, 3), (38, .goto (-36), 3), (41, .iconst 1, 1), (42, .ireturn, 1)]
theorem dt_UN_areAlone : DT (cM m_UN_areAlone) tb_UN_areAlone := by unfold DT; decide +kernel
abbrev a_UN_areAlone_0 (G : GT)  (v1 : Int) (v2 : Int) (σ : St) (P : Int → St → Prop) : Prop := A G m_UN_areAlone 0 [(0, O 4), (1, I v1), (2, I v2)] [] σ P
abbrev a_UN_areAlone_2 (G : GT)  (v1 : Int) (v2 : Int) (v3 : Int) (σ : St) (P : Int → St → Prop) : Prop := A G m_UN_areAlone 2 [(0, O 4), (1, I v1), (2, I v2), (3, I v3)] [] σ P
set_option maxRecDepth 20000 in
theorem k_UN_areAlone_0 {G : GT} {σ : St} {P : Int → St → Prop}  {v1 : Int} {v2 : Int}  
    (h : a_UN_areAlone_2 G v1 v2 v1 σ P) :
    a_UN_areAlone_0 G v1 v2 σ P := by
  refine r_iload_n (q := 1) (dc dt_UN_areAlone 0 rfl) rfl rfl 1 rfl ?_
  refine r_istore_n (q := 2) (dc dt_UN_areAlone 1 rfl) rfl rfl (by decide) rfl ?_
  exact r_loc [1, 2, 3, 0] rfl h
set_option maxRecDepth 20000 in
theorem k_UN_areAlone_2 {G : GT} {σ : St} {P : Int → St → Prop}  {v1 : Int} {v2 : Int} {v3 : Int}  
    (h : rng v3 ∧ rng (v1 + v2) ∧ (v1 + v2 ≤ v3 → P 1 σ) ∧ (v3 < v1 + v2 → (0 ≤ v3 ∧ v3 < 80) ∧ (σ.1 71 v3.toNat ≠ v3 → P 0 σ) ∧ (σ.1 71 v3.toNat = v3 → (0 ≤ v3 * 3 ∧ v3 * 3 < 240) ∧ (σ.1 73 ((v3 * 3).toNat) = σ.1 63 v3.toNat → a_UN_areAlone_2 G v1 v2 (v3 + 1) σ P) ∧ (σ.1 73 ((v3 * 3).toNat) ≠ σ.1 63 v3.toNat → P 0 σ)))) :
    a_UN_areAlone_2 G v1 v2 v3 σ P := by
  refine r_iload_n (q := 3) (dc dt_UN_areAlone 2 rfl) rfl rfl 3 rfl ?_
  refine r_iload_n (q := 4) (dc dt_UN_areAlone 3 rfl) rfl rfl 1 rfl ?_
  refine r_iload_n (q := 5) (dc dt_UN_areAlone 4 rfl) rfl rfl 2 rfl ?_
  refine r_iadd (q := 6) (dc dt_UN_areAlone 5 rfl) rfl ?_
  obtain ⟨o1, h⟩ := h
  obtain ⟨o2, h⟩ := h
  refine r_icmp_ge (q := 9) (t := 41) (dc dt_UN_areAlone 6 rfl) rfl (by decide) o1 o2 (fun q_ => ?_) (fun q_ => ?_)
  · have h := h.1 q_
    refine r_iconst (q := 42) (dc dt_UN_areAlone 25 rfl) rfl rfl ?_
    exact r_zret rfl (dc dt_UN_areAlone 26 rfl) (by decide) h
  · have h := h.2 q_
    refine r_aload_n (q := 10) (dc dt_UN_areAlone 7 rfl) rfl rfl 0 rfl ?_
    refine r_getO (q := 13) (v := 71) fl_UN_50 (dc dt_UN_areAlone 8 rfl) rfl ly4 rfl ?_
    refine r_iload_n (q := 14) (dc dt_UN_areAlone 9 rfl) rfl rfl 3 rfl ?_
    obtain ⟨o3, h⟩ := h
    refine r_iald (q := 15) (v := σ.1 71 v3.toNat) (dc dt_UN_areAlone 10 rfl) rfl ly71 o3 rfl (fun g4 => ?_)
    refine r_iload_n (q := 16) (dc dt_UN_areAlone 11 rfl) rfl rfl 3 rfl ?_
    refine r_icmp_ne (q := 19) (t := 33) (dc dt_UN_areAlone 12 rfl) rfl (by decide) g4 o1 (fun q_ => ?_) (fun q_ => ?_)
    · have h := h.1 q_
      refine r_iconst (q := 34) (dc dt_UN_areAlone 21 rfl) rfl rfl ?_
      exact r_zret rfl (dc dt_UN_areAlone 22 rfl) (by decide) h
    · have h := h.2 q_
      refine r_aload_n (q := 20) (dc dt_UN_areAlone 13 rfl) rfl rfl 0 rfl ?_
      refine r_iload_n (q := 21) (dc dt_UN_areAlone 14 rfl) rfl rfl 3 rfl ?_
      obtain ⟨o5, h⟩ := h
      refine r_callVi (q := 24) mk_UN_base lm_UN_132 (RMO.of rfl) rfl (dc dt_UN_areAlone 15 rfl) rfl ly4 [I v3] [] rfl rfl (Nat.le_of_ble_eq_true rfl) (sp_UN_base o5) (fun _ _ g6 z => ?_)
      obtain ⟨z, w⟩ := z
      subst z
      replace w := w.symm
      subst w
      refine r_aload_n (q := 25) (dc dt_UN_areAlone 16 rfl) rfl rfl 0 rfl ?_
      refine r_getO (q := 28) (v := 63) fl_UN_25 (dc dt_UN_areAlone 17 rfl) rfl ly4 rfl ?_
      refine r_iload_n (q := 29) (dc dt_UN_areAlone 18 rfl) rfl rfl 3 rfl ?_
      refine r_iald (q := 30) (v := σ.1 63 v3.toNat) (dc dt_UN_areAlone 19 rfl) rfl ly63 o3 rfl (fun g7 => ?_)
      refine r_icmp_eq (q := 33) (t := 35) (dc dt_UN_areAlone 20 rfl) rfl (by decide) g6 g7 (fun q_ => ?_) (fun q_ => ?_)
      · have h := h.1 q_
        refine r_iinc (q := 38) (k := 3) (dc dt_UN_areAlone 23 rfl) rfl rfl (by decide) rfl ?_
        refine r_goto (q := 2) (dc dt_UN_areAlone 24 rfl) (by decide) ?_
        exact r_loc [1, 2, 3, 0] rfl h
      · have h := h.2 q_
        refine r_iconst (q := 34) (dc dt_UN_areAlone 21 rfl) rfl rfl ?_
        exact r_zret rfl (dc dt_UN_areAlone 22 rfl) (by decide) h
def tb_UN_findOthers : List (Nat × Instr × Nat) := [(0, .iconst 0, 1), (1, .istore_n 1, 1), (2, .iload_n 1, 1), (3, .aload_n 0, 1), (4, .getfield 9, 3), (7, .if_icmp .ge 118, 3), (10, .iconst 0, 1), (11, .istore_n 2, 1), (12, .iload_n 2, 1), (13, .aload_n 0, 1), (14, .getfield 59, 3), (17, .getfield 112, 3), (20, .if_icmp .ge 99, 3), (23, .aload_n 0, 1), (24, .getfield 59, 3), (27, .getfield 118, 3), (30, .iload_n 2, 1), (31, .baload, 1), (32, .ifCond .ne 81, 3), (35, .aload_n 0, 1), (36, .getfield 53, 3), (39, .iload_n 1, 1), (40, .iaload, 1), (41, .iconst 3, 1), (42, .if_icmp .ge 71, 3), (45, .aload_n 0, 1), (46, .iload_n 2, 1), (47, .iload_n 1, 1), (48, .invokevirtual 121, 3), (51, .ifCond .eq 62, 3), (54, .aload_n 0, 1), (55, .iload_n 1, 1), (56, .aload_n 0, 1), (57, .getfield 59, 3), (60, .getfield 109, 3), (63, .aload_n 0, 1), (64, .getfield 59, 3), (67, .getfield 115, 3), (70, .iload_n 2, 1), (71, .iaload, 1), (72, .iaload, 1), (73, .invokevirtual 129, 3), (76, .ifCond .eq 37, 3), (79, .aload_n 0, 1), (80, .getfield 56, 3), (83, .iload_n 1, 1), (84, .iconst 3, 1), (85, .imul, 1), (86, .aload_n 0, 1), (87, .getfield 53, 3), (90, .iload_n 1, 1), (91, .iaload, 1), (92, .iadd, 1), (93, .aload_n 0, 1), (94, .getfield 59, 3), (97, .getfield 115, 3), (100, .iload_n 2, 1), (101, .iaload, 1), (102, .iastore, 1), (103, .aload_n 0, 1), (104, .getfield 53, 3), (107, .iload_n 1, 1), (108, .dup2, 1), (109, .iaload, 1), (110, .iconst 1, 1), (111, .iadd, 1), (112, .iastore, 1), (113, .iinc 2 1, 3), (116, .goto (-104), 3), (119, .iinc 1 1, 3), (122, .goto (-120), 3), (125, .return_, 1)]
theorem dt_UN_findOthers : DT (cM m_UN_findOthers) tb_UN_findOthers := by unfold DT; decide +kernel
abbrev a_UN_findOthers_0 (G : GT)   (σ : St) (P : Int → St → Prop) : Prop := A G m_UN_findOthers 0 [(0, O 4)] [] σ P
abbrev a_UN_findOthers_2 (G : GT)  (v1 : Int) (σ : St) (P : Int → St → Prop) : Prop := A G m_UN_findOthers 2 [(0, O 4), (1, I v1)] [] σ P
abbrev a_UN_findOthers_12 (G : GT)  (v1 : Int) (v2 : Int) (σ : St) (P : Int → St → Prop) : Prop := A G m_UN_findOthers 12 [(0, O 4), (1, I v1), (2, I v2)] [] σ P
set_option maxRecDepth 20000 in
theorem k_UN_findOthers_0 {G : GT} {σ : St} {P : Int → St → Prop}    
    (h : a_UN_findOthers_2 G 0 σ P) :
    a_UN_findOthers_0 G  σ P := by
  refine r_iconst (q := 1) (dc dt_UN_findOthers 0 rfl) rfl rfl ?_
  refine r_istore_n (q := 2) (dc dt_UN_findOthers 1 rfl) rfl rfl (by decide) rfl ?_
  exact r_loc [1, 0] rfl h
set_option maxRecDepth 20000 in
theorem k_UN_findOthers_2 {G : GT} {σ : St} {P : Int → St → Prop}  {v1 : Int}  
    (h : rng v1 ∧ (σ.2.1 4 2 ≤ v1 → P 0 σ) ∧ (v1 < σ.2.1 4 2 → a_UN_findOthers_12 G v1 0 σ P)) :
    a_UN_findOthers_2 G v1 σ P := by
  refine r_iload_n (q := 3) (dc dt_UN_findOthers 2 rfl) rfl rfl 1 rfl ?_
  refine r_aload_n (q := 4) (dc dt_UN_findOthers 3 rfl) rfl rfl 0 rfl ?_
  refine r_getI (q := 7) (v := σ.2.1 4 2) fl_UN_9 (dc dt_UN_findOthers 4 rfl) rfl ly4 rfl rfl (fun g1 => ?_)
  obtain ⟨o2, h⟩ := h
  refine r_icmp_ge (q := 10) (t := 125) (dc dt_UN_findOthers 5 rfl) rfl (by decide) o2 g1 (fun q_ => ?_) (fun q_ => ?_)
  · have h := h.1 q_
    exact r_vret rfl (dc dt_UN_findOthers 71 rfl) h
  · have h := h.2 q_
    refine r_iconst (q := 11) (dc dt_UN_findOthers 6 rfl) rfl rfl ?_
    refine r_istore_n (q := 12) (dc dt_UN_findOthers 7 rfl) rfl rfl (by decide) rfl ?_
    exact r_loc [1, 2, 0] rfl h
set_option maxRecDepth 20000 in
theorem k_UN_findOthers_12 {G : GT} {σ : St} {P : Int → St → Prop}  {v1 : Int} {v2 : Int}  
    (h : rng v2 ∧ (σ.2.1 1 1 ≤ v2 → a_UN_findOthers_2 G (v1 + 1) σ P) ∧ (v2 < σ.2.1 1 1 → (0 ≤ v2 ∧ v2 < 8) ∧ (σ.1 53 v2.toNat ≠ 0 → a_UN_findOthers_12 G v1 (v2 + 1) σ P) ∧ (σ.1 53 v2.toNat = 0 → (0 ≤ v1 ∧ v1 < 80) ∧ (3 ≤ σ.1 72 v1.toNat → a_UN_findOthers_12 G v1 (v2 + 1) σ P) ∧ (σ.1 72 v1.toNat < 3 → CJ G m_UN_standsAt [O 4, I v2, I v1] σ (fun r16 u15 => (r16 = 0 → a_UN_findOthers_12 G v1 (v2 + 1) u15 P) ∧ (r16 ≠ 0 → (0 ≤ u15.1 51 v2.toNat ∧ u15.1 51 v2.toNat < 60) ∧ CJ G m_UN_areAlone [O 4, I v1, I (u15.1 49 ((u15.1 51 v2.toNat).toNat))] u15 (fun r25 u24 => (r25 = 0 → a_UN_findOthers_12 G v1 (v2 + 1) u24 P) ∧ (r25 ≠ 0 → (0 ≤ (v1 * 3) + (u24.1 72 v1.toNat) ∧ (v1 * 3) + (u24.1 72 v1.toNat) < 240) ∧ (∀ σ32, σ32 = sa u24 73 (((v1 * 3) + (u24.1 72 v1.toNat)).toNat) (u24.1 51 v2.toNat) → rng ((u24.1 72 v1.toNat) + 1) ∧ (∀ σ36, σ36 = sa σ32 72 v1.toNat ((u24.1 72 v1.toNat) + 1) → a_UN_findOthers_12 G v1 (v2 + 1) σ36 P)))))))))) :
    a_UN_findOthers_12 G v1 v2 σ P := by
  refine r_iload_n (q := 13) (dc dt_UN_findOthers 8 rfl) rfl rfl 2 rfl ?_
  refine r_aload_n (q := 14) (dc dt_UN_findOthers 9 rfl) rfl rfl 0 rfl ?_
  refine r_getO (q := 17) (v := 1) fl_UN_59 (dc dt_UN_findOthers 10 rfl) rfl ly4 rfl ?_
  refine r_getI (q := 20) (v := σ.2.1 1 1) fl_UN_112 (dc dt_UN_findOthers 11 rfl) rfl ly1 rfl rfl (fun g3 => ?_)
  obtain ⟨o4, h⟩ := h
  refine r_icmp_ge (q := 23) (t := 119) (dc dt_UN_findOthers 12 rfl) rfl (by decide) o4 g3 (fun q_ => ?_) (fun q_ => ?_)
  · have h := h.1 q_
    refine r_iinc (q := 122) (k := 1) (dc dt_UN_findOthers 69 rfl) rfl rfl (by decide) rfl ?_
    refine r_goto (q := 2) (dc dt_UN_findOthers 70 rfl) (by decide) ?_
    exact r_loc [1, 0] rfl h
  · have h := h.2 q_
    refine r_aload_n (q := 24) (dc dt_UN_findOthers 13 rfl) rfl rfl 0 rfl ?_
    refine r_getO (q := 27) (v := 1) fl_UN_59 (dc dt_UN_findOthers 14 rfl) rfl ly4 rfl ?_
    refine r_getO (q := 30) (v := 53) fl_UN_118 (dc dt_UN_findOthers 15 rfl) rfl ly1 rfl ?_
    refine r_iload_n (q := 31) (dc dt_UN_findOthers 16 rfl) rfl rfl 2 rfl ?_
    obtain ⟨o9, h⟩ := h
    refine r_zald (q := 32) (v := σ.1 53 v2.toNat) (dc dt_UN_findOthers 17 rfl) rfl ly53 o9 rfl (fun g10 => ?_)
    refine r_if_ne (q := 35) (t := 113) (dc dt_UN_findOthers 18 rfl) rfl (by decide) g10 (fun q_ => ?_) (fun q_ => ?_)
    · have h := h.1 q_
      refine r_iinc (q := 116) (k := 2) (dc dt_UN_findOthers 67 rfl) rfl rfl (by decide) rfl ?_
      refine r_goto (q := 12) (dc dt_UN_findOthers 68 rfl) (by decide) ?_
      exact r_loc [1, 2, 0] rfl h
    · have h := h.2 q_
      refine r_aload_n (q := 36) (dc dt_UN_findOthers 19 rfl) rfl rfl 0 rfl ?_
      refine r_getO (q := 39) (v := 72) fl_UN_53 (dc dt_UN_findOthers 20 rfl) rfl ly4 rfl ?_
      refine r_iload_n (q := 40) (dc dt_UN_findOthers 21 rfl) rfl rfl 1 rfl ?_
      obtain ⟨o13, h⟩ := h
      refine r_iald (q := 41) (v := σ.1 72 v1.toNat) (dc dt_UN_findOthers 22 rfl) rfl ly72 o13 rfl (fun g14 => ?_)
      refine r_iconst (q := 42) (dc dt_UN_findOthers 23 rfl) rfl rfl ?_
      refine r_icmp_ge (q := 45) (t := 113) (dc dt_UN_findOthers 24 rfl) rfl (by decide) g14 (⟨by decide, by decide⟩ : rng 3) (fun q_ => ?_) (fun q_ => ?_)
      · have h := h.1 q_
        refine r_iinc (q := 116) (k := 2) (dc dt_UN_findOthers 67 rfl) rfl rfl (by decide) rfl ?_
        refine r_goto (q := 12) (dc dt_UN_findOthers 68 rfl) (by decide) ?_
        exact r_loc [1, 2, 0] rfl h
      · have h := h.2 q_
        refine r_aload_n (q := 46) (dc dt_UN_findOthers 25 rfl) rfl rfl 0 rfl ?_
        refine r_iload_n (q := 47) (dc dt_UN_findOthers 26 rfl) rfl rfl 2 rfl ?_
        refine r_iload_n (q := 48) (dc dt_UN_findOthers 27 rfl) rfl rfl 1 rfl ?_
        refine r_callVi (q := 51) mk_UN_standsAt lm_UN_121 (RMO.of rfl) rfl (dc dt_UN_findOthers 28 rfl) rfl ly4 [I v2, I v1] [] rfl rfl (Nat.le_of_ble_eq_true rfl) h (fun r16 u15 g17 h => ?_)
        refine r_if_eq (q := 54) (t := 113) (dc dt_UN_findOthers 29 rfl) rfl (by decide) g17 (fun q_ => ?_) (fun q_ => ?_)
        · have h := h.1 q_
          refine r_iinc (q := 116) (k := 2) (dc dt_UN_findOthers 67 rfl) rfl rfl (by decide) rfl ?_
          refine r_goto (q := 12) (dc dt_UN_findOthers 68 rfl) (by decide) ?_
          exact r_loc [1, 2, 0] rfl h
        · have h := h.2 q_
          refine r_aload_n (q := 55) (dc dt_UN_findOthers 30 rfl) rfl rfl 0 rfl ?_
          refine r_iload_n (q := 56) (dc dt_UN_findOthers 31 rfl) rfl rfl 1 rfl ?_
          refine r_aload_n (q := 57) (dc dt_UN_findOthers 32 rfl) rfl rfl 0 rfl ?_
          refine r_getO (q := 60) (v := 1) fl_UN_59 (dc dt_UN_findOthers 33 rfl) rfl ly4 rfl ?_
          refine r_getO (q := 63) (v := 49) fl_UN_109 (dc dt_UN_findOthers 34 rfl) rfl ly1 rfl ?_
          refine r_aload_n (q := 64) (dc dt_UN_findOthers 35 rfl) rfl rfl 0 rfl ?_
          refine r_getO (q := 67) (v := 1) fl_UN_59 (dc dt_UN_findOthers 36 rfl) rfl ly4 rfl ?_
          refine r_getO (q := 70) (v := 51) fl_UN_115 (dc dt_UN_findOthers 37 rfl) rfl ly1 rfl ?_
          refine r_iload_n (q := 71) (dc dt_UN_findOthers 38 rfl) rfl rfl 2 rfl ?_
          refine r_iald (q := 72) (v := u15.1 51 v2.toNat) (dc dt_UN_findOthers 39 rfl) rfl ly51 o9 rfl (fun g21 => ?_)
          obtain ⟨o22, h⟩ := h
          refine r_iald (q := 73) (v := u15.1 49 ((u15.1 51 v2.toNat).toNat)) (dc dt_UN_findOthers 40 rfl) rfl ly49 o22 rfl (fun g23 => ?_)
          refine r_callVi (q := 76) mk_UN_areAlone lm_UN_129 (RMO.of rfl) rfl (dc dt_UN_findOthers 41 rfl) rfl ly4 [I v1, I (u15.1 49 ((u15.1 51 v2.toNat).toNat))] [] rfl rfl (Nat.le_of_ble_eq_true rfl) h (fun r25 u24 g26 h => ?_)
          refine r_if_eq (q := 79) (t := 113) (dc dt_UN_findOthers 42 rfl) rfl (by decide) g26 (fun q_ => ?_) (fun q_ => ?_)
          · have h := h.1 q_
            refine r_iinc (q := 116) (k := 2) (dc dt_UN_findOthers 67 rfl) rfl rfl (by decide) rfl ?_
            refine r_goto (q := 12) (dc dt_UN_findOthers 68 rfl) (by decide) ?_
            exact r_loc [1, 2, 0] rfl h
          · have h := h.2 q_
            refine r_aload_n (q := 80) (dc dt_UN_findOthers 43 rfl) rfl rfl 0 rfl ?_
            refine r_getO (q := 83) (v := 73) fl_UN_56 (dc dt_UN_findOthers 44 rfl) rfl ly4 rfl ?_
            refine r_iload_n (q := 84) (dc dt_UN_findOthers 45 rfl) rfl rfl 1 rfl ?_
            refine r_iconst (q := 85) (dc dt_UN_findOthers 46 rfl) rfl rfl ?_
            refine r_imul (q := 86) (dc dt_UN_findOthers 47 rfl) rfl ?_
            refine r_aload_n (q := 87) (dc dt_UN_findOthers 48 rfl) rfl rfl 0 rfl ?_
            refine r_getO (q := 90) (v := 72) fl_UN_53 (dc dt_UN_findOthers 49 rfl) rfl ly4 rfl ?_
            refine r_iload_n (q := 91) (dc dt_UN_findOthers 50 rfl) rfl rfl 1 rfl ?_
            refine r_iald (q := 92) (v := u24.1 72 v1.toNat) (dc dt_UN_findOthers 51 rfl) rfl ly72 o13 rfl (fun g29 => ?_)
            refine r_iadd (q := 93) (dc dt_UN_findOthers 52 rfl) rfl ?_
            refine r_aload_n (q := 94) (dc dt_UN_findOthers 53 rfl) rfl rfl 0 rfl ?_
            refine r_getO (q := 97) (v := 1) fl_UN_59 (dc dt_UN_findOthers 54 rfl) rfl ly4 rfl ?_
            refine r_getO (q := 100) (v := 51) fl_UN_115 (dc dt_UN_findOthers 55 rfl) rfl ly1 rfl ?_
            refine r_iload_n (q := 101) (dc dt_UN_findOthers 56 rfl) rfl rfl 2 rfl ?_
            refine r_iald (q := 102) (v := u24.1 51 v2.toNat) (dc dt_UN_findOthers 57 rfl) rfl ly51 o9 rfl (fun g30 => ?_)
            obtain ⟨o31, h⟩ := h
            refine r_iast (q := 103) (dc dt_UN_findOthers 58 rfl) rfl ly73 o31 g30 (fun σ32 e33 => ?_)
            have h := h σ32 e33
            refine r_aload_n (q := 104) (dc dt_UN_findOthers 59 rfl) rfl rfl 0 rfl ?_
            refine r_getO (q := 107) (v := 72) fl_UN_53 (dc dt_UN_findOthers 60 rfl) rfl ly4 rfl ?_
            refine r_iload_n (q := 108) (dc dt_UN_findOthers 61 rfl) rfl rfl 1 rfl ?_
            refine r_dup2 (q := 109) (dc dt_UN_findOthers 62 rfl) rfl ?_
            refine r_iald (q := 110) (v := u24.1 72 v1.toNat) (dc dt_UN_findOthers 63 rfl) rfl ly72 o13 (by rw [e33]; rfl) (fun g34 => ?_)
            refine r_iconst (q := 111) (dc dt_UN_findOthers 64 rfl) rfl rfl ?_
            refine r_iadd (q := 112) (dc dt_UN_findOthers 65 rfl) rfl ?_
            obtain ⟨o35, h⟩ := h
            refine r_iast (q := 113) (dc dt_UN_findOthers 66 rfl) rfl ly72 o13 o35 (fun σ36 e37 => ?_)
            have h := h σ36 e37
            refine r_iinc (q := 116) (k := 2) (dc dt_UN_findOthers 67 rfl) rfl rfl (by decide) rfl ?_
            refine r_goto (q := 12) (dc dt_UN_findOthers 68 rfl) (by decide) ?_
            exact r_loc [1, 2, 0] rfl h
def tb_UN_build : List (Nat × Instr × Nat) := [(0, .aload_n 0, 1), (1, .invokevirtual 67, 3), (4, .iconst 0, 1), (5, .istore_n 1, 1), (6, .iload_n 1, 1), (7, .aload_n 0, 1), (8, .getfield 9, 3), (11, .if_icmp .ge 65, 3), (14, .aload_n 0, 1), (15, .getfield 44, 3), (18, .iload_n 1, 1), (19, .iload_n 1, 1), (20, .iconst 1, 1), (21, .iadd, 1), (22, .aload_n 0, 1), (23, .getfield 9, 3), (26, .if_icmp .ge 42, 3), (29, .aload_n 0, 1), (30, .getfield 59, 3), (33, .getfield 70, 3), (36, .aload_n 0, 1), (37, .getfield 25, 3), (40, .iload_n 1, 1), (41, .iaload, 1), (42, .iaload, 1), (43, .ifCond .ne 25, 3), (46, .aload_n 0, 1), (47, .getfield 59, 3), (50, .aload_n 0, 1), (51, .getfield 25, 3), (54, .iload_n 1, 1), (55, .iconst 1, 1), (56, .iadd, 1), (57, .iaload, 1), (58, .invokevirtual 75, 3), (61, .ifCond .eq 7, 3), (64, .iconst 1, 1), (65, .goto 4, 3), (68, .iconst 0, 1), (69, .bastore, 1), (70, .iinc 1 1, 3), (73, .goto (-67), 3), (76, .aload_n 0, 1), (77, .invokevirtual 79, 3), (80, .aload_n 0, 1), (81, .invokevirtual 82, 3), (84, .return_, 1)]
theorem dt_UN_build : DT (cM m_UN_build) tb_UN_build := by unfold DT; decide +kernel
abbrev a_UN_build_0 (G : GT)   (σ : St) (P : Int → St → Prop) : Prop := A G m_UN_build 0 [(0, O 4)] [] σ P
abbrev a_UN_build_6 (G : GT)  (v1 : Int) (σ : St) (P : Int → St → Prop) : Prop := A G m_UN_build 6 [(0, O 4), (1, I v1)] [] σ P
set_option maxRecDepth 20000 in
theorem k_UN_build_0 {G : GT} {σ : St} {P : Int → St → Prop}    
    (h : CJ G m_UN_splitWords [O 4] σ (fun _ u1 => a_UN_build_6 G 0 u1 P)) :
    a_UN_build_0 G  σ P := by
  refine r_aload_n (q := 1) (dc dt_UN_build 0 rfl) rfl rfl 0 rfl ?_
  refine r_callVv (q := 4) mk_UN_splitWords lm_UN_67 (RMO.of rfl) rfl (dc dt_UN_build 1 rfl) rfl ly4 [] [] rfl rfl (Nat.le_of_ble_eq_true rfl) h (fun u1 h => ?_)
  refine r_iconst (q := 5) (dc dt_UN_build 2 rfl) rfl rfl ?_
  refine r_istore_n (q := 6) (dc dt_UN_build 3 rfl) rfl rfl (by decide) rfl ?_
  exact r_loc [1, 0] rfl h
set_option maxRecDepth 20000 in
theorem k_UN_build_6 {G : GT} {σ : St} {P : Int → St → Prop}  {v1 : Int}  
    (h : rng v1 ∧ (σ.2.1 4 2 ≤ v1 → CJ G m_UN_findBases [O 4] σ (fun _ u14 => CJ G m_UN_findOthers [O 4] u14 (fun _ u15 => P 0 u15))) ∧ (v1 < σ.2.1 4 2 → rng (v1 + 1) ∧ ((v1 + 1 < σ.2.1 4 2 → (0 ≤ v1 ∧ v1 < 80) ∧ (0 ≤ σ.1 63 v1.toNat ∧ σ.1 63 v1.toNat < 60) ∧ (σ.1 47 ((σ.1 63 v1.toNat).toNat) = 0 → (0 ≤ v1 + 1 ∧ v1 + 1 < 80) ∧ 0 ≤ (σ.1 63 ((v1 + 1).toNat)) ∧ (σ.1 63 ((v1 + 1).toNat)) < 60))) ∧ (0 ≤ v1 ∧ v1 < 80) ∧ (∀ σ27, σ27 = sa σ 69 v1.toNat (if v1 + 1 < σ.2.1 4 2 ∧ (σ.1 47 ((σ.1 63 v1.toNat).toNat) = 0 ∧ (σ.1 47 (σ.1 63 ((v1 + 1).toNat)).toNat = 0 ∨ σ.1 47 (σ.1 63 ((v1 + 1).toNat)).toNat = 1)) then 1 else 0) → a_UN_build_6 G (v1 + 1) σ27 P))) :
    a_UN_build_6 G v1 σ P := by
  refine r_iload_n (q := 7) (dc dt_UN_build 4 rfl) rfl rfl 1 rfl ?_
  refine r_aload_n (q := 8) (dc dt_UN_build 5 rfl) rfl rfl 0 rfl ?_
  refine r_getI (q := 11) (v := σ.2.1 4 2) fl_UN_9 (dc dt_UN_build 6 rfl) rfl ly4 rfl rfl (fun g2 => ?_)
  obtain ⟨o3, h⟩ := h
  refine r_icmp_ge (q := 14) (t := 76) (dc dt_UN_build 7 rfl) rfl (by decide) o3 g2 (fun q_ => ?_) (fun q_ => ?_)
  · have h := h.1 q_
    refine r_aload_n (q := 77) (dc dt_UN_build 42 rfl) rfl rfl 0 rfl ?_
    refine r_callVv (q := 80) mk_UN_findBases lm_UN_79 (RMO.of rfl) rfl (dc dt_UN_build 43 rfl) rfl ly4 [] [] rfl rfl (Nat.le_of_ble_eq_true rfl) h (fun u14 h => ?_)
    refine r_aload_n (q := 81) (dc dt_UN_build 44 rfl) rfl rfl 0 rfl ?_
    refine r_callVv (q := 84) mk_UN_findOthers lm_UN_82 (RMO.of rfl) rfl (dc dt_UN_build 45 rfl) rfl ly4 [] [] rfl rfl (Nat.le_of_ble_eq_true rfl) h (fun u15 h => ?_)
    exact r_vret rfl (dc dt_UN_build 46 rfl) h
  · have h := h.2 q_
    refine r_aload_n (q := 15) (dc dt_UN_build 8 rfl) rfl rfl 0 rfl ?_
    refine r_getO (q := 18) (v := 69) fl_UN_44 (dc dt_UN_build 9 rfl) rfl ly4 rfl ?_
    refine r_iload_n (q := 19) (dc dt_UN_build 10 rfl) rfl rfl 1 rfl ?_
    refine r_iload_n (q := 20) (dc dt_UN_build 11 rfl) rfl rfl 1 rfl ?_
    refine r_iconst (q := 21) (dc dt_UN_build 12 rfl) rfl rfl ?_
    refine r_iadd (q := 22) (dc dt_UN_build 13 rfl) rfl ?_
    refine r_aload_n (q := 23) (dc dt_UN_build 14 rfl) rfl rfl 0 rfl ?_
    refine r_getI (q := 26) (v := σ.2.1 4 2) fl_UN_9 (dc dt_UN_build 15 rfl) rfl ly4 rfl rfl (fun g16 => ?_)
    obtain ⟨o17, h⟩ := h
    obtain ⟨ho, h⟩ := h
    have hJ : ∀ (w_0 : Int), w_0 = (if v1 + 1 < σ.2.1 4 2 ∧ (σ.1 47 ((σ.1 63 v1.toNat).toNat) = 0 ∧ (σ.1 47 (σ.1 63 ((v1 + 1).toNat)).toNat = 0 ∨ σ.1 47 (σ.1 63 ((v1 + 1).toNat)).toNat = 1)) then 1 else 0) → A G m_UN_build 69 [(0, O 4), (1, I v1)] [I w_0, I v1, O 69] σ P := by
      intro w_0 z_0
      subst z_0
      obtain ⟨o26, h⟩ := h
      refine r_zast (q := 70) (dc dt_UN_build 39 rfl) rfl ly69 o26 b01_or (fun σ27 e28 => ?_)
      have h := h σ27 e28
      refine r_iinc (q := 73) (k := 1) (dc dt_UN_build 40 rfl) rfl rfl (by decide) rfl ?_
      refine r_goto (q := 6) (dc dt_UN_build 41 rfl) (by decide) ?_
      exact r_loc [1, 0] rfl h
    clear h
    refine r_icmp_ge (q := 29) (t := 68) (dc dt_UN_build 16 rfl) rfl (by decide) o17 g16 (fun q_ => ?_) (fun q_ => ?_)
    · have q29 := q_
      refine r_iconst (q := 69) (dc dt_UN_build 38 rfl) rfl rfl ?_
      exact (hJ 0 ((if_neg (by first | omega | grind)).symm))
    · have q29 := q_
      have ho := ho q_
      refine r_aload_n (q := 30) (dc dt_UN_build 17 rfl) rfl rfl 0 rfl ?_
      refine r_getO (q := 33) (v := 1) fl_UN_59 (dc dt_UN_build 18 rfl) rfl ly4 rfl ?_
      refine r_getO (q := 36) (v := 47) fl_UN_70 (dc dt_UN_build 19 rfl) rfl ly1 rfl ?_
      refine r_aload_n (q := 37) (dc dt_UN_build 20 rfl) rfl rfl 0 rfl ?_
      refine r_getO (q := 40) (v := 63) fl_UN_25 (dc dt_UN_build 21 rfl) rfl ly4 rfl ?_
      refine r_iload_n (q := 41) (dc dt_UN_build 22 rfl) rfl rfl 1 rfl ?_
      obtain ⟨o18, ho⟩ := ho
      refine r_iald (q := 42) (v := σ.1 63 v1.toNat) (dc dt_UN_build 23 rfl) rfl ly63 o18 rfl (fun g19 => ?_)
      obtain ⟨o20, ho⟩ := ho
      refine r_iald (q := 43) (v := σ.1 47 ((σ.1 63 v1.toNat).toNat)) (dc dt_UN_build 24 rfl) rfl ly47 o20 rfl (fun g21 => ?_)
      refine r_if_ne (q := 46) (t := 68) (dc dt_UN_build 25 rfl) rfl (by decide) g21 (fun q_ => ?_) (fun q_ => ?_)
      · have q30 := q_
        refine r_iconst (q := 69) (dc dt_UN_build 38 rfl) rfl rfl ?_
        exact (hJ 0 ((if_neg (by first | omega | grind)).symm))
      · have q30 := q_
        have ho := ho q_
        refine r_aload_n (q := 47) (dc dt_UN_build 26 rfl) rfl rfl 0 rfl ?_
        refine r_getO (q := 50) (v := 1) fl_UN_59 (dc dt_UN_build 27 rfl) rfl ly4 rfl ?_
        refine r_aload_n (q := 51) (dc dt_UN_build 28 rfl) rfl rfl 0 rfl ?_
        refine r_getO (q := 54) (v := 63) fl_UN_25 (dc dt_UN_build 29 rfl) rfl ly4 rfl ?_
        refine r_iload_n (q := 55) (dc dt_UN_build 30 rfl) rfl rfl 1 rfl ?_
        refine r_iconst (q := 56) (dc dt_UN_build 31 rfl) rfl rfl ?_
        refine r_iadd (q := 57) (dc dt_UN_build 32 rfl) rfl ?_
        obtain ⟨o22, ho⟩ := ho
        refine r_iald (q := 58) (v := σ.1 63 ((v1 + 1).toNat)) (dc dt_UN_build 33 rfl) rfl ly63 o22 rfl (fun g23 => ?_)
        have o24 := ho
        refine r_callVi (q := 61) mk_SC_joinsBack lm_UN_75 (RMO.of rfl) rfl (dc dt_UN_build 34 rfl) rfl ly1 [I (σ.1 63 ((v1 + 1).toNat))] [I v1, O 69] rfl rfl (Nat.le_of_ble_eq_true rfl) (sp_SC_joinsBack o24) (fun _ _ g25 z => ?_)
        obtain ⟨z, w⟩ := z
        subst z
        replace w := w.symm
        subst w
        refine r_ifb_eq (q := 64) (t := 68) (dc dt_UN_build 35 rfl) rfl (by decide) (fun q_ => ?_) (fun q_ => ?_)
        · have q31 := q_
          refine r_iconst (q := 69) (dc dt_UN_build 38 rfl) rfl rfl ?_
          exact (hJ 0 ((if_neg (by first | omega | grind)).symm))
        · have q31 := q_
          refine r_iconst (q := 65) (dc dt_UN_build 36 rfl) rfl rfl ?_
          refine r_goto (q := 69) (dc dt_UN_build 37 rfl) (by decide) ?_
          exact (hJ 1 ((if_pos (by first | omega | grind)).symm))
def tb_JS_lookAtText : List (Nat × Instr × Nat) := [(0, .aload_n 0, 1), (1, .getfield 80, 3), (4, .aload_n 0, 1), (5, .getfield 76, 3), (8, .if_icmp .eq 18, 3), (11, .aload_n 0, 1), (12, .getfield 35, 3), (15, .invokevirtual 374, 3), (18, .aload_n 0, 1), (19, .aload_n 0, 1), (20, .getfield 76, 3), (23, .putfield 80, 3), (26, .return_, 1)]
theorem dt_JS_lookAtText : DT (cM m_JS_lookAtText) tb_JS_lookAtText := by unfold DT; decide +kernel
abbrev a_JS_lookAtText_0 (G : GT)   (σ : St) (P : Int → St → Prop) : Prop := A G m_JS_lookAtText 0 [(0, O 0)] [] σ P
set_option maxRecDepth 20000 in
theorem k_JS_lookAtText_0 {G : GT} {σ : St} {P : Int → St → Prop}    
    (h : (σ.2.1 0 10 = σ.2.1 0 9 → P 0 σ) ∧ (σ.2.1 0 10 ≠ σ.2.1 0 9 → CJ G m_UN_build [O 4] σ (fun _ u3 => (∀ σ5, σ5 = sf u3 0 10 (u3.2.1 0 9) → P 0 σ5)))) :
    a_JS_lookAtText_0 G  σ P := by
  refine r_aload_n (q := 1) (dc dt_JS_lookAtText 0 rfl) rfl rfl 0 rfl ?_
  refine r_getI (q := 4) (v := σ.2.1 0 10) fl_JS_80 (dc dt_JS_lookAtText 1 rfl) rfl ly0 rfl rfl (fun g1 => ?_)
  refine r_aload_n (q := 5) (dc dt_JS_lookAtText 2 rfl) rfl rfl 0 rfl ?_
  refine r_getI (q := 8) (v := σ.2.1 0 9) fl_JS_76 (dc dt_JS_lookAtText 3 rfl) rfl ly0 rfl rfl (fun g2 => ?_)
  refine r_icmp_eq (q := 11) (t := 26) (dc dt_JS_lookAtText 4 rfl) rfl (by decide) g1 g2 (fun q_ => ?_) (fun q_ => ?_)
  · have h := h.1 q_
    exact r_vret rfl (dc dt_JS_lookAtText 12 rfl) h
  · have h := h.2 q_
    refine r_aload_n (q := 12) (dc dt_JS_lookAtText 5 rfl) rfl rfl 0 rfl ?_
    refine r_getO (q := 15) (v := 4) fl_JS_35 (dc dt_JS_lookAtText 6 rfl) rfl ly0 rfl ?_
    refine r_callVv (q := 18) mk_UN_build lm_JS_374 (RMO.of rfl) rfl (dc dt_JS_lookAtText 7 rfl) rfl ly4 [] [] rfl rfl (Nat.le_of_ble_eq_true rfl) h (fun u3 h => ?_)
    refine r_aload_n (q := 19) (dc dt_JS_lookAtText 8 rfl) rfl rfl 0 rfl ?_
    refine r_aload_n (q := 20) (dc dt_JS_lookAtText 9 rfl) rfl rfl 0 rfl ?_
    refine r_getI (q := 23) (v := u3.2.1 0 9) fl_JS_76 (dc dt_JS_lookAtText 10 rfl) rfl ly0 rfl rfl (fun g4 => ?_)
    refine r_put (q := 26) fl_JS_80 (dc dt_JS_lookAtText 11 rfl) rfl ly0 (fun _ => rfl) (Or.inl rfl) pf_0_10 g4 (fun σ5 e6 => ?_)
    have h := h σ5 e6
    exact r_vret rfl (dc dt_JS_lookAtText 12 rfl) h
def tb_UN_placeOf : List (Nat × Instr × Nat) := [(0, .iload_n 1, 1), (1, .ifCond .le 18, 3), (4, .aload_n 0, 1), (5, .getfield 44, 3), (8, .iload_n 1, 1), (9, .iconst 1, 1), (10, .isub, 1), (11, .baload, 1), (12, .ifCond .eq 7, 3), (15, .iconst 1, 1), (16, .goto 4, 3), (19, .iconst 0, 1), (20, .istore_n 3, 1), (21, .aload_n 0, 1), (22, .getfield 44, 3), (25, .iload_n 1, 1), (26, .aload_n 0, 1), (27, .getfield 59, 3), (30, .getfield 109, 3), (33, .iload_n 2, 1), (34, .iaload, 1), (35, .iadd, 1), (36, .iconst 1, 1), (37, .isub, 1), (38, .baload, 1), (39, .istore 4, 2), (41, .iload_n 3, 1), (42, .ifCond .eq 14, 3), (45, .iload 4, 2), (47, .ifCond .eq 7, 3), (50, .iconst 2, 1), (51, .goto 4, 3), (54, .iconst 3, 1), (55, .ireturn, 1), (56, .iload 4, 2), (58, .ifCond .eq 7, 3), (61, .iconst 1, 1), (62, .goto 4, 3), (65, .iconst 0, 1), (66, .ireturn, 1)]
theorem dt_UN_placeOf : DT (cM m_UN_placeOf) tb_UN_placeOf := by unfold DT; decide +kernel
abbrev a_UN_placeOf_0 (G : GT)  (v1 : Int) (v2 : Int) (σ : St) (P : Int → St → Prop) : Prop := A G m_UN_placeOf 0 [(0, O 4), (1, I v1), (2, I v2)] [] σ P
set_option maxRecDepth 20000 in
theorem k_UN_placeOf_0 {G : GT} {σ : St} {P : Int → St → Prop}  {v1 : Int} {v2 : Int}  
    (h : rng v1 ∧ ((0 < v1 → 0 ≤ v1 - 1 ∧ v1 - 1 < 80)) ∧ (0 ≤ v2 ∧ v2 < 60) ∧ (0 ≤ (v1 + (σ.1 49 v2.toNat)) - 1 ∧ (v1 + (σ.1 49 v2.toNat)) - 1 < 80) ∧ (¬ (0 < v1 ∧ σ.1 69 ((v1 - 1).toNat) ≠ 0) → P (if σ.1 69 (((v1 + (σ.1 49 v2.toNat)) - 1).toNat) ≠ 0 then 1 else 0) σ) ∧ (0 < v1 ∧ σ.1 69 ((v1 - 1).toNat) ≠ 0 → rng (if σ.1 69 (((v1 + (σ.1 49 v2.toNat)) - 1).toNat) = 0 then (3 : Int) else (2 : Int)) ∧ P (if σ.1 69 (((v1 + (σ.1 49 v2.toNat)) - 1).toNat) = 0 then (3 : Int) else (2 : Int)) σ)) :
    a_UN_placeOf_0 G v1 v2 σ P := by
  refine r_iload_n (q := 1) (dc dt_UN_placeOf 0 rfl) rfl rfl 1 rfl ?_
  obtain ⟨o1, h⟩ := h
  obtain ⟨ho, h⟩ := h
  have hJ : ∀ (w_0 : Int), w_0 = (if 0 < v1 ∧ σ.1 69 ((v1 - 1).toNat) ≠ 0 then 1 else 0) → A G m_UN_placeOf 20 [(0, O 4), (1, I v1), (2, I v2)] [I w_0] σ P := by
    intro w_0 z_0
    subst z_0
    refine r_istore_n (q := 21) (dc dt_UN_placeOf 12 rfl) rfl rfl (by decide) rfl ?_
    refine r_aload_n (q := 22) (dc dt_UN_placeOf 13 rfl) rfl rfl 1 rfl ?_
    refine r_getO (q := 25) (v := 69) fl_UN_44 (dc dt_UN_placeOf 14 rfl) rfl ly4 rfl ?_
    refine r_iload_n (q := 26) (dc dt_UN_placeOf 15 rfl) rfl rfl 2 rfl ?_
    refine r_aload_n (q := 27) (dc dt_UN_placeOf 16 rfl) rfl rfl 1 rfl ?_
    refine r_getO (q := 30) (v := 1) fl_UN_59 (dc dt_UN_placeOf 17 rfl) rfl ly4 rfl ?_
    refine r_getO (q := 33) (v := 49) fl_UN_109 (dc dt_UN_placeOf 18 rfl) rfl ly1 rfl ?_
    refine r_iload_n (q := 34) (dc dt_UN_placeOf 19 rfl) rfl rfl 3 rfl ?_
    obtain ⟨o4, h⟩ := h
    refine r_iald (q := 35) (v := σ.1 49 v2.toNat) (dc dt_UN_placeOf 20 rfl) rfl ly49 o4 rfl (fun g5 => ?_)
    refine r_iadd (q := 36) (dc dt_UN_placeOf 21 rfl) rfl ?_
    refine r_iconst (q := 37) (dc dt_UN_placeOf 22 rfl) rfl rfl ?_
    refine r_isub (q := 38) (dc dt_UN_placeOf 23 rfl) rfl ?_
    obtain ⟨o6, h⟩ := h
    refine r_zald (q := 39) (v := σ.1 69 (((v1 + (σ.1 49 v2.toNat)) - 1).toNat)) (dc dt_UN_placeOf 24 rfl) rfl ly69 o6 rfl (fun g7 => ?_)
    refine r_istore (q := 41) (dc dt_UN_placeOf 25 rfl) rfl (by decide) rfl ?_
    refine r_iload_n (q := 42) (dc dt_UN_placeOf 26 rfl) rfl rfl 1 rfl ?_
    refine r_ifb_eq (q := 45) (t := 56) (dc dt_UN_placeOf 27 rfl) rfl (by decide) (fun q_ => ?_) (fun q_ => ?_)
    · have h := h.1 q_
      refine r_iload (q := 58) (dc dt_UN_placeOf 34 rfl) rfl 0 rfl ?_
      have hJ : ∀ (w_0 : Int), w_0 = (if σ.1 69 (((v1 + (σ.1 49 v2.toNat)) - 1).toNat) ≠ 0 then 1 else 0) → A G m_UN_placeOf 66 [(4, I (σ.1 69 (((v1 + (σ.1 49 v2.toNat)) - 1).toNat))), (3, I (if 0 < v1 ∧ σ.1 69 ((v1 - 1).toNat) ≠ 0 then 1 else 0)), (0, O 4), (1, I v1), (2, I v2)] [I w_0] σ P := by
        intro w_0 z_0
        subst z_0
        exact r_iret rfl (dc dt_UN_placeOf 39 rfl) b01_rng h
      clear h
      refine r_if_eq (q := 61) (t := 65) (dc dt_UN_placeOf 35 rfl) rfl (by decide) g7 (fun q_ => ?_) (fun q_ => ?_)
      · have q9 := q_
        refine r_iconst (q := 66) (dc dt_UN_placeOf 38 rfl) rfl rfl ?_
        exact (hJ 0 ((if_neg (by first | omega | grind)).symm))
      · have q9 := q_
        refine r_iconst (q := 62) (dc dt_UN_placeOf 36 rfl) rfl rfl ?_
        refine r_goto (q := 66) (dc dt_UN_placeOf 37 rfl) (by decide) ?_
        exact (hJ 1 ((if_pos (by first | omega | grind)).symm))
    · have h := h.2 q_
      refine r_iload (q := 47) (dc dt_UN_placeOf 28 rfl) rfl 0 rfl ?_
      have hJ : ∀ (w_0 : Int), w_0 = (if σ.1 69 (((v1 + (σ.1 49 v2.toNat)) - 1).toNat) = 0 then (3 : Int) else (2 : Int)) → A G m_UN_placeOf 55 [(4, I (σ.1 69 (((v1 + (σ.1 49 v2.toNat)) - 1).toNat))), (3, I (if 0 < v1 ∧ σ.1 69 ((v1 - 1).toNat) ≠ 0 then 1 else 0)), (0, O 4), (1, I v1), (2, I v2)] [I w_0] σ P := by
        intro w_0 z_0
        subst z_0
        obtain ⟨o8, h⟩ := h
        exact r_iret rfl (dc dt_UN_placeOf 33 rfl) o8 h
      clear h
      refine r_if_eq (q := 50) (t := 54) (dc dt_UN_placeOf 29 rfl) rfl (by decide) g7 (fun q_ => ?_) (fun q_ => ?_)
      · have q10 := q_
        refine r_iconst (q := 55) (dc dt_UN_placeOf 32 rfl) rfl rfl ?_
        exact (hJ 3 ((if_pos (by first | omega | grind)).symm))
      · have q10 := q_
        refine r_iconst (q := 51) (dc dt_UN_placeOf 30 rfl) rfl rfl ?_
        refine r_goto (q := 55) (dc dt_UN_placeOf 31 rfl) (by decide) ?_
        exact (hJ 2 ((if_neg (by first | omega | grind)).symm))
  clear h
  refine r_if_le (q := 4) (t := 19) (dc dt_UN_placeOf 1 rfl) rfl (by decide) o1 (fun q_ => ?_) (fun q_ => ?_)
  · have q11 := q_
    refine r_iconst (q := 20) (dc dt_UN_placeOf 11 rfl) rfl rfl ?_
    exact (hJ 0 ((if_neg (by first | omega | grind)).symm))
  · have q11 := q_
    have ho := ho q_
    refine r_aload_n (q := 5) (dc dt_UN_placeOf 2 rfl) rfl rfl 0 rfl ?_
    refine r_getO (q := 8) (v := 69) fl_UN_44 (dc dt_UN_placeOf 3 rfl) rfl ly4 rfl ?_
    refine r_iload_n (q := 9) (dc dt_UN_placeOf 4 rfl) rfl rfl 1 rfl ?_
    refine r_iconst (q := 10) (dc dt_UN_placeOf 5 rfl) rfl rfl ?_
    refine r_isub (q := 11) (dc dt_UN_placeOf 6 rfl) rfl ?_
    have o2 := ho
    refine r_zald (q := 12) (v := σ.1 69 ((v1 - 1).toNat)) (dc dt_UN_placeOf 7 rfl) rfl ly69 o2 rfl (fun g3 => ?_)
    refine r_if_eq (q := 15) (t := 19) (dc dt_UN_placeOf 8 rfl) rfl (by decide) g3 (fun q_ => ?_) (fun q_ => ?_)
    · have q12 := q_
      refine r_iconst (q := 20) (dc dt_UN_placeOf 11 rfl) rfl rfl ?_
      exact (hJ 0 ((if_neg (by first | omega | grind)).symm))
    · have q12 := q_
      refine r_iconst (q := 16) (dc dt_UN_placeOf 9 rfl) rfl rfl ?_
      refine r_goto (q := 20) (dc dt_UN_placeOf 10 rfl) (by decide) ?_
      exact (hJ 1 ((if_pos (by first | omega | grind)).symm))
set_option maxRecDepth 20000 in
theorem sp0_UN_placeOf {G : GT} {σ : St} {v1 : Int} {v2 : Int}  (j0 : rng v1) (j1 : (0 < v1 → 0 ≤ v1 - 1 ∧ v1 - 1 < 80)) (j2 : 0 ≤ v2 ∧ v2 < 60) (j3 : 0 ≤ (v1 + (σ.1 49 v2.toNat)) - 1 ∧ (v1 + (σ.1 49 v2.toNat)) - 1 < 80) (j4 : (0 < v1 ∧ σ.1 69 ((v1 - 1).toNat) ≠ 0 → rng (if σ.1 69 (((v1 + (σ.1 49 v2.toNat)) - 1).toNat) = 0 then (3 : Int) else (2 : Int)))) : CJ G m_UN_placeOf [O 4, I v1, I v2] σ (fun r u => r = (if ¬ (0 < v1 ∧ σ.1 69 ((v1 - 1).toNat) ≠ 0) then (if σ.1 69 (((v1 + (σ.1 49 v2.toNat)) - 1).toNat) ≠ 0 then 1 else 0) else if σ.1 69 (((v1 + (σ.1 49 v2.toNat)) - 1).toNat) = 0 then (3 : Int) else (2 : Int)) ∧ u = σ) := by
  refine CJ.intro (by decide) (by simp [catA]; decide) (fun _ => k_UN_placeOf_0  ?_)
  refine ⟨by first | assumption | omega | grind, ?_⟩
  refine ⟨by first | assumption | omega | grind, ?_⟩
  refine ⟨by first | assumption | omega | grind, ?_⟩
  refine ⟨by first | assumption | omega | grind, ?_⟩
  refine ⟨fun q_ => ?_, fun q_ => ?_⟩
  ·
    exact ⟨by first | rfl | grind, rfl⟩
  ·
    refine ⟨by first | assumption | omega | grind, ?_⟩
    exact ⟨by first | rfl | grind, rfl⟩
def p_UN_placeOf (σ : St) (v1 : Int) (v2 : Int) : Prop := rng v1 ∧ (0 < v1 → 0 ≤ v1 - 1 ∧ v1 - 1 < 80) ∧ (0 ≤ v2 ∧ v2 < 60) ∧ (0 ≤ (v1 + (σ.1 49 v2.toNat)) - 1 ∧ (v1 + (σ.1 49 v2.toNat)) - 1 < 80) ∧ (0 < v1 ∧ σ.1 69 ((v1 - 1).toNat) ≠ 0 → rng (if σ.1 69 (((v1 + (σ.1 49 v2.toNat)) - 1).toNat) = 0 then (3 : Int) else (2 : Int)))
def f_UN_placeOf (σ : St) (v1 : Int) (v2 : Int) : Int := if ¬ (0 < v1 ∧ σ.1 69 ((v1 - 1).toNat) ≠ 0) then (if σ.1 69 (((v1 + (σ.1 49 v2.toNat)) - 1).toNat) ≠ 0 then 1 else 0) else if σ.1 69 (((v1 + (σ.1 49 v2.toNat)) - 1).toNat) = 0 then (3 : Int) else (2 : Int)
theorem sp_UN_placeOf {G : GT} {σ : St} {v1 : Int} {v2 : Int}  (j : p_UN_placeOf σ v1 v2) : CJ G m_UN_placeOf [O 4, I v1, I v2] σ (fun r u => r = (f_UN_placeOf σ v1 v2) ∧ u = σ) := sp0_UN_placeOf  j.1 j.2.1 j.2.2.1 j.2.2.2.1 j.2.2.2.2
def tb_JS_shape : List (Nat × Instr × Nat) := [(0, .aload_n 0, 1), (1, .getfield 19, 3), (4, .iload_n 1, 1), (5, .invokevirtual 178, 3), (8, .ifCond .ne 5, 3), (11, .iconst (-1), 1), (12, .ireturn, 1), (13, .iload_n 2, 1), (14, .iconst 0, 1), (15, .iconst 4, 1), (16, .invokestatic 134, 3), (19, .ifCond .ne 6, 3), (22, .bipush (-2), 2), (24, .ireturn, 1), (25, .aload_n 0, 1), (26, .invokevirtual 192, 3), (29, .aload_n 0, 1), (30, .getfield 35, 3), (33, .getfield 195, 3), (36, .aload_n 0, 1), (37, .getfield 35, 3), (40, .getfield 198, 3), (43, .iload_n 1, 1), (44, .iaload, 1), (45, .iaload, 1), (46, .istore_n 3, 1), (47, .aload_n 0, 1), (48, .getfield 35, 3), (51, .iload_n 3, 1), (52, .invokevirtual 201, 3), (55, .istore 4, 2), (57, .iload_n 2, 1), (58, .tableswitch 64 0 3 #[30, 40, 50, 53], 30), (88, .aload_n 0, 1), (89, .getfield 35, 3), (92, .getfield 204, 3), (95, .iload_n 3, 1), (96, .iaload, 1), (97, .ireturn, 1), (98, .aload_n 0, 1), (99, .getfield 35, 3), (102, .getfield 207, 3), (105, .iload_n 3, 1), (106, .iaload, 1), (107, .ireturn, 1), (108, .iload 4, 2), (110, .ireturn, 1), (111, .aload_n 0, 1), (112, .getfield 35, 3), (115, .iload_n 3, 1), (116, .iload 4, 2), (118, .invokevirtual 210, 3), (121, .ireturn, 1), (122, .aload_n 0, 1), (123, .getfield 10, 3), (126, .iload 4, 2), (128, .aload_n 0, 1), (129, .getfield 35, 3), (132, .iload_n 3, 1), (133, .iload 4, 2), (135, .invokevirtual 210, 3), (138, .invokevirtual 213, 3), (141, .ireturn, 1)]
theorem dt_JS_shape : DT (cM m_JS_shape) tb_JS_shape := by unfold DT; decide +kernel
abbrev a_JS_shape_0 (G : GT)  (v1 : Int) (v2 : Int) (σ : St) (P : Int → St → Prop) : Prop := A G m_JS_shape 0 [(0, O 0), (1, I v1), (2, I v2)] [] σ P
set_option maxRecDepth 20000 in
theorem k_JS_shape_0 {G : GT} {σ : St} {P : Int → St → Prop}  {v1 : Int} {v2 : Int}  
    (h : rng v1 ∧ (0 ≤ v1 → rng ((σ.2.1 2 0) - 1)) ∧ (0 ≤ v1 ∧ v1 ≤ ((σ.2.1 2 0) - 1) → rng v2 ∧ (0 ≤ v2 → rng 4) ∧ (0 ≤ v2 ∧ v2 ≤ 4 → CJ G m_JS_lookAtText [O 0] σ (fun _ u7 => (0 ≤ v1 ∧ v1 < 80) ∧ (0 ≤ u7.1 68 v1.toNat ∧ u7.1 68 v1.toNat < 80) ∧ (0 ≤ (u7.1 71 ((u7.1 68 v1.toNat).toNat)) * 3 ∧ (u7.1 71 ((u7.1 68 v1.toNat).toNat)) * 3 < 240) ∧ (v2 = 0 → (0 ≤ u7.1 71 ((u7.1 68 v1.toNat).toNat) ∧ u7.1 71 ((u7.1 68 v1.toNat).toNat) < 80) ∧ P (u7.1 64 ((u7.1 71 ((u7.1 68 v1.toNat).toNat)).toNat)) u7) ∧ (v2 = 1 → (0 ≤ u7.1 71 ((u7.1 68 v1.toNat).toNat) ∧ u7.1 71 ((u7.1 68 v1.toNat).toNat) < 80) ∧ P (u7.1 61 ((u7.1 71 ((u7.1 68 v1.toNat).toNat)).toNat)) u7) ∧ (v2 = 2 → P (u7.1 73 (((u7.1 71 ((u7.1 68 v1.toNat).toNat)) * 3).toNat)) u7) ∧ (v2 = 3 → p_UN_placeOf u7 (u7.1 71 ((u7.1 68 v1.toNat).toNat)) (u7.1 73 (((u7.1 71 ((u7.1 68 v1.toNat).toNat)) * 3).toNat)) ∧ P (f_UN_placeOf u7 (u7.1 71 ((u7.1 68 v1.toNat).toNat)) (u7.1 73 (((u7.1 71 ((u7.1 68 v1.toNat).toNat)) * 3).toNat))) u7) ∧ ((v2 < 0 ∨ 3 < v2) → p_UN_placeOf u7 (u7.1 71 ((u7.1 68 v1.toNat).toNat)) (u7.1 73 (((u7.1 71 ((u7.1 68 v1.toNat).toNat)) * 3).toNat)) ∧ p_SC_plainForm u7 (u7.1 73 (((u7.1 71 ((u7.1 68 v1.toNat).toNat)) * 3).toNat)) (f_UN_placeOf u7 (u7.1 71 ((u7.1 68 v1.toNat).toNat)) (u7.1 73 (((u7.1 71 ((u7.1 68 v1.toNat).toNat)) * 3).toNat))) ∧ P (f_SC_plainForm u7 (u7.1 73 (((u7.1 71 ((u7.1 68 v1.toNat).toNat)) * 3).toNat)) (f_UN_placeOf u7 (u7.1 71 ((u7.1 68 v1.toNat).toNat)) (u7.1 73 (((u7.1 71 ((u7.1 68 v1.toNat).toNat)) * 3).toNat)))) u7))) ∧ (¬ (0 ≤ v2 ∧ v2 ≤ 4) → P (-2) σ)) ∧ (¬ (0 ≤ v1 ∧ v1 ≤ ((σ.2.1 2 0) - 1)) → P (-1) σ)) :
    a_JS_shape_0 G v1 v2 σ P := by
  refine r_aload_n (q := 1) (dc dt_JS_shape 0 rfl) rfl rfl 0 rfl ?_
  refine r_getO (q := 4) (v := 2) fl_JS_19 (dc dt_JS_shape 1 rfl) rfl ly0 rfl ?_
  refine r_iload_n (q := 5) (dc dt_JS_shape 2 rfl) rfl rfl 1 rfl ?_
  obtain ⟨o1, h⟩ := h
  obtain ⟨o2, h⟩ := h
  refine r_callVi (q := 8) mk_TY_has lm_JS_178 (RMO.of rfl) rfl (dc dt_JS_shape 3 rfl) rfl ly2 [I v1] [] rfl rfl (Nat.le_of_ble_eq_true rfl) (sp_TY_has o1 o2) (fun _ _ g3 z => ?_)
  obtain ⟨z, w⟩ := z
  subst z
  replace w := w.symm
  subst w
  refine r_ifb_ne (q := 11) (t := 13) (dc dt_JS_shape 4 rfl) rfl (by decide) (fun q_ => ?_) (fun q_ => ?_)
  · have h := h.1 q_
    refine r_iload_n (q := 14) (dc dt_JS_shape 7 rfl) rfl rfl 2 rfl ?_
    refine r_iconst (q := 15) (dc dt_JS_shape 8 rfl) rfl rfl ?_
    refine r_iconst (q := 16) (dc dt_JS_shape 9 rfl) rfl rfl ?_
    obtain ⟨o4, h⟩ := h
    obtain ⟨o5, h⟩ := h
    refine r_callSi (q := 19) mk_JS_within lm_JS_134 (RMO.of rfl) rfl (dc dt_JS_shape 10 rfl) rfl [I v2, I 0, I 4] [] rfl rfl (Nat.le_of_ble_eq_true rfl) (sp_JS_within o4 (⟨by decide, by decide⟩ : rng 0) o5) (fun _ _ g6 z => ?_)
    obtain ⟨z, w⟩ := z
    subst z
    replace w := w.symm
    subst w
    refine r_ifb_ne (q := 22) (t := 25) (dc dt_JS_shape 11 rfl) rfl (by decide) (fun q_ => ?_) (fun q_ => ?_)
    · have h := h.1 q_
      refine r_aload_n (q := 26) (dc dt_JS_shape 14 rfl) rfl rfl 0 rfl ?_
      refine r_callVv (q := 29) mk_JS_lookAtText lm_JS_192 (RMO.of rfl) rfl (dc dt_JS_shape 15 rfl) rfl ly0 [] [] rfl rfl (Nat.le_of_ble_eq_true rfl) h (fun u7 h => ?_)
      refine r_aload_n (q := 30) (dc dt_JS_shape 16 rfl) rfl rfl 0 rfl ?_
      refine r_getO (q := 33) (v := 4) fl_JS_35 (dc dt_JS_shape 17 rfl) rfl ly0 rfl ?_
      refine r_getO (q := 36) (v := 71) fl_JS_195 (dc dt_JS_shape 18 rfl) rfl ly4 rfl ?_
      refine r_aload_n (q := 37) (dc dt_JS_shape 19 rfl) rfl rfl 0 rfl ?_
      refine r_getO (q := 40) (v := 4) fl_JS_35 (dc dt_JS_shape 20 rfl) rfl ly0 rfl ?_
      refine r_getO (q := 43) (v := 68) fl_JS_198 (dc dt_JS_shape 21 rfl) rfl ly4 rfl ?_
      refine r_iload_n (q := 44) (dc dt_JS_shape 22 rfl) rfl rfl 1 rfl ?_
      obtain ⟨o8, h⟩ := h
      refine r_iald (q := 45) (v := u7.1 68 v1.toNat) (dc dt_JS_shape 23 rfl) rfl ly68 o8 rfl (fun g9 => ?_)
      obtain ⟨o10, h⟩ := h
      refine r_iald (q := 46) (v := u7.1 71 ((u7.1 68 v1.toNat).toNat)) (dc dt_JS_shape 24 rfl) rfl ly71 o10 rfl (fun g11 => ?_)
      refine r_istore_n (q := 47) (dc dt_JS_shape 25 rfl) rfl rfl (by decide) rfl ?_
      refine r_aload_n (q := 48) (dc dt_JS_shape 26 rfl) rfl rfl 1 rfl ?_
      refine r_getO (q := 51) (v := 4) fl_JS_35 (dc dt_JS_shape 27 rfl) rfl ly0 rfl ?_
      refine r_iload_n (q := 52) (dc dt_JS_shape 28 rfl) rfl rfl 0 rfl ?_
      obtain ⟨o12, h⟩ := h
      refine r_callVi (q := 55) mk_UN_base lm_JS_201 (RMO.of rfl) rfl (dc dt_JS_shape 29 rfl) rfl ly4 [I (u7.1 71 ((u7.1 68 v1.toNat).toNat))] [] rfl rfl (Nat.le_of_ble_eq_true rfl) (sp_UN_base o12) (fun _ _ g13 z => ?_)
      obtain ⟨z, w⟩ := z
      subst z
      replace w := w.symm
      subst w
      refine r_istore (q := 57) (dc dt_JS_shape 30 rfl) rfl (by decide) rfl ?_
      refine r_iload_n (q := 58) (dc dt_JS_shape 31 rfl) rfl rfl 4 rfl ?_
      by_cases qo : (v2 < 0 ∨ 3 < v2)
      · have q_ := qo
        have h := h.2.2.2.2 q_
        refine r_swOut (t := 122) (dc dt_JS_shape 32 rfl) (by decide) o4 q_ ?_
        refine r_aload_n (q := 123) (dc dt_JS_shape 53 rfl) rfl rfl 2 rfl ?_
        refine r_getO (q := 126) (v := 1) fl_JS_10 (dc dt_JS_shape 54 rfl) rfl ly0 rfl ?_
        refine r_iload (q := 128) (dc dt_JS_shape 55 rfl) rfl 0 rfl ?_
        refine r_aload_n (q := 129) (dc dt_JS_shape 56 rfl) rfl rfl 2 rfl ?_
        refine r_getO (q := 132) (v := 4) fl_JS_35 (dc dt_JS_shape 57 rfl) rfl ly0 rfl ?_
        refine r_iload_n (q := 133) (dc dt_JS_shape 58 rfl) rfl rfl 1 rfl ?_
        refine r_iload (q := 135) (dc dt_JS_shape 59 rfl) rfl 0 rfl ?_
        obtain ⟨o20, h⟩ := h
        refine r_callVi (q := 138) mk_UN_placeOf lm_JS_210 (RMO.of rfl) rfl (dc dt_JS_shape 60 rfl) rfl ly4 [I (u7.1 71 ((u7.1 68 v1.toNat).toNat)), I (u7.1 73 (((u7.1 71 ((u7.1 68 v1.toNat).toNat)) * 3).toNat))] [I (u7.1 73 (((u7.1 71 ((u7.1 68 v1.toNat).toNat)) * 3).toNat)), O 1] rfl rfl (Nat.le_of_ble_eq_true rfl) (sp_UN_placeOf o20) (fun _ _ g21 z => ?_)
        obtain ⟨z, w⟩ := z
        subst z
        replace w := w.symm
        subst w
        obtain ⟨o22, h⟩ := h
        refine r_callVi (q := 141) mk_SC_plainForm lm_JS_213 (RMO.of rfl) rfl (dc dt_JS_shape 61 rfl) rfl ly1 [I (u7.1 73 (((u7.1 71 ((u7.1 68 v1.toNat).toNat)) * 3).toNat)), I (f_UN_placeOf u7 (u7.1 71 ((u7.1 68 v1.toNat).toNat)) (u7.1 73 (((u7.1 71 ((u7.1 68 v1.toNat).toNat)) * 3).toNat)))] [] rfl rfl (Nat.le_of_ble_eq_true rfl) (sp_SC_plainForm o22) (fun _ _ g23 z => ?_)
        obtain ⟨z, w⟩ := z
        subst z
        replace w := w.symm
        subst w
        exact r_iret rfl (dc dt_JS_shape 62 rfl) g23 h
      · by_cases q_ : v2 = 0
        · have h := h.1 q_
          refine r_swIn (t := 88) (dc dt_JS_shape 32 rfl) o4 (by omega) (by omega) (by rw [q_]; rfl) (by decide) ?_
          refine r_aload_n (q := 89) (dc dt_JS_shape 33 rfl) rfl rfl 2 rfl ?_
          refine r_getO (q := 92) (v := 4) fl_JS_35 (dc dt_JS_shape 34 rfl) rfl ly0 rfl ?_
          refine r_getO (q := 95) (v := 64) fl_JS_204 (dc dt_JS_shape 35 rfl) rfl ly4 rfl ?_
          refine r_iload_n (q := 96) (dc dt_JS_shape 36 rfl) rfl rfl 1 rfl ?_
          obtain ⟨o14, h⟩ := h
          refine r_iald (q := 97) (v := u7.1 64 ((u7.1 71 ((u7.1 68 v1.toNat).toNat)).toNat)) (dc dt_JS_shape 37 rfl) rfl ly64 o14 rfl (fun g15 => ?_)
          exact r_iret rfl (dc dt_JS_shape 38 rfl) g15 h
        · by_cases q_ : v2 = 1
          · have h := h.2.1 q_
            refine r_swIn (t := 98) (dc dt_JS_shape 32 rfl) o4 (by omega) (by omega) (by rw [q_]; rfl) (by decide) ?_
            refine r_aload_n (q := 99) (dc dt_JS_shape 39 rfl) rfl rfl 2 rfl ?_
            refine r_getO (q := 102) (v := 4) fl_JS_35 (dc dt_JS_shape 40 rfl) rfl ly0 rfl ?_
            refine r_getO (q := 105) (v := 61) fl_JS_207 (dc dt_JS_shape 41 rfl) rfl ly4 rfl ?_
            refine r_iload_n (q := 106) (dc dt_JS_shape 42 rfl) rfl rfl 1 rfl ?_
            obtain ⟨o16, h⟩ := h
            refine r_iald (q := 107) (v := u7.1 61 ((u7.1 71 ((u7.1 68 v1.toNat).toNat)).toNat)) (dc dt_JS_shape 43 rfl) rfl ly61 o16 rfl (fun g17 => ?_)
            exact r_iret rfl (dc dt_JS_shape 44 rfl) g17 h
          · by_cases q_ : v2 = 2
            · have h := h.2.2.1 q_
              refine r_swIn (t := 108) (dc dt_JS_shape 32 rfl) o4 (by omega) (by omega) (by rw [q_]; rfl) (by decide) ?_
              refine r_iload (q := 110) (dc dt_JS_shape 45 rfl) rfl 0 rfl ?_
              exact r_iret rfl (dc dt_JS_shape 46 rfl) g13 h
            · have q_ : v2 = 3 := by omega
              have h := h.2.2.2.1 q_
              refine r_swIn (t := 111) (dc dt_JS_shape 32 rfl) o4 (by omega) (by omega) (by rw [q_]; rfl) (by decide) ?_
              refine r_aload_n (q := 112) (dc dt_JS_shape 47 rfl) rfl rfl 2 rfl ?_
              refine r_getO (q := 115) (v := 4) fl_JS_35 (dc dt_JS_shape 48 rfl) rfl ly0 rfl ?_
              refine r_iload_n (q := 116) (dc dt_JS_shape 49 rfl) rfl rfl 1 rfl ?_
              refine r_iload (q := 118) (dc dt_JS_shape 50 rfl) rfl 0 rfl ?_
              obtain ⟨o18, h⟩ := h
              refine r_callVi (q := 121) mk_UN_placeOf lm_JS_210 (RMO.of rfl) rfl (dc dt_JS_shape 51 rfl) rfl ly4 [I (u7.1 71 ((u7.1 68 v1.toNat).toNat)), I (u7.1 73 (((u7.1 71 ((u7.1 68 v1.toNat).toNat)) * 3).toNat))] [] rfl rfl (Nat.le_of_ble_eq_true rfl) (sp_UN_placeOf o18) (fun _ _ g19 z => ?_)
              obtain ⟨z, w⟩ := z
              subst z
              replace w := w.symm
              subst w
              exact r_iret rfl (dc dt_JS_shape 52 rfl) g19 h
    · have h := h.2 q_
      refine r_bipush (q := 24) (dc dt_JS_shape 12 rfl) rfl (by decide) ?_
      exact r_iret rfl (dc dt_JS_shape 13 rfl) (⟨by decide, by decide⟩ : rng (-2)) h
  · have h := h.2 q_
    refine r_iconst (q := 12) (dc dt_JS_shape 5 rfl) rfl rfl ?_
    exact r_iret rfl (dc dt_JS_shape 6 rfl) (⟨by decide, by decide⟩ : rng (-1)) h
def tb_JS_words : List (Nat × Instr × Nat) := [(0, .aload_n 0, 1), (1, .invokevirtual 192, 3), (4, .aload_n 0, 1), (5, .getfield 35, 3), (8, .getfield 216, 3), (11, .ireturn, 1)]
theorem dt_JS_words : DT (cM m_JS_words) tb_JS_words := by unfold DT; decide +kernel
abbrev a_JS_words_0 (G : GT)   (σ : St) (P : Int → St → Prop) : Prop := A G m_JS_words 0 [(0, O 0)] [] σ P
set_option maxRecDepth 20000 in
theorem k_JS_words_0 {G : GT} {σ : St} {P : Int → St → Prop}    
    (h : CJ G m_JS_lookAtText [O 0] σ (fun _ u1 => P (u1.2.1 4 3) u1)) :
    a_JS_words_0 G  σ P := by
  refine r_aload_n (q := 1) (dc dt_JS_words 0 rfl) rfl rfl 0 rfl ?_
  refine r_callVv (q := 4) mk_JS_lookAtText lm_JS_192 (RMO.of rfl) rfl (dc dt_JS_words 1 rfl) rfl ly0 [] [] rfl rfl (Nat.le_of_ble_eq_true rfl) h (fun u1 h => ?_)
  refine r_aload_n (q := 5) (dc dt_JS_words 2 rfl) rfl rfl 0 rfl ?_
  refine r_getO (q := 8) (v := 4) fl_JS_35 (dc dt_JS_words 3 rfl) rfl ly0 rfl ?_
  refine r_getI (q := 11) (v := u1.2.1 4 3) fl_JS_216 (dc dt_JS_words 4 rfl) rfl ly4 rfl rfl (fun g2 => ?_)
  exact r_iret rfl (dc dt_JS_words 5 rfl) g2 h
def tb_UN_hasWords : List (Nat × Instr × Nat) := [(0, .iload_n 1, 1), (1, .ifCond .lt 20, 3), (4, .iload_n 1, 1), (5, .iload_n 2, 1), (6, .if_icmp .gt 15, 3), (9, .iload_n 2, 1), (10, .aload_n 0, 1), (11, .getfield 15, 3), (14, .if_icmp .ge 7, 3), (17, .iconst 1, 1), (18, .goto 4, 3), (21, .iconst 0, 1), (22, .ireturn, 1)]
theorem dt_UN_hasWords : DT (cM m_UN_hasWords) tb_UN_hasWords := by unfold DT; decide +kernel
abbrev a_UN_hasWords_0 (G : GT)  (v1 : Int) (v2 : Int) (σ : St) (P : Int → St → Prop) : Prop := A G m_UN_hasWords 0 [(0, O 4), (1, I v1), (2, I v2)] [] σ P
set_option maxRecDepth 20000 in
theorem k_UN_hasWords_0 {G : GT} {σ : St} {P : Int → St → Prop}  {v1 : Int} {v2 : Int}  
    (h : rng v1 ∧ ((0 ≤ v1 → rng v2)) ∧ P (if 0 ≤ v1 ∧ (v1 ≤ v2 ∧ v2 < σ.2.1 4 3) then 1 else 0) σ) :
    a_UN_hasWords_0 G v1 v2 σ P := by
  refine r_iload_n (q := 1) (dc dt_UN_hasWords 0 rfl) rfl rfl 1 rfl ?_
  obtain ⟨o1, h⟩ := h
  obtain ⟨ho, h⟩ := h
  have hJ : ∀ (w_0 : Int), w_0 = (if 0 ≤ v1 ∧ (v1 ≤ v2 ∧ v2 < σ.2.1 4 3) then 1 else 0) → A G m_UN_hasWords 22 [(0, O 4), (1, I v1), (2, I v2)] [I w_0] σ P := by
    intro w_0 z_0
    subst z_0
    exact r_zret rfl (dc dt_UN_hasWords 12 rfl) b01_or h
  clear h
  refine r_if_lt (q := 4) (t := 21) (dc dt_UN_hasWords 1 rfl) rfl (by decide) o1 (fun q_ => ?_) (fun q_ => ?_)
  · have q4 := q_
    refine r_iconst (q := 22) (dc dt_UN_hasWords 11 rfl) rfl rfl ?_
    exact (hJ 0 ((if_neg (by first | omega | grind)).symm))
  · have q4 := q_
    have ho := ho q_
    refine r_iload_n (q := 5) (dc dt_UN_hasWords 2 rfl) rfl rfl 1 rfl ?_
    refine r_iload_n (q := 6) (dc dt_UN_hasWords 3 rfl) rfl rfl 2 rfl ?_
    have o2 := ho
    refine r_icmp_gt (q := 9) (t := 21) (dc dt_UN_hasWords 4 rfl) rfl (by decide) o1 o2 (fun q_ => ?_) (fun q_ => ?_)
    · have q5 := q_
      refine r_iconst (q := 22) (dc dt_UN_hasWords 11 rfl) rfl rfl ?_
      exact (hJ 0 ((if_neg (by first | omega | grind)).symm))
    · have q5 := q_
      refine r_iload_n (q := 10) (dc dt_UN_hasWords 5 rfl) rfl rfl 2 rfl ?_
      refine r_aload_n (q := 11) (dc dt_UN_hasWords 6 rfl) rfl rfl 0 rfl ?_
      refine r_getI (q := 14) (v := σ.2.1 4 3) fl_UN_15 (dc dt_UN_hasWords 7 rfl) rfl ly4 rfl rfl (fun g3 => ?_)
      refine r_icmp_ge (q := 17) (t := 21) (dc dt_UN_hasWords 8 rfl) rfl (by decide) o2 g3 (fun q_ => ?_) (fun q_ => ?_)
      · have q6 := q_
        refine r_iconst (q := 22) (dc dt_UN_hasWords 11 rfl) rfl rfl ?_
        exact (hJ 0 ((if_neg (by first | omega | grind)).symm))
      · have q6 := q_
        refine r_iconst (q := 18) (dc dt_UN_hasWords 9 rfl) rfl rfl ?_
        refine r_goto (q := 22) (dc dt_UN_hasWords 10 rfl) (by decide) ?_
        exact (hJ 1 ((if_pos (by first | omega | grind)).symm))
set_option maxRecDepth 20000 in
theorem sp_UN_hasWords {G : GT} {σ : St} {v1 : Int} {v2 : Int}  (j0 : rng v1) (j1 : (0 ≤ v1 → rng v2)) : CJ G m_UN_hasWords [O 4, I v1, I v2] σ (fun r u => r = (if 0 ≤ v1 ∧ (v1 ≤ v2 ∧ v2 < σ.2.1 4 3) then 1 else 0) ∧ u = σ) := by
  refine CJ.intro (by decide) (by simp [catA]; decide) (fun _ => k_UN_hasWords_0  ?_)
  refine ⟨by first | assumption | omega | grind, ?_⟩
  refine ⟨by first | assumption | omega | grind, ?_⟩
  exact ⟨rfl, rfl⟩
def tb_SC_anyBarred : List (Nat × Instr × Nat) := [(0, .iconst 0, 1), (1, .istore_n 1, 1), (2, .iload_n 1, 1), (3, .aload_n 0, 1), (4, .getfield 9, 3), (7, .if_icmp .ge 20, 3), (10, .aload_n 0, 1), (11, .getfield 31, 3), (14, .iload_n 1, 1), (15, .baload, 1), (16, .ifCond .eq 5, 3), (19, .iconst 1, 1), (20, .ireturn, 1), (21, .iinc 1 1, 3), (24, .goto (-22), 3), (27, .iconst 0, 1), (28, .ireturn, 1)]
theorem dt_SC_anyBarred : DT (cM m_SC_anyBarred) tb_SC_anyBarred := by unfold DT; decide +kernel
abbrev a_SC_anyBarred_0 (G : GT)   (σ : St) (P : Int → St → Prop) : Prop := A G m_SC_anyBarred 0 [(0, O 1)] [] σ P
abbrev a_SC_anyBarred_2 (G : GT)  (v1 : Int) (σ : St) (P : Int → St → Prop) : Prop := A G m_SC_anyBarred 2 [(0, O 1), (1, I v1)] [] σ P
set_option maxRecDepth 20000 in
theorem k_SC_anyBarred_0 {G : GT} {σ : St} {P : Int → St → Prop}    
    (h : a_SC_anyBarred_2 G 0 σ P) :
    a_SC_anyBarred_0 G  σ P := by
  refine r_iconst (q := 1) (dc dt_SC_anyBarred 0 rfl) rfl rfl ?_
  refine r_istore_n (q := 2) (dc dt_SC_anyBarred 1 rfl) rfl rfl (by decide) rfl ?_
  exact r_loc [1, 0] rfl h
set_option maxRecDepth 20000 in
theorem k_SC_anyBarred_2 {G : GT} {σ : St} {P : Int → St → Prop}  {v1 : Int}  
    (h : rng v1 ∧ (σ.2.1 1 0 ≤ v1 → P 0 σ) ∧ (v1 < σ.2.1 1 0 → (0 ≤ v1 ∧ v1 < 60) ∧ (σ.1 50 v1.toNat = 0 → a_SC_anyBarred_2 G (v1 + 1) σ P) ∧ (σ.1 50 v1.toNat ≠ 0 → P 1 σ))) :
    a_SC_anyBarred_2 G v1 σ P := by
  refine r_iload_n (q := 3) (dc dt_SC_anyBarred 2 rfl) rfl rfl 1 rfl ?_
  refine r_aload_n (q := 4) (dc dt_SC_anyBarred 3 rfl) rfl rfl 0 rfl ?_
  refine r_getI (q := 7) (v := σ.2.1 1 0) fl_SC_9 (dc dt_SC_anyBarred 4 rfl) rfl ly1 rfl rfl (fun g1 => ?_)
  obtain ⟨o2, h⟩ := h
  refine r_icmp_ge (q := 10) (t := 27) (dc dt_SC_anyBarred 5 rfl) rfl (by decide) o2 g1 (fun q_ => ?_) (fun q_ => ?_)
  · have h := h.1 q_
    refine r_iconst (q := 28) (dc dt_SC_anyBarred 15 rfl) rfl rfl ?_
    exact r_zret rfl (dc dt_SC_anyBarred 16 rfl) (by decide) h
  · have h := h.2 q_
    refine r_aload_n (q := 11) (dc dt_SC_anyBarred 6 rfl) rfl rfl 0 rfl ?_
    refine r_getO (q := 14) (v := 50) fl_SC_31 (dc dt_SC_anyBarred 7 rfl) rfl ly1 rfl ?_
    refine r_iload_n (q := 15) (dc dt_SC_anyBarred 8 rfl) rfl rfl 1 rfl ?_
    obtain ⟨o3, h⟩ := h
    refine r_zald (q := 16) (v := σ.1 50 v1.toNat) (dc dt_SC_anyBarred 9 rfl) rfl ly50 o3 rfl (fun g4 => ?_)
    refine r_if_eq (q := 19) (t := 21) (dc dt_SC_anyBarred 10 rfl) rfl (by decide) g4 (fun q_ => ?_) (fun q_ => ?_)
    · have h := h.1 q_
      refine r_iinc (q := 24) (k := 1) (dc dt_SC_anyBarred 13 rfl) rfl rfl (by decide) rfl ?_
      refine r_goto (q := 2) (dc dt_SC_anyBarred 14 rfl) (by decide) ?_
      exact r_loc [1, 0] rfl h
    · have h := h.2 q_
      refine r_iconst (q := 20) (dc dt_SC_anyBarred 11 rfl) rfl rfl ?_
      exact r_zret rfl (dc dt_SC_anyBarred 12 rfl) (by decide) h
def tb_AR_fill : List (Nat × Instr × Nat) := [(0, .iconst 0, 1), (1, .istore_n 2, 1), (2, .aload_n 0, 1), (3, .arraylength, 1), (4, .istore_n 3, 1), (5, .iload_n 2, 1), (6, .iload_n 3, 1), (7, .if_icmp .ge 13, 3), (10, .aload_n 0, 1), (11, .iload_n 2, 1), (12, .iload_n 1, 1), (13, .iastore, 1), (14, .iinc 2 1, 3), (17, .goto (-12), 3), (20, .return_, 1)]
theorem dt_AR_fill : DT (cM m_AR_fill) tb_AR_fill := by unfold DT; decide +kernel
abbrev a_AR_fill_0 (G : GT)  (k0 : Nat) (n0 : Nat) (v1 : Int) (σ : St) (P : Int → St → Prop) : Prop := A G m_AR_fill 0 [(0, O k0), (1, I v1)] [] σ P
abbrev a_AR_fill_5 (G : GT)  (k0 : Nat) (n0 : Nat) (v1 : Int) (v2 : Int) (v3 : Int) (σ : St) (P : Int → St → Prop) : Prop := A G m_AR_fill 5 [(0, O k0), (1, I v1), (2, I v2), (3, I v3)] [] σ P
set_option maxRecDepth 20000 in
theorem k_AR_fill_0 {G : GT} {σ : St} {P : Int → St → Prop}  {k0 : Nat} {n0 : Nat} {v1 : Int}  (g0 : lyt k0 = (1, n0))
    (h : a_AR_fill_5 G k0 n0 v1 0 (n0 : Int) σ P) :
    a_AR_fill_0 G k0 n0 v1 σ P := by
  refine r_iconst (q := 1) (dc dt_AR_fill 0 rfl) rfl rfl ?_
  refine r_istore_n (q := 2) (dc dt_AR_fill 1 rfl) rfl rfl (by decide) rfl ?_
  refine r_aload_n (q := 3) (dc dt_AR_fill 2 rfl) rfl rfl 1 rfl ?_
  refine r_alen (q := 4) (dc dt_AR_fill 3 rfl) rfl g0 ?_
  refine r_istore_n (q := 5) (dc dt_AR_fill 4 rfl) rfl rfl (by decide) rfl ?_
  exact r_loc [2, 3, 1, 0] rfl h
set_option maxRecDepth 20000 in
theorem k_AR_fill_5 {G : GT} {σ : St} {P : Int → St → Prop}  {k0 : Nat} {n0 : Nat} {v1 : Int} {v2 : Int} {v3 : Int}  (g0 : lyt k0 = (1, n0))
    (h : rng v2 ∧ rng v3 ∧ (v3 ≤ v2 → P 0 σ) ∧ (v2 < v3 → (0 ≤ v2 ∧ v2 < (n0 : Int)) ∧ rng v1 ∧ (∀ σ5, σ5 = sa σ k0 v2.toNat v1 → a_AR_fill_5 G k0 n0 v1 (v2 + 1) v3 σ5 P))) :
    a_AR_fill_5 G k0 n0 v1 v2 v3 σ P := by
  refine r_iload_n (q := 6) (dc dt_AR_fill 5 rfl) rfl rfl 2 rfl ?_
  refine r_iload_n (q := 7) (dc dt_AR_fill 6 rfl) rfl rfl 3 rfl ?_
  obtain ⟨o1, h⟩ := h
  obtain ⟨o2, h⟩ := h
  refine r_icmp_ge (q := 10) (t := 20) (dc dt_AR_fill 7 rfl) rfl (by decide) o1 o2 (fun q_ => ?_) (fun q_ => ?_)
  · have h := h.1 q_
    exact r_vret rfl (dc dt_AR_fill 14 rfl) h
  · have h := h.2 q_
    refine r_aload_n (q := 11) (dc dt_AR_fill 8 rfl) rfl rfl 0 rfl ?_
    refine r_iload_n (q := 12) (dc dt_AR_fill 9 rfl) rfl rfl 2 rfl ?_
    refine r_iload_n (q := 13) (dc dt_AR_fill 10 rfl) rfl rfl 1 rfl ?_
    obtain ⟨o3, h⟩ := h
    obtain ⟨o4, h⟩ := h
    refine r_iast (q := 14) (dc dt_AR_fill 11 rfl) rfl g0 o3 o4 (fun σ5 e6 => ?_)
    have h := h σ5 e6
    refine r_iinc (q := 17) (k := 2) (dc dt_AR_fill 12 rfl) rfl rfl (by decide) rfl ?_
    refine r_goto (q := 5) (dc dt_AR_fill 13 rfl) (by decide) ?_
    exact r_loc [1, 2, 0, 3] rfl h
def tb_FI_clear : List (Nat × Instr × Nat) := [(0, .aload_n 0, 1), (1, .getfield 13, 3), (4, .iload_n 1, 1), (5, .aaload, 1), (6, .ldc 81, 2), (8, .invokestatic 82, 3), (11, .aload_n 0, 1), (12, .getfield 16, 3), (15, .iload_n 1, 1), (16, .sipush 301, 3), (19, .iastore, 1), (20, .aload_n 0, 1), (21, .getfield 20, 3), (24, .iload_n 1, 1), (25, .iconst (-1), 1), (26, .iastore, 1), (27, .return_, 1)]
theorem dt_FI_clear : DT (cM m_FI_clear) tb_FI_clear := by unfold DT; decide +kernel
abbrev a_FI_clear_0 (G : GT)  (v1 : Int) (σ : St) (P : Int → St → Prop) : Prop := A G m_FI_clear 0 [(0, O 5), (1, I v1)] [] σ P
set_option maxRecDepth 20000 in
theorem k_FI_clear_0 {G : GT} {σ : St} {P : Int → St → Prop}  {v1 : Int}  
    (h : (0 ≤ v1 ∧ v1 < 243) ∧ CJ G m_AR_fill [O (376 + v1.toNat), I 536870912] σ (fun _ u2 => (∀ σ3, σ3 = sa u2 75 v1.toNat 301 → (∀ σ5, σ5 = sa σ3 76 v1.toNat (-1) → P 0 σ5)))) :
    a_FI_clear_0 G v1 σ P := by
  refine r_aload_n (q := 1) (dc dt_FI_clear 0 rfl) rfl rfl 0 rfl ?_
  refine r_getO (q := 4) (v := 74) fl_FI_13 (dc dt_FI_clear 1 rfl) rfl ly5 rfl ?_
  refine r_iload_n (q := 5) (dc dt_FI_clear 2 rfl) rfl rfl 1 rfl ?_
  obtain ⟨o1, h⟩ := h
  refine r_aald (q := 6) (dc dt_FI_clear 3 rfl) rfl ly74 o1 rfl ?_
  refine r_ldc (q := 8) (n := 536870912) (dc dt_FI_clear 4 rfl) rfl (gt_at 803 (by decide +kernel) rfl) ?_
  refine r_callSv (q := 11) mk_AR_fill lm_FI_82 (RMO.of rfl) rfl (dc dt_FI_clear 5 rfl) rfl [O (376 + v1.toNat), I 536870912] [] rfl rfl (Nat.le_of_ble_eq_true rfl) h (fun u2 h => ?_)
  refine r_aload_n (q := 12) (dc dt_FI_clear 6 rfl) rfl rfl 0 rfl ?_
  refine r_getO (q := 15) (v := 75) fl_FI_16 (dc dt_FI_clear 7 rfl) rfl ly5 rfl ?_
  refine r_iload_n (q := 16) (dc dt_FI_clear 8 rfl) rfl rfl 1 rfl ?_
  refine r_sipush (q := 19) (dc dt_FI_clear 9 rfl) rfl (by decide) ?_
  refine r_iast (q := 20) (dc dt_FI_clear 10 rfl) rfl ly75 o1 (⟨by decide, by decide⟩ : rng 301) (fun σ3 e4 => ?_)
  have h := h σ3 e4
  refine r_aload_n (q := 21) (dc dt_FI_clear 11 rfl) rfl rfl 0 rfl ?_
  refine r_getO (q := 24) (v := 76) fl_FI_20 (dc dt_FI_clear 12 rfl) rfl ly5 rfl ?_
  refine r_iload_n (q := 25) (dc dt_FI_clear 13 rfl) rfl rfl 1 rfl ?_
  refine r_iconst (q := 26) (dc dt_FI_clear 14 rfl) rfl rfl ?_
  refine r_iast (q := 27) (dc dt_FI_clear 15 rfl) rfl ly76 o1 (⟨by decide, by decide⟩ : rng (-1)) (fun σ5 e6 => ?_)
  have h := h σ5 e6
  exact r_vret rfl (dc dt_FI_clear 16 rfl) h
def tb_FI_beginBehind : List (Nat × Instr × Nat) := [(0, .aload_n 0, 1), (1, .iload_n 1, 1), (2, .iconst 1, 1), (3, .iadd, 1), (4, .putfield 23, 3), (7, .aload_n 0, 1), (8, .iload_n 2, 1), (9, .putfield 27, 3), (12, .aload_n 0, 1), (13, .aload_n 0, 1), (14, .getfield 46, 3), (17, .invokevirtual 54, 3), (20, .putfield 30, 3), (23, .aload_n 0, 1), (24, .getfield 23, 3), (27, .iconst 3, 1), (28, .imul, 1), (29, .istore_n 3, 1), (30, .aload_n 0, 1), (31, .iload_n 3, 1), (32, .invokevirtual 60, 3), (35, .aload_n 0, 1), (36, .getfield 13, 3), (39, .iload_n 3, 1), (40, .aaload, 1), (41, .iconst 0, 1), (42, .iconst 0, 1), (43, .iastore, 1), (44, .aload_n 0, 1), (45, .getfield 16, 3), (48, .iload_n 3, 1), (49, .iconst 0, 1), (50, .iastore, 1), (51, .aload_n 0, 1), (52, .getfield 20, 3), (55, .iload_n 3, 1), (56, .iconst 0, 1), (57, .iastore, 1), (58, .return_, 1)]
theorem dt_FI_beginBehind : DT (cM m_FI_beginBehind) tb_FI_beginBehind := by unfold DT; decide +kernel
abbrev a_FI_beginBehind_0 (G : GT)  (v1 : Int) (v2 : Int) (σ : St) (P : Int → St → Prop) : Prop := A G m_FI_beginBehind 0 [(0, O 5), (1, I v1), (2, I v2)] [] σ P
set_option maxRecDepth 20000 in
theorem k_FI_beginBehind_0 {G : GT} {σ : St} {P : Int → St → Prop}  {v1 : Int} {v2 : Int}  
    (h : rng (v1 + 1) ∧ (∀ σ1, σ1 = sf σ 5 5 (v1 + 1) → rng v2 ∧ (∀ σ4, σ4 = sf σ1 5 6 v2 → CJ G m_SC_anyBarred [O 1] σ4 (fun r8 u7 => (r8 = 0 ∨ r8 = 1) ∧ (∀ σ10, σ10 = sf u7 5 7 r8 → CJ G m_FI_clear [O 5, I ((u7.2.1 5 5) * 3)] σ10 (fun _ u14 => (0 ≤ (u7.2.1 5 5) * 3 ∧ (u7.2.1 5 5) * 3 < 243) ∧ (∀ σ16, σ16 = sa u14 (376 + ((u7.2.1 5 5) * 3).toNat) 0 0 → (∀ σ18, σ18 = sa σ16 75 (((u7.2.1 5 5) * 3).toNat) 0 → (∀ σ20, σ20 = sa σ18 76 (((u7.2.1 5 5) * 3).toNat) 0 → P 0 σ20))))))))) :
    a_FI_beginBehind_0 G v1 v2 σ P := by
  refine r_aload_n (q := 1) (dc dt_FI_beginBehind 0 rfl) rfl rfl 0 rfl ?_
  refine r_iload_n (q := 2) (dc dt_FI_beginBehind 1 rfl) rfl rfl 1 rfl ?_
  refine r_iconst (q := 3) (dc dt_FI_beginBehind 2 rfl) rfl rfl ?_
  refine r_iadd (q := 4) (dc dt_FI_beginBehind 3 rfl) rfl ?_
  obtain ⟨o3, h⟩ := h
  refine r_put (q := 7) fl_FI_23 (dc dt_FI_beginBehind 4 rfl) rfl ly5 (fun _ => rfl) (Or.inl rfl) pf_5_5 o3 (fun σ1 e2 => ?_)
  have h := h σ1 e2
  refine r_aload_n (q := 8) (dc dt_FI_beginBehind 5 rfl) rfl rfl 0 rfl ?_
  refine r_iload_n (q := 9) (dc dt_FI_beginBehind 6 rfl) rfl rfl 2 rfl ?_
  obtain ⟨o6, h⟩ := h
  refine r_put (q := 12) fl_FI_27 (dc dt_FI_beginBehind 7 rfl) rfl ly5 (fun _ => rfl) (Or.inl rfl) pf_5_6 o6 (fun σ4 e5 => ?_)
  have h := h σ4 e5
  refine r_aload_n (q := 13) (dc dt_FI_beginBehind 8 rfl) rfl rfl 0 rfl ?_
  refine r_aload_n (q := 14) (dc dt_FI_beginBehind 9 rfl) rfl rfl 0 rfl ?_
  refine r_getO (q := 17) (v := 1) fl_FI_46 (dc dt_FI_beginBehind 10 rfl) rfl ly5 rfl ?_
  refine r_callVi (q := 20) mk_SC_anyBarred lm_FI_54 (RMO.of rfl) rfl (dc dt_FI_beginBehind 11 rfl) rfl ly1 [] [O 5] rfl rfl (Nat.le_of_ble_eq_true rfl) h (fun r8 u7 g9 h => ?_)
  obtain ⟨o12, h⟩ := h
  refine r_put (q := 23) fl_FI_30 (dc dt_FI_beginBehind 12 rfl) rfl ly5 (fun _ => rfl) (Or.inr ⟨rfl, o12⟩) pf_5_7 g9 (fun σ10 e11 => ?_)
  have h := h σ10 e11
  refine r_aload_n (q := 24) (dc dt_FI_beginBehind 13 rfl) rfl rfl 0 rfl ?_
  refine r_getI (q := 27) (v := u7.2.1 5 5) fl_FI_23 (dc dt_FI_beginBehind 14 rfl) rfl ly5 rfl (by rw [e11]; rfl) (fun g13 => ?_)
  refine r_iconst (q := 28) (dc dt_FI_beginBehind 15 rfl) rfl rfl ?_
  refine r_imul (q := 29) (dc dt_FI_beginBehind 16 rfl) rfl ?_
  refine r_istore_n (q := 30) (dc dt_FI_beginBehind 17 rfl) rfl rfl (by decide) rfl ?_
  refine r_aload_n (q := 31) (dc dt_FI_beginBehind 18 rfl) rfl rfl 1 rfl ?_
  refine r_iload_n (q := 32) (dc dt_FI_beginBehind 19 rfl) rfl rfl 0 rfl ?_
  refine r_callVv (q := 35) mk_FI_clear lm_FI_60 (RMO.of rfl) rfl (dc dt_FI_beginBehind 20 rfl) rfl ly5 [I ((u7.2.1 5 5) * 3)] [] rfl rfl (Nat.le_of_ble_eq_true rfl) h (fun u14 h => ?_)
  refine r_aload_n (q := 36) (dc dt_FI_beginBehind 21 rfl) rfl rfl 1 rfl ?_
  refine r_getO (q := 39) (v := 74) fl_FI_13 (dc dt_FI_beginBehind 22 rfl) rfl ly5 rfl ?_
  refine r_iload_n (q := 40) (dc dt_FI_beginBehind 23 rfl) rfl rfl 0 rfl ?_
  obtain ⟨o15, h⟩ := h
  refine r_aald (q := 41) (dc dt_FI_beginBehind 24 rfl) rfl ly74 o15 rfl ?_
  refine r_iconst (q := 42) (dc dt_FI_beginBehind 25 rfl) rfl rfl ?_
  refine r_iconst (q := 43) (dc dt_FI_beginBehind 26 rfl) rfl rfl ?_
  refine r_iast (q := 44) (dc dt_FI_beginBehind 27 rfl) rfl (lyr_376 o15) ⟨by decide, by decide⟩ (⟨by decide, by decide⟩ : rng 0) (fun σ16 e17 => ?_)
  have h := h σ16 e17
  refine r_aload_n (q := 45) (dc dt_FI_beginBehind 28 rfl) rfl rfl 1 rfl ?_
  refine r_getO (q := 48) (v := 75) fl_FI_16 (dc dt_FI_beginBehind 29 rfl) rfl ly5 rfl ?_
  refine r_iload_n (q := 49) (dc dt_FI_beginBehind 30 rfl) rfl rfl 0 rfl ?_
  refine r_iconst (q := 50) (dc dt_FI_beginBehind 31 rfl) rfl rfl ?_
  refine r_iast (q := 51) (dc dt_FI_beginBehind 32 rfl) rfl ly75 o15 (⟨by decide, by decide⟩ : rng 0) (fun σ18 e19 => ?_)
  have h := h σ18 e19
  refine r_aload_n (q := 52) (dc dt_FI_beginBehind 33 rfl) rfl rfl 1 rfl ?_
  refine r_getO (q := 55) (v := 76) fl_FI_20 (dc dt_FI_beginBehind 34 rfl) rfl ly5 rfl ?_
  refine r_iload_n (q := 56) (dc dt_FI_beginBehind 35 rfl) rfl rfl 0 rfl ?_
  refine r_iconst (q := 57) (dc dt_FI_beginBehind 36 rfl) rfl rfl ?_
  refine r_iast (q := 58) (dc dt_FI_beginBehind 37 rfl) rfl ly76 o15 (⟨by decide, by decide⟩ : rng 0) (fun σ20 e21 => ?_)
  have h := h σ20 e21
  exact r_vret rfl (dc dt_FI_beginBehind 38 rfl) h
def tb_FI_statesAt : List (Nat × Instr × Nat) := [(0, .aload_n 0, 1), (1, .getfield 50, 3), (4, .getfield 88, 3), (7, .iload_n 1, 1), (8, .baload, 1), (9, .ifCond .ne 21, 3), (12, .iload_n 1, 1), (13, .ifCond .eq 17, 3), (16, .aload_n 0, 1), (17, .getfield 50, 3), (20, .getfield 88, 3), (23, .iload_n 1, 1), (24, .iconst 1, 1), (25, .isub, 1), (26, .baload, 1), (27, .ifCond .eq 5, 3), (30, .iconst 1, 1), (31, .ireturn, 1), (32, .aload_n 0, 1), (33, .getfield 30, 3), (36, .ifCond .eq 7, 3), (39, .iconst 3, 1), (40, .goto 4, 3), (43, .iconst 2, 1), (44, .ireturn, 1)]
theorem dt_FI_statesAt : DT (cM m_FI_statesAt) tb_FI_statesAt := by unfold DT; decide +kernel
abbrev a_FI_statesAt_0 (G : GT)  (v1 : Int) (σ : St) (P : Int → St → Prop) : Prop := A G m_FI_statesAt 0 [(0, O 5), (1, I v1)] [] σ P
set_option maxRecDepth 20000 in
theorem k_FI_statesAt_0 {G : GT} {σ : St} {P : Int → St → Prop}  {v1 : Int}  
    (h : (0 ≤ v1 ∧ v1 < 80) ∧ (σ.1 65 v1.toNat ≠ 0 → P 1 σ) ∧ (σ.1 65 v1.toNat = 0 → rng v1 ∧ (v1 = 0 → P 1 σ) ∧ (v1 ≠ 0 → (0 ≤ v1 - 1 ∧ v1 - 1 < 80) ∧ (σ.1 65 ((v1 - 1).toNat) = 0 → rng (if σ.2.1 5 7 = 0 then (2 : Int) else (3 : Int)) ∧ P (if σ.2.1 5 7 = 0 then (2 : Int) else (3 : Int)) σ) ∧ (σ.1 65 ((v1 - 1).toNat) ≠ 0 → P 1 σ)))) :
    a_FI_statesAt_0 G v1 σ P := by
  refine r_aload_n (q := 1) (dc dt_FI_statesAt 0 rfl) rfl rfl 0 rfl ?_
  refine r_getO (q := 4) (v := 4) fl_FI_50 (dc dt_FI_statesAt 1 rfl) rfl ly5 rfl ?_
  refine r_getO (q := 7) (v := 65) fl_FI_88 (dc dt_FI_statesAt 2 rfl) rfl ly4 rfl ?_
  refine r_iload_n (q := 8) (dc dt_FI_statesAt 3 rfl) rfl rfl 1 rfl ?_
  obtain ⟨o1, h⟩ := h
  refine r_zald (q := 9) (v := σ.1 65 v1.toNat) (dc dt_FI_statesAt 4 rfl) rfl ly65 o1 rfl (fun g2 => ?_)
  refine r_if_ne (q := 12) (t := 30) (dc dt_FI_statesAt 5 rfl) rfl (by decide) g2 (fun q_ => ?_) (fun q_ => ?_)
  · have h := h.1 q_
    refine r_iconst (q := 31) (dc dt_FI_statesAt 16 rfl) rfl rfl ?_
    exact r_iret rfl (dc dt_FI_statesAt 17 rfl) (⟨by decide, by decide⟩ : rng 1) h
  · have h := h.2 q_
    refine r_iload_n (q := 13) (dc dt_FI_statesAt 6 rfl) rfl rfl 1 rfl ?_
    obtain ⟨o3, h⟩ := h
    refine r_if_eq (q := 16) (t := 30) (dc dt_FI_statesAt 7 rfl) rfl (by decide) o3 (fun q_ => ?_) (fun q_ => ?_)
    · have h := h.1 q_
      refine r_iconst (q := 31) (dc dt_FI_statesAt 16 rfl) rfl rfl ?_
      exact r_iret rfl (dc dt_FI_statesAt 17 rfl) (⟨by decide, by decide⟩ : rng 1) h
    · have h := h.2 q_
      refine r_aload_n (q := 17) (dc dt_FI_statesAt 8 rfl) rfl rfl 0 rfl ?_
      refine r_getO (q := 20) (v := 4) fl_FI_50 (dc dt_FI_statesAt 9 rfl) rfl ly5 rfl ?_
      refine r_getO (q := 23) (v := 65) fl_FI_88 (dc dt_FI_statesAt 10 rfl) rfl ly4 rfl ?_
      refine r_iload_n (q := 24) (dc dt_FI_statesAt 11 rfl) rfl rfl 1 rfl ?_
      refine r_iconst (q := 25) (dc dt_FI_statesAt 12 rfl) rfl rfl ?_
      refine r_isub (q := 26) (dc dt_FI_statesAt 13 rfl) rfl ?_
      obtain ⟨o4, h⟩ := h
      refine r_zald (q := 27) (v := σ.1 65 ((v1 - 1).toNat)) (dc dt_FI_statesAt 14 rfl) rfl ly65 o4 rfl (fun g5 => ?_)
      refine r_if_eq (q := 30) (t := 32) (dc dt_FI_statesAt 15 rfl) rfl (by decide) g5 (fun q_ => ?_) (fun q_ => ?_)
      · have h := h.1 q_
        refine r_aload_n (q := 33) (dc dt_FI_statesAt 18 rfl) rfl rfl 0 rfl ?_
        refine r_getI (q := 36) (v := σ.2.1 5 7) fl_FI_30 (dc dt_FI_statesAt 19 rfl) rfl ly5 rfl rfl (fun g6 => ?_)
        have hJ : ∀ (w_0 : Int), w_0 = (if σ.2.1 5 7 = 0 then (2 : Int) else (3 : Int)) → A G m_FI_statesAt 44 [(0, O 5), (1, I v1)] [I w_0] σ P := by
          intro w_0 z_0
          subst z_0
          obtain ⟨o7, h⟩ := h
          exact r_iret rfl (dc dt_FI_statesAt 24 rfl) o7 h
        clear h
        refine r_if_eq (q := 39) (t := 43) (dc dt_FI_statesAt 20 rfl) rfl (by decide) g6 (fun q_ => ?_) (fun q_ => ?_)
        · have q8 := q_
          refine r_iconst (q := 44) (dc dt_FI_statesAt 23 rfl) rfl rfl ?_
          exact (hJ 2 ((if_pos (by first | omega | grind)).symm))
        · have q8 := q_
          refine r_iconst (q := 40) (dc dt_FI_statesAt 21 rfl) rfl rfl ?_
          refine r_goto (q := 44) (dc dt_FI_statesAt 22 rfl) (by decide) ?_
          exact (hJ 3 ((if_neg (by first | omega | grind)).symm))
      · have h := h.2 q_
        refine r_iconst (q := 31) (dc dt_FI_statesAt 16 rfl) rfl rfl ?_
        exact r_iret rfl (dc dt_FI_statesAt 17 rfl) (⟨by decide, by decide⟩ : rng 1) h
set_option maxRecDepth 20000 in
theorem sp0_FI_statesAt {G : GT} {σ : St} {v1 : Int}  (j0 : 0 ≤ v1 ∧ v1 < 80) (j1 : (σ.1 65 v1.toNat = 0 → rng v1 ∧ (v1 ≠ 0 → (0 ≤ v1 - 1 ∧ v1 - 1 < 80) ∧ (σ.1 65 ((v1 - 1).toNat) = 0 → rng (if σ.2.1 5 7 = 0 then (2 : Int) else (3 : Int)))))) : CJ G m_FI_statesAt [O 5, I v1] σ (fun r u => r = (if σ.1 65 v1.toNat ≠ 0 then (1 : Int) else if v1 = 0 then (1 : Int) else if σ.1 65 ((v1 - 1).toNat) = 0 then (if σ.2.1 5 7 = 0 then (2 : Int) else (3 : Int)) else (1 : Int)) ∧ u = σ) := by
  refine CJ.intro (by decide) (by simp [catA]; decide) (fun _ => k_FI_statesAt_0  ?_)
  refine ⟨by first | assumption | omega | grind, ?_⟩
  refine ⟨fun q_ => ?_, fun q_ => ?_⟩
  ·
    exact ⟨by first | rfl | grind, rfl⟩
  ·
    refine ⟨by first | assumption | omega | grind, ?_⟩
    refine ⟨fun q_ => ?_, fun q_ => ?_⟩
    ·
      exact ⟨by first | rfl | grind, rfl⟩
    ·
      refine ⟨by first | assumption | omega | grind, ?_⟩
      refine ⟨fun q_ => ?_, fun q_ => ?_⟩
      ·
        refine ⟨by first | assumption | omega | grind, ?_⟩
        exact ⟨by first | rfl | grind, rfl⟩
      ·
        exact ⟨by first | rfl | grind, rfl⟩
def p_FI_statesAt (σ : St) (v1 : Int) : Prop := (0 ≤ v1 ∧ v1 < 80) ∧ (σ.1 65 v1.toNat = 0 → rng v1 ∧ (v1 ≠ 0 → (0 ≤ v1 - 1 ∧ v1 - 1 < 80) ∧ (σ.1 65 ((v1 - 1).toNat) = 0 → rng (if σ.2.1 5 7 = 0 then (2 : Int) else (3 : Int)))))
def f_FI_statesAt (σ : St) (v1 : Int) : Int := if σ.1 65 v1.toNat ≠ 0 then (1 : Int) else if v1 = 0 then (1 : Int) else if σ.1 65 ((v1 - 1).toNat) = 0 then (if σ.2.1 5 7 = 0 then (2 : Int) else (3 : Int)) else (1 : Int)
theorem sp_FI_statesAt {G : GT} {σ : St} {v1 : Int}  (j : p_FI_statesAt σ v1) : CJ G m_FI_statesAt [O 5, I v1] σ (fun r u => r = (f_FI_statesAt σ v1) ∧ u = σ) := sp0_FI_statesAt  j.1 j.2
def tb_UN_kind : List (Nat × Instr × Nat) := [(0, .aload_n 0, 1), (1, .getfield 56, 3), (4, .iload_n 1, 1), (5, .iconst 3, 1), (6, .imul, 1), (7, .iload_n 2, 1), (8, .iadd, 1), (9, .iaload, 1), (10, .ireturn, 1)]
theorem dt_UN_kind : DT (cM m_UN_kind) tb_UN_kind := by unfold DT; decide +kernel
abbrev a_UN_kind_0 (G : GT)  (v1 : Int) (v2 : Int) (σ : St) (P : Int → St → Prop) : Prop := A G m_UN_kind 0 [(0, O 4), (1, I v1), (2, I v2)] [] σ P
set_option maxRecDepth 20000 in
theorem k_UN_kind_0 {G : GT} {σ : St} {P : Int → St → Prop}  {v1 : Int} {v2 : Int}  
    (h : (0 ≤ (v1 * 3) + v2 ∧ (v1 * 3) + v2 < 240) ∧ P (σ.1 73 (((v1 * 3) + v2).toNat)) σ) :
    a_UN_kind_0 G v1 v2 σ P := by
  refine r_aload_n (q := 1) (dc dt_UN_kind 0 rfl) rfl rfl 0 rfl ?_
  refine r_getO (q := 4) (v := 73) fl_UN_56 (dc dt_UN_kind 1 rfl) rfl ly4 rfl ?_
  refine r_iload_n (q := 5) (dc dt_UN_kind 2 rfl) rfl rfl 1 rfl ?_
  refine r_iconst (q := 6) (dc dt_UN_kind 3 rfl) rfl rfl ?_
  refine r_imul (q := 7) (dc dt_UN_kind 4 rfl) rfl ?_
  refine r_iload_n (q := 8) (dc dt_UN_kind 5 rfl) rfl rfl 2 rfl ?_
  refine r_iadd (q := 9) (dc dt_UN_kind 6 rfl) rfl ?_
  obtain ⟨o1, h⟩ := h
  refine r_iald (q := 10) (v := σ.1 73 (((v1 * 3) + v2).toNat)) (dc dt_UN_kind 7 rfl) rfl ly73 o1 rfl (fun g2 => ?_)
  exact r_iret rfl (dc dt_UN_kind 8 rfl) g2 h
set_option maxRecDepth 20000 in
theorem sp_UN_kind {G : GT} {σ : St} {v1 : Int} {v2 : Int}  (j0 : 0 ≤ (v1 * 3) + v2 ∧ (v1 * 3) + v2 < 240) : CJ G m_UN_kind [O 4, I v1, I v2] σ (fun r u => r = (σ.1 73 (((v1 * 3) + v2).toNat)) ∧ u = σ) := by
  refine CJ.intro (by decide) (by simp [catA]; decide) (fun _ => k_UN_kind_0  ?_)
  refine ⟨by first | assumption | omega | grind, ?_⟩
  exact ⟨by first | rfl | grind, rfl⟩
def tb_UN_lackMarks : List (Nat × Instr × Nat) := [(0, .iload_n 1, 1), (1, .istore_n 3, 1), (2, .iload_n 3, 1), (3, .iload_n 2, 1), (4, .if_icmp .gt 20, 3), (7, .aload_n 0, 1), (8, .getfield 47, 3), (11, .iload_n 3, 1), (12, .baload, 1), (13, .ifCond .eq 5, 3), (16, .iconst 1, 1), (17, .ireturn, 1), (18, .iinc 3 1, 3), (21, .goto (-19), 3), (24, .iconst 0, 1), (25, .ireturn, 1)]
theorem dt_UN_lackMarks : DT (cM m_UN_lackMarks) tb_UN_lackMarks := by unfold DT; decide +kernel
abbrev a_UN_lackMarks_0 (G : GT)  (v1 : Int) (v2 : Int) (σ : St) (P : Int → St → Prop) : Prop := A G m_UN_lackMarks 0 [(0, O 4), (1, I v1), (2, I v2)] [] σ P
abbrev a_UN_lackMarks_2 (G : GT)  (v2 : Int) (v3 : Int) (σ : St) (P : Int → St → Prop) : Prop := A G m_UN_lackMarks 2 [(0, O 4), (2, I v2), (3, I v3)] [] σ P
set_option maxRecDepth 20000 in
theorem k_UN_lackMarks_0 {G : GT} {σ : St} {P : Int → St → Prop}  {v1 : Int} {v2 : Int}  
    (h : a_UN_lackMarks_2 G v2 v1 σ P) :
    a_UN_lackMarks_0 G v1 v2 σ P := by
  refine r_iload_n (q := 1) (dc dt_UN_lackMarks 0 rfl) rfl rfl 1 rfl ?_
  refine r_istore_n (q := 2) (dc dt_UN_lackMarks 1 rfl) rfl rfl (by decide) rfl ?_
  exact r_loc [1, 3, 0] rfl h
set_option maxRecDepth 20000 in
theorem k_UN_lackMarks_2 {G : GT} {σ : St} {P : Int → St → Prop}  {v2 : Int} {v3 : Int}  
    (h : rng v3 ∧ rng v2 ∧ (v2 < v3 → P 0 σ) ∧ (v3 ≤ v2 → (0 ≤ v3 ∧ v3 < 80) ∧ (σ.1 70 v3.toNat = 0 → a_UN_lackMarks_2 G v2 (v3 + 1) σ P) ∧ (σ.1 70 v3.toNat ≠ 0 → P 1 σ))) :
    a_UN_lackMarks_2 G v2 v3 σ P := by
  refine r_iload_n (q := 3) (dc dt_UN_lackMarks 2 rfl) rfl rfl 2 rfl ?_
  refine r_iload_n (q := 4) (dc dt_UN_lackMarks 3 rfl) rfl rfl 1 rfl ?_
  obtain ⟨o1, h⟩ := h
  obtain ⟨o2, h⟩ := h
  refine r_icmp_gt (q := 7) (t := 24) (dc dt_UN_lackMarks 4 rfl) rfl (by decide) o1 o2 (fun q_ => ?_) (fun q_ => ?_)
  · have h := h.1 q_
    refine r_iconst (q := 25) (dc dt_UN_lackMarks 14 rfl) rfl rfl ?_
    exact r_zret rfl (dc dt_UN_lackMarks 15 rfl) (by decide) h
  · have h := h.2 q_
    refine r_aload_n (q := 8) (dc dt_UN_lackMarks 5 rfl) rfl rfl 0 rfl ?_
    refine r_getO (q := 11) (v := 70) fl_UN_47 (dc dt_UN_lackMarks 6 rfl) rfl ly4 rfl ?_
    refine r_iload_n (q := 12) (dc dt_UN_lackMarks 7 rfl) rfl rfl 2 rfl ?_
    obtain ⟨o3, h⟩ := h
    refine r_zald (q := 13) (v := σ.1 70 v3.toNat) (dc dt_UN_lackMarks 8 rfl) rfl ly70 o3 rfl (fun g4 => ?_)
    refine r_if_eq (q := 16) (t := 18) (dc dt_UN_lackMarks 9 rfl) rfl (by decide) g4 (fun q_ => ?_) (fun q_ => ?_)
    · have h := h.1 q_
      refine r_iinc (q := 21) (k := 2) (dc dt_UN_lackMarks 12 rfl) rfl rfl (by decide) rfl ?_
      refine r_goto (q := 2) (dc dt_UN_lackMarks 13 rfl) (by decide) ?_
      exact r_loc [1, 2, 0] rfl h
    · have h := h.2 q_
      refine r_iconst (q := 17) (dc dt_UN_lackMarks 10 rfl) rfl rfl ?_
      exact r_zret rfl (dc dt_UN_lackMarks 11 rfl) (by decide) h
def tb_FI_mostAt : List (Nat × Instr × Nat) := [(0, .iload_n 1, 1), (1, .ifCond .ne 18, 3), (4, .aload_n 0, 1), (5, .getfield 46, 3), (8, .getfield 120, 3), (11, .iload_n 2, 1), (12, .aaload, 1), (13, .bipush 7, 2), (15, .iaload, 1), (16, .goto 4, 3), (19, .iconst 0, 1), (20, .ireturn, 1)]
theorem dt_FI_mostAt : DT (cM m_FI_mostAt) tb_FI_mostAt := by unfold DT; decide +kernel
abbrev a_FI_mostAt_0 (G : GT)  (v1 : Int) (v2 : Int) (σ : St) (P : Int → St → Prop) : Prop := A G m_FI_mostAt 0 [(0, O 5), (1, I v1), (2, I v2)] [] σ P
set_option maxRecDepth 20000 in
theorem k_FI_mostAt_0 {G : GT} {σ : St} {P : Int → St → Prop}  {v1 : Int} {v2 : Int}  
    (h : rng v1 ∧ ((v1 = 0 → 0 ≤ v2 ∧ v2 < 200)) ∧ rng (if v1 ≠ 0 then (0 : Int) else σ.1 (176 + v2.toNat) 7) ∧ P (if v1 ≠ 0 then (0 : Int) else σ.1 (176 + v2.toNat) 7) σ) :
    a_FI_mostAt_0 G v1 v2 σ P := by
  refine r_iload_n (q := 1) (dc dt_FI_mostAt 0 rfl) rfl rfl 1 rfl ?_
  obtain ⟨o1, h⟩ := h
  obtain ⟨ho, h⟩ := h
  have hJ : ∀ (w_0 : Int), w_0 = (if v1 ≠ 0 then (0 : Int) else σ.1 (176 + v2.toNat) 7) → A G m_FI_mostAt 20 [(0, O 5), (1, I v1), (2, I v2)] [I w_0] σ P := by
    intro w_0 z_0
    subst z_0
    obtain ⟨o4, h⟩ := h
    exact r_iret rfl (dc dt_FI_mostAt 11 rfl) o4 h
  clear h
  refine r_if_ne (q := 4) (t := 19) (dc dt_FI_mostAt 1 rfl) rfl (by decide) o1 (fun q_ => ?_) (fun q_ => ?_)
  · have q5 := q_
    refine r_iconst (q := 20) (dc dt_FI_mostAt 10 rfl) rfl rfl ?_
    exact (hJ 0 ((if_pos (by first | omega | grind)).symm))
  · have q5 := q_
    have ho := ho q_
    refine r_aload_n (q := 5) (dc dt_FI_mostAt 2 rfl) rfl rfl 0 rfl ?_
    refine r_getO (q := 8) (v := 1) fl_FI_46 (dc dt_FI_mostAt 3 rfl) rfl ly5 rfl ?_
    refine r_getO (q := 11) (v := 54) fl_FI_120 (dc dt_FI_mostAt 4 rfl) rfl ly1 rfl ?_
    refine r_iload_n (q := 12) (dc dt_FI_mostAt 5 rfl) rfl rfl 2 rfl ?_
    have o2 := ho
    refine r_aald (q := 13) (dc dt_FI_mostAt 6 rfl) rfl ly54 o2 rfl ?_
    refine r_bipush (q := 15) (dc dt_FI_mostAt 7 rfl) rfl (by decide) ?_
    refine r_iald (q := 16) (v := σ.1 (176 + v2.toNat) 7) (dc dt_FI_mostAt 8 rfl) rfl (lyr_176 o2) ⟨by decide, by decide⟩ rfl (fun g3 => ?_)
    refine r_goto (q := 20) (dc dt_FI_mostAt 9 rfl) (by decide) ?_
    exact (hJ (σ.1 (176 + v2.toNat) 7) ((if_neg (by first | omega | grind)).symm))
set_option maxRecDepth 20000 in
theorem sp_FI_mostAt {G : GT} {σ : St} {v1 : Int} {v2 : Int}  (j0 : rng v1) (j1 : (v1 = 0 → 0 ≤ v2 ∧ v2 < 200)) (j2 : rng (if v1 ≠ 0 then (0 : Int) else σ.1 (176 + v2.toNat) 7)) : CJ G m_FI_mostAt [O 5, I v1, I v2] σ (fun r u => r = (if v1 ≠ 0 then (0 : Int) else σ.1 (176 + v2.toNat) 7) ∧ u = σ) := by
  refine CJ.intro (by decide) (by simp [catA]; decide) (fun _ => k_FI_mostAt_0  ?_)
  refine ⟨by first | assumption | omega | grind, ?_⟩
  refine ⟨by first | assumption | omega | grind, ?_⟩
  refine ⟨by first | assumption | omega | grind, ?_⟩
  exact ⟨by first | rfl | grind, rfl⟩
def tb_FI_stateBehind : List (Nat × Instr × Nat) := [(0, .iload_n 1, 1), (1, .aload_n 0, 1), (2, .getfield 46, 3), (5, .getfield 92, 3), (8, .iload_n 3, 1), (9, .iaload, 1), (10, .iadd, 1), (11, .istore 5, 2), (13, .iload 5, 2), (15, .aload_n 0, 1), (16, .getfield 23, 3), (19, .if_icmp .ge 28, 3), (22, .aload_n 0, 1), (23, .getfield 50, 3), (26, .getfield 88, 3), (29, .iload 5, 2), (31, .baload, 1), (32, .ifCond .ne 15, 3), (35, .aload_n 0, 1), (36, .getfield 50, 3), (39, .getfield 88, 3), (42, .iload_n 1, 1), (43, .baload, 1), (44, .ifCond .eq 5, 3), (47, .iconst 0, 1), (48, .ireturn, 1), (49, .iload_n 2, 1), (50, .iconst 1, 1), (51, .if_icmp .eq 8, 3), (54, .iload 4, 2), (56, .ifCond .le 5, 3), (59, .iconst 1, 1), (60, .ireturn, 1), (61, .aload_n 0, 1), (62, .getfield 46, 3), (65, .getfield 129, 3), (68, .iload_n 3, 1), (69, .baload, 1), (70, .ifCond .eq 7, 3), (73, .iconst 2, 1), (74, .goto 4, 3), (77, .iconst 0, 1), (78, .ireturn, 1)]
theorem dt_FI_stateBehind : DT (cM m_FI_stateBehind) tb_FI_stateBehind := by unfold DT; decide +kernel
abbrev a_FI_stateBehind_0 (G : GT)  (v1 : Int) (v2 : Int) (v3 : Int) (v4 : Int) (σ : St) (P : Int → St → Prop) : Prop := A G m_FI_stateBehind 0 [(0, O 5), (1, I v1), (2, I v2), (3, I v3), (4, I v4)] [] σ P
set_option maxRecDepth 20000 in
theorem k_FI_stateBehind_0 {G : GT} {σ : St} {P : Int → St → Prop}  {v1 : Int} {v2 : Int} {v3 : Int} {v4 : Int}  
    (h : (0 ≤ v3 ∧ v3 < 60) ∧ rng (v1 + (σ.1 49 v3.toNat)) ∧ (σ.2.1 5 5 ≤ v1 + (σ.1 49 v3.toNat) → P 0 σ) ∧ (v1 + (σ.1 49 v3.toNat) < σ.2.1 5 5 → (0 ≤ v1 + (σ.1 49 v3.toNat) ∧ v1 + (σ.1 49 v3.toNat) < 80) ∧ (σ.1 65 ((v1 + (σ.1 49 v3.toNat)).toNat) ≠ 0 → P 0 σ) ∧ (σ.1 65 ((v1 + (σ.1 49 v3.toNat)).toNat) = 0 → (0 ≤ v1 ∧ v1 < 80) ∧ (σ.1 65 v1.toNat = 0 → rng v2 ∧ (v2 = 1 → P 1 σ) ∧ (v2 ≠ 1 → rng v4 ∧ (v4 ≤ 0 → rng (if σ.1 50 v3.toNat = 0 then (0 : Int) else (2 : Int)) ∧ P (if σ.1 50 v3.toNat = 0 then (0 : Int) else (2 : Int)) σ) ∧ (0 < v4 → P 1 σ))) ∧ (σ.1 65 v1.toNat ≠ 0 → P 0 σ)))) :
    a_FI_stateBehind_0 G v1 v2 v3 v4 σ P := by
  refine r_iload_n (q := 1) (dc dt_FI_stateBehind 0 rfl) rfl rfl 1 rfl ?_
  refine r_aload_n (q := 2) (dc dt_FI_stateBehind 1 rfl) rfl rfl 0 rfl ?_
  refine r_getO (q := 5) (v := 1) fl_FI_46 (dc dt_FI_stateBehind 2 rfl) rfl ly5 rfl ?_
  refine r_getO (q := 8) (v := 49) fl_FI_92 (dc dt_FI_stateBehind 3 rfl) rfl ly1 rfl ?_
  refine r_iload_n (q := 9) (dc dt_FI_stateBehind 4 rfl) rfl rfl 3 rfl ?_
  obtain ⟨o1, h⟩ := h
  refine r_iald (q := 10) (v := σ.1 49 v3.toNat) (dc dt_FI_stateBehind 5 rfl) rfl ly49 o1 rfl (fun g2 => ?_)
  refine r_iadd (q := 11) (dc dt_FI_stateBehind 6 rfl) rfl ?_
  refine r_istore (q := 13) (dc dt_FI_stateBehind 7 rfl) rfl (by decide) rfl ?_
  refine r_iload (q := 15) (dc dt_FI_stateBehind 8 rfl) rfl 0 rfl ?_
  refine r_aload_n (q := 16) (dc dt_FI_stateBehind 9 rfl) rfl rfl 1 rfl ?_
  refine r_getI (q := 19) (v := σ.2.1 5 5) fl_FI_23 (dc dt_FI_stateBehind 10 rfl) rfl ly5 rfl rfl (fun g3 => ?_)
  obtain ⟨o4, h⟩ := h
  refine r_icmp_ge (q := 22) (t := 47) (dc dt_FI_stateBehind 11 rfl) rfl (by decide) o4 g3 (fun q_ => ?_) (fun q_ => ?_)
  · have h := h.1 q_
    refine r_iconst (q := 48) (dc dt_FI_stateBehind 24 rfl) rfl rfl ?_
    exact r_iret rfl (dc dt_FI_stateBehind 25 rfl) (⟨by decide, by decide⟩ : rng 0) h
  · have h := h.2 q_
    refine r_aload_n (q := 23) (dc dt_FI_stateBehind 12 rfl) rfl rfl 1 rfl ?_
    refine r_getO (q := 26) (v := 4) fl_FI_50 (dc dt_FI_stateBehind 13 rfl) rfl ly5 rfl ?_
    refine r_getO (q := 29) (v := 65) fl_FI_88 (dc dt_FI_stateBehind 14 rfl) rfl ly4 rfl ?_
    refine r_iload (q := 31) (dc dt_FI_stateBehind 15 rfl) rfl 0 rfl ?_
    obtain ⟨o5, h⟩ := h
    refine r_zald (q := 32) (v := σ.1 65 ((v1 + (σ.1 49 v3.toNat)).toNat)) (dc dt_FI_stateBehind 16 rfl) rfl ly65 o5 rfl (fun g6 => ?_)
    refine r_if_ne (q := 35) (t := 47) (dc dt_FI_stateBehind 17 rfl) rfl (by decide) g6 (fun q_ => ?_) (fun q_ => ?_)
    · have h := h.1 q_
      refine r_iconst (q := 48) (dc dt_FI_stateBehind 24 rfl) rfl rfl ?_
      exact r_iret rfl (dc dt_FI_stateBehind 25 rfl) (⟨by decide, by decide⟩ : rng 0) h
    · have h := h.2 q_
      refine r_aload_n (q := 36) (dc dt_FI_stateBehind 18 rfl) rfl rfl 1 rfl ?_
      refine r_getO (q := 39) (v := 4) fl_FI_50 (dc dt_FI_stateBehind 19 rfl) rfl ly5 rfl ?_
      refine r_getO (q := 42) (v := 65) fl_FI_88 (dc dt_FI_stateBehind 20 rfl) rfl ly4 rfl ?_
      refine r_iload_n (q := 43) (dc dt_FI_stateBehind 21 rfl) rfl rfl 2 rfl ?_
      obtain ⟨o7, h⟩ := h
      refine r_zald (q := 44) (v := σ.1 65 v1.toNat) (dc dt_FI_stateBehind 22 rfl) rfl ly65 o7 rfl (fun g8 => ?_)
      refine r_if_eq (q := 47) (t := 49) (dc dt_FI_stateBehind 23 rfl) rfl (by decide) g8 (fun q_ => ?_) (fun q_ => ?_)
      · have h := h.1 q_
        refine r_iload_n (q := 50) (dc dt_FI_stateBehind 26 rfl) rfl rfl 3 rfl ?_
        refine r_iconst (q := 51) (dc dt_FI_stateBehind 27 rfl) rfl rfl ?_
        obtain ⟨o9, h⟩ := h
        refine r_icmp_eq (q := 54) (t := 59) (dc dt_FI_stateBehind 28 rfl) rfl (by decide) o9 (⟨by decide, by decide⟩ : rng 1) (fun q_ => ?_) (fun q_ => ?_)
        · have h := h.1 q_
          refine r_iconst (q := 60) (dc dt_FI_stateBehind 31 rfl) rfl rfl ?_
          exact r_iret rfl (dc dt_FI_stateBehind 32 rfl) (⟨by decide, by decide⟩ : rng 1) h
        · have h := h.2 q_
          refine r_iload (q := 56) (dc dt_FI_stateBehind 29 rfl) rfl 5 rfl ?_
          obtain ⟨o10, h⟩ := h
          refine r_if_le (q := 59) (t := 61) (dc dt_FI_stateBehind 30 rfl) rfl (by decide) o10 (fun q_ => ?_) (fun q_ => ?_)
          · have h := h.1 q_
            refine r_aload_n (q := 62) (dc dt_FI_stateBehind 33 rfl) rfl rfl 1 rfl ?_
            refine r_getO (q := 65) (v := 1) fl_FI_46 (dc dt_FI_stateBehind 34 rfl) rfl ly5 rfl ?_
            refine r_getO (q := 68) (v := 50) fl_FI_129 (dc dt_FI_stateBehind 35 rfl) rfl ly1 rfl ?_
            refine r_iload_n (q := 69) (dc dt_FI_stateBehind 36 rfl) rfl rfl 4 rfl ?_
            refine r_zald (q := 70) (v := σ.1 50 v3.toNat) (dc dt_FI_stateBehind 37 rfl) rfl ly50 o1 rfl (fun g11 => ?_)
            have hJ : ∀ (w_0 : Int), w_0 = (if σ.1 50 v3.toNat = 0 then (0 : Int) else (2 : Int)) → A G m_FI_stateBehind 78 [(5, I (v1 + (σ.1 49 v3.toNat))), (0, O 5), (1, I v1), (2, I v2), (3, I v3), (4, I v4)] [I w_0] σ P := by
              intro w_0 z_0
              subst z_0
              obtain ⟨o12, h⟩ := h
              exact r_iret rfl (dc dt_FI_stateBehind 42 rfl) o12 h
            clear h
            refine r_if_eq (q := 73) (t := 77) (dc dt_FI_stateBehind 38 rfl) rfl (by decide) g11 (fun q_ => ?_) (fun q_ => ?_)
            · have q13 := q_
              refine r_iconst (q := 78) (dc dt_FI_stateBehind 41 rfl) rfl rfl ?_
              exact (hJ 0 ((if_pos (by first | omega | grind)).symm))
            · have q13 := q_
              refine r_iconst (q := 74) (dc dt_FI_stateBehind 39 rfl) rfl rfl ?_
              refine r_goto (q := 78) (dc dt_FI_stateBehind 40 rfl) (by decide) ?_
              exact (hJ 2 ((if_neg (by first | omega | grind)).symm))
          · have h := h.2 q_
            refine r_iconst (q := 60) (dc dt_FI_stateBehind 31 rfl) rfl rfl ?_
            exact r_iret rfl (dc dt_FI_stateBehind 32 rfl) (⟨by decide, by decide⟩ : rng 1) h
      · have h := h.2 q_
        refine r_iconst (q := 48) (dc dt_FI_stateBehind 24 rfl) rfl rfl ?_
        exact r_iret rfl (dc dt_FI_stateBehind 25 rfl) (⟨by decide, by decide⟩ : rng 0) h
set_option maxRecDepth 20000 in
theorem sp0_FI_stateBehind {G : GT} {σ : St} {v1 : Int} {v2 : Int} {v3 : Int} {v4 : Int}  (j0 : 0 ≤ v3 ∧ v3 < 60) (j1 : rng (v1 + (σ.1 49 v3.toNat))) (j2 : (v1 + (σ.1 49 v3.toNat) < σ.2.1 5 5 → (0 ≤ v1 + (σ.1 49 v3.toNat) ∧ v1 + (σ.1 49 v3.toNat) < 80) ∧ (σ.1 65 ((v1 + (σ.1 49 v3.toNat)).toNat) = 0 → (0 ≤ v1 ∧ v1 < 80) ∧ (σ.1 65 v1.toNat = 0 → rng v2 ∧ (v2 ≠ 1 → rng v4 ∧ (v4 ≤ 0 → rng (if σ.1 50 v3.toNat = 0 then (0 : Int) else (2 : Int)))))))) : CJ G m_FI_stateBehind [O 5, I v1, I v2, I v3, I v4] σ (fun r u => r = (if σ.2.1 5 5 ≤ v1 + (σ.1 49 v3.toNat) then (0 : Int) else if σ.1 65 ((v1 + (σ.1 49 v3.toNat)).toNat) ≠ 0 then (0 : Int) else if σ.1 65 v1.toNat = 0 then (if v2 = 1 then (1 : Int) else if v4 ≤ 0 then (if σ.1 50 v3.toNat = 0 then (0 : Int) else (2 : Int)) else (1 : Int)) else (0 : Int)) ∧ u = σ) := by
  refine CJ.intro (by decide) (by simp [catA]; decide) (fun _ => k_FI_stateBehind_0  ?_)
  refine ⟨by first | assumption | omega | grind, ?_⟩
  refine ⟨by first | assumption | omega | grind, ?_⟩
  refine ⟨fun q_ => ?_, fun q_ => ?_⟩
  ·
    exact ⟨by first | rfl | grind, rfl⟩
  ·
    refine ⟨by first | assumption | omega | grind, ?_⟩
    refine ⟨fun q_ => ?_, fun q_ => ?_⟩
    ·
      exact ⟨by first | rfl | grind, rfl⟩
    ·
      refine ⟨by first | assumption | omega | grind, ?_⟩
      refine ⟨fun q_ => ?_, fun q_ => ?_⟩
      ·
        refine ⟨by first | assumption | omega | grind, ?_⟩
        refine ⟨fun q_ => ?_, fun q_ => ?_⟩
        ·
          exact ⟨by first | rfl | grind, rfl⟩
        ·
          refine ⟨by first | assumption | omega | grind, ?_⟩
          refine ⟨fun q_ => ?_, fun q_ => ?_⟩
          ·
            refine ⟨by first | assumption | omega | grind, ?_⟩
            exact ⟨by first | rfl | grind, rfl⟩
          ·
            exact ⟨by first | rfl | grind, rfl⟩
      ·
        exact ⟨by first | rfl | grind, rfl⟩
def p_FI_stateBehind (σ : St) (v1 : Int) (v2 : Int) (v3 : Int) (v4 : Int) : Prop := (0 ≤ v3 ∧ v3 < 60) ∧ rng (v1 + (σ.1 49 v3.toNat)) ∧ (v1 + (σ.1 49 v3.toNat) < σ.2.1 5 5 → (0 ≤ v1 + (σ.1 49 v3.toNat) ∧ v1 + (σ.1 49 v3.toNat) < 80) ∧ (σ.1 65 ((v1 + (σ.1 49 v3.toNat)).toNat) = 0 → (0 ≤ v1 ∧ v1 < 80) ∧ (σ.1 65 v1.toNat = 0 → rng v2 ∧ (v2 ≠ 1 → rng v4 ∧ (v4 ≤ 0 → rng (if σ.1 50 v3.toNat = 0 then (0 : Int) else (2 : Int)))))))
def f_FI_stateBehind (σ : St) (v1 : Int) (v2 : Int) (v3 : Int) (v4 : Int) : Int := if σ.2.1 5 5 ≤ v1 + (σ.1 49 v3.toNat) then (0 : Int) else if σ.1 65 ((v1 + (σ.1 49 v3.toNat)).toNat) ≠ 0 then (0 : Int) else if σ.1 65 v1.toNat = 0 then (if v2 = 1 then (1 : Int) else if v4 ≤ 0 then (if σ.1 50 v3.toNat = 0 then (0 : Int) else (2 : Int)) else (1 : Int)) else (0 : Int)
theorem sp_FI_stateBehind {G : GT} {σ : St} {v1 : Int} {v2 : Int} {v3 : Int} {v4 : Int}  (j : p_FI_stateBehind σ v1 v2 v3 v4) : CJ G m_FI_stateBehind [O 5, I v1, I v2, I v3, I v4] σ (fun r u => r = (f_FI_stateBehind σ v1 v2 v3 v4) ∧ u = σ) := sp0_FI_stateBehind  j.1 j.2.1 j.2.2
def tb_SC_priceOf : List (Nat × Instr × Nat) := [(0, .aload_n 0, 1), (1, .getfield 46, 3), (4, .iload_n 1, 1), (5, .aaload, 1), (6, .astore_n 3, 1), (7, .aload_n 3, 1), (8, .iconst 5, 1), (9, .iaload, 1), (10, .aload_n 3, 1), (11, .bipush 8, 2), (13, .iaload, 1), (14, .iload_n 2, 1), (15, .imul, 1), (16, .iload_n 2, 1), (17, .imul, 1), (18, .iadd, 1), (19, .ireturn, 1)]
theorem dt_SC_priceOf : DT (cM m_SC_priceOf) tb_SC_priceOf := by unfold DT; decide +kernel
abbrev a_SC_priceOf_0 (G : GT)  (v1 : Int) (v2 : Int) (σ : St) (P : Int → St → Prop) : Prop := A G m_SC_priceOf 0 [(0, O 1), (1, I v1), (2, I v2)] [] σ P
set_option maxRecDepth 20000 in
theorem k_SC_priceOf_0 {G : GT} {σ : St} {P : Int → St → Prop}  {v1 : Int} {v2 : Int}  
    (h : (0 ≤ v1 ∧ v1 < 200) ∧ rng ((σ.1 (176 + v1.toNat) 5) + (((σ.1 (176 + v1.toNat) 8) * v2) * v2)) ∧ P ((σ.1 (176 + v1.toNat) 5) + (((σ.1 (176 + v1.toNat) 8) * v2) * v2)) σ) :
    a_SC_priceOf_0 G v1 v2 σ P := by
  refine r_aload_n (q := 1) (dc dt_SC_priceOf 0 rfl) rfl rfl 0 rfl ?_
  refine r_getO (q := 4) (v := 54) fl_SC_46 (dc dt_SC_priceOf 1 rfl) rfl ly1 rfl ?_
  refine r_iload_n (q := 5) (dc dt_SC_priceOf 2 rfl) rfl rfl 1 rfl ?_
  obtain ⟨o1, h⟩ := h
  refine r_aald (q := 6) (dc dt_SC_priceOf 3 rfl) rfl ly54 o1 rfl ?_
  refine r_astore_n (q := 7) (dc dt_SC_priceOf 4 rfl) rfl rfl (by decide) rfl ?_
  refine r_aload_n (q := 8) (dc dt_SC_priceOf 5 rfl) rfl rfl 0 rfl ?_
  refine r_iconst (q := 9) (dc dt_SC_priceOf 6 rfl) rfl rfl ?_
  refine r_iald (q := 10) (v := σ.1 (176 + v1.toNat) 5) (dc dt_SC_priceOf 7 rfl) rfl (lyr_176 o1) ⟨by decide, by decide⟩ rfl (fun g2 => ?_)
  refine r_aload_n (q := 11) (dc dt_SC_priceOf 8 rfl) rfl rfl 0 rfl ?_
  refine r_bipush (q := 13) (dc dt_SC_priceOf 9 rfl) rfl (by decide) ?_
  refine r_iald (q := 14) (v := σ.1 (176 + v1.toNat) 8) (dc dt_SC_priceOf 10 rfl) rfl (lyr_176 o1) ⟨by decide, by decide⟩ rfl (fun g3 => ?_)
  refine r_iload_n (q := 15) (dc dt_SC_priceOf 11 rfl) rfl rfl 3 rfl ?_
  refine r_imul (q := 16) (dc dt_SC_priceOf 12 rfl) rfl ?_
  refine r_iload_n (q := 17) (dc dt_SC_priceOf 13 rfl) rfl rfl 3 rfl ?_
  refine r_imul (q := 18) (dc dt_SC_priceOf 14 rfl) rfl ?_
  refine r_iadd (q := 19) (dc dt_SC_priceOf 15 rfl) rfl ?_
  obtain ⟨o4, h⟩ := h
  exact r_iret rfl (dc dt_SC_priceOf 16 rfl) o4 h
set_option maxRecDepth 20000 in
theorem sp_SC_priceOf {G : GT} {σ : St} {v1 : Int} {v2 : Int}  (j0 : 0 ≤ v1 ∧ v1 < 200) (j1 : rng ((σ.1 (176 + v1.toNat) 5) + (((σ.1 (176 + v1.toNat) 8) * v2) * v2))) : CJ G m_SC_priceOf [O 1, I v1, I v2] σ (fun r u => r = ((σ.1 (176 + v1.toNat) 5) + (((σ.1 (176 + v1.toNat) 8) * v2) * v2)) ∧ u = σ) := by
  refine CJ.intro (by decide) (by simp [catA]; decide) (fun _ => k_SC_priceOf_0  ?_)
  refine ⟨by first | assumption | omega | grind, ?_⟩
  refine ⟨by first | assumption | omega | grind, ?_⟩
  exact ⟨by first | rfl | grind, rfl⟩
def tb_FI_offer : List (Nat × Instr × Nat) := [(0, .aload_n 0, 1), (1, .getfield 13, 3), (4, .iload_n 1, 1), (5, .aaload, 1), (6, .astore 5, 2), (8, .aload_n 0, 1), (9, .getfield 13, 3), (12, .iload_n 2, 1), (13, .aaload, 1), (14, .astore 6, 2), (16, .aload_n 0, 1), (17, .getfield 20, 3), (20, .iload_n 2, 1), (21, .iaload, 1), (22, .aload_n 0, 1), (23, .getfield 27, 3), (26, .iload_n 3, 1), (27, .isub, 1), (28, .invokestatic 132, 3), (31, .istore 7, 2), (33, .aload_n 0, 1), (34, .getfield 16, 3), (37, .iload_n 2, 1), (38, .iaload, 1), (39, .istore 8, 2), (41, .iload 8, 2), (43, .iload 7, 2), (45, .if_icmp .le 4, 3), (48, .return_, 1), (49, .iload 8, 2), (51, .istore 9, 2), (53, .iload 9, 2), (55, .iload 7, 2), (57, .if_icmp .gt 40, 3), (60, .aload 6, 2), (62, .iload 9, 2), (64, .iaload, 1), (65, .iload 4, 2), (67, .iadd, 1), (68, .istore 10, 2), (70, .iload 10, 2), (72, .aload 5, 2), (74, .iload 9, 2), (76, .iload_n 3, 1), (77, .iadd, 1), (78, .iaload, 1), (79, .if_icmp .ge 12, 3), (82, .aload 5, 2), (84, .iload 9, 2), (86, .iload_n 3, 1), (87, .iadd, 1), (88, .iload 10, 2), (90, .iastore, 1), (91, .iinc 9 1, 3), (94, .goto (-41), 3), (97, .aload_n 0, 1), (98, .getfield 16, 3), (101, .iload_n 1, 1), (102, .aload_n 0, 1), (103, .getfield 16, 3), (106, .iload_n 1, 1), (107, .iaload, 1), (108, .iload 8, 2), (110, .iload_n 3, 1), (111, .iadd, 1), (112, .invokestatic 132, 3), (115, .iastore, 1), (116, .aload_n 0, 1), (117, .getfield 20, 3), (120, .iload_n 1, 1), (121, .aload_n 0, 1), (122, .getfield 20, 3), (125, .iload_n 1, 1), (126, .iaload, 1), (127, .iload 7, 2), (129, .iload_n 3, 1), (130, .iadd, 1), (131, .invokestatic 137, 3), (134, .iastore, 1), (135, .return_, 1)]
theorem dt_FI_offer : DT (cM m_FI_offer) tb_FI_offer := by unfold DT; decide +kernel
abbrev a_FI_offer_0 (G : GT)  (v1 : Int) (v2 : Int) (v3 : Int) (v4 : Int) (σ : St) (P : Int → St → Prop) : Prop := A G m_FI_offer 0 [(0, O 5), (1, I v1), (2, I v2), (3, I v3), (4, I v4)] [] σ P
abbrev a_FI_offer_53 (G : GT)  (v1 : Int) (v3 : Int) (v4 : Int) (k5 : Nat) (k6 : Nat) (v7 : Int) (v8 : Int) (v9 : Int) (σ : St) (P : Int → St → Prop) : Prop := A G m_FI_offer 53 [(0, O 5), (1, I v1), (3, I v3), (4, I v4), (5, O k5), (6, O k6), (7, I v7), (8, I v8), (9, I v9)] [] σ P
set_option maxRecDepth 20000 in
theorem k_FI_offer_0 {G : GT} {σ : St} {P : Int → St → Prop}  {v1 : Int} {v2 : Int} {v3 : Int} {v4 : Int}  
    (h : (0 ≤ v1 ∧ v1 < 243) ∧ (0 ≤ v2 ∧ v2 < 243) ∧ rng ((σ.2.1 5 6) - v3) ∧ rng (min (σ.1 76 v2.toNat) ((σ.2.1 5 6) - v3)) ∧ (σ.1 75 v2.toNat ≤ min (σ.1 76 v2.toNat) ((σ.2.1 5 6) - v3) → a_FI_offer_53 G v1 v3 v4 (376 + v1.toNat) (376 + v2.toNat) (min (σ.1 76 v2.toNat) ((σ.2.1 5 6) - v3)) (σ.1 75 v2.toNat) (σ.1 75 v2.toNat) σ P) ∧ (min (σ.1 76 v2.toNat) ((σ.2.1 5 6) - v3) < σ.1 75 v2.toNat → P 0 σ)) :
    a_FI_offer_0 G v1 v2 v3 v4 σ P := by
  refine r_aload_n (q := 1) (dc dt_FI_offer 0 rfl) rfl rfl 0 rfl ?_
  refine r_getO (q := 4) (v := 74) fl_FI_13 (dc dt_FI_offer 1 rfl) rfl ly5 rfl ?_
  refine r_iload_n (q := 5) (dc dt_FI_offer 2 rfl) rfl rfl 1 rfl ?_
  obtain ⟨o1, h⟩ := h
  refine r_aald (q := 6) (dc dt_FI_offer 3 rfl) rfl ly74 o1 rfl ?_
  refine r_astore (q := 8) (dc dt_FI_offer 4 rfl) rfl (by decide) rfl ?_
  refine r_aload_n (q := 9) (dc dt_FI_offer 5 rfl) rfl rfl 1 rfl ?_
  refine r_getO (q := 12) (v := 74) fl_FI_13 (dc dt_FI_offer 6 rfl) rfl ly5 rfl ?_
  refine r_iload_n (q := 13) (dc dt_FI_offer 7 rfl) rfl rfl 3 rfl ?_
  obtain ⟨o2, h⟩ := h
  refine r_aald (q := 14) (dc dt_FI_offer 8 rfl) rfl ly74 o2 rfl ?_
  refine r_astore (q := 16) (dc dt_FI_offer 9 rfl) rfl (by decide) rfl ?_
  refine r_aload_n (q := 17) (dc dt_FI_offer 10 rfl) rfl rfl 2 rfl ?_
  refine r_getO (q := 20) (v := 76) fl_FI_20 (dc dt_FI_offer 11 rfl) rfl ly5 rfl ?_
  refine r_iload_n (q := 21) (dc dt_FI_offer 12 rfl) rfl rfl 4 rfl ?_
  refine r_iald (q := 22) (v := σ.1 76 v2.toNat) (dc dt_FI_offer 13 rfl) rfl ly76 o2 rfl (fun g3 => ?_)
  refine r_aload_n (q := 23) (dc dt_FI_offer 14 rfl) rfl rfl 2 rfl ?_
  refine r_getI (q := 26) (v := σ.2.1 5 6) fl_FI_27 (dc dt_FI_offer 15 rfl) rfl ly5 rfl rfl (fun g4 => ?_)
  refine r_iload_n (q := 27) (dc dt_FI_offer 16 rfl) rfl rfl 5 rfl ?_
  refine r_isub (q := 28) (dc dt_FI_offer 17 rfl) rfl ?_
  obtain ⟨o5, h⟩ := h
  refine r_mmin (q := 31) lm_FI_132 (by decide) (dc dt_FI_offer 18 rfl) rfl (by simp [catA]; decide) g3 o5 ?_
  refine r_istore (q := 33) (dc dt_FI_offer 19 rfl) rfl (by decide) rfl ?_
  refine r_aload_n (q := 34) (dc dt_FI_offer 20 rfl) rfl rfl 3 rfl ?_
  refine r_getO (q := 37) (v := 75) fl_FI_16 (dc dt_FI_offer 21 rfl) rfl ly5 rfl ?_
  refine r_iload_n (q := 38) (dc dt_FI_offer 22 rfl) rfl rfl 5 rfl ?_
  refine r_iald (q := 39) (v := σ.1 75 v2.toNat) (dc dt_FI_offer 23 rfl) rfl ly75 o2 rfl (fun g6 => ?_)
  refine r_istore (q := 41) (dc dt_FI_offer 24 rfl) rfl (by decide) rfl ?_
  refine r_iload (q := 43) (dc dt_FI_offer 25 rfl) rfl 0 rfl ?_
  refine r_iload (q := 45) (dc dt_FI_offer 26 rfl) rfl 1 rfl ?_
  obtain ⟨o7, h⟩ := h
  refine r_icmp_le (q := 48) (t := 49) (dc dt_FI_offer 27 rfl) rfl (by decide) g6 o7 (fun q_ => ?_) (fun q_ => ?_)
  · have h := h.1 q_
    refine r_iload (q := 51) (dc dt_FI_offer 29 rfl) rfl 0 rfl ?_
    refine r_istore (q := 53) (dc dt_FI_offer 30 rfl) rfl (by decide) rfl ?_
    exact r_loc [5, 6, 8, 9, 4, 3, 2, 1, 0] rfl h
  · have h := h.2 q_
    exact r_vret rfl (dc dt_FI_offer 28 rfl) h
set_option maxRecDepth 20000 in
theorem k_FI_offer_53 {G : GT} {σ : St} {P : Int → St → Prop}  {v1 : Int} {v3 : Int} {v4 : Int} {k5 : Nat} {k6 : Nat} {v7 : Int} {v8 : Int} {v9 : Int}  (g5 : lyt k5 = (1, 301)) (g6 : lyt k6 = (1, 301))
    (h : rng v9 ∧ rng v7 ∧ (v7 < v9 → (0 ≤ v1 ∧ v1 < 243) ∧ rng (v8 + v3) ∧ rng (min (σ.1 75 v1.toNat) (v8 + v3)) ∧ (∀ σ19, σ19 = sa σ 75 v1.toNat (min (σ.1 75 v1.toNat) (v8 + v3)) → rng (v7 + v3) ∧ rng (max (σ.1 76 v1.toNat) (v7 + v3)) ∧ (∀ σ24, σ24 = sa σ19 76 v1.toNat (max (σ.1 76 v1.toNat) (v7 + v3)) → P 0 σ24))) ∧ (v9 ≤ v7 → (0 ≤ v9 ∧ v9 < 301) ∧ (0 ≤ v9 + v3 ∧ v9 + v3 < 301) ∧ rng ((σ.1 k6 v9.toNat) + v4) ∧ (σ.1 k5 ((v9 + v3).toNat) ≤ (σ.1 k6 v9.toNat) + v4 → a_FI_offer_53 G v1 v3 v4 k5 k6 v7 v8 (v9 + 1) σ P) ∧ ((σ.1 k6 v9.toNat) + v4 < σ.1 k5 ((v9 + v3).toNat) → (∀ σ31, σ31 = sa σ k5 ((v9 + v3).toNat) ((σ.1 k6 v9.toNat) + v4) → a_FI_offer_53 G v1 v3 v4 k5 k6 v7 v8 (v9 + 1) σ31 P)))) :
    a_FI_offer_53 G v1 v3 v4 k5 k6 v7 v8 v9 σ P := by
  refine r_iload (q := 55) (dc dt_FI_offer 31 rfl) rfl 8 rfl ?_
  refine r_iload (q := 57) (dc dt_FI_offer 32 rfl) rfl 6 rfl ?_
  obtain ⟨o8, h⟩ := h
  obtain ⟨o9, h⟩ := h
  refine r_icmp_gt (q := 60) (t := 97) (dc dt_FI_offer 33 rfl) rfl (by decide) o8 o9 (fun q_ => ?_) (fun q_ => ?_)
  · have h := h.1 q_
    refine r_aload_n (q := 98) (dc dt_FI_offer 55 rfl) rfl rfl 0 rfl ?_
    refine r_getO (q := 101) (v := 75) fl_FI_16 (dc dt_FI_offer 56 rfl) rfl ly5 rfl ?_
    refine r_iload_n (q := 102) (dc dt_FI_offer 57 rfl) rfl rfl 1 rfl ?_
    refine r_aload_n (q := 103) (dc dt_FI_offer 58 rfl) rfl rfl 0 rfl ?_
    refine r_getO (q := 106) (v := 75) fl_FI_16 (dc dt_FI_offer 59 rfl) rfl ly5 rfl ?_
    refine r_iload_n (q := 107) (dc dt_FI_offer 60 rfl) rfl rfl 1 rfl ?_
    obtain ⟨o15, h⟩ := h
    refine r_iald (q := 108) (v := σ.1 75 v1.toNat) (dc dt_FI_offer 61 rfl) rfl ly75 o15 rfl (fun g16 => ?_)
    refine r_iload (q := 110) (dc dt_FI_offer 62 rfl) rfl 7 rfl ?_
    refine r_iload_n (q := 111) (dc dt_FI_offer 63 rfl) rfl rfl 2 rfl ?_
    refine r_iadd (q := 112) (dc dt_FI_offer 64 rfl) rfl ?_
    obtain ⟨o17, h⟩ := h
    refine r_mmin (q := 115) lm_FI_132 (by decide) (dc dt_FI_offer 65 rfl) rfl (by simp [catA]; decide) g16 o17 ?_
    obtain ⟨o18, h⟩ := h
    refine r_iast (q := 116) (dc dt_FI_offer 66 rfl) rfl ly75 o15 o18 (fun σ19 e20 => ?_)
    have h := h σ19 e20
    refine r_aload_n (q := 117) (dc dt_FI_offer 67 rfl) rfl rfl 0 rfl ?_
    refine r_getO (q := 120) (v := 76) fl_FI_20 (dc dt_FI_offer 68 rfl) rfl ly5 rfl ?_
    refine r_iload_n (q := 121) (dc dt_FI_offer 69 rfl) rfl rfl 1 rfl ?_
    refine r_aload_n (q := 122) (dc dt_FI_offer 70 rfl) rfl rfl 0 rfl ?_
    refine r_getO (q := 125) (v := 76) fl_FI_20 (dc dt_FI_offer 71 rfl) rfl ly5 rfl ?_
    refine r_iload_n (q := 126) (dc dt_FI_offer 72 rfl) rfl rfl 1 rfl ?_
    refine r_iald (q := 127) (v := σ.1 76 v1.toNat) (dc dt_FI_offer 73 rfl) rfl ly76 o15 (by rw [e20]; rfl) (fun g21 => ?_)
    refine r_iload (q := 129) (dc dt_FI_offer 74 rfl) rfl 6 rfl ?_
    refine r_iload_n (q := 130) (dc dt_FI_offer 75 rfl) rfl rfl 2 rfl ?_
    refine r_iadd (q := 131) (dc dt_FI_offer 76 rfl) rfl ?_
    obtain ⟨o22, h⟩ := h
    refine r_mmax (q := 134) lm_FI_137 (by decide) (dc dt_FI_offer 77 rfl) rfl (by simp [catA]; decide) g21 o22 ?_
    obtain ⟨o23, h⟩ := h
    refine r_iast (q := 135) (dc dt_FI_offer 78 rfl) rfl ly76 o15 o23 (fun σ24 e25 => ?_)
    have h := h σ24 e25
    exact r_vret rfl (dc dt_FI_offer 79 rfl) h
  · have h := h.2 q_
    refine r_aload (q := 62) (dc dt_FI_offer 34 rfl) rfl 5 rfl ?_
    refine r_iload (q := 64) (dc dt_FI_offer 35 rfl) rfl 8 rfl ?_
    obtain ⟨o26, h⟩ := h
    refine r_iald (q := 65) (v := σ.1 k6 v9.toNat) (dc dt_FI_offer 36 rfl) rfl g6 o26 rfl (fun g27 => ?_)
    refine r_iload (q := 67) (dc dt_FI_offer 37 rfl) rfl 3 rfl ?_
    refine r_iadd (q := 68) (dc dt_FI_offer 38 rfl) rfl ?_
    refine r_istore (q := 70) (dc dt_FI_offer 39 rfl) rfl (by decide) rfl ?_
    refine r_iload (q := 72) (dc dt_FI_offer 40 rfl) rfl 0 rfl ?_
    refine r_aload (q := 74) (dc dt_FI_offer 41 rfl) rfl 5 rfl ?_
    refine r_iload (q := 76) (dc dt_FI_offer 42 rfl) rfl 9 rfl ?_
    refine r_iload_n (q := 77) (dc dt_FI_offer 43 rfl) rfl rfl 3 rfl ?_
    refine r_iadd (q := 78) (dc dt_FI_offer 44 rfl) rfl ?_
    obtain ⟨o28, h⟩ := h
    refine r_iald (q := 79) (v := σ.1 k5 ((v9 + v3).toNat)) (dc dt_FI_offer 45 rfl) rfl g5 o28 rfl (fun g29 => ?_)
    obtain ⟨o30, h⟩ := h
    refine r_icmp_ge (q := 82) (t := 91) (dc dt_FI_offer 46 rfl) rfl (by decide) o30 g29 (fun q_ => ?_) (fun q_ => ?_)
    · have h := h.1 q_
      refine r_iinc (q := 94) (k := 9) (dc dt_FI_offer 53 rfl) rfl rfl (by decide) rfl ?_
      refine r_goto (q := 53) (dc dt_FI_offer 54 rfl) (by decide) ?_
      exact r_loc [2, 3, 4, 5, 6, 7, 8, 9, 0] rfl h
    · have h := h.2 q_
      refine r_aload (q := 84) (dc dt_FI_offer 47 rfl) rfl 5 rfl ?_
      refine r_iload (q := 86) (dc dt_FI_offer 48 rfl) rfl 9 rfl ?_
      refine r_iload_n (q := 87) (dc dt_FI_offer 49 rfl) rfl rfl 3 rfl ?_
      refine r_iadd (q := 88) (dc dt_FI_offer 50 rfl) rfl ?_
      refine r_iload (q := 90) (dc dt_FI_offer 51 rfl) rfl 0 rfl ?_
      refine r_iast (q := 91) (dc dt_FI_offer 52 rfl) rfl g5 o28 o30 (fun σ31 e32 => ?_)
      have h := h σ31 e32
      refine r_iinc (q := 94) (k := 9) (dc dt_FI_offer 53 rfl) rfl rfl (by decide) rfl ?_
      refine r_goto (q := 53) (dc dt_FI_offer 54 rfl) (by decide) ?_
      exact r_loc [2, 3, 4, 5, 6, 7, 8, 9, 0] rfl h
