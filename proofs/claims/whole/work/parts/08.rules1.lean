theorem fl_JS_10 : FL R_JS 10 0 0 := FL.of rfl (by decide) rfl 533 (by decide +kernel)
theorem fl_JS_101 : FL R_JS 101 1 0 := FL.of rfl (by decide) rfl 102 (by decide +kernel)
theorem fl_JS_116 : FL R_JS 116 1 1 := FL.of rfl (by decide) rfl 104 (by decide +kernel)
theorem fl_JS_137 : FL R_JS 137 1 2 := FL.of rfl (by decide) rfl 107 (by decide +kernel)
theorem fl_JS_147 : FL R_JS 147 1 10 := FL.of rfl (by decide) rfl 132 (by decide +kernel)
theorem fl_JS_157 : FL R_JS 157 1 6 := FL.of rfl (by decide) rfl 121 (by decide +kernel)
theorem fl_JS_161 : FL R_JS 161 2 0 := FL.of rfl (by decide) rfl 174 (by decide +kernel)
theorem fl_JS_167 : FL R_JS 167 1 3 := FL.of rfl (by decide) rfl 111 (by decide +kernel)
theorem fl_JS_19 : FL R_JS 19 0 1 := FL.of rfl (by decide) rfl 534 (by decide +kernel)
theorem fl_JS_76 : FL R_JS 76 0 9 := FL.of rfl (by decide) rfl 542 (by decide +kernel)
theorem fl_SC_15 : FL R_SC 15 1 1 := FL.of rfl (by decide) rfl 103 (by decide +kernel)
theorem fl_SC_18 : FL R_SC 18 1 2 := FL.of rfl (by decide) rfl 106 (by decide +kernel)
theorem fl_SC_21 : FL R_SC 21 1 3 := FL.of rfl (by decide) rfl 108 (by decide +kernel)
theorem fl_SC_25 : FL R_SC 25 1 4 := FL.of rfl (by decide) rfl 112 (by decide +kernel)
theorem fl_SC_28 : FL R_SC 28 1 5 := FL.of rfl (by decide) rfl 113 (by decide +kernel)
theorem fl_SC_35 : FL R_SC 35 1 7 := FL.of rfl (by decide) rfl 123 (by decide +kernel)
theorem fl_SC_40 : FL R_SC 40 1 8 := FL.of rfl (by decide) rfl 125 (by decide +kernel)
theorem fl_SC_43 : FL R_SC 43 1 9 := FL.of rfl (by decide) rfl 127 (by decide +kernel)
theorem fl_SC_46 : FL R_SC 46 1 10 := FL.of rfl (by decide) rfl 129 (by decide +kernel)
theorem fl_SC_49 : FL R_SC 49 1 11 := FL.of rfl (by decide) rfl 135 (by decide +kernel)
theorem fl_SC_52 : FL R_SC 52 1 12 := FL.of rfl (by decide) rfl 136 (by decide +kernel)
theorem fl_SC_9 : FL R_SC 9 1 0 := FL.of rfl (by decide) rfl 101 (by decide +kernel)
theorem fl_TY_15 : FL R_TY 15 2 1 := FL.of rfl (by decide) rfl 175 (by decide +kernel)
theorem fl_TY_18 : FL R_TY 18 2 2 := FL.of rfl (by decide) rfl 177 (by decide +kernel)
theorem fl_TY_22 : FL R_TY 22 2 3 := FL.of rfl (by decide) rfl 181 (by decide +kernel)
theorem fl_TY_25 : FL R_TY 25 2 4 := FL.of rfl (by decide) rfl 182 (by decide +kernel)
theorem fl_TY_28 : FL R_TY 28 2 5 := FL.of rfl (by decide) rfl 183 (by decide +kernel)
theorem fl_TY_9 : FL R_TY 9 2 0 := FL.of rfl (by decide) rfl 172 (by decide +kernel)
theorem lm_JS_104 : Cond.methodLink R_JS 104 (yM m_SC_addLetter) ∈ gt := gt_at 589 (by decide +kernel) rfl
theorem lm_JS_108 : Cond.methodLink R_JS 108 (yM m_SC_knows) ∈ gt := gt_at 597 (by decide +kernel) rfl
theorem lm_JS_112 : Cond.methodLink R_JS 112 (yM m_SC_canJoinUp) ∈ gt := gt_at 604 (by decide +kernel) rfl
theorem lm_JS_119 : Cond.methodLink R_JS 119 (yM m_SC_hasLigature) ∈ gt := gt_at 612 (by decide +kernel) rfl
theorem lm_JS_122 : Cond.methodLink R_JS 122 (yM m_SC_addLigature) ∈ gt := gt_at 616 (by decide +kernel) rfl
theorem lm_JS_126 : Cond.methodLink R_JS 126 (yM m_JS_wholeWidth) ∈ gt := gt_at 625 (by decide +kernel) rfl
theorem lm_JS_130 : Cond.methodLink R_JS 130 (yM m_SC_canHave) ∈ gt := gt_at 631 (by decide +kernel) rfl
theorem lm_JS_134 : Cond.methodLink R_JS 134 (yM m_JS_within) ∈ gt := gt_at 628 (by decide +kernel) rfl
theorem lm_JS_140 : Cond.methodLink R_JS 140 (yM m_SC_formsOf) ∈ gt := gt_at 635 (by decide +kernel) rfl
theorem lm_JS_144 : Cond.methodLink R_JS 144 (yM m_SC_addForm) ∈ gt := gt_at 639 (by decide +kernel) rfl
theorem lm_JS_151 : Cond.methodLink R_JS 151 (yM m_SC_knowsForm) ∈ gt := gt_at 647 (by decide +kernel) rfl
theorem lm_JS_154 : Cond.methodLink R_JS 154 (yM m_SC_isMark) ∈ gt := gt_at 651 (by decide +kernel) rfl
theorem lm_JS_164 : Cond.methodLink R_JS 164 (yM m_JS_insert) ∈ gt := gt_at 671 (by decide +kernel) rfl
theorem lm_JS_171 : Cond.methodLink R_JS 171 (yM m_TY_putIn) ∈ gt := gt_at 675 (by decide +kernel) rfl
theorem lm_JS_175 : Cond.methodLink R_JS 175 (yM m_TY_remember) ∈ gt := gt_at 679 (by decide +kernel) rfl
theorem lm_JS_178 : Cond.methodLink R_JS 178 (yM m_TY_has) ∈ gt := gt_at 691 (by decide +kernel) rfl
theorem lm_JS_181 : Cond.methodLink R_JS 181 (yM m_TY_takeOut) ∈ gt := gt_at 696 (by decide +kernel) rfl
theorem lm_SC_55 : Cond.methodLinkNest R_SC 55 (yM m_JS_within) "JoinSetter" ∈ nestW := by simp [nestW]
theorem lm_SC_59 : Cond.methodLink R_SC 59 (yM m_SC_joinsBack) ∈ gt := gt_at 608 (by decide +kernel) rfl
theorem lm_SC_63 : Cond.methodLink R_SC 63 (yM m_SC_addLetter) ∈ gt := gt_at 620 (by decide +kernel) rfl
theorem lm_TY_31 : Cond.methodLinkNest R_TY 31 (yM m_JS_within) "JoinSetter" ∈ nestW := by simp [nestW]
theorem lm_TY_41 : Cond.methodLink R_TY 41 (yM m_TY_takeOut) ∈ gt := gt_at 708 (by decide +kernel) rfl
theorem lm_TY_45 : Cond.methodLink R_TY 45 (yM m_TY_putIn) ∈ gt := gt_at 709 (by decide +kernel) rfl
theorem lm_TY_35 : Cond.methodLink R_TY 35 Lib.Math.min.name ∈ gt := gt_at 683 (by decide +kernel) rfl
theorem mk_SC_addForm : MKV m_SC_addForm 1 2 := ⟨⟨gt_at 642 (by decide +kernel) rfl, gt_at 72 (by decide +kernel) rfl, by decide +kernel, by decide +kernel, by decide +kernel⟩, gt_at 640 (by decide +kernel) rfl, gt_at 641 (by decide +kernel) rfl, _, _, rfl⟩
theorem mk_SC_addLetter : MKV m_SC_addLetter 1 3 := ⟨⟨gt_at 592 (by decide +kernel) rfl, gt_at 72 (by decide +kernel) rfl, by decide +kernel, by decide +kernel, by decide +kernel⟩, gt_at 590 (by decide +kernel) rfl, gt_at 591 (by decide +kernel) rfl, _, _, rfl⟩
theorem mk_SC_addLigature : MKV m_SC_addLigature 1 4 := ⟨⟨gt_at 619 (by decide +kernel) rfl, gt_at 72 (by decide +kernel) rfl, by decide +kernel, by decide +kernel, by decide +kernel⟩, gt_at 617 (by decide +kernel) rfl, gt_at 618 (by decide +kernel) rfl, _, _, rfl⟩
theorem mk_SC_canHave : MKV m_SC_canHave 1 2 := ⟨⟨gt_at 634 (by decide +kernel) rfl, gt_at 72 (by decide +kernel) rfl, by decide +kernel, by decide +kernel, by decide +kernel⟩, gt_at 632 (by decide +kernel) rfl, gt_at 633 (by decide +kernel) rfl, _, _, rfl⟩
theorem mk_SC_canJoinUp : MKV m_SC_canJoinUp 1 3 := ⟨⟨gt_at 607 (by decide +kernel) rfl, gt_at 72 (by decide +kernel) rfl, by decide +kernel, by decide +kernel, by decide +kernel⟩, gt_at 605 (by decide +kernel) rfl, gt_at 606 (by decide +kernel) rfl, _, _, rfl⟩
theorem mk_SC_formsOf : MKV m_SC_formsOf 1 2 := ⟨⟨gt_at 638 (by decide +kernel) rfl, gt_at 72 (by decide +kernel) rfl, by decide +kernel, by decide +kernel, by decide +kernel⟩, gt_at 636 (by decide +kernel) rfl, gt_at 637 (by decide +kernel) rfl, _, _, rfl⟩
theorem mk_SC_hasLigature : MKV m_SC_hasLigature 1 3 := ⟨⟨gt_at 615 (by decide +kernel) rfl, gt_at 72 (by decide +kernel) rfl, by decide +kernel, by decide +kernel, by decide +kernel⟩, gt_at 613 (by decide +kernel) rfl, gt_at 614 (by decide +kernel) rfl, _, _, rfl⟩
theorem mk_SC_isMark : MKV m_SC_isMark 1 1 := ⟨⟨gt_at 654 (by decide +kernel) rfl, gt_at 72 (by decide +kernel) rfl, by decide +kernel, by decide +kernel, by decide +kernel⟩, gt_at 652 (by decide +kernel) rfl, gt_at 653 (by decide +kernel) rfl, _, _, rfl⟩
theorem mk_SC_joinsBack : MKV m_SC_joinsBack 1 1 := ⟨⟨gt_at 611 (by decide +kernel) rfl, gt_at 72 (by decide +kernel) rfl, by decide +kernel, by decide +kernel, by decide +kernel⟩, gt_at 609 (by decide +kernel) rfl, gt_at 610 (by decide +kernel) rfl, _, _, rfl⟩
theorem mk_SC_knows : MKV m_SC_knows 1 1 := ⟨⟨gt_at 600 (by decide +kernel) rfl, gt_at 72 (by decide +kernel) rfl, by decide +kernel, by decide +kernel, by decide +kernel⟩, gt_at 598 (by decide +kernel) rfl, gt_at 599 (by decide +kernel) rfl, _, _, rfl⟩
theorem mk_SC_knowsForm : MKV m_SC_knowsForm 1 1 := ⟨⟨gt_at 650 (by decide +kernel) rfl, gt_at 72 (by decide +kernel) rfl, by decide +kernel, by decide +kernel, by decide +kernel⟩, gt_at 648 (by decide +kernel) rfl, gt_at 649 (by decide +kernel) rfl, _, _, rfl⟩
theorem mk_TY_has : MKV m_TY_has 2 1 := ⟨⟨gt_at 694 (by decide +kernel) rfl, gt_at 73 (by decide +kernel) rfl, by decide +kernel, by decide +kernel, by decide +kernel⟩, gt_at 692 (by decide +kernel) rfl, gt_at 693 (by decide +kernel) rfl, _, _, rfl⟩
theorem mk_TY_putIn : MKV m_TY_putIn 2 2 := ⟨⟨gt_at 678 (by decide +kernel) rfl, gt_at 73 (by decide +kernel) rfl, by decide +kernel, by decide +kernel, by decide +kernel⟩, gt_at 676 (by decide +kernel) rfl, gt_at 677 (by decide +kernel) rfl, _, _, rfl⟩
theorem mk_TY_remember : MKV m_TY_remember 2 2 := ⟨⟨gt_at 682 (by decide +kernel) rfl, gt_at 73 (by decide +kernel) rfl, by decide +kernel, by decide +kernel, by decide +kernel⟩, gt_at 680 (by decide +kernel) rfl, gt_at 681 (by decide +kernel) rfl, _, _, rfl⟩
theorem mk_TY_takeOut : MKV m_TY_takeOut 2 1 := ⟨⟨gt_at 699 (by decide +kernel) rfl, gt_at 73 (by decide +kernel) rfl, by decide +kernel, by decide +kernel, by decide +kernel⟩, gt_at 697 (by decide +kernel) rfl, gt_at 698 (by decide +kernel) rfl, _, _, rfl⟩
theorem mk_JS_insert : MKV m_JS_insert 0 2 := ⟨⟨gt_at 674 (by decide +kernel) rfl, gt_at 71 (by decide +kernel) rfl, by decide +kernel, by decide +kernel, by decide +kernel⟩, gt_at 672 (by decide +kernel) rfl, gt_at 673 (by decide +kernel) rfl, _, _, rfl⟩
theorem mk_JS_wholeWidth : MKS m_JS_wholeWidth 1 := ⟨⟨gt_at 627 (by decide +kernel) rfl, gt_at 71 (by decide +kernel) rfl, by decide +kernel, by decide +kernel, by decide +kernel⟩, gt_at 626 (by decide +kernel) rfl⟩
theorem mk_JS_within : MKS m_JS_within 3 := ⟨⟨gt_at 603 (by decide +kernel) rfl, gt_at 71 (by decide +kernel) rfl, by decide +kernel, by decide +kernel, by decide +kernel⟩, gt_at 602 (by decide +kernel) rfl⟩
theorem pf_0_9 : ∀ C T N, classes[0]? = some (C, T, N) → (T 9).2.2.2 = false := fun _ _ _ h => by cases h; rfl
theorem pf_1_0 : ∀ C T N, classes[1]? = some (C, T, N) → (T 0).2.2.2 = false := fun _ _ _ h => by cases h; rfl
theorem pf_1_1 : ∀ C T N, classes[1]? = some (C, T, N) → (T 1).2.2.2 = false := fun _ _ _ h => by cases h; rfl
theorem pf_1_2 : ∀ C T N, classes[1]? = some (C, T, N) → (T 2).2.2.2 = false := fun _ _ _ h => by cases h; rfl
theorem pf_2_0 : ∀ C T N, classes[2]? = some (C, T, N) → (T 0).2.2.2 = false := fun _ _ _ h => by cases h; rfl
theorem pf_2_1 : ∀ C T N, classes[2]? = some (C, T, N) → (T 1).2.2.2 = false := fun _ _ _ h => by cases h; rfl
theorem pf_2_3 : ∀ C T N, classes[2]? = some (C, T, N) → (T 3).2.2.2 = false := fun _ _ _ h => by cases h; rfl
def tb_SC_addLetter : List (Nat × Instr × Nat) := [(0, .aload_n 0, 1), (1, .getfield 9, 3), (4, .istore 4, 2), (6, .aload_n 0, 1), (7, .getfield 21, 3), (10, .iload 4, 2), (12, .iload_n 1, 1), (13, .iastore, 1), (14, .aload_n 0, 1), (15, .getfield 25, 3), (18, .iload 4, 2), (20, .iload_n 2, 1), (21, .iastore, 1), (22, .aload_n 0, 1), (23, .getfield 28, 3), (26, .iload 4, 2), (28, .iload_n 3, 1), (29, .iastore, 1), (30, .aload_n 0, 1), (31, .dup, 1), (32, .getfield 9, 3), (35, .iconst 1, 1), (36, .iadd, 1), (37, .putfield 9, 3), (40, .iload 4, 2), (42, .ireturn, 1)]
theorem dt_SC_addLetter : DT (cM m_SC_addLetter) tb_SC_addLetter := by unfold DT; decide +kernel
abbrev a_SC_addLetter_0 (G : GT)  (v1 : Int) (v2 : Int) (v3 : Int) (σ : St) (P : Int → St → Prop) : Prop := A G m_SC_addLetter 0 [(0, O 1), (1, I v1), (2, I v2), (3, I v3)] [] σ P
set_option maxRecDepth 20000 in
theorem k_SC_addLetter_0 {G : GT} {σ : St} {P : Int → St → Prop}  {v1 : Int} {v2 : Int} {v3 : Int}  
    (h : (0 ≤ σ.2.1 1 0 ∧ σ.2.1 1 0 < 60) ∧ rng v1 ∧ (∀ σ4, σ4 = sa σ 47 ((σ.2.1 1 0).toNat) v1 → rng v2 ∧ (∀ σ7, σ7 = sa σ4 48 ((σ.2.1 1 0).toNat) v2 → rng v3 ∧ (∀ σ10, σ10 = sa σ7 49 ((σ.2.1 1 0).toNat) v3 → rng ((σ.2.1 1 0) + 1) ∧ (∀ σ13, σ13 = sf σ10 1 0 ((σ.2.1 1 0) + 1) → P (σ.2.1 1 0) σ13))))) :
    a_SC_addLetter_0 G v1 v2 v3 σ P := by
  refine r_aload_n (q := 1) (dc dt_SC_addLetter 0 rfl) rfl rfl 0 rfl ?_
  refine r_getI (q := 4) (v := σ.2.1 1 0) fl_SC_9 (dc dt_SC_addLetter 1 rfl) rfl ly1 rfl rfl (fun g1 => ?_)
  refine r_istore (q := 6) (dc dt_SC_addLetter 2 rfl) rfl (by decide) rfl ?_
  refine r_aload_n (q := 7) (dc dt_SC_addLetter 3 rfl) rfl rfl 1 rfl ?_
  refine r_getO (q := 10) (v := 47) fl_SC_21 (dc dt_SC_addLetter 4 rfl) rfl ly1 rfl ?_
  refine r_iload (q := 12) (dc dt_SC_addLetter 5 rfl) rfl 0 rfl ?_
  refine r_iload_n (q := 13) (dc dt_SC_addLetter 6 rfl) rfl rfl 2 rfl ?_
  obtain ⟨o2, h⟩ := h
  obtain ⟨o3, h⟩ := h
  refine r_iast (q := 14) (dc dt_SC_addLetter 7 rfl) rfl ly47 o2 o3 (fun σ4 e5 => ?_)
  have h := h σ4 e5
  refine r_aload_n (q := 15) (dc dt_SC_addLetter 8 rfl) rfl rfl 1 rfl ?_
  refine r_getO (q := 18) (v := 48) fl_SC_25 (dc dt_SC_addLetter 9 rfl) rfl ly1 rfl ?_
  refine r_iload (q := 20) (dc dt_SC_addLetter 10 rfl) rfl 0 rfl ?_
  refine r_iload_n (q := 21) (dc dt_SC_addLetter 11 rfl) rfl rfl 3 rfl ?_
  obtain ⟨o6, h⟩ := h
  refine r_iast (q := 22) (dc dt_SC_addLetter 12 rfl) rfl ly48 o2 o6 (fun σ7 e8 => ?_)
  have h := h σ7 e8
  refine r_aload_n (q := 23) (dc dt_SC_addLetter 13 rfl) rfl rfl 1 rfl ?_
  refine r_getO (q := 26) (v := 49) fl_SC_28 (dc dt_SC_addLetter 14 rfl) rfl ly1 rfl ?_
  refine r_iload (q := 28) (dc dt_SC_addLetter 15 rfl) rfl 0 rfl ?_
  refine r_iload_n (q := 29) (dc dt_SC_addLetter 16 rfl) rfl rfl 4 rfl ?_
  obtain ⟨o9, h⟩ := h
  refine r_iast (q := 30) (dc dt_SC_addLetter 17 rfl) rfl ly49 o2 o9 (fun σ10 e11 => ?_)
  have h := h σ10 e11
  refine r_aload_n (q := 31) (dc dt_SC_addLetter 18 rfl) rfl rfl 1 rfl ?_
  refine r_dupo (q := 32) (dc dt_SC_addLetter 19 rfl) rfl ?_
  refine r_getI (q := 35) (v := σ.2.1 1 0) fl_SC_9 (dc dt_SC_addLetter 20 rfl) rfl ly1 rfl (by rw [e11, e8, e5]; rfl) (fun g12 => ?_)
  refine r_iconst (q := 36) (dc dt_SC_addLetter 21 rfl) rfl rfl ?_
  refine r_iadd (q := 37) (dc dt_SC_addLetter 22 rfl) rfl ?_
  obtain ⟨o15, h⟩ := h
  refine r_put (q := 40) fl_SC_9 (dc dt_SC_addLetter 23 rfl) rfl ly1 (fun _ => rfl) (Or.inl rfl) pf_1_0 o15 (fun σ13 e14 => ?_)
  have h := h σ13 e14
  refine r_iload (q := 42) (dc dt_SC_addLetter 24 rfl) rfl 0 rfl ?_
  exact r_iret rfl (dc dt_SC_addLetter 25 rfl) g1 h
def tb_JS_letter : List (Nat × Instr × Nat) := [(0, .iload_n 1, 1), (1, .ifCond .lt 9, 3), (4, .iload_n 1, 1), (5, .bipush 6, 2), (7, .if_icmp .le 6, 3), (10, .bipush (-2), 2), (12, .ireturn, 1), (13, .aload_n 0, 1), (14, .getfield 10, 3), (17, .getfield 101, 3), (20, .bipush 60, 2), (22, .if_icmp .lt 6, 3), (25, .bipush (-4), 2), (27, .ireturn, 1), (28, .aload_n 0, 1), (29, .dup, 1), (30, .getfield 76, 3), (33, .iconst 1, 1), (34, .iadd, 1), (35, .putfield 76, 3), (38, .aload_n 0, 1), (39, .getfield 10, 3), (42, .iload_n 1, 1), (43, .iload_n 1, 1), (44, .iconst 1, 1), (45, .invokevirtual 104, 3), (48, .ireturn, 1)]
theorem dt_JS_letter : DT (cM m_JS_letter) tb_JS_letter := by unfold DT; decide +kernel
abbrev a_JS_letter_0 (G : GT)  (v1 : Int) (σ : St) (P : Int → St → Prop) : Prop := A G m_JS_letter 0 [(0, O 0), (1, I v1)] [] σ P
set_option maxRecDepth 20000 in
theorem k_JS_letter_0 {G : GT} {σ : St} {P : Int → St → Prop}  {v1 : Int}  
    (h : rng v1 ∧ (v1 < 0 → P (-2) σ) ∧ (0 ≤ v1 → (v1 ≤ 6 → (σ.2.1 1 0 < 60 → rng ((σ.2.1 0 9) + 1) ∧ (∀ σ4, σ4 = sf σ 0 9 ((σ.2.1 0 9) + 1) → CJ G m_SC_addLetter [O 1, I v1, I v1, I 1] σ4 (fun r8 u7 => P r8 u7))) ∧ (60 ≤ σ.2.1 1 0 → P (-4) σ)) ∧ (6 < v1 → P (-2) σ))) :
    a_JS_letter_0 G v1 σ P := by
  refine r_iload_n (q := 1) (dc dt_JS_letter 0 rfl) rfl rfl 1 rfl ?_
  obtain ⟨o1, h⟩ := h
  refine r_if_lt (q := 4) (t := 10) (dc dt_JS_letter 1 rfl) rfl (by decide) o1 (fun q_ => ?_) (fun q_ => ?_)
  · have h := h.1 q_
    refine r_bipush (q := 12) (dc dt_JS_letter 5 rfl) rfl (by decide) ?_
    exact r_iret rfl (dc dt_JS_letter 6 rfl) (⟨by decide, by decide⟩ : rng (-2)) h
  · have h := h.2 q_
    refine r_iload_n (q := 5) (dc dt_JS_letter 2 rfl) rfl rfl 1 rfl ?_
    refine r_bipush (q := 7) (dc dt_JS_letter 3 rfl) rfl (by decide) ?_
    refine r_icmp_le (q := 10) (t := 13) (dc dt_JS_letter 4 rfl) rfl (by decide) o1 (⟨by decide, by decide⟩ : rng 6) (fun q_ => ?_) (fun q_ => ?_)
    · have h := h.1 q_
      refine r_aload_n (q := 14) (dc dt_JS_letter 7 rfl) rfl rfl 0 rfl ?_
      refine r_getO (q := 17) (v := 1) fl_JS_10 (dc dt_JS_letter 8 rfl) rfl ly0 rfl ?_
      refine r_getI (q := 20) (v := σ.2.1 1 0) fl_JS_101 (dc dt_JS_letter 9 rfl) rfl ly1 rfl rfl (fun g2 => ?_)
      refine r_bipush (q := 22) (dc dt_JS_letter 10 rfl) rfl (by decide) ?_
      refine r_icmp_lt (q := 25) (t := 28) (dc dt_JS_letter 11 rfl) rfl (by decide) g2 (⟨by decide, by decide⟩ : rng 60) (fun q_ => ?_) (fun q_ => ?_)
      · have h := h.1 q_
        refine r_aload_n (q := 29) (dc dt_JS_letter 14 rfl) rfl rfl 0 rfl ?_
        refine r_dupo (q := 30) (dc dt_JS_letter 15 rfl) rfl ?_
        refine r_getI (q := 33) (v := σ.2.1 0 9) fl_JS_76 (dc dt_JS_letter 16 rfl) rfl ly0 rfl rfl (fun g3 => ?_)
        refine r_iconst (q := 34) (dc dt_JS_letter 17 rfl) rfl rfl ?_
        refine r_iadd (q := 35) (dc dt_JS_letter 18 rfl) rfl ?_
        obtain ⟨o6, h⟩ := h
        refine r_put (q := 38) fl_JS_76 (dc dt_JS_letter 19 rfl) rfl ly0 (fun _ => rfl) (Or.inl rfl) pf_0_9 o6 (fun σ4 e5 => ?_)
        have h := h σ4 e5
        refine r_aload_n (q := 39) (dc dt_JS_letter 20 rfl) rfl rfl 0 rfl ?_
        refine r_getO (q := 42) (v := 1) fl_JS_10 (dc dt_JS_letter 21 rfl) rfl ly0 rfl ?_
        refine r_iload_n (q := 43) (dc dt_JS_letter 22 rfl) rfl rfl 1 rfl ?_
        refine r_iload_n (q := 44) (dc dt_JS_letter 23 rfl) rfl rfl 1 rfl ?_
        refine r_iconst (q := 45) (dc dt_JS_letter 24 rfl) rfl rfl ?_
        refine r_callVi (q := 48) mk_SC_addLetter lm_JS_104 (RMO.of rfl) rfl (dc dt_JS_letter 25 rfl) rfl ly1 [I v1, I v1, I 1] [] rfl rfl (Nat.le_of_ble_eq_true rfl) h (fun r8 u7 g9 h => ?_)
        exact r_iret rfl (dc dt_JS_letter 26 rfl) g9 h
      · have h := h.2 q_
        refine r_bipush (q := 27) (dc dt_JS_letter 12 rfl) rfl (by decide) ?_
        exact r_iret rfl (dc dt_JS_letter 13 rfl) (⟨by decide, by decide⟩ : rng (-4)) h
    · have h := h.2 q_
      refine r_bipush (q := 12) (dc dt_JS_letter 5 rfl) rfl (by decide) ?_
      exact r_iret rfl (dc dt_JS_letter 6 rfl) (⟨by decide, by decide⟩ : rng (-2)) h
def tb_JS_within : List (Nat × Instr × Nat) := [(0, .iload_n 0, 1), (1, .iload_n 1, 1), (2, .if_icmp .lt 12, 3), (5, .iload_n 0, 1), (6, .iload_n 2, 1), (7, .if_icmp .gt 7, 3), (10, .iconst 1, 1), (11, .goto 4, 3), (14, .iconst 0, 1), (15, .ireturn, 1)]
theorem dt_JS_within : DT (cM m_JS_within) tb_JS_within := by unfold DT; decide +kernel
abbrev a_JS_within_0 (G : GT)  (v0 : Int) (v1 : Int) (v2 : Int) (σ : St) (P : Int → St → Prop) : Prop := A G m_JS_within 0 [(0, I v0), (1, I v1), (2, I v2)] [] σ P
set_option maxRecDepth 20000 in
theorem k_JS_within_0 {G : GT} {σ : St} {P : Int → St → Prop}  {v0 : Int} {v1 : Int} {v2 : Int}  
    (h : rng v0 ∧ rng v1 ∧ ((v1 ≤ v0 → rng v2)) ∧ P (if v1 ≤ v0 ∧ v0 ≤ v2 then 1 else 0) σ) :
    a_JS_within_0 G v0 v1 v2 σ P := by
  refine r_iload_n (q := 1) (dc dt_JS_within 0 rfl) rfl rfl 0 rfl ?_
  refine r_iload_n (q := 2) (dc dt_JS_within 1 rfl) rfl rfl 1 rfl ?_
  obtain ⟨o1, h⟩ := h
  obtain ⟨o2, h⟩ := h
  obtain ⟨ho, h⟩ := h
  have hJ : ∀ (w_0 : Int), w_0 = (if v1 ≤ v0 ∧ v0 ≤ v2 then 1 else 0) → A G m_JS_within 15 [(0, I v0), (1, I v1), (2, I v2)] [I w_0] σ P := by
    intro w_0 z_0
    subst z_0
    exact r_zret rfl (dc dt_JS_within 9 rfl) b01_or h
  clear h
  refine r_icmp_lt (q := 5) (t := 14) (dc dt_JS_within 2 rfl) rfl (by decide) o1 o2 (fun q_ => ?_) (fun q_ => ?_)
  · have q4 := q_
    refine r_iconst (q := 15) (dc dt_JS_within 8 rfl) rfl rfl ?_
    exact (hJ 0 ((if_neg (by first | omega | grind)).symm))
  · have q4 := q_
    have ho := ho q_
    refine r_iload_n (q := 6) (dc dt_JS_within 3 rfl) rfl rfl 0 rfl ?_
    refine r_iload_n (q := 7) (dc dt_JS_within 4 rfl) rfl rfl 2 rfl ?_
    have o3 := ho
    refine r_icmp_gt (q := 10) (t := 14) (dc dt_JS_within 5 rfl) rfl (by decide) o1 o3 (fun q_ => ?_) (fun q_ => ?_)
    · have q5 := q_
      refine r_iconst (q := 15) (dc dt_JS_within 8 rfl) rfl rfl ?_
      exact (hJ 0 ((if_neg (by first | omega | grind)).symm))
    · have q5 := q_
      refine r_iconst (q := 11) (dc dt_JS_within 6 rfl) rfl rfl ?_
      refine r_goto (q := 15) (dc dt_JS_within 7 rfl) (by decide) ?_
      exact (hJ 1 ((if_pos (by first | omega | grind)).symm))
set_option maxRecDepth 20000 in
theorem sp_JS_within {G : GT} {σ : St} {v0 : Int} {v1 : Int} {v2 : Int}  (j0 : rng v0) (j1 : rng v1) (j2 : (v1 ≤ v0 → rng v2)) : CJ G m_JS_within [I v0, I v1, I v2] σ (fun r u => r = (if v1 ≤ v0 ∧ v0 ≤ v2 then 1 else 0) ∧ u = σ) := by
  refine CJ.intro (by decide) (by simp [catA]; decide) (fun _ => k_JS_within_0  ?_)
  refine ⟨by first | assumption | omega | grind, ?_⟩
  refine ⟨by first | assumption | omega | grind, ?_⟩
  refine ⟨by first | assumption | omega | grind, ?_⟩
  exact ⟨rfl, rfl⟩
def tb_SC_knows : List (Nat × Instr × Nat) := [(0, .iload_n 1, 1), (1, .iconst 0, 1), (2, .aload_n 0, 1), (3, .getfield 9, 3), (6, .iconst 1, 1), (7, .isub, 1), (8, .invokestatic 55, 3), (11, .ireturn, 1)]
theorem dt_SC_knows : DT (cM m_SC_knows) tb_SC_knows := by unfold DT; decide +kernel
abbrev a_SC_knows_0 (G : GT)  (v1 : Int) (σ : St) (P : Int → St → Prop) : Prop := A G m_SC_knows 0 [(0, O 1), (1, I v1)] [] σ P
set_option maxRecDepth 20000 in
theorem k_SC_knows_0 {G : GT} {σ : St} {P : Int → St → Prop}  {v1 : Int}  
    (h : rng v1 ∧ (0 ≤ v1 → rng ((σ.2.1 1 0) - 1)) ∧ P (if 0 ≤ v1 ∧ v1 ≤ ((σ.2.1 1 0) - 1) then 1 else 0) σ) :
    a_SC_knows_0 G v1 σ P := by
  refine r_iload_n (q := 1) (dc dt_SC_knows 0 rfl) rfl rfl 1 rfl ?_
  refine r_iconst (q := 2) (dc dt_SC_knows 1 rfl) rfl rfl ?_
  refine r_aload_n (q := 3) (dc dt_SC_knows 2 rfl) rfl rfl 0 rfl ?_
  refine r_getI (q := 6) (v := σ.2.1 1 0) fl_SC_9 (dc dt_SC_knows 3 rfl) rfl ly1 rfl rfl (fun g1 => ?_)
  refine r_iconst (q := 7) (dc dt_SC_knows 4 rfl) rfl rfl ?_
  refine r_isub (q := 8) (dc dt_SC_knows 5 rfl) rfl ?_
  obtain ⟨o2, h⟩ := h
  obtain ⟨o3, h⟩ := h
  refine r_callNi (q := 11) mk_JS_within lm_SC_55 (RMO.of rfl) rfl (dc dt_SC_knows 6 rfl) rfl [I v1, I 0, I ((σ.2.1 1 0) - 1)] [] rfl rfl (Nat.le_of_ble_eq_true rfl) (sp_JS_within o2 (⟨by decide, by decide⟩ : rng 0) o3) (fun _ _ g4 z => ?_)
  obtain ⟨z, w⟩ := z
  subst z
  replace w := w.symm
  subst w
  exact r_zret rfl (dc dt_SC_knows 7 rfl) b01_or h
set_option maxRecDepth 20000 in
theorem sp_SC_knows {G : GT} {σ : St} {v1 : Int}  (j0 : rng v1) (j1 : (0 ≤ v1 → rng ((σ.2.1 1 0) - 1))) : CJ G m_SC_knows [O 1, I v1] σ (fun r u => r = (if 0 ≤ v1 ∧ v1 ≤ ((σ.2.1 1 0) - 1) then 1 else 0) ∧ u = σ) := by
  refine CJ.intro (by decide) (by simp [catA]; decide) (fun _ => k_SC_knows_0  ?_)
  refine ⟨by first | assumption | omega | grind, ?_⟩
  refine ⟨by first | assumption | omega | grind, ?_⟩
  exact ⟨rfl, rfl⟩
def tb_SC_joinsBack : List (Nat × Instr × Nat) := [(0, .aload_n 0, 1), (1, .getfield 21, 3), (4, .iload_n 1, 1), (5, .iaload, 1), (6, .ifCond .eq 13, 3), (9, .aload_n 0, 1), (10, .getfield 21, 3), (13, .iload_n 1, 1), (14, .iaload, 1), (15, .iconst 1, 1), (16, .if_icmp .ne 7, 3), (19, .iconst 1, 1), (20, .goto 4, 3), (23, .iconst 0, 1), (24, .ireturn, 1)]
theorem dt_SC_joinsBack : DT (cM m_SC_joinsBack) tb_SC_joinsBack := by unfold DT; decide +kernel
abbrev a_SC_joinsBack_0 (G : GT)  (v1 : Int) (σ : St) (P : Int → St → Prop) : Prop := A G m_SC_joinsBack 0 [(0, O 1), (1, I v1)] [] σ P
set_option maxRecDepth 20000 in
theorem k_SC_joinsBack_0 {G : GT} {σ : St} {P : Int → St → Prop}  {v1 : Int}  
    (h : (0 ≤ v1 ∧ v1 < 60) ∧ P (if σ.1 47 v1.toNat = 0 ∨ σ.1 47 v1.toNat = 1 then 1 else 0) σ) :
    a_SC_joinsBack_0 G v1 σ P := by
  refine r_aload_n (q := 1) (dc dt_SC_joinsBack 0 rfl) rfl rfl 0 rfl ?_
  refine r_getO (q := 4) (v := 47) fl_SC_21 (dc dt_SC_joinsBack 1 rfl) rfl ly1 rfl ?_
  refine r_iload_n (q := 5) (dc dt_SC_joinsBack 2 rfl) rfl rfl 1 rfl ?_
  obtain ⟨o1, h⟩ := h
  refine r_iald (q := 6) (v := σ.1 47 v1.toNat) (dc dt_SC_joinsBack 3 rfl) rfl ly47 o1 rfl (fun g2 => ?_)
  have hJ : ∀ (w_0 : Int), w_0 = (if σ.1 47 v1.toNat = 0 ∨ σ.1 47 v1.toNat = 1 then 1 else 0) → A G m_SC_joinsBack 24 [(0, O 1), (1, I v1)] [I w_0] σ P := by
    intro w_0 z_0
    subst z_0
    exact r_zret rfl (dc dt_SC_joinsBack 14 rfl) b01_or h
  clear h
  refine r_if_eq (q := 9) (t := 19) (dc dt_SC_joinsBack 4 rfl) rfl (by decide) g2 (fun q_ => ?_) (fun q_ => ?_)
  · have q4 := q_
    refine r_iconst (q := 20) (dc dt_SC_joinsBack 11 rfl) rfl rfl ?_
    refine r_goto (q := 24) (dc dt_SC_joinsBack 12 rfl) (by decide) ?_
    exact (hJ 1 ((if_pos (by first | omega | grind)).symm))
  · have q4 := q_
    refine r_aload_n (q := 10) (dc dt_SC_joinsBack 5 rfl) rfl rfl 0 rfl ?_
    refine r_getO (q := 13) (v := 47) fl_SC_21 (dc dt_SC_joinsBack 6 rfl) rfl ly1 rfl ?_
    refine r_iload_n (q := 14) (dc dt_SC_joinsBack 7 rfl) rfl rfl 1 rfl ?_
    refine r_iald (q := 15) (v := σ.1 47 v1.toNat) (dc dt_SC_joinsBack 8 rfl) rfl ly47 o1 rfl (fun g3 => ?_)
    refine r_iconst (q := 16) (dc dt_SC_joinsBack 9 rfl) rfl rfl ?_
    refine r_icmp_ne (q := 19) (t := 23) (dc dt_SC_joinsBack 10 rfl) rfl (by decide) g3 (⟨by decide, by decide⟩ : rng 1) (fun q_ => ?_) (fun q_ => ?_)
    · have q5 := q_
      refine r_iconst (q := 24) (dc dt_SC_joinsBack 13 rfl) rfl rfl ?_
      exact (hJ 0 ((if_neg (by first | omega | grind)).symm))
    · have q5 := q_
      refine r_iconst (q := 20) (dc dt_SC_joinsBack 11 rfl) rfl rfl ?_
      refine r_goto (q := 24) (dc dt_SC_joinsBack 12 rfl) (by decide) ?_
      exact (hJ 1 ((if_pos (by first | omega | grind)).symm))
set_option maxRecDepth 20000 in
theorem sp_SC_joinsBack {G : GT} {σ : St} {v1 : Int}  (j0 : 0 ≤ v1 ∧ v1 < 60) : CJ G m_SC_joinsBack [O 1, I v1] σ (fun r u => r = (if σ.1 47 v1.toNat = 0 ∨ σ.1 47 v1.toNat = 1 then 1 else 0) ∧ u = σ) := by
  refine CJ.intro (by decide) (by simp [catA]; decide) (fun _ => k_SC_joinsBack_0  ?_)
  refine ⟨by first | assumption | omega | grind, ?_⟩
  exact ⟨rfl, rfl⟩
def tb_SC_canJoinUp : List (Nat × Instr × Nat) := [(0, .iload_n 3, 1), (1, .iconst (-1), 1), (2, .if_icmp .ne 26, 3), (5, .aload_n 0, 1), (6, .getfield 21, 3), (9, .iload_n 1, 1), (10, .iaload, 1), (11, .ifCond .ne 15, 3), (14, .aload_n 0, 1), (15, .iload_n 2, 1), (16, .invokevirtual 59, 3), (19, .ifCond .eq 7, 3), (22, .iconst 1, 1), (23, .goto 4, 3), (26, .iconst 0, 1), (27, .ireturn, 1), (28, .aload_n 0, 1), (29, .getfield 21, 3), (32, .iload_n 1, 1), (33, .iaload, 1), (34, .ifCond .ne 24, 3), (37, .aload_n 0, 1), (38, .getfield 21, 3), (41, .iload_n 2, 1), (42, .iaload, 1), (43, .ifCond .ne 15, 3), (46, .aload_n 0, 1), (47, .iload_n 3, 1), (48, .invokevirtual 59, 3), (51, .ifCond .eq 7, 3), (54, .iconst 1, 1), (55, .goto 4, 3), (58, .iconst 0, 1), (59, .ireturn, 1)]
theorem dt_SC_canJoinUp : DT (cM m_SC_canJoinUp) tb_SC_canJoinUp := by unfold DT; decide +kernel
abbrev a_SC_canJoinUp_0 (G : GT)  (v1 : Int) (v2 : Int) (v3 : Int) (σ : St) (P : Int → St → Prop) : Prop := A G m_SC_canJoinUp 0 [(0, O 1), (1, I v1), (2, I v2), (3, I v3)] [] σ P
set_option maxRecDepth 20000 in
theorem k_SC_canJoinUp_0 {G : GT} {σ : St} {P : Int → St → Prop}  {v1 : Int} {v2 : Int} {v3 : Int}  
    (h : rng v3 ∧ (v3 ≠ (-1) → (0 ≤ v1 ∧ v1 < 60) ∧ ((σ.1 47 v1.toNat = 0 → (0 ≤ v2 ∧ v2 < 60) ∧ (σ.1 47 v2.toNat = 0 → 0 ≤ v3 ∧ v3 < 60))) ∧ P (if σ.1 47 v1.toNat = 0 ∧ (σ.1 47 v2.toNat = 0 ∧ (σ.1 47 v3.toNat = 0 ∨ σ.1 47 v3.toNat = 1)) then 1 else 0) σ) ∧ (v3 = (-1) → (0 ≤ v1 ∧ v1 < 60) ∧ ((σ.1 47 v1.toNat = 0 → 0 ≤ v2 ∧ v2 < 60)) ∧ P (if σ.1 47 v1.toNat = 0 ∧ (σ.1 47 v2.toNat = 0 ∨ σ.1 47 v2.toNat = 1) then 1 else 0) σ)) :
    a_SC_canJoinUp_0 G v1 v2 v3 σ P := by
  refine r_iload_n (q := 1) (dc dt_SC_canJoinUp 0 rfl) rfl rfl 3 rfl ?_
  refine r_iconst (q := 2) (dc dt_SC_canJoinUp 1 rfl) rfl rfl ?_
  obtain ⟨o1, h⟩ := h
  refine r_icmp_ne (q := 5) (t := 28) (dc dt_SC_canJoinUp 2 rfl) rfl (by decide) o1 (⟨by decide, by decide⟩ : rng (-1)) (fun q_ => ?_) (fun q_ => ?_)
  · have h := h.1 q_
    refine r_aload_n (q := 29) (dc dt_SC_canJoinUp 16 rfl) rfl rfl 0 rfl ?_
    refine r_getO (q := 32) (v := 47) fl_SC_21 (dc dt_SC_canJoinUp 17 rfl) rfl ly1 rfl ?_
    refine r_iload_n (q := 33) (dc dt_SC_canJoinUp 18 rfl) rfl rfl 1 rfl ?_
    obtain ⟨o2, h⟩ := h
    refine r_iald (q := 34) (v := σ.1 47 v1.toNat) (dc dt_SC_canJoinUp 19 rfl) rfl ly47 o2 rfl (fun g3 => ?_)
    obtain ⟨ho, h⟩ := h
    have hJ : ∀ (w_0 : Int), w_0 = (if σ.1 47 v1.toNat = 0 ∧ (σ.1 47 v2.toNat = 0 ∧ (σ.1 47 v3.toNat = 0 ∨ σ.1 47 v3.toNat = 1)) then 1 else 0) → A G m_SC_canJoinUp 59 [(0, O 1), (1, I v1), (2, I v2), (3, I v3)] [I w_0] σ P := by
      intro w_0 z_0
      subst z_0
      exact r_zret rfl (dc dt_SC_canJoinUp 33 rfl) b01_or h
    clear h
    refine r_if_ne (q := 37) (t := 58) (dc dt_SC_canJoinUp 20 rfl) rfl (by decide) g3 (fun q_ => ?_) (fun q_ => ?_)
    · have q12 := q_
      refine r_iconst (q := 59) (dc dt_SC_canJoinUp 32 rfl) rfl rfl ?_
      exact (hJ 0 ((if_neg (by first | omega | grind)).symm))
    · have q12 := q_
      have ho := ho q_
      refine r_aload_n (q := 38) (dc dt_SC_canJoinUp 21 rfl) rfl rfl 0 rfl ?_
      refine r_getO (q := 41) (v := 47) fl_SC_21 (dc dt_SC_canJoinUp 22 rfl) rfl ly1 rfl ?_
      refine r_iload_n (q := 42) (dc dt_SC_canJoinUp 23 rfl) rfl rfl 2 rfl ?_
      obtain ⟨o4, ho⟩ := ho
      refine r_iald (q := 43) (v := σ.1 47 v2.toNat) (dc dt_SC_canJoinUp 24 rfl) rfl ly47 o4 rfl (fun g5 => ?_)
      refine r_if_ne (q := 46) (t := 58) (dc dt_SC_canJoinUp 25 rfl) rfl (by decide) g5 (fun q_ => ?_) (fun q_ => ?_)
      · have q13 := q_
        refine r_iconst (q := 59) (dc dt_SC_canJoinUp 32 rfl) rfl rfl ?_
        exact (hJ 0 ((if_neg (by first | omega | grind)).symm))
      · have q13 := q_
        have ho := ho q_
        refine r_aload_n (q := 47) (dc dt_SC_canJoinUp 26 rfl) rfl rfl 0 rfl ?_
        refine r_iload_n (q := 48) (dc dt_SC_canJoinUp 27 rfl) rfl rfl 3 rfl ?_
        have o6 := ho
        refine r_callVi (q := 51) mk_SC_joinsBack lm_SC_59 (RMO.of rfl) rfl (dc dt_SC_canJoinUp 28 rfl) rfl ly1 [I v3] [] rfl rfl (Nat.le_of_ble_eq_true rfl) (sp_SC_joinsBack o6) (fun _ _ g7 z => ?_)
        obtain ⟨z, w⟩ := z
        subst z
        replace w := w.symm
        subst w
        refine r_ifb_eq (q := 54) (t := 58) (dc dt_SC_canJoinUp 29 rfl) rfl (by decide) (fun q_ => ?_) (fun q_ => ?_)
        · have q14 := q_
          refine r_iconst (q := 59) (dc dt_SC_canJoinUp 32 rfl) rfl rfl ?_
          exact (hJ 0 ((if_neg (by first | omega | grind)).symm))
        · have q14 := q_
          refine r_iconst (q := 55) (dc dt_SC_canJoinUp 30 rfl) rfl rfl ?_
          refine r_goto (q := 59) (dc dt_SC_canJoinUp 31 rfl) (by decide) ?_
          exact (hJ 1 ((if_pos (by first | omega | grind)).symm))
  · have h := h.2 q_
    refine r_aload_n (q := 6) (dc dt_SC_canJoinUp 3 rfl) rfl rfl 0 rfl ?_
    refine r_getO (q := 9) (v := 47) fl_SC_21 (dc dt_SC_canJoinUp 4 rfl) rfl ly1 rfl ?_
    refine r_iload_n (q := 10) (dc dt_SC_canJoinUp 5 rfl) rfl rfl 1 rfl ?_
    obtain ⟨o8, h⟩ := h
    refine r_iald (q := 11) (v := σ.1 47 v1.toNat) (dc dt_SC_canJoinUp 6 rfl) rfl ly47 o8 rfl (fun g9 => ?_)
    obtain ⟨ho, h⟩ := h
    have hJ : ∀ (w_0 : Int), w_0 = (if σ.1 47 v1.toNat = 0 ∧ (σ.1 47 v2.toNat = 0 ∨ σ.1 47 v2.toNat = 1) then 1 else 0) → A G m_SC_canJoinUp 27 [(0, O 1), (1, I v1), (2, I v2), (3, I v3)] [I w_0] σ P := by
      intro w_0 z_0
      subst z_0
      exact r_zret rfl (dc dt_SC_canJoinUp 15 rfl) b01_or h
    clear h
    refine r_if_ne (q := 14) (t := 26) (dc dt_SC_canJoinUp 7 rfl) rfl (by decide) g9 (fun q_ => ?_) (fun q_ => ?_)
    · have q15 := q_
      refine r_iconst (q := 27) (dc dt_SC_canJoinUp 14 rfl) rfl rfl ?_
      exact (hJ 0 ((if_neg (by first | omega | grind)).symm))
    · have q15 := q_
      have ho := ho q_
      refine r_aload_n (q := 15) (dc dt_SC_canJoinUp 8 rfl) rfl rfl 0 rfl ?_
      refine r_iload_n (q := 16) (dc dt_SC_canJoinUp 9 rfl) rfl rfl 2 rfl ?_
      have o10 := ho
      refine r_callVi (q := 19) mk_SC_joinsBack lm_SC_59 (RMO.of rfl) rfl (dc dt_SC_canJoinUp 10 rfl) rfl ly1 [I v2] [] rfl rfl (Nat.le_of_ble_eq_true rfl) (sp_SC_joinsBack o10) (fun _ _ g11 z => ?_)
      obtain ⟨z, w⟩ := z
      subst z
      replace w := w.symm
      subst w
      refine r_ifb_eq (q := 22) (t := 26) (dc dt_SC_canJoinUp 11 rfl) rfl (by decide) (fun q_ => ?_) (fun q_ => ?_)
      · have q16 := q_
        refine r_iconst (q := 27) (dc dt_SC_canJoinUp 14 rfl) rfl rfl ?_
        exact (hJ 0 ((if_neg (by first | omega | grind)).symm))
      · have q16 := q_
        refine r_iconst (q := 23) (dc dt_SC_canJoinUp 12 rfl) rfl rfl ?_
        refine r_goto (q := 27) (dc dt_SC_canJoinUp 13 rfl) (by decide) ?_
        exact (hJ 1 ((if_pos (by first | omega | grind)).symm))
def tb_SC_hasLigature : List (Nat × Instr × Nat) := [(0, .iconst 0, 1), (1, .istore 4, 2), (3, .iload 4, 2), (5, .aload_n 0, 1), (6, .getfield 15, 3), (9, .if_icmp .ge 44, 3), (12, .aload_n 0, 1), (13, .getfield 40, 3), (16, .iload 4, 2), (18, .aaload, 1), (19, .astore 5, 2), (21, .aload 5, 2), (23, .iconst 0, 1), (24, .iaload, 1), (25, .iload_n 1, 1), (26, .if_icmp .ne 21, 3), (29, .aload 5, 2), (31, .iconst 1, 1), (32, .iaload, 1), (33, .iload_n 2, 1), (34, .if_icmp .ne 13, 3), (37, .aload 5, 2), (39, .iconst 2, 1), (40, .iaload, 1), (41, .iload_n 3, 1), (42, .if_icmp .ne 5, 3), (45, .iconst 1, 1), (46, .ireturn, 1), (47, .iinc 4 1, 3), (50, .goto (-47), 3), (53, .iconst 0, 1), (54, .ireturn, 1)]
theorem dt_SC_hasLigature : DT (cM m_SC_hasLigature) tb_SC_hasLigature := by unfold DT; decide +kernel
abbrev a_SC_hasLigature_0 (G : GT)  (v1 : Int) (v2 : Int) (v3 : Int) (σ : St) (P : Int → St → Prop) : Prop := A G m_SC_hasLigature 0 [(0, O 1), (1, I v1), (2, I v2), (3, I v3)] [] σ P
abbrev a_SC_hasLigature_3 (G : GT)  (v1 : Int) (v2 : Int) (v3 : Int) (v4 : Int) (σ : St) (P : Int → St → Prop) : Prop := A G m_SC_hasLigature 3 [(0, O 1), (1, I v1), (2, I v2), (3, I v3), (4, I v4)] [] σ P
set_option maxRecDepth 20000 in
theorem k_SC_hasLigature_0 {G : GT} {σ : St} {P : Int → St → Prop}  {v1 : Int} {v2 : Int} {v3 : Int}  
    (h : a_SC_hasLigature_3 G v1 v2 v3 0 σ P) :
    a_SC_hasLigature_0 G v1 v2 v3 σ P := by
  refine r_iconst (q := 1) (dc dt_SC_hasLigature 0 rfl) rfl rfl ?_
  refine r_istore (q := 3) (dc dt_SC_hasLigature 1 rfl) rfl (by decide) rfl ?_
  exact r_loc [1, 2, 3, 4, 0] rfl h
set_option maxRecDepth 20000 in
theorem k_SC_hasLigature_3 {G : GT} {σ : St} {P : Int → St → Prop}  {v1 : Int} {v2 : Int} {v3 : Int} {v4 : Int}  
    (h : rng v4 ∧ (σ.2.1 1 1 ≤ v4 → P 0 σ) ∧ (v4 < σ.2.1 1 1 → (0 ≤ v4 ∧ v4 < 8) ∧ rng v1 ∧ (σ.1 (168 + v4.toNat) 0 ≠ v1 → a_SC_hasLigature_3 G v1 v2 v3 (v4 + 1) σ P) ∧ (σ.1 (168 + v4.toNat) 0 = v1 → rng v2 ∧ (σ.1 (168 + v4.toNat) 1 ≠ v2 → a_SC_hasLigature_3 G v1 v2 v3 (v4 + 1) σ P) ∧ (σ.1 (168 + v4.toNat) 1 = v2 → rng v3 ∧ (σ.1 (168 + v4.toNat) 2 ≠ v3 → a_SC_hasLigature_3 G v1 v2 v3 (v4 + 1) σ P) ∧ (σ.1 (168 + v4.toNat) 2 = v3 → P 1 σ))))) :
    a_SC_hasLigature_3 G v1 v2 v3 v4 σ P := by
  refine r_iload (q := 5) (dc dt_SC_hasLigature 2 rfl) rfl 4 rfl ?_
  refine r_aload_n (q := 6) (dc dt_SC_hasLigature 3 rfl) rfl rfl 0 rfl ?_
  refine r_getI (q := 9) (v := σ.2.1 1 1) fl_SC_15 (dc dt_SC_hasLigature 4 rfl) rfl ly1 rfl rfl (fun g1 => ?_)
  obtain ⟨o2, h⟩ := h
  refine r_icmp_ge (q := 12) (t := 53) (dc dt_SC_hasLigature 5 rfl) rfl (by decide) o2 g1 (fun q_ => ?_) (fun q_ => ?_)
  · have h := h.1 q_
    refine r_iconst (q := 54) (dc dt_SC_hasLigature 30 rfl) rfl rfl ?_
    exact r_zret rfl (dc dt_SC_hasLigature 31 rfl) (by decide) h
  · have h := h.2 q_
    refine r_aload_n (q := 13) (dc dt_SC_hasLigature 6 rfl) rfl rfl 0 rfl ?_
    refine r_getO (q := 16) (v := 52) fl_SC_40 (dc dt_SC_hasLigature 7 rfl) rfl ly1 rfl ?_
    refine r_iload (q := 18) (dc dt_SC_hasLigature 8 rfl) rfl 4 rfl ?_
    obtain ⟨o3, h⟩ := h
    refine r_aald (q := 19) (dc dt_SC_hasLigature 9 rfl) rfl ly52 o3 rfl ?_
    refine r_astore (q := 21) (dc dt_SC_hasLigature 10 rfl) rfl (by decide) rfl ?_
    refine r_aload (q := 23) (dc dt_SC_hasLigature 11 rfl) rfl 0 rfl ?_
    refine r_iconst (q := 24) (dc dt_SC_hasLigature 12 rfl) rfl rfl ?_
    refine r_iald (q := 25) (v := σ.1 (168 + v4.toNat) 0) (dc dt_SC_hasLigature 13 rfl) rfl (lyr_168 o3) ⟨by decide, by decide⟩ rfl (fun g4 => ?_)
    refine r_iload_n (q := 26) (dc dt_SC_hasLigature 14 rfl) rfl rfl 2 rfl ?_
    obtain ⟨o5, h⟩ := h
    refine r_icmp_ne (q := 29) (t := 47) (dc dt_SC_hasLigature 15 rfl) rfl (by decide) g4 o5 (fun q_ => ?_) (fun q_ => ?_)
    · have h := h.1 q_
      refine r_iinc (q := 50) (k := 5) (dc dt_SC_hasLigature 28 rfl) rfl rfl (by decide) rfl ?_
      refine r_goto (q := 3) (dc dt_SC_hasLigature 29 rfl) (by decide) ?_
      exact r_loc [2, 3, 4, 5, 0] rfl h
    · have h := h.2 q_
      refine r_aload (q := 31) (dc dt_SC_hasLigature 16 rfl) rfl 0 rfl ?_
      refine r_iconst (q := 32) (dc dt_SC_hasLigature 17 rfl) rfl rfl ?_
      refine r_iald (q := 33) (v := σ.1 (168 + v4.toNat) 1) (dc dt_SC_hasLigature 18 rfl) rfl (lyr_168 o3) ⟨by decide, by decide⟩ rfl (fun g6 => ?_)
      refine r_iload_n (q := 34) (dc dt_SC_hasLigature 19 rfl) rfl rfl 3 rfl ?_
      obtain ⟨o7, h⟩ := h
      refine r_icmp_ne (q := 37) (t := 47) (dc dt_SC_hasLigature 20 rfl) rfl (by decide) g6 o7 (fun q_ => ?_) (fun q_ => ?_)
      · have h := h.1 q_
        refine r_iinc (q := 50) (k := 5) (dc dt_SC_hasLigature 28 rfl) rfl rfl (by decide) rfl ?_
        refine r_goto (q := 3) (dc dt_SC_hasLigature 29 rfl) (by decide) ?_
        exact r_loc [2, 3, 4, 5, 0] rfl h
      · have h := h.2 q_
        refine r_aload (q := 39) (dc dt_SC_hasLigature 21 rfl) rfl 0 rfl ?_
        refine r_iconst (q := 40) (dc dt_SC_hasLigature 22 rfl) rfl rfl ?_
        refine r_iald (q := 41) (v := σ.1 (168 + v4.toNat) 2) (dc dt_SC_hasLigature 23 rfl) rfl (lyr_168 o3) ⟨by decide, by decide⟩ rfl (fun g8 => ?_)
        refine r_iload_n (q := 42) (dc dt_SC_hasLigature 24 rfl) rfl rfl 4 rfl ?_
        obtain ⟨o9, h⟩ := h
        refine r_icmp_ne (q := 45) (t := 47) (dc dt_SC_hasLigature 25 rfl) rfl (by decide) g8 o9 (fun q_ => ?_) (fun q_ => ?_)
        · have h := h.1 q_
          refine r_iinc (q := 50) (k := 5) (dc dt_SC_hasLigature 28 rfl) rfl rfl (by decide) rfl ?_
          refine r_goto (q := 3) (dc dt_SC_hasLigature 29 rfl) (by decide) ?_
          exact r_loc [2, 3, 4, 5, 0] rfl h
        · have h := h.2 q_
          refine r_iconst (q := 46) (dc dt_SC_hasLigature 26 rfl) rfl rfl ?_
          exact r_zret rfl (dc dt_SC_hasLigature 27 rfl) (by decide) h
def tb_SC_addLigature : List (Nat × Instr × Nat) := [(0, .iload_n 3, 1), (1, .iconst (-1), 1), (2, .if_icmp .ne 7, 3), (5, .iconst 1, 1), (6, .goto 4, 3), (9, .iconst 0, 1), (10, .istore 5, 2), (12, .aload_n 0, 1), (13, .bipush 7, 2), (15, .aload_n 0, 1), (16, .getfield 21, 3), (19, .iload 5, 2), (21, .ifCond .eq 7, 3), (24, .iload_n 2, 1), (25, .goto 4, 3), (28, .iload_n 3, 1), (29, .iaload, 1), (30, .iload 5, 2), (32, .ifCond .eq 7, 3), (35, .iconst 2, 1), (36, .goto 4, 3), (39, .iconst 3, 1), (40, .invokevirtual 63, 3), (43, .istore 6, 2), (45, .aload_n 0, 1), (46, .getfield 35, 3), (49, .aload_n 0, 1), (50, .getfield 15, 3), (53, .iload 6, 2), (55, .iastore, 1), (56, .aload_n 0, 1), (57, .getfield 43, 3), (60, .aload_n 0, 1), (61, .getfield 15, 3), (64, .iload 4, 2), (66, .bastore, 1), (67, .aload_n 0, 1), (68, .getfield 40, 3), (71, .aload_n 0, 1), (72, .getfield 15, 3), (75, .aaload, 1), (76, .iconst 0, 1), (77, .iload_n 1, 1), (78, .iastore, 1), (79, .aload_n 0, 1), (80, .getfield 40, 3), (83, .aload_n 0, 1), (84, .getfield 15, 3), (87, .aaload, 1), (88, .iconst 1, 1), (89, .iload_n 2, 1), (90, .iastore, 1), (91, .aload_n 0, 1), (92, .getfield 40, 3), (95, .aload_n 0, 1), (96, .getfield 15, 3), (99, .aaload, 1), (100, .iconst 2, 1), (101, .iload_n 3, 1), (102, .iastore, 1), (103, .aload_n 0, 1), (104, .dup, 1), (105, .getfield 15, 3), (108, .iconst 1, 1), (109, .iadd, 1), (110, .putfield 15, 3), (113, .iload 6, 2), (115, .ireturn, 1)]
theorem dt_SC_addLigature : DT (cM m_SC_addLigature) tb_SC_addLigature := by unfold DT; decide +kernel
abbrev a_SC_addLigature_0 (G : GT)  (v1 : Int) (v2 : Int) (v3 : Int) (v4 : Int) (σ : St) (P : Int → St → Prop) : Prop := A G m_SC_addLigature 0 [(0, O 1), (1, I v1), (2, I v2), (3, I v3), (4, I v4)] [] σ P
set_option maxRecDepth 20000 in
theorem k_SC_addLigature_0 {G : GT} {σ : St} {P : Int → St → Prop}  {v1 : Int} {v2 : Int} {v3 : Int} {v4 : Int}  
    (h : rng v3 ∧ (0 ≤ (if ¬ (v3 = (-1)) then v3 else v2) ∧ (if ¬ (v3 = (-1)) then v3 else v2) < 60) ∧ CJ G m_SC_addLetter [O 1, I 7, I (σ.1 47 ((if ¬ (v3 = (-1)) then v3 else v2).toNat)), I (if ¬ (v3 = (-1)) then (3 : Int) else (2 : Int))] σ (fun r5 u4 => (0 ≤ u4.2.1 1 1 ∧ u4.2.1 1 1 < 8) ∧ (∀ σ9, σ9 = sa u4 51 ((u4.2.1 1 1).toNat) r5 → (v4 = 0 ∨ v4 = 1) ∧ (∀ σ13, σ13 = sa σ9 53 ((u4.2.1 1 1).toNat) v4 → rng v1 ∧ (∀ σ17, σ17 = sa σ13 (168 + (u4.2.1 1 1).toNat) 0 v1 → rng v2 ∧ (∀ σ21, σ21 = sa σ17 (168 + (u4.2.1 1 1).toNat) 1 v2 → (∀ σ24, σ24 = sa σ21 (168 + (u4.2.1 1 1).toNat) 2 v3 → rng ((u4.2.1 1 1) + 1) ∧ (∀ σ27, σ27 = sf σ24 1 1 ((u4.2.1 1 1) + 1) → P r5 σ27)))))))) :
    a_SC_addLigature_0 G v1 v2 v3 v4 σ P := by
  refine r_iload_n (q := 1) (dc dt_SC_addLigature 0 rfl) rfl rfl 3 rfl ?_
  refine r_iconst (q := 2) (dc dt_SC_addLigature 1 rfl) rfl rfl ?_
  obtain ⟨o1, h⟩ := h
  have hJ : ∀ (w_0 : Int), w_0 = (if v3 = (-1) then 1 else 0) → A G m_SC_addLigature 10 [(0, O 1), (1, I v1), (2, I v2), (3, I v3), (4, I v4)] [I w_0] σ P := by
    intro w_0 z_0
    subst z_0
    refine r_istore (q := 12) (dc dt_SC_addLigature 6 rfl) rfl (by decide) rfl ?_
    refine r_aload_n (q := 13) (dc dt_SC_addLigature 7 rfl) rfl rfl 1 rfl ?_
    refine r_bipush (q := 15) (dc dt_SC_addLigature 8 rfl) rfl (by decide) ?_
    refine r_aload_n (q := 16) (dc dt_SC_addLigature 9 rfl) rfl rfl 1 rfl ?_
    refine r_getO (q := 19) (v := 47) fl_SC_21 (dc dt_SC_addLigature 10 rfl) rfl ly1 rfl ?_
    refine r_iload (q := 21) (dc dt_SC_addLigature 11 rfl) rfl 0 rfl ?_
    have hJ : ∀ (w_0 : Int), w_0 = (if ¬ (v3 = (-1)) then v3 else v2) → A G m_SC_addLigature 29 [(5, I (if v3 = (-1) then 1 else 0)), (0, O 1), (1, I v1), (2, I v2), (3, I v3), (4, I v4)] [I w_0, O 47, I 7, O 1] σ P := by
      intro w_0 z_0
      subst z_0
      obtain ⟨o2, h⟩ := h
      refine r_iald (q := 30) (v := σ.1 47 ((if ¬ (v3 = (-1)) then v3 else v2).toNat)) (dc dt_SC_addLigature 16 rfl) rfl ly47 o2 rfl (fun g3 => ?_)
      refine r_iload (q := 32) (dc dt_SC_addLigature 17 rfl) rfl 0 rfl ?_
      have hJ : ∀ (w_0 : Int), w_0 = (if ¬ (v3 = (-1)) then (3 : Int) else (2 : Int)) → A G m_SC_addLigature 40 [(5, I (if v3 = (-1) then 1 else 0)), (0, O 1), (1, I v1), (2, I v2), (3, I v3), (4, I v4)] [I w_0, I (σ.1 47 ((if ¬ (v3 = (-1)) then v3 else v2).toNat)), I 7, O 1] σ P := by
        intro w_0 z_0
        subst z_0
        refine r_callVi (q := 43) mk_SC_addLetter lm_SC_63 (RMO.of rfl) rfl (dc dt_SC_addLigature 22 rfl) rfl ly1 [I 7, I (σ.1 47 ((if ¬ (v3 = (-1)) then v3 else v2).toNat)), I (if ¬ (v3 = (-1)) then (3 : Int) else (2 : Int))] [] rfl rfl (Nat.le_of_ble_eq_true rfl) h (fun r5 u4 g6 h => ?_)
        refine r_istore (q := 45) (dc dt_SC_addLigature 23 rfl) rfl (by decide) rfl ?_
        refine r_aload_n (q := 46) (dc dt_SC_addLigature 24 rfl) rfl rfl 2 rfl ?_
        refine r_getO (q := 49) (v := 51) fl_SC_35 (dc dt_SC_addLigature 25 rfl) rfl ly1 rfl ?_
        refine r_aload_n (q := 50) (dc dt_SC_addLigature 26 rfl) rfl rfl 2 rfl ?_
        refine r_getI (q := 53) (v := u4.2.1 1 1) fl_SC_15 (dc dt_SC_addLigature 27 rfl) rfl ly1 rfl rfl (fun g7 => ?_)
        refine r_iload (q := 55) (dc dt_SC_addLigature 28 rfl) rfl 0 rfl ?_
        obtain ⟨o8, h⟩ := h
        refine r_iast (q := 56) (dc dt_SC_addLigature 29 rfl) rfl ly51 o8 g6 (fun σ9 e10 => ?_)
        have h := h σ9 e10
        refine r_aload_n (q := 57) (dc dt_SC_addLigature 30 rfl) rfl rfl 2 rfl ?_
        refine r_getO (q := 60) (v := 53) fl_SC_43 (dc dt_SC_addLigature 31 rfl) rfl ly1 rfl ?_
        refine r_aload_n (q := 61) (dc dt_SC_addLigature 32 rfl) rfl rfl 2 rfl ?_
        refine r_getI (q := 64) (v := u4.2.1 1 1) fl_SC_15 (dc dt_SC_addLigature 33 rfl) rfl ly1 rfl (by rw [e10]; rfl) (fun g11 => ?_)
        refine r_iload (q := 66) (dc dt_SC_addLigature 34 rfl) rfl 6 rfl ?_
        obtain ⟨o12, h⟩ := h
        refine r_zast (q := 67) (dc dt_SC_addLigature 35 rfl) rfl ly53 o8 o12 (fun σ13 e14 => ?_)
        have h := h σ13 e14
        refine r_aload_n (q := 68) (dc dt_SC_addLigature 36 rfl) rfl rfl 2 rfl ?_
        refine r_getO (q := 71) (v := 52) fl_SC_40 (dc dt_SC_addLigature 37 rfl) rfl ly1 rfl ?_
        refine r_aload_n (q := 72) (dc dt_SC_addLigature 38 rfl) rfl rfl 2 rfl ?_
        refine r_getI (q := 75) (v := u4.2.1 1 1) fl_SC_15 (dc dt_SC_addLigature 39 rfl) rfl ly1 rfl (by rw [e14, e10]; rfl) (fun g15 => ?_)
        refine r_aald (q := 76) (dc dt_SC_addLigature 40 rfl) rfl ly52 o8 rfl ?_
        refine r_iconst (q := 77) (dc dt_SC_addLigature 41 rfl) rfl rfl ?_
        refine r_iload_n (q := 78) (dc dt_SC_addLigature 42 rfl) rfl rfl 3 rfl ?_
        obtain ⟨o16, h⟩ := h
        refine r_iast (q := 79) (dc dt_SC_addLigature 43 rfl) rfl (lyr_168 o8) ⟨by decide, by decide⟩ o16 (fun σ17 e18 => ?_)
        have h := h σ17 e18
        refine r_aload_n (q := 80) (dc dt_SC_addLigature 44 rfl) rfl rfl 2 rfl ?_
        refine r_getO (q := 83) (v := 52) fl_SC_40 (dc dt_SC_addLigature 45 rfl) rfl ly1 rfl ?_
        refine r_aload_n (q := 84) (dc dt_SC_addLigature 46 rfl) rfl rfl 2 rfl ?_
        refine r_getI (q := 87) (v := u4.2.1 1 1) fl_SC_15 (dc dt_SC_addLigature 47 rfl) rfl ly1 rfl (by rw [e18, e14, e10]; rfl) (fun g19 => ?_)
        refine r_aald (q := 88) (dc dt_SC_addLigature 48 rfl) rfl ly52 o8 rfl ?_
        refine r_iconst (q := 89) (dc dt_SC_addLigature 49 rfl) rfl rfl ?_
        refine r_iload_n (q := 90) (dc dt_SC_addLigature 50 rfl) rfl rfl 4 rfl ?_
        obtain ⟨o20, h⟩ := h
        refine r_iast (q := 91) (dc dt_SC_addLigature 51 rfl) rfl (lyr_168 o8) ⟨by decide, by decide⟩ o20 (fun σ21 e22 => ?_)
        have h := h σ21 e22
        refine r_aload_n (q := 92) (dc dt_SC_addLigature 52 rfl) rfl rfl 2 rfl ?_
        refine r_getO (q := 95) (v := 52) fl_SC_40 (dc dt_SC_addLigature 53 rfl) rfl ly1 rfl ?_
        refine r_aload_n (q := 96) (dc dt_SC_addLigature 54 rfl) rfl rfl 2 rfl ?_
        refine r_getI (q := 99) (v := u4.2.1 1 1) fl_SC_15 (dc dt_SC_addLigature 55 rfl) rfl ly1 rfl (by rw [e22, e18, e14, e10]; rfl) (fun g23 => ?_)
        refine r_aald (q := 100) (dc dt_SC_addLigature 56 rfl) rfl ly52 o8 rfl ?_
        refine r_iconst (q := 101) (dc dt_SC_addLigature 57 rfl) rfl rfl ?_
        refine r_iload_n (q := 102) (dc dt_SC_addLigature 58 rfl) rfl rfl 5 rfl ?_
        refine r_iast (q := 103) (dc dt_SC_addLigature 59 rfl) rfl (lyr_168 o8) ⟨by decide, by decide⟩ o1 (fun σ24 e25 => ?_)
        have h := h σ24 e25
        refine r_aload_n (q := 104) (dc dt_SC_addLigature 60 rfl) rfl rfl 2 rfl ?_
        refine r_dupo (q := 105) (dc dt_SC_addLigature 61 rfl) rfl ?_
        refine r_getI (q := 108) (v := u4.2.1 1 1) fl_SC_15 (dc dt_SC_addLigature 62 rfl) rfl ly1 rfl (by rw [e25, e22, e18, e14, e10]; rfl) (fun g26 => ?_)
        refine r_iconst (q := 109) (dc dt_SC_addLigature 63 rfl) rfl rfl ?_
        refine r_iadd (q := 110) (dc dt_SC_addLigature 64 rfl) rfl ?_
        obtain ⟨o29, h⟩ := h
        refine r_put (q := 113) fl_SC_15 (dc dt_SC_addLigature 65 rfl) rfl ly1 (fun _ => rfl) (Or.inl rfl) pf_1_1 o29 (fun σ27 e28 => ?_)
        have h := h σ27 e28
        refine r_iload (q := 115) (dc dt_SC_addLigature 66 rfl) rfl 0 rfl ?_
        exact r_iret rfl (dc dt_SC_addLigature 67 rfl) g6 h
      clear h
      refine r_ifb_eq (q := 35) (t := 39) (dc dt_SC_addLigature 18 rfl) rfl (by decide) (fun q_ => ?_) (fun q_ => ?_)
      · have q30 := q_
        refine r_iconst (q := 40) (dc dt_SC_addLigature 21 rfl) rfl rfl ?_
        exact (hJ 3 ((if_pos (by first | omega | grind)).symm))
      · have q30 := q_
        refine r_iconst (q := 36) (dc dt_SC_addLigature 19 rfl) rfl rfl ?_
        refine r_goto (q := 40) (dc dt_SC_addLigature 20 rfl) (by decide) ?_
        exact (hJ 2 ((if_neg (by first | omega | grind)).symm))
    clear h
    refine r_ifb_eq (q := 24) (t := 28) (dc dt_SC_addLigature 12 rfl) rfl (by decide) (fun q_ => ?_) (fun q_ => ?_)
    · have q31 := q_
      refine r_iload_n (q := 29) (dc dt_SC_addLigature 15 rfl) rfl rfl 4 rfl ?_
      exact (hJ v3 ((if_pos (by first | omega | grind)).symm))
    · have q31 := q_
      refine r_iload_n (q := 25) (dc dt_SC_addLigature 13 rfl) rfl rfl 3 rfl ?_
      refine r_goto (q := 29) (dc dt_SC_addLigature 14 rfl) (by decide) ?_
      exact (hJ v2 ((if_neg (by first | omega | grind)).symm))
  clear h
  refine r_icmp_ne (q := 5) (t := 9) (dc dt_SC_addLigature 2 rfl) rfl (by decide) o1 (⟨by decide, by decide⟩ : rng (-1)) (fun q_ => ?_) (fun q_ => ?_)
  · have q32 := q_
    refine r_iconst (q := 10) (dc dt_SC_addLigature 5 rfl) rfl rfl ?_
    exact (hJ 0 ((if_neg (by first | omega | grind)).symm))
  · have q32 := q_
    refine r_iconst (q := 6) (dc dt_SC_addLigature 3 rfl) rfl rfl ?_
    refine r_goto (q := 10) (dc dt_SC_addLigature 4 rfl) (by decide) ?_
    exact (hJ 1 ((if_pos (by first | omega | grind)).symm))
def tb_JS_ligature : List (Nat × Instr × Nat) := [(0, .iload_n 3, 1), (1, .iconst (-1), 1), (2, .if_icmp .ne 7, 3), (5, .iconst 1, 1), (6, .goto 4, 3), (9, .iconst 0, 1), (10, .istore 5, 2), (12, .aload_n 0, 1), (13, .getfield 10, 3), (16, .iload_n 1, 1), (17, .invokevirtual 108, 3), (20, .ifCond .eq 30, 3), (23, .aload_n 0, 1), (24, .getfield 10, 3), (27, .iload_n 2, 1), (28, .invokevirtual 108, 3), (31, .ifCond .eq 19, 3), (34, .iload 5, 2), (36, .ifCond .ne 16, 3), (39, .aload_n 0, 1), (40, .getfield 10, 3), (43, .iload_n 3, 1), (44, .invokevirtual 108, 3), (47, .ifCond .ne 5, 3), (50, .iconst (-1), 1), (51, .ireturn, 1), (52, .aload_n 0, 1), (53, .getfield 10, 3), (56, .iload_n 1, 1), (57, .iload_n 2, 1), (58, .iload_n 3, 1), (59, .invokevirtual 112, 3), (62, .ifCond .ne 6, 3), (65, .bipush (-2), 2), (67, .ireturn, 1), (68, .aload_n 0, 1), (69, .getfield 10, 3), (72, .getfield 116, 3), (75, .bipush 8, 2), (77, .if_icmp .ge 15, 3), (80, .aload_n 0, 1), (81, .getfield 10, 3), (84, .getfield 101, 3), (87, .bipush 60, 2), (89, .if_icmp .lt 6, 3), (92, .bipush (-4), 2), (94, .ireturn, 1), (95, .aload_n 0, 1), (96, .getfield 10, 3), (99, .iload_n 1, 1), (100, .iload_n 2, 1), (101, .iload_n 3, 1), (102, .invokevirtual 119, 3), (105, .ifCond .eq 6, 3), (108, .bipush (-5), 2), (110, .ireturn, 1), (111, .aload_n 0, 1), (112, .dup, 1), (113, .getfield 76, 3), (116, .iconst 1, 1), (117, .iadd, 1), (118, .putfield 76, 3), (121, .aload_n 0, 1), (122, .getfield 10, 3), (125, .iload_n 1, 1), (126, .iload_n 2, 1), (127, .iload_n 3, 1), (128, .iload 4, 2), (130, .invokevirtual 122, 3), (133, .ireturn, 1)]
theorem dt_JS_ligature : DT (cM m_JS_ligature) tb_JS_ligature := by unfold DT; decide +kernel
abbrev a_JS_ligature_0 (G : GT)  (v1 : Int) (v2 : Int) (v3 : Int) (v4 : Int) (σ : St) (P : Int → St → Prop) : Prop := A G m_JS_ligature 0 [(0, O 0), (1, I v1), (2, I v2), (3, I v3), (4, I v4)] [] σ P
set_option maxRecDepth 20000 in
theorem k_JS_ligature_0 {G : GT} {σ : St} {P : Int → St → Prop}  {v1 : Int} {v2 : Int} {v3 : Int} {v4 : Int}  
    (h : rng v3 ∧ rng v1 ∧ (0 ≤ v1 → rng ((σ.2.1 1 0) - 1)) ∧ (¬ (0 ≤ v1 ∧ v1 ≤ ((σ.2.1 1 0) - 1)) → P (-1) σ) ∧ (0 ≤ v1 ∧ v1 ≤ ((σ.2.1 1 0) - 1) → rng v2 ∧ (0 ≤ v2 → rng ((σ.2.1 1 0) - 1)) ∧ (¬ (0 ≤ v2 ∧ v2 ≤ ((σ.2.1 1 0) - 1)) → P (-1) σ) ∧ (0 ≤ v2 ∧ v2 ≤ ((σ.2.1 1 0) - 1) → (v3 = (-1) → CJ G m_SC_canJoinUp [O 1, I v1, I v2, I v3] σ (fun r9 u8 => (r9 ≠ 0 → (8 ≤ u8.2.1 1 1 → P (-4) u8) ∧ (u8.2.1 1 1 < 8 → (u8.2.1 1 0 < 60 → CJ G m_SC_hasLigature [O 1, I v1, I v2, I v3] u8 (fun r14 u13 => (r14 = 0 → rng ((u13.2.1 0 9) + 1) ∧ (∀ σ17, σ17 = sf u13 0 9 ((u13.2.1 0 9) + 1) → CJ G m_SC_addLigature [O 1, I v1, I v2, I v3, I v4] σ17 (fun r21 u20 => P r21 u20))) ∧ (r14 ≠ 0 → P (-5) u13))) ∧ (60 ≤ u8.2.1 1 0 → P (-4) u8))) ∧ (r9 = 0 → P (-2) u8))) ∧ (¬ (v3 = (-1)) → (0 ≤ v3 → rng ((σ.2.1 1 0) - 1)) ∧ (0 ≤ v3 ∧ v3 ≤ ((σ.2.1 1 0) - 1) → CJ G m_SC_canJoinUp [O 1, I v1, I v2, I v3] σ (fun r26 u25 => (r26 ≠ 0 → (8 ≤ u25.2.1 1 1 → P (-4) u25) ∧ (u25.2.1 1 1 < 8 → (u25.2.1 1 0 < 60 → CJ G m_SC_hasLigature [O 1, I v1, I v2, I v3] u25 (fun r31 u30 => (r31 = 0 → rng ((u30.2.1 0 9) + 1) ∧ (∀ σ34, σ34 = sf u30 0 9 ((u30.2.1 0 9) + 1) → CJ G m_SC_addLigature [O 1, I v1, I v2, I v3, I v4] σ34 (fun r38 u37 => P r38 u37))) ∧ (r31 ≠ 0 → P (-5) u30))) ∧ (60 ≤ u25.2.1 1 0 → P (-4) u25))) ∧ (r26 = 0 → P (-2) u25))) ∧ (¬ (0 ≤ v3 ∧ v3 ≤ ((σ.2.1 1 0) - 1)) → P (-1) σ))))) :
    a_JS_ligature_0 G v1 v2 v3 v4 σ P := by
  refine r_iload_n (q := 1) (dc dt_JS_ligature 0 rfl) rfl rfl 3 rfl ?_
  refine r_iconst (q := 2) (dc dt_JS_ligature 1 rfl) rfl rfl ?_
  obtain ⟨o1, h⟩ := h
  have hJ : ∀ (w_0 : Int), w_0 = (if v3 = (-1) then 1 else 0) → A G m_JS_ligature 10 [(0, O 0), (1, I v1), (2, I v2), (3, I v3), (4, I v4)] [I w_0] σ P := by
    intro w_0 z_0
    subst z_0
    refine r_istore (q := 12) (dc dt_JS_ligature 6 rfl) rfl (by decide) rfl ?_
    refine r_aload_n (q := 13) (dc dt_JS_ligature 7 rfl) rfl rfl 1 rfl ?_
    refine r_getO (q := 16) (v := 1) fl_JS_10 (dc dt_JS_ligature 8 rfl) rfl ly0 rfl ?_
    refine r_iload_n (q := 17) (dc dt_JS_ligature 9 rfl) rfl rfl 2 rfl ?_
    obtain ⟨o2, h⟩ := h
    obtain ⟨o3, h⟩ := h
    refine r_callVi (q := 20) mk_SC_knows lm_JS_108 (RMO.of rfl) rfl (dc dt_JS_ligature 10 rfl) rfl ly1 [I v1] [] rfl rfl (Nat.le_of_ble_eq_true rfl) (sp_SC_knows o2 o3) (fun _ _ g4 z => ?_)
    obtain ⟨z, w⟩ := z
    subst z
    replace w := w.symm
    subst w
    refine r_ifb_eq (q := 23) (t := 50) (dc dt_JS_ligature 11 rfl) rfl (by decide) (fun q_ => ?_) (fun q_ => ?_)
    · have h := h.1 q_
      refine r_iconst (q := 51) (dc dt_JS_ligature 24 rfl) rfl rfl ?_
      exact r_iret rfl (dc dt_JS_ligature 25 rfl) (⟨by decide, by decide⟩ : rng (-1)) h
    · have h := h.2 q_
      refine r_aload_n (q := 24) (dc dt_JS_ligature 12 rfl) rfl rfl 1 rfl ?_
      refine r_getO (q := 27) (v := 1) fl_JS_10 (dc dt_JS_ligature 13 rfl) rfl ly0 rfl ?_
      refine r_iload_n (q := 28) (dc dt_JS_ligature 14 rfl) rfl rfl 3 rfl ?_
      obtain ⟨o5, h⟩ := h
      obtain ⟨o6, h⟩ := h
      refine r_callVi (q := 31) mk_SC_knows lm_JS_108 (RMO.of rfl) rfl (dc dt_JS_ligature 15 rfl) rfl ly1 [I v2] [] rfl rfl (Nat.le_of_ble_eq_true rfl) (sp_SC_knows o5 o6) (fun _ _ g7 z => ?_)
      obtain ⟨z, w⟩ := z
      subst z
      replace w := w.symm
      subst w
      refine r_ifb_eq (q := 34) (t := 50) (dc dt_JS_ligature 16 rfl) rfl (by decide) (fun q_ => ?_) (fun q_ => ?_)
      · have h := h.1 q_
        refine r_iconst (q := 51) (dc dt_JS_ligature 24 rfl) rfl rfl ?_
        exact r_iret rfl (dc dt_JS_ligature 25 rfl) (⟨by decide, by decide⟩ : rng (-1)) h
      · have h := h.2 q_
        refine r_iload (q := 36) (dc dt_JS_ligature 17 rfl) rfl 0 rfl ?_
        refine r_ifb_ne (q := 39) (t := 52) (dc dt_JS_ligature 18 rfl) rfl (by decide) (fun q_ => ?_) (fun q_ => ?_)
        · have h := h.1 q_
          refine r_aload_n (q := 53) (dc dt_JS_ligature 26 rfl) rfl rfl 1 rfl ?_
          refine r_getO (q := 56) (v := 1) fl_JS_10 (dc dt_JS_ligature 27 rfl) rfl ly0 rfl ?_
          refine r_iload_n (q := 57) (dc dt_JS_ligature 28 rfl) rfl rfl 2 rfl ?_
          refine r_iload_n (q := 58) (dc dt_JS_ligature 29 rfl) rfl rfl 3 rfl ?_
          refine r_iload_n (q := 59) (dc dt_JS_ligature 30 rfl) rfl rfl 4 rfl ?_
          refine r_callVi (q := 62) mk_SC_canJoinUp lm_JS_112 (RMO.of rfl) rfl (dc dt_JS_ligature 31 rfl) rfl ly1 [I v1, I v2, I v3] [] rfl rfl (Nat.le_of_ble_eq_true rfl) h (fun r9 u8 g10 h => ?_)
          refine r_if_ne (q := 65) (t := 68) (dc dt_JS_ligature 32 rfl) rfl (by decide) g10 (fun q_ => ?_) (fun q_ => ?_)
          · have h := h.1 q_
            refine r_aload_n (q := 69) (dc dt_JS_ligature 35 rfl) rfl rfl 1 rfl ?_
            refine r_getO (q := 72) (v := 1) fl_JS_10 (dc dt_JS_ligature 36 rfl) rfl ly0 rfl ?_
            refine r_getI (q := 75) (v := u8.2.1 1 1) fl_JS_116 (dc dt_JS_ligature 37 rfl) rfl ly1 rfl rfl (fun g11 => ?_)
            refine r_bipush (q := 77) (dc dt_JS_ligature 38 rfl) rfl (by decide) ?_
            refine r_icmp_ge (q := 80) (t := 92) (dc dt_JS_ligature 39 rfl) rfl (by decide) g11 (⟨by decide, by decide⟩ : rng 8) (fun q_ => ?_) (fun q_ => ?_)
            · have h := h.1 q_
              refine r_bipush (q := 94) (dc dt_JS_ligature 45 rfl) rfl (by decide) ?_
              exact r_iret rfl (dc dt_JS_ligature 46 rfl) (⟨by decide, by decide⟩ : rng (-4)) h
            · have h := h.2 q_
              refine r_aload_n (q := 81) (dc dt_JS_ligature 40 rfl) rfl rfl 1 rfl ?_
              refine r_getO (q := 84) (v := 1) fl_JS_10 (dc dt_JS_ligature 41 rfl) rfl ly0 rfl ?_
              refine r_getI (q := 87) (v := u8.2.1 1 0) fl_JS_101 (dc dt_JS_ligature 42 rfl) rfl ly1 rfl rfl (fun g12 => ?_)
              refine r_bipush (q := 89) (dc dt_JS_ligature 43 rfl) rfl (by decide) ?_
              refine r_icmp_lt (q := 92) (t := 95) (dc dt_JS_ligature 44 rfl) rfl (by decide) g12 (⟨by decide, by decide⟩ : rng 60) (fun q_ => ?_) (fun q_ => ?_)
              · have h := h.1 q_
                refine r_aload_n (q := 96) (dc dt_JS_ligature 47 rfl) rfl rfl 1 rfl ?_
                refine r_getO (q := 99) (v := 1) fl_JS_10 (dc dt_JS_ligature 48 rfl) rfl ly0 rfl ?_
                refine r_iload_n (q := 100) (dc dt_JS_ligature 49 rfl) rfl rfl 2 rfl ?_
                refine r_iload_n (q := 101) (dc dt_JS_ligature 50 rfl) rfl rfl 3 rfl ?_
                refine r_iload_n (q := 102) (dc dt_JS_ligature 51 rfl) rfl rfl 4 rfl ?_
                refine r_callVi (q := 105) mk_SC_hasLigature lm_JS_119 (RMO.of rfl) rfl (dc dt_JS_ligature 52 rfl) rfl ly1 [I v1, I v2, I v3] [] rfl rfl (Nat.le_of_ble_eq_true rfl) h (fun r14 u13 g15 h => ?_)
                refine r_if_eq (q := 108) (t := 111) (dc dt_JS_ligature 53 rfl) rfl (by decide) g15 (fun q_ => ?_) (fun q_ => ?_)
                · have h := h.1 q_
                  refine r_aload_n (q := 112) (dc dt_JS_ligature 56 rfl) rfl rfl 1 rfl ?_
                  refine r_dupo (q := 113) (dc dt_JS_ligature 57 rfl) rfl ?_
                  refine r_getI (q := 116) (v := u13.2.1 0 9) fl_JS_76 (dc dt_JS_ligature 58 rfl) rfl ly0 rfl rfl (fun g16 => ?_)
                  refine r_iconst (q := 117) (dc dt_JS_ligature 59 rfl) rfl rfl ?_
                  refine r_iadd (q := 118) (dc dt_JS_ligature 60 rfl) rfl ?_
                  obtain ⟨o19, h⟩ := h
                  refine r_put (q := 121) fl_JS_76 (dc dt_JS_ligature 61 rfl) rfl ly0 (fun _ => rfl) (Or.inl rfl) pf_0_9 o19 (fun σ17 e18 => ?_)
                  have h := h σ17 e18
                  refine r_aload_n (q := 122) (dc dt_JS_ligature 62 rfl) rfl rfl 1 rfl ?_
                  refine r_getO (q := 125) (v := 1) fl_JS_10 (dc dt_JS_ligature 63 rfl) rfl ly0 rfl ?_
                  refine r_iload_n (q := 126) (dc dt_JS_ligature 64 rfl) rfl rfl 2 rfl ?_
                  refine r_iload_n (q := 127) (dc dt_JS_ligature 65 rfl) rfl rfl 3 rfl ?_
                  refine r_iload_n (q := 128) (dc dt_JS_ligature 66 rfl) rfl rfl 4 rfl ?_
                  refine r_iload (q := 130) (dc dt_JS_ligature 67 rfl) rfl 5 rfl ?_
                  refine r_callVi (q := 133) mk_SC_addLigature lm_JS_122 (RMO.of rfl) rfl (dc dt_JS_ligature 68 rfl) rfl ly1 [I v1, I v2, I v3, I v4] [] rfl rfl (Nat.le_of_ble_eq_true rfl) h (fun r21 u20 g22 h => ?_)
                  exact r_iret rfl (dc dt_JS_ligature 69 rfl) g22 h
                · have h := h.2 q_
                  refine r_bipush (q := 110) (dc dt_JS_ligature 54 rfl) rfl (by decide) ?_
                  exact r_iret rfl (dc dt_JS_ligature 55 rfl) (⟨by decide, by decide⟩ : rng (-5)) h
              · have h := h.2 q_
                refine r_bipush (q := 94) (dc dt_JS_ligature 45 rfl) rfl (by decide) ?_
                exact r_iret rfl (dc dt_JS_ligature 46 rfl) (⟨by decide, by decide⟩ : rng (-4)) h
          · have h := h.2 q_
            refine r_bipush (q := 67) (dc dt_JS_ligature 33 rfl) rfl (by decide) ?_
            exact r_iret rfl (dc dt_JS_ligature 34 rfl) (⟨by decide, by decide⟩ : rng (-2)) h
        · have h := h.2 q_
          refine r_aload_n (q := 40) (dc dt_JS_ligature 19 rfl) rfl rfl 1 rfl ?_
          refine r_getO (q := 43) (v := 1) fl_JS_10 (dc dt_JS_ligature 20 rfl) rfl ly0 rfl ?_
          refine r_iload_n (q := 44) (dc dt_JS_ligature 21 rfl) rfl rfl 4 rfl ?_
          obtain ⟨o23, h⟩ := h
          refine r_callVi (q := 47) mk_SC_knows lm_JS_108 (RMO.of rfl) rfl (dc dt_JS_ligature 22 rfl) rfl ly1 [I v3] [] rfl rfl (Nat.le_of_ble_eq_true rfl) (sp_SC_knows o1 o23) (fun _ _ g24 z => ?_)
          obtain ⟨z, w⟩ := z
          subst z
          replace w := w.symm
          subst w
          refine r_ifb_ne (q := 50) (t := 52) (dc dt_JS_ligature 23 rfl) rfl (by decide) (fun q_ => ?_) (fun q_ => ?_)
          · have h := h.1 q_
            refine r_aload_n (q := 53) (dc dt_JS_ligature 26 rfl) rfl rfl 1 rfl ?_
            refine r_getO (q := 56) (v := 1) fl_JS_10 (dc dt_JS_ligature 27 rfl) rfl ly0 rfl ?_
            refine r_iload_n (q := 57) (dc dt_JS_ligature 28 rfl) rfl rfl 2 rfl ?_
            refine r_iload_n (q := 58) (dc dt_JS_ligature 29 rfl) rfl rfl 3 rfl ?_
            refine r_iload_n (q := 59) (dc dt_JS_ligature 30 rfl) rfl rfl 4 rfl ?_
            refine r_callVi (q := 62) mk_SC_canJoinUp lm_JS_112 (RMO.of rfl) rfl (dc dt_JS_ligature 31 rfl) rfl ly1 [I v1, I v2, I v3] [] rfl rfl (Nat.le_of_ble_eq_true rfl) h (fun r26 u25 g27 h => ?_)
            refine r_if_ne (q := 65) (t := 68) (dc dt_JS_ligature 32 rfl) rfl (by decide) g27 (fun q_ => ?_) (fun q_ => ?_)
            · have h := h.1 q_
              refine r_aload_n (q := 69) (dc dt_JS_ligature 35 rfl) rfl rfl 1 rfl ?_
              refine r_getO (q := 72) (v := 1) fl_JS_10 (dc dt_JS_ligature 36 rfl) rfl ly0 rfl ?_
              refine r_getI (q := 75) (v := u25.2.1 1 1) fl_JS_116 (dc dt_JS_ligature 37 rfl) rfl ly1 rfl rfl (fun g28 => ?_)
              refine r_bipush (q := 77) (dc dt_JS_ligature 38 rfl) rfl (by decide) ?_
              refine r_icmp_ge (q := 80) (t := 92) (dc dt_JS_ligature 39 rfl) rfl (by decide) g28 (⟨by decide, by decide⟩ : rng 8) (fun q_ => ?_) (fun q_ => ?_)
              · have h := h.1 q_
                refine r_bipush (q := 94) (dc dt_JS_ligature 45 rfl) rfl (by decide) ?_
                exact r_iret rfl (dc dt_JS_ligature 46 rfl) (⟨by decide, by decide⟩ : rng (-4)) h
              · have h := h.2 q_
                refine r_aload_n (q := 81) (dc dt_JS_ligature 40 rfl) rfl rfl 1 rfl ?_
                refine r_getO (q := 84) (v := 1) fl_JS_10 (dc dt_JS_ligature 41 rfl) rfl ly0 rfl ?_
                refine r_getI (q := 87) (v := u25.2.1 1 0) fl_JS_101 (dc dt_JS_ligature 42 rfl) rfl ly1 rfl rfl (fun g29 => ?_)
                refine r_bipush (q := 89) (dc dt_JS_ligature 43 rfl) rfl (by decide) ?_
                refine r_icmp_lt (q := 92) (t := 95) (dc dt_JS_ligature 44 rfl) rfl (by decide) g29 (⟨by decide, by decide⟩ : rng 60) (fun q_ => ?_) (fun q_ => ?_)
                · have h := h.1 q_
                  refine r_aload_n (q := 96) (dc dt_JS_ligature 47 rfl) rfl rfl 1 rfl ?_
                  refine r_getO (q := 99) (v := 1) fl_JS_10 (dc dt_JS_ligature 48 rfl) rfl ly0 rfl ?_
                  refine r_iload_n (q := 100) (dc dt_JS_ligature 49 rfl) rfl rfl 2 rfl ?_
                  refine r_iload_n (q := 101) (dc dt_JS_ligature 50 rfl) rfl rfl 3 rfl ?_
                  refine r_iload_n (q := 102) (dc dt_JS_ligature 51 rfl) rfl rfl 4 rfl ?_
                  refine r_callVi (q := 105) mk_SC_hasLigature lm_JS_119 (RMO.of rfl) rfl (dc dt_JS_ligature 52 rfl) rfl ly1 [I v1, I v2, I v3] [] rfl rfl (Nat.le_of_ble_eq_true rfl) h (fun r31 u30 g32 h => ?_)
                  refine r_if_eq (q := 108) (t := 111) (dc dt_JS_ligature 53 rfl) rfl (by decide) g32 (fun q_ => ?_) (fun q_ => ?_)
                  · have h := h.1 q_
                    refine r_aload_n (q := 112) (dc dt_JS_ligature 56 rfl) rfl rfl 1 rfl ?_
                    refine r_dupo (q := 113) (dc dt_JS_ligature 57 rfl) rfl ?_
                    refine r_getI (q := 116) (v := u30.2.1 0 9) fl_JS_76 (dc dt_JS_ligature 58 rfl) rfl ly0 rfl rfl (fun g33 => ?_)
                    refine r_iconst (q := 117) (dc dt_JS_ligature 59 rfl) rfl rfl ?_
                    refine r_iadd (q := 118) (dc dt_JS_ligature 60 rfl) rfl ?_
                    obtain ⟨o36, h⟩ := h
                    refine r_put (q := 121) fl_JS_76 (dc dt_JS_ligature 61 rfl) rfl ly0 (fun _ => rfl) (Or.inl rfl) pf_0_9 o36 (fun σ34 e35 => ?_)
                    have h := h σ34 e35
                    refine r_aload_n (q := 122) (dc dt_JS_ligature 62 rfl) rfl rfl 1 rfl ?_
                    refine r_getO (q := 125) (v := 1) fl_JS_10 (dc dt_JS_ligature 63 rfl) rfl ly0 rfl ?_
                    refine r_iload_n (q := 126) (dc dt_JS_ligature 64 rfl) rfl rfl 2 rfl ?_
                    refine r_iload_n (q := 127) (dc dt_JS_ligature 65 rfl) rfl rfl 3 rfl ?_
                    refine r_iload_n (q := 128) (dc dt_JS_ligature 66 rfl) rfl rfl 4 rfl ?_
                    refine r_iload (q := 130) (dc dt_JS_ligature 67 rfl) rfl 5 rfl ?_
                    refine r_callVi (q := 133) mk_SC_addLigature lm_JS_122 (RMO.of rfl) rfl (dc dt_JS_ligature 68 rfl) rfl ly1 [I v1, I v2, I v3, I v4] [] rfl rfl (Nat.le_of_ble_eq_true rfl) h (fun r38 u37 g39 h => ?_)
                    exact r_iret rfl (dc dt_JS_ligature 69 rfl) g39 h
                  · have h := h.2 q_
                    refine r_bipush (q := 110) (dc dt_JS_ligature 54 rfl) rfl (by decide) ?_
                    exact r_iret rfl (dc dt_JS_ligature 55 rfl) (⟨by decide, by decide⟩ : rng (-5)) h
                · have h := h.2 q_
                  refine r_bipush (q := 94) (dc dt_JS_ligature 45 rfl) rfl (by decide) ?_
                  exact r_iret rfl (dc dt_JS_ligature 46 rfl) (⟨by decide, by decide⟩ : rng (-4)) h
            · have h := h.2 q_
              refine r_bipush (q := 67) (dc dt_JS_ligature 33 rfl) rfl (by decide) ?_
              exact r_iret rfl (dc dt_JS_ligature 34 rfl) (⟨by decide, by decide⟩ : rng (-2)) h
          · have h := h.2 q_
            refine r_iconst (q := 51) (dc dt_JS_ligature 24 rfl) rfl rfl ?_
            exact r_iret rfl (dc dt_JS_ligature 25 rfl) (⟨by decide, by decide⟩ : rng (-1)) h
  clear h
  refine r_icmp_ne (q := 5) (t := 9) (dc dt_JS_ligature 2 rfl) rfl (by decide) o1 (⟨by decide, by decide⟩ : rng (-1)) (fun q_ => ?_) (fun q_ => ?_)
  · have q40 := q_
    refine r_iconst (q := 10) (dc dt_JS_ligature 5 rfl) rfl rfl ?_
    exact (hJ 0 ((if_neg (by first | omega | grind)).symm))
  · have q40 := q_
    refine r_iconst (q := 6) (dc dt_JS_ligature 3 rfl) rfl rfl ?_
    refine r_goto (q := 10) (dc dt_JS_ligature 4 rfl) (by decide) ?_
    exact (hJ 1 ((if_pos (by first | omega | grind)).symm))
def tb_JS_wholeWidth : List (Nat × Instr × Nat) := [(0, .iload_n 0, 1), (1, .bipush 23, 2), (3, .ishr, 1), (4, .istore_n 1, 1), (5, .iload_n 1, 1), (6, .bipush 126, 2), (8, .sipush 133, 3), (11, .invokestatic 134, 3), (14, .ifCond .ne 5, 3), (17, .iconst 0, 1), (18, .ireturn, 1), (19, .sipush 150, 3), (22, .iload_n 1, 1), (23, .isub, 1), (24, .istore_n 2, 1), (25, .iload_n 0, 1), (26, .ldc_w 372, 3), (29, .iand, 1), (30, .ldc_w 373, 3), (33, .ior, 1), (34, .istore_n 3, 1), (35, .iload_n 3, 1), (36, .iload_n 2, 1), (37, .ishr, 1), (38, .istore 4, 2), (40, .iload_n 3, 1), (41, .iload 4, 2), (43, .iload_n 2, 1), (44, .ishl, 1), (45, .isub, 1), (46, .istore 5, 2), (48, .iconst 1, 1), (49, .iload_n 2, 1), (50, .iconst 1, 1), (51, .isub, 1), (52, .ishl, 1), (53, .istore 6, 2), (55, .iload 5, 2), (57, .iload 6, 2), (59, .if_icmp .gt 18, 3), (62, .iload 5, 2), (64, .iload 6, 2), (66, .if_icmp .ne 15, 3), (69, .iload 4, 2), (71, .iconst 1, 1), (72, .iand, 1), (73, .iconst 1, 1), (74, .if_icmp .ne 7, 3), (77, .iconst 1, 1), (78, .goto 4, 3), (81, .iconst 0, 1), (82, .istore 7, 2), (84, .iload 7, 2), (86, .ifCond .eq 10, 3), (89, .iload 4, 2), (91, .iconst 1, 1), (92, .iadd, 1), (93, .goto 5, 3), (96, .iload 4, 2), (98, .ireturn, 1)]
theorem dt_JS_wholeWidth : DT (cM m_JS_wholeWidth) tb_JS_wholeWidth := by unfold DT; decide +kernel
abbrev a_JS_wholeWidth_0 (G : GT)  (v0 : Int) (σ : St) (P : Int → St → Prop) : Prop := A G m_JS_wholeWidth 0 [(0, I v0)] [] σ P
set_option maxRecDepth 20000 in
theorem k_JS_wholeWidth_0 {G : GT} {σ : St} {P : Int → St → Prop}  {v0 : Int}  
    (h : (126 ≤ ((Int32.ofInt v0 >>> (Int32.ofInt 23 &&& 31)).toInt) → rng 133) ∧ (126 ≤ ((Int32.ofInt v0 >>> (Int32.ofInt 23 &&& 31)).toInt) ∧ ((Int32.ofInt v0 >>> (Int32.ofInt 23 &&& 31)).toInt) ≤ 133 → rng (((Int32.ofInt ((Int32.ofInt v0 &&& Int32.ofInt 8388607).toInt) ||| Int32.ofInt 8388608).toInt) - ((Int32.ofInt ((Int32.ofInt ((Int32.ofInt ((Int32.ofInt v0 &&& Int32.ofInt 8388607).toInt) ||| Int32.ofInt 8388608).toInt) >>> (Int32.ofInt (150 - ((Int32.ofInt v0 >>> (Int32.ofInt 23 &&& 31)).toInt)) &&& 31)).toInt) <<< (Int32.ofInt (150 - ((Int32.ofInt v0 >>> (Int32.ofInt 23 &&& 31)).toInt)) &&& 31)).toInt)) ∧ (rng (if ¬ ((Int32.ofInt 1 <<< (Int32.ofInt ((150 - ((Int32.ofInt v0 >>> (Int32.ofInt 23 &&& 31)).toInt)) - 1) &&& 31)).toInt < ((Int32.ofInt ((Int32.ofInt v0 &&& Int32.ofInt 8388607).toInt) ||| Int32.ofInt 8388608).toInt) - ((Int32.ofInt ((Int32.ofInt ((Int32.ofInt ((Int32.ofInt v0 &&& Int32.ofInt 8388607).toInt) ||| Int32.ofInt 8388608).toInt) >>> (Int32.ofInt (150 - ((Int32.ofInt v0 >>> (Int32.ofInt 23 &&& 31)).toInt)) &&& 31)).toInt) <<< (Int32.ofInt (150 - ((Int32.ofInt v0 >>> (Int32.ofInt 23 &&& 31)).toInt)) &&& 31)).toInt) ∨ (((Int32.ofInt ((Int32.ofInt v0 &&& Int32.ofInt 8388607).toInt) ||| Int32.ofInt 8388608).toInt) - ((Int32.ofInt ((Int32.ofInt ((Int32.ofInt ((Int32.ofInt v0 &&& Int32.ofInt 8388607).toInt) ||| Int32.ofInt 8388608).toInt) >>> (Int32.ofInt (150 - ((Int32.ofInt v0 >>> (Int32.ofInt 23 &&& 31)).toInt)) &&& 31)).toInt) <<< (Int32.ofInt (150 - ((Int32.ofInt v0 >>> (Int32.ofInt 23 &&& 31)).toInt)) &&& 31)).toInt) = (Int32.ofInt 1 <<< (Int32.ofInt ((150 - ((Int32.ofInt v0 >>> (Int32.ofInt 23 &&& 31)).toInt)) - 1) &&& 31)).toInt ∧ (Int32.ofInt ((Int32.ofInt ((Int32.ofInt ((Int32.ofInt v0 &&& Int32.ofInt 8388607).toInt) ||| Int32.ofInt 8388608).toInt) >>> (Int32.ofInt (150 - ((Int32.ofInt v0 >>> (Int32.ofInt 23 &&& 31)).toInt)) &&& 31)).toInt) &&& Int32.ofInt 1).toInt = 1)) then (Int32.ofInt ((Int32.ofInt ((Int32.ofInt v0 &&& Int32.ofInt 8388607).toInt) ||| Int32.ofInt 8388608).toInt) >>> (Int32.ofInt (150 - ((Int32.ofInt v0 >>> (Int32.ofInt 23 &&& 31)).toInt)) &&& 31)).toInt else ((Int32.ofInt ((Int32.ofInt ((Int32.ofInt v0 &&& Int32.ofInt 8388607).toInt) ||| Int32.ofInt 8388608).toInt) >>> (Int32.ofInt (150 - ((Int32.ofInt v0 >>> (Int32.ofInt 23 &&& 31)).toInt)) &&& 31)).toInt) + 1)) ∧ P (if ¬ ((Int32.ofInt 1 <<< (Int32.ofInt ((150 - ((Int32.ofInt v0 >>> (Int32.ofInt 23 &&& 31)).toInt)) - 1) &&& 31)).toInt < ((Int32.ofInt ((Int32.ofInt v0 &&& Int32.ofInt 8388607).toInt) ||| Int32.ofInt 8388608).toInt) - ((Int32.ofInt ((Int32.ofInt ((Int32.ofInt ((Int32.ofInt v0 &&& Int32.ofInt 8388607).toInt) ||| Int32.ofInt 8388608).toInt) >>> (Int32.ofInt (150 - ((Int32.ofInt v0 >>> (Int32.ofInt 23 &&& 31)).toInt)) &&& 31)).toInt) <<< (Int32.ofInt (150 - ((Int32.ofInt v0 >>> (Int32.ofInt 23 &&& 31)).toInt)) &&& 31)).toInt) ∨ (((Int32.ofInt ((Int32.ofInt v0 &&& Int32.ofInt 8388607).toInt) ||| Int32.ofInt 8388608).toInt) - ((Int32.ofInt ((Int32.ofInt ((Int32.ofInt ((Int32.ofInt v0 &&& Int32.ofInt 8388607).toInt) ||| Int32.ofInt 8388608).toInt) >>> (Int32.ofInt (150 - ((Int32.ofInt v0 >>> (Int32.ofInt 23 &&& 31)).toInt)) &&& 31)).toInt) <<< (Int32.ofInt (150 - ((Int32.ofInt v0 >>> (Int32.ofInt 23 &&& 31)).toInt)) &&& 31)).toInt) = (Int32.ofInt 1 <<< (Int32.ofInt ((150 - ((Int32.ofInt v0 >>> (Int32.ofInt 23 &&& 31)).toInt)) - 1) &&& 31)).toInt ∧ (Int32.ofInt ((Int32.ofInt ((Int32.ofInt ((Int32.ofInt v0 &&& Int32.ofInt 8388607).toInt) ||| Int32.ofInt 8388608).toInt) >>> (Int32.ofInt (150 - ((Int32.ofInt v0 >>> (Int32.ofInt 23 &&& 31)).toInt)) &&& 31)).toInt) &&& Int32.ofInt 1).toInt = 1)) then (Int32.ofInt ((Int32.ofInt ((Int32.ofInt v0 &&& Int32.ofInt 8388607).toInt) ||| Int32.ofInt 8388608).toInt) >>> (Int32.ofInt (150 - ((Int32.ofInt v0 >>> (Int32.ofInt 23 &&& 31)).toInt)) &&& 31)).toInt else ((Int32.ofInt ((Int32.ofInt ((Int32.ofInt v0 &&& Int32.ofInt 8388607).toInt) ||| Int32.ofInt 8388608).toInt) >>> (Int32.ofInt (150 - ((Int32.ofInt v0 >>> (Int32.ofInt 23 &&& 31)).toInt)) &&& 31)).toInt) + 1) σ) ∧ (¬ (126 ≤ ((Int32.ofInt v0 >>> (Int32.ofInt 23 &&& 31)).toInt) ∧ ((Int32.ofInt v0 >>> (Int32.ofInt 23 &&& 31)).toInt) ≤ 133) → P 0 σ)) :
    a_JS_wholeWidth_0 G v0 σ P := by
  refine r_iload_n (q := 1) (dc dt_JS_wholeWidth 0 rfl) rfl rfl 0 rfl ?_
  refine r_bipush (q := 3) (dc dt_JS_wholeWidth 1 rfl) rfl (by decide) ?_
  refine r_ishr (q := 4) (dc dt_JS_wholeWidth 2 rfl) rfl ?_
  refine r_istore_n (q := 5) (dc dt_JS_wholeWidth 3 rfl) rfl rfl (by decide) rfl ?_
  refine r_iload_n (q := 6) (dc dt_JS_wholeWidth 4 rfl) rfl rfl 0 rfl ?_
  refine r_bipush (q := 8) (dc dt_JS_wholeWidth 5 rfl) rfl (by decide) ?_
  refine r_sipush (q := 11) (dc dt_JS_wholeWidth 6 rfl) rfl (by decide) ?_
  obtain ⟨o1, h⟩ := h
  refine r_callSi (q := 14) mk_JS_within lm_JS_134 (RMO.of rfl) rfl (dc dt_JS_wholeWidth 7 rfl) rfl [I ((Int32.ofInt v0 >>> (Int32.ofInt 23 &&& 31)).toInt), I 126, I 133] [] rfl rfl (Nat.le_of_ble_eq_true rfl) (sp_JS_within (rng_toInt _) (⟨by decide, by decide⟩ : rng 126) o1) (fun _ _ g2 z => ?_)
  obtain ⟨z, w⟩ := z
  subst z
  replace w := w.symm
  subst w
  refine r_ifb_ne (q := 17) (t := 19) (dc dt_JS_wholeWidth 8 rfl) rfl (by decide) (fun q_ => ?_) (fun q_ => ?_)
  · have h := h.1 q_
    refine r_sipush (q := 22) (dc dt_JS_wholeWidth 11 rfl) rfl (by decide) ?_
    refine r_iload_n (q := 23) (dc dt_JS_wholeWidth 12 rfl) rfl rfl 0 rfl ?_
    refine r_isub (q := 24) (dc dt_JS_wholeWidth 13 rfl) rfl ?_
    refine r_istore_n (q := 25) (dc dt_JS_wholeWidth 14 rfl) rfl rfl (by decide) rfl ?_
    refine r_iload_n (q := 26) (dc dt_JS_wholeWidth 15 rfl) rfl rfl 2 rfl ?_
    refine r_ldcw (q := 29) (n := 8388607) (dc dt_JS_wholeWidth 16 rfl) rfl (gt_at 629 (by decide +kernel) rfl) ?_
    refine r_iand (q := 30) (dc dt_JS_wholeWidth 17 rfl) rfl ?_
    refine r_ldcw (q := 33) (n := 8388608) (dc dt_JS_wholeWidth 18 rfl) rfl (gt_at 630 (by decide +kernel) rfl) ?_
    refine r_ior (q := 34) (dc dt_JS_wholeWidth 19 rfl) rfl ?_
    refine r_istore_n (q := 35) (dc dt_JS_wholeWidth 20 rfl) rfl rfl (by decide) rfl ?_
    refine r_iload_n (q := 36) (dc dt_JS_wholeWidth 21 rfl) rfl rfl 0 rfl ?_
    refine r_iload_n (q := 37) (dc dt_JS_wholeWidth 22 rfl) rfl rfl 1 rfl ?_
    refine r_ishr (q := 38) (dc dt_JS_wholeWidth 23 rfl) rfl ?_
    refine r_istore (q := 40) (dc dt_JS_wholeWidth 24 rfl) rfl (by decide) rfl ?_
    refine r_iload_n (q := 41) (dc dt_JS_wholeWidth 25 rfl) rfl rfl 1 rfl ?_
    refine r_iload (q := 43) (dc dt_JS_wholeWidth 26 rfl) rfl 0 rfl ?_
    refine r_iload_n (q := 44) (dc dt_JS_wholeWidth 27 rfl) rfl rfl 2 rfl ?_
    refine r_ishl (q := 45) (dc dt_JS_wholeWidth 28 rfl) rfl ?_
    refine r_isub (q := 46) (dc dt_JS_wholeWidth 29 rfl) rfl ?_
    refine r_istore (q := 48) (dc dt_JS_wholeWidth 30 rfl) rfl (by decide) rfl ?_
    refine r_iconst (q := 49) (dc dt_JS_wholeWidth 31 rfl) rfl rfl ?_
    refine r_iload_n (q := 50) (dc dt_JS_wholeWidth 32 rfl) rfl rfl 3 rfl ?_
    refine r_iconst (q := 51) (dc dt_JS_wholeWidth 33 rfl) rfl rfl ?_
    refine r_isub (q := 52) (dc dt_JS_wholeWidth 34 rfl) rfl ?_
    refine r_ishl (q := 53) (dc dt_JS_wholeWidth 35 rfl) rfl ?_
    refine r_istore (q := 55) (dc dt_JS_wholeWidth 36 rfl) rfl (by decide) rfl ?_
    refine r_iload (q := 57) (dc dt_JS_wholeWidth 37 rfl) rfl 1 rfl ?_
    refine r_iload (q := 59) (dc dt_JS_wholeWidth 38 rfl) rfl 0 rfl ?_
    obtain ⟨o3, h⟩ := h
    have hJ : ∀ (w_0 : Int), w_0 = (if (Int32.ofInt 1 <<< (Int32.ofInt ((150 - ((Int32.ofInt v0 >>> (Int32.ofInt 23 &&& 31)).toInt)) - 1) &&& 31)).toInt < ((Int32.ofInt ((Int32.ofInt v0 &&& Int32.ofInt 8388607).toInt) ||| Int32.ofInt 8388608).toInt) - ((Int32.ofInt ((Int32.ofInt ((Int32.ofInt ((Int32.ofInt v0 &&& Int32.ofInt 8388607).toInt) ||| Int32.ofInt 8388608).toInt) >>> (Int32.ofInt (150 - ((Int32.ofInt v0 >>> (Int32.ofInt 23 &&& 31)).toInt)) &&& 31)).toInt) <<< (Int32.ofInt (150 - ((Int32.ofInt v0 >>> (Int32.ofInt 23 &&& 31)).toInt)) &&& 31)).toInt) ∨ (((Int32.ofInt ((Int32.ofInt v0 &&& Int32.ofInt 8388607).toInt) ||| Int32.ofInt 8388608).toInt) - ((Int32.ofInt ((Int32.ofInt ((Int32.ofInt ((Int32.ofInt v0 &&& Int32.ofInt 8388607).toInt) ||| Int32.ofInt 8388608).toInt) >>> (Int32.ofInt (150 - ((Int32.ofInt v0 >>> (Int32.ofInt 23 &&& 31)).toInt)) &&& 31)).toInt) <<< (Int32.ofInt (150 - ((Int32.ofInt v0 >>> (Int32.ofInt 23 &&& 31)).toInt)) &&& 31)).toInt) = (Int32.ofInt 1 <<< (Int32.ofInt ((150 - ((Int32.ofInt v0 >>> (Int32.ofInt 23 &&& 31)).toInt)) - 1) &&& 31)).toInt ∧ (Int32.ofInt ((Int32.ofInt ((Int32.ofInt ((Int32.ofInt v0 &&& Int32.ofInt 8388607).toInt) ||| Int32.ofInt 8388608).toInt) >>> (Int32.ofInt (150 - ((Int32.ofInt v0 >>> (Int32.ofInt 23 &&& 31)).toInt)) &&& 31)).toInt) &&& Int32.ofInt 1).toInt = 1) then 1 else 0) → A G m_JS_wholeWidth 82 [(6, I ((Int32.ofInt 1 <<< (Int32.ofInt ((150 - ((Int32.ofInt v0 >>> (Int32.ofInt 23 &&& 31)).toInt)) - 1) &&& 31)).toInt)), (5, I (((Int32.ofInt ((Int32.ofInt v0 &&& Int32.ofInt 8388607).toInt) ||| Int32.ofInt 8388608).toInt) - ((Int32.ofInt ((Int32.ofInt ((Int32.ofInt ((Int32.ofInt v0 &&& Int32.ofInt 8388607).toInt) ||| Int32.ofInt 8388608).toInt) >>> (Int32.ofInt (150 - ((Int32.ofInt v0 >>> (Int32.ofInt 23 &&& 31)).toInt)) &&& 31)).toInt) <<< (Int32.ofInt (150 - ((Int32.ofInt v0 >>> (Int32.ofInt 23 &&& 31)).toInt)) &&& 31)).toInt))), (4, I ((Int32.ofInt ((Int32.ofInt ((Int32.ofInt v0 &&& Int32.ofInt 8388607).toInt) ||| Int32.ofInt 8388608).toInt) >>> (Int32.ofInt (150 - ((Int32.ofInt v0 >>> (Int32.ofInt 23 &&& 31)).toInt)) &&& 31)).toInt)), (3, I ((Int32.ofInt ((Int32.ofInt v0 &&& Int32.ofInt 8388607).toInt) ||| Int32.ofInt 8388608).toInt)), (2, I (150 - ((Int32.ofInt v0 >>> (Int32.ofInt 23 &&& 31)).toInt))), (1, I ((Int32.ofInt v0 >>> (Int32.ofInt 23 &&& 31)).toInt)), (0, I v0)] [I w_0] σ P := by
      intro w_0 z_0
      subst z_0
      refine r_istore (q := 84) (dc dt_JS_wholeWidth 51 rfl) rfl (by decide) rfl ?_
      refine r_iload (q := 86) (dc dt_JS_wholeWidth 52 rfl) rfl 0 rfl ?_
      have hJ : ∀ (w_0 : Int), w_0 = (if ¬ ((Int32.ofInt 1 <<< (Int32.ofInt ((150 - ((Int32.ofInt v0 >>> (Int32.ofInt 23 &&& 31)).toInt)) - 1) &&& 31)).toInt < ((Int32.ofInt ((Int32.ofInt v0 &&& Int32.ofInt 8388607).toInt) ||| Int32.ofInt 8388608).toInt) - ((Int32.ofInt ((Int32.ofInt ((Int32.ofInt ((Int32.ofInt v0 &&& Int32.ofInt 8388607).toInt) ||| Int32.ofInt 8388608).toInt) >>> (Int32.ofInt (150 - ((Int32.ofInt v0 >>> (Int32.ofInt 23 &&& 31)).toInt)) &&& 31)).toInt) <<< (Int32.ofInt (150 - ((Int32.ofInt v0 >>> (Int32.ofInt 23 &&& 31)).toInt)) &&& 31)).toInt) ∨ (((Int32.ofInt ((Int32.ofInt v0 &&& Int32.ofInt 8388607).toInt) ||| Int32.ofInt 8388608).toInt) - ((Int32.ofInt ((Int32.ofInt ((Int32.ofInt ((Int32.ofInt v0 &&& Int32.ofInt 8388607).toInt) ||| Int32.ofInt 8388608).toInt) >>> (Int32.ofInt (150 - ((Int32.ofInt v0 >>> (Int32.ofInt 23 &&& 31)).toInt)) &&& 31)).toInt) <<< (Int32.ofInt (150 - ((Int32.ofInt v0 >>> (Int32.ofInt 23 &&& 31)).toInt)) &&& 31)).toInt) = (Int32.ofInt 1 <<< (Int32.ofInt ((150 - ((Int32.ofInt v0 >>> (Int32.ofInt 23 &&& 31)).toInt)) - 1) &&& 31)).toInt ∧ (Int32.ofInt ((Int32.ofInt ((Int32.ofInt ((Int32.ofInt v0 &&& Int32.ofInt 8388607).toInt) ||| Int32.ofInt 8388608).toInt) >>> (Int32.ofInt (150 - ((Int32.ofInt v0 >>> (Int32.ofInt 23 &&& 31)).toInt)) &&& 31)).toInt) &&& Int32.ofInt 1).toInt = 1)) then (Int32.ofInt ((Int32.ofInt ((Int32.ofInt v0 &&& Int32.ofInt 8388607).toInt) ||| Int32.ofInt 8388608).toInt) >>> (Int32.ofInt (150 - ((Int32.ofInt v0 >>> (Int32.ofInt 23 &&& 31)).toInt)) &&& 31)).toInt else ((Int32.ofInt ((Int32.ofInt ((Int32.ofInt v0 &&& Int32.ofInt 8388607).toInt) ||| Int32.ofInt 8388608).toInt) >>> (Int32.ofInt (150 - ((Int32.ofInt v0 >>> (Int32.ofInt 23 &&& 31)).toInt)) &&& 31)).toInt) + 1) → A G m_JS_wholeWidth 98 [(7, I (if (Int32.ofInt 1 <<< (Int32.ofInt ((150 - ((Int32.ofInt v0 >>> (Int32.ofInt 23 &&& 31)).toInt)) - 1) &&& 31)).toInt < ((Int32.ofInt ((Int32.ofInt v0 &&& Int32.ofInt 8388607).toInt) ||| Int32.ofInt 8388608).toInt) - ((Int32.ofInt ((Int32.ofInt ((Int32.ofInt ((Int32.ofInt v0 &&& Int32.ofInt 8388607).toInt) ||| Int32.ofInt 8388608).toInt) >>> (Int32.ofInt (150 - ((Int32.ofInt v0 >>> (Int32.ofInt 23 &&& 31)).toInt)) &&& 31)).toInt) <<< (Int32.ofInt (150 - ((Int32.ofInt v0 >>> (Int32.ofInt 23 &&& 31)).toInt)) &&& 31)).toInt) ∨ (((Int32.ofInt ((Int32.ofInt v0 &&& Int32.ofInt 8388607).toInt) ||| Int32.ofInt 8388608).toInt) - ((Int32.ofInt ((Int32.ofInt ((Int32.ofInt ((Int32.ofInt v0 &&& Int32.ofInt 8388607).toInt) ||| Int32.ofInt 8388608).toInt) >>> (Int32.ofInt (150 - ((Int32.ofInt v0 >>> (Int32.ofInt 23 &&& 31)).toInt)) &&& 31)).toInt) <<< (Int32.ofInt (150 - ((Int32.ofInt v0 >>> (Int32.ofInt 23 &&& 31)).toInt)) &&& 31)).toInt) = (Int32.ofInt 1 <<< (Int32.ofInt ((150 - ((Int32.ofInt v0 >>> (Int32.ofInt 23 &&& 31)).toInt)) - 1) &&& 31)).toInt ∧ (Int32.ofInt ((Int32.ofInt ((Int32.ofInt ((Int32.ofInt v0 &&& Int32.ofInt 8388607).toInt) ||| Int32.ofInt 8388608).toInt) >>> (Int32.ofInt (150 - ((Int32.ofInt v0 >>> (Int32.ofInt 23 &&& 31)).toInt)) &&& 31)).toInt) &&& Int32.ofInt 1).toInt = 1) then 1 else 0)), (6, I ((Int32.ofInt 1 <<< (Int32.ofInt ((150 - ((Int32.ofInt v0 >>> (Int32.ofInt 23 &&& 31)).toInt)) - 1) &&& 31)).toInt)), (5, I (((Int32.ofInt ((Int32.ofInt v0 &&& Int32.ofInt 8388607).toInt) ||| Int32.ofInt 8388608).toInt) - ((Int32.ofInt ((Int32.ofInt ((Int32.ofInt ((Int32.ofInt v0 &&& Int32.ofInt 8388607).toInt) ||| Int32.ofInt 8388608).toInt) >>> (Int32.ofInt (150 - ((Int32.ofInt v0 >>> (Int32.ofInt 23 &&& 31)).toInt)) &&& 31)).toInt) <<< (Int32.ofInt (150 - ((Int32.ofInt v0 >>> (Int32.ofInt 23 &&& 31)).toInt)) &&& 31)).toInt))), (4, I ((Int32.ofInt ((Int32.ofInt ((Int32.ofInt v0 &&& Int32.ofInt 8388607).toInt) ||| Int32.ofInt 8388608).toInt) >>> (Int32.ofInt (150 - ((Int32.ofInt v0 >>> (Int32.ofInt 23 &&& 31)).toInt)) &&& 31)).toInt)), (3, I ((Int32.ofInt ((Int32.ofInt v0 &&& Int32.ofInt 8388607).toInt) ||| Int32.ofInt 8388608).toInt)), (2, I (150 - ((Int32.ofInt v0 >>> (Int32.ofInt 23 &&& 31)).toInt))), (1, I ((Int32.ofInt v0 >>> (Int32.ofInt 23 &&& 31)).toInt)), (0, I v0)] [I w_0] σ P := by
        intro w_0 z_0
        subst z_0
        obtain ⟨o4, h⟩ := h
        exact r_iret rfl (dc dt_JS_wholeWidth 59 rfl) o4 h
      clear h
      refine r_ifb_eq (q := 89) (t := 96) (dc dt_JS_wholeWidth 53 rfl) rfl (by decide) (fun q_ => ?_) (fun q_ => ?_)
      · have q5 := q_
        refine r_iload (q := 98) (dc dt_JS_wholeWidth 58 rfl) rfl 3 rfl ?_
        exact (hJ ((Int32.ofInt ((Int32.ofInt ((Int32.ofInt v0 &&& Int32.ofInt 8388607).toInt) ||| Int32.ofInt 8388608).toInt) >>> (Int32.ofInt (150 - ((Int32.ofInt v0 >>> (Int32.ofInt 23 &&& 31)).toInt)) &&& 31)).toInt) ((if_pos (by first | omega | grind)).symm))
      · have q5 := q_
        refine r_iload (q := 91) (dc dt_JS_wholeWidth 54 rfl) rfl 3 rfl ?_
        refine r_iconst (q := 92) (dc dt_JS_wholeWidth 55 rfl) rfl rfl ?_
        refine r_iadd (q := 93) (dc dt_JS_wholeWidth 56 rfl) rfl ?_
        refine r_goto (q := 98) (dc dt_JS_wholeWidth 57 rfl) (by decide) ?_
        exact (hJ (((Int32.ofInt ((Int32.ofInt ((Int32.ofInt v0 &&& Int32.ofInt 8388607).toInt) ||| Int32.ofInt 8388608).toInt) >>> (Int32.ofInt (150 - ((Int32.ofInt v0 >>> (Int32.ofInt 23 &&& 31)).toInt)) &&& 31)).toInt) + 1) ((if_neg (by first | omega | grind)).symm))
    clear h
    refine r_icmp_gt (q := 62) (t := 77) (dc dt_JS_wholeWidth 39 rfl) rfl (by decide) o3 (rng_toInt _) (fun q_ => ?_) (fun q_ => ?_)
    · have q6 := q_
      refine r_iconst (q := 78) (dc dt_JS_wholeWidth 48 rfl) rfl rfl ?_
      refine r_goto (q := 82) (dc dt_JS_wholeWidth 49 rfl) (by decide) ?_
      exact (hJ 1 ((if_pos (by first | omega | grind)).symm))
    · have q6 := q_
      refine r_iload (q := 64) (dc dt_JS_wholeWidth 40 rfl) rfl 1 rfl ?_
      refine r_iload (q := 66) (dc dt_JS_wholeWidth 41 rfl) rfl 0 rfl ?_
      refine r_icmp_ne (q := 69) (t := 81) (dc dt_JS_wholeWidth 42 rfl) rfl (by decide) o3 (rng_toInt _) (fun q_ => ?_) (fun q_ => ?_)
      · have q7 := q_
        refine r_iconst (q := 82) (dc dt_JS_wholeWidth 50 rfl) rfl rfl ?_
        exact (hJ 0 ((if_neg (by first | omega | grind)).symm))
      · have q7 := q_
        refine r_iload (q := 71) (dc dt_JS_wholeWidth 43 rfl) rfl 2 rfl ?_
        refine r_iconst (q := 72) (dc dt_JS_wholeWidth 44 rfl) rfl rfl ?_
        refine r_iand (q := 73) (dc dt_JS_wholeWidth 45 rfl) rfl ?_
        refine r_iconst (q := 74) (dc dt_JS_wholeWidth 46 rfl) rfl rfl ?_
        refine r_icmp_ne (q := 77) (t := 81) (dc dt_JS_wholeWidth 47 rfl) rfl (by decide) (rng_toInt _) (⟨by decide, by decide⟩ : rng 1) (fun q_ => ?_) (fun q_ => ?_)
        · have q8 := q_
          refine r_iconst (q := 82) (dc dt_JS_wholeWidth 50 rfl) rfl rfl ?_
          exact (hJ 0 ((if_neg (by first | omega | grind)).symm))
        · have q8 := q_
          refine r_iconst (q := 78) (dc dt_JS_wholeWidth 48 rfl) rfl rfl ?_
          refine r_goto (q := 82) (dc dt_JS_wholeWidth 49 rfl) (by decide) ?_
          exact (hJ 1 ((if_pos (by first | omega | grind)).symm))
  · have h := h.2 q_
    refine r_iconst (q := 18) (dc dt_JS_wholeWidth 9 rfl) rfl rfl ?_
    exact r_iret rfl (dc dt_JS_wholeWidth 10 rfl) (⟨by decide, by decide⟩ : rng 0) h
def tb_SC_canHave : List (Nat × Instr × Nat) := [(0, .aload_n 0, 1), (1, .getfield 25, 3), (4, .iload_n 1, 1), (5, .iaload, 1), (6, .ifCond .ne 10, 3), (9, .iload_n 2, 1), (10, .iconst 0, 1), (11, .iconst 3, 1), (12, .invokestatic 55, 3), (15, .ireturn, 1), (16, .iload_n 2, 1), (17, .ifCond .eq 18, 3), (20, .iload_n 2, 1), (21, .iconst 3, 1), (22, .if_icmp .ne 17, 3), (25, .aload_n 0, 1), (26, .getfield 25, 3), (29, .iload_n 1, 1), (30, .iaload, 1), (31, .iconst 1, 1), (32, .if_icmp .ne 7, 3), (35, .iconst 1, 1), (36, .goto 4, 3), (39, .iconst 0, 1), (40, .ireturn, 1)]
theorem dt_SC_canHave : DT (cM m_SC_canHave) tb_SC_canHave := by unfold DT; decide +kernel
abbrev a_SC_canHave_0 (G : GT)  (v1 : Int) (v2 : Int) (σ : St) (P : Int → St → Prop) : Prop := A G m_SC_canHave 0 [(0, O 1), (1, I v1), (2, I v2)] [] σ P
set_option maxRecDepth 20000 in
theorem k_SC_canHave_0 {G : GT} {σ : St} {P : Int → St → Prop}  {v1 : Int} {v2 : Int}  
    (h : (0 ≤ v1 ∧ v1 < 60) ∧ (σ.1 48 v1.toNat ≠ 0 → rng v2 ∧ P (if v2 = 0 ∨ (v2 = 3 ∧ σ.1 48 v1.toNat = 1) then 1 else 0) σ) ∧ (σ.1 48 v1.toNat = 0 → rng v2 ∧ (0 ≤ v2 → rng 3) ∧ P (if 0 ≤ v2 ∧ v2 ≤ 3 then 1 else 0) σ)) :
    a_SC_canHave_0 G v1 v2 σ P := by
  refine r_aload_n (q := 1) (dc dt_SC_canHave 0 rfl) rfl rfl 0 rfl ?_
  refine r_getO (q := 4) (v := 48) fl_SC_25 (dc dt_SC_canHave 1 rfl) rfl ly1 rfl ?_
  refine r_iload_n (q := 5) (dc dt_SC_canHave 2 rfl) rfl rfl 1 rfl ?_
  obtain ⟨o1, h⟩ := h
  refine r_iald (q := 6) (v := σ.1 48 v1.toNat) (dc dt_SC_canHave 3 rfl) rfl ly48 o1 rfl (fun g2 => ?_)
  refine r_if_ne (q := 9) (t := 16) (dc dt_SC_canHave 4 rfl) rfl (by decide) g2 (fun q_ => ?_) (fun q_ => ?_)
  · have h := h.1 q_
    refine r_iload_n (q := 17) (dc dt_SC_canHave 10 rfl) rfl rfl 2 rfl ?_
    obtain ⟨o3, h⟩ := h
    have hJ : ∀ (w_0 : Int), w_0 = (if v2 = 0 ∨ (v2 = 3 ∧ σ.1 48 v1.toNat = 1) then 1 else 0) → A G m_SC_canHave 40 [(0, O 1), (1, I v1), (2, I v2)] [I w_0] σ P := by
      intro w_0 z_0
      subst z_0
      exact r_zret rfl (dc dt_SC_canHave 24 rfl) b01_or h
    clear h
    refine r_if_eq (q := 20) (t := 35) (dc dt_SC_canHave 11 rfl) rfl (by decide) o3 (fun q_ => ?_) (fun q_ => ?_)
    · have q8 := q_
      refine r_iconst (q := 36) (dc dt_SC_canHave 21 rfl) rfl rfl ?_
      refine r_goto (q := 40) (dc dt_SC_canHave 22 rfl) (by decide) ?_
      exact (hJ 1 ((if_pos (by first | omega | grind)).symm))
    · have q8 := q_
      refine r_iload_n (q := 21) (dc dt_SC_canHave 12 rfl) rfl rfl 2 rfl ?_
      refine r_iconst (q := 22) (dc dt_SC_canHave 13 rfl) rfl rfl ?_
      refine r_icmp_ne (q := 25) (t := 39) (dc dt_SC_canHave 14 rfl) rfl (by decide) o3 (⟨by decide, by decide⟩ : rng 3) (fun q_ => ?_) (fun q_ => ?_)
      · have q9 := q_
        refine r_iconst (q := 40) (dc dt_SC_canHave 23 rfl) rfl rfl ?_
        exact (hJ 0 ((if_neg (by first | omega | grind)).symm))
      · have q9 := q_
        refine r_aload_n (q := 26) (dc dt_SC_canHave 15 rfl) rfl rfl 0 rfl ?_
        refine r_getO (q := 29) (v := 48) fl_SC_25 (dc dt_SC_canHave 16 rfl) rfl ly1 rfl ?_
        refine r_iload_n (q := 30) (dc dt_SC_canHave 17 rfl) rfl rfl 1 rfl ?_
        refine r_iald (q := 31) (v := σ.1 48 v1.toNat) (dc dt_SC_canHave 18 rfl) rfl ly48 o1 rfl (fun g4 => ?_)
        refine r_iconst (q := 32) (dc dt_SC_canHave 19 rfl) rfl rfl ?_
        refine r_icmp_ne (q := 35) (t := 39) (dc dt_SC_canHave 20 rfl) rfl (by decide) g4 (⟨by decide, by decide⟩ : rng 1) (fun q_ => ?_) (fun q_ => ?_)
        · have q10 := q_
          refine r_iconst (q := 40) (dc dt_SC_canHave 23 rfl) rfl rfl ?_
          exact (hJ 0 ((if_neg (by first | omega | grind)).symm))
        · have q10 := q_
          refine r_iconst (q := 36) (dc dt_SC_canHave 21 rfl) rfl rfl ?_
          refine r_goto (q := 40) (dc dt_SC_canHave 22 rfl) (by decide) ?_
          exact (hJ 1 ((if_pos (by first | omega | grind)).symm))
  · have h := h.2 q_
    refine r_iload_n (q := 10) (dc dt_SC_canHave 5 rfl) rfl rfl 2 rfl ?_
    refine r_iconst (q := 11) (dc dt_SC_canHave 6 rfl) rfl rfl ?_
    refine r_iconst (q := 12) (dc dt_SC_canHave 7 rfl) rfl rfl ?_
    obtain ⟨o5, h⟩ := h
    obtain ⟨o6, h⟩ := h
    refine r_callNi (q := 15) mk_JS_within lm_SC_55 (RMO.of rfl) rfl (dc dt_SC_canHave 8 rfl) rfl [I v2, I 0, I 3] [] rfl rfl (Nat.le_of_ble_eq_true rfl) (sp_JS_within o5 (⟨by decide, by decide⟩ : rng 0) o6) (fun _ _ g7 z => ?_)
    obtain ⟨z, w⟩ := z
    subst z
    replace w := w.symm
    subst w
    exact r_zret rfl (dc dt_SC_canHave 9 rfl) b01_or h
set_option maxRecDepth 20000 in
theorem sp_SC_canHave {G : GT} {σ : St} {v1 : Int} {v2 : Int}  (j0 : 0 ≤ v1 ∧ v1 < 60) (j1 : ((σ.1 48 v1.toNat ≠ 0 → rng v2) ∧ (σ.1 48 v1.toNat = 0 → rng v2 ∧ (0 ≤ v2 → rng 3)))) : CJ G m_SC_canHave [O 1, I v1, I v2] σ (fun r u => r = (if (σ.1 48 v1.toNat ≠ 0 ∧ (v2 = 0 ∨ (v2 = 3 ∧ σ.1 48 v1.toNat = 1))) ∨ (σ.1 48 v1.toNat = 0 ∧ (0 ≤ v2 ∧ v2 ≤ 3)) then 1 else 0) ∧ u = σ) := by
  refine CJ.intro (by decide) (by simp [catA]; decide) (fun _ => k_SC_canHave_0  ?_)
  refine ⟨by first | assumption | omega | grind, ?_⟩
  refine ⟨fun q_ => ?_, fun q_ => ?_⟩
  ·
    refine ⟨by first | assumption | omega | grind, ?_⟩
    exact ⟨ite_iff (by first | omega | grind), rfl⟩
  ·
    refine ⟨by first | assumption | omega | grind, ?_⟩
    refine ⟨by first | assumption | omega | grind, ?_⟩
    exact ⟨ite_iff (by first | omega | grind), rfl⟩
def tb_SC_formsOf : List (Nat × Instr × Nat) := [(0, .aload_n 0, 1), (1, .getfield 49, 3), (4, .iload_n 1, 1), (5, .iconst 4, 1), (6, .imul, 1), (7, .iload_n 2, 1), (8, .iadd, 1), (9, .iaload, 1), (10, .ireturn, 1)]
theorem dt_SC_formsOf : DT (cM m_SC_formsOf) tb_SC_formsOf := by unfold DT; decide +kernel
abbrev a_SC_formsOf_0 (G : GT)  (v1 : Int) (v2 : Int) (σ : St) (P : Int → St → Prop) : Prop := A G m_SC_formsOf 0 [(0, O 1), (1, I v1), (2, I v2)] [] σ P
set_option maxRecDepth 20000 in
theorem k_SC_formsOf_0 {G : GT} {σ : St} {P : Int → St → Prop}  {v1 : Int} {v2 : Int}  
    (h : (0 ≤ (v1 * 4) + v2 ∧ (v1 * 4) + v2 < 240) ∧ P (σ.1 55 (((v1 * 4) + v2).toNat)) σ) :
    a_SC_formsOf_0 G v1 v2 σ P := by
  refine r_aload_n (q := 1) (dc dt_SC_formsOf 0 rfl) rfl rfl 0 rfl ?_
  refine r_getO (q := 4) (v := 55) fl_SC_49 (dc dt_SC_formsOf 1 rfl) rfl ly1 rfl ?_
  refine r_iload_n (q := 5) (dc dt_SC_formsOf 2 rfl) rfl rfl 1 rfl ?_
  refine r_iconst (q := 6) (dc dt_SC_formsOf 3 rfl) rfl rfl ?_
  refine r_imul (q := 7) (dc dt_SC_formsOf 4 rfl) rfl ?_
  refine r_iload_n (q := 8) (dc dt_SC_formsOf 5 rfl) rfl rfl 2 rfl ?_
  refine r_iadd (q := 9) (dc dt_SC_formsOf 6 rfl) rfl ?_
  obtain ⟨o1, h⟩ := h
  refine r_iald (q := 10) (v := σ.1 55 (((v1 * 4) + v2).toNat)) (dc dt_SC_formsOf 7 rfl) rfl ly55 o1 rfl (fun g2 => ?_)
  exact r_iret rfl (dc dt_SC_formsOf 8 rfl) g2 h
set_option maxRecDepth 20000 in
theorem sp_SC_formsOf {G : GT} {σ : St} {v1 : Int} {v2 : Int}  (j0 : 0 ≤ (v1 * 4) + v2 ∧ (v1 * 4) + v2 < 240) : CJ G m_SC_formsOf [O 1, I v1, I v2] σ (fun r u => r = (σ.1 55 (((v1 * 4) + v2).toNat)) ∧ u = σ) := by
  refine CJ.intro (by decide) (by simp [catA]; decide) (fun _ => k_SC_formsOf_0  ?_)
  refine ⟨by first | assumption | omega | grind, ?_⟩
  exact ⟨by first | rfl | grind, rfl⟩
def tb_SC_addForm : List (Nat × Instr × Nat) := [(0, .aload_n 0, 1), (1, .getfield 18, 3), (4, .istore_n 3, 1), (5, .iload_n 1, 1), (6, .iconst 4, 1), (7, .imul, 1), (8, .iload_n 2, 1), (9, .iadd, 1), (10, .istore 4, 2), (12, .aload_n 0, 1), (13, .getfield 46, 3), (16, .iload_n 3, 1), (17, .aaload, 1), (18, .iconst 0, 1), (19, .iload_n 1, 1), (20, .iastore, 1), (21, .aload_n 0, 1), (22, .getfield 46, 3), (25, .iload_n 3, 1), (26, .aaload, 1), (27, .iconst 1, 1), (28, .iload_n 2, 1), (29, .iastore, 1), (30, .aload_n 0, 1), (31, .getfield 52, 3), (34, .iload 4, 2), (36, .iconst 3, 1), (37, .imul, 1), (38, .aload_n 0, 1), (39, .getfield 49, 3), (42, .iload 4, 2), (44, .iaload, 1), (45, .iadd, 1), (46, .iload_n 3, 1), (47, .iastore, 1), (48, .aload_n 0, 1), (49, .getfield 49, 3), (52, .iload 4, 2), (54, .dup2, 1), (55, .iaload, 1), (56, .iconst 1, 1), (57, .iadd, 1), (58, .iastore, 1), (59, .aload_n 0, 1), (60, .dup, 1), (61, .getfield 18, 3), (64, .iconst 1, 1), (65, .iadd, 1), (66, .putfield 18, 3), (69, .iload_n 3, 1), (70, .ireturn, 1)]
theorem dt_SC_addForm : DT (cM m_SC_addForm) tb_SC_addForm := by unfold DT; decide +kernel
abbrev a_SC_addForm_0 (G : GT)  (v1 : Int) (v2 : Int) (σ : St) (P : Int → St → Prop) : Prop := A G m_SC_addForm 0 [(0, O 1), (1, I v1), (2, I v2)] [] σ P
set_option maxRecDepth 20000 in
theorem k_SC_addForm_0 {G : GT} {σ : St} {P : Int → St → Prop}  {v1 : Int} {v2 : Int}  
    (h : (0 ≤ σ.2.1 1 2 ∧ σ.2.1 1 2 < 200) ∧ rng v1 ∧ (∀ σ4, σ4 = sa σ (176 + (σ.2.1 1 2).toNat) 0 v1 → rng v2 ∧ (∀ σ7, σ7 = sa σ4 (176 + (σ.2.1 1 2).toNat) 1 v2 → (0 ≤ (v1 * 4) + v2 ∧ (v1 * 4) + v2 < 240) ∧ (0 ≤ (((v1 * 4) + v2) * 3) + (σ7.1 55 (((v1 * 4) + v2).toNat)) ∧ (((v1 * 4) + v2) * 3) + (σ7.1 55 (((v1 * 4) + v2).toNat)) < 720) ∧ (∀ σ12, σ12 = sa σ7 56 (((((v1 * 4) + v2) * 3) + (σ7.1 55 (((v1 * 4) + v2).toNat))).toNat) (σ.2.1 1 2) → rng ((σ7.1 55 (((v1 * 4) + v2).toNat)) + 1) ∧ (∀ σ16, σ16 = sa σ12 55 (((v1 * 4) + v2).toNat) ((σ7.1 55 (((v1 * 4) + v2).toNat)) + 1) → rng ((σ.2.1 1 2) + 1) ∧ (∀ σ19, σ19 = sf σ16 1 2 ((σ.2.1 1 2) + 1) → P (σ.2.1 1 2) σ19)))))) :
    a_SC_addForm_0 G v1 v2 σ P := by
  refine r_aload_n (q := 1) (dc dt_SC_addForm 0 rfl) rfl rfl 0 rfl ?_
  refine r_getI (q := 4) (v := σ.2.1 1 2) fl_SC_18 (dc dt_SC_addForm 1 rfl) rfl ly1 rfl rfl (fun g1 => ?_)
  refine r_istore_n (q := 5) (dc dt_SC_addForm 2 rfl) rfl rfl (by decide) rfl ?_
  refine r_iload_n (q := 6) (dc dt_SC_addForm 3 rfl) rfl rfl 2 rfl ?_
  refine r_iconst (q := 7) (dc dt_SC_addForm 4 rfl) rfl rfl ?_
  refine r_imul (q := 8) (dc dt_SC_addForm 5 rfl) rfl ?_
  refine r_iload_n (q := 9) (dc dt_SC_addForm 6 rfl) rfl rfl 3 rfl ?_
  refine r_iadd (q := 10) (dc dt_SC_addForm 7 rfl) rfl ?_
  refine r_istore (q := 12) (dc dt_SC_addForm 8 rfl) rfl (by decide) rfl ?_
  refine r_aload_n (q := 13) (dc dt_SC_addForm 9 rfl) rfl rfl 2 rfl ?_
  refine r_getO (q := 16) (v := 54) fl_SC_46 (dc dt_SC_addForm 10 rfl) rfl ly1 rfl ?_
  refine r_iload_n (q := 17) (dc dt_SC_addForm 11 rfl) rfl rfl 1 rfl ?_
  obtain ⟨o2, h⟩ := h
  refine r_aald (q := 18) (dc dt_SC_addForm 12 rfl) rfl ly54 o2 rfl ?_
  refine r_iconst (q := 19) (dc dt_SC_addForm 13 rfl) rfl rfl ?_
  refine r_iload_n (q := 20) (dc dt_SC_addForm 14 rfl) rfl rfl 3 rfl ?_
  obtain ⟨o3, h⟩ := h
  refine r_iast (q := 21) (dc dt_SC_addForm 15 rfl) rfl (lyr_176 o2) ⟨by decide, by decide⟩ o3 (fun σ4 e5 => ?_)
  have h := h σ4 e5
  refine r_aload_n (q := 22) (dc dt_SC_addForm 16 rfl) rfl rfl 2 rfl ?_
  refine r_getO (q := 25) (v := 54) fl_SC_46 (dc dt_SC_addForm 17 rfl) rfl ly1 rfl ?_
  refine r_iload_n (q := 26) (dc dt_SC_addForm 18 rfl) rfl rfl 1 rfl ?_
  refine r_aald (q := 27) (dc dt_SC_addForm 19 rfl) rfl ly54 o2 rfl ?_
  refine r_iconst (q := 28) (dc dt_SC_addForm 20 rfl) rfl rfl ?_
  refine r_iload_n (q := 29) (dc dt_SC_addForm 21 rfl) rfl rfl 4 rfl ?_
  obtain ⟨o6, h⟩ := h
  refine r_iast (q := 30) (dc dt_SC_addForm 22 rfl) rfl (lyr_176 o2) ⟨by decide, by decide⟩ o6 (fun σ7 e8 => ?_)
  have h := h σ7 e8
  refine r_aload_n (q := 31) (dc dt_SC_addForm 23 rfl) rfl rfl 2 rfl ?_
  refine r_getO (q := 34) (v := 56) fl_SC_52 (dc dt_SC_addForm 24 rfl) rfl ly1 rfl ?_
  refine r_iload (q := 36) (dc dt_SC_addForm 25 rfl) rfl 0 rfl ?_
  refine r_iconst (q := 37) (dc dt_SC_addForm 26 rfl) rfl rfl ?_
  refine r_imul (q := 38) (dc dt_SC_addForm 27 rfl) rfl ?_
  refine r_aload_n (q := 39) (dc dt_SC_addForm 28 rfl) rfl rfl 2 rfl ?_
  refine r_getO (q := 42) (v := 55) fl_SC_49 (dc dt_SC_addForm 29 rfl) rfl ly1 rfl ?_
  refine r_iload (q := 44) (dc dt_SC_addForm 30 rfl) rfl 0 rfl ?_
  obtain ⟨o9, h⟩ := h
  refine r_iald (q := 45) (v := σ7.1 55 (((v1 * 4) + v2).toNat)) (dc dt_SC_addForm 31 rfl) rfl ly55 o9 rfl (fun g10 => ?_)
  refine r_iadd (q := 46) (dc dt_SC_addForm 32 rfl) rfl ?_
  refine r_iload_n (q := 47) (dc dt_SC_addForm 33 rfl) rfl rfl 1 rfl ?_
  obtain ⟨o11, h⟩ := h
  refine r_iast (q := 48) (dc dt_SC_addForm 34 rfl) rfl ly56 o11 g1 (fun σ12 e13 => ?_)
  have h := h σ12 e13
  refine r_aload_n (q := 49) (dc dt_SC_addForm 35 rfl) rfl rfl 2 rfl ?_
  refine r_getO (q := 52) (v := 55) fl_SC_49 (dc dt_SC_addForm 36 rfl) rfl ly1 rfl ?_
  refine r_iload (q := 54) (dc dt_SC_addForm 37 rfl) rfl 0 rfl ?_
  refine r_dup2 (q := 55) (dc dt_SC_addForm 38 rfl) rfl ?_
  refine r_iald (q := 56) (v := σ7.1 55 (((v1 * 4) + v2).toNat)) (dc dt_SC_addForm 39 rfl) rfl ly55 o9 (by rw [e13]; rfl) (fun g14 => ?_)
  refine r_iconst (q := 57) (dc dt_SC_addForm 40 rfl) rfl rfl ?_
  refine r_iadd (q := 58) (dc dt_SC_addForm 41 rfl) rfl ?_
  obtain ⟨o15, h⟩ := h
  refine r_iast (q := 59) (dc dt_SC_addForm 42 rfl) rfl ly55 o9 o15 (fun σ16 e17 => ?_)
  have h := h σ16 e17
  refine r_aload_n (q := 60) (dc dt_SC_addForm 43 rfl) rfl rfl 2 rfl ?_
  refine r_dupo (q := 61) (dc dt_SC_addForm 44 rfl) rfl ?_
  refine r_getI (q := 64) (v := σ.2.1 1 2) fl_SC_18 (dc dt_SC_addForm 45 rfl) rfl ly1 rfl (by rw [e17, e13, e8, e5]; rfl) (fun g18 => ?_)
  refine r_iconst (q := 65) (dc dt_SC_addForm 46 rfl) rfl rfl ?_
  refine r_iadd (q := 66) (dc dt_SC_addForm 47 rfl) rfl ?_
  obtain ⟨o21, h⟩ := h
  refine r_put (q := 69) fl_SC_18 (dc dt_SC_addForm 48 rfl) rfl ly1 (fun _ => rfl) (Or.inl rfl) pf_1_2 o21 (fun σ19 e20 => ?_)
  have h := h σ19 e20
  refine r_iload_n (q := 70) (dc dt_SC_addForm 49 rfl) rfl rfl 1 rfl ?_
  exact r_iret rfl (dc dt_SC_addForm 50 rfl) g1 h
def tb_JS_form : List (Nat × Instr × Nat) := [(0, .aload_n 0, 1), (1, .getfield 10, 3), (4, .iload_n 1, 1), (5, .invokevirtual 108, 3), (8, .ifCond .ne 5, 3), (11, .iconst (-1), 1), (12, .ireturn, 1), (13, .iload_n 3, 1), (14, .invokestatic 126, 3), (17, .istore 7, 2), (19, .aload_n 0, 1), (20, .getfield 10, 3), (23, .iload_n 1, 1), (24, .iload_n 2, 1), (25, .invokevirtual 130, 3), (28, .ifCond .eq 48, 3), (31, .iload 7, 2), (33, .iconst 1, 1), (34, .bipush 100, 2), (36, .invokestatic 134, 3), (39, .ifCond .eq 37, 3), (42, .iload 4, 2), (44, .iconst 0, 1), (45, .bipush 100, 2), (47, .invokestatic 134, 3), (50, .ifCond .eq 26, 3), (53, .iload 5, 2), (55, .iconst 0, 1), (56, .bipush 100, 2), (58, .invokestatic 134, 3), (61, .ifCond .eq 15, 3), (64, .iload 6, 2), (66, .iconst 0, 1), (67, .sipush 1000, 3), (70, .invokestatic 134, 3), (73, .ifCond .ne 6, 3), (76, .bipush (-2), 2), (78, .ireturn, 1), (79, .aload_n 0, 1), (80, .getfield 10, 3), (83, .getfield 137, 3), (86, .sipush 200, 3), (89, .if_icmp .ge 16, 3), (92, .aload_n 0, 1), (93, .getfield 10, 3), (96, .iload_n 1, 1), (97, .iload_n 2, 1), (98, .invokevirtual 140, 3), (101, .iconst 3, 1), (102, .if_icmp .lt 6, 3), (105, .bipush (-4), 2), (107, .ireturn, 1), (108, .aload_n 0, 1), (109, .dup, 1), (110, .getfield 76, 3), (113, .iconst 1, 1), (114, .iadd, 1), (115, .putfield 76, 3), (118, .aload_n 0, 1), (119, .getfield 10, 3), (122, .iload_n 1, 1), (123, .iload_n 2, 1), (124, .invokevirtual 144, 3), (127, .istore 8, 2), (129, .aload_n 0, 1), (130, .getfield 10, 3), (133, .getfield 147, 3), (136, .iload 8, 2), (138, .aaload, 1), (139, .astore 9, 2), (141, .aload 9, 2), (143, .iconst 2, 1), (144, .iload 7, 2), (146, .iastore, 1), (147, .aload 9, 2), (149, .iconst 3, 1), (150, .iload 4, 2), (152, .iastore, 1), (153, .aload 9, 2), (155, .iconst 4, 1), (156, .iload 5, 2), (158, .iastore, 1), (159, .aload 9, 2), (161, .iconst 5, 1), (162, .iload 6, 2), (164, .iastore, 1), (165, .aload 9, 2), (167, .bipush 6, 2), (169, .iload 7, 2), (171, .iconst 2, 1), (172, .idiv, 1), (173, .iastore, 1), (174, .iload 8, 2), (176, .ireturn, 1)]
theorem dt_JS_form : DT (cM m_JS_form) tb_JS_form := by unfold DT; decide +kernel
abbrev a_JS_form_0 (G : GT)  (v1 : Int) (v2 : Int) (v3 : Int) (v4 : Int) (v5 : Int) (v6 : Int) (σ : St) (P : Int → St → Prop) : Prop := A G m_JS_form 0 [(0, O 0), (1, I v1), (2, I v2), (3, I v3), (4, I v4), (5, I v5), (6, I v6)] [] σ P
set_option maxRecDepth 20000 in
theorem k_JS_form_0 {G : GT} {σ : St} {P : Int → St → Prop}  {v1 : Int} {v2 : Int} {v3 : Int} {v4 : Int} {v5 : Int} {v6 : Int}  
    (h : rng v1 ∧ (0 ≤ v1 → rng ((σ.2.1 1 0) - 1)) ∧ (0 ≤ v1 ∧ v1 ≤ ((σ.2.1 1 0) - 1) → CJ G m_JS_wholeWidth [I v3] σ (fun r5 u4 => (0 ≤ v1 ∧ v1 < 60) ∧ ((u4.1 48 v1.toNat ≠ 0 → rng v2) ∧ (u4.1 48 v1.toNat = 0 → rng v2 ∧ (0 ≤ v2 → rng 3))) ∧ (¬ ((u4.1 48 v1.toNat ≠ 0 ∧ (v2 = 0 ∨ (v2 = 3 ∧ u4.1 48 v1.toNat = 1))) ∨ (u4.1 48 v1.toNat = 0 ∧ (0 ≤ v2 ∧ v2 ≤ 3))) → P (-2) u4) ∧ ((u4.1 48 v1.toNat ≠ 0 ∧ (v2 = 0 ∨ (v2 = 3 ∧ u4.1 48 v1.toNat = 1))) ∨ (u4.1 48 v1.toNat = 0 ∧ (0 ≤ v2 ∧ v2 ≤ 3)) → (1 ≤ r5 → rng 100) ∧ (¬ (1 ≤ r5 ∧ r5 ≤ 100) → P (-2) u4) ∧ (1 ≤ r5 ∧ r5 ≤ 100 → rng v4 ∧ (0 ≤ v4 → rng 100) ∧ (¬ (0 ≤ v4 ∧ v4 ≤ 100) → P (-2) u4) ∧ (0 ≤ v4 ∧ v4 ≤ 100 → rng v5 ∧ (0 ≤ v5 → rng 100) ∧ (¬ (0 ≤ v5 ∧ v5 ≤ 100) → P (-2) u4) ∧ (0 ≤ v5 ∧ v5 ≤ 100 → rng v6 ∧ (0 ≤ v6 → rng 1000) ∧ (0 ≤ v6 ∧ v6 ≤ 1000 → (200 ≤ u4.2.1 1 2 → P (-4) u4) ∧ (u4.2.1 1 2 < 200 → (0 ≤ (v1 * 4) + v2 ∧ (v1 * 4) + v2 < 240) ∧ (u4.1 55 (((v1 * 4) + v2).toNat) < 3 → rng ((u4.2.1 0 9) + 1) ∧ (∀ σ25, σ25 = sf u4 0 9 ((u4.2.1 0 9) + 1) → CJ G m_SC_addForm [O 1, I v1, I v2] σ25 (fun r29 u28 => (0 ≤ r29 ∧ r29 < 200) ∧ (∀ σ32, σ32 = sa u28 (176 + r29.toNat) 2 r5 → (∀ σ34, σ34 = sa σ32 (176 + r29.toNat) 3 v4 → (∀ σ36, σ36 = sa σ34 (176 + r29.toNat) 4 v5 → (∀ σ38, σ38 = sa σ36 (176 + r29.toNat) 5 v6 → 0 ≤ r5 ∧ rng (r5 / 2) ∧ (∀ σ42, σ42 = sa σ38 (176 + r29.toNat) 6 (r5 / 2) → P r29 σ42)))))))) ∧ (3 ≤ u4.1 55 (((v1 * 4) + v2).toNat) → P (-4) u4))) ∧ (¬ (0 ≤ v6 ∧ v6 ≤ 1000) → P (-2) u4))))))) ∧ (¬ (0 ≤ v1 ∧ v1 ≤ ((σ.2.1 1 0) - 1)) → P (-1) σ)) :
    a_JS_form_0 G v1 v2 v3 v4 v5 v6 σ P := by
  refine r_aload_n (q := 1) (dc dt_JS_form 0 rfl) rfl rfl 0 rfl ?_
  refine r_getO (q := 4) (v := 1) fl_JS_10 (dc dt_JS_form 1 rfl) rfl ly0 rfl ?_
  refine r_iload_n (q := 5) (dc dt_JS_form 2 rfl) rfl rfl 1 rfl ?_
  obtain ⟨o1, h⟩ := h
  obtain ⟨o2, h⟩ := h
  refine r_callVi (q := 8) mk_SC_knows lm_JS_108 (RMO.of rfl) rfl (dc dt_JS_form 3 rfl) rfl ly1 [I v1] [] rfl rfl (Nat.le_of_ble_eq_true rfl) (sp_SC_knows o1 o2) (fun _ _ g3 z => ?_)
  obtain ⟨z, w⟩ := z
  subst z
  replace w := w.symm
  subst w
  refine r_ifb_ne (q := 11) (t := 13) (dc dt_JS_form 4 rfl) rfl (by decide) (fun q_ => ?_) (fun q_ => ?_)
  · have h := h.1 q_
    refine r_iload_n (q := 14) (dc dt_JS_form 7 rfl) rfl rfl 3 rfl ?_
    refine r_callSi (q := 17) mk_JS_wholeWidth lm_JS_126 (RMO.of rfl) rfl (dc dt_JS_form 8 rfl) rfl [I v3] [] rfl rfl (Nat.le_of_ble_eq_true rfl) h (fun r5 u4 g6 h => ?_)
    refine r_istore (q := 19) (dc dt_JS_form 9 rfl) rfl (by decide) rfl ?_
    refine r_aload_n (q := 20) (dc dt_JS_form 10 rfl) rfl rfl 1 rfl ?_
    refine r_getO (q := 23) (v := 1) fl_JS_10 (dc dt_JS_form 11 rfl) rfl ly0 rfl ?_
    refine r_iload_n (q := 24) (dc dt_JS_form 12 rfl) rfl rfl 2 rfl ?_
    refine r_iload_n (q := 25) (dc dt_JS_form 13 rfl) rfl rfl 3 rfl ?_
    obtain ⟨o7, h⟩ := h
    obtain ⟨o8, h⟩ := h
    refine r_callVi (q := 28) mk_SC_canHave lm_JS_130 (RMO.of rfl) rfl (dc dt_JS_form 14 rfl) rfl ly1 [I v1, I v2] [] rfl rfl (Nat.le_of_ble_eq_true rfl) (sp_SC_canHave o7 o8) (fun _ _ g9 z => ?_)
    obtain ⟨z, w⟩ := z
    subst z
    replace w := w.symm
    subst w
    refine r_ifb_eq (q := 31) (t := 76) (dc dt_JS_form 15 rfl) rfl (by decide) (fun q_ => ?_) (fun q_ => ?_)
    · have h := h.1 q_
      refine r_bipush (q := 78) (dc dt_JS_form 36 rfl) rfl (by decide) ?_
      exact r_iret rfl (dc dt_JS_form 37 rfl) (⟨by decide, by decide⟩ : rng (-2)) h
    · have h := h.2 q_
      refine r_iload (q := 33) (dc dt_JS_form 16 rfl) rfl 0 rfl ?_
      refine r_iconst (q := 34) (dc dt_JS_form 17 rfl) rfl rfl ?_
      refine r_bipush (q := 36) (dc dt_JS_form 18 rfl) rfl (by decide) ?_
      obtain ⟨o10, h⟩ := h
      refine r_callSi (q := 39) mk_JS_within lm_JS_134 (RMO.of rfl) rfl (dc dt_JS_form 19 rfl) rfl [I r5, I 1, I 100] [] rfl rfl (Nat.le_of_ble_eq_true rfl) (sp_JS_within g6 (⟨by decide, by decide⟩ : rng 1) o10) (fun _ _ g11 z => ?_)
      obtain ⟨z, w⟩ := z
      subst z
      replace w := w.symm
      subst w
      refine r_ifb_eq (q := 42) (t := 76) (dc dt_JS_form 20 rfl) rfl (by decide) (fun q_ => ?_) (fun q_ => ?_)
      · have h := h.1 q_
        refine r_bipush (q := 78) (dc dt_JS_form 36 rfl) rfl (by decide) ?_
        exact r_iret rfl (dc dt_JS_form 37 rfl) (⟨by decide, by decide⟩ : rng (-2)) h
      · have h := h.2 q_
        refine r_iload (q := 44) (dc dt_JS_form 21 rfl) rfl 5 rfl ?_
        refine r_iconst (q := 45) (dc dt_JS_form 22 rfl) rfl rfl ?_
        refine r_bipush (q := 47) (dc dt_JS_form 23 rfl) rfl (by decide) ?_
        obtain ⟨o12, h⟩ := h
        obtain ⟨o13, h⟩ := h
        refine r_callSi (q := 50) mk_JS_within lm_JS_134 (RMO.of rfl) rfl (dc dt_JS_form 24 rfl) rfl [I v4, I 0, I 100] [] rfl rfl (Nat.le_of_ble_eq_true rfl) (sp_JS_within o12 (⟨by decide, by decide⟩ : rng 0) o13) (fun _ _ g14 z => ?_)
        obtain ⟨z, w⟩ := z
        subst z
        replace w := w.symm
        subst w
        refine r_ifb_eq (q := 53) (t := 76) (dc dt_JS_form 25 rfl) rfl (by decide) (fun q_ => ?_) (fun q_ => ?_)
        · have h := h.1 q_
          refine r_bipush (q := 78) (dc dt_JS_form 36 rfl) rfl (by decide) ?_
          exact r_iret rfl (dc dt_JS_form 37 rfl) (⟨by decide, by decide⟩ : rng (-2)) h
        · have h := h.2 q_
          refine r_iload (q := 55) (dc dt_JS_form 26 rfl) rfl 6 rfl ?_
          refine r_iconst (q := 56) (dc dt_JS_form 27 rfl) rfl rfl ?_
          refine r_bipush (q := 58) (dc dt_JS_form 28 rfl) rfl (by decide) ?_
          obtain ⟨o15, h⟩ := h
          obtain ⟨o16, h⟩ := h
          refine r_callSi (q := 61) mk_JS_within lm_JS_134 (RMO.of rfl) rfl (dc dt_JS_form 29 rfl) rfl [I v5, I 0, I 100] [] rfl rfl (Nat.le_of_ble_eq_true rfl) (sp_JS_within o15 (⟨by decide, by decide⟩ : rng 0) o16) (fun _ _ g17 z => ?_)
          obtain ⟨z, w⟩ := z
          subst z
          replace w := w.symm
          subst w
          refine r_ifb_eq (q := 64) (t := 76) (dc dt_JS_form 30 rfl) rfl (by decide) (fun q_ => ?_) (fun q_ => ?_)
          · have h := h.1 q_
            refine r_bipush (q := 78) (dc dt_JS_form 36 rfl) rfl (by decide) ?_
            exact r_iret rfl (dc dt_JS_form 37 rfl) (⟨by decide, by decide⟩ : rng (-2)) h
          · have h := h.2 q_
            refine r_iload (q := 66) (dc dt_JS_form 31 rfl) rfl 7 rfl ?_
            refine r_iconst (q := 67) (dc dt_JS_form 32 rfl) rfl rfl ?_
            refine r_sipush (q := 70) (dc dt_JS_form 33 rfl) rfl (by decide) ?_
            obtain ⟨o18, h⟩ := h
            obtain ⟨o19, h⟩ := h
            refine r_callSi (q := 73) mk_JS_within lm_JS_134 (RMO.of rfl) rfl (dc dt_JS_form 34 rfl) rfl [I v6, I 0, I 1000] [] rfl rfl (Nat.le_of_ble_eq_true rfl) (sp_JS_within o18 (⟨by decide, by decide⟩ : rng 0) o19) (fun _ _ g20 z => ?_)
            obtain ⟨z, w⟩ := z
            subst z
            replace w := w.symm
            subst w
            refine r_ifb_ne (q := 76) (t := 79) (dc dt_JS_form 35 rfl) rfl (by decide) (fun q_ => ?_) (fun q_ => ?_)
            · have h := h.1 q_
              refine r_aload_n (q := 80) (dc dt_JS_form 38 rfl) rfl rfl 1 rfl ?_
              refine r_getO (q := 83) (v := 1) fl_JS_10 (dc dt_JS_form 39 rfl) rfl ly0 rfl ?_
              refine r_getI (q := 86) (v := u4.2.1 1 2) fl_JS_137 (dc dt_JS_form 40 rfl) rfl ly1 rfl rfl (fun g21 => ?_)
              refine r_sipush (q := 89) (dc dt_JS_form 41 rfl) rfl (by decide) ?_
              refine r_icmp_ge (q := 92) (t := 105) (dc dt_JS_form 42 rfl) rfl (by decide) g21 (⟨by decide, by decide⟩ : rng 200) (fun q_ => ?_) (fun q_ => ?_)
              · have h := h.1 q_
                refine r_bipush (q := 107) (dc dt_JS_form 50 rfl) rfl (by decide) ?_
                exact r_iret rfl (dc dt_JS_form 51 rfl) (⟨by decide, by decide⟩ : rng (-4)) h
              · have h := h.2 q_
                refine r_aload_n (q := 93) (dc dt_JS_form 43 rfl) rfl rfl 1 rfl ?_
                refine r_getO (q := 96) (v := 1) fl_JS_10 (dc dt_JS_form 44 rfl) rfl ly0 rfl ?_
                refine r_iload_n (q := 97) (dc dt_JS_form 45 rfl) rfl rfl 2 rfl ?_
                refine r_iload_n (q := 98) (dc dt_JS_form 46 rfl) rfl rfl 3 rfl ?_
                obtain ⟨o22, h⟩ := h
                refine r_callVi (q := 101) mk_SC_formsOf lm_JS_140 (RMO.of rfl) rfl (dc dt_JS_form 47 rfl) rfl ly1 [I v1, I v2] [] rfl rfl (Nat.le_of_ble_eq_true rfl) (sp_SC_formsOf o22) (fun _ _ g23 z => ?_)
                obtain ⟨z, w⟩ := z
                subst z
                replace w := w.symm
                subst w
                refine r_iconst (q := 102) (dc dt_JS_form 48 rfl) rfl rfl ?_
                refine r_icmp_lt (q := 105) (t := 108) (dc dt_JS_form 49 rfl) rfl (by decide) g23 (⟨by decide, by decide⟩ : rng 3) (fun q_ => ?_) (fun q_ => ?_)
                · have h := h.1 q_
                  refine r_aload_n (q := 109) (dc dt_JS_form 52 rfl) rfl rfl 1 rfl ?_
                  refine r_dupo (q := 110) (dc dt_JS_form 53 rfl) rfl ?_
                  refine r_getI (q := 113) (v := u4.2.1 0 9) fl_JS_76 (dc dt_JS_form 54 rfl) rfl ly0 rfl rfl (fun g24 => ?_)
                  refine r_iconst (q := 114) (dc dt_JS_form 55 rfl) rfl rfl ?_
                  refine r_iadd (q := 115) (dc dt_JS_form 56 rfl) rfl ?_
                  obtain ⟨o27, h⟩ := h
                  refine r_put (q := 118) fl_JS_76 (dc dt_JS_form 57 rfl) rfl ly0 (fun _ => rfl) (Or.inl rfl) pf_0_9 o27 (fun σ25 e26 => ?_)
                  have h := h σ25 e26
                  refine r_aload_n (q := 119) (dc dt_JS_form 58 rfl) rfl rfl 1 rfl ?_
                  refine r_getO (q := 122) (v := 1) fl_JS_10 (dc dt_JS_form 59 rfl) rfl ly0 rfl ?_
                  refine r_iload_n (q := 123) (dc dt_JS_form 60 rfl) rfl rfl 2 rfl ?_
                  refine r_iload_n (q := 124) (dc dt_JS_form 61 rfl) rfl rfl 3 rfl ?_
                  refine r_callVi (q := 127) mk_SC_addForm lm_JS_144 (RMO.of rfl) rfl (dc dt_JS_form 62 rfl) rfl ly1 [I v1, I v2] [] rfl rfl (Nat.le_of_ble_eq_true rfl) h (fun r29 u28 g30 h => ?_)
                  refine r_istore (q := 129) (dc dt_JS_form 63 rfl) rfl (by decide) rfl ?_
                  refine r_aload_n (q := 130) (dc dt_JS_form 64 rfl) rfl rfl 2 rfl ?_
                  refine r_getO (q := 133) (v := 1) fl_JS_10 (dc dt_JS_form 65 rfl) rfl ly0 rfl ?_
                  refine r_getO (q := 136) (v := 54) fl_JS_147 (dc dt_JS_form 66 rfl) rfl ly1 rfl ?_
                  refine r_iload (q := 138) (dc dt_JS_form 67 rfl) rfl 0 rfl ?_
                  obtain ⟨o31, h⟩ := h
                  refine r_aald (q := 139) (dc dt_JS_form 68 rfl) rfl ly54 o31 rfl ?_
                  refine r_astore (q := 141) (dc dt_JS_form 69 rfl) rfl (by decide) rfl ?_
                  refine r_aload (q := 143) (dc dt_JS_form 70 rfl) rfl 0 rfl ?_
                  refine r_iconst (q := 144) (dc dt_JS_form 71 rfl) rfl rfl ?_
                  refine r_iload (q := 146) (dc dt_JS_form 72 rfl) rfl 2 rfl ?_
                  refine r_iast (q := 147) (dc dt_JS_form 73 rfl) rfl (lyr_176 o31) ⟨by decide, by decide⟩ g6 (fun σ32 e33 => ?_)
                  have h := h σ32 e33
                  refine r_aload (q := 149) (dc dt_JS_form 74 rfl) rfl 0 rfl ?_
                  refine r_iconst (q := 150) (dc dt_JS_form 75 rfl) rfl rfl ?_
                  refine r_iload (q := 152) (dc dt_JS_form 76 rfl) rfl 7 rfl ?_
                  refine r_iast (q := 153) (dc dt_JS_form 77 rfl) rfl (lyr_176 o31) ⟨by decide, by decide⟩ o12 (fun σ34 e35 => ?_)
                  have h := h σ34 e35
                  refine r_aload (q := 155) (dc dt_JS_form 78 rfl) rfl 0 rfl ?_
                  refine r_iconst (q := 156) (dc dt_JS_form 79 rfl) rfl rfl ?_
                  refine r_iload (q := 158) (dc dt_JS_form 80 rfl) rfl 8 rfl ?_
                  refine r_iast (q := 159) (dc dt_JS_form 81 rfl) rfl (lyr_176 o31) ⟨by decide, by decide⟩ o15 (fun σ36 e37 => ?_)
                  have h := h σ36 e37
                  refine r_aload (q := 161) (dc dt_JS_form 82 rfl) rfl 0 rfl ?_
                  refine r_iconst (q := 162) (dc dt_JS_form 83 rfl) rfl rfl ?_
                  refine r_iload (q := 164) (dc dt_JS_form 84 rfl) rfl 9 rfl ?_
                  refine r_iast (q := 165) (dc dt_JS_form 85 rfl) rfl (lyr_176 o31) ⟨by decide, by decide⟩ o18 (fun σ38 e39 => ?_)
                  have h := h σ38 e39
                  refine r_aload (q := 167) (dc dt_JS_form 86 rfl) rfl 0 rfl ?_
                  refine r_bipush (q := 169) (dc dt_JS_form 87 rfl) rfl (by decide) ?_
                  refine r_iload (q := 171) (dc dt_JS_form 88 rfl) rfl 2 rfl ?_
                  refine r_iconst (q := 172) (dc dt_JS_form 89 rfl) rfl rfl ?_
                  obtain ⟨o40, h⟩ := h
                  refine r_idiv (q := 173) (dc dt_JS_form 90 rfl) rfl o40 g6 (by decide) (by decide) ?_
                  obtain ⟨o41, h⟩ := h
                  refine r_iast (q := 174) (dc dt_JS_form 91 rfl) rfl (lyr_176 o31) ⟨by decide, by decide⟩ o41 (fun σ42 e43 => ?_)
                  have h := h σ42 e43
                  refine r_iload (q := 176) (dc dt_JS_form 92 rfl) rfl 1 rfl ?_
                  exact r_iret rfl (dc dt_JS_form 93 rfl) g30 h
                · have h := h.2 q_
                  refine r_bipush (q := 107) (dc dt_JS_form 50 rfl) rfl (by decide) ?_
                  exact r_iret rfl (dc dt_JS_form 51 rfl) (⟨by decide, by decide⟩ : rng (-4)) h
            · have h := h.2 q_
              refine r_bipush (q := 78) (dc dt_JS_form 36 rfl) rfl (by decide) ?_
              exact r_iret rfl (dc dt_JS_form 37 rfl) (⟨by decide, by decide⟩ : rng (-2)) h
  · have h := h.2 q_
    refine r_iconst (q := 12) (dc dt_JS_form 5 rfl) rfl rfl ?_
    exact r_iret rfl (dc dt_JS_form 6 rfl) (⟨by decide, by decide⟩ : rng (-1)) h
def tb_SC_knowsForm : List (Nat × Instr × Nat) := [(0, .iload_n 1, 1), (1, .iconst 0, 1), (2, .aload_n 0, 1), (3, .getfield 18, 3), (6, .iconst 1, 1), (7, .isub, 1), (8, .invokestatic 55, 3), (11, .ireturn, 1)]
theorem dt_SC_knowsForm : DT (cM m_SC_knowsForm) tb_SC_knowsForm := by unfold DT; decide +kernel
abbrev a_SC_knowsForm_0 (G : GT)  (v1 : Int) (σ : St) (P : Int → St → Prop) : Prop := A G m_SC_knowsForm 0 [(0, O 1), (1, I v1)] [] σ P
set_option maxRecDepth 20000 in
theorem k_SC_knowsForm_0 {G : GT} {σ : St} {P : Int → St → Prop}  {v1 : Int}  
    (h : rng v1 ∧ (0 ≤ v1 → rng ((σ.2.1 1 2) - 1)) ∧ P (if 0 ≤ v1 ∧ v1 ≤ ((σ.2.1 1 2) - 1) then 1 else 0) σ) :
    a_SC_knowsForm_0 G v1 σ P := by
  refine r_iload_n (q := 1) (dc dt_SC_knowsForm 0 rfl) rfl rfl 1 rfl ?_
  refine r_iconst (q := 2) (dc dt_SC_knowsForm 1 rfl) rfl rfl ?_
  refine r_aload_n (q := 3) (dc dt_SC_knowsForm 2 rfl) rfl rfl 0 rfl ?_
  refine r_getI (q := 6) (v := σ.2.1 1 2) fl_SC_18 (dc dt_SC_knowsForm 3 rfl) rfl ly1 rfl rfl (fun g1 => ?_)
  refine r_iconst (q := 7) (dc dt_SC_knowsForm 4 rfl) rfl rfl ?_
  refine r_isub (q := 8) (dc dt_SC_knowsForm 5 rfl) rfl ?_
  obtain ⟨o2, h⟩ := h
  obtain ⟨o3, h⟩ := h
  refine r_callNi (q := 11) mk_JS_within lm_SC_55 (RMO.of rfl) rfl (dc dt_SC_knowsForm 6 rfl) rfl [I v1, I 0, I ((σ.2.1 1 2) - 1)] [] rfl rfl (Nat.le_of_ble_eq_true rfl) (sp_JS_within o2 (⟨by decide, by decide⟩ : rng 0) o3) (fun _ _ g4 z => ?_)
  obtain ⟨z, w⟩ := z
  subst z
  replace w := w.symm
  subst w
  exact r_zret rfl (dc dt_SC_knowsForm 7 rfl) b01_or h
set_option maxRecDepth 20000 in
theorem sp_SC_knowsForm {G : GT} {σ : St} {v1 : Int}  (j0 : rng v1) (j1 : (0 ≤ v1 → rng ((σ.2.1 1 2) - 1))) : CJ G m_SC_knowsForm [O 1, I v1] σ (fun r u => r = (if 0 ≤ v1 ∧ v1 ≤ ((σ.2.1 1 2) - 1) then 1 else 0) ∧ u = σ) := by
  refine CJ.intro (by decide) (by simp [catA]; decide) (fun _ => k_SC_knowsForm_0  ?_)
  refine ⟨by first | assumption | omega | grind, ?_⟩
  refine ⟨by first | assumption | omega | grind, ?_⟩
  exact ⟨rfl, rfl⟩
def tb_SC_isMark : List (Nat × Instr × Nat) := [(0, .aload_n 0, 1), (1, .getfield 21, 3), (4, .iload_n 1, 1), (5, .iaload, 1), (6, .iconst 3, 1), (7, .if_icmp .eq 13, 3), (10, .aload_n 0, 1), (11, .getfield 21, 3), (14, .iload_n 1, 1), (15, .iaload, 1), (16, .iconst 4, 1), (17, .if_icmp .ne 7, 3), (20, .iconst 1, 1), (21, .goto 4, 3), (24, .iconst 0, 1), (25, .ireturn, 1)]
theorem dt_SC_isMark : DT (cM m_SC_isMark) tb_SC_isMark := by unfold DT; decide +kernel
abbrev a_SC_isMark_0 (G : GT)  (v1 : Int) (σ : St) (P : Int → St → Prop) : Prop := A G m_SC_isMark 0 [(0, O 1), (1, I v1)] [] σ P
set_option maxRecDepth 20000 in
theorem k_SC_isMark_0 {G : GT} {σ : St} {P : Int → St → Prop}  {v1 : Int}  
    (h : (0 ≤ v1 ∧ v1 < 60) ∧ P (if σ.1 47 v1.toNat = 3 ∨ σ.1 47 v1.toNat = 4 then 1 else 0) σ) :
    a_SC_isMark_0 G v1 σ P := by
  refine r_aload_n (q := 1) (dc dt_SC_isMark 0 rfl) rfl rfl 0 rfl ?_
  refine r_getO (q := 4) (v := 47) fl_SC_21 (dc dt_SC_isMark 1 rfl) rfl ly1 rfl ?_
  refine r_iload_n (q := 5) (dc dt_SC_isMark 2 rfl) rfl rfl 1 rfl ?_
  obtain ⟨o1, h⟩ := h
  refine r_iald (q := 6) (v := σ.1 47 v1.toNat) (dc dt_SC_isMark 3 rfl) rfl ly47 o1 rfl (fun g2 => ?_)
  refine r_iconst (q := 7) (dc dt_SC_isMark 4 rfl) rfl rfl ?_
  have hJ : ∀ (w_0 : Int), w_0 = (if σ.1 47 v1.toNat = 3 ∨ σ.1 47 v1.toNat = 4 then 1 else 0) → A G m_SC_isMark 25 [(0, O 1), (1, I v1)] [I w_0] σ P := by
    intro w_0 z_0
    subst z_0
    exact r_zret rfl (dc dt_SC_isMark 15 rfl) b01_or h
  clear h
  refine r_icmp_eq (q := 10) (t := 20) (dc dt_SC_isMark 5 rfl) rfl (by decide) g2 (⟨by decide, by decide⟩ : rng 3) (fun q_ => ?_) (fun q_ => ?_)
  · have q4 := q_
    refine r_iconst (q := 21) (dc dt_SC_isMark 12 rfl) rfl rfl ?_
    refine r_goto (q := 25) (dc dt_SC_isMark 13 rfl) (by decide) ?_
    exact (hJ 1 ((if_pos (by first | omega | grind)).symm))
  · have q4 := q_
    refine r_aload_n (q := 11) (dc dt_SC_isMark 6 rfl) rfl rfl 0 rfl ?_
    refine r_getO (q := 14) (v := 47) fl_SC_21 (dc dt_SC_isMark 7 rfl) rfl ly1 rfl ?_
    refine r_iload_n (q := 15) (dc dt_SC_isMark 8 rfl) rfl rfl 1 rfl ?_
    refine r_iald (q := 16) (v := σ.1 47 v1.toNat) (dc dt_SC_isMark 9 rfl) rfl ly47 o1 rfl (fun g3 => ?_)
    refine r_iconst (q := 17) (dc dt_SC_isMark 10 rfl) rfl rfl ?_
    refine r_icmp_ne (q := 20) (t := 24) (dc dt_SC_isMark 11 rfl) rfl (by decide) g3 (⟨by decide, by decide⟩ : rng 4) (fun q_ => ?_) (fun q_ => ?_)
    · have q5 := q_
      refine r_iconst (q := 25) (dc dt_SC_isMark 14 rfl) rfl rfl ?_
      exact (hJ 0 ((if_neg (by first | omega | grind)).symm))
    · have q5 := q_
      refine r_iconst (q := 21) (dc dt_SC_isMark 12 rfl) rfl rfl ?_
      refine r_goto (q := 25) (dc dt_SC_isMark 13 rfl) (by decide) ?_
      exact (hJ 1 ((if_pos (by first | omega | grind)).symm))
set_option maxRecDepth 20000 in
theorem sp_SC_isMark {G : GT} {σ : St} {v1 : Int}  (j0 : 0 ≤ v1 ∧ v1 < 60) : CJ G m_SC_isMark [O 1, I v1] σ (fun r u => r = (if σ.1 47 v1.toNat = 3 ∨ σ.1 47 v1.toNat = 4 then 1 else 0) ∧ u = σ) := by
  refine CJ.intro (by decide) (by simp [catA]; decide) (fun _ => k_SC_isMark_0  ?_)
  refine ⟨by first | assumption | omega | grind, ?_⟩
  exact ⟨rfl, rfl⟩
def tb_JS_stretch : List (Nat × Instr × Nat) := [(0, .aload_n 0, 1), (1, .getfield 10, 3), (4, .iload_n 1, 1), (5, .invokevirtual 151, 3), (8, .ifCond .ne 5, 3), (11, .iconst (-1), 1), (12, .ireturn, 1), (13, .iload_n 2, 1), (14, .iconst 0, 1), (15, .bipush 12, 2), (17, .invokestatic 134, 3), (20, .ifCond .eq 13, 3), (23, .iload_n 3, 1), (24, .iconst 0, 1), (25, .bipush 50, 2), (27, .invokestatic 134, 3), (30, .ifCond .ne 6, 3), (33, .bipush (-2), 2), (35, .ireturn, 1), (36, .aload_n 0, 1), (37, .getfield 10, 3), (40, .aload_n 0, 1), (41, .getfield 10, 3), (44, .getfield 147, 3), (47, .iload_n 1, 1), (48, .aaload, 1), (49, .iconst 0, 1), (50, .iaload, 1), (51, .invokevirtual 154, 3), (54, .ifCond .eq 6, 3), (57, .bipush (-5), 2), (59, .ireturn, 1), (60, .aload_n 0, 1), (61, .dup, 1), (62, .getfield 76, 3), (65, .iconst 1, 1), (66, .iadd, 1), (67, .putfield 76, 3), (70, .aload_n 0, 1), (71, .getfield 10, 3), (74, .getfield 147, 3), (77, .iload_n 1, 1), (78, .aaload, 1), (79, .bipush 7, 2), (81, .iload_n 2, 1), (82, .iastore, 1), (83, .aload_n 0, 1), (84, .getfield 10, 3), (87, .getfield 147, 3), (90, .iload_n 1, 1), (91, .aaload, 1), (92, .bipush 8, 2), (94, .iload_n 3, 1), (95, .iastore, 1), (96, .iconst 1, 1), (97, .ireturn, 1)]
theorem dt_JS_stretch : DT (cM m_JS_stretch) tb_JS_stretch := by unfold DT; decide +kernel
abbrev a_JS_stretch_0 (G : GT)  (v1 : Int) (v2 : Int) (v3 : Int) (σ : St) (P : Int → St → Prop) : Prop := A G m_JS_stretch 0 [(0, O 0), (1, I v1), (2, I v2), (3, I v3)] [] σ P
set_option maxRecDepth 20000 in
theorem k_JS_stretch_0 {G : GT} {σ : St} {P : Int → St → Prop}  {v1 : Int} {v2 : Int} {v3 : Int}  
    (h : rng v1 ∧ (0 ≤ v1 → rng ((σ.2.1 1 2) - 1)) ∧ (0 ≤ v1 ∧ v1 ≤ ((σ.2.1 1 2) - 1) → rng v2 ∧ (0 ≤ v2 → rng 12) ∧ (¬ (0 ≤ v2 ∧ v2 ≤ 12) → P (-2) σ) ∧ (0 ≤ v2 ∧ v2 ≤ 12 → rng v3 ∧ (0 ≤ v3 → rng 50) ∧ (0 ≤ v3 ∧ v3 ≤ 50 → (0 ≤ v1 ∧ v1 < 200) ∧ (0 ≤ (σ.1 (176 + v1.toNat) 0) ∧ (σ.1 (176 + v1.toNat) 0) < 60) ∧ (¬ (σ.1 47 (σ.1 (176 + v1.toNat) 0).toNat = 3 ∨ σ.1 47 (σ.1 (176 + v1.toNat) 0).toNat = 4) → rng ((σ.2.1 0 9) + 1) ∧ (∀ σ15, σ15 = sf σ 0 9 ((σ.2.1 0 9) + 1) → (∀ σ18, σ18 = sa σ15 (176 + v1.toNat) 7 v2 → (∀ σ20, σ20 = sa σ18 (176 + v1.toNat) 8 v3 → P 1 σ20)))) ∧ (σ.1 47 (σ.1 (176 + v1.toNat) 0).toNat = 3 ∨ σ.1 47 (σ.1 (176 + v1.toNat) 0).toNat = 4 → P (-5) σ)) ∧ (¬ (0 ≤ v3 ∧ v3 ≤ 50) → P (-2) σ))) ∧ (¬ (0 ≤ v1 ∧ v1 ≤ ((σ.2.1 1 2) - 1)) → P (-1) σ)) :
    a_JS_stretch_0 G v1 v2 v3 σ P := by
  refine r_aload_n (q := 1) (dc dt_JS_stretch 0 rfl) rfl rfl 0 rfl ?_
  refine r_getO (q := 4) (v := 1) fl_JS_10 (dc dt_JS_stretch 1 rfl) rfl ly0 rfl ?_
  refine r_iload_n (q := 5) (dc dt_JS_stretch 2 rfl) rfl rfl 1 rfl ?_
  obtain ⟨o1, h⟩ := h
  obtain ⟨o2, h⟩ := h
  refine r_callVi (q := 8) mk_SC_knowsForm lm_JS_151 (RMO.of rfl) rfl (dc dt_JS_stretch 3 rfl) rfl ly1 [I v1] [] rfl rfl (Nat.le_of_ble_eq_true rfl) (sp_SC_knowsForm o1 o2) (fun _ _ g3 z => ?_)
  obtain ⟨z, w⟩ := z
  subst z
  replace w := w.symm
  subst w
  refine r_ifb_ne (q := 11) (t := 13) (dc dt_JS_stretch 4 rfl) rfl (by decide) (fun q_ => ?_) (fun q_ => ?_)
  · have h := h.1 q_
    refine r_iload_n (q := 14) (dc dt_JS_stretch 7 rfl) rfl rfl 2 rfl ?_
    refine r_iconst (q := 15) (dc dt_JS_stretch 8 rfl) rfl rfl ?_
    refine r_bipush (q := 17) (dc dt_JS_stretch 9 rfl) rfl (by decide) ?_
    obtain ⟨o4, h⟩ := h
    obtain ⟨o5, h⟩ := h
    refine r_callSi (q := 20) mk_JS_within lm_JS_134 (RMO.of rfl) rfl (dc dt_JS_stretch 10 rfl) rfl [I v2, I 0, I 12] [] rfl rfl (Nat.le_of_ble_eq_true rfl) (sp_JS_within o4 (⟨by decide, by decide⟩ : rng 0) o5) (fun _ _ g6 z => ?_)
    obtain ⟨z, w⟩ := z
    subst z
    replace w := w.symm
    subst w
    refine r_ifb_eq (q := 23) (t := 33) (dc dt_JS_stretch 11 rfl) rfl (by decide) (fun q_ => ?_) (fun q_ => ?_)
    · have h := h.1 q_
      refine r_bipush (q := 35) (dc dt_JS_stretch 17 rfl) rfl (by decide) ?_
      exact r_iret rfl (dc dt_JS_stretch 18 rfl) (⟨by decide, by decide⟩ : rng (-2)) h
    · have h := h.2 q_
      refine r_iload_n (q := 24) (dc dt_JS_stretch 12 rfl) rfl rfl 3 rfl ?_
      refine r_iconst (q := 25) (dc dt_JS_stretch 13 rfl) rfl rfl ?_
      refine r_bipush (q := 27) (dc dt_JS_stretch 14 rfl) rfl (by decide) ?_
      obtain ⟨o7, h⟩ := h
      obtain ⟨o8, h⟩ := h
      refine r_callSi (q := 30) mk_JS_within lm_JS_134 (RMO.of rfl) rfl (dc dt_JS_stretch 15 rfl) rfl [I v3, I 0, I 50] [] rfl rfl (Nat.le_of_ble_eq_true rfl) (sp_JS_within o7 (⟨by decide, by decide⟩ : rng 0) o8) (fun _ _ g9 z => ?_)
      obtain ⟨z, w⟩ := z
      subst z
      replace w := w.symm
      subst w
      refine r_ifb_ne (q := 33) (t := 36) (dc dt_JS_stretch 16 rfl) rfl (by decide) (fun q_ => ?_) (fun q_ => ?_)
      · have h := h.1 q_
        refine r_aload_n (q := 37) (dc dt_JS_stretch 19 rfl) rfl rfl 0 rfl ?_
        refine r_getO (q := 40) (v := 1) fl_JS_10 (dc dt_JS_stretch 20 rfl) rfl ly0 rfl ?_
        refine r_aload_n (q := 41) (dc dt_JS_stretch 21 rfl) rfl rfl 0 rfl ?_
        refine r_getO (q := 44) (v := 1) fl_JS_10 (dc dt_JS_stretch 22 rfl) rfl ly0 rfl ?_
        refine r_getO (q := 47) (v := 54) fl_JS_147 (dc dt_JS_stretch 23 rfl) rfl ly1 rfl ?_
        refine r_iload_n (q := 48) (dc dt_JS_stretch 24 rfl) rfl rfl 1 rfl ?_
        obtain ⟨o10, h⟩ := h
        refine r_aald (q := 49) (dc dt_JS_stretch 25 rfl) rfl ly54 o10 rfl ?_
        refine r_iconst (q := 50) (dc dt_JS_stretch 26 rfl) rfl rfl ?_
        refine r_iald (q := 51) (v := σ.1 (176 + v1.toNat) 0) (dc dt_JS_stretch 27 rfl) rfl (lyr_176 o10) ⟨by decide, by decide⟩ rfl (fun g11 => ?_)
        obtain ⟨o12, h⟩ := h
        refine r_callVi (q := 54) mk_SC_isMark lm_JS_154 (RMO.of rfl) rfl (dc dt_JS_stretch 28 rfl) rfl ly1 [I (σ.1 (176 + v1.toNat) 0)] [] rfl rfl (Nat.le_of_ble_eq_true rfl) (sp_SC_isMark o12) (fun _ _ g13 z => ?_)
        obtain ⟨z, w⟩ := z
        subst z
        replace w := w.symm
        subst w
        refine r_ifb_eq (q := 57) (t := 60) (dc dt_JS_stretch 29 rfl) rfl (by decide) (fun q_ => ?_) (fun q_ => ?_)
        · have h := h.1 q_
          refine r_aload_n (q := 61) (dc dt_JS_stretch 32 rfl) rfl rfl 0 rfl ?_
          refine r_dupo (q := 62) (dc dt_JS_stretch 33 rfl) rfl ?_
          refine r_getI (q := 65) (v := σ.2.1 0 9) fl_JS_76 (dc dt_JS_stretch 34 rfl) rfl ly0 rfl rfl (fun g14 => ?_)
          refine r_iconst (q := 66) (dc dt_JS_stretch 35 rfl) rfl rfl ?_
          refine r_iadd (q := 67) (dc dt_JS_stretch 36 rfl) rfl ?_
          obtain ⟨o17, h⟩ := h
          refine r_put (q := 70) fl_JS_76 (dc dt_JS_stretch 37 rfl) rfl ly0 (fun _ => rfl) (Or.inl rfl) pf_0_9 o17 (fun σ15 e16 => ?_)
          have h := h σ15 e16
          refine r_aload_n (q := 71) (dc dt_JS_stretch 38 rfl) rfl rfl 0 rfl ?_
          refine r_getO (q := 74) (v := 1) fl_JS_10 (dc dt_JS_stretch 39 rfl) rfl ly0 rfl ?_
          refine r_getO (q := 77) (v := 54) fl_JS_147 (dc dt_JS_stretch 40 rfl) rfl ly1 rfl ?_
          refine r_iload_n (q := 78) (dc dt_JS_stretch 41 rfl) rfl rfl 1 rfl ?_
          refine r_aald (q := 79) (dc dt_JS_stretch 42 rfl) rfl ly54 o10 rfl ?_
          refine r_bipush (q := 81) (dc dt_JS_stretch 43 rfl) rfl (by decide) ?_
          refine r_iload_n (q := 82) (dc dt_JS_stretch 44 rfl) rfl rfl 2 rfl ?_
          refine r_iast (q := 83) (dc dt_JS_stretch 45 rfl) rfl (lyr_176 o10) ⟨by decide, by decide⟩ o4 (fun σ18 e19 => ?_)
          have h := h σ18 e19
          refine r_aload_n (q := 84) (dc dt_JS_stretch 46 rfl) rfl rfl 0 rfl ?_
          refine r_getO (q := 87) (v := 1) fl_JS_10 (dc dt_JS_stretch 47 rfl) rfl ly0 rfl ?_
          refine r_getO (q := 90) (v := 54) fl_JS_147 (dc dt_JS_stretch 48 rfl) rfl ly1 rfl ?_
          refine r_iload_n (q := 91) (dc dt_JS_stretch 49 rfl) rfl rfl 1 rfl ?_
          refine r_aald (q := 92) (dc dt_JS_stretch 50 rfl) rfl ly54 o10 rfl ?_
          refine r_bipush (q := 94) (dc dt_JS_stretch 51 rfl) rfl (by decide) ?_
          refine r_iload_n (q := 95) (dc dt_JS_stretch 52 rfl) rfl rfl 3 rfl ?_
          refine r_iast (q := 96) (dc dt_JS_stretch 53 rfl) rfl (lyr_176 o10) ⟨by decide, by decide⟩ o7 (fun σ20 e21 => ?_)
          have h := h σ20 e21
          refine r_iconst (q := 97) (dc dt_JS_stretch 54 rfl) rfl rfl ?_
          exact r_iret rfl (dc dt_JS_stretch 55 rfl) (⟨by decide, by decide⟩ : rng 1) h
        · have h := h.2 q_
          refine r_bipush (q := 59) (dc dt_JS_stretch 30 rfl) rfl (by decide) ?_
          exact r_iret rfl (dc dt_JS_stretch 31 rfl) (⟨by decide, by decide⟩ : rng (-5)) h
      · have h := h.2 q_
        refine r_bipush (q := 35) (dc dt_JS_stretch 17 rfl) rfl (by decide) ?_
        exact r_iret rfl (dc dt_JS_stretch 18 rfl) (⟨by decide, by decide⟩ : rng (-2)) h
  · have h := h.2 q_
    refine r_iconst (q := 12) (dc dt_JS_stretch 5 rfl) rfl rfl ?_
    exact r_iret rfl (dc dt_JS_stretch 6 rfl) (⟨by decide, by decide⟩ : rng (-1)) h
def tb_JS_point : List (Nat × Instr × Nat) := [(0, .aload_n 0, 1), (1, .getfield 10, 3), (4, .iload_n 1, 1), (5, .invokevirtual 151, 3), (8, .ifCond .ne 5, 3), (11, .iconst (-1), 1), (12, .ireturn, 1), (13, .iload_n 2, 1), (14, .iconst 0, 1), (15, .aload_n 0, 1), (16, .getfield 10, 3), (19, .getfield 147, 3), (22, .iload_n 1, 1), (23, .aaload, 1), (24, .iconst 2, 1), (25, .iaload, 1), (26, .invokestatic 134, 3), (29, .ifCond .ne 6, 3), (32, .bipush (-2), 2), (34, .ireturn, 1), (35, .aload_n 0, 1), (36, .dup, 1), (37, .getfield 76, 3), (40, .iconst 1, 1), (41, .iadd, 1), (42, .putfield 76, 3), (45, .aload_n 0, 1), (46, .getfield 10, 3), (49, .getfield 147, 3), (52, .iload_n 1, 1), (53, .aaload, 1), (54, .bipush 6, 2), (56, .iload_n 2, 1), (57, .iastore, 1), (58, .iconst 1, 1), (59, .ireturn, 1)]
theorem dt_JS_point : DT (cM m_JS_point) tb_JS_point := by unfold DT; decide +kernel
abbrev a_JS_point_0 (G : GT)  (v1 : Int) (v2 : Int) (σ : St) (P : Int → St → Prop) : Prop := A G m_JS_point 0 [(0, O 0), (1, I v1), (2, I v2)] [] σ P
set_option maxRecDepth 20000 in
theorem k_JS_point_0 {G : GT} {σ : St} {P : Int → St → Prop}  {v1 : Int} {v2 : Int}  
    (h : rng v1 ∧ (0 ≤ v1 → rng ((σ.2.1 1 2) - 1)) ∧ (0 ≤ v1 ∧ v1 ≤ ((σ.2.1 1 2) - 1) → (0 ≤ v1 ∧ v1 < 200) ∧ rng v2 ∧ (0 ≤ v2 → rng (σ.1 (176 + v1.toNat) 2)) ∧ (0 ≤ v2 ∧ v2 ≤ (σ.1 (176 + v1.toNat) 2) → rng ((σ.2.1 0 9) + 1) ∧ (∀ σ10, σ10 = sf σ 0 9 ((σ.2.1 0 9) + 1) → (∀ σ13, σ13 = sa σ10 (176 + v1.toNat) 6 v2 → P 1 σ13))) ∧ (¬ (0 ≤ v2 ∧ v2 ≤ (σ.1 (176 + v1.toNat) 2)) → P (-2) σ)) ∧ (¬ (0 ≤ v1 ∧ v1 ≤ ((σ.2.1 1 2) - 1)) → P (-1) σ)) :
    a_JS_point_0 G v1 v2 σ P := by
  refine r_aload_n (q := 1) (dc dt_JS_point 0 rfl) rfl rfl 0 rfl ?_
  refine r_getO (q := 4) (v := 1) fl_JS_10 (dc dt_JS_point 1 rfl) rfl ly0 rfl ?_
  refine r_iload_n (q := 5) (dc dt_JS_point 2 rfl) rfl rfl 1 rfl ?_
  obtain ⟨o1, h⟩ := h
  obtain ⟨o2, h⟩ := h
  refine r_callVi (q := 8) mk_SC_knowsForm lm_JS_151 (RMO.of rfl) rfl (dc dt_JS_point 3 rfl) rfl ly1 [I v1] [] rfl rfl (Nat.le_of_ble_eq_true rfl) (sp_SC_knowsForm o1 o2) (fun _ _ g3 z => ?_)
  obtain ⟨z, w⟩ := z
  subst z
  replace w := w.symm
  subst w
  refine r_ifb_ne (q := 11) (t := 13) (dc dt_JS_point 4 rfl) rfl (by decide) (fun q_ => ?_) (fun q_ => ?_)
  · have h := h.1 q_
    refine r_iload_n (q := 14) (dc dt_JS_point 7 rfl) rfl rfl 2 rfl ?_
    refine r_iconst (q := 15) (dc dt_JS_point 8 rfl) rfl rfl ?_
    refine r_aload_n (q := 16) (dc dt_JS_point 9 rfl) rfl rfl 0 rfl ?_
    refine r_getO (q := 19) (v := 1) fl_JS_10 (dc dt_JS_point 10 rfl) rfl ly0 rfl ?_
    refine r_getO (q := 22) (v := 54) fl_JS_147 (dc dt_JS_point 11 rfl) rfl ly1 rfl ?_
    refine r_iload_n (q := 23) (dc dt_JS_point 12 rfl) rfl rfl 1 rfl ?_
    obtain ⟨o4, h⟩ := h
    refine r_aald (q := 24) (dc dt_JS_point 13 rfl) rfl ly54 o4 rfl ?_
    refine r_iconst (q := 25) (dc dt_JS_point 14 rfl) rfl rfl ?_
    refine r_iald (q := 26) (v := σ.1 (176 + v1.toNat) 2) (dc dt_JS_point 15 rfl) rfl (lyr_176 o4) ⟨by decide, by decide⟩ rfl (fun g5 => ?_)
    obtain ⟨o6, h⟩ := h
    obtain ⟨o7, h⟩ := h
    refine r_callSi (q := 29) mk_JS_within lm_JS_134 (RMO.of rfl) rfl (dc dt_JS_point 16 rfl) rfl [I v2, I 0, I (σ.1 (176 + v1.toNat) 2)] [] rfl rfl (Nat.le_of_ble_eq_true rfl) (sp_JS_within o6 (⟨by decide, by decide⟩ : rng 0) o7) (fun _ _ g8 z => ?_)
    obtain ⟨z, w⟩ := z
    subst z
    replace w := w.symm
    subst w
    refine r_ifb_ne (q := 32) (t := 35) (dc dt_JS_point 17 rfl) rfl (by decide) (fun q_ => ?_) (fun q_ => ?_)
    · have h := h.1 q_
      refine r_aload_n (q := 36) (dc dt_JS_point 20 rfl) rfl rfl 0 rfl ?_
      refine r_dupo (q := 37) (dc dt_JS_point 21 rfl) rfl ?_
      refine r_getI (q := 40) (v := σ.2.1 0 9) fl_JS_76 (dc dt_JS_point 22 rfl) rfl ly0 rfl rfl (fun g9 => ?_)
      refine r_iconst (q := 41) (dc dt_JS_point 23 rfl) rfl rfl ?_
      refine r_iadd (q := 42) (dc dt_JS_point 24 rfl) rfl ?_
      obtain ⟨o12, h⟩ := h
      refine r_put (q := 45) fl_JS_76 (dc dt_JS_point 25 rfl) rfl ly0 (fun _ => rfl) (Or.inl rfl) pf_0_9 o12 (fun σ10 e11 => ?_)
      have h := h σ10 e11
      refine r_aload_n (q := 46) (dc dt_JS_point 26 rfl) rfl rfl 0 rfl ?_
      refine r_getO (q := 49) (v := 1) fl_JS_10 (dc dt_JS_point 27 rfl) rfl ly0 rfl ?_
      refine r_getO (q := 52) (v := 54) fl_JS_147 (dc dt_JS_point 28 rfl) rfl ly1 rfl ?_
      refine r_iload_n (q := 53) (dc dt_JS_point 29 rfl) rfl rfl 1 rfl ?_
      refine r_aald (q := 54) (dc dt_JS_point 30 rfl) rfl ly54 o4 rfl ?_
      refine r_bipush (q := 56) (dc dt_JS_point 31 rfl) rfl (by decide) ?_
      refine r_iload_n (q := 57) (dc dt_JS_point 32 rfl) rfl rfl 2 rfl ?_
      refine r_iast (q := 58) (dc dt_JS_point 33 rfl) rfl (lyr_176 o4) ⟨by decide, by decide⟩ o6 (fun σ13 e14 => ?_)
      have h := h σ13 e14
      refine r_iconst (q := 59) (dc dt_JS_point 34 rfl) rfl rfl ?_
      exact r_iret rfl (dc dt_JS_point 35 rfl) (⟨by decide, by decide⟩ : rng 1) h
    · have h := h.2 q_
      refine r_bipush (q := 34) (dc dt_JS_point 18 rfl) rfl (by decide) ?_
      exact r_iret rfl (dc dt_JS_point 19 rfl) (⟨by decide, by decide⟩ : rng (-2)) h
  · have h := h.2 q_
    refine r_iconst (q := 12) (dc dt_JS_point 5 rfl) rfl rfl ?_
    exact r_iret rfl (dc dt_JS_point 6 rfl) (⟨by decide, by decide⟩ : rng (-1)) h
def tb_JS_bar : List (Nat × Instr × Nat) := [(0, .aload_n 0, 1), (1, .getfield 10, 3), (4, .iload_n 1, 1), (5, .invokevirtual 108, 3), (8, .ifCond .ne 5, 3), (11, .iconst (-1), 1), (12, .ireturn, 1), (13, .aload_n 0, 1), (14, .dup, 1), (15, .getfield 76, 3), (18, .iconst 1, 1), (19, .iadd, 1), (20, .putfield 76, 3), (23, .aload_n 0, 1), (24, .getfield 10, 3), (27, .getfield 157, 3), (30, .iload_n 1, 1), (31, .baload, 1), (32, .istore_n 3, 1), (33, .aload_n 0, 1), (34, .getfield 10, 3), (37, .getfield 157, 3), (40, .iload_n 1, 1), (41, .iload_n 2, 1), (42, .bastore, 1), (43, .iload_n 3, 1), (44, .ifCond .eq 7, 3), (47, .iconst 1, 1), (48, .goto 4, 3), (51, .iconst 0, 1), (52, .ireturn, 1)]
theorem dt_JS_bar : DT (cM m_JS_bar) tb_JS_bar := by unfold DT; decide +kernel
abbrev a_JS_bar_0 (G : GT)  (v1 : Int) (v2 : Int) (σ : St) (P : Int → St → Prop) : Prop := A G m_JS_bar 0 [(0, O 0), (1, I v1), (2, I v2)] [] σ P
set_option maxRecDepth 20000 in
theorem k_JS_bar_0 {G : GT} {σ : St} {P : Int → St → Prop}  {v1 : Int} {v2 : Int}  
    (h : rng v1 ∧ (0 ≤ v1 → rng ((σ.2.1 1 0) - 1)) ∧ (0 ≤ v1 ∧ v1 ≤ ((σ.2.1 1 0) - 1) → rng ((σ.2.1 0 9) + 1) ∧ (∀ σ5, σ5 = sf σ 0 9 ((σ.2.1 0 9) + 1) → (0 ≤ v1 ∧ v1 < 60) ∧ (v2 = 0 ∨ v2 = 1) ∧ (∀ σ11, σ11 = sa σ5 50 v1.toNat v2 → P (if σ.1 50 v1.toNat ≠ 0 then 1 else 0) σ11))) ∧ (¬ (0 ≤ v1 ∧ v1 ≤ ((σ.2.1 1 0) - 1)) → P (-1) σ)) :
    a_JS_bar_0 G v1 v2 σ P := by
  refine r_aload_n (q := 1) (dc dt_JS_bar 0 rfl) rfl rfl 0 rfl ?_
  refine r_getO (q := 4) (v := 1) fl_JS_10 (dc dt_JS_bar 1 rfl) rfl ly0 rfl ?_
  refine r_iload_n (q := 5) (dc dt_JS_bar 2 rfl) rfl rfl 1 rfl ?_
  obtain ⟨o1, h⟩ := h
  obtain ⟨o2, h⟩ := h
  refine r_callVi (q := 8) mk_SC_knows lm_JS_108 (RMO.of rfl) rfl (dc dt_JS_bar 3 rfl) rfl ly1 [I v1] [] rfl rfl (Nat.le_of_ble_eq_true rfl) (sp_SC_knows o1 o2) (fun _ _ g3 z => ?_)
  obtain ⟨z, w⟩ := z
  subst z
  replace w := w.symm
  subst w
  refine r_ifb_ne (q := 11) (t := 13) (dc dt_JS_bar 4 rfl) rfl (by decide) (fun q_ => ?_) (fun q_ => ?_)
  · have h := h.1 q_
    refine r_aload_n (q := 14) (dc dt_JS_bar 7 rfl) rfl rfl 0 rfl ?_
    refine r_dupo (q := 15) (dc dt_JS_bar 8 rfl) rfl ?_
    refine r_getI (q := 18) (v := σ.2.1 0 9) fl_JS_76 (dc dt_JS_bar 9 rfl) rfl ly0 rfl rfl (fun g4 => ?_)
    refine r_iconst (q := 19) (dc dt_JS_bar 10 rfl) rfl rfl ?_
    refine r_iadd (q := 20) (dc dt_JS_bar 11 rfl) rfl ?_
    obtain ⟨o7, h⟩ := h
    refine r_put (q := 23) fl_JS_76 (dc dt_JS_bar 12 rfl) rfl ly0 (fun _ => rfl) (Or.inl rfl) pf_0_9 o7 (fun σ5 e6 => ?_)
    have h := h σ5 e6
    refine r_aload_n (q := 24) (dc dt_JS_bar 13 rfl) rfl rfl 0 rfl ?_
    refine r_getO (q := 27) (v := 1) fl_JS_10 (dc dt_JS_bar 14 rfl) rfl ly0 rfl ?_
    refine r_getO (q := 30) (v := 50) fl_JS_157 (dc dt_JS_bar 15 rfl) rfl ly1 rfl ?_
    refine r_iload_n (q := 31) (dc dt_JS_bar 16 rfl) rfl rfl 1 rfl ?_
    obtain ⟨o8, h⟩ := h
    refine r_zald (q := 32) (v := σ.1 50 v1.toNat) (dc dt_JS_bar 17 rfl) rfl ly50 o8 (by rw [e6]; rfl) (fun g9 => ?_)
    refine r_istore_n (q := 33) (dc dt_JS_bar 18 rfl) rfl rfl (by decide) rfl ?_
    refine r_aload_n (q := 34) (dc dt_JS_bar 19 rfl) rfl rfl 1 rfl ?_
    refine r_getO (q := 37) (v := 1) fl_JS_10 (dc dt_JS_bar 20 rfl) rfl ly0 rfl ?_
    refine r_getO (q := 40) (v := 50) fl_JS_157 (dc dt_JS_bar 21 rfl) rfl ly1 rfl ?_
    refine r_iload_n (q := 41) (dc dt_JS_bar 22 rfl) rfl rfl 2 rfl ?_
    refine r_iload_n (q := 42) (dc dt_JS_bar 23 rfl) rfl rfl 3 rfl ?_
    obtain ⟨o10, h⟩ := h
    refine r_zast (q := 43) (dc dt_JS_bar 24 rfl) rfl ly50 o8 o10 (fun σ11 e12 => ?_)
    have h := h σ11 e12
    refine r_iload_n (q := 44) (dc dt_JS_bar 25 rfl) rfl rfl 0 rfl ?_
    have hJ : ∀ (w_0 : Int), w_0 = (if σ.1 50 v1.toNat ≠ 0 then 1 else 0) → A G m_JS_bar 52 [(3, I (σ.1 50 v1.toNat)), (0, O 0), (1, I v1), (2, I v2)] [I w_0] σ11 P := by
      intro w_0 z_0
      subst z_0
      exact r_iret rfl (dc dt_JS_bar 30 rfl) b01_rng h
    clear h
    refine r_if_eq (q := 47) (t := 51) (dc dt_JS_bar 26 rfl) rfl (by decide) g9 (fun q_ => ?_) (fun q_ => ?_)
    · have q13 := q_
      refine r_iconst (q := 52) (dc dt_JS_bar 29 rfl) rfl rfl ?_
      exact (hJ 0 ((if_neg (by first | omega | grind)).symm))
    · have q13 := q_
      refine r_iconst (q := 48) (dc dt_JS_bar 27 rfl) rfl rfl ?_
      refine r_goto (q := 52) (dc dt_JS_bar 28 rfl) (by decide) ?_
      exact (hJ 1 ((if_pos (by first | omega | grind)).symm))
  · have h := h.2 q_
    refine r_iconst (q := 12) (dc dt_JS_bar 5 rfl) rfl rfl ?_
    exact r_iret rfl (dc dt_JS_bar 6 rfl) (⟨by decide, by decide⟩ : rng (-1)) h
def tb_JS_about : List (Nat × Instr × Nat) := [(0, .aload_n 0, 1), (1, .getfield 10, 3), (4, .iload_n 1, 1), (5, .invokevirtual 151, 3), (8, .ifCond .ne 5, 3), (11, .iconst (-1), 1), (12, .ireturn, 1), (13, .iload_n 2, 1), (14, .iconst 0, 1), (15, .bipush 8, 2), (17, .invokestatic 134, 3), (20, .ifCond .eq 17, 3), (23, .aload_n 0, 1), (24, .getfield 10, 3), (27, .getfield 147, 3), (30, .iload_n 1, 1), (31, .aaload, 1), (32, .iload_n 2, 1), (33, .iaload, 1), (34, .goto 5, 3), (37, .bipush (-2), 2), (39, .ireturn, 1)]
theorem dt_JS_about : DT (cM m_JS_about) tb_JS_about := by unfold DT; decide +kernel
abbrev a_JS_about_0 (G : GT)  (v1 : Int) (v2 : Int) (σ : St) (P : Int → St → Prop) : Prop := A G m_JS_about 0 [(0, O 0), (1, I v1), (2, I v2)] [] σ P
set_option maxRecDepth 20000 in
theorem k_JS_about_0 {G : GT} {σ : St} {P : Int → St → Prop}  {v1 : Int} {v2 : Int}  
    (h : rng v1 ∧ (0 ≤ v1 → rng ((σ.2.1 1 2) - 1)) ∧ (0 ≤ v1 ∧ v1 ≤ ((σ.2.1 1 2) - 1) → rng v2 ∧ (0 ≤ v2 → rng 8) ∧ ((0 ≤ v2 ∧ v2 ≤ 8 → (0 ≤ v1 ∧ v1 < 200) ∧ 0 ≤ v2 ∧ v2 < 9)) ∧ (rng (if ¬ (0 ≤ v2 ∧ v2 ≤ 8) then (-2 : Int) else σ.1 (176 + v1.toNat) v2.toNat)) ∧ P (if ¬ (0 ≤ v2 ∧ v2 ≤ 8) then (-2 : Int) else σ.1 (176 + v1.toNat) v2.toNat) σ) ∧ (¬ (0 ≤ v1 ∧ v1 ≤ ((σ.2.1 1 2) - 1)) → P (-1) σ)) :
    a_JS_about_0 G v1 v2 σ P := by
  refine r_aload_n (q := 1) (dc dt_JS_about 0 rfl) rfl rfl 0 rfl ?_
  refine r_getO (q := 4) (v := 1) fl_JS_10 (dc dt_JS_about 1 rfl) rfl ly0 rfl ?_
  refine r_iload_n (q := 5) (dc dt_JS_about 2 rfl) rfl rfl 1 rfl ?_
  obtain ⟨o1, h⟩ := h
  obtain ⟨o2, h⟩ := h
  refine r_callVi (q := 8) mk_SC_knowsForm lm_JS_151 (RMO.of rfl) rfl (dc dt_JS_about 3 rfl) rfl ly1 [I v1] [] rfl rfl (Nat.le_of_ble_eq_true rfl) (sp_SC_knowsForm o1 o2) (fun _ _ g3 z => ?_)
  obtain ⟨z, w⟩ := z
  subst z
  replace w := w.symm
  subst w
  refine r_ifb_ne (q := 11) (t := 13) (dc dt_JS_about 4 rfl) rfl (by decide) (fun q_ => ?_) (fun q_ => ?_)
  · have h := h.1 q_
    refine r_iload_n (q := 14) (dc dt_JS_about 7 rfl) rfl rfl 2 rfl ?_
    refine r_iconst (q := 15) (dc dt_JS_about 8 rfl) rfl rfl ?_
    refine r_bipush (q := 17) (dc dt_JS_about 9 rfl) rfl (by decide) ?_
    obtain ⟨o4, h⟩ := h
    obtain ⟨o5, h⟩ := h
    refine r_callSi (q := 20) mk_JS_within lm_JS_134 (RMO.of rfl) rfl (dc dt_JS_about 10 rfl) rfl [I v2, I 0, I 8] [] rfl rfl (Nat.le_of_ble_eq_true rfl) (sp_JS_within o4 (⟨by decide, by decide⟩ : rng 0) o5) (fun _ _ g6 z => ?_)
    obtain ⟨z, w⟩ := z
    subst z
    replace w := w.symm
    subst w
    obtain ⟨ho, h⟩ := h
    have hJ : ∀ (w_0 : Int), w_0 = (if ¬ (0 ≤ v2 ∧ v2 ≤ 8) then (-2 : Int) else σ.1 (176 + v1.toNat) v2.toNat) → A G m_JS_about 39 [(0, O 0), (1, I v1), (2, I v2)] [I w_0] σ P := by
      intro w_0 z_0
      subst z_0
      obtain ⟨o10, h⟩ := h
      exact r_iret rfl (dc dt_JS_about 21 rfl) o10 h
    clear h
    refine r_ifb_eq (q := 23) (t := 37) (dc dt_JS_about 11 rfl) rfl (by decide) (fun q_ => ?_) (fun q_ => ?_)
    · have q11 := q_
      refine r_bipush (q := 39) (dc dt_JS_about 20 rfl) rfl (by decide) ?_
      exact (hJ (-2) ((if_pos (by first | omega | grind)).symm))
    · have q11 := q_
      have ho := ho q_
      refine r_aload_n (q := 24) (dc dt_JS_about 12 rfl) rfl rfl 0 rfl ?_
      refine r_getO (q := 27) (v := 1) fl_JS_10 (dc dt_JS_about 13 rfl) rfl ly0 rfl ?_
      refine r_getO (q := 30) (v := 54) fl_JS_147 (dc dt_JS_about 14 rfl) rfl ly1 rfl ?_
      refine r_iload_n (q := 31) (dc dt_JS_about 15 rfl) rfl rfl 1 rfl ?_
      obtain ⟨o7, ho⟩ := ho
      refine r_aald (q := 32) (dc dt_JS_about 16 rfl) rfl ly54 o7 rfl ?_
      refine r_iload_n (q := 33) (dc dt_JS_about 17 rfl) rfl rfl 2 rfl ?_
      have o8 := ho
      refine r_iald (q := 34) (v := σ.1 (176 + v1.toNat) v2.toNat) (dc dt_JS_about 18 rfl) rfl (lyr_176 o7) o8 rfl (fun g9 => ?_)
      refine r_goto (q := 39) (dc dt_JS_about 19 rfl) (by decide) ?_
      exact (hJ (σ.1 (176 + v1.toNat) v2.toNat) ((if_neg (by first | omega | grind)).symm))
  · have h := h.2 q_
    refine r_iconst (q := 12) (dc dt_JS_about 5 rfl) rfl rfl ?_
    exact r_iret rfl (dc dt_JS_about 6 rfl) (⟨by decide, by decide⟩ : rng (-1)) h
set_option maxRecDepth 20000 in
theorem sp0_JS_about {G : GT} {σ : St} {v1 : Int} {v2 : Int}  (j0 : rng v1) (j1 : (0 ≤ v1 → rng ((σ.2.1 1 2) - 1))) (j2 : (0 ≤ v1 ∧ v1 ≤ ((σ.2.1 1 2) - 1) → rng v2 ∧ (0 ≤ v2 → rng 8) ∧ ((0 ≤ v2 ∧ v2 ≤ 8 → (0 ≤ v1 ∧ v1 < 200) ∧ 0 ≤ v2 ∧ v2 < 9)) ∧ rng (if ¬ (0 ≤ v2 ∧ v2 ≤ 8) then (-2 : Int) else σ.1 (176 + v1.toNat) v2.toNat))) : CJ G m_JS_about [O 0, I v1, I v2] σ (fun r u => r = (if 0 ≤ v1 ∧ v1 ≤ ((σ.2.1 1 2) - 1) then (if ¬ (0 ≤ v2 ∧ v2 ≤ 8) then (-2 : Int) else σ.1 (176 + v1.toNat) v2.toNat) else (-1 : Int)) ∧ u = σ) := by
  refine CJ.intro (by decide) (by simp [catA]; decide) (fun _ => k_JS_about_0  ?_)
  refine ⟨by first | assumption | omega | grind, ?_⟩
  refine ⟨by first | assumption | omega | grind, ?_⟩
  refine ⟨fun q_ => ?_, fun q_ => ?_⟩
  ·
    refine ⟨by first | assumption | omega | grind, ?_⟩
    refine ⟨by first | assumption | omega | grind, ?_⟩
    refine ⟨by first | assumption | omega | grind, ?_⟩
    refine ⟨by first | assumption | omega | grind, ?_⟩
    exact ⟨by first | rfl | grind, rfl⟩
  ·
    exact ⟨by first | rfl | grind, rfl⟩
def p_JS_about (σ : St) (v1 : Int) (v2 : Int) : Prop := rng v1 ∧ (0 ≤ v1 → rng ((σ.2.1 1 2) - 1)) ∧ (0 ≤ v1 ∧ v1 ≤ ((σ.2.1 1 2) - 1) → rng v2 ∧ (0 ≤ v2 → rng 8) ∧ ((0 ≤ v2 ∧ v2 ≤ 8 → (0 ≤ v1 ∧ v1 < 200) ∧ 0 ≤ v2 ∧ v2 < 9)) ∧ rng (if ¬ (0 ≤ v2 ∧ v2 ≤ 8) then (-2 : Int) else σ.1 (176 + v1.toNat) v2.toNat))
def f_JS_about (σ : St) (v1 : Int) (v2 : Int) : Int := if 0 ≤ v1 ∧ v1 ≤ ((σ.2.1 1 2) - 1) then (if ¬ (0 ≤ v2 ∧ v2 ≤ 8) then (-2 : Int) else σ.1 (176 + v1.toNat) v2.toNat) else (-1 : Int)
theorem sp_JS_about {G : GT} {σ : St} {v1 : Int} {v2 : Int}  (j : p_JS_about σ v1 v2) : CJ G m_JS_about [O 0, I v1, I v2] σ (fun r u => r = (f_JS_about σ v1 v2) ∧ u = σ) := sp0_JS_about  j.1 j.2.1 j.2.2
def tb_TY_putIn : List (Nat × Instr × Nat) := [(0, .aload_n 0, 1), (1, .getfield 9, 3), (4, .istore_n 3, 1), (5, .iload_n 3, 1), (6, .iload_n 1, 1), (7, .if_icmp .le 23, 3), (10, .aload_n 0, 1), (11, .getfield 18, 3), (14, .iload_n 3, 1), (15, .aload_n 0, 1), (16, .getfield 18, 3), (19, .iload_n 3, 1), (20, .iconst 1, 1), (21, .isub, 1), (22, .iaload, 1), (23, .iastore, 1), (24, .iinc 3 (-1), 3), (27, .goto (-22), 3), (30, .aload_n 0, 1), (31, .getfield 18, 3), (34, .iload_n 1, 1), (35, .iload_n 2, 1), (36, .iastore, 1), (37, .aload_n 0, 1), (38, .dup, 1), (39, .getfield 9, 3), (42, .iconst 1, 1), (43, .iadd, 1), (44, .putfield 9, 3), (47, .return_, 1)]
theorem dt_TY_putIn : DT (cM m_TY_putIn) tb_TY_putIn := by unfold DT; decide +kernel
abbrev a_TY_putIn_0 (G : GT)  (v1 : Int) (v2 : Int) (σ : St) (P : Int → St → Prop) : Prop := A G m_TY_putIn 0 [(0, O 2), (1, I v1), (2, I v2)] [] σ P
abbrev a_TY_putIn_5 (G : GT)  (v1 : Int) (v2 : Int) (v3 : Int) (σ : St) (P : Int → St → Prop) : Prop := A G m_TY_putIn 5 [(0, O 2), (1, I v1), (2, I v2), (3, I v3)] [] σ P
set_option maxRecDepth 20000 in
theorem k_TY_putIn_0 {G : GT} {σ : St} {P : Int → St → Prop}  {v1 : Int} {v2 : Int}  
    (h : a_TY_putIn_5 G v1 v2 (σ.2.1 2 0) σ P) :
    a_TY_putIn_0 G v1 v2 σ P := by
  refine r_aload_n (q := 1) (dc dt_TY_putIn 0 rfl) rfl rfl 0 rfl ?_
  refine r_getI (q := 4) (v := σ.2.1 2 0) fl_TY_9 (dc dt_TY_putIn 1 rfl) rfl ly2 rfl rfl (fun g1 => ?_)
  refine r_istore_n (q := 5) (dc dt_TY_putIn 2 rfl) rfl rfl (by decide) rfl ?_
  exact r_loc [1, 2, 3, 0] rfl h
set_option maxRecDepth 20000 in
theorem k_TY_putIn_5 {G : GT} {σ : St} {P : Int → St → Prop}  {v1 : Int} {v2 : Int} {v3 : Int}  
    (h : rng v3 ∧ rng v1 ∧ (v3 ≤ v1 → (0 ≤ v1 ∧ v1 < 80) ∧ rng v2 ∧ (∀ σ8, σ8 = sa σ 57 v1.toNat v2 → rng ((σ.2.1 2 0) + 1) ∧ (∀ σ11, σ11 = sf σ8 2 0 ((σ.2.1 2 0) + 1) → P 0 σ11))) ∧ (v1 < v3 → (0 ≤ v3 - 1 ∧ v3 - 1 < 80) ∧ (0 ≤ v3 ∧ v3 < 80) ∧ (∀ σ17, σ17 = sa σ 57 v3.toNat (σ.1 57 ((v3 - 1).toNat)) → a_TY_putIn_5 G v1 v2 (v3 + (-1)) σ17 P))) :
    a_TY_putIn_5 G v1 v2 v3 σ P := by
  refine r_iload_n (q := 6) (dc dt_TY_putIn 3 rfl) rfl rfl 3 rfl ?_
  refine r_iload_n (q := 7) (dc dt_TY_putIn 4 rfl) rfl rfl 1 rfl ?_
  obtain ⟨o2, h⟩ := h
  obtain ⟨o3, h⟩ := h
  refine r_icmp_le (q := 10) (t := 30) (dc dt_TY_putIn 5 rfl) rfl (by decide) o2 o3 (fun q_ => ?_) (fun q_ => ?_)
  · have h := h.1 q_
    refine r_aload_n (q := 31) (dc dt_TY_putIn 18 rfl) rfl rfl 0 rfl ?_
    refine r_getO (q := 34) (v := 57) fl_TY_18 (dc dt_TY_putIn 19 rfl) rfl ly2 rfl ?_
    refine r_iload_n (q := 35) (dc dt_TY_putIn 20 rfl) rfl rfl 1 rfl ?_
    refine r_iload_n (q := 36) (dc dt_TY_putIn 21 rfl) rfl rfl 2 rfl ?_
    obtain ⟨o6, h⟩ := h
    obtain ⟨o7, h⟩ := h
    refine r_iast (q := 37) (dc dt_TY_putIn 22 rfl) rfl ly57 o6 o7 (fun σ8 e9 => ?_)
    have h := h σ8 e9
    refine r_aload_n (q := 38) (dc dt_TY_putIn 23 rfl) rfl rfl 0 rfl ?_
    refine r_dupo (q := 39) (dc dt_TY_putIn 24 rfl) rfl ?_
    refine r_getI (q := 42) (v := σ.2.1 2 0) fl_TY_9 (dc dt_TY_putIn 25 rfl) rfl ly2 rfl (by rw [e9]; rfl) (fun g10 => ?_)
    refine r_iconst (q := 43) (dc dt_TY_putIn 26 rfl) rfl rfl ?_
    refine r_iadd (q := 44) (dc dt_TY_putIn 27 rfl) rfl ?_
    obtain ⟨o13, h⟩ := h
    refine r_put (q := 47) fl_TY_9 (dc dt_TY_putIn 28 rfl) rfl ly2 (fun _ => rfl) (Or.inl rfl) pf_2_0 o13 (fun σ11 e12 => ?_)
    have h := h σ11 e12
    exact r_vret rfl (dc dt_TY_putIn 29 rfl) h
  · have h := h.2 q_
    refine r_aload_n (q := 11) (dc dt_TY_putIn 6 rfl) rfl rfl 0 rfl ?_
    refine r_getO (q := 14) (v := 57) fl_TY_18 (dc dt_TY_putIn 7 rfl) rfl ly2 rfl ?_
    refine r_iload_n (q := 15) (dc dt_TY_putIn 8 rfl) rfl rfl 3 rfl ?_
    refine r_aload_n (q := 16) (dc dt_TY_putIn 9 rfl) rfl rfl 0 rfl ?_
    refine r_getO (q := 19) (v := 57) fl_TY_18 (dc dt_TY_putIn 10 rfl) rfl ly2 rfl ?_
    refine r_iload_n (q := 20) (dc dt_TY_putIn 11 rfl) rfl rfl 3 rfl ?_
    refine r_iconst (q := 21) (dc dt_TY_putIn 12 rfl) rfl rfl ?_
    refine r_isub (q := 22) (dc dt_TY_putIn 13 rfl) rfl ?_
    obtain ⟨o14, h⟩ := h
    refine r_iald (q := 23) (v := σ.1 57 ((v3 - 1).toNat)) (dc dt_TY_putIn 14 rfl) rfl ly57 o14 rfl (fun g15 => ?_)
    obtain ⟨o16, h⟩ := h
    refine r_iast (q := 24) (dc dt_TY_putIn 15 rfl) rfl ly57 o16 g15 (fun σ17 e18 => ?_)
    have h := h σ17 e18
    refine r_iinc (q := 27) (k := 3) (dc dt_TY_putIn 16 rfl) rfl rfl (by decide) rfl ?_
    refine r_goto (q := 5) (dc dt_TY_putIn 17 rfl) (by decide) ?_
    exact r_loc [1, 2, 3, 0] rfl h
def tb_TY_remember : List (Nat × Instr × Nat) := [(0, .aload_n 0, 1), (1, .getfield 25, 3), (4, .aload_n 0, 1), (5, .getfield 22, 3), (8, .iload_n 1, 1), (9, .iastore, 1), (10, .aload_n 0, 1), (11, .getfield 28, 3), (14, .aload_n 0, 1), (15, .getfield 22, 3), (18, .iload_n 2, 1), (19, .iastore, 1), (20, .aload_n 0, 1), (21, .aload_n 0, 1), (22, .getfield 22, 3), (25, .iconst 1, 1), (26, .iadd, 1), (27, .bipush 40, 2), (29, .if_icmp .ge 12, 3), (32, .aload_n 0, 1), (33, .getfield 22, 3), (36, .iconst 1, 1), (37, .iadd, 1), (38, .goto 4, 3), (41, .iconst 0, 1), (42, .putfield 22, 3), (45, .aload_n 0, 1), (46, .aload_n 0, 1), (47, .getfield 15, 3), (50, .iconst 1, 1), (51, .iadd, 1), (52, .bipush 40, 2), (54, .invokestatic 35, 3), (57, .putfield 15, 3), (60, .return_, 1)]
theorem dt_TY_remember : DT (cM m_TY_remember) tb_TY_remember := by unfold DT; decide +kernel
abbrev a_TY_remember_0 (G : GT)  (v1 : Int) (v2 : Int) (σ : St) (P : Int → St → Prop) : Prop := A G m_TY_remember 0 [(0, O 2), (1, I v1), (2, I v2)] [] σ P
set_option maxRecDepth 20000 in
theorem k_TY_remember_0 {G : GT} {σ : St} {P : Int → St → Prop}  {v1 : Int} {v2 : Int}  
    (h : (0 ≤ σ.2.1 2 3 ∧ σ.2.1 2 3 < 40) ∧ rng v1 ∧ (∀ σ4, σ4 = sa σ 58 ((σ.2.1 2 3).toNat) v1 → rng v2 ∧ (∀ σ8, σ8 = sa σ4 59 ((σ.2.1 2 3).toNat) v2 → rng ((σ.2.1 2 3) + 1) ∧ rng (if 40 ≤ (σ.2.1 2 3) + 1 then (0 : Int) else (σ.2.1 2 3) + 1) ∧ (∀ σ13, σ13 = sf σ8 2 3 (if 40 ≤ (σ.2.1 2 3) + 1 then (0 : Int) else (σ.2.1 2 3) + 1) → rng ((σ.2.1 2 1) + 1) ∧ rng (min ((σ.2.1 2 1) + 1) 40) ∧ (∀ σ18, σ18 = sf σ13 2 1 (min ((σ.2.1 2 1) + 1) 40) → P 0 σ18))))) :
    a_TY_remember_0 G v1 v2 σ P := by
  refine r_aload_n (q := 1) (dc dt_TY_remember 0 rfl) rfl rfl 0 rfl ?_
  refine r_getO (q := 4) (v := 58) fl_TY_25 (dc dt_TY_remember 1 rfl) rfl ly2 rfl ?_
  refine r_aload_n (q := 5) (dc dt_TY_remember 2 rfl) rfl rfl 0 rfl ?_
  refine r_getI (q := 8) (v := σ.2.1 2 3) fl_TY_22 (dc dt_TY_remember 3 rfl) rfl ly2 rfl rfl (fun g1 => ?_)
  refine r_iload_n (q := 9) (dc dt_TY_remember 4 rfl) rfl rfl 1 rfl ?_
  obtain ⟨o2, h⟩ := h
  obtain ⟨o3, h⟩ := h
  refine r_iast (q := 10) (dc dt_TY_remember 5 rfl) rfl ly58 o2 o3 (fun σ4 e5 => ?_)
  have h := h σ4 e5
  refine r_aload_n (q := 11) (dc dt_TY_remember 6 rfl) rfl rfl 0 rfl ?_
  refine r_getO (q := 14) (v := 59) fl_TY_28 (dc dt_TY_remember 7 rfl) rfl ly2 rfl ?_
  refine r_aload_n (q := 15) (dc dt_TY_remember 8 rfl) rfl rfl 0 rfl ?_
  refine r_getI (q := 18) (v := σ.2.1 2 3) fl_TY_22 (dc dt_TY_remember 9 rfl) rfl ly2 rfl (by rw [e5]; rfl) (fun g6 => ?_)
  refine r_iload_n (q := 19) (dc dt_TY_remember 10 rfl) rfl rfl 2 rfl ?_
  obtain ⟨o7, h⟩ := h
  refine r_iast (q := 20) (dc dt_TY_remember 11 rfl) rfl ly59 o2 o7 (fun σ8 e9 => ?_)
  have h := h σ8 e9
  refine r_aload_n (q := 21) (dc dt_TY_remember 12 rfl) rfl rfl 0 rfl ?_
  refine r_aload_n (q := 22) (dc dt_TY_remember 13 rfl) rfl rfl 0 rfl ?_
  refine r_getI (q := 25) (v := σ.2.1 2 3) fl_TY_22 (dc dt_TY_remember 14 rfl) rfl ly2 rfl (by rw [e9, e5]; rfl) (fun g10 => ?_)
  refine r_iconst (q := 26) (dc dt_TY_remember 15 rfl) rfl rfl ?_
  refine r_iadd (q := 27) (dc dt_TY_remember 16 rfl) rfl ?_
  refine r_bipush (q := 29) (dc dt_TY_remember 17 rfl) rfl (by decide) ?_
  obtain ⟨o11, h⟩ := h
  have hJ : ∀ (w_0 : Int), w_0 = (if 40 ≤ (σ.2.1 2 3) + 1 then (0 : Int) else (σ.2.1 2 3) + 1) → A G m_TY_remember 42 [(0, O 2), (1, I v1), (2, I v2)] [I w_0, O 2] σ8 P := by
    intro w_0 z_0
    subst z_0
    obtain ⟨o15, h⟩ := h
    refine r_put (q := 45) fl_TY_22 (dc dt_TY_remember 25 rfl) rfl ly2 (fun _ => rfl) (Or.inl rfl) pf_2_3 o15 (fun σ13 e14 => ?_)
    have h := h σ13 e14
    refine r_aload_n (q := 46) (dc dt_TY_remember 26 rfl) rfl rfl 0 rfl ?_
    refine r_aload_n (q := 47) (dc dt_TY_remember 27 rfl) rfl rfl 0 rfl ?_
    refine r_getI (q := 50) (v := σ.2.1 2 1) fl_TY_15 (dc dt_TY_remember 28 rfl) rfl ly2 rfl (by rw [e14, e9, e5]; rfl) (fun g16 => ?_)
    refine r_iconst (q := 51) (dc dt_TY_remember 29 rfl) rfl rfl ?_
    refine r_iadd (q := 52) (dc dt_TY_remember 30 rfl) rfl ?_
    refine r_bipush (q := 54) (dc dt_TY_remember 31 rfl) rfl (by decide) ?_
    obtain ⟨o17, h⟩ := h
    refine r_mmin (q := 57) lm_TY_35 (by decide) (dc dt_TY_remember 32 rfl) rfl (by simp [catA]; decide) o17 (⟨by decide, by decide⟩ : rng 40) ?_
    obtain ⟨o20, h⟩ := h
    refine r_put (q := 60) fl_TY_15 (dc dt_TY_remember 33 rfl) rfl ly2 (fun _ => rfl) (Or.inl rfl) pf_2_1 o20 (fun σ18 e19 => ?_)
    have h := h σ18 e19
    exact r_vret rfl (dc dt_TY_remember 34 rfl) h
  clear h
  refine r_icmp_ge (q := 32) (t := 41) (dc dt_TY_remember 18 rfl) rfl (by decide) o11 (⟨by decide, by decide⟩ : rng 40) (fun q_ => ?_) (fun q_ => ?_)
  · have q21 := q_
    refine r_iconst (q := 42) (dc dt_TY_remember 24 rfl) rfl rfl ?_
    exact (hJ 0 ((if_pos (by first | omega | grind)).symm))
  · have q21 := q_
    refine r_aload_n (q := 33) (dc dt_TY_remember 19 rfl) rfl rfl 0 rfl ?_
    refine r_getI (q := 36) (v := σ.2.1 2 3) fl_TY_22 (dc dt_TY_remember 20 rfl) rfl ly2 rfl (by rw [e9, e5]; rfl) (fun g12 => ?_)
    refine r_iconst (q := 37) (dc dt_TY_remember 21 rfl) rfl rfl ?_
    refine r_iadd (q := 38) (dc dt_TY_remember 22 rfl) rfl ?_
    refine r_goto (q := 42) (dc dt_TY_remember 23 rfl) (by decide) ?_
    exact (hJ ((σ.2.1 2 3) + 1) ((if_neg (by first | omega | grind)).symm))
def tb_JS_insert : List (Nat × Instr × Nat) := [(0, .aload_n 0, 1), (1, .getfield 10, 3), (4, .iload_n 2, 1), (5, .invokevirtual 108, 3), (8, .ifCond .ne 5, 3), (11, .iconst (-1), 1), (12, .ireturn, 1), (13, .iload_n 1, 1), (14, .iconst 0, 1), (15, .aload_n 0, 1), (16, .getfield 19, 3), (19, .getfield 161, 3), (22, .invokestatic 134, 3), (25, .ifCond .ne 6, 3), (28, .bipush (-2), 2), (30, .ireturn, 1), (31, .aload_n 0, 1), (32, .getfield 19, 3), (35, .getfield 161, 3), (38, .bipush 80, 2), (40, .if_icmp .lt 6, 3), (43, .bipush (-4), 2), (45, .ireturn, 1), (46, .aload_n 0, 1), (47, .getfield 10, 3), (50, .getfield 167, 3), (53, .iload_n 2, 1), (54, .iaload, 1), (55, .bipush 7, 2), (57, .if_icmp .ne 6, 3), (60, .bipush (-5), 2), (62, .ireturn, 1), (63, .aload_n 0, 1), (64, .dup, 1), (65, .getfield 76, 3), (68, .iconst 1, 1), (69, .iadd, 1), (70, .putfield 76, 3), (73, .aload_n 0, 1), (74, .getfield 19, 3), (77, .iload_n 1, 1), (78, .iload_n 2, 1), (79, .invokevirtual 171, 3), (82, .aload_n 0, 1), (83, .getfield 19, 3), (86, .iload_n 1, 1), (87, .bipush (-6), 2), (89, .invokevirtual 175, 3), (92, .aload_n 0, 1), (93, .getfield 19, 3), (96, .getfield 161, 3), (99, .ireturn, 1)]
theorem dt_JS_insert : DT (cM m_JS_insert) tb_JS_insert := by unfold DT; decide +kernel
abbrev a_JS_insert_0 (G : GT)  (v1 : Int) (v2 : Int) (σ : St) (P : Int → St → Prop) : Prop := A G m_JS_insert 0 [(0, O 0), (1, I v1), (2, I v2)] [] σ P
set_option maxRecDepth 20000 in
theorem k_JS_insert_0 {G : GT} {σ : St} {P : Int → St → Prop}  {v1 : Int} {v2 : Int}  
    (h : rng v2 ∧ (0 ≤ v2 → rng ((σ.2.1 1 0) - 1)) ∧ (0 ≤ v2 ∧ v2 ≤ ((σ.2.1 1 0) - 1) → rng v1 ∧ (0 ≤ v1 → rng (σ.2.1 2 0)) ∧ (0 ≤ v1 ∧ v1 ≤ (σ.2.1 2 0) → (σ.2.1 2 0 < 80 → (0 ≤ v2 ∧ v2 < 60) ∧ (σ.1 47 v2.toNat ≠ 7 → rng ((σ.2.1 0 9) + 1) ∧ (∀ σ12, σ12 = sf σ 0 9 ((σ.2.1 0 9) + 1) → CJ G m_TY_putIn [O 2, I v1, I v2] σ12 (fun _ u15 => CJ G m_TY_remember [O 2, I v1, I (-6)] u15 (fun _ u16 => P (u16.2.1 2 0) u16)))) ∧ (σ.1 47 v2.toNat = 7 → P (-5) σ)) ∧ (80 ≤ σ.2.1 2 0 → P (-4) σ)) ∧ (¬ (0 ≤ v1 ∧ v1 ≤ (σ.2.1 2 0)) → P (-2) σ)) ∧ (¬ (0 ≤ v2 ∧ v2 ≤ ((σ.2.1 1 0) - 1)) → P (-1) σ)) :
    a_JS_insert_0 G v1 v2 σ P := by
  refine r_aload_n (q := 1) (dc dt_JS_insert 0 rfl) rfl rfl 0 rfl ?_
  refine r_getO (q := 4) (v := 1) fl_JS_10 (dc dt_JS_insert 1 rfl) rfl ly0 rfl ?_
  refine r_iload_n (q := 5) (dc dt_JS_insert 2 rfl) rfl rfl 2 rfl ?_
  obtain ⟨o1, h⟩ := h
  obtain ⟨o2, h⟩ := h
  refine r_callVi (q := 8) mk_SC_knows lm_JS_108 (RMO.of rfl) rfl (dc dt_JS_insert 3 rfl) rfl ly1 [I v2] [] rfl rfl (Nat.le_of_ble_eq_true rfl) (sp_SC_knows o1 o2) (fun _ _ g3 z => ?_)
  obtain ⟨z, w⟩ := z
  subst z
  replace w := w.symm
  subst w
  refine r_ifb_ne (q := 11) (t := 13) (dc dt_JS_insert 4 rfl) rfl (by decide) (fun q_ => ?_) (fun q_ => ?_)
  · have h := h.1 q_
    refine r_iload_n (q := 14) (dc dt_JS_insert 7 rfl) rfl rfl 1 rfl ?_
    refine r_iconst (q := 15) (dc dt_JS_insert 8 rfl) rfl rfl ?_
    refine r_aload_n (q := 16) (dc dt_JS_insert 9 rfl) rfl rfl 0 rfl ?_
    refine r_getO (q := 19) (v := 2) fl_JS_19 (dc dt_JS_insert 10 rfl) rfl ly0 rfl ?_
    refine r_getI (q := 22) (v := σ.2.1 2 0) fl_JS_161 (dc dt_JS_insert 11 rfl) rfl ly2 rfl rfl (fun g4 => ?_)
    obtain ⟨o5, h⟩ := h
    obtain ⟨o6, h⟩ := h
    refine r_callSi (q := 25) mk_JS_within lm_JS_134 (RMO.of rfl) rfl (dc dt_JS_insert 12 rfl) rfl [I v1, I 0, I (σ.2.1 2 0)] [] rfl rfl (Nat.le_of_ble_eq_true rfl) (sp_JS_within o5 (⟨by decide, by decide⟩ : rng 0) o6) (fun _ _ g7 z => ?_)
    obtain ⟨z, w⟩ := z
    subst z
    replace w := w.symm
    subst w
    refine r_ifb_ne (q := 28) (t := 31) (dc dt_JS_insert 13 rfl) rfl (by decide) (fun q_ => ?_) (fun q_ => ?_)
    · have h := h.1 q_
      refine r_aload_n (q := 32) (dc dt_JS_insert 16 rfl) rfl rfl 0 rfl ?_
      refine r_getO (q := 35) (v := 2) fl_JS_19 (dc dt_JS_insert 17 rfl) rfl ly0 rfl ?_
      refine r_getI (q := 38) (v := σ.2.1 2 0) fl_JS_161 (dc dt_JS_insert 18 rfl) rfl ly2 rfl rfl (fun g8 => ?_)
      refine r_bipush (q := 40) (dc dt_JS_insert 19 rfl) rfl (by decide) ?_
      refine r_icmp_lt (q := 43) (t := 46) (dc dt_JS_insert 20 rfl) rfl (by decide) g8 (⟨by decide, by decide⟩ : rng 80) (fun q_ => ?_) (fun q_ => ?_)
      · have h := h.1 q_
        refine r_aload_n (q := 47) (dc dt_JS_insert 23 rfl) rfl rfl 0 rfl ?_
        refine r_getO (q := 50) (v := 1) fl_JS_10 (dc dt_JS_insert 24 rfl) rfl ly0 rfl ?_
        refine r_getO (q := 53) (v := 47) fl_JS_167 (dc dt_JS_insert 25 rfl) rfl ly1 rfl ?_
        refine r_iload_n (q := 54) (dc dt_JS_insert 26 rfl) rfl rfl 2 rfl ?_
        obtain ⟨o9, h⟩ := h
        refine r_iald (q := 55) (v := σ.1 47 v2.toNat) (dc dt_JS_insert 27 rfl) rfl ly47 o9 rfl (fun g10 => ?_)
        refine r_bipush (q := 57) (dc dt_JS_insert 28 rfl) rfl (by decide) ?_
        refine r_icmp_ne (q := 60) (t := 63) (dc dt_JS_insert 29 rfl) rfl (by decide) g10 (⟨by decide, by decide⟩ : rng 7) (fun q_ => ?_) (fun q_ => ?_)
        · have h := h.1 q_
          refine r_aload_n (q := 64) (dc dt_JS_insert 32 rfl) rfl rfl 0 rfl ?_
          refine r_dupo (q := 65) (dc dt_JS_insert 33 rfl) rfl ?_
          refine r_getI (q := 68) (v := σ.2.1 0 9) fl_JS_76 (dc dt_JS_insert 34 rfl) rfl ly0 rfl rfl (fun g11 => ?_)
          refine r_iconst (q := 69) (dc dt_JS_insert 35 rfl) rfl rfl ?_
          refine r_iadd (q := 70) (dc dt_JS_insert 36 rfl) rfl ?_
          obtain ⟨o14, h⟩ := h
          refine r_put (q := 73) fl_JS_76 (dc dt_JS_insert 37 rfl) rfl ly0 (fun _ => rfl) (Or.inl rfl) pf_0_9 o14 (fun σ12 e13 => ?_)
          have h := h σ12 e13
          refine r_aload_n (q := 74) (dc dt_JS_insert 38 rfl) rfl rfl 0 rfl ?_
          refine r_getO (q := 77) (v := 2) fl_JS_19 (dc dt_JS_insert 39 rfl) rfl ly0 rfl ?_
          refine r_iload_n (q := 78) (dc dt_JS_insert 40 rfl) rfl rfl 1 rfl ?_
          refine r_iload_n (q := 79) (dc dt_JS_insert 41 rfl) rfl rfl 2 rfl ?_
          refine r_callVv (q := 82) mk_TY_putIn lm_JS_171 (RMO.of rfl) rfl (dc dt_JS_insert 42 rfl) rfl ly2 [I v1, I v2] [] rfl rfl (Nat.le_of_ble_eq_true rfl) h (fun u15 h => ?_)
          refine r_aload_n (q := 83) (dc dt_JS_insert 43 rfl) rfl rfl 0 rfl ?_
          refine r_getO (q := 86) (v := 2) fl_JS_19 (dc dt_JS_insert 44 rfl) rfl ly0 rfl ?_
          refine r_iload_n (q := 87) (dc dt_JS_insert 45 rfl) rfl rfl 1 rfl ?_
          refine r_bipush (q := 89) (dc dt_JS_insert 46 rfl) rfl (by decide) ?_
          refine r_callVv (q := 92) mk_TY_remember lm_JS_175 (RMO.of rfl) rfl (dc dt_JS_insert 47 rfl) rfl ly2 [I v1, I (-6)] [] rfl rfl (Nat.le_of_ble_eq_true rfl) h (fun u16 h => ?_)
          refine r_aload_n (q := 93) (dc dt_JS_insert 48 rfl) rfl rfl 0 rfl ?_
          refine r_getO (q := 96) (v := 2) fl_JS_19 (dc dt_JS_insert 49 rfl) rfl ly0 rfl ?_
          refine r_getI (q := 99) (v := u16.2.1 2 0) fl_JS_161 (dc dt_JS_insert 50 rfl) rfl ly2 rfl rfl (fun g17 => ?_)
          exact r_iret rfl (dc dt_JS_insert 51 rfl) g17 h
        · have h := h.2 q_
          refine r_bipush (q := 62) (dc dt_JS_insert 30 rfl) rfl (by decide) ?_
          exact r_iret rfl (dc dt_JS_insert 31 rfl) (⟨by decide, by decide⟩ : rng (-5)) h
      · have h := h.2 q_
        refine r_bipush (q := 45) (dc dt_JS_insert 21 rfl) rfl (by decide) ?_
        exact r_iret rfl (dc dt_JS_insert 22 rfl) (⟨by decide, by decide⟩ : rng (-4)) h
    · have h := h.2 q_
      refine r_bipush (q := 30) (dc dt_JS_insert 14 rfl) rfl (by decide) ?_
      exact r_iret rfl (dc dt_JS_insert 15 rfl) (⟨by decide, by decide⟩ : rng (-2)) h
  · have h := h.2 q_
    refine r_iconst (q := 12) (dc dt_JS_insert 5 rfl) rfl rfl ?_
    exact r_iret rfl (dc dt_JS_insert 6 rfl) (⟨by decide, by decide⟩ : rng (-1)) h
def tb_JS_type : List (Nat × Instr × Nat) := [(0, .aload_n 0, 1), (1, .aload_n 0, 1), (2, .getfield 19, 3), (5, .getfield 161, 3), (8, .iload_n 1, 1), (9, .invokevirtual 164, 3), (12, .ireturn, 1)]
theorem dt_JS_type : DT (cM m_JS_type) tb_JS_type := by unfold DT; decide +kernel
abbrev a_JS_type_0 (G : GT)  (v1 : Int) (σ : St) (P : Int → St → Prop) : Prop := A G m_JS_type 0 [(0, O 0), (1, I v1)] [] σ P
set_option maxRecDepth 20000 in
theorem k_JS_type_0 {G : GT} {σ : St} {P : Int → St → Prop}  {v1 : Int}  
    (h : CJ G m_JS_insert [O 0, I (σ.2.1 2 0), I v1] σ (fun r3 u2 => P r3 u2)) :
    a_JS_type_0 G v1 σ P := by
  refine r_aload_n (q := 1) (dc dt_JS_type 0 rfl) rfl rfl 0 rfl ?_
  refine r_aload_n (q := 2) (dc dt_JS_type 1 rfl) rfl rfl 0 rfl ?_
  refine r_getO (q := 5) (v := 2) fl_JS_19 (dc dt_JS_type 2 rfl) rfl ly0 rfl ?_
  refine r_getI (q := 8) (v := σ.2.1 2 0) fl_JS_161 (dc dt_JS_type 3 rfl) rfl ly2 rfl rfl (fun g1 => ?_)
  refine r_iload_n (q := 9) (dc dt_JS_type 4 rfl) rfl rfl 1 rfl ?_
  refine r_callVi (q := 12) mk_JS_insert lm_JS_164 (RMO.of rfl) rfl (dc dt_JS_type 5 rfl) rfl ly0 [I (σ.2.1 2 0), I v1] [] rfl rfl (Nat.le_of_ble_eq_true rfl) h (fun r3 u2 g4 h => ?_)
  exact r_iret rfl (dc dt_JS_type 6 rfl) g4 h
def tb_TY_has : List (Nat × Instr × Nat) := [(0, .iload_n 1, 1), (1, .iconst 0, 1), (2, .aload_n 0, 1), (3, .getfield 9, 3), (6, .iconst 1, 1), (7, .isub, 1), (8, .invokestatic 31, 3), (11, .ireturn, 1)]
theorem dt_TY_has : DT (cM m_TY_has) tb_TY_has := by unfold DT; decide +kernel
abbrev a_TY_has_0 (G : GT)  (v1 : Int) (σ : St) (P : Int → St → Prop) : Prop := A G m_TY_has 0 [(0, O 2), (1, I v1)] [] σ P
set_option maxRecDepth 20000 in
theorem k_TY_has_0 {G : GT} {σ : St} {P : Int → St → Prop}  {v1 : Int}  
    (h : rng v1 ∧ (0 ≤ v1 → rng ((σ.2.1 2 0) - 1)) ∧ P (if 0 ≤ v1 ∧ v1 ≤ ((σ.2.1 2 0) - 1) then 1 else 0) σ) :
    a_TY_has_0 G v1 σ P := by
  refine r_iload_n (q := 1) (dc dt_TY_has 0 rfl) rfl rfl 1 rfl ?_
  refine r_iconst (q := 2) (dc dt_TY_has 1 rfl) rfl rfl ?_
  refine r_aload_n (q := 3) (dc dt_TY_has 2 rfl) rfl rfl 0 rfl ?_
  refine r_getI (q := 6) (v := σ.2.1 2 0) fl_TY_9 (dc dt_TY_has 3 rfl) rfl ly2 rfl rfl (fun g1 => ?_)
  refine r_iconst (q := 7) (dc dt_TY_has 4 rfl) rfl rfl ?_
  refine r_isub (q := 8) (dc dt_TY_has 5 rfl) rfl ?_
  obtain ⟨o2, h⟩ := h
  obtain ⟨o3, h⟩ := h
  refine r_callNi (q := 11) mk_JS_within lm_TY_31 (RMO.of rfl) rfl (dc dt_TY_has 6 rfl) rfl [I v1, I 0, I ((σ.2.1 2 0) - 1)] [] rfl rfl (Nat.le_of_ble_eq_true rfl) (sp_JS_within o2 (⟨by decide, by decide⟩ : rng 0) o3) (fun _ _ g4 z => ?_)
  obtain ⟨z, w⟩ := z
  subst z
  replace w := w.symm
  subst w
  exact r_zret rfl (dc dt_TY_has 7 rfl) b01_or h
set_option maxRecDepth 20000 in
theorem sp_TY_has {G : GT} {σ : St} {v1 : Int}  (j0 : rng v1) (j1 : (0 ≤ v1 → rng ((σ.2.1 2 0) - 1))) : CJ G m_TY_has [O 2, I v1] σ (fun r u => r = (if 0 ≤ v1 ∧ v1 ≤ ((σ.2.1 2 0) - 1) then 1 else 0) ∧ u = σ) := by
  refine CJ.intro (by decide) (by simp [catA]; decide) (fun _ => k_TY_has_0  ?_)
  refine ⟨by first | assumption | omega | grind, ?_⟩
  refine ⟨by first | assumption | omega | grind, ?_⟩
  exact ⟨rfl, rfl⟩
def tb_TY_takeOut : List (Nat × Instr × Nat) := [(0, .aload_n 0, 1), (1, .getfield 18, 3), (4, .iload_n 1, 1), (5, .iaload, 1), (6, .istore_n 2, 1), (7, .aload_n 0, 1), (8, .dup, 1), (9, .getfield 9, 3), (12, .iconst 1, 1), (13, .isub, 1), (14, .putfield 9, 3), (17, .iload_n 1, 1), (18, .istore_n 3, 1), (19, .iload_n 3, 1), (20, .aload_n 0, 1), (21, .getfield 9, 3), (24, .if_icmp .ge 23, 3), (27, .aload_n 0, 1), (28, .getfield 18, 3), (31, .iload_n 3, 1), (32, .aload_n 0, 1), (33, .getfield 18, 3), (36, .iload_n 3, 1), (37, .iconst 1, 1), (38, .iadd, 1), (39, .iaload, 1), (40, .iastore, 1), (41, .iinc 3 1, 3), (44, .goto (-25), 3), (47, .iload_n 2, 1), (48, .ireturn, 1)]
theorem dt_TY_takeOut : DT (cM m_TY_takeOut) tb_TY_takeOut := by unfold DT; decide +kernel
abbrev a_TY_takeOut_0 (G : GT)  (v1 : Int) (σ : St) (P : Int → St → Prop) : Prop := A G m_TY_takeOut 0 [(0, O 2), (1, I v1)] [] σ P
abbrev a_TY_takeOut_19 (G : GT)  (v2 : Int) (v3 : Int) (σ : St) (P : Int → St → Prop) : Prop := A G m_TY_takeOut 19 [(0, O 2), (2, I v2), (3, I v3)] [] σ P
set_option maxRecDepth 20000 in
theorem k_TY_takeOut_0 {G : GT} {σ : St} {P : Int → St → Prop}  {v1 : Int}  
    (h : (0 ≤ v1 ∧ v1 < 80) ∧ rng ((σ.2.1 2 0) - 1) ∧ (∀ σ4, σ4 = sf σ 2 0 ((σ.2.1 2 0) - 1) → a_TY_takeOut_19 G (σ.1 57 v1.toNat) v1 σ4 P)) :
    a_TY_takeOut_0 G v1 σ P := by
  refine r_aload_n (q := 1) (dc dt_TY_takeOut 0 rfl) rfl rfl 0 rfl ?_
  refine r_getO (q := 4) (v := 57) fl_TY_18 (dc dt_TY_takeOut 1 rfl) rfl ly2 rfl ?_
  refine r_iload_n (q := 5) (dc dt_TY_takeOut 2 rfl) rfl rfl 1 rfl ?_
  obtain ⟨o1, h⟩ := h
  refine r_iald (q := 6) (v := σ.1 57 v1.toNat) (dc dt_TY_takeOut 3 rfl) rfl ly57 o1 rfl (fun g2 => ?_)
  refine r_istore_n (q := 7) (dc dt_TY_takeOut 4 rfl) rfl rfl (by decide) rfl ?_
  refine r_aload_n (q := 8) (dc dt_TY_takeOut 5 rfl) rfl rfl 1 rfl ?_
  refine r_dupo (q := 9) (dc dt_TY_takeOut 6 rfl) rfl ?_
  refine r_getI (q := 12) (v := σ.2.1 2 0) fl_TY_9 (dc dt_TY_takeOut 7 rfl) rfl ly2 rfl rfl (fun g3 => ?_)
  refine r_iconst (q := 13) (dc dt_TY_takeOut 8 rfl) rfl rfl ?_
  refine r_isub (q := 14) (dc dt_TY_takeOut 9 rfl) rfl ?_
  obtain ⟨o6, h⟩ := h
  refine r_put (q := 17) fl_TY_9 (dc dt_TY_takeOut 10 rfl) rfl ly2 (fun _ => rfl) (Or.inl rfl) pf_2_0 o6 (fun σ4 e5 => ?_)
  have h := h σ4 e5
  refine r_iload_n (q := 18) (dc dt_TY_takeOut 11 rfl) rfl rfl 2 rfl ?_
  refine r_istore_n (q := 19) (dc dt_TY_takeOut 12 rfl) rfl rfl (by decide) rfl ?_
  exact r_loc [2, 1, 0] rfl h
set_option maxRecDepth 20000 in
theorem k_TY_takeOut_19 {G : GT} {σ : St} {P : Int → St → Prop}  {v2 : Int} {v3 : Int}  
    (h : rng v3 ∧ (σ.2.1 2 0 ≤ v3 → rng v2 ∧ P v2 σ) ∧ (v3 < σ.2.1 2 0 → (0 ≤ v3 + 1 ∧ v3 + 1 < 80) ∧ (0 ≤ v3 ∧ v3 < 80) ∧ (∀ σ15, σ15 = sa σ 57 v3.toNat (σ.1 57 ((v3 + 1).toNat)) → a_TY_takeOut_19 G v2 (v3 + 1) σ15 P))) :
    a_TY_takeOut_19 G v2 v3 σ P := by
  refine r_iload_n (q := 20) (dc dt_TY_takeOut 13 rfl) rfl rfl 2 rfl ?_
  refine r_aload_n (q := 21) (dc dt_TY_takeOut 14 rfl) rfl rfl 0 rfl ?_
  refine r_getI (q := 24) (v := σ.2.1 2 0) fl_TY_9 (dc dt_TY_takeOut 15 rfl) rfl ly2 rfl rfl (fun g7 => ?_)
  obtain ⟨o8, h⟩ := h
  refine r_icmp_ge (q := 27) (t := 47) (dc dt_TY_takeOut 16 rfl) rfl (by decide) o8 g7 (fun q_ => ?_) (fun q_ => ?_)
  · have h := h.1 q_
    refine r_iload_n (q := 48) (dc dt_TY_takeOut 29 rfl) rfl rfl 1 rfl ?_
    obtain ⟨o11, h⟩ := h
    exact r_iret rfl (dc dt_TY_takeOut 30 rfl) o11 h
  · have h := h.2 q_
    refine r_aload_n (q := 28) (dc dt_TY_takeOut 17 rfl) rfl rfl 0 rfl ?_
    refine r_getO (q := 31) (v := 57) fl_TY_18 (dc dt_TY_takeOut 18 rfl) rfl ly2 rfl ?_
    refine r_iload_n (q := 32) (dc dt_TY_takeOut 19 rfl) rfl rfl 2 rfl ?_
    refine r_aload_n (q := 33) (dc dt_TY_takeOut 20 rfl) rfl rfl 0 rfl ?_
    refine r_getO (q := 36) (v := 57) fl_TY_18 (dc dt_TY_takeOut 21 rfl) rfl ly2 rfl ?_
    refine r_iload_n (q := 37) (dc dt_TY_takeOut 22 rfl) rfl rfl 2 rfl ?_
    refine r_iconst (q := 38) (dc dt_TY_takeOut 23 rfl) rfl rfl ?_
    refine r_iadd (q := 39) (dc dt_TY_takeOut 24 rfl) rfl ?_
    obtain ⟨o12, h⟩ := h
    refine r_iald (q := 40) (v := σ.1 57 ((v3 + 1).toNat)) (dc dt_TY_takeOut 25 rfl) rfl ly57 o12 rfl (fun g13 => ?_)
    obtain ⟨o14, h⟩ := h
    refine r_iast (q := 41) (dc dt_TY_takeOut 26 rfl) rfl ly57 o14 g13 (fun σ15 e16 => ?_)
    have h := h σ15 e16
    refine r_iinc (q := 44) (k := 2) (dc dt_TY_takeOut 27 rfl) rfl rfl (by decide) rfl ?_
    refine r_goto (q := 19) (dc dt_TY_takeOut 28 rfl) (by decide) ?_
    exact r_loc [1, 2, 0] rfl h
def tb_JS_remove : List (Nat × Instr × Nat) := [(0, .aload_n 0, 1), (1, .getfield 19, 3), (4, .iload_n 1, 1), (5, .invokevirtual 178, 3), (8, .ifCond .ne 6, 3), (11, .bipush (-2), 2), (13, .ireturn, 1), (14, .aload_n 0, 1), (15, .dup, 1), (16, .getfield 76, 3), (19, .iconst 1, 1), (20, .iadd, 1), (21, .putfield 76, 3), (24, .aload_n 0, 1), (25, .getfield 19, 3), (28, .iload_n 1, 1), (29, .invokevirtual 181, 3), (32, .istore_n 2, 1), (33, .aload_n 0, 1), (34, .getfield 19, 3), (37, .iload_n 1, 1), (38, .iload_n 2, 1), (39, .invokevirtual 175, 3), (42, .iload_n 2, 1), (43, .ireturn, 1)]
theorem dt_JS_remove : DT (cM m_JS_remove) tb_JS_remove := by unfold DT; decide +kernel
abbrev a_JS_remove_0 (G : GT)  (v1 : Int) (σ : St) (P : Int → St → Prop) : Prop := A G m_JS_remove 0 [(0, O 0), (1, I v1)] [] σ P
set_option maxRecDepth 20000 in
theorem k_JS_remove_0 {G : GT} {σ : St} {P : Int → St → Prop}  {v1 : Int}  
    (h : rng v1 ∧ (0 ≤ v1 → rng ((σ.2.1 2 0) - 1)) ∧ (0 ≤ v1 ∧ v1 ≤ ((σ.2.1 2 0) - 1) → rng ((σ.2.1 0 9) + 1) ∧ (∀ σ5, σ5 = sf σ 0 9 ((σ.2.1 0 9) + 1) → CJ G m_TY_takeOut [O 2, I v1] σ5 (fun r9 u8 => CJ G m_TY_remember [O 2, I v1, I r9] u8 (fun _ u11 => P r9 u11)))) ∧ (¬ (0 ≤ v1 ∧ v1 ≤ ((σ.2.1 2 0) - 1)) → P (-2) σ)) :
    a_JS_remove_0 G v1 σ P := by
  refine r_aload_n (q := 1) (dc dt_JS_remove 0 rfl) rfl rfl 0 rfl ?_
  refine r_getO (q := 4) (v := 2) fl_JS_19 (dc dt_JS_remove 1 rfl) rfl ly0 rfl ?_
  refine r_iload_n (q := 5) (dc dt_JS_remove 2 rfl) rfl rfl 1 rfl ?_
  obtain ⟨o1, h⟩ := h
  obtain ⟨o2, h⟩ := h
  refine r_callVi (q := 8) mk_TY_has lm_JS_178 (RMO.of rfl) rfl (dc dt_JS_remove 3 rfl) rfl ly2 [I v1] [] rfl rfl (Nat.le_of_ble_eq_true rfl) (sp_TY_has o1 o2) (fun _ _ g3 z => ?_)
  obtain ⟨z, w⟩ := z
  subst z
  replace w := w.symm
  subst w
  refine r_ifb_ne (q := 11) (t := 14) (dc dt_JS_remove 4 rfl) rfl (by decide) (fun q_ => ?_) (fun q_ => ?_)
  · have h := h.1 q_
    refine r_aload_n (q := 15) (dc dt_JS_remove 7 rfl) rfl rfl 0 rfl ?_
    refine r_dupo (q := 16) (dc dt_JS_remove 8 rfl) rfl ?_
    refine r_getI (q := 19) (v := σ.2.1 0 9) fl_JS_76 (dc dt_JS_remove 9 rfl) rfl ly0 rfl rfl (fun g4 => ?_)
    refine r_iconst (q := 20) (dc dt_JS_remove 10 rfl) rfl rfl ?_
    refine r_iadd (q := 21) (dc dt_JS_remove 11 rfl) rfl ?_
    obtain ⟨o7, h⟩ := h
    refine r_put (q := 24) fl_JS_76 (dc dt_JS_remove 12 rfl) rfl ly0 (fun _ => rfl) (Or.inl rfl) pf_0_9 o7 (fun σ5 e6 => ?_)
    have h := h σ5 e6
    refine r_aload_n (q := 25) (dc dt_JS_remove 13 rfl) rfl rfl 0 rfl ?_
    refine r_getO (q := 28) (v := 2) fl_JS_19 (dc dt_JS_remove 14 rfl) rfl ly0 rfl ?_
    refine r_iload_n (q := 29) (dc dt_JS_remove 15 rfl) rfl rfl 1 rfl ?_
    refine r_callVi (q := 32) mk_TY_takeOut lm_JS_181 (RMO.of rfl) rfl (dc dt_JS_remove 16 rfl) rfl ly2 [I v1] [] rfl rfl (Nat.le_of_ble_eq_true rfl) h (fun r9 u8 g10 h => ?_)
    refine r_istore_n (q := 33) (dc dt_JS_remove 17 rfl) rfl rfl (by decide) rfl ?_
    refine r_aload_n (q := 34) (dc dt_JS_remove 18 rfl) rfl rfl 1 rfl ?_
    refine r_getO (q := 37) (v := 2) fl_JS_19 (dc dt_JS_remove 19 rfl) rfl ly0 rfl ?_
    refine r_iload_n (q := 38) (dc dt_JS_remove 20 rfl) rfl rfl 2 rfl ?_
    refine r_iload_n (q := 39) (dc dt_JS_remove 21 rfl) rfl rfl 0 rfl ?_
    refine r_callVv (q := 42) mk_TY_remember lm_JS_175 (RMO.of rfl) rfl (dc dt_JS_remove 22 rfl) rfl ly2 [I v1, I r9] [] rfl rfl (Nat.le_of_ble_eq_true rfl) h (fun u11 h => ?_)
    refine r_iload_n (q := 43) (dc dt_JS_remove 23 rfl) rfl rfl 0 rfl ?_
    exact r_iret rfl (dc dt_JS_remove 24 rfl) g10 h
  · have h := h.2 q_
    refine r_bipush (q := 13) (dc dt_JS_remove 5 rfl) rfl (by decide) ?_
    exact r_iret rfl (dc dt_JS_remove 6 rfl) (⟨by decide, by decide⟩ : rng (-2)) h
def tb_TY_undoLatest : List (Nat × Instr × Nat) := [(0, .aload_n 0, 1), (1, .aload_n 0, 1), (2, .getfield 22, 3), (5, .ifCond .le 12, 3), (8, .aload_n 0, 1), (9, .getfield 22, 3), (12, .iconst 1, 1), (13, .isub, 1), (14, .goto 5, 3), (17, .bipush 39, 2), (19, .putfield 22, 3), (22, .aload_n 0, 1), (23, .dup, 1), (24, .getfield 15, 3), (27, .iconst 1, 1), (28, .isub, 1), (29, .putfield 15, 3), (32, .aload_n 0, 1), (33, .getfield 28, 3), (36, .aload_n 0, 1), (37, .getfield 22, 3), (40, .iaload, 1), (41, .bipush (-6), 2), (43, .if_icmp .ne 20, 3), (46, .aload_n 0, 1), (47, .aload_n 0, 1), (48, .getfield 25, 3), (51, .aload_n 0, 1), (52, .getfield 22, 3), (55, .iaload, 1), (56, .invokevirtual 41, 3), (59, .pop, 1), (60, .goto 25, 3), (63, .aload_n 0, 1), (64, .aload_n 0, 1), (65, .getfield 25, 3), (68, .aload_n 0, 1), (69, .getfield 22, 3), (72, .iaload, 1), (73, .aload_n 0, 1), (74, .getfield 28, 3), (77, .aload_n 0, 1), (78, .getfield 22, 3), (81, .iaload, 1), (82, .invokevirtual 45, 3), (85, .return_, 1)]
theorem dt_TY_undoLatest : DT (cM m_TY_undoLatest) tb_TY_undoLatest := by unfold DT; decide +kernel
abbrev a_TY_undoLatest_0 (G : GT)   (σ : St) (P : Int → St → Prop) : Prop := A G m_TY_undoLatest 0 [(0, O 2)] [] σ P
set_option maxRecDepth 20000 in
theorem k_TY_undoLatest_0 {G : GT} {σ : St} {P : Int → St → Prop}    
    (h : rng (if σ.2.1 2 3 ≤ 0 then (39 : Int) else (σ.2.1 2 3) - 1) ∧ (∀ σ3, σ3 = sf σ 2 3 (if σ.2.1 2 3 ≤ 0 then (39 : Int) else (σ.2.1 2 3) - 1) → rng ((σ.2.1 2 1) - 1) ∧ (∀ σ7, σ7 = sf σ3 2 1 ((σ.2.1 2 1) - 1) → (0 ≤ (if σ.2.1 2 3 ≤ 0 then (39 : Int) else (σ.2.1 2 3) - 1) ∧ (if σ.2.1 2 3 ≤ 0 then (39 : Int) else (σ.2.1 2 3) - 1) < 40) ∧ (σ.1 59 ((if σ.2.1 2 3 ≤ 0 then (39 : Int) else (σ.2.1 2 3) - 1).toNat) ≠ (-6) → CJ G m_TY_putIn [O 2, I (σ.1 58 ((if σ.2.1 2 3 ≤ 0 then (39 : Int) else (σ.2.1 2 3) - 1).toNat)), I (σ.1 59 ((if σ.2.1 2 3 ≤ 0 then (39 : Int) else (σ.2.1 2 3) - 1).toNat))] σ7 (fun _ u16 => P 0 u16)) ∧ (σ.1 59 ((if σ.2.1 2 3 ≤ 0 then (39 : Int) else (σ.2.1 2 3) - 1).toNat) = (-6) → CJ G m_TY_takeOut [O 2, I (σ.1 58 ((if σ.2.1 2 3 ≤ 0 then (39 : Int) else (σ.2.1 2 3) - 1).toNat))] σ7 (fun r19 u18 => P 0 u18))))) :
    a_TY_undoLatest_0 G  σ P := by
  refine r_aload_n (q := 1) (dc dt_TY_undoLatest 0 rfl) rfl rfl 0 rfl ?_
  refine r_aload_n (q := 2) (dc dt_TY_undoLatest 1 rfl) rfl rfl 0 rfl ?_
  refine r_getI (q := 5) (v := σ.2.1 2 3) fl_TY_22 (dc dt_TY_undoLatest 2 rfl) rfl ly2 rfl rfl (fun g1 => ?_)
  have hJ : ∀ (w_0 : Int), w_0 = (if σ.2.1 2 3 ≤ 0 then (39 : Int) else (σ.2.1 2 3) - 1) → A G m_TY_undoLatest 19 [(0, O 2)] [I w_0, O 2] σ P := by
    intro w_0 z_0
    subst z_0
    obtain ⟨o5, h⟩ := h
    refine r_put (q := 22) fl_TY_22 (dc dt_TY_undoLatest 10 rfl) rfl ly2 (fun _ => rfl) (Or.inl rfl) pf_2_3 o5 (fun σ3 e4 => ?_)
    have h := h σ3 e4
    refine r_aload_n (q := 23) (dc dt_TY_undoLatest 11 rfl) rfl rfl 0 rfl ?_
    refine r_dupo (q := 24) (dc dt_TY_undoLatest 12 rfl) rfl ?_
    refine r_getI (q := 27) (v := σ.2.1 2 1) fl_TY_15 (dc dt_TY_undoLatest 13 rfl) rfl ly2 rfl (by rw [e4]; rfl) (fun g6 => ?_)
    refine r_iconst (q := 28) (dc dt_TY_undoLatest 14 rfl) rfl rfl ?_
    refine r_isub (q := 29) (dc dt_TY_undoLatest 15 rfl) rfl ?_
    obtain ⟨o9, h⟩ := h
    refine r_put (q := 32) fl_TY_15 (dc dt_TY_undoLatest 16 rfl) rfl ly2 (fun _ => rfl) (Or.inl rfl) pf_2_1 o9 (fun σ7 e8 => ?_)
    have h := h σ7 e8
    refine r_aload_n (q := 33) (dc dt_TY_undoLatest 17 rfl) rfl rfl 0 rfl ?_
    refine r_getO (q := 36) (v := 59) fl_TY_28 (dc dt_TY_undoLatest 18 rfl) rfl ly2 rfl ?_
    refine r_aload_n (q := 37) (dc dt_TY_undoLatest 19 rfl) rfl rfl 0 rfl ?_
    refine r_getI (q := 40) (v := if σ.2.1 2 3 ≤ 0 then (39 : Int) else (σ.2.1 2 3) - 1) fl_TY_22 (dc dt_TY_undoLatest 20 rfl) rfl ly2 rfl (by rw [e8, e4]; first | rfl | exact up2_at | simp [sa, sf, up2]) (fun _ => ?_)
    obtain ⟨o10, h⟩ := h
    refine r_iald (q := 41) (v := σ.1 59 ((if σ.2.1 2 3 ≤ 0 then (39 : Int) else (σ.2.1 2 3) - 1).toNat)) (dc dt_TY_undoLatest 21 rfl) rfl ly59 o10 (by rw [e8, e4]; rfl) (fun g11 => ?_)
    refine r_bipush (q := 43) (dc dt_TY_undoLatest 22 rfl) rfl (by decide) ?_
    refine r_icmp_ne (q := 46) (t := 63) (dc dt_TY_undoLatest 23 rfl) rfl (by decide) g11 (⟨by decide, by decide⟩ : rng (-6)) (fun q_ => ?_) (fun q_ => ?_)
    · have h := h.1 q_
      refine r_aload_n (q := 64) (dc dt_TY_undoLatest 33 rfl) rfl rfl 0 rfl ?_
      refine r_aload_n (q := 65) (dc dt_TY_undoLatest 34 rfl) rfl rfl 0 rfl ?_
      refine r_getO (q := 68) (v := 58) fl_TY_25 (dc dt_TY_undoLatest 35 rfl) rfl ly2 rfl ?_
      refine r_aload_n (q := 69) (dc dt_TY_undoLatest 36 rfl) rfl rfl 0 rfl ?_
      refine r_getI (q := 72) (v := if σ.2.1 2 3 ≤ 0 then (39 : Int) else (σ.2.1 2 3) - 1) fl_TY_22 (dc dt_TY_undoLatest 37 rfl) rfl ly2 rfl (by rw [e8, e4]; first | rfl | exact up2_at | simp [sa, sf, up2]) (fun _ => ?_)
      refine r_iald (q := 73) (v := σ.1 58 ((if σ.2.1 2 3 ≤ 0 then (39 : Int) else (σ.2.1 2 3) - 1).toNat)) (dc dt_TY_undoLatest 38 rfl) rfl ly58 o10 (by rw [e8, e4]; rfl) (fun g14 => ?_)
      refine r_aload_n (q := 74) (dc dt_TY_undoLatest 39 rfl) rfl rfl 0 rfl ?_
      refine r_getO (q := 77) (v := 59) fl_TY_28 (dc dt_TY_undoLatest 40 rfl) rfl ly2 rfl ?_
      refine r_aload_n (q := 78) (dc dt_TY_undoLatest 41 rfl) rfl rfl 0 rfl ?_
      refine r_getI (q := 81) (v := if σ.2.1 2 3 ≤ 0 then (39 : Int) else (σ.2.1 2 3) - 1) fl_TY_22 (dc dt_TY_undoLatest 42 rfl) rfl ly2 rfl (by rw [e8, e4]; first | rfl | exact up2_at | simp [sa, sf, up2]) (fun _ => ?_)
      refine r_iald (q := 82) (v := σ.1 59 ((if σ.2.1 2 3 ≤ 0 then (39 : Int) else (σ.2.1 2 3) - 1).toNat)) (dc dt_TY_undoLatest 43 rfl) rfl ly59 o10 (by rw [e8, e4]; rfl) (fun g15 => ?_)
      refine r_callVv (q := 85) mk_TY_putIn lm_TY_45 (RMO.of rfl) rfl (dc dt_TY_undoLatest 44 rfl) rfl ly2 [I (σ.1 58 ((if σ.2.1 2 3 ≤ 0 then (39 : Int) else (σ.2.1 2 3) - 1).toNat)), I (σ.1 59 ((if σ.2.1 2 3 ≤ 0 then (39 : Int) else (σ.2.1 2 3) - 1).toNat))] [] rfl rfl (Nat.le_of_ble_eq_true rfl) h (fun u16 h => ?_)
      exact r_vret rfl (dc dt_TY_undoLatest 45 rfl) h
    · have h := h.2 q_
      refine r_aload_n (q := 47) (dc dt_TY_undoLatest 24 rfl) rfl rfl 0 rfl ?_
      refine r_aload_n (q := 48) (dc dt_TY_undoLatest 25 rfl) rfl rfl 0 rfl ?_
      refine r_getO (q := 51) (v := 58) fl_TY_25 (dc dt_TY_undoLatest 26 rfl) rfl ly2 rfl ?_
      refine r_aload_n (q := 52) (dc dt_TY_undoLatest 27 rfl) rfl rfl 0 rfl ?_
      refine r_getI (q := 55) (v := if σ.2.1 2 3 ≤ 0 then (39 : Int) else (σ.2.1 2 3) - 1) fl_TY_22 (dc dt_TY_undoLatest 28 rfl) rfl ly2 rfl (by rw [e8, e4]; first | rfl | exact up2_at | simp [sa, sf, up2]) (fun _ => ?_)
      refine r_iald (q := 56) (v := σ.1 58 ((if σ.2.1 2 3 ≤ 0 then (39 : Int) else (σ.2.1 2 3) - 1).toNat)) (dc dt_TY_undoLatest 29 rfl) rfl ly58 o10 (by rw [e8, e4]; rfl) (fun g17 => ?_)
      refine r_callVi (q := 59) mk_TY_takeOut lm_TY_41 (RMO.of rfl) rfl (dc dt_TY_undoLatest 30 rfl) rfl ly2 [I (σ.1 58 ((if σ.2.1 2 3 ≤ 0 then (39 : Int) else (σ.2.1 2 3) - 1).toNat))] [] rfl rfl (Nat.le_of_ble_eq_true rfl) h (fun r19 u18 g20 h => ?_)
      refine r_pop (q := 60) (dc dt_TY_undoLatest 31 rfl) rfl ?_
      refine r_goto (q := 85) (dc dt_TY_undoLatest 32 rfl) (by decide) ?_
      exact r_vret rfl (dc dt_TY_undoLatest 45 rfl) h
  clear h
  refine r_if_le (q := 8) (t := 17) (dc dt_TY_undoLatest 3 rfl) rfl (by decide) g1 (fun q_ => ?_) (fun q_ => ?_)
  · have q21 := q_
    refine r_bipush (q := 19) (dc dt_TY_undoLatest 9 rfl) rfl (by decide) ?_
    exact (hJ 39 ((if_pos (by first | omega | grind)).symm))
  · have q21 := q_
    refine r_aload_n (q := 9) (dc dt_TY_undoLatest 4 rfl) rfl rfl 0 rfl ?_
    refine r_getI (q := 12) (v := σ.2.1 2 3) fl_TY_22 (dc dt_TY_undoLatest 5 rfl) rfl ly2 rfl rfl (fun g2 => ?_)
    refine r_iconst (q := 13) (dc dt_TY_undoLatest 6 rfl) rfl rfl ?_
    refine r_isub (q := 14) (dc dt_TY_undoLatest 7 rfl) rfl ?_
    refine r_goto (q := 19) (dc dt_TY_undoLatest 8 rfl) (by decide) ?_
    exact (hJ ((σ.2.1 2 3) - 1) ((if_neg (by first | omega | grind)).symm))
