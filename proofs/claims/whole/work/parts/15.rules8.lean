theorem fl_MO_120 : FL R_MO 120 8 45 := FL.of rfl (by decide) rfl 1151 (by decide +kernel)
theorem fl_MO_123 : FL R_MO 123 8 46 := FL.of rfl (by decide) rfl 1152 (by decide +kernel)
theorem fl_MO_126 : FL R_MO 126 8 47 := FL.of rfl (by decide) rfl 1153 (by decide +kernel)
theorem fl_MO_129 : FL R_MO 129 8 48 := FL.of rfl (by decide) rfl 1154 (by decide +kernel)
theorem fl_MO_132 : FL R_MO 132 8 49 := FL.of rfl (by decide) rfl 1155 (by decide +kernel)
theorem fl_MO_135 : FL R_MO 135 8 50 := FL.of rfl (by decide) rfl 1156 (by decide +kernel)
theorem fl_MO_138 : FL R_MO 138 8 51 := FL.of rfl (by decide) rfl 1157 (by decide +kernel)
theorem fl_MO_141 : FL R_MO 141 8 52 := FL.of rfl (by decide) rfl 1158 (by decide +kernel)
theorem fl_MO_144 : FL R_MO 144 8 56 := FL.of rfl (by decide) rfl 1162 (by decide +kernel)
theorem fl_MO_147 : FL R_MO 147 8 57 := FL.of rfl (by decide) rfl 1163 (by decide +kernel)
theorem fl_MO_150 : FL R_MO 150 8 58 := FL.of rfl (by decide) rfl 1164 (by decide +kernel)
theorem fl_MO_153 : FL R_MO 153 8 59 := FL.of rfl (by decide) rfl 1165 (by decide +kernel)
theorem fl_MO_156 : FL R_MO 156 8 60 := FL.of rfl (by decide) rfl 1166 (by decide +kernel)
theorem fl_MO_159 : FL R_MO 159 8 61 := FL.of rfl (by decide) rfl 1167 (by decide +kernel)
theorem fl_MO_395 : FL R_MO 395 8 44 := FL.of rfl (by decide) rfl 1150 (by decide +kernel)
theorem fl_MO_398 : FL R_MO 398 8 53 := FL.of rfl (by decide) rfl 1159 (by decide +kernel)
theorem fl_MO_401 : FL R_MO 401 8 54 := FL.of rfl (by decide) rfl 1160 (by decide +kernel)
theorem fl_MO_404 : FL R_MO 404 8 64 := FL.of rfl (by decide) rfl 1170 (by decide +kernel)
theorem fl_MO_407 : FL R_MO 407 8 65 := FL.of rfl (by decide) rfl 1171 (by decide +kernel)
theorem fl_MO_418 : FL R_MO 418 8 66 := FL.of rfl (by decide) rfl 1172 (by decide +kernel)
theorem fl_MO_421 : FL R_MO 421 8 67 := FL.of rfl (by decide) rfl 1173 (by decide +kernel)
theorem fl_MO_446 : FL R_MO 446 8 55 := FL.of rfl (by decide) rfl 1161 (by decide +kernel)
theorem fl_MO_449 : FL R_MO 449 8 62 := FL.of rfl (by decide) rfl 1168 (by decide +kernel)
theorem fl_MO_452 : FL R_MO 452 8 63 := FL.of rfl (by decide) rfl 1169 (by decide +kernel)
theorem lm_MO_410 : Cond.methodLink R_MO 410 (yM m_MO_isChosen) ∈ gt := gt_at 1650 (by decide +kernel) rfl
theorem lm_MO_414 : Cond.methodLink R_MO 414 (yM m_MO_addPiece) ∈ gt := gt_at 1654 (by decide +kernel) rfl
theorem lm_MO_424 : Cond.methodLink R_MO 424 (yM m_MO_haveForms) ∈ gt := gt_at 1611 (by decide +kernel) rfl
theorem lm_MO_427 : Cond.methodLink R_MO 427 (yM m_MO_findLeast) ∈ gt := gt_at 1615 (by decide +kernel) rfl
theorem lm_MO_430 : Cond.methodLink R_MO 430 (yM m_MO_beginSet) ∈ gt := gt_at 1642 (by decide +kernel) rfl
theorem lm_MO_433 : Cond.methodLink R_MO 433 (yM m_MO_choose) ∈ gt := gt_at 1646 (by decide +kernel) rfl
theorem lm_MO_436 : Cond.methodLink R_MO 436 (yM m_MO_layMarks) ∈ gt := gt_at 1658 (by decide +kernel) rfl
theorem lm_MO_439 : Cond.methodLink R_MO 439 (yM m_MO_canBePlain) ∈ gt := gt_at 1697 (by decide +kernel) rfl
theorem lm_MO_442 : Cond.methodLink R_MO 442 (yM m_MO_cross) ∈ gt := gt_at 1670 (by decide +kernel) rfl
theorem lm_MO_455 : Cond.methodLink R_MO 455 (yM m_MO_layMark) ∈ gt := gt_at 1662 (by decide +kernel) rfl
theorem lm_MO_458 : Cond.methodLink R_MO 458 (yM m_MO_touches) ∈ gt := gt_at 1666 (by decide +kernel) rfl
theorem mk_MO_addPiece : MKV m_MO_addPiece 8 5 := ⟨⟨gt_at 1657 (by decide +kernel) rfl, gt_at 82 (by decide +kernel) rfl, by decide +kernel, by decide +kernel, by decide +kernel⟩, gt_at 1656 (by decide +kernel) rfl, gt_at 55 (by decide +kernel) rfl, _, _, rfl⟩
theorem mk_MO_beginSet : MKV m_MO_beginSet 8 2 := ⟨⟨gt_at 1645 (by decide +kernel) rfl, gt_at 82 (by decide +kernel) rfl, by decide +kernel, by decide +kernel, by decide +kernel⟩, gt_at 1644 (by decide +kernel) rfl, gt_at 52 (by decide +kernel) rfl, _, _, rfl⟩
theorem mk_MO_canBePlain : MKV m_MO_canBePlain 8 2 := ⟨⟨gt_at 1700 (by decide +kernel) rfl, gt_at 82 (by decide +kernel) rfl, by decide +kernel, by decide +kernel, by decide +kernel⟩, gt_at 1699 (by decide +kernel) rfl, gt_at 63 (by decide +kernel) rfl, _, _, rfl⟩
theorem mk_MO_choose : MKV m_MO_choose 8 4 := ⟨⟨gt_at 1649 (by decide +kernel) rfl, gt_at 82 (by decide +kernel) rfl, by decide +kernel, by decide +kernel, by decide +kernel⟩, gt_at 1648 (by decide +kernel) rfl, gt_at 53 (by decide +kernel) rfl, _, _, rfl⟩
theorem mk_MO_cross : MKS m_MO_cross 4 := ⟨⟨gt_at 1672 (by decide +kernel) rfl, gt_at 82 (by decide +kernel) rfl, by decide +kernel, by decide +kernel, by decide +kernel⟩, gt_at 1671 (by decide +kernel) rfl⟩
theorem mk_MO_findLeast : MKV m_MO_findLeast 8 2 := ⟨⟨gt_at 1618 (by decide +kernel) rfl, gt_at 82 (by decide +kernel) rfl, by decide +kernel, by decide +kernel, by decide +kernel⟩, gt_at 1617 (by decide +kernel) rfl, gt_at 47 (by decide +kernel) rfl, _, _, rfl⟩
theorem mk_MO_haveForms : MKV m_MO_haveForms 8 2 := ⟨⟨gt_at 1614 (by decide +kernel) rfl, gt_at 82 (by decide +kernel) rfl, by decide +kernel, by decide +kernel, by decide +kernel⟩, gt_at 1613 (by decide +kernel) rfl, gt_at 46 (by decide +kernel) rfl, _, _, rfl⟩
theorem mk_MO_isChosen : MKV m_MO_isChosen 8 5 := ⟨⟨gt_at 1653 (by decide +kernel) rfl, gt_at 82 (by decide +kernel) rfl, by decide +kernel, by decide +kernel, by decide +kernel⟩, gt_at 1652 (by decide +kernel) rfl, gt_at 54 (by decide +kernel) rfl, _, _, rfl⟩
theorem mk_MO_layMark : MKV m_MO_layMark 8 2 := ⟨⟨gt_at 1665 (by decide +kernel) rfl, gt_at 82 (by decide +kernel) rfl, by decide +kernel, by decide +kernel, by decide +kernel⟩, gt_at 1664 (by decide +kernel) rfl, gt_at 57 (by decide +kernel) rfl, _, _, rfl⟩
theorem mk_MO_layMarks : MKV m_MO_layMarks 8 0 := ⟨⟨gt_at 1661 (by decide +kernel) rfl, gt_at 82 (by decide +kernel) rfl, by decide +kernel, by decide +kernel, by decide +kernel⟩, gt_at 1660 (by decide +kernel) rfl, gt_at 56 (by decide +kernel) rfl, _, _, rfl⟩
theorem mk_MO_touches : MKV m_MO_touches 8 4 := ⟨⟨gt_at 1669 (by decide +kernel) rfl, gt_at 82 (by decide +kernel) rfl, by decide +kernel, by decide +kernel, by decide +kernel⟩, gt_at 1668 (by decide +kernel) rfl, gt_at 58 (by decide +kernel) rfl, _, _, rfl⟩
theorem pf_8_44 : ∀ C T N, classes[8]? = some (C, T, N) → (T 44).2.2.2 = false := fun _ _ _ h => by cases h; rfl
theorem pf_8_53 : ∀ C T N, classes[8]? = some (C, T, N) → (T 53).2.2.2 = false := fun _ _ _ h => by cases h; rfl
theorem pf_8_54 : ∀ C T N, classes[8]? = some (C, T, N) → (T 54).2.2.2 = false := fun _ _ _ h => by cases h; rfl
theorem pf_8_55 : ∀ C T N, classes[8]? = some (C, T, N) → (T 55).2.2.2 = false := fun _ _ _ h => by cases h; rfl
theorem pf_8_62 : ∀ C T N, classes[8]? = some (C, T, N) → (T 62).2.2.2 = false := fun _ _ _ h => by cases h; rfl
theorem pf_8_63 : ∀ C T N, classes[8]? = some (C, T, N) → (T 63).2.2.2 = false := fun _ _ _ h => by cases h; rfl
theorem pf_8_64 : ∀ C T N, classes[8]? = some (C, T, N) → (T 64).2.2.2 = false := fun _ _ _ h => by cases h; rfl
theorem pf_8_65 : ∀ C T N, classes[8]? = some (C, T, N) → (T 65).2.2.2 = false := fun _ _ _ h => by cases h; rfl
theorem pf_8_66 : ∀ C T N, classes[8]? = some (C, T, N) → (T 66).2.2.2 = false := fun _ _ _ h => by cases h; rfl
theorem pf_8_67 : ∀ C T N, classes[8]? = some (C, T, N) → (T 67).2.2.2 = false := fun _ _ _ h => by cases h; rfl
def tb_MO_beginSet : List (Nat × Instr × Nat) := [(0, .aload_n 0, 1), (1, .iconst 0, 1), (2, .putfield 395, 3), (5, .aload_n 0, 1), (6, .iconst 0, 1), (7, .putfield 398, 3), (10, .aload_n 0, 1), (11, .iconst 0, 1), (12, .putfield 401, 3), (15, .aload_n 0, 1), (16, .aload_n 0, 1), (17, .getfield 74, 3), (20, .iload_n 1, 1), (21, .iaload, 1), (22, .putfield 404, 3), (25, .aload_n 0, 1), (26, .aload_n 0, 1), (27, .getfield 77, 3), (30, .iload_n 2, 1), (31, .iaload, 1), (32, .putfield 407, 3), (35, .return_, 1)]
theorem dt_MO_beginSet : DT (cM m_MO_beginSet) tb_MO_beginSet := by unfold DT; decide +kernel
abbrev a_MO_beginSet_0 (G : GT)  (v1 : Int) (v2 : Int) (σ : St) (P : Int → St → Prop) : Prop := A G m_MO_beginSet 0 [(0, O 8), (1, I v1), (2, I v2)] [] σ P
set_option maxRecDepth 20000 in
theorem k_MO_beginSet_0 {G : GT} {σ : St} {P : Int → St → Prop}  {v1 : Int} {v2 : Int}  
    (h : (∀ σ1, σ1 = sf σ 8 44 0 → (∀ σ3, σ3 = sf σ1 8 53 0 → (∀ σ5, σ5 = sf σ3 8 54 0 → (0 ≤ v1 ∧ v1 < 80) ∧ (∀ σ9, σ9 = sf σ5 8 64 (σ.1 110 v1.toNat) → (0 ≤ v2 ∧ v2 < 80) ∧ (∀ σ13, σ13 = sf σ9 8 65 (σ.1 111 v2.toNat) → P 0 σ13)))))) :
    a_MO_beginSet_0 G v1 v2 σ P := by
  refine r_aload_n (q := 1) (dc dt_MO_beginSet 0 rfl) rfl rfl 0 rfl ?_
  refine r_iconst (q := 2) (dc dt_MO_beginSet 1 rfl) rfl rfl ?_
  refine r_put (q := 5) fl_MO_395 (dc dt_MO_beginSet 2 rfl) rfl ly8 (fun _ => rfl) (Or.inl rfl) pf_8_44 (⟨by decide, by decide⟩ : rng 0) (fun σ1 e2 => ?_)
  have h := h σ1 e2
  refine r_aload_n (q := 6) (dc dt_MO_beginSet 3 rfl) rfl rfl 0 rfl ?_
  refine r_iconst (q := 7) (dc dt_MO_beginSet 4 rfl) rfl rfl ?_
  refine r_put (q := 10) fl_MO_398 (dc dt_MO_beginSet 5 rfl) rfl ly8 (fun _ => rfl) (Or.inl rfl) pf_8_53 (⟨by decide, by decide⟩ : rng 0) (fun σ3 e4 => ?_)
  have h := h σ3 e4
  refine r_aload_n (q := 11) (dc dt_MO_beginSet 6 rfl) rfl rfl 0 rfl ?_
  refine r_iconst (q := 12) (dc dt_MO_beginSet 7 rfl) rfl rfl ?_
  refine r_put (q := 15) fl_MO_401 (dc dt_MO_beginSet 8 rfl) rfl ly8 (fun _ => rfl) (Or.inl rfl) pf_8_54 (⟨by decide, by decide⟩ : rng 0) (fun σ5 e6 => ?_)
  have h := h σ5 e6
  refine r_aload_n (q := 16) (dc dt_MO_beginSet 9 rfl) rfl rfl 0 rfl ?_
  refine r_aload_n (q := 17) (dc dt_MO_beginSet 10 rfl) rfl rfl 0 rfl ?_
  refine r_getO (q := 20) (v := 110) fl_MO_74 (dc dt_MO_beginSet 11 rfl) rfl ly8 rfl ?_
  refine r_iload_n (q := 21) (dc dt_MO_beginSet 12 rfl) rfl rfl 1 rfl ?_
  obtain ⟨o7, h⟩ := h
  refine r_iald (q := 22) (v := σ.1 110 v1.toNat) (dc dt_MO_beginSet 13 rfl) rfl ly110 o7 (by rw [e6, e4, e2]; rfl) (fun g8 => ?_)
  refine r_put (q := 25) fl_MO_404 (dc dt_MO_beginSet 14 rfl) rfl ly8 (fun _ => rfl) (Or.inl rfl) pf_8_64 g8 (fun σ9 e10 => ?_)
  have h := h σ9 e10
  refine r_aload_n (q := 26) (dc dt_MO_beginSet 15 rfl) rfl rfl 0 rfl ?_
  refine r_aload_n (q := 27) (dc dt_MO_beginSet 16 rfl) rfl rfl 0 rfl ?_
  refine r_getO (q := 30) (v := 111) fl_MO_77 (dc dt_MO_beginSet 17 rfl) rfl ly8 rfl ?_
  refine r_iload_n (q := 31) (dc dt_MO_beginSet 18 rfl) rfl rfl 2 rfl ?_
  obtain ⟨o11, h⟩ := h
  refine r_iald (q := 32) (v := σ.1 111 v2.toNat) (dc dt_MO_beginSet 19 rfl) rfl ly111 o11 (by rw [e10, e6, e4, e2]; rfl) (fun g12 => ?_)
  refine r_put (q := 35) fl_MO_407 (dc dt_MO_beginSet 20 rfl) rfl ly8 (fun _ => rfl) (Or.inl rfl) pf_8_65 g12 (fun σ13 e14 => ?_)
  have h := h σ13 e14
  exact r_vret rfl (dc dt_MO_beginSet 21 rfl) h
def tb_MO_addPiece : List (Nat × Instr × Nat) := [(0, .iconst 0, 1), (1, .istore 6, 2), (3, .iload_n 1, 1), (4, .istore 7, 2), (6, .iload 7, 2), (8, .iload_n 2, 1), (9, .if_icmp .ge 32, 3), (12, .aload_n 0, 1), (13, .getfield 141, 3), (16, .iload 7, 2), (18, .aload_n 0, 1), (19, .getfield 395, 3), (22, .iastore, 1), (23, .iload 6, 2), (25, .aload_n 0, 1), (26, .getfield 104, 3), (29, .iload 7, 2), (31, .iaload, 1), (32, .iadd, 1), (33, .istore 6, 2), (35, .iinc 7 1, 3), (38, .goto (-32), 3), (41, .aload_n 0, 1), (42, .getfield 120, 3), (45, .aload_n 0, 1), (46, .getfield 395, 3), (49, .iload_n 3, 1), (50, .iastore, 1), (51, .aload_n 0, 1), (52, .getfield 123, 3), (55, .aload_n 0, 1), (56, .getfield 395, 3), (59, .aload_n 0, 1), (60, .getfield 101, 3), (63, .iload_n 1, 1), (64, .iaload, 1), (65, .iastore, 1), (66, .aload_n 0, 1), (67, .getfield 126, 3), (70, .aload_n 0, 1), (71, .getfield 395, 3), (74, .aload_n 0, 1), (75, .iload_n 1, 1), (76, .iload_n 2, 1), (77, .iconst 1, 1), (78, .isub, 1), (79, .invokevirtual 366, 3), (82, .iastore, 1), (83, .aload_n 0, 1), (84, .getfield 129, 3), (87, .aload_n 0, 1), (88, .getfield 395, 3), (91, .iload 4, 2), (93, .iastore, 1), (94, .aload_n 0, 1), (95, .getfield 132, 3), (98, .aload_n 0, 1), (99, .getfield 395, 3), (102, .iload 5, 2), (104, .iastore, 1), (105, .aload_n 0, 1), (106, .getfield 135, 3), (109, .aload_n 0, 1), (110, .getfield 395, 3), (113, .iload 6, 2), (115, .iastore, 1), (116, .aload_n 0, 1), (117, .getfield 138, 3), (120, .aload_n 0, 1), (121, .getfield 395, 3), (124, .aload_n 0, 1), (125, .getfield 398, 3), (128, .iastore, 1), (129, .aload_n 0, 1), (130, .dup, 1), (131, .getfield 398, 3), (134, .aload_n 0, 1), (135, .getfield 35, 3), (138, .iload 4, 2), (140, .iaload, 1), (141, .iload 5, 2), (143, .iadd, 1), (144, .iadd, 1), (145, .putfield 398, 3), (148, .aload_n 0, 1), (149, .dup, 1), (150, .getfield 401, 3), (153, .aload_n 0, 1), (154, .getfield 44, 3), (157, .iload 4, 2), (159, .iaload, 1), (160, .aload_n 0, 1), (161, .getfield 53, 3), (164, .iload 4, 2), (166, .iaload, 1), (167, .iload 5, 2), (169, .invokestatic 388, 3), (172, .iadd, 1), (173, .putfield 401, 3), (176, .aload_n 0, 1), (177, .dup, 1), (178, .getfield 395, 3), (181, .iconst 1, 1), (182, .iadd, 1), (183, .putfield 395, 3), (186, .return_, 1)]
theorem dt_MO_addPiece : DT (cM m_MO_addPiece) tb_MO_addPiece := by unfold DT; decide +kernel
abbrev a_MO_addPiece_0 (G : GT)  (v1 : Int) (v2 : Int) (v3 : Int) (v4 : Int) (v5 : Int) (σ : St) (P : Int → St → Prop) : Prop := A G m_MO_addPiece 0 [(0, O 8), (1, I v1), (2, I v2), (3, I v3), (4, I v4), (5, I v5)] [] σ P
abbrev a_MO_addPiece_6 (G : GT)  (v1 : Int) (v2 : Int) (v3 : Int) (v4 : Int) (v5 : Int) (v6 : Int) (v7 : Int) (σ : St) (P : Int → St → Prop) : Prop := A G m_MO_addPiece 6 [(0, O 8), (1, I v1), (2, I v2), (3, I v3), (4, I v4), (5, I v5), (6, I v6), (7, I v7)] [] σ P
set_option maxRecDepth 20000 in
theorem k_MO_addPiece_0 {G : GT} {σ : St} {P : Int → St → Prop}  {v1 : Int} {v2 : Int} {v3 : Int} {v4 : Int} {v5 : Int}  
    (h : a_MO_addPiece_6 G v1 v2 v3 v4 v5 0 v1 σ P) :
    a_MO_addPiece_0 G v1 v2 v3 v4 v5 σ P := by
  refine r_iconst (q := 1) (dc dt_MO_addPiece 0 rfl) rfl rfl ?_
  refine r_istore (q := 3) (dc dt_MO_addPiece 1 rfl) rfl (by decide) rfl ?_
  refine r_iload_n (q := 4) (dc dt_MO_addPiece 2 rfl) rfl rfl 2 rfl ?_
  refine r_istore (q := 6) (dc dt_MO_addPiece 3 rfl) rfl (by decide) rfl ?_
  exact r_loc [2, 3, 4, 5, 6, 7, 1, 0] rfl h
set_option maxRecDepth 20000 in
theorem k_MO_addPiece_6 {G : GT} {σ : St} {P : Int → St → Prop}  {v1 : Int} {v2 : Int} {v3 : Int} {v4 : Int} {v5 : Int} {v6 : Int} {v7 : Int}  
    (h : rng v7 ∧ rng v2 ∧ (v2 ≤ v7 → (0 ≤ σ.2.1 8 44 ∧ σ.2.1 8 44 < 80) ∧ rng v3 ∧ (∀ σ7, σ7 = sa σ 125 ((σ.2.1 8 44).toNat) v3 → (0 ≤ v1 ∧ v1 < 80) ∧ (∀ σ12, σ12 = sa σ7 126 ((σ.2.1 8 44).toNat) (σ.1 119 v1.toNat) → p_MO_placeOf σ12 v1 (v2 - 1) ∧ (∀ σ17, σ17 = sa σ12 127 ((σ.2.1 8 44).toNat) (f_MO_placeOf σ12 v1 (v2 - 1)) → rng v4 ∧ (∀ σ21, σ21 = sa σ17 128 ((σ.2.1 8 44).toNat) v4 → rng v5 ∧ (∀ σ25, σ25 = sa σ21 129 ((σ.2.1 8 44).toNat) v5 → rng v6 ∧ (∀ σ29, σ29 = sa σ25 130 ((σ.2.1 8 44).toNat) v6 → (∀ σ33, σ33 = sa σ29 131 ((σ.2.1 8 44).toNat) (σ.2.1 8 53) → (0 ≤ v4 ∧ v4 < 200) ∧ rng ((σ.2.1 8 53) + ((σ.1 97 v4.toNat) + v5)) ∧ (∀ σ38, σ38 = sf σ33 8 53 ((σ.2.1 8 53) + ((σ.1 97 v4.toNat) + v5)) → rng ((σ.1 100 v4.toNat) + (((σ.1 103 v4.toNat) * v5) * v5)) ∧ rng ((σ.2.1 8 54) + ((σ.1 100 v4.toNat) + (((σ.1 103 v4.toNat) * v5) * v5))) ∧ (∀ σ46, σ46 = sf σ38 8 54 ((σ.2.1 8 54) + ((σ.1 100 v4.toNat) + (((σ.1 103 v4.toNat) * v5) * v5))) → rng ((σ.2.1 8 44) + 1) ∧ (∀ σ50, σ50 = sf σ46 8 44 ((σ.2.1 8 44) + 1) → P 0 σ50))))))))))) ∧ (v7 < v2 → (0 ≤ v7 ∧ v7 < 80) ∧ (∀ σ55, σ55 = sa σ 132 v7.toNat (σ.2.1 8 44) → a_MO_addPiece_6 G v1 v2 v3 v4 v5 (v6 + (σ.1 120 v7.toNat)) (v7 + 1) σ55 P))) :
    a_MO_addPiece_6 G v1 v2 v3 v4 v5 v6 v7 σ P := by
  refine r_iload (q := 8) (dc dt_MO_addPiece 4 rfl) rfl 7 rfl ?_
  refine r_iload_n (q := 9) (dc dt_MO_addPiece 5 rfl) rfl rfl 2 rfl ?_
  obtain ⟨o1, h⟩ := h
  obtain ⟨o2, h⟩ := h
  refine r_icmp_ge (q := 12) (t := 41) (dc dt_MO_addPiece 6 rfl) rfl (by decide) o1 o2 (fun q_ => ?_) (fun q_ => ?_)
  · have h := h.1 q_
    refine r_aload_n (q := 42) (dc dt_MO_addPiece 22 rfl) rfl rfl 0 rfl ?_
    refine r_getO (q := 45) (v := 125) fl_MO_120 (dc dt_MO_addPiece 23 rfl) rfl ly8 rfl ?_
    refine r_aload_n (q := 46) (dc dt_MO_addPiece 24 rfl) rfl rfl 0 rfl ?_
    refine r_getI (q := 49) (v := σ.2.1 8 44) fl_MO_395 (dc dt_MO_addPiece 25 rfl) rfl ly8 rfl rfl (fun g4 => ?_)
    refine r_iload_n (q := 50) (dc dt_MO_addPiece 26 rfl) rfl rfl 3 rfl ?_
    obtain ⟨o5, h⟩ := h
    obtain ⟨o6, h⟩ := h
    refine r_iast (q := 51) (dc dt_MO_addPiece 27 rfl) rfl ly125 o5 o6 (fun σ7 e8 => ?_)
    have h := h σ7 e8
    refine r_aload_n (q := 52) (dc dt_MO_addPiece 28 rfl) rfl rfl 0 rfl ?_
    refine r_getO (q := 55) (v := 126) fl_MO_123 (dc dt_MO_addPiece 29 rfl) rfl ly8 rfl ?_
    refine r_aload_n (q := 56) (dc dt_MO_addPiece 30 rfl) rfl rfl 0 rfl ?_
    refine r_getI (q := 59) (v := σ.2.1 8 44) fl_MO_395 (dc dt_MO_addPiece 31 rfl) rfl ly8 rfl (by rw [e8]; rfl) (fun g9 => ?_)
    refine r_aload_n (q := 60) (dc dt_MO_addPiece 32 rfl) rfl rfl 0 rfl ?_
    refine r_getO (q := 63) (v := 119) fl_MO_101 (dc dt_MO_addPiece 33 rfl) rfl ly8 rfl ?_
    refine r_iload_n (q := 64) (dc dt_MO_addPiece 34 rfl) rfl rfl 1 rfl ?_
    obtain ⟨o10, h⟩ := h
    refine r_iald (q := 65) (v := σ.1 119 v1.toNat) (dc dt_MO_addPiece 35 rfl) rfl ly119 o10 (by rw [e8]; rfl) (fun g11 => ?_)
    refine r_iast (q := 66) (dc dt_MO_addPiece 36 rfl) rfl ly126 o5 g11 (fun σ12 e13 => ?_)
    have h := h σ12 e13
    refine r_aload_n (q := 67) (dc dt_MO_addPiece 37 rfl) rfl rfl 0 rfl ?_
    refine r_getO (q := 70) (v := 127) fl_MO_126 (dc dt_MO_addPiece 38 rfl) rfl ly8 rfl ?_
    refine r_aload_n (q := 71) (dc dt_MO_addPiece 39 rfl) rfl rfl 0 rfl ?_
    refine r_getI (q := 74) (v := σ.2.1 8 44) fl_MO_395 (dc dt_MO_addPiece 40 rfl) rfl ly8 rfl (by rw [e13, e8]; rfl) (fun g14 => ?_)
    refine r_aload_n (q := 75) (dc dt_MO_addPiece 41 rfl) rfl rfl 0 rfl ?_
    refine r_iload_n (q := 76) (dc dt_MO_addPiece 42 rfl) rfl rfl 1 rfl ?_
    refine r_iload_n (q := 77) (dc dt_MO_addPiece 43 rfl) rfl rfl 2 rfl ?_
    refine r_iconst (q := 78) (dc dt_MO_addPiece 44 rfl) rfl rfl ?_
    refine r_isub (q := 79) (dc dt_MO_addPiece 45 rfl) rfl ?_
    obtain ⟨o15, h⟩ := h
    refine r_callVi (q := 82) mk_MO_placeOf lm_MO_366 (RMO.of rfl) rfl (dc dt_MO_addPiece 46 rfl) rfl ly8 [I v1, I (v2 - 1)] [I (σ.2.1 8 44), O 127] rfl rfl (Nat.le_of_ble_eq_true rfl) (sp_MO_placeOf o15) (fun _ _ g16 z => ?_)
    obtain ⟨z, w⟩ := z
    subst z
    replace w := w.symm
    subst w
    refine r_iast (q := 83) (dc dt_MO_addPiece 47 rfl) rfl ly127 o5 g16 (fun σ17 e18 => ?_)
    have h := h σ17 e18
    refine r_aload_n (q := 84) (dc dt_MO_addPiece 48 rfl) rfl rfl 0 rfl ?_
    refine r_getO (q := 87) (v := 128) fl_MO_129 (dc dt_MO_addPiece 49 rfl) rfl ly8 rfl ?_
    refine r_aload_n (q := 88) (dc dt_MO_addPiece 50 rfl) rfl rfl 0 rfl ?_
    refine r_getI (q := 91) (v := σ.2.1 8 44) fl_MO_395 (dc dt_MO_addPiece 51 rfl) rfl ly8 rfl (by rw [e18, e13, e8]; rfl) (fun g19 => ?_)
    refine r_iload (q := 93) (dc dt_MO_addPiece 52 rfl) rfl 4 rfl ?_
    obtain ⟨o20, h⟩ := h
    refine r_iast (q := 94) (dc dt_MO_addPiece 53 rfl) rfl ly128 o5 o20 (fun σ21 e22 => ?_)
    have h := h σ21 e22
    refine r_aload_n (q := 95) (dc dt_MO_addPiece 54 rfl) rfl rfl 0 rfl ?_
    refine r_getO (q := 98) (v := 129) fl_MO_132 (dc dt_MO_addPiece 55 rfl) rfl ly8 rfl ?_
    refine r_aload_n (q := 99) (dc dt_MO_addPiece 56 rfl) rfl rfl 0 rfl ?_
    refine r_getI (q := 102) (v := σ.2.1 8 44) fl_MO_395 (dc dt_MO_addPiece 57 rfl) rfl ly8 rfl (by rw [e22, e18, e13, e8]; rfl) (fun g23 => ?_)
    refine r_iload (q := 104) (dc dt_MO_addPiece 58 rfl) rfl 5 rfl ?_
    obtain ⟨o24, h⟩ := h
    refine r_iast (q := 105) (dc dt_MO_addPiece 59 rfl) rfl ly129 o5 o24 (fun σ25 e26 => ?_)
    have h := h σ25 e26
    refine r_aload_n (q := 106) (dc dt_MO_addPiece 60 rfl) rfl rfl 0 rfl ?_
    refine r_getO (q := 109) (v := 130) fl_MO_135 (dc dt_MO_addPiece 61 rfl) rfl ly8 rfl ?_
    refine r_aload_n (q := 110) (dc dt_MO_addPiece 62 rfl) rfl rfl 0 rfl ?_
    refine r_getI (q := 113) (v := σ.2.1 8 44) fl_MO_395 (dc dt_MO_addPiece 63 rfl) rfl ly8 rfl (by rw [e26, e22, e18, e13, e8]; rfl) (fun g27 => ?_)
    refine r_iload (q := 115) (dc dt_MO_addPiece 64 rfl) rfl 6 rfl ?_
    obtain ⟨o28, h⟩ := h
    refine r_iast (q := 116) (dc dt_MO_addPiece 65 rfl) rfl ly130 o5 o28 (fun σ29 e30 => ?_)
    have h := h σ29 e30
    refine r_aload_n (q := 117) (dc dt_MO_addPiece 66 rfl) rfl rfl 0 rfl ?_
    refine r_getO (q := 120) (v := 131) fl_MO_138 (dc dt_MO_addPiece 67 rfl) rfl ly8 rfl ?_
    refine r_aload_n (q := 121) (dc dt_MO_addPiece 68 rfl) rfl rfl 0 rfl ?_
    refine r_getI (q := 124) (v := σ.2.1 8 44) fl_MO_395 (dc dt_MO_addPiece 69 rfl) rfl ly8 rfl (by rw [e30, e26, e22, e18, e13, e8]; rfl) (fun g31 => ?_)
    refine r_aload_n (q := 125) (dc dt_MO_addPiece 70 rfl) rfl rfl 0 rfl ?_
    refine r_getI (q := 128) (v := σ.2.1 8 53) fl_MO_398 (dc dt_MO_addPiece 71 rfl) rfl ly8 rfl (by rw [e30, e26, e22, e18, e13, e8]; rfl) (fun g32 => ?_)
    refine r_iast (q := 129) (dc dt_MO_addPiece 72 rfl) rfl ly131 o5 g32 (fun σ33 e34 => ?_)
    have h := h σ33 e34
    refine r_aload_n (q := 130) (dc dt_MO_addPiece 73 rfl) rfl rfl 0 rfl ?_
    refine r_dupo (q := 131) (dc dt_MO_addPiece 74 rfl) rfl ?_
    refine r_getI (q := 134) (v := σ.2.1 8 53) fl_MO_398 (dc dt_MO_addPiece 75 rfl) rfl ly8 rfl (by rw [e34, e30, e26, e22, e18, e13, e8]; rfl) (fun g35 => ?_)
    refine r_aload_n (q := 135) (dc dt_MO_addPiece 76 rfl) rfl rfl 0 rfl ?_
    refine r_getO (q := 138) (v := 97) fl_MO_35 (dc dt_MO_addPiece 77 rfl) rfl ly8 rfl ?_
    refine r_iload (q := 140) (dc dt_MO_addPiece 78 rfl) rfl 4 rfl ?_
    obtain ⟨o36, h⟩ := h
    refine r_iald (q := 141) (v := σ.1 97 v4.toNat) (dc dt_MO_addPiece 79 rfl) rfl ly97 o36 (by rw [e34, e30, e26, e22, e18, e13, e8]; rfl) (fun g37 => ?_)
    refine r_iload (q := 143) (dc dt_MO_addPiece 80 rfl) rfl 5 rfl ?_
    refine r_iadd (q := 144) (dc dt_MO_addPiece 81 rfl) rfl ?_
    refine r_iadd (q := 145) (dc dt_MO_addPiece 82 rfl) rfl ?_
    obtain ⟨o40, h⟩ := h
    refine r_put (q := 148) fl_MO_398 (dc dt_MO_addPiece 83 rfl) rfl ly8 (fun _ => rfl) (Or.inl rfl) pf_8_53 o40 (fun σ38 e39 => ?_)
    have h := h σ38 e39
    refine r_aload_n (q := 149) (dc dt_MO_addPiece 84 rfl) rfl rfl 0 rfl ?_
    refine r_dupo (q := 150) (dc dt_MO_addPiece 85 rfl) rfl ?_
    refine r_getI (q := 153) (v := σ.2.1 8 54) fl_MO_401 (dc dt_MO_addPiece 86 rfl) rfl ly8 rfl (by rw [e39, e34, e30, e26, e22, e18, e13, e8]; rfl) (fun g41 => ?_)
    refine r_aload_n (q := 154) (dc dt_MO_addPiece 87 rfl) rfl rfl 0 rfl ?_
    refine r_getO (q := 157) (v := 100) fl_MO_44 (dc dt_MO_addPiece 88 rfl) rfl ly8 rfl ?_
    refine r_iload (q := 159) (dc dt_MO_addPiece 89 rfl) rfl 4 rfl ?_
    refine r_iald (q := 160) (v := σ.1 100 v4.toNat) (dc dt_MO_addPiece 90 rfl) rfl ly100 o36 (by rw [e39, e34, e30, e26, e22, e18, e13, e8]; rfl) (fun g42 => ?_)
    refine r_aload_n (q := 161) (dc dt_MO_addPiece 91 rfl) rfl rfl 0 rfl ?_
    refine r_getO (q := 164) (v := 103) fl_MO_53 (dc dt_MO_addPiece 92 rfl) rfl ly8 rfl ?_
    refine r_iload (q := 166) (dc dt_MO_addPiece 93 rfl) rfl 4 rfl ?_
    refine r_iald (q := 167) (v := σ.1 103 v4.toNat) (dc dt_MO_addPiece 94 rfl) rfl ly103 o36 (by rw [e39, e34, e30, e26, e22, e18, e13, e8]; rfl) (fun g43 => ?_)
    refine r_iload (q := 169) (dc dt_MO_addPiece 95 rfl) rfl 5 rfl ?_
    obtain ⟨o44, h⟩ := h
    refine r_callSi (q := 172) mk_MO_cost lm_MO_388 (RMO.of rfl) rfl (dc dt_MO_addPiece 96 rfl) rfl [I (σ.1 100 v4.toNat), I (σ.1 103 v4.toNat), I v5] [I (σ.2.1 8 54), O 8] rfl rfl (Nat.le_of_ble_eq_true rfl) (sp_MO_cost o44) (fun _ _ g45 z => ?_)
    obtain ⟨z, w⟩ := z
    subst z
    replace w := w.symm
    subst w
    refine r_iadd (q := 173) (dc dt_MO_addPiece 97 rfl) rfl ?_
    obtain ⟨o48, h⟩ := h
    refine r_put (q := 176) fl_MO_401 (dc dt_MO_addPiece 98 rfl) rfl ly8 (fun _ => rfl) (Or.inl rfl) pf_8_54 o48 (fun σ46 e47 => ?_)
    have h := h σ46 e47
    refine r_aload_n (q := 177) (dc dt_MO_addPiece 99 rfl) rfl rfl 0 rfl ?_
    refine r_dupo (q := 178) (dc dt_MO_addPiece 100 rfl) rfl ?_
    refine r_getI (q := 181) (v := σ.2.1 8 44) fl_MO_395 (dc dt_MO_addPiece 101 rfl) rfl ly8 rfl (by rw [e47, e39, e34, e30, e26, e22, e18, e13, e8]; rfl) (fun g49 => ?_)
    refine r_iconst (q := 182) (dc dt_MO_addPiece 102 rfl) rfl rfl ?_
    refine r_iadd (q := 183) (dc dt_MO_addPiece 103 rfl) rfl ?_
    obtain ⟨o52, h⟩ := h
    refine r_put (q := 186) fl_MO_395 (dc dt_MO_addPiece 104 rfl) rfl ly8 (fun _ => rfl) (Or.inl rfl) pf_8_44 o52 (fun σ50 e51 => ?_)
    have h := h σ50 e51
    exact r_vret rfl (dc dt_MO_addPiece 105 rfl) h
  · have h := h.2 q_
    refine r_aload_n (q := 13) (dc dt_MO_addPiece 7 rfl) rfl rfl 0 rfl ?_
    refine r_getO (q := 16) (v := 132) fl_MO_141 (dc dt_MO_addPiece 8 rfl) rfl ly8 rfl ?_
    refine r_iload (q := 18) (dc dt_MO_addPiece 9 rfl) rfl 7 rfl ?_
    refine r_aload_n (q := 19) (dc dt_MO_addPiece 10 rfl) rfl rfl 0 rfl ?_
    refine r_getI (q := 22) (v := σ.2.1 8 44) fl_MO_395 (dc dt_MO_addPiece 11 rfl) rfl ly8 rfl rfl (fun g53 => ?_)
    obtain ⟨o54, h⟩ := h
    refine r_iast (q := 23) (dc dt_MO_addPiece 12 rfl) rfl ly132 o54 g53 (fun σ55 e56 => ?_)
    have h := h σ55 e56
    refine r_iload (q := 25) (dc dt_MO_addPiece 13 rfl) rfl 6 rfl ?_
    refine r_aload_n (q := 26) (dc dt_MO_addPiece 14 rfl) rfl rfl 0 rfl ?_
    refine r_getO (q := 29) (v := 120) fl_MO_104 (dc dt_MO_addPiece 15 rfl) rfl ly8 rfl ?_
    refine r_iload (q := 31) (dc dt_MO_addPiece 16 rfl) rfl 7 rfl ?_
    refine r_iald (q := 32) (v := σ.1 120 v7.toNat) (dc dt_MO_addPiece 17 rfl) rfl ly120 o54 (by rw [e56]; rfl) (fun g57 => ?_)
    refine r_iadd (q := 33) (dc dt_MO_addPiece 18 rfl) rfl ?_
    refine r_istore (q := 35) (dc dt_MO_addPiece 19 rfl) rfl (by decide) rfl ?_
    refine r_iinc (q := 38) (k := 7) (dc dt_MO_addPiece 20 rfl) rfl rfl (by decide) rfl ?_
    refine r_goto (q := 6) (dc dt_MO_addPiece 21 rfl) (by decide) ?_
    exact r_loc [2, 3, 4, 5, 6, 7, 1, 0] rfl h
def tb_MO_isChosen : List (Nat × Instr × Nat) := [(0, .iconst 4, 1), (1, .iload_n 3, 1), (2, .imul, 1), (3, .aload_n 0, 1), (4, .iload_n 1, 1), (5, .iload_n 2, 1), (6, .iconst 1, 1), (7, .isub, 1), (8, .invokevirtual 366, 3), (11, .iadd, 1), (12, .istore 6, 2), (14, .iconst 0, 1), (15, .istore 7, 2), (17, .iload 7, 2), (19, .aload_n 0, 1), (20, .getfield 59, 3), (23, .iload 6, 2), (25, .iaload, 1), (26, .if_icmp .ge 160, 3), (29, .aload_n 0, 1), (30, .getfield 56, 3), (33, .iconst 3, 1), (34, .iload 6, 2), (36, .imul, 1), (37, .iload 7, 2), (39, .iadd, 1), (40, .iaload, 1), (41, .istore 8, 2), (43, .iconst 0, 1), (44, .istore 9, 2), (46, .iload 9, 2), (48, .aload_n 0, 1), (49, .getfield 50, 3), (52, .iload 8, 2), (54, .iaload, 1), (55, .if_icmp .gt 125, 3), (58, .aload_n 0, 1), (59, .getfield 35, 3), (62, .iload 8, 2), (64, .iaload, 1), (65, .iload 9, 2), (67, .iadd, 1), (68, .iload 4, 2), (70, .if_icmp .gt 110, 3), (73, .aload_n 0, 1), (74, .iload_n 1, 1), (75, .iload 5, 2), (77, .iload_n 3, 1), (78, .iload 9, 2), (80, .invokevirtual 391, 3), (83, .istore 10, 2), (85, .iload 10, 2), (87, .ifCond .lt 87, 3), (90, .aload_n 0, 1), (91, .getfield 117, 3), (94, .iload_n 2, 1), (95, .iload 4, 2), (97, .aload_n 0, 1), (98, .getfield 35, 3), (101, .iload 8, 2), (103, .iaload, 1), (104, .isub, 1), (105, .iload 9, 2), (107, .isub, 1), (108, .iload 10, 2), (110, .invokestatic 372, 3), (113, .iaload, 1), (114, .aload_n 0, 1), (115, .getfield 44, 3), (118, .iload 8, 2), (120, .iaload, 1), (121, .aload_n 0, 1), (122, .getfield 53, 3), (125, .iload 8, 2), (127, .iaload, 1), (128, .iload 9, 2), (130, .invokestatic 388, 3), (133, .iadd, 1), (134, .aload_n 0, 1), (135, .getfield 117, 3), (138, .iload_n 1, 1), (139, .iload 4, 2), (141, .iload 5, 2), (143, .invokestatic 372, 3), (146, .iaload, 1), (147, .if_icmp .ne 27, 3), (150, .aload_n 0, 1), (151, .iload_n 1, 1), (152, .iload_n 2, 1), (153, .iload_n 3, 1), (154, .iload 8, 2), (156, .iload 9, 2), (158, .invokevirtual 414, 3), (161, .aload_n 0, 1), (162, .iload_n 2, 1), (163, .putfield 418, 3), (166, .aload_n 0, 1), (167, .iload 10, 2), (169, .putfield 421, 3), (172, .iconst 1, 1), (173, .ireturn, 1), (174, .iinc 9 1, 3), (177, .goto (-131), 3), (180, .iinc 7 1, 3), (183, .goto (-166), 3), (186, .iconst 0, 1), (187, .ireturn, 1)]
theorem dt_MO_isChosen : DT (cM m_MO_isChosen) tb_MO_isChosen := by unfold DT; decide +kernel
abbrev a_MO_isChosen_0 (G : GT)  (v1 : Int) (v2 : Int) (v3 : Int) (v4 : Int) (v5 : Int) (σ : St) (P : Int → St → Prop) : Prop := A G m_MO_isChosen 0 [(0, O 8), (1, I v1), (2, I v2), (3, I v3), (4, I v4), (5, I v5)] [] σ P
abbrev a_MO_isChosen_17 (G : GT)  (v1 : Int) (v2 : Int) (v3 : Int) (v4 : Int) (v5 : Int) (v6 : Int) (v7 : Int) (σ : St) (P : Int → St → Prop) : Prop := A G m_MO_isChosen 17 [(0, O 8), (1, I v1), (2, I v2), (3, I v3), (4, I v4), (5, I v5), (6, I v6), (7, I v7)] [] σ P
abbrev a_MO_isChosen_46 (G : GT)  (v1 : Int) (v2 : Int) (v3 : Int) (v4 : Int) (v5 : Int) (v6 : Int) (v7 : Int) (v8 : Int) (v9 : Int) (σ : St) (P : Int → St → Prop) : Prop := A G m_MO_isChosen 46 [(0, O 8), (1, I v1), (2, I v2), (3, I v3), (4, I v4), (5, I v5), (6, I v6), (7, I v7), (8, I v8), (9, I v9)] [] σ P
set_option maxRecDepth 20000 in
theorem k_MO_isChosen_0 {G : GT} {σ : St} {P : Int → St → Prop}  {v1 : Int} {v2 : Int} {v3 : Int} {v4 : Int} {v5 : Int}  
    (h : p_MO_placeOf σ v1 (v2 - 1) ∧ a_MO_isChosen_17 G v1 v2 v3 v4 v5 ((4 * v3) + (f_MO_placeOf σ v1 (v2 - 1))) 0 σ P) :
    a_MO_isChosen_0 G v1 v2 v3 v4 v5 σ P := by
  refine r_iconst (q := 1) (dc dt_MO_isChosen 0 rfl) rfl rfl ?_
  refine r_iload_n (q := 2) (dc dt_MO_isChosen 1 rfl) rfl rfl 3 rfl ?_
  refine r_imul (q := 3) (dc dt_MO_isChosen 2 rfl) rfl ?_
  refine r_aload_n (q := 4) (dc dt_MO_isChosen 3 rfl) rfl rfl 0 rfl ?_
  refine r_iload_n (q := 5) (dc dt_MO_isChosen 4 rfl) rfl rfl 1 rfl ?_
  refine r_iload_n (q := 6) (dc dt_MO_isChosen 5 rfl) rfl rfl 2 rfl ?_
  refine r_iconst (q := 7) (dc dt_MO_isChosen 6 rfl) rfl rfl ?_
  refine r_isub (q := 8) (dc dt_MO_isChosen 7 rfl) rfl ?_
  obtain ⟨o1, h⟩ := h
  refine r_callVi (q := 11) mk_MO_placeOf lm_MO_366 (RMO.of rfl) rfl (dc dt_MO_isChosen 8 rfl) rfl ly8 [I v1, I (v2 - 1)] [I (4 * v3)] rfl rfl (Nat.le_of_ble_eq_true rfl) (sp_MO_placeOf o1) (fun _ _ g2 z => ?_)
  obtain ⟨z, w⟩ := z
  subst z
  replace w := w.symm
  subst w
  refine r_iadd (q := 12) (dc dt_MO_isChosen 9 rfl) rfl ?_
  refine r_istore (q := 14) (dc dt_MO_isChosen 10 rfl) rfl (by decide) rfl ?_
  refine r_iconst (q := 15) (dc dt_MO_isChosen 11 rfl) rfl rfl ?_
  refine r_istore (q := 17) (dc dt_MO_isChosen 12 rfl) rfl (by decide) rfl ?_
  exact r_loc [2, 3, 4, 5, 6, 7, 1, 0] rfl h
set_option maxRecDepth 20000 in
theorem k_MO_isChosen_17 {G : GT} {σ : St} {P : Int → St → Prop}  {v1 : Int} {v2 : Int} {v3 : Int} {v4 : Int} {v5 : Int} {v6 : Int} {v7 : Int}  
    (h : (0 ≤ v6 ∧ v6 < 240) ∧ rng v7 ∧ (σ.1 105 v6.toNat ≤ v7 → P 0 σ) ∧ (v7 < σ.1 105 v6.toNat → (0 ≤ (3 * v6) + v7 ∧ (3 * v6) + v7 < 720) ∧ a_MO_isChosen_46 G v1 v2 v3 v4 v5 v6 v7 (σ.1 104 (((3 * v6) + v7).toNat)) 0 σ P)) :
    a_MO_isChosen_17 G v1 v2 v3 v4 v5 v6 v7 σ P := by
  refine r_iload (q := 19) (dc dt_MO_isChosen 13 rfl) rfl 7 rfl ?_
  refine r_aload_n (q := 20) (dc dt_MO_isChosen 14 rfl) rfl rfl 0 rfl ?_
  refine r_getO (q := 23) (v := 105) fl_MO_59 (dc dt_MO_isChosen 15 rfl) rfl ly8 rfl ?_
  refine r_iload (q := 25) (dc dt_MO_isChosen 16 rfl) rfl 6 rfl ?_
  obtain ⟨o3, h⟩ := h
  refine r_iald (q := 26) (v := σ.1 105 v6.toNat) (dc dt_MO_isChosen 17 rfl) rfl ly105 o3 rfl (fun g4 => ?_)
  obtain ⟨o5, h⟩ := h
  refine r_icmp_ge (q := 29) (t := 186) (dc dt_MO_isChosen 18 rfl) rfl (by decide) o5 g4 (fun q_ => ?_) (fun q_ => ?_)
  · have h := h.1 q_
    refine r_iconst (q := 187) (dc dt_MO_isChosen 105 rfl) rfl rfl ?_
    exact r_zret rfl (dc dt_MO_isChosen 106 rfl) (by decide) h
  · have h := h.2 q_
    refine r_aload_n (q := 30) (dc dt_MO_isChosen 19 rfl) rfl rfl 0 rfl ?_
    refine r_getO (q := 33) (v := 104) fl_MO_56 (dc dt_MO_isChosen 20 rfl) rfl ly8 rfl ?_
    refine r_iconst (q := 34) (dc dt_MO_isChosen 21 rfl) rfl rfl ?_
    refine r_iload (q := 36) (dc dt_MO_isChosen 22 rfl) rfl 6 rfl ?_
    refine r_imul (q := 37) (dc dt_MO_isChosen 23 rfl) rfl ?_
    refine r_iload (q := 39) (dc dt_MO_isChosen 24 rfl) rfl 7 rfl ?_
    refine r_iadd (q := 40) (dc dt_MO_isChosen 25 rfl) rfl ?_
    obtain ⟨o6, h⟩ := h
    refine r_iald (q := 41) (v := σ.1 104 (((3 * v6) + v7).toNat)) (dc dt_MO_isChosen 26 rfl) rfl ly104 o6 rfl (fun g7 => ?_)
    refine r_istore (q := 43) (dc dt_MO_isChosen 27 rfl) rfl (by decide) rfl ?_
    refine r_iconst (q := 44) (dc dt_MO_isChosen 28 rfl) rfl rfl ?_
    refine r_istore (q := 46) (dc dt_MO_isChosen 29 rfl) rfl (by decide) rfl ?_
    exact r_loc [2, 3, 4, 5, 6, 7, 8, 9, 1, 0] rfl h
set_option maxRecDepth 20000 in
theorem k_MO_isChosen_46 {G : GT} {σ : St} {P : Int → St → Prop}  {v1 : Int} {v2 : Int} {v3 : Int} {v4 : Int} {v5 : Int} {v6 : Int} {v7 : Int} {v8 : Int} {v9 : Int}  
    (h : (0 ≤ v8 ∧ v8 < 200) ∧ rng v9 ∧ (σ.1 102 v8.toNat < v9 → a_MO_isChosen_17 G v1 v2 v3 v4 v5 v6 (v7 + 1) σ P) ∧ (v9 ≤ σ.1 102 v8.toNat → rng ((σ.1 97 v8.toNat) + v9) ∧ rng v4 ∧ (v4 < (σ.1 97 v8.toNat) + v9 → a_MO_isChosen_17 G v1 v2 v3 v4 v5 v6 (v7 + 1) σ P) ∧ ((σ.1 97 v8.toNat) + v9 ≤ v4 → p_MO_stateBehind σ v1 v5 v3 v9 ∧ (f_MO_stateBehind σ v1 v5 v3 v9 < 0 → a_MO_isChosen_46 G v1 v2 v3 v4 v5 v6 v7 v8 (v9 + 1) σ P) ∧ (0 ≤ f_MO_stateBehind σ v1 v5 v3 v9 → rng ((((v2 * 301) + ((v4 - (σ.1 97 v8.toNat)) - v9)) * 4) + (f_MO_stateBehind σ v1 v5 v3 v9)) ∧ (0 ≤ (((v2 * 301) + ((v4 - (σ.1 97 v8.toNat)) - v9)) * 4) + (f_MO_stateBehind σ v1 v5 v3 v9) ∧ (((v2 * 301) + ((v4 - (σ.1 97 v8.toNat)) - v9)) * 4) + (f_MO_stateBehind σ v1 v5 v3 v9) < 97524) ∧ rng ((σ.1 100 v8.toNat) + (((σ.1 103 v8.toNat) * v9) * v9)) ∧ rng ((((v1 * 301) + v4) * 4) + v5) ∧ (0 ≤ (((v1 * 301) + v4) * 4) + v5 ∧ (((v1 * 301) + v4) * 4) + v5 < 97524) ∧ rng ((σ.1 124 (((((v2 * 301) + ((v4 - (σ.1 97 v8.toNat)) - v9)) * 4) + (f_MO_stateBehind σ v1 v5 v3 v9)).toNat)) + ((σ.1 100 v8.toNat) + (((σ.1 103 v8.toNat) * v9) * v9))) ∧ ((σ.1 124 (((((v2 * 301) + ((v4 - (σ.1 97 v8.toNat)) - v9)) * 4) + (f_MO_stateBehind σ v1 v5 v3 v9)).toNat)) + ((σ.1 100 v8.toNat) + (((σ.1 103 v8.toNat) * v9) * v9)) ≠ σ.1 124 (((((v1 * 301) + v4) * 4) + v5).toNat) → a_MO_isChosen_46 G v1 v2 v3 v4 v5 v6 v7 v8 (v9 + 1) σ P) ∧ ((σ.1 124 (((((v2 * 301) + ((v4 - (σ.1 97 v8.toNat)) - v9)) * 4) + (f_MO_stateBehind σ v1 v5 v3 v9)).toNat)) + ((σ.1 100 v8.toNat) + (((σ.1 103 v8.toNat) * v9) * v9)) = σ.1 124 (((((v1 * 301) + v4) * 4) + v5).toNat) → CJ G m_MO_addPiece [O 8, I v1, I v2, I v3, I v8, I v9] σ (fun _ u30 => rng v2 ∧ (∀ σ31, σ31 = sf u30 8 66 v2 → (∀ σ34, σ34 = sf σ31 8 67 (f_MO_stateBehind σ v1 v5 v3 v9) → P 1 σ34)))))))) :
    a_MO_isChosen_46 G v1 v2 v3 v4 v5 v6 v7 v8 v9 σ P := by
  refine r_iload (q := 48) (dc dt_MO_isChosen 30 rfl) rfl 9 rfl ?_
  refine r_aload_n (q := 49) (dc dt_MO_isChosen 31 rfl) rfl rfl 0 rfl ?_
  refine r_getO (q := 52) (v := 102) fl_MO_50 (dc dt_MO_isChosen 32 rfl) rfl ly8 rfl ?_
  refine r_iload (q := 54) (dc dt_MO_isChosen 33 rfl) rfl 8 rfl ?_
  obtain ⟨o8, h⟩ := h
  refine r_iald (q := 55) (v := σ.1 102 v8.toNat) (dc dt_MO_isChosen 34 rfl) rfl ly102 o8 rfl (fun g9 => ?_)
  obtain ⟨o10, h⟩ := h
  refine r_icmp_gt (q := 58) (t := 180) (dc dt_MO_isChosen 35 rfl) rfl (by decide) o10 g9 (fun q_ => ?_) (fun q_ => ?_)
  · have h := h.1 q_
    refine r_iinc (q := 183) (k := 7) (dc dt_MO_isChosen 103 rfl) rfl rfl (by decide) rfl ?_
    refine r_goto (q := 17) (dc dt_MO_isChosen 104 rfl) (by decide) ?_
    exact r_loc [1, 2, 3, 4, 5, 6, 7, 0] rfl h
  · have h := h.2 q_
    refine r_aload_n (q := 59) (dc dt_MO_isChosen 36 rfl) rfl rfl 0 rfl ?_
    refine r_getO (q := 62) (v := 97) fl_MO_35 (dc dt_MO_isChosen 37 rfl) rfl ly8 rfl ?_
    refine r_iload (q := 64) (dc dt_MO_isChosen 38 rfl) rfl 8 rfl ?_
    refine r_iald (q := 65) (v := σ.1 97 v8.toNat) (dc dt_MO_isChosen 39 rfl) rfl ly97 o8 rfl (fun g11 => ?_)
    refine r_iload (q := 67) (dc dt_MO_isChosen 40 rfl) rfl 9 rfl ?_
    refine r_iadd (q := 68) (dc dt_MO_isChosen 41 rfl) rfl ?_
    refine r_iload (q := 70) (dc dt_MO_isChosen 42 rfl) rfl 4 rfl ?_
    obtain ⟨o12, h⟩ := h
    obtain ⟨o13, h⟩ := h
    refine r_icmp_gt (q := 73) (t := 180) (dc dt_MO_isChosen 43 rfl) rfl (by decide) o12 o13 (fun q_ => ?_) (fun q_ => ?_)
    · have h := h.1 q_
      refine r_iinc (q := 183) (k := 7) (dc dt_MO_isChosen 103 rfl) rfl rfl (by decide) rfl ?_
      refine r_goto (q := 17) (dc dt_MO_isChosen 104 rfl) (by decide) ?_
      exact r_loc [1, 2, 3, 4, 5, 6, 7, 0] rfl h
    · have h := h.2 q_
      refine r_aload_n (q := 74) (dc dt_MO_isChosen 44 rfl) rfl rfl 0 rfl ?_
      refine r_iload_n (q := 75) (dc dt_MO_isChosen 45 rfl) rfl rfl 1 rfl ?_
      refine r_iload (q := 77) (dc dt_MO_isChosen 46 rfl) rfl 5 rfl ?_
      refine r_iload_n (q := 78) (dc dt_MO_isChosen 47 rfl) rfl rfl 3 rfl ?_
      refine r_iload (q := 80) (dc dt_MO_isChosen 48 rfl) rfl 9 rfl ?_
      obtain ⟨o14, h⟩ := h
      refine r_callVi (q := 83) mk_MO_stateBehind lm_MO_391 (RMO.of rfl) rfl (dc dt_MO_isChosen 49 rfl) rfl ly8 [I v1, I v5, I v3, I v9] [] rfl rfl (Nat.le_of_ble_eq_true rfl) (sp_MO_stateBehind o14) (fun _ _ g15 z => ?_)
      obtain ⟨z, w⟩ := z
      subst z
      replace w := w.symm
      subst w
      refine r_istore (q := 85) (dc dt_MO_isChosen 50 rfl) rfl (by decide) rfl ?_
      refine r_iload (q := 87) (dc dt_MO_isChosen 51 rfl) rfl 0 rfl ?_
      refine r_if_lt (q := 90) (t := 174) (dc dt_MO_isChosen 52 rfl) rfl (by decide) g15 (fun q_ => ?_) (fun q_ => ?_)
      · have h := h.1 q_
        refine r_iinc (q := 177) (k := 10) (dc dt_MO_isChosen 101 rfl) rfl rfl (by decide) rfl ?_
        refine r_goto (q := 46) (dc dt_MO_isChosen 102 rfl) (by decide) ?_
        exact r_loc [2, 3, 4, 5, 6, 7, 8, 9, 10, 0] rfl h
      · have h := h.2 q_
        refine r_aload_n (q := 91) (dc dt_MO_isChosen 53 rfl) rfl rfl 1 rfl ?_
        refine r_getO (q := 94) (v := 124) fl_MO_117 (dc dt_MO_isChosen 54 rfl) rfl ly8 rfl ?_
        refine r_iload_n (q := 95) (dc dt_MO_isChosen 55 rfl) rfl rfl 3 rfl ?_
        refine r_iload (q := 97) (dc dt_MO_isChosen 56 rfl) rfl 5 rfl ?_
        refine r_aload_n (q := 98) (dc dt_MO_isChosen 57 rfl) rfl rfl 1 rfl ?_
        refine r_getO (q := 101) (v := 97) fl_MO_35 (dc dt_MO_isChosen 58 rfl) rfl ly8 rfl ?_
        refine r_iload (q := 103) (dc dt_MO_isChosen 59 rfl) rfl 9 rfl ?_
        refine r_iald (q := 104) (v := σ.1 97 v8.toNat) (dc dt_MO_isChosen 60 rfl) rfl ly97 o8 rfl (fun g16 => ?_)
        refine r_isub (q := 105) (dc dt_MO_isChosen 61 rfl) rfl ?_
        refine r_iload (q := 107) (dc dt_MO_isChosen 62 rfl) rfl 10 rfl ?_
        refine r_isub (q := 108) (dc dt_MO_isChosen 63 rfl) rfl ?_
        refine r_iload (q := 110) (dc dt_MO_isChosen 64 rfl) rfl 0 rfl ?_
        obtain ⟨o17, h⟩ := h
        refine r_callSi (q := 113) mk_MO_at lm_MO_372 (RMO.of rfl) rfl (dc dt_MO_isChosen 65 rfl) rfl [I v2, I ((v4 - (σ.1 97 v8.toNat)) - v9), I (f_MO_stateBehind σ v1 v5 v3 v9)] [O 124] rfl rfl (Nat.le_of_ble_eq_true rfl) (sp_MO_at o17) (fun _ _ g18 z => ?_)
        obtain ⟨z, w⟩ := z
        subst z
        replace w := w.symm
        subst w
        obtain ⟨o19, h⟩ := h
        refine r_iald (q := 114) (v := σ.1 124 (((((v2 * 301) + ((v4 - (σ.1 97 v8.toNat)) - v9)) * 4) + (f_MO_stateBehind σ v1 v5 v3 v9)).toNat)) (dc dt_MO_isChosen 66 rfl) rfl ly124 o19 rfl (fun g20 => ?_)
        refine r_aload_n (q := 115) (dc dt_MO_isChosen 67 rfl) rfl rfl 1 rfl ?_
        refine r_getO (q := 118) (v := 100) fl_MO_44 (dc dt_MO_isChosen 68 rfl) rfl ly8 rfl ?_
        refine r_iload (q := 120) (dc dt_MO_isChosen 69 rfl) rfl 9 rfl ?_
        refine r_iald (q := 121) (v := σ.1 100 v8.toNat) (dc dt_MO_isChosen 70 rfl) rfl ly100 o8 rfl (fun g21 => ?_)
        refine r_aload_n (q := 122) (dc dt_MO_isChosen 71 rfl) rfl rfl 1 rfl ?_
        refine r_getO (q := 125) (v := 103) fl_MO_53 (dc dt_MO_isChosen 72 rfl) rfl ly8 rfl ?_
        refine r_iload (q := 127) (dc dt_MO_isChosen 73 rfl) rfl 9 rfl ?_
        refine r_iald (q := 128) (v := σ.1 103 v8.toNat) (dc dt_MO_isChosen 74 rfl) rfl ly103 o8 rfl (fun g22 => ?_)
        refine r_iload (q := 130) (dc dt_MO_isChosen 75 rfl) rfl 10 rfl ?_
        obtain ⟨o23, h⟩ := h
        refine r_callSi (q := 133) mk_MO_cost lm_MO_388 (RMO.of rfl) rfl (dc dt_MO_isChosen 76 rfl) rfl [I (σ.1 100 v8.toNat), I (σ.1 103 v8.toNat), I v9] [I (σ.1 124 (((((v2 * 301) + ((v4 - (σ.1 97 v8.toNat)) - v9)) * 4) + (f_MO_stateBehind σ v1 v5 v3 v9)).toNat))] rfl rfl (Nat.le_of_ble_eq_true rfl) (sp_MO_cost o23) (fun _ _ g24 z => ?_)
        obtain ⟨z, w⟩ := z
        subst z
        replace w := w.symm
        subst w
        refine r_iadd (q := 134) (dc dt_MO_isChosen 77 rfl) rfl ?_
        refine r_aload_n (q := 135) (dc dt_MO_isChosen 78 rfl) rfl rfl 1 rfl ?_
        refine r_getO (q := 138) (v := 124) fl_MO_117 (dc dt_MO_isChosen 79 rfl) rfl ly8 rfl ?_
        refine r_iload_n (q := 139) (dc dt_MO_isChosen 80 rfl) rfl rfl 2 rfl ?_
        refine r_iload (q := 141) (dc dt_MO_isChosen 81 rfl) rfl 5 rfl ?_
        refine r_iload (q := 143) (dc dt_MO_isChosen 82 rfl) rfl 6 rfl ?_
        obtain ⟨o25, h⟩ := h
        refine r_callSi (q := 146) mk_MO_at lm_MO_372 (RMO.of rfl) rfl (dc dt_MO_isChosen 83 rfl) rfl [I v1, I v4, I v5] [O 124, I ((σ.1 124 (((((v2 * 301) + ((v4 - (σ.1 97 v8.toNat)) - v9)) * 4) + (f_MO_stateBehind σ v1 v5 v3 v9)).toNat)) + ((σ.1 100 v8.toNat) + (((σ.1 103 v8.toNat) * v9) * v9)))] rfl rfl (Nat.le_of_ble_eq_true rfl) (sp_MO_at o25) (fun _ _ g26 z => ?_)
        obtain ⟨z, w⟩ := z
        subst z
        replace w := w.symm
        subst w
        obtain ⟨o27, h⟩ := h
        refine r_iald (q := 147) (v := σ.1 124 (((((v1 * 301) + v4) * 4) + v5).toNat)) (dc dt_MO_isChosen 84 rfl) rfl ly124 o27 rfl (fun g28 => ?_)
        obtain ⟨o29, h⟩ := h
        refine r_icmp_ne (q := 150) (t := 174) (dc dt_MO_isChosen 85 rfl) rfl (by decide) o29 g28 (fun q_ => ?_) (fun q_ => ?_)
        · have h := h.1 q_
          refine r_iinc (q := 177) (k := 10) (dc dt_MO_isChosen 101 rfl) rfl rfl (by decide) rfl ?_
          refine r_goto (q := 46) (dc dt_MO_isChosen 102 rfl) (by decide) ?_
          exact r_loc [2, 3, 4, 5, 6, 7, 8, 9, 10, 0] rfl h
        · have h := h.2 q_
          refine r_aload_n (q := 151) (dc dt_MO_isChosen 86 rfl) rfl rfl 1 rfl ?_
          refine r_iload_n (q := 152) (dc dt_MO_isChosen 87 rfl) rfl rfl 2 rfl ?_
          refine r_iload_n (q := 153) (dc dt_MO_isChosen 88 rfl) rfl rfl 3 rfl ?_
          refine r_iload_n (q := 154) (dc dt_MO_isChosen 89 rfl) rfl rfl 4 rfl ?_
          refine r_iload (q := 156) (dc dt_MO_isChosen 90 rfl) rfl 9 rfl ?_
          refine r_iload (q := 158) (dc dt_MO_isChosen 91 rfl) rfl 10 rfl ?_
          refine r_callVv (q := 161) mk_MO_addPiece lm_MO_414 (RMO.of rfl) rfl (dc dt_MO_isChosen 92 rfl) rfl ly8 [I v1, I v2, I v3, I v8, I v9] [] rfl rfl (Nat.le_of_ble_eq_true rfl) h (fun u30 h => ?_)
          refine r_aload_n (q := 162) (dc dt_MO_isChosen 93 rfl) rfl rfl 1 rfl ?_
          refine r_iload_n (q := 163) (dc dt_MO_isChosen 94 rfl) rfl rfl 3 rfl ?_
          obtain ⟨o33, h⟩ := h
          refine r_put (q := 166) fl_MO_418 (dc dt_MO_isChosen 95 rfl) rfl ly8 (fun _ => rfl) (Or.inl rfl) pf_8_66 o33 (fun σ31 e32 => ?_)
          have h := h σ31 e32
          refine r_aload_n (q := 167) (dc dt_MO_isChosen 96 rfl) rfl rfl 1 rfl ?_
          refine r_iload (q := 169) (dc dt_MO_isChosen 97 rfl) rfl 0 rfl ?_
          refine r_put (q := 172) fl_MO_421 (dc dt_MO_isChosen 98 rfl) rfl ly8 (fun _ => rfl) (Or.inl rfl) pf_8_67 g15 (fun σ34 e35 => ?_)
          have h := h σ34 e35
          refine r_iconst (q := 173) (dc dt_MO_isChosen 99 rfl) rfl rfl ?_
          exact r_zret rfl (dc dt_MO_isChosen 100 rfl) (by decide) h
def tb_MO_choose : List (Nat × Instr × Nat) := [(0, .aload_n 0, 1), (1, .iload_n 1, 1), (2, .iload_n 1, 1), (3, .iconst 1, 1), (4, .iadd, 1), (5, .aload_n 0, 1), (6, .getfield 98, 3), (9, .iload_n 1, 1), (10, .iaload, 1), (11, .iload_n 2, 1), (12, .iload_n 3, 1), (13, .invokevirtual 410, 3), (16, .ifCond .eq 4, 3), (19, .return_, 1), (20, .iconst 0, 1), (21, .istore 5, 2), (23, .iload 5, 2), (25, .aload_n 0, 1), (26, .getfield 249, 3), (29, .if_icmp .ge 54, 3), (32, .aload_n 0, 1), (33, .getfield 7, 3), (36, .iload 5, 2), (38, .iaload, 1), (39, .bipush 7, 2), (41, .if_icmp .ne 36, 3), (44, .aload_n 0, 1), (45, .iload 5, 2), (47, .iload_n 1, 1), (48, .iload 4, 2), (50, .invokevirtual 381, 3), (53, .ifCond .eq 24, 3), (56, .aload_n 0, 1), (57, .iload_n 1, 1), (58, .iload_n 1, 1), (59, .aload_n 0, 1), (60, .iload 5, 2), (62, .invokevirtual 357, 3), (65, .iadd, 1), (66, .iload 5, 2), (68, .iload_n 2, 1), (69, .iload_n 3, 1), (70, .invokevirtual 410, 3), (73, .ifCond .eq 4, 3), (76, .return_, 1), (77, .iinc 5 1, 3), (80, .goto (-57), 3), (83, .return_, 1)]
theorem dt_MO_choose : DT (cM m_MO_choose) tb_MO_choose := by unfold DT; decide +kernel
abbrev a_MO_choose_0 (G : GT)  (v1 : Int) (v2 : Int) (v3 : Int) (v4 : Int) (σ : St) (P : Int → St → Prop) : Prop := A G m_MO_choose 0 [(0, O 8), (1, I v1), (2, I v2), (3, I v3), (4, I v4)] [] σ P
abbrev a_MO_choose_23 (G : GT)  (v1 : Int) (v2 : Int) (v3 : Int) (v4 : Int) (v5 : Int) (σ : St) (P : Int → St → Prop) : Prop := A G m_MO_choose 23 [(0, O 8), (1, I v1), (2, I v2), (3, I v3), (4, I v4), (5, I v5)] [] σ P
set_option maxRecDepth 20000 in
theorem k_MO_choose_0 {G : GT} {σ : St} {P : Int → St → Prop}  {v1 : Int} {v2 : Int} {v3 : Int} {v4 : Int}  
    (h : (0 ≤ v1 ∧ v1 < 80) ∧ CJ G m_MO_isChosen [O 8, I v1, I (v1 + 1), I (σ.1 118 v1.toNat), I v2, I v3] σ (fun r4 u3 => (r4 = 0 → a_MO_choose_23 G v1 v2 v3 v4 0 u3 P) ∧ (r4 ≠ 0 → P 0 u3))) :
    a_MO_choose_0 G v1 v2 v3 v4 σ P := by
  refine r_aload_n (q := 1) (dc dt_MO_choose 0 rfl) rfl rfl 0 rfl ?_
  refine r_iload_n (q := 2) (dc dt_MO_choose 1 rfl) rfl rfl 1 rfl ?_
  refine r_iload_n (q := 3) (dc dt_MO_choose 2 rfl) rfl rfl 1 rfl ?_
  refine r_iconst (q := 4) (dc dt_MO_choose 3 rfl) rfl rfl ?_
  refine r_iadd (q := 5) (dc dt_MO_choose 4 rfl) rfl ?_
  refine r_aload_n (q := 6) (dc dt_MO_choose 5 rfl) rfl rfl 0 rfl ?_
  refine r_getO (q := 9) (v := 118) fl_MO_98 (dc dt_MO_choose 6 rfl) rfl ly8 rfl ?_
  refine r_iload_n (q := 10) (dc dt_MO_choose 7 rfl) rfl rfl 1 rfl ?_
  obtain ⟨o1, h⟩ := h
  refine r_iald (q := 11) (v := σ.1 118 v1.toNat) (dc dt_MO_choose 8 rfl) rfl ly118 o1 rfl (fun g2 => ?_)
  refine r_iload_n (q := 12) (dc dt_MO_choose 9 rfl) rfl rfl 2 rfl ?_
  refine r_iload_n (q := 13) (dc dt_MO_choose 10 rfl) rfl rfl 3 rfl ?_
  refine r_callVi (q := 16) mk_MO_isChosen lm_MO_410 (RMO.of rfl) rfl (dc dt_MO_choose 11 rfl) rfl ly8 [I v1, I (v1 + 1), I (σ.1 118 v1.toNat), I v2, I v3] [] rfl rfl (Nat.le_of_ble_eq_true rfl) h (fun r4 u3 g5 h => ?_)
  refine r_if_eq (q := 19) (t := 20) (dc dt_MO_choose 12 rfl) rfl (by decide) g5 (fun q_ => ?_) (fun q_ => ?_)
  · have h := h.1 q_
    refine r_iconst (q := 21) (dc dt_MO_choose 14 rfl) rfl rfl ?_
    refine r_istore (q := 23) (dc dt_MO_choose 15 rfl) rfl (by decide) rfl ?_
    exact r_loc [1, 2, 3, 4, 5, 0] rfl h
  · have h := h.2 q_
    exact r_vret rfl (dc dt_MO_choose 13 rfl) h
set_option maxRecDepth 20000 in
theorem k_MO_choose_23 {G : GT} {σ : St} {P : Int → St → Prop}  {v1 : Int} {v2 : Int} {v3 : Int} {v4 : Int} {v5 : Int}  
    (h : rng v5 ∧ (σ.2.1 8 6 ≤ v5 → P 0 σ) ∧ (v5 < σ.2.1 8 6 → (0 ≤ v5 ∧ v5 < 60) ∧ (σ.1 89 v5.toNat ≠ 7 → a_MO_choose_23 G v1 v2 v3 v4 (v5 + 1) σ P) ∧ (σ.1 89 v5.toNat = 7 → CJ G m_MO_mayBe [O 8, I v5, I v1, I v4] σ (fun r11 u10 => (r11 = 0 → a_MO_choose_23 G v1 v2 v3 v4 (v5 + 1) u10 P) ∧ (r11 ≠ 0 → rng (if 0 ≤ u10.1 92 v5.toNat then (3 : Int) else (2 : Int)) ∧ CJ G m_MO_isChosen [O 8, I v1, I (v1 + (if 0 ≤ u10.1 92 v5.toNat then (3 : Int) else (2 : Int))), I v5, I v2, I v3] u10 (fun r16 u15 => (r16 = 0 → a_MO_choose_23 G v1 v2 v3 v4 (v5 + 1) u15 P) ∧ (r16 ≠ 0 → P 0 u15))))))) :
    a_MO_choose_23 G v1 v2 v3 v4 v5 σ P := by
  refine r_iload (q := 25) (dc dt_MO_choose 16 rfl) rfl 5 rfl ?_
  refine r_aload_n (q := 26) (dc dt_MO_choose 17 rfl) rfl rfl 0 rfl ?_
  refine r_getI (q := 29) (v := σ.2.1 8 6) fl_MO_249 (dc dt_MO_choose 18 rfl) rfl ly8 rfl rfl (fun g6 => ?_)
  obtain ⟨o7, h⟩ := h
  refine r_icmp_ge (q := 32) (t := 83) (dc dt_MO_choose 19 rfl) rfl (by decide) o7 g6 (fun q_ => ?_) (fun q_ => ?_)
  · have h := h.1 q_
    exact r_vret rfl (dc dt_MO_choose 47 rfl) h
  · have h := h.2 q_
    refine r_aload_n (q := 33) (dc dt_MO_choose 20 rfl) rfl rfl 0 rfl ?_
    refine r_getO (q := 36) (v := 89) fl_MO_7 (dc dt_MO_choose 21 rfl) rfl ly8 rfl ?_
    refine r_iload (q := 38) (dc dt_MO_choose 22 rfl) rfl 5 rfl ?_
    obtain ⟨o8, h⟩ := h
    refine r_iald (q := 39) (v := σ.1 89 v5.toNat) (dc dt_MO_choose 23 rfl) rfl ly89 o8 rfl (fun g9 => ?_)
    refine r_bipush (q := 41) (dc dt_MO_choose 24 rfl) rfl (by decide) ?_
    refine r_icmp_ne (q := 44) (t := 77) (dc dt_MO_choose 25 rfl) rfl (by decide) g9 (⟨by decide, by decide⟩ : rng 7) (fun q_ => ?_) (fun q_ => ?_)
    · have h := h.1 q_
      refine r_iinc (q := 80) (k := 5) (dc dt_MO_choose 45 rfl) rfl rfl (by decide) rfl ?_
      refine r_goto (q := 23) (dc dt_MO_choose 46 rfl) (by decide) ?_
      exact r_loc [1, 2, 3, 4, 5, 0] rfl h
    · have h := h.2 q_
      refine r_aload_n (q := 45) (dc dt_MO_choose 26 rfl) rfl rfl 0 rfl ?_
      refine r_iload (q := 47) (dc dt_MO_choose 27 rfl) rfl 5 rfl ?_
      refine r_iload_n (q := 48) (dc dt_MO_choose 28 rfl) rfl rfl 1 rfl ?_
      refine r_iload (q := 50) (dc dt_MO_choose 29 rfl) rfl 4 rfl ?_
      refine r_callVi (q := 53) mk_MO_mayBe lm_MO_381 (RMO.of rfl) rfl (dc dt_MO_choose 30 rfl) rfl ly8 [I v5, I v1, I v4] [] rfl rfl (Nat.le_of_ble_eq_true rfl) h (fun r11 u10 g12 h => ?_)
      refine r_if_eq (q := 56) (t := 77) (dc dt_MO_choose 31 rfl) rfl (by decide) g12 (fun q_ => ?_) (fun q_ => ?_)
      · have h := h.1 q_
        refine r_iinc (q := 80) (k := 5) (dc dt_MO_choose 45 rfl) rfl rfl (by decide) rfl ?_
        refine r_goto (q := 23) (dc dt_MO_choose 46 rfl) (by decide) ?_
        exact r_loc [1, 2, 3, 4, 5, 0] rfl h
      · have h := h.2 q_
        refine r_aload_n (q := 57) (dc dt_MO_choose 32 rfl) rfl rfl 0 rfl ?_
        refine r_iload_n (q := 58) (dc dt_MO_choose 33 rfl) rfl rfl 1 rfl ?_
        refine r_iload_n (q := 59) (dc dt_MO_choose 34 rfl) rfl rfl 1 rfl ?_
        refine r_aload_n (q := 60) (dc dt_MO_choose 35 rfl) rfl rfl 0 rfl ?_
        refine r_iload (q := 62) (dc dt_MO_choose 36 rfl) rfl 5 rfl ?_
        obtain ⟨o13, h⟩ := h
        refine r_callVi (q := 65) mk_MO_howManyOf lm_MO_357 (RMO.of rfl) rfl (dc dt_MO_choose 37 rfl) rfl ly8 [I v5] [I v1, I v1, O 8] rfl rfl (Nat.le_of_ble_eq_true rfl) (sp_MO_howManyOf o8 o13) (fun _ _ g14 z => ?_)
        obtain ⟨z, w⟩ := z
        subst z
        replace w := w.symm
        subst w
        refine r_iadd (q := 66) (dc dt_MO_choose 38 rfl) rfl ?_
        refine r_iload (q := 68) (dc dt_MO_choose 39 rfl) rfl 5 rfl ?_
        refine r_iload_n (q := 69) (dc dt_MO_choose 40 rfl) rfl rfl 2 rfl ?_
        refine r_iload_n (q := 70) (dc dt_MO_choose 41 rfl) rfl rfl 3 rfl ?_
        refine r_callVi (q := 73) mk_MO_isChosen lm_MO_410 (RMO.of rfl) rfl (dc dt_MO_choose 42 rfl) rfl ly8 [I v1, I (v1 + (if 0 ≤ u10.1 92 v5.toNat then (3 : Int) else (2 : Int))), I v5, I v2, I v3] [] rfl rfl (Nat.le_of_ble_eq_true rfl) h (fun r16 u15 g17 h => ?_)
        refine r_if_eq (q := 76) (t := 77) (dc dt_MO_choose 43 rfl) rfl (by decide) g17 (fun q_ => ?_) (fun q_ => ?_)
        · have h := h.1 q_
          refine r_iinc (q := 80) (k := 5) (dc dt_MO_choose 45 rfl) rfl rfl (by decide) rfl ?_
          refine r_goto (q := 23) (dc dt_MO_choose 46 rfl) (by decide) ?_
          exact r_loc [1, 2, 3, 4, 5, 0] rfl h
        · have h := h.2 q_
          exact r_vret rfl (dc dt_MO_choose 44 rfl) h
def tb_MO_cross : List (Nat × Instr × Nat) := [(0, .iload_n 0, 1), (1, .iload_n 3, 1), (2, .if_icmp .ge 12, 3), (5, .iload_n 2, 1), (6, .iload_n 1, 1), (7, .if_icmp .ge 7, 3), (10, .iconst 1, 1), (11, .goto 4, 3), (14, .iconst 0, 1), (15, .ireturn, 1)]
theorem dt_MO_cross : DT (cM m_MO_cross) tb_MO_cross := by unfold DT; decide +kernel
abbrev a_MO_cross_0 (G : GT)  (v0 : Int) (v1 : Int) (v2 : Int) (v3 : Int) (σ : St) (P : Int → St → Prop) : Prop := A G m_MO_cross 0 [(0, I v0), (1, I v1), (2, I v2), (3, I v3)] [] σ P
set_option maxRecDepth 20000 in
theorem k_MO_cross_0 {G : GT} {σ : St} {P : Int → St → Prop}  {v0 : Int} {v1 : Int} {v2 : Int} {v3 : Int}  
    (h : rng v0 ∧ rng v3 ∧ ((v0 < v3 → rng v2 ∧ rng v1)) ∧ P (if v0 < v3 ∧ v2 < v1 then 1 else 0) σ) :
    a_MO_cross_0 G v0 v1 v2 v3 σ P := by
  refine r_iload_n (q := 1) (dc dt_MO_cross 0 rfl) rfl rfl 0 rfl ?_
  refine r_iload_n (q := 2) (dc dt_MO_cross 1 rfl) rfl rfl 3 rfl ?_
  obtain ⟨o1, h⟩ := h
  obtain ⟨o2, h⟩ := h
  obtain ⟨ho, h⟩ := h
  have hJ : ∀ (w_0 : Int), w_0 = (if v0 < v3 ∧ v2 < v1 then 1 else 0) → A G m_MO_cross 15 [(0, I v0), (1, I v1), (2, I v2), (3, I v3)] [I w_0] σ P := by
    intro w_0 z_0
    subst z_0
    exact r_zret rfl (dc dt_MO_cross 9 rfl) b01_or h
  clear h
  refine r_icmp_ge (q := 5) (t := 14) (dc dt_MO_cross 2 rfl) rfl (by decide) o1 o2 (fun q_ => ?_) (fun q_ => ?_)
  · have q5 := q_
    refine r_iconst (q := 15) (dc dt_MO_cross 8 rfl) rfl rfl ?_
    exact (hJ 0 ((if_neg (by first | omega | grind)).symm))
  · have q5 := q_
    have ho := ho q_
    refine r_iload_n (q := 6) (dc dt_MO_cross 3 rfl) rfl rfl 2 rfl ?_
    refine r_iload_n (q := 7) (dc dt_MO_cross 4 rfl) rfl rfl 1 rfl ?_
    obtain ⟨o3, ho⟩ := ho
    have o4 := ho
    refine r_icmp_ge (q := 10) (t := 14) (dc dt_MO_cross 5 rfl) rfl (by decide) o3 o4 (fun q_ => ?_) (fun q_ => ?_)
    · have q6 := q_
      refine r_iconst (q := 15) (dc dt_MO_cross 8 rfl) rfl rfl ?_
      exact (hJ 0 ((if_neg (by first | omega | grind)).symm))
    · have q6 := q_
      refine r_iconst (q := 11) (dc dt_MO_cross 6 rfl) rfl rfl ?_
      refine r_goto (q := 15) (dc dt_MO_cross 7 rfl) (by decide) ?_
      exact (hJ 1 ((if_pos (by first | omega | grind)).symm))
set_option maxRecDepth 20000 in
theorem sp_MO_cross {G : GT} {σ : St} {v0 : Int} {v1 : Int} {v2 : Int} {v3 : Int}  (j0 : rng v0) (j1 : rng v3) (j2 : (v0 < v3 → rng v2 ∧ rng v1)) : CJ G m_MO_cross [I v0, I v1, I v2, I v3] σ (fun r u => r = (if v0 < v3 ∧ v2 < v1 then 1 else 0) ∧ u = σ) := by
  refine CJ.intro (by decide) (by simp [catA]; decide) (fun _ => k_MO_cross_0  ?_)
  refine ⟨by first | assumption | omega | grind, ?_⟩
  refine ⟨by first | assumption | omega | grind, ?_⟩
  refine ⟨by first | assumption | omega | grind, ?_⟩
  exact ⟨rfl, rfl⟩
def tb_MO_touches : List (Nat × Instr × Nat) := [(0, .iconst 0, 1), (1, .istore 5, 2), (3, .iconst 0, 1), (4, .istore 6, 2), (6, .iload 6, 2), (8, .aload_n 0, 1), (9, .getfield 395, 3), (12, .if_icmp .ge 110, 3), (15, .iload 5, 2), (17, .ifCond .ne 105, 3), (20, .aload_n 0, 1), (21, .getfield 129, 3), (24, .iload 6, 2), (26, .iaload, 1), (27, .istore 7, 2), (29, .aload_n 0, 1), (30, .getfield 38, 3), (33, .iload 7, 2), (35, .iaload, 1), (36, .aload_n 0, 1), (37, .getfield 41, 3), (40, .iload 7, 2), (42, .iaload, 1), (43, .iadd, 1), (44, .ifCond .le 69, 3), (47, .iload_n 1, 1), (48, .iload_n 2, 1), (49, .aload_n 0, 1), (50, .getfield 138, 3), (53, .iload 6, 2), (55, .iaload, 1), (56, .aload_n 0, 1), (57, .getfield 138, 3), (60, .iload 6, 2), (62, .iaload, 1), (63, .aload_n 0, 1), (64, .getfield 35, 3), (67, .iload 7, 2), (69, .iaload, 1), (70, .iadd, 1), (71, .aload_n 0, 1), (72, .getfield 132, 3), (75, .iload 6, 2), (77, .iaload, 1), (78, .iadd, 1), (79, .invokestatic 442, 3), (82, .ifCond .eq 31, 3), (85, .iload_n 3, 1), (86, .iload 4, 2), (88, .aload_n 0, 1), (89, .getfield 41, 3), (92, .iload 7, 2), (94, .iaload, 1), (95, .ineg, 1), (96, .aload_n 0, 1), (97, .getfield 38, 3), (100, .iload 7, 2), (102, .iaload, 1), (103, .invokestatic 442, 3), (106, .ifCond .eq 7, 3), (109, .iconst 1, 1), (110, .goto 4, 3), (113, .iconst 0, 1), (114, .istore 5, 2), (116, .iinc 6 1, 3), (119, .goto (-113), 3), (122, .iconst 0, 1), (123, .istore 6, 2), (125, .iload 6, 2), (127, .aload_n 0, 1), (128, .getfield 446, 3), (131, .if_icmp .ge 110, 3), (134, .iload 5, 2), (136, .ifCond .ne 105, 3), (139, .aload_n 0, 1), (140, .getfield 35, 3), (143, .aload_n 0, 1), (144, .aload_n 0, 1), (145, .getfield 62, 3), (148, .aload_n 0, 1), (149, .getfield 144, 3), (152, .iload 6, 2), (154, .iaload, 1), (155, .iaload, 1), (156, .iconst 0, 1), (157, .invokevirtual 369, 3), (160, .iaload, 1), (161, .istore 7, 2), (163, .aload_n 0, 1), (164, .getfield 156, 3), (167, .iload 6, 2), (169, .iaload, 1), (170, .aload_n 0, 1), (171, .getfield 153, 3), (174, .iload 6, 2), (176, .iaload, 1), (177, .if_icmp .le 55, 3), (180, .iload_n 1, 1), (181, .iload_n 2, 1), (182, .aload_n 0, 1), (183, .getfield 150, 3), (186, .iload 6, 2), (188, .iaload, 1), (189, .aload_n 0, 1), (190, .getfield 150, 3), (193, .iload 6, 2), (195, .iaload, 1), (196, .iload 7, 2), (198, .iadd, 1), (199, .invokestatic 442, 3), (202, .ifCond .eq 30, 3), (205, .iload_n 3, 1), (206, .iload 4, 2), (208, .aload_n 0, 1), (209, .getfield 153, 3), (212, .iload 6, 2), (214, .iaload, 1), (215, .aload_n 0, 1), (216, .getfield 156, 3), (219, .iload 6, 2), (221, .iaload, 1), (222, .invokestatic 442, 3), (225, .ifCond .eq 7, 3), (228, .iconst 1, 1), (229, .goto 4, 3), (232, .iconst 0, 1), (233, .istore 5, 2), (235, .iinc 6 1, 3), (238, .goto (-113), 3), (241, .iload 5, 2), (243, .ireturn, 1)]
theorem dt_MO_touches : DT (cM m_MO_touches) tb_MO_touches := by unfold DT; decide +kernel
abbrev a_MO_touches_0 (G : GT)  (v1 : Int) (v2 : Int) (v3 : Int) (v4 : Int) (σ : St) (P : Int → St → Prop) : Prop := A G m_MO_touches 0 [(0, O 8), (1, I v1), (2, I v2), (3, I v3), (4, I v4)] [] σ P
abbrev a_MO_touches_6 (G : GT)  (v1 : Int) (v2 : Int) (v3 : Int) (v4 : Int) (v5 : Int) (v6 : Int) (σ : St) (P : Int → St → Prop) : Prop := A G m_MO_touches 6 [(0, O 8), (1, I v1), (2, I v2), (3, I v3), (4, I v4), (5, I v5), (6, I v6)] [] σ P
abbrev a_MO_touches_125 (G : GT)  (v1 : Int) (v2 : Int) (v3 : Int) (v4 : Int) (v5 : Int) (v6 : Int) (σ : St) (P : Int → St → Prop) : Prop := A G m_MO_touches 125 [(0, O 8), (1, I v1), (2, I v2), (3, I v3), (4, I v4), (5, I v5), (6, I v6)] [] σ P
set_option maxRecDepth 20000 in
theorem k_MO_touches_0 {G : GT} {σ : St} {P : Int → St → Prop}  {v1 : Int} {v2 : Int} {v3 : Int} {v4 : Int}  
    (h : a_MO_touches_6 G v1 v2 v3 v4 0 0 σ P) :
    a_MO_touches_0 G v1 v2 v3 v4 σ P := by
  refine r_iconst (q := 1) (dc dt_MO_touches 0 rfl) rfl rfl ?_
  refine r_istore (q := 3) (dc dt_MO_touches 1 rfl) rfl (by decide) rfl ?_
  refine r_iconst (q := 4) (dc dt_MO_touches 2 rfl) rfl rfl ?_
  refine r_istore (q := 6) (dc dt_MO_touches 3 rfl) rfl (by decide) rfl ?_
  exact r_loc [2, 3, 4, 5, 6, 1, 0] rfl h
set_option maxRecDepth 20000 in
theorem k_MO_touches_6 {G : GT} {σ : St} {P : Int → St → Prop}  {v1 : Int} {v2 : Int} {v3 : Int} {v4 : Int} {v5 : Int} {v6 : Int}  
    (h : rng v6 ∧ (σ.2.1 8 44 ≤ v6 → a_MO_touches_125 G v1 v2 v3 v4 v5 0 σ P) ∧ (v6 < σ.2.1 8 44 → rng v5 ∧ (v5 ≠ 0 → a_MO_touches_125 G v1 v2 v3 v4 v5 0 σ P) ∧ (v5 = 0 → (0 ≤ v6 ∧ v6 < 80) ∧ (0 ≤ σ.1 128 v6.toNat ∧ σ.1 128 v6.toNat < 200) ∧ rng ((σ.1 98 ((σ.1 128 v6.toNat).toNat)) + (σ.1 99 ((σ.1 128 v6.toNat).toNat))) ∧ ((0 < (σ.1 98 ((σ.1 128 v6.toNat).toNat)) + (σ.1 99 ((σ.1 128 v6.toNat).toNat)) → rng v1 ∧ rng (((σ.1 131 v6.toNat) + (σ.1 97 ((σ.1 128 v6.toNat).toNat))) + (σ.1 129 v6.toNat)) ∧ (v1 < (((σ.1 131 v6.toNat) + (σ.1 97 ((σ.1 128 v6.toNat).toNat))) + (σ.1 129 v6.toNat)) → rng (σ.1 131 v6.toNat) ∧ rng v2) ∧ (v1 < (((σ.1 131 v6.toNat) + (σ.1 97 ((σ.1 128 v6.toNat).toNat))) + (σ.1 129 v6.toNat)) ∧ (σ.1 131 v6.toNat) < v2 → rng v3 ∧ (v3 < (σ.1 98 ((σ.1 128 v6.toNat).toNat)) → rng (-(σ.1 99 ((σ.1 128 v6.toNat).toNat))) ∧ rng v4)))) ∧ a_MO_touches_6 G v1 v2 v3 v4 (if 0 < (σ.1 98 ((σ.1 128 v6.toNat).toNat)) + (σ.1 99 ((σ.1 128 v6.toNat).toNat)) ∧ ((v1 < (((σ.1 131 v6.toNat) + (σ.1 97 ((σ.1 128 v6.toNat).toNat))) + (σ.1 129 v6.toNat)) ∧ (σ.1 131 v6.toNat) < v2) ∧ (v3 < (σ.1 98 ((σ.1 128 v6.toNat).toNat)) ∧ (-(σ.1 99 ((σ.1 128 v6.toNat).toNat))) < v4)) then 1 else 0) (v6 + 1) σ P))) :
    a_MO_touches_6 G v1 v2 v3 v4 v5 v6 σ P := by
  refine r_iload (q := 8) (dc dt_MO_touches 4 rfl) rfl 6 rfl ?_
  refine r_aload_n (q := 9) (dc dt_MO_touches 5 rfl) rfl rfl 0 rfl ?_
  refine r_getI (q := 12) (v := σ.2.1 8 44) fl_MO_395 (dc dt_MO_touches 6 rfl) rfl ly8 rfl rfl (fun g1 => ?_)
  obtain ⟨o2, h⟩ := h
  refine r_icmp_ge (q := 15) (t := 122) (dc dt_MO_touches 7 rfl) rfl (by decide) o2 g1 (fun q_ => ?_) (fun q_ => ?_)
  · have h := h.1 q_
    refine r_iconst (q := 123) (dc dt_MO_touches 66 rfl) rfl rfl ?_
    refine r_istore (q := 125) (dc dt_MO_touches 67 rfl) rfl (by decide) rfl ?_
    exact r_loc [1, 2, 3, 4, 5, 6, 0] rfl h
  · have h := h.2 q_
    refine r_iload (q := 17) (dc dt_MO_touches 8 rfl) rfl 5 rfl ?_
    obtain ⟨o23, h⟩ := h
    refine r_if_ne (q := 20) (t := 122) (dc dt_MO_touches 9 rfl) rfl (by decide) o23 (fun q_ => ?_) (fun q_ => ?_)
    · have h := h.1 q_
      refine r_iconst (q := 123) (dc dt_MO_touches 66 rfl) rfl rfl ?_
      refine r_istore (q := 125) (dc dt_MO_touches 67 rfl) rfl (by decide) rfl ?_
      exact r_loc [1, 2, 3, 4, 5, 6, 0] rfl h
    · have h := h.2 q_
      refine r_aload_n (q := 21) (dc dt_MO_touches 10 rfl) rfl rfl 0 rfl ?_
      refine r_getO (q := 24) (v := 128) fl_MO_129 (dc dt_MO_touches 11 rfl) rfl ly8 rfl ?_
      refine r_iload (q := 26) (dc dt_MO_touches 12 rfl) rfl 6 rfl ?_
      obtain ⟨o43, h⟩ := h
      refine r_iald (q := 27) (v := σ.1 128 v6.toNat) (dc dt_MO_touches 13 rfl) rfl ly128 o43 rfl (fun g44 => ?_)
      refine r_istore (q := 29) (dc dt_MO_touches 14 rfl) rfl (by decide) rfl ?_
      refine r_aload_n (q := 30) (dc dt_MO_touches 15 rfl) rfl rfl 1 rfl ?_
      refine r_getO (q := 33) (v := 98) fl_MO_38 (dc dt_MO_touches 16 rfl) rfl ly8 rfl ?_
      refine r_iload (q := 35) (dc dt_MO_touches 17 rfl) rfl 0 rfl ?_
      obtain ⟨o45, h⟩ := h
      refine r_iald (q := 36) (v := σ.1 98 ((σ.1 128 v6.toNat).toNat)) (dc dt_MO_touches 18 rfl) rfl ly98 o45 rfl (fun g46 => ?_)
      refine r_aload_n (q := 37) (dc dt_MO_touches 19 rfl) rfl rfl 1 rfl ?_
      refine r_getO (q := 40) (v := 99) fl_MO_41 (dc dt_MO_touches 20 rfl) rfl ly8 rfl ?_
      refine r_iload (q := 42) (dc dt_MO_touches 21 rfl) rfl 0 rfl ?_
      refine r_iald (q := 43) (v := σ.1 99 ((σ.1 128 v6.toNat).toNat)) (dc dt_MO_touches 22 rfl) rfl ly99 o45 rfl (fun g47 => ?_)
      refine r_iadd (q := 44) (dc dt_MO_touches 23 rfl) rfl ?_
      obtain ⟨o48, h⟩ := h
      obtain ⟨ho, h⟩ := h
      have hJ : ∀ (w_0 : Int), w_0 = (if 0 < (σ.1 98 ((σ.1 128 v6.toNat).toNat)) + (σ.1 99 ((σ.1 128 v6.toNat).toNat)) ∧ ((v1 < (((σ.1 131 v6.toNat) + (σ.1 97 ((σ.1 128 v6.toNat).toNat))) + (σ.1 129 v6.toNat)) ∧ (σ.1 131 v6.toNat) < v2) ∧ (v3 < (σ.1 98 ((σ.1 128 v6.toNat).toNat)) ∧ (-(σ.1 99 ((σ.1 128 v6.toNat).toNat))) < v4)) then 1 else 0) → A G m_MO_touches 114 [(7, I (σ.1 128 v6.toNat)), (0, O 8), (1, I v1), (2, I v2), (3, I v3), (4, I v4), (5, I v5), (6, I v6)] [I w_0] σ P := by
        intro w_0 z_0
        subst z_0
        refine r_istore (q := 116) (dc dt_MO_touches 63 rfl) rfl (by decide) rfl ?_
        refine r_iinc (q := 119) (k := 7) (dc dt_MO_touches 64 rfl) rfl rfl (by decide) rfl ?_
        refine r_goto (q := 6) (dc dt_MO_touches 65 rfl) (by decide) ?_
        exact r_loc [3, 4, 5, 6, 7, 1, 0] rfl h
      clear h
      refine r_if_le (q := 47) (t := 113) (dc dt_MO_touches 24 rfl) rfl (by decide) o48 (fun q_ => ?_) (fun q_ => ?_)
      · have q131 := q_
        refine r_iconst (q := 114) (dc dt_MO_touches 62 rfl) rfl rfl ?_
        exact (hJ 0 ((if_neg (by first | omega | grind)).symm))
      · have q131 := q_
        have ho := ho q_
        refine r_iload_n (q := 48) (dc dt_MO_touches 25 rfl) rfl rfl 2 rfl ?_
        refine r_iload_n (q := 49) (dc dt_MO_touches 26 rfl) rfl rfl 3 rfl ?_
        refine r_aload_n (q := 50) (dc dt_MO_touches 27 rfl) rfl rfl 1 rfl ?_
        refine r_getO (q := 53) (v := 131) fl_MO_138 (dc dt_MO_touches 28 rfl) rfl ly8 rfl ?_
        refine r_iload (q := 55) (dc dt_MO_touches 29 rfl) rfl 7 rfl ?_
        refine r_iald (q := 56) (v := σ.1 131 v6.toNat) (dc dt_MO_touches 30 rfl) rfl ly131 o43 rfl (fun g49 => ?_)
        refine r_aload_n (q := 57) (dc dt_MO_touches 31 rfl) rfl rfl 1 rfl ?_
        refine r_getO (q := 60) (v := 131) fl_MO_138 (dc dt_MO_touches 32 rfl) rfl ly8 rfl ?_
        refine r_iload (q := 62) (dc dt_MO_touches 33 rfl) rfl 7 rfl ?_
        refine r_iald (q := 63) (v := σ.1 131 v6.toNat) (dc dt_MO_touches 34 rfl) rfl ly131 o43 rfl (fun g50 => ?_)
        refine r_aload_n (q := 64) (dc dt_MO_touches 35 rfl) rfl rfl 1 rfl ?_
        refine r_getO (q := 67) (v := 97) fl_MO_35 (dc dt_MO_touches 36 rfl) rfl ly8 rfl ?_
        refine r_iload (q := 69) (dc dt_MO_touches 37 rfl) rfl 0 rfl ?_
        refine r_iald (q := 70) (v := σ.1 97 ((σ.1 128 v6.toNat).toNat)) (dc dt_MO_touches 38 rfl) rfl ly97 o45 rfl (fun g51 => ?_)
        refine r_iadd (q := 71) (dc dt_MO_touches 39 rfl) rfl ?_
        refine r_aload_n (q := 72) (dc dt_MO_touches 40 rfl) rfl rfl 1 rfl ?_
        refine r_getO (q := 75) (v := 129) fl_MO_132 (dc dt_MO_touches 41 rfl) rfl ly8 rfl ?_
        refine r_iload (q := 77) (dc dt_MO_touches 42 rfl) rfl 7 rfl ?_
        refine r_iald (q := 78) (v := σ.1 129 v6.toNat) (dc dt_MO_touches 43 rfl) rfl ly129 o43 rfl (fun g52 => ?_)
        refine r_iadd (q := 79) (dc dt_MO_touches 44 rfl) rfl ?_
        obtain ⟨o53, ho⟩ := ho
        obtain ⟨o54, ho⟩ := ho
        obtain ⟨o55, ho⟩ := ho
        refine r_callSi (q := 82) mk_MO_cross lm_MO_442 (RMO.of rfl) rfl (dc dt_MO_touches 45 rfl) rfl [I v1, I v2, I (σ.1 131 v6.toNat), I (((σ.1 131 v6.toNat) + (σ.1 97 ((σ.1 128 v6.toNat).toNat))) + (σ.1 129 v6.toNat))] [] rfl rfl (Nat.le_of_ble_eq_true rfl) (sp_MO_cross o53 o54 o55) (fun _ _ g56 z => ?_)
        obtain ⟨z, w⟩ := z
        subst z
        replace w := w.symm
        subst w
        refine r_ifb_eq (q := 85) (t := 113) (dc dt_MO_touches 46 rfl) rfl (by decide) (fun q_ => ?_) (fun q_ => ?_)
        · have q132 := q_
          refine r_iconst (q := 114) (dc dt_MO_touches 62 rfl) rfl rfl ?_
          exact (hJ 0 ((if_neg (by first | omega | grind)).symm))
        · have q132 := q_
          have ho := ho q_
          refine r_iload_n (q := 86) (dc dt_MO_touches 47 rfl) rfl rfl 4 rfl ?_
          refine r_iload (q := 88) (dc dt_MO_touches 48 rfl) rfl 5 rfl ?_
          refine r_aload_n (q := 89) (dc dt_MO_touches 49 rfl) rfl rfl 1 rfl ?_
          refine r_getO (q := 92) (v := 99) fl_MO_41 (dc dt_MO_touches 50 rfl) rfl ly8 rfl ?_
          refine r_iload (q := 94) (dc dt_MO_touches 51 rfl) rfl 0 rfl ?_
          refine r_iald (q := 95) (v := σ.1 99 ((σ.1 128 v6.toNat).toNat)) (dc dt_MO_touches 52 rfl) rfl ly99 o45 rfl (fun g57 => ?_)
          refine r_ineg (q := 96) (dc dt_MO_touches 53 rfl) rfl ?_
          refine r_aload_n (q := 97) (dc dt_MO_touches 54 rfl) rfl rfl 1 rfl ?_
          refine r_getO (q := 100) (v := 98) fl_MO_38 (dc dt_MO_touches 55 rfl) rfl ly8 rfl ?_
          refine r_iload (q := 102) (dc dt_MO_touches 56 rfl) rfl 0 rfl ?_
          refine r_iald (q := 103) (v := σ.1 98 ((σ.1 128 v6.toNat).toNat)) (dc dt_MO_touches 57 rfl) rfl ly98 o45 rfl (fun g58 => ?_)
          obtain ⟨o59, ho⟩ := ho
          have o60 := ho
          refine r_callSi (q := 106) mk_MO_cross lm_MO_442 (RMO.of rfl) rfl (dc dt_MO_touches 58 rfl) rfl [I v3, I v4, I (-(σ.1 99 ((σ.1 128 v6.toNat).toNat))), I (σ.1 98 ((σ.1 128 v6.toNat).toNat))] [] rfl rfl (Nat.le_of_ble_eq_true rfl) (sp_MO_cross o59 g58 o60) (fun _ _ g61 z => ?_)
          obtain ⟨z, w⟩ := z
          subst z
          replace w := w.symm
          subst w
          refine r_ifb_eq (q := 109) (t := 113) (dc dt_MO_touches 59 rfl) rfl (by decide) (fun q_ => ?_) (fun q_ => ?_)
          · have q133 := q_
            refine r_iconst (q := 114) (dc dt_MO_touches 62 rfl) rfl rfl ?_
            exact (hJ 0 ((if_neg (by first | omega | grind)).symm))
          · have q133 := q_
            refine r_iconst (q := 110) (dc dt_MO_touches 60 rfl) rfl rfl ?_
            refine r_goto (q := 114) (dc dt_MO_touches 61 rfl) (by decide) ?_
            exact (hJ 1 ((if_pos (by first | omega | grind)).symm))
set_option maxRecDepth 20000 in
theorem k_MO_touches_125 {G : GT} {σ : St} {P : Int → St → Prop}  {v1 : Int} {v2 : Int} {v3 : Int} {v4 : Int} {v5 : Int} {v6 : Int}  
    (h : rng v6 ∧ (σ.2.1 8 55 ≤ v6 → (v5 = 0 ∨ v5 = 1) ∧ P v5 σ) ∧ (v6 < σ.2.1 8 55 → rng v5 ∧ (v5 ≠ 0 → (v5 = 0 ∨ v5 = 1) ∧ P v5 σ) ∧ (v5 = 0 → (0 ≤ v6 ∧ v6 < 80) ∧ (0 ≤ σ.1 133 v6.toNat ∧ σ.1 133 v6.toNat < 80) ∧ p_MO_plainOf σ (σ.1 106 ((σ.1 133 v6.toNat).toNat)) 0 ∧ (0 ≤ f_MO_plainOf σ (σ.1 106 ((σ.1 133 v6.toNat).toNat)) 0 ∧ f_MO_plainOf σ (σ.1 106 ((σ.1 133 v6.toNat).toNat)) 0 < 200) ∧ ((σ.1 136 v6.toNat < σ.1 137 v6.toNat → rng v1 ∧ rng ((σ.1 135 v6.toNat) + (σ.1 97 ((f_MO_plainOf σ (σ.1 106 ((σ.1 133 v6.toNat).toNat)) 0).toNat))) ∧ (v1 < ((σ.1 135 v6.toNat) + (σ.1 97 ((f_MO_plainOf σ (σ.1 106 ((σ.1 133 v6.toNat).toNat)) 0).toNat))) → rng (σ.1 135 v6.toNat) ∧ rng v2) ∧ (v1 < ((σ.1 135 v6.toNat) + (σ.1 97 ((f_MO_plainOf σ (σ.1 106 ((σ.1 133 v6.toNat).toNat)) 0).toNat))) ∧ (σ.1 135 v6.toNat) < v2 → rng v3 ∧ (v3 < (σ.1 137 v6.toNat) → rng (σ.1 136 v6.toNat) ∧ rng v4)))) ∧ a_MO_touches_125 G v1 v2 v3 v4 (if σ.1 136 v6.toNat < σ.1 137 v6.toNat ∧ ((v1 < ((σ.1 135 v6.toNat) + (σ.1 97 ((f_MO_plainOf σ (σ.1 106 ((σ.1 133 v6.toNat).toNat)) 0).toNat))) ∧ (σ.1 135 v6.toNat) < v2) ∧ (v3 < (σ.1 137 v6.toNat) ∧ (σ.1 136 v6.toNat) < v4)) then 1 else 0) (v6 + 1) σ P))) :
    a_MO_touches_125 G v1 v2 v3 v4 v5 v6 σ P := by
  refine r_iload (q := 127) (dc dt_MO_touches 68 rfl) rfl 6 rfl ?_
  refine r_aload_n (q := 128) (dc dt_MO_touches 69 rfl) rfl rfl 0 rfl ?_
  refine r_getI (q := 131) (v := σ.2.1 8 55) fl_MO_446 (dc dt_MO_touches 70 rfl) rfl ly8 rfl rfl (fun g62 => ?_)
  obtain ⟨o63, h⟩ := h
  refine r_icmp_ge (q := 134) (t := 241) (dc dt_MO_touches 71 rfl) rfl (by decide) o63 g62 (fun q_ => ?_) (fun q_ => ?_)
  · have h := h.1 q_
    refine r_iload (q := 243) (dc dt_MO_touches 129 rfl) rfl 5 rfl ?_
    obtain ⟨o86, h⟩ := h
    exact r_zret rfl (dc dt_MO_touches 130 rfl) o86 h
  · have h := h.2 q_
    refine r_iload (q := 136) (dc dt_MO_touches 72 rfl) rfl 5 rfl ?_
    obtain ⟨o87, h⟩ := h
    refine r_if_ne (q := 139) (t := 241) (dc dt_MO_touches 73 rfl) rfl (by decide) o87 (fun q_ => ?_) (fun q_ => ?_)
    · have h := h.1 q_
      refine r_iload (q := 243) (dc dt_MO_touches 129 rfl) rfl 5 rfl ?_
      obtain ⟨o109, h⟩ := h
      exact r_zret rfl (dc dt_MO_touches 130 rfl) o109 h
    · have h := h.2 q_
      refine r_aload_n (q := 140) (dc dt_MO_touches 74 rfl) rfl rfl 0 rfl ?_
      refine r_getO (q := 143) (v := 97) fl_MO_35 (dc dt_MO_touches 75 rfl) rfl ly8 rfl ?_
      refine r_aload_n (q := 144) (dc dt_MO_touches 76 rfl) rfl rfl 0 rfl ?_
      refine r_aload_n (q := 145) (dc dt_MO_touches 77 rfl) rfl rfl 0 rfl ?_
      refine r_getO (q := 148) (v := 106) fl_MO_62 (dc dt_MO_touches 78 rfl) rfl ly8 rfl ?_
      refine r_aload_n (q := 149) (dc dt_MO_touches 79 rfl) rfl rfl 0 rfl ?_
      refine r_getO (q := 152) (v := 133) fl_MO_144 (dc dt_MO_touches 80 rfl) rfl ly8 rfl ?_
      refine r_iload (q := 154) (dc dt_MO_touches 81 rfl) rfl 6 rfl ?_
      obtain ⟨o110, h⟩ := h
      refine r_iald (q := 155) (v := σ.1 133 v6.toNat) (dc dt_MO_touches 82 rfl) rfl ly133 o110 rfl (fun g111 => ?_)
      obtain ⟨o112, h⟩ := h
      refine r_iald (q := 156) (v := σ.1 106 ((σ.1 133 v6.toNat).toNat)) (dc dt_MO_touches 83 rfl) rfl ly106 o112 rfl (fun g113 => ?_)
      refine r_iconst (q := 157) (dc dt_MO_touches 84 rfl) rfl rfl ?_
      obtain ⟨o114, h⟩ := h
      refine r_callVi (q := 160) mk_MO_plainOf lm_MO_369 (RMO.of rfl) rfl (dc dt_MO_touches 85 rfl) rfl ly8 [I (σ.1 106 ((σ.1 133 v6.toNat).toNat)), I 0] [O 97] rfl rfl (Nat.le_of_ble_eq_true rfl) (sp_MO_plainOf o114) (fun _ _ g115 z => ?_)
      obtain ⟨z, w⟩ := z
      subst z
      replace w := w.symm
      subst w
      obtain ⟨o116, h⟩ := h
      refine r_iald (q := 161) (v := σ.1 97 ((f_MO_plainOf σ (σ.1 106 ((σ.1 133 v6.toNat).toNat)) 0).toNat)) (dc dt_MO_touches 86 rfl) rfl ly97 o116 rfl (fun g117 => ?_)
      refine r_istore (q := 163) (dc dt_MO_touches 87 rfl) rfl (by decide) rfl ?_
      refine r_aload_n (q := 164) (dc dt_MO_touches 88 rfl) rfl rfl 1 rfl ?_
      refine r_getO (q := 167) (v := 137) fl_MO_156 (dc dt_MO_touches 89 rfl) rfl ly8 rfl ?_
      refine r_iload (q := 169) (dc dt_MO_touches 90 rfl) rfl 7 rfl ?_
      refine r_iald (q := 170) (v := σ.1 137 v6.toNat) (dc dt_MO_touches 91 rfl) rfl ly137 o110 rfl (fun g118 => ?_)
      refine r_aload_n (q := 171) (dc dt_MO_touches 92 rfl) rfl rfl 1 rfl ?_
      refine r_getO (q := 174) (v := 136) fl_MO_153 (dc dt_MO_touches 93 rfl) rfl ly8 rfl ?_
      refine r_iload (q := 176) (dc dt_MO_touches 94 rfl) rfl 7 rfl ?_
      refine r_iald (q := 177) (v := σ.1 136 v6.toNat) (dc dt_MO_touches 95 rfl) rfl ly136 o110 rfl (fun g119 => ?_)
      obtain ⟨ho, h⟩ := h
      have hJ : ∀ (w_0 : Int), w_0 = (if σ.1 136 v6.toNat < σ.1 137 v6.toNat ∧ ((v1 < ((σ.1 135 v6.toNat) + (σ.1 97 ((f_MO_plainOf σ (σ.1 106 ((σ.1 133 v6.toNat).toNat)) 0).toNat))) ∧ (σ.1 135 v6.toNat) < v2) ∧ (v3 < (σ.1 137 v6.toNat) ∧ (σ.1 136 v6.toNat) < v4)) then 1 else 0) → A G m_MO_touches 233 [(7, I (σ.1 97 ((f_MO_plainOf σ (σ.1 106 ((σ.1 133 v6.toNat).toNat)) 0).toNat))), (0, O 8), (1, I v1), (2, I v2), (3, I v3), (4, I v4), (5, I v5), (6, I v6)] [I w_0] σ P := by
        intro w_0 z_0
        subst z_0
        refine r_istore (q := 235) (dc dt_MO_touches 126 rfl) rfl (by decide) rfl ?_
        refine r_iinc (q := 238) (k := 7) (dc dt_MO_touches 127 rfl) rfl rfl (by decide) rfl ?_
        refine r_goto (q := 125) (dc dt_MO_touches 128 rfl) (by decide) ?_
        exact r_loc [3, 4, 5, 6, 7, 1, 0] rfl h
      clear h
      refine r_icmp_le (q := 180) (t := 232) (dc dt_MO_touches 96 rfl) rfl (by decide) g118 g119 (fun q_ => ?_) (fun q_ => ?_)
      · have q134 := q_
        refine r_iconst (q := 233) (dc dt_MO_touches 125 rfl) rfl rfl ?_
        exact (hJ 0 ((if_neg (by first | omega | grind)).symm))
      · have q134 := q_
        have ho := ho q_
        refine r_iload_n (q := 181) (dc dt_MO_touches 97 rfl) rfl rfl 2 rfl ?_
        refine r_iload_n (q := 182) (dc dt_MO_touches 98 rfl) rfl rfl 3 rfl ?_
        refine r_aload_n (q := 183) (dc dt_MO_touches 99 rfl) rfl rfl 1 rfl ?_
        refine r_getO (q := 186) (v := 135) fl_MO_150 (dc dt_MO_touches 100 rfl) rfl ly8 rfl ?_
        refine r_iload (q := 188) (dc dt_MO_touches 101 rfl) rfl 7 rfl ?_
        refine r_iald (q := 189) (v := σ.1 135 v6.toNat) (dc dt_MO_touches 102 rfl) rfl ly135 o110 rfl (fun g120 => ?_)
        refine r_aload_n (q := 190) (dc dt_MO_touches 103 rfl) rfl rfl 1 rfl ?_
        refine r_getO (q := 193) (v := 135) fl_MO_150 (dc dt_MO_touches 104 rfl) rfl ly8 rfl ?_
        refine r_iload (q := 195) (dc dt_MO_touches 105 rfl) rfl 7 rfl ?_
        refine r_iald (q := 196) (v := σ.1 135 v6.toNat) (dc dt_MO_touches 106 rfl) rfl ly135 o110 rfl (fun g121 => ?_)
        refine r_iload (q := 198) (dc dt_MO_touches 107 rfl) rfl 0 rfl ?_
        refine r_iadd (q := 199) (dc dt_MO_touches 108 rfl) rfl ?_
        obtain ⟨o122, ho⟩ := ho
        obtain ⟨o123, ho⟩ := ho
        obtain ⟨o124, ho⟩ := ho
        refine r_callSi (q := 202) mk_MO_cross lm_MO_442 (RMO.of rfl) rfl (dc dt_MO_touches 109 rfl) rfl [I v1, I v2, I (σ.1 135 v6.toNat), I ((σ.1 135 v6.toNat) + (σ.1 97 ((f_MO_plainOf σ (σ.1 106 ((σ.1 133 v6.toNat).toNat)) 0).toNat)))] [] rfl rfl (Nat.le_of_ble_eq_true rfl) (sp_MO_cross o122 o123 o124) (fun _ _ g125 z => ?_)
        obtain ⟨z, w⟩ := z
        subst z
        replace w := w.symm
        subst w
        refine r_ifb_eq (q := 205) (t := 232) (dc dt_MO_touches 110 rfl) rfl (by decide) (fun q_ => ?_) (fun q_ => ?_)
        · have q135 := q_
          refine r_iconst (q := 233) (dc dt_MO_touches 125 rfl) rfl rfl ?_
          exact (hJ 0 ((if_neg (by first | omega | grind)).symm))
        · have q135 := q_
          have ho := ho q_
          refine r_iload_n (q := 206) (dc dt_MO_touches 111 rfl) rfl rfl 4 rfl ?_
          refine r_iload (q := 208) (dc dt_MO_touches 112 rfl) rfl 5 rfl ?_
          refine r_aload_n (q := 209) (dc dt_MO_touches 113 rfl) rfl rfl 1 rfl ?_
          refine r_getO (q := 212) (v := 136) fl_MO_153 (dc dt_MO_touches 114 rfl) rfl ly8 rfl ?_
          refine r_iload (q := 214) (dc dt_MO_touches 115 rfl) rfl 7 rfl ?_
          refine r_iald (q := 215) (v := σ.1 136 v6.toNat) (dc dt_MO_touches 116 rfl) rfl ly136 o110 rfl (fun g126 => ?_)
          refine r_aload_n (q := 216) (dc dt_MO_touches 117 rfl) rfl rfl 1 rfl ?_
          refine r_getO (q := 219) (v := 137) fl_MO_156 (dc dt_MO_touches 118 rfl) rfl ly8 rfl ?_
          refine r_iload (q := 221) (dc dt_MO_touches 119 rfl) rfl 7 rfl ?_
          refine r_iald (q := 222) (v := σ.1 137 v6.toNat) (dc dt_MO_touches 120 rfl) rfl ly137 o110 rfl (fun g127 => ?_)
          obtain ⟨o128, ho⟩ := ho
          have o129 := ho
          refine r_callSi (q := 225) mk_MO_cross lm_MO_442 (RMO.of rfl) rfl (dc dt_MO_touches 121 rfl) rfl [I v3, I v4, I (σ.1 136 v6.toNat), I (σ.1 137 v6.toNat)] [] rfl rfl (Nat.le_of_ble_eq_true rfl) (sp_MO_cross o128 g127 o129) (fun _ _ g130 z => ?_)
          obtain ⟨z, w⟩ := z
          subst z
          replace w := w.symm
          subst w
          refine r_ifb_eq (q := 228) (t := 232) (dc dt_MO_touches 122 rfl) rfl (by decide) (fun q_ => ?_) (fun q_ => ?_)
          · have q136 := q_
            refine r_iconst (q := 233) (dc dt_MO_touches 125 rfl) rfl rfl ?_
            exact (hJ 0 ((if_neg (by first | omega | grind)).symm))
          · have q136 := q_
            refine r_iconst (q := 229) (dc dt_MO_touches 123 rfl) rfl rfl ?_
            refine r_goto (q := 233) (dc dt_MO_touches 124 rfl) (by decide) ?_
            exact (hJ 1 ((if_pos (by first | omega | grind)).symm))
def tb_MO_layMark : List (Nat × Instr × Nat) := [(0, .aload_n 0, 1), (1, .aload_n 0, 1), (2, .getfield 62, 3), (5, .iload_n 1, 1), (6, .iaload, 1), (7, .iconst 0, 1), (8, .invokevirtual 369, 3), (11, .istore_n 3, 1), (12, .aload_n 0, 1), (13, .getfield 138, 3), (16, .iload_n 2, 1), (17, .iaload, 1), (18, .aload_n 0, 1), (19, .getfield 47, 3), (22, .aload_n 0, 1), (23, .getfield 129, 3), (26, .iload_n 2, 1), (27, .iaload, 1), (28, .iaload, 1), (29, .iadd, 1), (30, .aload_n 0, 1), (31, .getfield 35, 3), (34, .iload_n 3, 1), (35, .iaload, 1), (36, .iconst 2, 1), (37, .idiv, 1), (38, .isub, 1), (39, .istore 4, 2), (41, .aload_n 0, 1), (42, .getfield 7, 3), (45, .aload_n 0, 1), (46, .getfield 62, 3), (49, .iload_n 1, 1), (50, .iaload, 1), (51, .iaload, 1), (52, .iconst 3, 1), (53, .if_icmp .ne 7, 3), (56, .iconst 1, 1), (57, .goto 4, 3), (60, .iconst 0, 1), (61, .istore 5, 2), (63, .iload 5, 2), (65, .ifCond .eq 17, 3), (68, .aload_n 0, 1), (69, .getfield 38, 3), (72, .aload_n 0, 1), (73, .getfield 129, 3), (76, .iload_n 2, 1), (77, .iaload, 1), (78, .iaload, 1), (79, .goto 15, 3), (82, .aload_n 0, 1), (83, .getfield 41, 3), (86, .aload_n 0, 1), (87, .getfield 129, 3), (90, .iload_n 2, 1), (91, .iaload, 1), (92, .iaload, 1), (93, .ineg, 1), (94, .istore 6, 2), (96, .iconst 0, 1), (97, .istore 7, 2), (99, .iload 7, 2), (101, .aload_n 0, 1), (102, .getfield 446, 3), (105, .if_icmp .ge 75, 3), (108, .aload_n 0, 1), (109, .getfield 147, 3), (112, .iload 7, 2), (114, .iaload, 1), (115, .iload_n 2, 1), (116, .if_icmp .ne 58, 3), (119, .aload_n 0, 1), (120, .getfield 7, 3), (123, .aload_n 0, 1), (124, .getfield 62, 3), (127, .aload_n 0, 1), (128, .getfield 144, 3), (131, .iload 7, 2), (133, .iaload, 1), (134, .iaload, 1), (135, .iaload, 1), (136, .aload_n 0, 1), (137, .getfield 7, 3), (140, .aload_n 0, 1), (141, .getfield 62, 3), (144, .iload_n 1, 1), (145, .iaload, 1), (146, .iaload, 1), (147, .if_icmp .ne 27, 3), (150, .iload 5, 2), (152, .ifCond .eq 13, 3), (155, .aload_n 0, 1), (156, .getfield 156, 3), (159, .iload 7, 2), (161, .iaload, 1), (162, .goto 10, 3), (165, .aload_n 0, 1), (166, .getfield 153, 3), (169, .iload 7, 2), (171, .iaload, 1), (172, .istore 6, 2), (174, .iinc 7 1, 3), (177, .goto (-78), 3), (180, .iload 5, 2), (182, .ifCond .eq 8, 3), (185, .iload 6, 2), (187, .goto 12, 3), (190, .iload 6, 2), (192, .aload_n 0, 1), (193, .getfield 38, 3), (196, .iload_n 3, 1), (197, .iaload, 1), (198, .isub, 1), (199, .istore 7, 2), (201, .iconst 0, 1), (202, .istore 8, 2), (204, .iload 8, 2), (206, .sipush 300, 3), (209, .if_icmp .ge 62, 3), (212, .aload_n 0, 1), (213, .getfield 38, 3), (216, .iload_n 3, 1), (217, .iaload, 1), (218, .ifCond .le 53, 3), (221, .aload_n 0, 1), (222, .iload 4, 2), (224, .iload 4, 2), (226, .aload_n 0, 1), (227, .getfield 35, 3), (230, .iload_n 3, 1), (231, .iaload, 1), (232, .iadd, 1), (233, .iload 7, 2), (235, .iload 7, 2), (237, .aload_n 0, 1), (238, .getfield 38, 3), (241, .iload_n 3, 1), (242, .iaload, 1), (243, .iadd, 1), (244, .invokevirtual 458, 3), (247, .ifCond .eq 24, 3), (250, .iload 7, 2), (252, .iload 5, 2), (254, .ifCond .eq 7, 3), (257, .iconst 1, 1), (258, .goto 4, 3), (261, .iconst (-1), 1), (262, .iadd, 1), (263, .istore 7, 2), (265, .iinc 8 1, 3), (268, .goto (-64), 3), (271, .aload_n 0, 1), (272, .getfield 144, 3), (275, .aload_n 0, 1), (276, .getfield 446, 3), (279, .iload_n 1, 1), (280, .iastore, 1), (281, .aload_n 0, 1), (282, .getfield 147, 3), (285, .aload_n 0, 1), (286, .getfield 446, 3), (289, .iload_n 2, 1), (290, .iastore, 1), (291, .aload_n 0, 1), (292, .getfield 150, 3), (295, .aload_n 0, 1), (296, .getfield 446, 3), (299, .iload 4, 2), (301, .iastore, 1), (302, .aload_n 0, 1), (303, .getfield 153, 3), (306, .aload_n 0, 1), (307, .getfield 446, 3), (310, .iload 7, 2), (312, .iastore, 1), (313, .aload_n 0, 1), (314, .getfield 156, 3), (317, .aload_n 0, 1), (318, .getfield 446, 3), (321, .iload 7, 2), (323, .aload_n 0, 1), (324, .getfield 38, 3), (327, .iload_n 3, 1), (328, .iaload, 1), (329, .iadd, 1), (330, .iastore, 1), (331, .aload_n 0, 1), (332, .getfield 159, 3), (335, .aload_n 0, 1), (336, .getfield 446, 3), (339, .iload 8, 2), (341, .iastore, 1), (342, .aload_n 0, 1), (343, .aload_n 0, 1), (344, .getfield 449, 3), (347, .iload 7, 2), (349, .aload_n 0, 1), (350, .getfield 38, 3), (353, .iload_n 3, 1), (354, .iaload, 1), (355, .iadd, 1), (356, .if_icmp .le 10, 3), (359, .aload_n 0, 1), (360, .getfield 449, 3), (363, .goto 12, 3), (366, .iload 7, 2), (368, .aload_n 0, 1), (369, .getfield 38, 3), (372, .iload_n 3, 1), (373, .iaload, 1), (374, .iadd, 1), (375, .putfield 449, 3), (378, .aload_n 0, 1), (379, .aload_n 0, 1), (380, .getfield 452, 3), (383, .iload 7, 2), (385, .ineg, 1), (386, .if_icmp .le 10, 3), (389, .aload_n 0, 1), (390, .getfield 452, 3), (393, .goto 6, 3), (396, .iload 7, 2), (398, .ineg, 1), (399, .putfield 452, 3), (402, .aload_n 0, 1), (403, .dup, 1), (404, .getfield 446, 3), (407, .iconst 1, 1), (408, .iadd, 1), (409, .putfield 446, 3), (412, .return_, 1)]
theorem dt_MO_layMark : DT (cM m_MO_layMark) tb_MO_layMark := by unfold DT; decide +kernel
abbrev a_MO_layMark_0 (G : GT)  (v1 : Int) (v2 : Int) (σ : St) (P : Int → St → Prop) : Prop := A G m_MO_layMark 0 [(0, O 8), (1, I v1), (2, I v2)] [] σ P
abbrev a_MO_layMark_99 (G : GT)  (v1 : Int) (v2 : Int) (v3 : Int) (v4 : Int) (v5 : Int) (v6 : Int) (v7 : Int) (σ : St) (P : Int → St → Prop) : Prop := A G m_MO_layMark 99 [(0, O 8), (1, I v1), (2, I v2), (3, I v3), (4, I v4), (5, I v5), (6, I v6), (7, I v7)] [] σ P
abbrev a_MO_layMark_204 (G : GT)  (v1 : Int) (v2 : Int) (v3 : Int) (v4 : Int) (v5 : Int) (v7 : Int) (v8 : Int) (σ : St) (P : Int → St → Prop) : Prop := A G m_MO_layMark 204 [(0, O 8), (1, I v1), (2, I v2), (3, I v3), (4, I v4), (5, I v5), (7, I v7), (8, I v8)] [] σ P
set_option maxRecDepth 20000 in
theorem k_MO_layMark_0 {G : GT} {σ : St} {P : Int → St → Prop}  {v1 : Int} {v2 : Int}  
    (h : (0 ≤ v1 ∧ v1 < 80) ∧ p_MO_plainOf σ (σ.1 106 v1.toNat) 0 ∧ (0 ≤ v2 ∧ v2 < 80) ∧ (0 ≤ σ.1 128 v2.toNat ∧ σ.1 128 v2.toNat < 200) ∧ (0 ≤ f_MO_plainOf σ (σ.1 106 v1.toNat) 0 ∧ f_MO_plainOf σ (σ.1 106 v1.toNat) 0 < 200) ∧ 0 ≤ σ.1 97 ((f_MO_plainOf σ (σ.1 106 v1.toNat) 0).toNat) ∧ (0 ≤ σ.1 106 v1.toNat ∧ σ.1 106 v1.toNat < 60) ∧ a_MO_layMark_99 G v1 v2 (f_MO_plainOf σ (σ.1 106 v1.toNat) 0) (((σ.1 131 v2.toNat) + (σ.1 101 ((σ.1 128 v2.toNat).toNat))) - ((σ.1 97 ((f_MO_plainOf σ (σ.1 106 v1.toNat) 0).toNat)) / 2)) (if σ.1 89 ((σ.1 106 v1.toNat).toNat) = 3 then 1 else 0) (if ¬ (σ.1 89 ((σ.1 106 v1.toNat).toNat) = 3) then -(σ.1 99 ((σ.1 128 v2.toNat).toNat)) else σ.1 98 ((σ.1 128 v2.toNat).toNat)) 0 σ P) :
    a_MO_layMark_0 G v1 v2 σ P := by
  refine r_aload_n (q := 1) (dc dt_MO_layMark 0 rfl) rfl rfl 0 rfl ?_
  refine r_aload_n (q := 2) (dc dt_MO_layMark 1 rfl) rfl rfl 0 rfl ?_
  refine r_getO (q := 5) (v := 106) fl_MO_62 (dc dt_MO_layMark 2 rfl) rfl ly8 rfl ?_
  refine r_iload_n (q := 6) (dc dt_MO_layMark 3 rfl) rfl rfl 1 rfl ?_
  obtain ⟨o1, h⟩ := h
  refine r_iald (q := 7) (v := σ.1 106 v1.toNat) (dc dt_MO_layMark 4 rfl) rfl ly106 o1 rfl (fun g2 => ?_)
  refine r_iconst (q := 8) (dc dt_MO_layMark 5 rfl) rfl rfl ?_
  obtain ⟨o3, h⟩ := h
  refine r_callVi (q := 11) mk_MO_plainOf lm_MO_369 (RMO.of rfl) rfl (dc dt_MO_layMark 6 rfl) rfl ly8 [I (σ.1 106 v1.toNat), I 0] [] rfl rfl (Nat.le_of_ble_eq_true rfl) (sp_MO_plainOf o3) (fun _ _ g4 z => ?_)
  obtain ⟨z, w⟩ := z
  subst z
  replace w := w.symm
  subst w
  refine r_istore_n (q := 12) (dc dt_MO_layMark 7 rfl) rfl rfl (by decide) rfl ?_
  refine r_aload_n (q := 13) (dc dt_MO_layMark 8 rfl) rfl rfl 1 rfl ?_
  refine r_getO (q := 16) (v := 131) fl_MO_138 (dc dt_MO_layMark 9 rfl) rfl ly8 rfl ?_
  refine r_iload_n (q := 17) (dc dt_MO_layMark 10 rfl) rfl rfl 3 rfl ?_
  obtain ⟨o5, h⟩ := h
  refine r_iald (q := 18) (v := σ.1 131 v2.toNat) (dc dt_MO_layMark 11 rfl) rfl ly131 o5 rfl (fun g6 => ?_)
  refine r_aload_n (q := 19) (dc dt_MO_layMark 12 rfl) rfl rfl 1 rfl ?_
  refine r_getO (q := 22) (v := 101) fl_MO_47 (dc dt_MO_layMark 13 rfl) rfl ly8 rfl ?_
  refine r_aload_n (q := 23) (dc dt_MO_layMark 14 rfl) rfl rfl 1 rfl ?_
  refine r_getO (q := 26) (v := 128) fl_MO_129 (dc dt_MO_layMark 15 rfl) rfl ly8 rfl ?_
  refine r_iload_n (q := 27) (dc dt_MO_layMark 16 rfl) rfl rfl 3 rfl ?_
  refine r_iald (q := 28) (v := σ.1 128 v2.toNat) (dc dt_MO_layMark 17 rfl) rfl ly128 o5 rfl (fun g7 => ?_)
  obtain ⟨o8, h⟩ := h
  refine r_iald (q := 29) (v := σ.1 101 ((σ.1 128 v2.toNat).toNat)) (dc dt_MO_layMark 18 rfl) rfl ly101 o8 rfl (fun g9 => ?_)
  refine r_iadd (q := 30) (dc dt_MO_layMark 19 rfl) rfl ?_
  refine r_aload_n (q := 31) (dc dt_MO_layMark 20 rfl) rfl rfl 1 rfl ?_
  refine r_getO (q := 34) (v := 97) fl_MO_35 (dc dt_MO_layMark 21 rfl) rfl ly8 rfl ?_
  refine r_iload_n (q := 35) (dc dt_MO_layMark 22 rfl) rfl rfl 0 rfl ?_
  obtain ⟨o10, h⟩ := h
  refine r_iald (q := 36) (v := σ.1 97 ((f_MO_plainOf σ (σ.1 106 v1.toNat) 0).toNat)) (dc dt_MO_layMark 23 rfl) rfl ly97 o10 rfl (fun g11 => ?_)
  refine r_iconst (q := 37) (dc dt_MO_layMark 24 rfl) rfl rfl ?_
  obtain ⟨o12, h⟩ := h
  refine r_idiv (q := 38) (dc dt_MO_layMark 25 rfl) rfl o12 g11 (by decide) (by decide) ?_
  refine r_isub (q := 39) (dc dt_MO_layMark 26 rfl) rfl ?_
  refine r_istore (q := 41) (dc dt_MO_layMark 27 rfl) rfl (by decide) rfl ?_
  refine r_aload_n (q := 42) (dc dt_MO_layMark 28 rfl) rfl rfl 2 rfl ?_
  refine r_getO (q := 45) (v := 89) fl_MO_7 (dc dt_MO_layMark 29 rfl) rfl ly8 rfl ?_
  refine r_aload_n (q := 46) (dc dt_MO_layMark 30 rfl) rfl rfl 2 rfl ?_
  refine r_getO (q := 49) (v := 106) fl_MO_62 (dc dt_MO_layMark 31 rfl) rfl ly8 rfl ?_
  refine r_iload_n (q := 50) (dc dt_MO_layMark 32 rfl) rfl rfl 3 rfl ?_
  refine r_iald (q := 51) (v := σ.1 106 v1.toNat) (dc dt_MO_layMark 33 rfl) rfl ly106 o1 rfl (fun g13 => ?_)
  obtain ⟨o14, h⟩ := h
  refine r_iald (q := 52) (v := σ.1 89 ((σ.1 106 v1.toNat).toNat)) (dc dt_MO_layMark 34 rfl) rfl ly89 o14 rfl (fun g15 => ?_)
  refine r_iconst (q := 53) (dc dt_MO_layMark 35 rfl) rfl rfl ?_
  have hJ : ∀ (w_0 : Int), w_0 = (if σ.1 89 ((σ.1 106 v1.toNat).toNat) = 3 then 1 else 0) → A G m_MO_layMark 61 [(4, I (((σ.1 131 v2.toNat) + (σ.1 101 ((σ.1 128 v2.toNat).toNat))) - ((σ.1 97 ((f_MO_plainOf σ (σ.1 106 v1.toNat) 0).toNat)) / 2))), (3, I (f_MO_plainOf σ (σ.1 106 v1.toNat) 0)), (0, O 8), (1, I v1), (2, I v2)] [I w_0] σ P := by
    intro w_0 z_0
    subst z_0
    refine r_istore (q := 63) (dc dt_MO_layMark 40 rfl) rfl (by decide) rfl ?_
    refine r_iload (q := 65) (dc dt_MO_layMark 41 rfl) rfl 0 rfl ?_
    have hJ : ∀ (w_0 : Int), w_0 = (if ¬ (σ.1 89 ((σ.1 106 v1.toNat).toNat) = 3) then -(σ.1 99 ((σ.1 128 v2.toNat).toNat)) else σ.1 98 ((σ.1 128 v2.toNat).toNat)) → A G m_MO_layMark 94 [(5, I (if σ.1 89 ((σ.1 106 v1.toNat).toNat) = 3 then 1 else 0)), (4, I (((σ.1 131 v2.toNat) + (σ.1 101 ((σ.1 128 v2.toNat).toNat))) - ((σ.1 97 ((f_MO_plainOf σ (σ.1 106 v1.toNat) 0).toNat)) / 2))), (3, I (f_MO_plainOf σ (σ.1 106 v1.toNat) 0)), (0, O 8), (1, I v1), (2, I v2)] [I w_0] σ P := by
      intro w_0 z_0
      subst z_0
      refine r_istore (q := 96) (dc dt_MO_layMark 59 rfl) rfl (by decide) rfl ?_
      refine r_iconst (q := 97) (dc dt_MO_layMark 60 rfl) rfl rfl ?_
      refine r_istore (q := 99) (dc dt_MO_layMark 61 rfl) rfl (by decide) rfl ?_
      exact r_loc [5, 6, 7, 4, 3, 2, 1, 0] rfl h
    clear h
    refine r_ifb_eq (q := 68) (t := 82) (dc dt_MO_layMark 42 rfl) rfl (by decide) (fun q_ => ?_) (fun q_ => ?_)
    · have q198 := q_
      refine r_aload_n (q := 83) (dc dt_MO_layMark 51 rfl) rfl rfl 3 rfl ?_
      refine r_getO (q := 86) (v := 99) fl_MO_41 (dc dt_MO_layMark 52 rfl) rfl ly8 rfl ?_
      refine r_aload_n (q := 87) (dc dt_MO_layMark 53 rfl) rfl rfl 3 rfl ?_
      refine r_getO (q := 90) (v := 128) fl_MO_129 (dc dt_MO_layMark 54 rfl) rfl ly8 rfl ?_
      refine r_iload_n (q := 91) (dc dt_MO_layMark 55 rfl) rfl rfl 5 rfl ?_
      refine r_iald (q := 92) (v := σ.1 128 v2.toNat) (dc dt_MO_layMark 56 rfl) rfl ly128 o5 rfl (fun g16 => ?_)
      refine r_iald (q := 93) (v := σ.1 99 ((σ.1 128 v2.toNat).toNat)) (dc dt_MO_layMark 57 rfl) rfl ly99 o8 rfl (fun g17 => ?_)
      refine r_ineg (q := 94) (dc dt_MO_layMark 58 rfl) rfl ?_
      exact (hJ (-(σ.1 99 ((σ.1 128 v2.toNat).toNat))) ((if_pos (by first | omega | grind)).symm))
    · have q198 := q_
      refine r_aload_n (q := 69) (dc dt_MO_layMark 43 rfl) rfl rfl 3 rfl ?_
      refine r_getO (q := 72) (v := 98) fl_MO_38 (dc dt_MO_layMark 44 rfl) rfl ly8 rfl ?_
      refine r_aload_n (q := 73) (dc dt_MO_layMark 45 rfl) rfl rfl 3 rfl ?_
      refine r_getO (q := 76) (v := 128) fl_MO_129 (dc dt_MO_layMark 46 rfl) rfl ly8 rfl ?_
      refine r_iload_n (q := 77) (dc dt_MO_layMark 47 rfl) rfl rfl 5 rfl ?_
      refine r_iald (q := 78) (v := σ.1 128 v2.toNat) (dc dt_MO_layMark 48 rfl) rfl ly128 o5 rfl (fun g18 => ?_)
      refine r_iald (q := 79) (v := σ.1 98 ((σ.1 128 v2.toNat).toNat)) (dc dt_MO_layMark 49 rfl) rfl ly98 o8 rfl (fun g19 => ?_)
      refine r_goto (q := 94) (dc dt_MO_layMark 50 rfl) (by decide) ?_
      exact (hJ (σ.1 98 ((σ.1 128 v2.toNat).toNat)) ((if_neg (by first | omega | grind)).symm))
  clear h
  refine r_icmp_ne (q := 56) (t := 60) (dc dt_MO_layMark 36 rfl) rfl (by decide) g15 (⟨by decide, by decide⟩ : rng 3) (fun q_ => ?_) (fun q_ => ?_)
  · have q199 := q_
    refine r_iconst (q := 61) (dc dt_MO_layMark 39 rfl) rfl rfl ?_
    exact (hJ 0 ((if_neg (by first | omega | grind)).symm))
  · have q199 := q_
    refine r_iconst (q := 57) (dc dt_MO_layMark 37 rfl) rfl rfl ?_
    refine r_goto (q := 61) (dc dt_MO_layMark 38 rfl) (by decide) ?_
    exact (hJ 1 ((if_pos (by first | omega | grind)).symm))
set_option maxRecDepth 20000 in
theorem k_MO_layMark_99 {G : GT} {σ : St} {P : Int → St → Prop}  {v1 : Int} {v2 : Int} {v3 : Int} {v4 : Int} {v5 : Int} {v6 : Int} {v7 : Int}  
    (h : rng v7 ∧ (σ.2.1 8 55 ≤ v7 → rng v5 ∧ ((v5 = 0 → 0 ≤ v3 ∧ v3 < 200)) ∧ a_MO_layMark_204 G v1 v2 v3 v4 v5 (if v5 = 0 then v6 - (σ.1 98 v3.toNat) else v6) 0 σ P) ∧ (v7 < σ.2.1 8 55 → (0 ≤ v7 ∧ v7 < 80) ∧ rng v2 ∧ ((σ.1 134 v7.toNat = v2 → (0 ≤ σ.1 133 v7.toNat ∧ σ.1 133 v7.toNat < 80) ∧ (0 ≤ σ.1 106 ((σ.1 133 v7.toNat).toNat) ∧ σ.1 106 ((σ.1 133 v7.toNat).toNat) < 60) ∧ (0 ≤ v1 ∧ v1 < 80) ∧ (0 ≤ σ.1 106 v1.toNat ∧ σ.1 106 v1.toNat < 60) ∧ (σ.1 89 ((σ.1 106 ((σ.1 133 v7.toNat).toNat)).toNat) = σ.1 89 ((σ.1 106 v1.toNat).toNat) → rng v5))) ∧ a_MO_layMark_99 G v1 v2 v3 v4 v5 (if σ.1 134 v7.toNat ≠ v2 then v6 else if σ.1 89 ((σ.1 106 ((σ.1 133 v7.toNat).toNat)).toNat) ≠ σ.1 89 ((σ.1 106 v1.toNat).toNat) then v6 else if v5 = 0 then σ.1 136 v7.toNat else σ.1 137 v7.toNat) (v7 + 1) σ P)) :
    a_MO_layMark_99 G v1 v2 v3 v4 v5 v6 v7 σ P := by
  refine r_iload (q := 101) (dc dt_MO_layMark 62 rfl) rfl 7 rfl ?_
  refine r_aload_n (q := 102) (dc dt_MO_layMark 63 rfl) rfl rfl 0 rfl ?_
  refine r_getI (q := 105) (v := σ.2.1 8 55) fl_MO_446 (dc dt_MO_layMark 64 rfl) rfl ly8 rfl rfl (fun g20 => ?_)
  obtain ⟨o21, h⟩ := h
  refine r_icmp_ge (q := 108) (t := 180) (dc dt_MO_layMark 65 rfl) rfl (by decide) o21 g20 (fun q_ => ?_) (fun q_ => ?_)
  · have h := h.1 q_
    refine r_iload (q := 182) (dc dt_MO_layMark 104 rfl) rfl 5 rfl ?_
    obtain ⟨o37, h⟩ := h
    obtain ⟨ho, h⟩ := h
    have hJ : ∀ (w_0 : Int), w_0 = (if v5 = 0 then v6 - (σ.1 98 v3.toNat) else v6) → A G m_MO_layMark 199 [(0, O 8), (1, I v1), (2, I v2), (3, I v3), (4, I v4), (5, I v5), (6, I v6), (7, I v7)] [I w_0] σ P := by
      intro w_0 z_0
      subst z_0
      refine r_istore (q := 201) (dc dt_MO_layMark 114 rfl) rfl (by decide) rfl ?_
      refine r_iconst (q := 202) (dc dt_MO_layMark 115 rfl) rfl rfl ?_
      refine r_istore (q := 204) (dc dt_MO_layMark 116 rfl) rfl (by decide) rfl ?_
      exact r_loc [2, 3, 4, 5, 6, 7, 1, 0] rfl h
    clear h
    refine r_if_eq (q := 185) (t := 190) (dc dt_MO_layMark 105 rfl) rfl (by decide) o37 (fun q_ => ?_) (fun q_ => ?_)
    · have q200 := q_
      have ho := ho q_
      refine r_iload (q := 192) (dc dt_MO_layMark 108 rfl) rfl 6 rfl ?_
      refine r_aload_n (q := 193) (dc dt_MO_layMark 109 rfl) rfl rfl 0 rfl ?_
      refine r_getO (q := 196) (v := 98) fl_MO_38 (dc dt_MO_layMark 110 rfl) rfl ly8 rfl ?_
      refine r_iload_n (q := 197) (dc dt_MO_layMark 111 rfl) rfl rfl 3 rfl ?_
      have o38 := ho
      refine r_iald (q := 198) (v := σ.1 98 v3.toNat) (dc dt_MO_layMark 112 rfl) rfl ly98 o38 rfl (fun g39 => ?_)
      refine r_isub (q := 199) (dc dt_MO_layMark 113 rfl) rfl ?_
      exact (hJ (v6 - (σ.1 98 v3.toNat)) ((if_pos (by first | omega | grind)).symm))
    · have q200 := q_
      refine r_iload (q := 187) (dc dt_MO_layMark 106 rfl) rfl 6 rfl ?_
      refine r_goto (q := 199) (dc dt_MO_layMark 107 rfl) (by decide) ?_
      exact (hJ v6 ((if_neg (by first | omega | grind)).symm))
  · have h := h.2 q_
    refine r_aload_n (q := 109) (dc dt_MO_layMark 66 rfl) rfl rfl 0 rfl ?_
    refine r_getO (q := 112) (v := 134) fl_MO_147 (dc dt_MO_layMark 67 rfl) rfl ly8 rfl ?_
    refine r_iload (q := 114) (dc dt_MO_layMark 68 rfl) rfl 7 rfl ?_
    obtain ⟨o40, h⟩ := h
    refine r_iald (q := 115) (v := σ.1 134 v7.toNat) (dc dt_MO_layMark 69 rfl) rfl ly134 o40 rfl (fun g41 => ?_)
    refine r_iload_n (q := 116) (dc dt_MO_layMark 70 rfl) rfl rfl 2 rfl ?_
    obtain ⟨o42, h⟩ := h
    obtain ⟨ho, h⟩ := h
    have hJ : ∀ (w_0 : Int), w_0 = (if σ.1 134 v7.toNat ≠ v2 then v6 else if σ.1 89 ((σ.1 106 ((σ.1 133 v7.toNat).toNat)).toNat) ≠ σ.1 89 ((σ.1 106 v1.toNat).toNat) then v6 else if v5 = 0 then σ.1 136 v7.toNat else σ.1 137 v7.toNat) → A G m_MO_layMark 174 [(0, O 8), (1, I v1), (2, I v2), (3, I v3), (4, I v4), (5, I v5), (6, I w_0), (7, I v7)] [] σ P := by
      intro w_0 z_0
      subst z_0
      refine r_iinc (q := 177) (k := 7) (dc dt_MO_layMark 102 rfl) rfl rfl (by decide) rfl ?_
      refine r_goto (q := 99) (dc dt_MO_layMark 103 rfl) (by decide) ?_
      exact r_loc [1, 2, 3, 4, 5, 6, 7, 0] rfl h
    clear h
    refine r_icmp_ne (q := 119) (t := 174) (dc dt_MO_layMark 71 rfl) rfl (by decide) g41 o42 (fun q_ => ?_) (fun q_ => ?_)
    · have q201 := q_
      exact (hJ v6 ((if_pos (by first | omega | grind)).symm))
    · have q201 := q_
      have ho := ho q_
      refine r_aload_n (q := 120) (dc dt_MO_layMark 72 rfl) rfl rfl 0 rfl ?_
      refine r_getO (q := 123) (v := 89) fl_MO_7 (dc dt_MO_layMark 73 rfl) rfl ly8 rfl ?_
      refine r_aload_n (q := 124) (dc dt_MO_layMark 74 rfl) rfl rfl 0 rfl ?_
      refine r_getO (q := 127) (v := 106) fl_MO_62 (dc dt_MO_layMark 75 rfl) rfl ly8 rfl ?_
      refine r_aload_n (q := 128) (dc dt_MO_layMark 76 rfl) rfl rfl 0 rfl ?_
      refine r_getO (q := 131) (v := 133) fl_MO_144 (dc dt_MO_layMark 77 rfl) rfl ly8 rfl ?_
      refine r_iload (q := 133) (dc dt_MO_layMark 78 rfl) rfl 7 rfl ?_
      refine r_iald (q := 134) (v := σ.1 133 v7.toNat) (dc dt_MO_layMark 79 rfl) rfl ly133 o40 rfl (fun g43 => ?_)
      obtain ⟨o44, ho⟩ := ho
      refine r_iald (q := 135) (v := σ.1 106 ((σ.1 133 v7.toNat).toNat)) (dc dt_MO_layMark 80 rfl) rfl ly106 o44 rfl (fun g45 => ?_)
      obtain ⟨o46, ho⟩ := ho
      refine r_iald (q := 136) (v := σ.1 89 ((σ.1 106 ((σ.1 133 v7.toNat).toNat)).toNat)) (dc dt_MO_layMark 81 rfl) rfl ly89 o46 rfl (fun g47 => ?_)
      refine r_aload_n (q := 137) (dc dt_MO_layMark 82 rfl) rfl rfl 0 rfl ?_
      refine r_getO (q := 140) (v := 89) fl_MO_7 (dc dt_MO_layMark 83 rfl) rfl ly8 rfl ?_
      refine r_aload_n (q := 141) (dc dt_MO_layMark 84 rfl) rfl rfl 0 rfl ?_
      refine r_getO (q := 144) (v := 106) fl_MO_62 (dc dt_MO_layMark 85 rfl) rfl ly8 rfl ?_
      refine r_iload_n (q := 145) (dc dt_MO_layMark 86 rfl) rfl rfl 1 rfl ?_
      obtain ⟨o48, ho⟩ := ho
      refine r_iald (q := 146) (v := σ.1 106 v1.toNat) (dc dt_MO_layMark 87 rfl) rfl ly106 o48 rfl (fun g49 => ?_)
      obtain ⟨o50, ho⟩ := ho
      refine r_iald (q := 147) (v := σ.1 89 ((σ.1 106 v1.toNat).toNat)) (dc dt_MO_layMark 88 rfl) rfl ly89 o50 rfl (fun g51 => ?_)
      refine r_icmp_ne (q := 150) (t := 174) (dc dt_MO_layMark 89 rfl) rfl (by decide) g47 g51 (fun q_ => ?_) (fun q_ => ?_)
      · have q202 := q_
        exact (hJ v6 (((if_neg (by first | omega | grind)).trans (if_pos (by first | omega | grind))).symm))
      · have q202 := q_
        have ho := ho q_
        refine r_iload (q := 152) (dc dt_MO_layMark 90 rfl) rfl 5 rfl ?_
        have o52 := ho
        have hK : ∀ (w_0 : Int), w_0 = (if v5 = 0 then σ.1 136 v7.toNat else σ.1 137 v7.toNat) → A G m_MO_layMark 172 [(0, O 8), (1, I v1), (2, I v2), (3, I v3), (4, I v4), (5, I v5), (6, I v6), (7, I v7)] [I w_0] σ P := by
          intro w_0 z_0
          subst z_0
          refine r_istore (q := 174) (dc dt_MO_layMark 101 rfl) rfl (by decide) rfl ?_
          exact r_loc [1, 2, 3, 4, 5, 6, 0, 7] rfl (hJ (if v5 = 0 then σ.1 136 v7.toNat else σ.1 137 v7.toNat) (((if_neg (by first | omega | grind)).trans (if_neg (by first | omega | grind))).symm))
        clear hJ
        have hJ := hK
        refine r_if_eq (q := 155) (t := 165) (dc dt_MO_layMark 91 rfl) rfl (by decide) o52 (fun q_ => ?_) (fun q_ => ?_)
        · have q203 := q_
          refine r_aload_n (q := 166) (dc dt_MO_layMark 97 rfl) rfl rfl 0 rfl ?_
          refine r_getO (q := 169) (v := 136) fl_MO_153 (dc dt_MO_layMark 98 rfl) rfl ly8 rfl ?_
          refine r_iload (q := 171) (dc dt_MO_layMark 99 rfl) rfl 7 rfl ?_
          refine r_iald (q := 172) (v := σ.1 136 v7.toNat) (dc dt_MO_layMark 100 rfl) rfl ly136 o40 rfl (fun g53 => ?_)
          exact (hJ (σ.1 136 v7.toNat) ((if_pos (by first | omega | grind)).symm))
        · have q203 := q_
          refine r_aload_n (q := 156) (dc dt_MO_layMark 92 rfl) rfl rfl 0 rfl ?_
          refine r_getO (q := 159) (v := 137) fl_MO_156 (dc dt_MO_layMark 93 rfl) rfl ly8 rfl ?_
          refine r_iload (q := 161) (dc dt_MO_layMark 94 rfl) rfl 7 rfl ?_
          refine r_iald (q := 162) (v := σ.1 137 v7.toNat) (dc dt_MO_layMark 95 rfl) rfl ly137 o40 rfl (fun g54 => ?_)
          refine r_goto (q := 172) (dc dt_MO_layMark 96 rfl) (by decide) ?_
          exact (hJ (σ.1 137 v7.toNat) ((if_neg (by first | omega | grind)).symm))
set_option maxRecDepth 20000 in
theorem k_MO_layMark_204 {G : GT} {σ : St} {P : Int → St → Prop}  {v1 : Int} {v2 : Int} {v3 : Int} {v4 : Int} {v5 : Int} {v7 : Int} {v8 : Int}  
    (h : rng v8 ∧ (300 ≤ v8 → (0 ≤ σ.2.1 8 55 ∧ σ.2.1 8 55 < 80) ∧ rng v1 ∧ (∀ σ63, σ63 = sa σ 133 ((σ.2.1 8 55).toNat) v1 → rng v2 ∧ (∀ σ67, σ67 = sa σ63 134 ((σ.2.1 8 55).toNat) v2 → rng v4 ∧ (∀ σ71, σ71 = sa σ67 135 ((σ.2.1 8 55).toNat) v4 → rng v7 ∧ (∀ σ75, σ75 = sa σ71 136 ((σ.2.1 8 55).toNat) v7 → (0 ≤ v3 ∧ v3 < 200) ∧ rng (v7 + (σ.1 98 v3.toNat)) ∧ (∀ σ81, σ81 = sa σ75 137 ((σ.2.1 8 55).toNat) (v7 + (σ.1 98 v3.toNat)) → (∀ σ84, σ84 = sa σ81 138 ((σ.2.1 8 55).toNat) v8 → rng (if σ.2.1 8 62 ≤ v7 + (σ.1 98 v3.toNat) then v7 + (σ.1 98 v3.toNat) else σ.2.1 8 62) ∧ (∀ σ90, σ90 = sf σ84 8 62 (if σ.2.1 8 62 ≤ v7 + (σ.1 98 v3.toNat) then v7 + (σ.1 98 v3.toNat) else σ.2.1 8 62) → rng (-v7) ∧ rng (if σ.2.1 8 63 ≤ -v7 then -v7 else σ.2.1 8 63) ∧ (∀ σ96, σ96 = sf σ90 8 63 (if σ.2.1 8 63 ≤ -v7 then -v7 else σ.2.1 8 63) → rng ((σ.2.1 8 55) + 1) ∧ (∀ σ100, σ100 = sf σ96 8 55 ((σ.2.1 8 55) + 1) → P 0 σ100)))))))))) ∧ (v8 < 300 → (0 ≤ v3 ∧ v3 < 200) ∧ (σ.1 98 v3.toNat ≤ 0 → (0 ≤ σ.2.1 8 55 ∧ σ.2.1 8 55 < 80) ∧ rng v1 ∧ (∀ σ110, σ110 = sa σ 133 ((σ.2.1 8 55).toNat) v1 → rng v2 ∧ (∀ σ114, σ114 = sa σ110 134 ((σ.2.1 8 55).toNat) v2 → rng v4 ∧ (∀ σ118, σ118 = sa σ114 135 ((σ.2.1 8 55).toNat) v4 → rng v7 ∧ (∀ σ122, σ122 = sa σ118 136 ((σ.2.1 8 55).toNat) v7 → rng (v7 + (σ.1 98 v3.toNat)) ∧ (∀ σ127, σ127 = sa σ122 137 ((σ.2.1 8 55).toNat) (v7 + (σ.1 98 v3.toNat)) → (∀ σ130, σ130 = sa σ127 138 ((σ.2.1 8 55).toNat) v8 → rng (if σ.2.1 8 62 ≤ v7 + (σ.1 98 v3.toNat) then v7 + (σ.1 98 v3.toNat) else σ.2.1 8 62) ∧ (∀ σ136, σ136 = sf σ130 8 62 (if σ.2.1 8 62 ≤ v7 + (σ.1 98 v3.toNat) then v7 + (σ.1 98 v3.toNat) else σ.2.1 8 62) → rng (-v7) ∧ rng (if σ.2.1 8 63 ≤ -v7 then -v7 else σ.2.1 8 63) ∧ (∀ σ142, σ142 = sf σ136 8 63 (if σ.2.1 8 63 ≤ -v7 then -v7 else σ.2.1 8 63) → rng ((σ.2.1 8 55) + 1) ∧ (∀ σ146, σ146 = sf σ142 8 55 ((σ.2.1 8 55) + 1) → P 0 σ146)))))))))) ∧ (0 < σ.1 98 v3.toNat → CJ G m_MO_touches [O 8, I v4, I (v4 + (σ.1 97 v3.toNat)), I v7, I (v7 + (σ.1 98 v3.toNat))] σ (fun r152 u151 => (r152 = 0 → (0 ≤ u151.2.1 8 55 ∧ u151.2.1 8 55 < 80) ∧ rng v1 ∧ (∀ σ158, σ158 = sa u151 133 ((u151.2.1 8 55).toNat) v1 → rng v2 ∧ (∀ σ162, σ162 = sa σ158 134 ((u151.2.1 8 55).toNat) v2 → rng v4 ∧ (∀ σ166, σ166 = sa σ162 135 ((u151.2.1 8 55).toNat) v4 → rng v7 ∧ (∀ σ170, σ170 = sa σ166 136 ((u151.2.1 8 55).toNat) v7 → rng (v7 + (u151.1 98 v3.toNat)) ∧ (∀ σ175, σ175 = sa σ170 137 ((u151.2.1 8 55).toNat) (v7 + (u151.1 98 v3.toNat)) → (∀ σ178, σ178 = sa σ175 138 ((u151.2.1 8 55).toNat) v8 → rng (if u151.2.1 8 62 ≤ v7 + (u151.1 98 v3.toNat) then v7 + (u151.1 98 v3.toNat) else u151.2.1 8 62) ∧ (∀ σ184, σ184 = sf σ178 8 62 (if u151.2.1 8 62 ≤ v7 + (u151.1 98 v3.toNat) then v7 + (u151.1 98 v3.toNat) else u151.2.1 8 62) → rng (-v7) ∧ rng (if u151.2.1 8 63 ≤ -v7 then -v7 else u151.2.1 8 63) ∧ (∀ σ190, σ190 = sf σ184 8 63 (if u151.2.1 8 63 ≤ -v7 then -v7 else u151.2.1 8 63) → rng ((u151.2.1 8 55) + 1) ∧ (∀ σ194, σ194 = sf σ190 8 55 ((u151.2.1 8 55) + 1) → P 0 σ194)))))))))) ∧ (r152 ≠ 0 → rng v5 ∧ a_MO_layMark_204 G v1 v2 v3 v4 v5 (v7 + (if v5 = 0 then (-1 : Int) else (1 : Int))) (v8 + 1) u151 P))))) :
    a_MO_layMark_204 G v1 v2 v3 v4 v5 v7 v8 σ P := by
  refine r_iload (q := 206) (dc dt_MO_layMark 117 rfl) rfl 7 rfl ?_
  refine r_sipush (q := 209) (dc dt_MO_layMark 118 rfl) rfl (by decide) ?_
  obtain ⟨o55, h⟩ := h
  refine r_icmp_ge (q := 212) (t := 271) (dc dt_MO_layMark 119 rfl) rfl (by decide) o55 (⟨by decide, by decide⟩ : rng 300) (fun q_ => ?_) (fun q_ => ?_)
  · have h := h.1 q_
    refine r_aload_n (q := 272) (dc dt_MO_layMark 152 rfl) rfl rfl 0 rfl ?_
    refine r_getO (q := 275) (v := 133) fl_MO_144 (dc dt_MO_layMark 153 rfl) rfl ly8 rfl ?_
    refine r_aload_n (q := 276) (dc dt_MO_layMark 154 rfl) rfl rfl 0 rfl ?_
    refine r_getI (q := 279) (v := σ.2.1 8 55) fl_MO_446 (dc dt_MO_layMark 155 rfl) rfl ly8 rfl rfl (fun g60 => ?_)
    refine r_iload_n (q := 280) (dc dt_MO_layMark 156 rfl) rfl rfl 1 rfl ?_
    obtain ⟨o61, h⟩ := h
    obtain ⟨o62, h⟩ := h
    refine r_iast (q := 281) (dc dt_MO_layMark 157 rfl) rfl ly133 o61 o62 (fun σ63 e64 => ?_)
    have h := h σ63 e64
    refine r_aload_n (q := 282) (dc dt_MO_layMark 158 rfl) rfl rfl 0 rfl ?_
    refine r_getO (q := 285) (v := 134) fl_MO_147 (dc dt_MO_layMark 159 rfl) rfl ly8 rfl ?_
    refine r_aload_n (q := 286) (dc dt_MO_layMark 160 rfl) rfl rfl 0 rfl ?_
    refine r_getI (q := 289) (v := σ.2.1 8 55) fl_MO_446 (dc dt_MO_layMark 161 rfl) rfl ly8 rfl (by rw [e64]; rfl) (fun g65 => ?_)
    refine r_iload_n (q := 290) (dc dt_MO_layMark 162 rfl) rfl rfl 2 rfl ?_
    obtain ⟨o66, h⟩ := h
    refine r_iast (q := 291) (dc dt_MO_layMark 163 rfl) rfl ly134 o61 o66 (fun σ67 e68 => ?_)
    have h := h σ67 e68
    refine r_aload_n (q := 292) (dc dt_MO_layMark 164 rfl) rfl rfl 0 rfl ?_
    refine r_getO (q := 295) (v := 135) fl_MO_150 (dc dt_MO_layMark 165 rfl) rfl ly8 rfl ?_
    refine r_aload_n (q := 296) (dc dt_MO_layMark 166 rfl) rfl rfl 0 rfl ?_
    refine r_getI (q := 299) (v := σ.2.1 8 55) fl_MO_446 (dc dt_MO_layMark 167 rfl) rfl ly8 rfl (by rw [e68, e64]; rfl) (fun g69 => ?_)
    refine r_iload (q := 301) (dc dt_MO_layMark 168 rfl) rfl 4 rfl ?_
    obtain ⟨o70, h⟩ := h
    refine r_iast (q := 302) (dc dt_MO_layMark 169 rfl) rfl ly135 o61 o70 (fun σ71 e72 => ?_)
    have h := h σ71 e72
    refine r_aload_n (q := 303) (dc dt_MO_layMark 170 rfl) rfl rfl 0 rfl ?_
    refine r_getO (q := 306) (v := 136) fl_MO_153 (dc dt_MO_layMark 171 rfl) rfl ly8 rfl ?_
    refine r_aload_n (q := 307) (dc dt_MO_layMark 172 rfl) rfl rfl 0 rfl ?_
    refine r_getI (q := 310) (v := σ.2.1 8 55) fl_MO_446 (dc dt_MO_layMark 173 rfl) rfl ly8 rfl (by rw [e72, e68, e64]; rfl) (fun g73 => ?_)
    refine r_iload (q := 312) (dc dt_MO_layMark 174 rfl) rfl 6 rfl ?_
    obtain ⟨o74, h⟩ := h
    refine r_iast (q := 313) (dc dt_MO_layMark 175 rfl) rfl ly136 o61 o74 (fun σ75 e76 => ?_)
    have h := h σ75 e76
    refine r_aload_n (q := 314) (dc dt_MO_layMark 176 rfl) rfl rfl 0 rfl ?_
    refine r_getO (q := 317) (v := 137) fl_MO_156 (dc dt_MO_layMark 177 rfl) rfl ly8 rfl ?_
    refine r_aload_n (q := 318) (dc dt_MO_layMark 178 rfl) rfl rfl 0 rfl ?_
    refine r_getI (q := 321) (v := σ.2.1 8 55) fl_MO_446 (dc dt_MO_layMark 179 rfl) rfl ly8 rfl (by rw [e76, e72, e68, e64]; rfl) (fun g77 => ?_)
    refine r_iload (q := 323) (dc dt_MO_layMark 180 rfl) rfl 6 rfl ?_
    refine r_aload_n (q := 324) (dc dt_MO_layMark 181 rfl) rfl rfl 0 rfl ?_
    refine r_getO (q := 327) (v := 98) fl_MO_38 (dc dt_MO_layMark 182 rfl) rfl ly8 rfl ?_
    refine r_iload_n (q := 328) (dc dt_MO_layMark 183 rfl) rfl rfl 3 rfl ?_
    obtain ⟨o78, h⟩ := h
    refine r_iald (q := 329) (v := σ.1 98 v3.toNat) (dc dt_MO_layMark 184 rfl) rfl ly98 o78 (by rw [e76, e72, e68, e64]; rfl) (fun g79 => ?_)
    refine r_iadd (q := 330) (dc dt_MO_layMark 185 rfl) rfl ?_
    obtain ⟨o80, h⟩ := h
    refine r_iast (q := 331) (dc dt_MO_layMark 186 rfl) rfl ly137 o61 o80 (fun σ81 e82 => ?_)
    have h := h σ81 e82
    refine r_aload_n (q := 332) (dc dt_MO_layMark 187 rfl) rfl rfl 0 rfl ?_
    refine r_getO (q := 335) (v := 138) fl_MO_159 (dc dt_MO_layMark 188 rfl) rfl ly8 rfl ?_
    refine r_aload_n (q := 336) (dc dt_MO_layMark 189 rfl) rfl rfl 0 rfl ?_
    refine r_getI (q := 339) (v := σ.2.1 8 55) fl_MO_446 (dc dt_MO_layMark 190 rfl) rfl ly8 rfl (by rw [e82, e76, e72, e68, e64]; rfl) (fun g83 => ?_)
    refine r_iload (q := 341) (dc dt_MO_layMark 191 rfl) rfl 7 rfl ?_
    refine r_iast (q := 342) (dc dt_MO_layMark 192 rfl) rfl ly138 o61 o55 (fun σ84 e85 => ?_)
    have h := h σ84 e85
    refine r_aload_n (q := 343) (dc dt_MO_layMark 193 rfl) rfl rfl 0 rfl ?_
    refine r_aload_n (q := 344) (dc dt_MO_layMark 194 rfl) rfl rfl 0 rfl ?_
    refine r_getI (q := 347) (v := σ.2.1 8 62) fl_MO_449 (dc dt_MO_layMark 195 rfl) rfl ly8 rfl (by rw [e85, e82, e76, e72, e68, e64]; rfl) (fun g86 => ?_)
    refine r_iload (q := 349) (dc dt_MO_layMark 196 rfl) rfl 6 rfl ?_
    refine r_aload_n (q := 350) (dc dt_MO_layMark 197 rfl) rfl rfl 0 rfl ?_
    refine r_getO (q := 353) (v := 98) fl_MO_38 (dc dt_MO_layMark 198 rfl) rfl ly8 rfl ?_
    refine r_iload_n (q := 354) (dc dt_MO_layMark 199 rfl) rfl rfl 3 rfl ?_
    refine r_iald (q := 355) (v := σ.1 98 v3.toNat) (dc dt_MO_layMark 200 rfl) rfl ly98 o78 (by rw [e85, e82, e76, e72, e68, e64]; rfl) (fun g87 => ?_)
    refine r_iadd (q := 356) (dc dt_MO_layMark 201 rfl) rfl ?_
    have hJ : ∀ (w_0 : Int), w_0 = (if σ.2.1 8 62 ≤ v7 + (σ.1 98 v3.toNat) then v7 + (σ.1 98 v3.toNat) else σ.2.1 8 62) → A G m_MO_layMark 375 [(0, O 8), (1, I v1), (2, I v2), (3, I v3), (4, I v4), (5, I v5), (7, I v7), (8, I v8)] [I w_0, O 8] σ84 P := by
      intro w_0 z_0
      subst z_0
      obtain ⟨o92, h⟩ := h
      refine r_put (q := 378) fl_MO_449 (dc dt_MO_layMark 212 rfl) rfl ly8 (fun _ => rfl) (Or.inl rfl) pf_8_62 o92 (fun σ90 e91 => ?_)
      have h := h σ90 e91
      refine r_aload_n (q := 379) (dc dt_MO_layMark 213 rfl) rfl rfl 0 rfl ?_
      refine r_aload_n (q := 380) (dc dt_MO_layMark 214 rfl) rfl rfl 0 rfl ?_
      refine r_getI (q := 383) (v := σ.2.1 8 63) fl_MO_452 (dc dt_MO_layMark 215 rfl) rfl ly8 rfl (by rw [e91, e85, e82, e76, e72, e68, e64]; rfl) (fun g93 => ?_)
      refine r_iload (q := 385) (dc dt_MO_layMark 216 rfl) rfl 6 rfl ?_
      refine r_ineg (q := 386) (dc dt_MO_layMark 217 rfl) rfl ?_
      obtain ⟨o94, h⟩ := h
      have hJ : ∀ (w_0 : Int), w_0 = (if σ.2.1 8 63 ≤ -v7 then -v7 else σ.2.1 8 63) → A G m_MO_layMark 399 [(0, O 8), (1, I v1), (2, I v2), (3, I v3), (4, I v4), (5, I v5), (7, I v7), (8, I v8)] [I w_0, O 8] σ90 P := by
        intro w_0 z_0
        subst z_0
        obtain ⟨o98, h⟩ := h
        refine r_put (q := 402) fl_MO_452 (dc dt_MO_layMark 224 rfl) rfl ly8 (fun _ => rfl) (Or.inl rfl) pf_8_63 o98 (fun σ96 e97 => ?_)
        have h := h σ96 e97
        refine r_aload_n (q := 403) (dc dt_MO_layMark 225 rfl) rfl rfl 0 rfl ?_
        refine r_dupo (q := 404) (dc dt_MO_layMark 226 rfl) rfl ?_
        refine r_getI (q := 407) (v := σ.2.1 8 55) fl_MO_446 (dc dt_MO_layMark 227 rfl) rfl ly8 rfl (by rw [e97, e91, e85, e82, e76, e72, e68, e64]; rfl) (fun g99 => ?_)
        refine r_iconst (q := 408) (dc dt_MO_layMark 228 rfl) rfl rfl ?_
        refine r_iadd (q := 409) (dc dt_MO_layMark 229 rfl) rfl ?_
        obtain ⟨o102, h⟩ := h
        refine r_put (q := 412) fl_MO_446 (dc dt_MO_layMark 230 rfl) rfl ly8 (fun _ => rfl) (Or.inl rfl) pf_8_55 o102 (fun σ100 e101 => ?_)
        have h := h σ100 e101
        exact r_vret rfl (dc dt_MO_layMark 231 rfl) h
      clear h
      refine r_icmp_le (q := 389) (t := 396) (dc dt_MO_layMark 218 rfl) rfl (by decide) g93 o94 (fun q_ => ?_) (fun q_ => ?_)
      · have q204 := q_
        refine r_iload (q := 398) (dc dt_MO_layMark 222 rfl) rfl 6 rfl ?_
        refine r_ineg (q := 399) (dc dt_MO_layMark 223 rfl) rfl ?_
        exact (hJ (-v7) ((if_pos (by first | omega | grind)).symm))
      · have q204 := q_
        refine r_aload_n (q := 390) (dc dt_MO_layMark 219 rfl) rfl rfl 0 rfl ?_
        refine r_getI (q := 393) (v := σ.2.1 8 63) fl_MO_452 (dc dt_MO_layMark 220 rfl) rfl ly8 rfl (by rw [e91, e85, e82, e76, e72, e68, e64]; rfl) (fun g95 => ?_)
        refine r_goto (q := 399) (dc dt_MO_layMark 221 rfl) (by decide) ?_
        exact (hJ (σ.2.1 8 63) ((if_neg (by first | omega | grind)).symm))
    clear h
    refine r_icmp_le (q := 359) (t := 366) (dc dt_MO_layMark 202 rfl) rfl (by decide) g86 o80 (fun q_ => ?_) (fun q_ => ?_)
    · have q205 := q_
      refine r_iload (q := 368) (dc dt_MO_layMark 206 rfl) rfl 6 rfl ?_
      refine r_aload_n (q := 369) (dc dt_MO_layMark 207 rfl) rfl rfl 0 rfl ?_
      refine r_getO (q := 372) (v := 98) fl_MO_38 (dc dt_MO_layMark 208 rfl) rfl ly8 rfl ?_
      refine r_iload_n (q := 373) (dc dt_MO_layMark 209 rfl) rfl rfl 3 rfl ?_
      refine r_iald (q := 374) (v := σ.1 98 v3.toNat) (dc dt_MO_layMark 210 rfl) rfl ly98 o78 (by rw [e85, e82, e76, e72, e68, e64]; rfl) (fun g88 => ?_)
      refine r_iadd (q := 375) (dc dt_MO_layMark 211 rfl) rfl ?_
      exact (hJ (v7 + (σ.1 98 v3.toNat)) ((if_pos (by first | omega | grind)).symm))
    · have q205 := q_
      refine r_aload_n (q := 360) (dc dt_MO_layMark 203 rfl) rfl rfl 0 rfl ?_
      refine r_getI (q := 363) (v := σ.2.1 8 62) fl_MO_449 (dc dt_MO_layMark 204 rfl) rfl ly8 rfl (by rw [e85, e82, e76, e72, e68, e64]; rfl) (fun g89 => ?_)
      refine r_goto (q := 375) (dc dt_MO_layMark 205 rfl) (by decide) ?_
      exact (hJ (σ.2.1 8 62) ((if_neg (by first | omega | grind)).symm))
  · have h := h.2 q_
    refine r_aload_n (q := 213) (dc dt_MO_layMark 120 rfl) rfl rfl 0 rfl ?_
    refine r_getO (q := 216) (v := 98) fl_MO_38 (dc dt_MO_layMark 121 rfl) rfl ly8 rfl ?_
    refine r_iload_n (q := 217) (dc dt_MO_layMark 122 rfl) rfl rfl 3 rfl ?_
    obtain ⟨o103, h⟩ := h
    refine r_iald (q := 218) (v := σ.1 98 v3.toNat) (dc dt_MO_layMark 123 rfl) rfl ly98 o103 rfl (fun g104 => ?_)
    refine r_if_le (q := 221) (t := 271) (dc dt_MO_layMark 124 rfl) rfl (by decide) g104 (fun q_ => ?_) (fun q_ => ?_)
    · have h := h.1 q_
      refine r_aload_n (q := 272) (dc dt_MO_layMark 152 rfl) rfl rfl 0 rfl ?_
      refine r_getO (q := 275) (v := 133) fl_MO_144 (dc dt_MO_layMark 153 rfl) rfl ly8 rfl ?_
      refine r_aload_n (q := 276) (dc dt_MO_layMark 154 rfl) rfl rfl 0 rfl ?_
      refine r_getI (q := 279) (v := σ.2.1 8 55) fl_MO_446 (dc dt_MO_layMark 155 rfl) rfl ly8 rfl rfl (fun g107 => ?_)
      refine r_iload_n (q := 280) (dc dt_MO_layMark 156 rfl) rfl rfl 1 rfl ?_
      obtain ⟨o108, h⟩ := h
      obtain ⟨o109, h⟩ := h
      refine r_iast (q := 281) (dc dt_MO_layMark 157 rfl) rfl ly133 o108 o109 (fun σ110 e111 => ?_)
      have h := h σ110 e111
      refine r_aload_n (q := 282) (dc dt_MO_layMark 158 rfl) rfl rfl 0 rfl ?_
      refine r_getO (q := 285) (v := 134) fl_MO_147 (dc dt_MO_layMark 159 rfl) rfl ly8 rfl ?_
      refine r_aload_n (q := 286) (dc dt_MO_layMark 160 rfl) rfl rfl 0 rfl ?_
      refine r_getI (q := 289) (v := σ.2.1 8 55) fl_MO_446 (dc dt_MO_layMark 161 rfl) rfl ly8 rfl (by rw [e111]; rfl) (fun g112 => ?_)
      refine r_iload_n (q := 290) (dc dt_MO_layMark 162 rfl) rfl rfl 2 rfl ?_
      obtain ⟨o113, h⟩ := h
      refine r_iast (q := 291) (dc dt_MO_layMark 163 rfl) rfl ly134 o108 o113 (fun σ114 e115 => ?_)
      have h := h σ114 e115
      refine r_aload_n (q := 292) (dc dt_MO_layMark 164 rfl) rfl rfl 0 rfl ?_
      refine r_getO (q := 295) (v := 135) fl_MO_150 (dc dt_MO_layMark 165 rfl) rfl ly8 rfl ?_
      refine r_aload_n (q := 296) (dc dt_MO_layMark 166 rfl) rfl rfl 0 rfl ?_
      refine r_getI (q := 299) (v := σ.2.1 8 55) fl_MO_446 (dc dt_MO_layMark 167 rfl) rfl ly8 rfl (by rw [e115, e111]; rfl) (fun g116 => ?_)
      refine r_iload (q := 301) (dc dt_MO_layMark 168 rfl) rfl 4 rfl ?_
      obtain ⟨o117, h⟩ := h
      refine r_iast (q := 302) (dc dt_MO_layMark 169 rfl) rfl ly135 o108 o117 (fun σ118 e119 => ?_)
      have h := h σ118 e119
      refine r_aload_n (q := 303) (dc dt_MO_layMark 170 rfl) rfl rfl 0 rfl ?_
      refine r_getO (q := 306) (v := 136) fl_MO_153 (dc dt_MO_layMark 171 rfl) rfl ly8 rfl ?_
      refine r_aload_n (q := 307) (dc dt_MO_layMark 172 rfl) rfl rfl 0 rfl ?_
      refine r_getI (q := 310) (v := σ.2.1 8 55) fl_MO_446 (dc dt_MO_layMark 173 rfl) rfl ly8 rfl (by rw [e119, e115, e111]; rfl) (fun g120 => ?_)
      refine r_iload (q := 312) (dc dt_MO_layMark 174 rfl) rfl 6 rfl ?_
      obtain ⟨o121, h⟩ := h
      refine r_iast (q := 313) (dc dt_MO_layMark 175 rfl) rfl ly136 o108 o121 (fun σ122 e123 => ?_)
      have h := h σ122 e123
      refine r_aload_n (q := 314) (dc dt_MO_layMark 176 rfl) rfl rfl 0 rfl ?_
      refine r_getO (q := 317) (v := 137) fl_MO_156 (dc dt_MO_layMark 177 rfl) rfl ly8 rfl ?_
      refine r_aload_n (q := 318) (dc dt_MO_layMark 178 rfl) rfl rfl 0 rfl ?_
      refine r_getI (q := 321) (v := σ.2.1 8 55) fl_MO_446 (dc dt_MO_layMark 179 rfl) rfl ly8 rfl (by rw [e123, e119, e115, e111]; rfl) (fun g124 => ?_)
      refine r_iload (q := 323) (dc dt_MO_layMark 180 rfl) rfl 6 rfl ?_
      refine r_aload_n (q := 324) (dc dt_MO_layMark 181 rfl) rfl rfl 0 rfl ?_
      refine r_getO (q := 327) (v := 98) fl_MO_38 (dc dt_MO_layMark 182 rfl) rfl ly8 rfl ?_
      refine r_iload_n (q := 328) (dc dt_MO_layMark 183 rfl) rfl rfl 3 rfl ?_
      refine r_iald (q := 329) (v := σ.1 98 v3.toNat) (dc dt_MO_layMark 184 rfl) rfl ly98 o103 (by rw [e123, e119, e115, e111]; rfl) (fun g125 => ?_)
      refine r_iadd (q := 330) (dc dt_MO_layMark 185 rfl) rfl ?_
      obtain ⟨o126, h⟩ := h
      refine r_iast (q := 331) (dc dt_MO_layMark 186 rfl) rfl ly137 o108 o126 (fun σ127 e128 => ?_)
      have h := h σ127 e128
      refine r_aload_n (q := 332) (dc dt_MO_layMark 187 rfl) rfl rfl 0 rfl ?_
      refine r_getO (q := 335) (v := 138) fl_MO_159 (dc dt_MO_layMark 188 rfl) rfl ly8 rfl ?_
      refine r_aload_n (q := 336) (dc dt_MO_layMark 189 rfl) rfl rfl 0 rfl ?_
      refine r_getI (q := 339) (v := σ.2.1 8 55) fl_MO_446 (dc dt_MO_layMark 190 rfl) rfl ly8 rfl (by rw [e128, e123, e119, e115, e111]; rfl) (fun g129 => ?_)
      refine r_iload (q := 341) (dc dt_MO_layMark 191 rfl) rfl 7 rfl ?_
      refine r_iast (q := 342) (dc dt_MO_layMark 192 rfl) rfl ly138 o108 o55 (fun σ130 e131 => ?_)
      have h := h σ130 e131
      refine r_aload_n (q := 343) (dc dt_MO_layMark 193 rfl) rfl rfl 0 rfl ?_
      refine r_aload_n (q := 344) (dc dt_MO_layMark 194 rfl) rfl rfl 0 rfl ?_
      refine r_getI (q := 347) (v := σ.2.1 8 62) fl_MO_449 (dc dt_MO_layMark 195 rfl) rfl ly8 rfl (by rw [e131, e128, e123, e119, e115, e111]; rfl) (fun g132 => ?_)
      refine r_iload (q := 349) (dc dt_MO_layMark 196 rfl) rfl 6 rfl ?_
      refine r_aload_n (q := 350) (dc dt_MO_layMark 197 rfl) rfl rfl 0 rfl ?_
      refine r_getO (q := 353) (v := 98) fl_MO_38 (dc dt_MO_layMark 198 rfl) rfl ly8 rfl ?_
      refine r_iload_n (q := 354) (dc dt_MO_layMark 199 rfl) rfl rfl 3 rfl ?_
      refine r_iald (q := 355) (v := σ.1 98 v3.toNat) (dc dt_MO_layMark 200 rfl) rfl ly98 o103 (by rw [e131, e128, e123, e119, e115, e111]; rfl) (fun g133 => ?_)
      refine r_iadd (q := 356) (dc dt_MO_layMark 201 rfl) rfl ?_
      have hJ : ∀ (w_0 : Int), w_0 = (if σ.2.1 8 62 ≤ v7 + (σ.1 98 v3.toNat) then v7 + (σ.1 98 v3.toNat) else σ.2.1 8 62) → A G m_MO_layMark 375 [(0, O 8), (1, I v1), (2, I v2), (3, I v3), (4, I v4), (5, I v5), (7, I v7), (8, I v8)] [I w_0, O 8] σ130 P := by
        intro w_0 z_0
        subst z_0
        obtain ⟨o138, h⟩ := h
        refine r_put (q := 378) fl_MO_449 (dc dt_MO_layMark 212 rfl) rfl ly8 (fun _ => rfl) (Or.inl rfl) pf_8_62 o138 (fun σ136 e137 => ?_)
        have h := h σ136 e137
        refine r_aload_n (q := 379) (dc dt_MO_layMark 213 rfl) rfl rfl 0 rfl ?_
        refine r_aload_n (q := 380) (dc dt_MO_layMark 214 rfl) rfl rfl 0 rfl ?_
        refine r_getI (q := 383) (v := σ.2.1 8 63) fl_MO_452 (dc dt_MO_layMark 215 rfl) rfl ly8 rfl (by rw [e137, e131, e128, e123, e119, e115, e111]; rfl) (fun g139 => ?_)
        refine r_iload (q := 385) (dc dt_MO_layMark 216 rfl) rfl 6 rfl ?_
        refine r_ineg (q := 386) (dc dt_MO_layMark 217 rfl) rfl ?_
        obtain ⟨o140, h⟩ := h
        have hJ : ∀ (w_0 : Int), w_0 = (if σ.2.1 8 63 ≤ -v7 then -v7 else σ.2.1 8 63) → A G m_MO_layMark 399 [(0, O 8), (1, I v1), (2, I v2), (3, I v3), (4, I v4), (5, I v5), (7, I v7), (8, I v8)] [I w_0, O 8] σ136 P := by
          intro w_0 z_0
          subst z_0
          obtain ⟨o144, h⟩ := h
          refine r_put (q := 402) fl_MO_452 (dc dt_MO_layMark 224 rfl) rfl ly8 (fun _ => rfl) (Or.inl rfl) pf_8_63 o144 (fun σ142 e143 => ?_)
          have h := h σ142 e143
          refine r_aload_n (q := 403) (dc dt_MO_layMark 225 rfl) rfl rfl 0 rfl ?_
          refine r_dupo (q := 404) (dc dt_MO_layMark 226 rfl) rfl ?_
          refine r_getI (q := 407) (v := σ.2.1 8 55) fl_MO_446 (dc dt_MO_layMark 227 rfl) rfl ly8 rfl (by rw [e143, e137, e131, e128, e123, e119, e115, e111]; rfl) (fun g145 => ?_)
          refine r_iconst (q := 408) (dc dt_MO_layMark 228 rfl) rfl rfl ?_
          refine r_iadd (q := 409) (dc dt_MO_layMark 229 rfl) rfl ?_
          obtain ⟨o148, h⟩ := h
          refine r_put (q := 412) fl_MO_446 (dc dt_MO_layMark 230 rfl) rfl ly8 (fun _ => rfl) (Or.inl rfl) pf_8_55 o148 (fun σ146 e147 => ?_)
          have h := h σ146 e147
          exact r_vret rfl (dc dt_MO_layMark 231 rfl) h
        clear h
        refine r_icmp_le (q := 389) (t := 396) (dc dt_MO_layMark 218 rfl) rfl (by decide) g139 o140 (fun q_ => ?_) (fun q_ => ?_)
        · have q206 := q_
          refine r_iload (q := 398) (dc dt_MO_layMark 222 rfl) rfl 6 rfl ?_
          refine r_ineg (q := 399) (dc dt_MO_layMark 223 rfl) rfl ?_
          exact (hJ (-v7) ((if_pos (by first | omega | grind)).symm))
        · have q206 := q_
          refine r_aload_n (q := 390) (dc dt_MO_layMark 219 rfl) rfl rfl 0 rfl ?_
          refine r_getI (q := 393) (v := σ.2.1 8 63) fl_MO_452 (dc dt_MO_layMark 220 rfl) rfl ly8 rfl (by rw [e137, e131, e128, e123, e119, e115, e111]; rfl) (fun g141 => ?_)
          refine r_goto (q := 399) (dc dt_MO_layMark 221 rfl) (by decide) ?_
          exact (hJ (σ.2.1 8 63) ((if_neg (by first | omega | grind)).symm))
      clear h
      refine r_icmp_le (q := 359) (t := 366) (dc dt_MO_layMark 202 rfl) rfl (by decide) g132 o126 (fun q_ => ?_) (fun q_ => ?_)
      · have q207 := q_
        refine r_iload (q := 368) (dc dt_MO_layMark 206 rfl) rfl 6 rfl ?_
        refine r_aload_n (q := 369) (dc dt_MO_layMark 207 rfl) rfl rfl 0 rfl ?_
        refine r_getO (q := 372) (v := 98) fl_MO_38 (dc dt_MO_layMark 208 rfl) rfl ly8 rfl ?_
        refine r_iload_n (q := 373) (dc dt_MO_layMark 209 rfl) rfl rfl 3 rfl ?_
        refine r_iald (q := 374) (v := σ.1 98 v3.toNat) (dc dt_MO_layMark 210 rfl) rfl ly98 o103 (by rw [e131, e128, e123, e119, e115, e111]; rfl) (fun g134 => ?_)
        refine r_iadd (q := 375) (dc dt_MO_layMark 211 rfl) rfl ?_
        exact (hJ (v7 + (σ.1 98 v3.toNat)) ((if_pos (by first | omega | grind)).symm))
      · have q207 := q_
        refine r_aload_n (q := 360) (dc dt_MO_layMark 203 rfl) rfl rfl 0 rfl ?_
        refine r_getI (q := 363) (v := σ.2.1 8 62) fl_MO_449 (dc dt_MO_layMark 204 rfl) rfl ly8 rfl (by rw [e131, e128, e123, e119, e115, e111]; rfl) (fun g135 => ?_)
        refine r_goto (q := 375) (dc dt_MO_layMark 205 rfl) (by decide) ?_
        exact (hJ (σ.2.1 8 62) ((if_neg (by first | omega | grind)).symm))
    · have h := h.2 q_
      refine r_aload_n (q := 222) (dc dt_MO_layMark 125 rfl) rfl rfl 0 rfl ?_
      refine r_iload (q := 224) (dc dt_MO_layMark 126 rfl) rfl 4 rfl ?_
      refine r_iload (q := 226) (dc dt_MO_layMark 127 rfl) rfl 4 rfl ?_
      refine r_aload_n (q := 227) (dc dt_MO_layMark 128 rfl) rfl rfl 0 rfl ?_
      refine r_getO (q := 230) (v := 97) fl_MO_35 (dc dt_MO_layMark 129 rfl) rfl ly8 rfl ?_
      refine r_iload_n (q := 231) (dc dt_MO_layMark 130 rfl) rfl rfl 3 rfl ?_
      refine r_iald (q := 232) (v := σ.1 97 v3.toNat) (dc dt_MO_layMark 131 rfl) rfl ly97 o103 rfl (fun g149 => ?_)
      refine r_iadd (q := 233) (dc dt_MO_layMark 132 rfl) rfl ?_
      refine r_iload (q := 235) (dc dt_MO_layMark 133 rfl) rfl 6 rfl ?_
      refine r_iload (q := 237) (dc dt_MO_layMark 134 rfl) rfl 6 rfl ?_
      refine r_aload_n (q := 238) (dc dt_MO_layMark 135 rfl) rfl rfl 0 rfl ?_
      refine r_getO (q := 241) (v := 98) fl_MO_38 (dc dt_MO_layMark 136 rfl) rfl ly8 rfl ?_
      refine r_iload_n (q := 242) (dc dt_MO_layMark 137 rfl) rfl rfl 3 rfl ?_
      refine r_iald (q := 243) (v := σ.1 98 v3.toNat) (dc dt_MO_layMark 138 rfl) rfl ly98 o103 rfl (fun g150 => ?_)
      refine r_iadd (q := 244) (dc dt_MO_layMark 139 rfl) rfl ?_
      refine r_callVi (q := 247) mk_MO_touches lm_MO_458 (RMO.of rfl) rfl (dc dt_MO_layMark 140 rfl) rfl ly8 [I v4, I (v4 + (σ.1 97 v3.toNat)), I v7, I (v7 + (σ.1 98 v3.toNat))] [] rfl rfl (Nat.le_of_ble_eq_true rfl) h (fun r152 u151 g153 h => ?_)
      refine r_if_eq (q := 250) (t := 271) (dc dt_MO_layMark 141 rfl) rfl (by decide) g153 (fun q_ => ?_) (fun q_ => ?_)
      · have h := h.1 q_
        refine r_aload_n (q := 272) (dc dt_MO_layMark 152 rfl) rfl rfl 0 rfl ?_
        refine r_getO (q := 275) (v := 133) fl_MO_144 (dc dt_MO_layMark 153 rfl) rfl ly8 rfl ?_
        refine r_aload_n (q := 276) (dc dt_MO_layMark 154 rfl) rfl rfl 0 rfl ?_
        refine r_getI (q := 279) (v := u151.2.1 8 55) fl_MO_446 (dc dt_MO_layMark 155 rfl) rfl ly8 rfl rfl (fun g155 => ?_)
        refine r_iload_n (q := 280) (dc dt_MO_layMark 156 rfl) rfl rfl 1 rfl ?_
        obtain ⟨o156, h⟩ := h
        obtain ⟨o157, h⟩ := h
        refine r_iast (q := 281) (dc dt_MO_layMark 157 rfl) rfl ly133 o156 o157 (fun σ158 e159 => ?_)
        have h := h σ158 e159
        refine r_aload_n (q := 282) (dc dt_MO_layMark 158 rfl) rfl rfl 0 rfl ?_
        refine r_getO (q := 285) (v := 134) fl_MO_147 (dc dt_MO_layMark 159 rfl) rfl ly8 rfl ?_
        refine r_aload_n (q := 286) (dc dt_MO_layMark 160 rfl) rfl rfl 0 rfl ?_
        refine r_getI (q := 289) (v := u151.2.1 8 55) fl_MO_446 (dc dt_MO_layMark 161 rfl) rfl ly8 rfl (by rw [e159]; rfl) (fun g160 => ?_)
        refine r_iload_n (q := 290) (dc dt_MO_layMark 162 rfl) rfl rfl 2 rfl ?_
        obtain ⟨o161, h⟩ := h
        refine r_iast (q := 291) (dc dt_MO_layMark 163 rfl) rfl ly134 o156 o161 (fun σ162 e163 => ?_)
        have h := h σ162 e163
        refine r_aload_n (q := 292) (dc dt_MO_layMark 164 rfl) rfl rfl 0 rfl ?_
        refine r_getO (q := 295) (v := 135) fl_MO_150 (dc dt_MO_layMark 165 rfl) rfl ly8 rfl ?_
        refine r_aload_n (q := 296) (dc dt_MO_layMark 166 rfl) rfl rfl 0 rfl ?_
        refine r_getI (q := 299) (v := u151.2.1 8 55) fl_MO_446 (dc dt_MO_layMark 167 rfl) rfl ly8 rfl (by rw [e163, e159]; rfl) (fun g164 => ?_)
        refine r_iload (q := 301) (dc dt_MO_layMark 168 rfl) rfl 4 rfl ?_
        obtain ⟨o165, h⟩ := h
        refine r_iast (q := 302) (dc dt_MO_layMark 169 rfl) rfl ly135 o156 o165 (fun σ166 e167 => ?_)
        have h := h σ166 e167
        refine r_aload_n (q := 303) (dc dt_MO_layMark 170 rfl) rfl rfl 0 rfl ?_
        refine r_getO (q := 306) (v := 136) fl_MO_153 (dc dt_MO_layMark 171 rfl) rfl ly8 rfl ?_
        refine r_aload_n (q := 307) (dc dt_MO_layMark 172 rfl) rfl rfl 0 rfl ?_
        refine r_getI (q := 310) (v := u151.2.1 8 55) fl_MO_446 (dc dt_MO_layMark 173 rfl) rfl ly8 rfl (by rw [e167, e163, e159]; rfl) (fun g168 => ?_)
        refine r_iload (q := 312) (dc dt_MO_layMark 174 rfl) rfl 6 rfl ?_
        obtain ⟨o169, h⟩ := h
        refine r_iast (q := 313) (dc dt_MO_layMark 175 rfl) rfl ly136 o156 o169 (fun σ170 e171 => ?_)
        have h := h σ170 e171
        refine r_aload_n (q := 314) (dc dt_MO_layMark 176 rfl) rfl rfl 0 rfl ?_
        refine r_getO (q := 317) (v := 137) fl_MO_156 (dc dt_MO_layMark 177 rfl) rfl ly8 rfl ?_
        refine r_aload_n (q := 318) (dc dt_MO_layMark 178 rfl) rfl rfl 0 rfl ?_
        refine r_getI (q := 321) (v := u151.2.1 8 55) fl_MO_446 (dc dt_MO_layMark 179 rfl) rfl ly8 rfl (by rw [e171, e167, e163, e159]; rfl) (fun g172 => ?_)
        refine r_iload (q := 323) (dc dt_MO_layMark 180 rfl) rfl 6 rfl ?_
        refine r_aload_n (q := 324) (dc dt_MO_layMark 181 rfl) rfl rfl 0 rfl ?_
        refine r_getO (q := 327) (v := 98) fl_MO_38 (dc dt_MO_layMark 182 rfl) rfl ly8 rfl ?_
        refine r_iload_n (q := 328) (dc dt_MO_layMark 183 rfl) rfl rfl 3 rfl ?_
        refine r_iald (q := 329) (v := u151.1 98 v3.toNat) (dc dt_MO_layMark 184 rfl) rfl ly98 o103 (by rw [e171, e167, e163, e159]; rfl) (fun g173 => ?_)
        refine r_iadd (q := 330) (dc dt_MO_layMark 185 rfl) rfl ?_
        obtain ⟨o174, h⟩ := h
        refine r_iast (q := 331) (dc dt_MO_layMark 186 rfl) rfl ly137 o156 o174 (fun σ175 e176 => ?_)
        have h := h σ175 e176
        refine r_aload_n (q := 332) (dc dt_MO_layMark 187 rfl) rfl rfl 0 rfl ?_
        refine r_getO (q := 335) (v := 138) fl_MO_159 (dc dt_MO_layMark 188 rfl) rfl ly8 rfl ?_
        refine r_aload_n (q := 336) (dc dt_MO_layMark 189 rfl) rfl rfl 0 rfl ?_
        refine r_getI (q := 339) (v := u151.2.1 8 55) fl_MO_446 (dc dt_MO_layMark 190 rfl) rfl ly8 rfl (by rw [e176, e171, e167, e163, e159]; rfl) (fun g177 => ?_)
        refine r_iload (q := 341) (dc dt_MO_layMark 191 rfl) rfl 7 rfl ?_
        refine r_iast (q := 342) (dc dt_MO_layMark 192 rfl) rfl ly138 o156 o55 (fun σ178 e179 => ?_)
        have h := h σ178 e179
        refine r_aload_n (q := 343) (dc dt_MO_layMark 193 rfl) rfl rfl 0 rfl ?_
        refine r_aload_n (q := 344) (dc dt_MO_layMark 194 rfl) rfl rfl 0 rfl ?_
        refine r_getI (q := 347) (v := u151.2.1 8 62) fl_MO_449 (dc dt_MO_layMark 195 rfl) rfl ly8 rfl (by rw [e179, e176, e171, e167, e163, e159]; rfl) (fun g180 => ?_)
        refine r_iload (q := 349) (dc dt_MO_layMark 196 rfl) rfl 6 rfl ?_
        refine r_aload_n (q := 350) (dc dt_MO_layMark 197 rfl) rfl rfl 0 rfl ?_
        refine r_getO (q := 353) (v := 98) fl_MO_38 (dc dt_MO_layMark 198 rfl) rfl ly8 rfl ?_
        refine r_iload_n (q := 354) (dc dt_MO_layMark 199 rfl) rfl rfl 3 rfl ?_
        refine r_iald (q := 355) (v := u151.1 98 v3.toNat) (dc dt_MO_layMark 200 rfl) rfl ly98 o103 (by rw [e179, e176, e171, e167, e163, e159]; rfl) (fun g181 => ?_)
        refine r_iadd (q := 356) (dc dt_MO_layMark 201 rfl) rfl ?_
        have hJ : ∀ (w_0 : Int), w_0 = (if u151.2.1 8 62 ≤ v7 + (u151.1 98 v3.toNat) then v7 + (u151.1 98 v3.toNat) else u151.2.1 8 62) → A G m_MO_layMark 375 [(0, O 8), (1, I v1), (2, I v2), (3, I v3), (4, I v4), (5, I v5), (7, I v7), (8, I v8)] [I w_0, O 8] σ178 P := by
          intro w_0 z_0
          subst z_0
          obtain ⟨o186, h⟩ := h
          refine r_put (q := 378) fl_MO_449 (dc dt_MO_layMark 212 rfl) rfl ly8 (fun _ => rfl) (Or.inl rfl) pf_8_62 o186 (fun σ184 e185 => ?_)
          have h := h σ184 e185
          refine r_aload_n (q := 379) (dc dt_MO_layMark 213 rfl) rfl rfl 0 rfl ?_
          refine r_aload_n (q := 380) (dc dt_MO_layMark 214 rfl) rfl rfl 0 rfl ?_
          refine r_getI (q := 383) (v := u151.2.1 8 63) fl_MO_452 (dc dt_MO_layMark 215 rfl) rfl ly8 rfl (by rw [e185, e179, e176, e171, e167, e163, e159]; rfl) (fun g187 => ?_)
          refine r_iload (q := 385) (dc dt_MO_layMark 216 rfl) rfl 6 rfl ?_
          refine r_ineg (q := 386) (dc dt_MO_layMark 217 rfl) rfl ?_
          obtain ⟨o188, h⟩ := h
          have hJ : ∀ (w_0 : Int), w_0 = (if u151.2.1 8 63 ≤ -v7 then -v7 else u151.2.1 8 63) → A G m_MO_layMark 399 [(0, O 8), (1, I v1), (2, I v2), (3, I v3), (4, I v4), (5, I v5), (7, I v7), (8, I v8)] [I w_0, O 8] σ184 P := by
            intro w_0 z_0
            subst z_0
            obtain ⟨o192, h⟩ := h
            refine r_put (q := 402) fl_MO_452 (dc dt_MO_layMark 224 rfl) rfl ly8 (fun _ => rfl) (Or.inl rfl) pf_8_63 o192 (fun σ190 e191 => ?_)
            have h := h σ190 e191
            refine r_aload_n (q := 403) (dc dt_MO_layMark 225 rfl) rfl rfl 0 rfl ?_
            refine r_dupo (q := 404) (dc dt_MO_layMark 226 rfl) rfl ?_
            refine r_getI (q := 407) (v := u151.2.1 8 55) fl_MO_446 (dc dt_MO_layMark 227 rfl) rfl ly8 rfl (by rw [e191, e185, e179, e176, e171, e167, e163, e159]; rfl) (fun g193 => ?_)
            refine r_iconst (q := 408) (dc dt_MO_layMark 228 rfl) rfl rfl ?_
            refine r_iadd (q := 409) (dc dt_MO_layMark 229 rfl) rfl ?_
            obtain ⟨o196, h⟩ := h
            refine r_put (q := 412) fl_MO_446 (dc dt_MO_layMark 230 rfl) rfl ly8 (fun _ => rfl) (Or.inl rfl) pf_8_55 o196 (fun σ194 e195 => ?_)
            have h := h σ194 e195
            exact r_vret rfl (dc dt_MO_layMark 231 rfl) h
          clear h
          refine r_icmp_le (q := 389) (t := 396) (dc dt_MO_layMark 218 rfl) rfl (by decide) g187 o188 (fun q_ => ?_) (fun q_ => ?_)
          · have q208 := q_
            refine r_iload (q := 398) (dc dt_MO_layMark 222 rfl) rfl 6 rfl ?_
            refine r_ineg (q := 399) (dc dt_MO_layMark 223 rfl) rfl ?_
            exact (hJ (-v7) ((if_pos (by first | omega | grind)).symm))
          · have q208 := q_
            refine r_aload_n (q := 390) (dc dt_MO_layMark 219 rfl) rfl rfl 0 rfl ?_
            refine r_getI (q := 393) (v := u151.2.1 8 63) fl_MO_452 (dc dt_MO_layMark 220 rfl) rfl ly8 rfl (by rw [e185, e179, e176, e171, e167, e163, e159]; rfl) (fun g189 => ?_)
            refine r_goto (q := 399) (dc dt_MO_layMark 221 rfl) (by decide) ?_
            exact (hJ (u151.2.1 8 63) ((if_neg (by first | omega | grind)).symm))
        clear h
        refine r_icmp_le (q := 359) (t := 366) (dc dt_MO_layMark 202 rfl) rfl (by decide) g180 o174 (fun q_ => ?_) (fun q_ => ?_)
        · have q209 := q_
          refine r_iload (q := 368) (dc dt_MO_layMark 206 rfl) rfl 6 rfl ?_
          refine r_aload_n (q := 369) (dc dt_MO_layMark 207 rfl) rfl rfl 0 rfl ?_
          refine r_getO (q := 372) (v := 98) fl_MO_38 (dc dt_MO_layMark 208 rfl) rfl ly8 rfl ?_
          refine r_iload_n (q := 373) (dc dt_MO_layMark 209 rfl) rfl rfl 3 rfl ?_
          refine r_iald (q := 374) (v := u151.1 98 v3.toNat) (dc dt_MO_layMark 210 rfl) rfl ly98 o103 (by rw [e179, e176, e171, e167, e163, e159]; rfl) (fun g182 => ?_)
          refine r_iadd (q := 375) (dc dt_MO_layMark 211 rfl) rfl ?_
          exact (hJ (v7 + (u151.1 98 v3.toNat)) ((if_pos (by first | omega | grind)).symm))
        · have q209 := q_
          refine r_aload_n (q := 360) (dc dt_MO_layMark 203 rfl) rfl rfl 0 rfl ?_
          refine r_getI (q := 363) (v := u151.2.1 8 62) fl_MO_449 (dc dt_MO_layMark 204 rfl) rfl ly8 rfl (by rw [e179, e176, e171, e167, e163, e159]; rfl) (fun g183 => ?_)
          refine r_goto (q := 375) (dc dt_MO_layMark 205 rfl) (by decide) ?_
          exact (hJ (u151.2.1 8 62) ((if_neg (by first | omega | grind)).symm))
      · have h := h.2 q_
        refine r_iload (q := 252) (dc dt_MO_layMark 142 rfl) rfl 6 rfl ?_
        refine r_iload (q := 254) (dc dt_MO_layMark 143 rfl) rfl 5 rfl ?_
        obtain ⟨o197, h⟩ := h
        have hJ : ∀ (w_0 : Int), w_0 = (if v5 = 0 then (-1 : Int) else (1 : Int)) → A G m_MO_layMark 262 [(0, O 8), (1, I v1), (2, I v2), (3, I v3), (4, I v4), (5, I v5), (7, I v7), (8, I v8)] [I w_0, I v7] u151 P := by
          intro w_0 z_0
          subst z_0
          refine r_iadd (q := 263) (dc dt_MO_layMark 148 rfl) rfl ?_
          refine r_istore (q := 265) (dc dt_MO_layMark 149 rfl) rfl (by decide) rfl ?_
          refine r_iinc (q := 268) (k := 7) (dc dt_MO_layMark 150 rfl) rfl rfl (by decide) rfl ?_
          refine r_goto (q := 204) (dc dt_MO_layMark 151 rfl) (by decide) ?_
          exact r_loc [2, 3, 4, 5, 6, 7, 1, 0] rfl h
        clear h
        refine r_if_eq (q := 257) (t := 261) (dc dt_MO_layMark 144 rfl) rfl (by decide) o197 (fun q_ => ?_) (fun q_ => ?_)
        · have q210 := q_
          refine r_iconst (q := 262) (dc dt_MO_layMark 147 rfl) rfl rfl ?_
          exact (hJ (-1) ((if_pos (by first | omega | grind)).symm))
        · have q210 := q_
          refine r_iconst (q := 258) (dc dt_MO_layMark 145 rfl) rfl rfl ?_
          refine r_goto (q := 262) (dc dt_MO_layMark 146 rfl) (by decide) ?_
          exact (hJ 1 ((if_neg (by first | omega | grind)).symm))
def tb_MO_layMarks : List (Nat × Instr × Nat) := [(0, .aload_n 0, 1), (1, .iconst 0, 1), (2, .putfield 446, 3), (5, .aload_n 0, 1), (6, .iconst 0, 1), (7, .putfield 449, 3), (10, .aload_n 0, 1), (11, .iconst 0, 1), (12, .putfield 452, 3), (15, .iconst 0, 1), (16, .istore_n 1, 1), (17, .iload_n 1, 1), (18, .aload_n 0, 1), (19, .getfield 395, 3), (22, .if_icmp .ge 89, 3), (25, .aload_n 0, 1), (26, .aload_n 0, 1), (27, .getfield 449, 3), (30, .aload_n 0, 1), (31, .getfield 38, 3), (34, .aload_n 0, 1), (35, .getfield 129, 3), (38, .iload_n 1, 1), (39, .iaload, 1), (40, .iaload, 1), (41, .if_icmp .le 10, 3), (44, .aload_n 0, 1), (45, .getfield 449, 3), (48, .goto 14, 3), (51, .aload_n 0, 1), (52, .getfield 38, 3), (55, .aload_n 0, 1), (56, .getfield 129, 3), (59, .iload_n 1, 1), (60, .iaload, 1), (61, .iaload, 1), (62, .putfield 449, 3), (65, .aload_n 0, 1), (66, .aload_n 0, 1), (67, .getfield 452, 3), (70, .aload_n 0, 1), (71, .getfield 41, 3), (74, .aload_n 0, 1), (75, .getfield 129, 3), (78, .iload_n 1, 1), (79, .iaload, 1), (80, .iaload, 1), (81, .if_icmp .le 10, 3), (84, .aload_n 0, 1), (85, .getfield 452, 3), (88, .goto 14, 3), (91, .aload_n 0, 1), (92, .getfield 41, 3), (95, .aload_n 0, 1), (96, .getfield 129, 3), (99, .iload_n 1, 1), (100, .iaload, 1), (101, .iaload, 1), (102, .putfield 452, 3), (105, .iinc 1 1, 3), (108, .goto (-91), 3), (111, .aload_n 0, 1), (112, .getfield 404, 3), (115, .istore_n 1, 1), (116, .iload_n 1, 1), (117, .aload_n 0, 1), (118, .getfield 407, 3), (121, .if_icmp .gt 50, 3), (124, .aload_n 0, 1), (125, .getfield 7, 3), (128, .aload_n 0, 1), (129, .getfield 62, 3), (132, .iload_n 1, 1), (133, .iaload, 1), (134, .iaload, 1), (135, .bipush 6, 2), (137, .if_icmp .eq 28, 3), (140, .aload_n 0, 1), (141, .getfield 92, 3), (144, .iload_n 1, 1), (145, .baload, 1), (146, .ifCond .eq 19, 3), (149, .aload_n 0, 1), (150, .iload_n 1, 1), (151, .aload_n 0, 1), (152, .getfield 141, 3), (155, .aload_n 0, 1), (156, .getfield 89, 3), (159, .iload_n 1, 1), (160, .iaload, 1), (161, .iaload, 1), (162, .invokevirtual 455, 3), (165, .iinc 1 1, 3), (168, .goto (-52), 3), (171, .return_, 1)]
theorem dt_MO_layMarks : DT (cM m_MO_layMarks) tb_MO_layMarks := by unfold DT; decide +kernel
abbrev a_MO_layMarks_0 (G : GT)   (σ : St) (P : Int → St → Prop) : Prop := A G m_MO_layMarks 0 [(0, O 8)] [] σ P
abbrev a_MO_layMarks_17 (G : GT)  (v1 : Int) (σ : St) (P : Int → St → Prop) : Prop := A G m_MO_layMarks 17 [(0, O 8), (1, I v1)] [] σ P
abbrev a_MO_layMarks_116 (G : GT)  (v1 : Int) (σ : St) (P : Int → St → Prop) : Prop := A G m_MO_layMarks 116 [(0, O 8), (1, I v1)] [] σ P
set_option maxRecDepth 20000 in
theorem k_MO_layMarks_0 {G : GT} {σ : St} {P : Int → St → Prop}    
    (h : (∀ σ1, σ1 = sf σ 8 55 0 → (∀ σ3, σ3 = sf σ1 8 62 0 → (∀ σ5, σ5 = sf σ3 8 63 0 → a_MO_layMarks_17 G 0 σ5 P)))) :
    a_MO_layMarks_0 G  σ P := by
  refine r_aload_n (q := 1) (dc dt_MO_layMarks 0 rfl) rfl rfl 0 rfl ?_
  refine r_iconst (q := 2) (dc dt_MO_layMarks 1 rfl) rfl rfl ?_
  refine r_put (q := 5) fl_MO_446 (dc dt_MO_layMarks 2 rfl) rfl ly8 (fun _ => rfl) (Or.inl rfl) pf_8_55 (⟨by decide, by decide⟩ : rng 0) (fun σ1 e2 => ?_)
  have h := h σ1 e2
  refine r_aload_n (q := 6) (dc dt_MO_layMarks 3 rfl) rfl rfl 0 rfl ?_
  refine r_iconst (q := 7) (dc dt_MO_layMarks 4 rfl) rfl rfl ?_
  refine r_put (q := 10) fl_MO_449 (dc dt_MO_layMarks 5 rfl) rfl ly8 (fun _ => rfl) (Or.inl rfl) pf_8_62 (⟨by decide, by decide⟩ : rng 0) (fun σ3 e4 => ?_)
  have h := h σ3 e4
  refine r_aload_n (q := 11) (dc dt_MO_layMarks 6 rfl) rfl rfl 0 rfl ?_
  refine r_iconst (q := 12) (dc dt_MO_layMarks 7 rfl) rfl rfl ?_
  refine r_put (q := 15) fl_MO_452 (dc dt_MO_layMarks 8 rfl) rfl ly8 (fun _ => rfl) (Or.inl rfl) pf_8_63 (⟨by decide, by decide⟩ : rng 0) (fun σ5 e6 => ?_)
  have h := h σ5 e6
  refine r_iconst (q := 16) (dc dt_MO_layMarks 9 rfl) rfl rfl ?_
  refine r_istore_n (q := 17) (dc dt_MO_layMarks 10 rfl) rfl rfl (by decide) rfl ?_
  exact r_loc [1, 0] rfl h
set_option maxRecDepth 20000 in
theorem k_MO_layMarks_17 {G : GT} {σ : St} {P : Int → St → Prop}  {v1 : Int}  
    (h : rng v1 ∧ (σ.2.1 8 44 ≤ v1 → a_MO_layMarks_116 G (σ.2.1 8 64) σ P) ∧ (v1 < σ.2.1 8 44 → (0 ≤ v1 ∧ v1 < 80) ∧ (0 ≤ σ.1 128 v1.toNat ∧ σ.1 128 v1.toNat < 200) ∧ rng (if σ.2.1 8 62 ≤ σ.1 98 ((σ.1 128 v1.toNat).toNat) then σ.1 98 ((σ.1 128 v1.toNat).toNat) else σ.2.1 8 62) ∧ (∀ σ28, σ28 = sf σ 8 62 (if σ.2.1 8 62 ≤ σ.1 98 ((σ.1 128 v1.toNat).toNat) then σ.1 98 ((σ.1 128 v1.toNat).toNat) else σ.2.1 8 62) → rng (if σ.2.1 8 63 ≤ σ.1 99 ((σ.1 128 v1.toNat).toNat) then σ.1 99 ((σ.1 128 v1.toNat).toNat) else σ.2.1 8 63) ∧ (∀ σ37, σ37 = sf σ28 8 63 (if σ.2.1 8 63 ≤ σ.1 99 ((σ.1 128 v1.toNat).toNat) then σ.1 99 ((σ.1 128 v1.toNat).toNat) else σ.2.1 8 63) → a_MO_layMarks_17 G (v1 + 1) σ37 P)))) :
    a_MO_layMarks_17 G v1 σ P := by
  refine r_iload_n (q := 18) (dc dt_MO_layMarks 11 rfl) rfl rfl 1 rfl ?_
  refine r_aload_n (q := 19) (dc dt_MO_layMarks 12 rfl) rfl rfl 0 rfl ?_
  refine r_getI (q := 22) (v := σ.2.1 8 44) fl_MO_395 (dc dt_MO_layMarks 13 rfl) rfl ly8 rfl rfl (fun g7 => ?_)
  obtain ⟨o8, h⟩ := h
  refine r_icmp_ge (q := 25) (t := 111) (dc dt_MO_layMarks 14 rfl) rfl (by decide) o8 g7 (fun q_ => ?_) (fun q_ => ?_)
  · have h := h.1 q_
    refine r_aload_n (q := 112) (dc dt_MO_layMarks 61 rfl) rfl rfl 0 rfl ?_
    refine r_getI (q := 115) (v := σ.2.1 8 64) fl_MO_404 (dc dt_MO_layMarks 62 rfl) rfl ly8 rfl rfl (fun g19 => ?_)
    refine r_istore_n (q := 116) (dc dt_MO_layMarks 63 rfl) rfl rfl (by decide) rfl ?_
    exact r_loc [1, 0] rfl h
  · have h := h.2 q_
    refine r_aload_n (q := 26) (dc dt_MO_layMarks 15 rfl) rfl rfl 0 rfl ?_
    refine r_aload_n (q := 27) (dc dt_MO_layMarks 16 rfl) rfl rfl 0 rfl ?_
    refine r_getI (q := 30) (v := σ.2.1 8 62) fl_MO_449 (dc dt_MO_layMarks 17 rfl) rfl ly8 rfl rfl (fun g20 => ?_)
    refine r_aload_n (q := 31) (dc dt_MO_layMarks 18 rfl) rfl rfl 0 rfl ?_
    refine r_getO (q := 34) (v := 98) fl_MO_38 (dc dt_MO_layMarks 19 rfl) rfl ly8 rfl ?_
    refine r_aload_n (q := 35) (dc dt_MO_layMarks 20 rfl) rfl rfl 0 rfl ?_
    refine r_getO (q := 38) (v := 128) fl_MO_129 (dc dt_MO_layMarks 21 rfl) rfl ly8 rfl ?_
    refine r_iload_n (q := 39) (dc dt_MO_layMarks 22 rfl) rfl rfl 1 rfl ?_
    obtain ⟨o21, h⟩ := h
    refine r_iald (q := 40) (v := σ.1 128 v1.toNat) (dc dt_MO_layMarks 23 rfl) rfl ly128 o21 rfl (fun g22 => ?_)
    obtain ⟨o23, h⟩ := h
    refine r_iald (q := 41) (v := σ.1 98 ((σ.1 128 v1.toNat).toNat)) (dc dt_MO_layMarks 24 rfl) rfl ly98 o23 rfl (fun g24 => ?_)
    have hJ : ∀ (w_0 : Int), w_0 = (if σ.2.1 8 62 ≤ σ.1 98 ((σ.1 128 v1.toNat).toNat) then σ.1 98 ((σ.1 128 v1.toNat).toNat) else σ.2.1 8 62) → A G m_MO_layMarks 62 [(0, O 8), (1, I v1)] [I w_0, O 8] σ P := by
      intro w_0 z_0
      subst z_0
      obtain ⟨o30, h⟩ := h
      refine r_put (q := 65) fl_MO_449 (dc dt_MO_layMarks 36 rfl) rfl ly8 (fun _ => rfl) (Or.inl rfl) pf_8_62 o30 (fun σ28 e29 => ?_)
      have h := h σ28 e29
      refine r_aload_n (q := 66) (dc dt_MO_layMarks 37 rfl) rfl rfl 0 rfl ?_
      refine r_aload_n (q := 67) (dc dt_MO_layMarks 38 rfl) rfl rfl 0 rfl ?_
      refine r_getI (q := 70) (v := σ.2.1 8 63) fl_MO_452 (dc dt_MO_layMarks 39 rfl) rfl ly8 rfl (by rw [e29]; rfl) (fun g31 => ?_)
      refine r_aload_n (q := 71) (dc dt_MO_layMarks 40 rfl) rfl rfl 0 rfl ?_
      refine r_getO (q := 74) (v := 99) fl_MO_41 (dc dt_MO_layMarks 41 rfl) rfl ly8 rfl ?_
      refine r_aload_n (q := 75) (dc dt_MO_layMarks 42 rfl) rfl rfl 0 rfl ?_
      refine r_getO (q := 78) (v := 128) fl_MO_129 (dc dt_MO_layMarks 43 rfl) rfl ly8 rfl ?_
      refine r_iload_n (q := 79) (dc dt_MO_layMarks 44 rfl) rfl rfl 1 rfl ?_
      refine r_iald (q := 80) (v := σ.1 128 v1.toNat) (dc dt_MO_layMarks 45 rfl) rfl ly128 o21 (by rw [e29]; rfl) (fun g32 => ?_)
      refine r_iald (q := 81) (v := σ.1 99 ((σ.1 128 v1.toNat).toNat)) (dc dt_MO_layMarks 46 rfl) rfl ly99 o23 (by rw [e29]; rfl) (fun g33 => ?_)
      have hJ : ∀ (w_0 : Int), w_0 = (if σ.2.1 8 63 ≤ σ.1 99 ((σ.1 128 v1.toNat).toNat) then σ.1 99 ((σ.1 128 v1.toNat).toNat) else σ.2.1 8 63) → A G m_MO_layMarks 102 [(0, O 8), (1, I v1)] [I w_0, O 8] σ28 P := by
        intro w_0 z_0
        subst z_0
        obtain ⟨o39, h⟩ := h
        refine r_put (q := 105) fl_MO_452 (dc dt_MO_layMarks 58 rfl) rfl ly8 (fun _ => rfl) (Or.inl rfl) pf_8_63 o39 (fun σ37 e38 => ?_)
        have h := h σ37 e38
        refine r_iinc (q := 108) (k := 1) (dc dt_MO_layMarks 59 rfl) rfl rfl (by decide) rfl ?_
        refine r_goto (q := 17) (dc dt_MO_layMarks 60 rfl) (by decide) ?_
        exact r_loc [1, 0] rfl h
      clear h
      refine r_icmp_le (q := 84) (t := 91) (dc dt_MO_layMarks 47 rfl) rfl (by decide) g31 g33 (fun q_ => ?_) (fun q_ => ?_)
      · have q66 := q_
        refine r_aload_n (q := 92) (dc dt_MO_layMarks 51 rfl) rfl rfl 0 rfl ?_
        refine r_getO (q := 95) (v := 99) fl_MO_41 (dc dt_MO_layMarks 52 rfl) rfl ly8 rfl ?_
        refine r_aload_n (q := 96) (dc dt_MO_layMarks 53 rfl) rfl rfl 0 rfl ?_
        refine r_getO (q := 99) (v := 128) fl_MO_129 (dc dt_MO_layMarks 54 rfl) rfl ly8 rfl ?_
        refine r_iload_n (q := 100) (dc dt_MO_layMarks 55 rfl) rfl rfl 1 rfl ?_
        refine r_iald (q := 101) (v := σ.1 128 v1.toNat) (dc dt_MO_layMarks 56 rfl) rfl ly128 o21 (by rw [e29]; rfl) (fun g34 => ?_)
        refine r_iald (q := 102) (v := σ.1 99 ((σ.1 128 v1.toNat).toNat)) (dc dt_MO_layMarks 57 rfl) rfl ly99 o23 (by rw [e29]; rfl) (fun g35 => ?_)
        exact (hJ (σ.1 99 ((σ.1 128 v1.toNat).toNat)) ((if_pos (by first | omega | grind)).symm))
      · have q66 := q_
        refine r_aload_n (q := 85) (dc dt_MO_layMarks 48 rfl) rfl rfl 0 rfl ?_
        refine r_getI (q := 88) (v := σ.2.1 8 63) fl_MO_452 (dc dt_MO_layMarks 49 rfl) rfl ly8 rfl (by rw [e29]; rfl) (fun g36 => ?_)
        refine r_goto (q := 102) (dc dt_MO_layMarks 50 rfl) (by decide) ?_
        exact (hJ (σ.2.1 8 63) ((if_neg (by first | omega | grind)).symm))
    clear h
    refine r_icmp_le (q := 44) (t := 51) (dc dt_MO_layMarks 25 rfl) rfl (by decide) g20 g24 (fun q_ => ?_) (fun q_ => ?_)
    · have q67 := q_
      refine r_aload_n (q := 52) (dc dt_MO_layMarks 29 rfl) rfl rfl 0 rfl ?_
      refine r_getO (q := 55) (v := 98) fl_MO_38 (dc dt_MO_layMarks 30 rfl) rfl ly8 rfl ?_
      refine r_aload_n (q := 56) (dc dt_MO_layMarks 31 rfl) rfl rfl 0 rfl ?_
      refine r_getO (q := 59) (v := 128) fl_MO_129 (dc dt_MO_layMarks 32 rfl) rfl ly8 rfl ?_
      refine r_iload_n (q := 60) (dc dt_MO_layMarks 33 rfl) rfl rfl 1 rfl ?_
      refine r_iald (q := 61) (v := σ.1 128 v1.toNat) (dc dt_MO_layMarks 34 rfl) rfl ly128 o21 rfl (fun g25 => ?_)
      refine r_iald (q := 62) (v := σ.1 98 ((σ.1 128 v1.toNat).toNat)) (dc dt_MO_layMarks 35 rfl) rfl ly98 o23 rfl (fun g26 => ?_)
      exact (hJ (σ.1 98 ((σ.1 128 v1.toNat).toNat)) ((if_pos (by first | omega | grind)).symm))
    · have q67 := q_
      refine r_aload_n (q := 45) (dc dt_MO_layMarks 26 rfl) rfl rfl 0 rfl ?_
      refine r_getI (q := 48) (v := σ.2.1 8 62) fl_MO_449 (dc dt_MO_layMarks 27 rfl) rfl ly8 rfl rfl (fun g27 => ?_)
      refine r_goto (q := 62) (dc dt_MO_layMarks 28 rfl) (by decide) ?_
      exact (hJ (σ.2.1 8 62) ((if_neg (by first | omega | grind)).symm))
set_option maxRecDepth 20000 in
theorem k_MO_layMarks_116 {G : GT} {σ : St} {P : Int → St → Prop}  {v1 : Int}  
    (h : rng v1 ∧ (σ.2.1 8 65 < v1 → P 0 σ) ∧ (v1 ≤ σ.2.1 8 65 → (0 ≤ v1 ∧ v1 < 80) ∧ (0 ≤ σ.1 106 v1.toNat ∧ σ.1 106 v1.toNat < 60) ∧ (σ.1 89 ((σ.1 106 v1.toNat).toNat) = 6 → a_MO_layMarks_116 G (v1 + 1) σ P) ∧ (σ.1 89 ((σ.1 106 v1.toNat).toNat) ≠ 6 → (σ.1 116 v1.toNat = 0 → a_MO_layMarks_116 G (v1 + 1) σ P) ∧ (σ.1 116 v1.toNat ≠ 0 → (0 ≤ σ.1 115 v1.toNat ∧ σ.1 115 v1.toNat < 80) ∧ CJ G m_MO_layMark [O 8, I v1, I (σ.1 132 ((σ.1 115 v1.toNat).toNat))] σ (fun _ u65 => a_MO_layMarks_116 G (v1 + 1) u65 P))))) :
    a_MO_layMarks_116 G v1 σ P := by
  refine r_iload_n (q := 117) (dc dt_MO_layMarks 64 rfl) rfl rfl 1 rfl ?_
  refine r_aload_n (q := 118) (dc dt_MO_layMarks 65 rfl) rfl rfl 0 rfl ?_
  refine r_getI (q := 121) (v := σ.2.1 8 65) fl_MO_407 (dc dt_MO_layMarks 66 rfl) rfl ly8 rfl rfl (fun g40 => ?_)
  obtain ⟨o41, h⟩ := h
  refine r_icmp_gt (q := 124) (t := 171) (dc dt_MO_layMarks 67 rfl) rfl (by decide) o41 g40 (fun q_ => ?_) (fun q_ => ?_)
  · have h := h.1 q_
    exact r_vret rfl (dc dt_MO_layMarks 94 rfl) h
  · have h := h.2 q_
    refine r_aload_n (q := 125) (dc dt_MO_layMarks 68 rfl) rfl rfl 0 rfl ?_
    refine r_getO (q := 128) (v := 89) fl_MO_7 (dc dt_MO_layMarks 69 rfl) rfl ly8 rfl ?_
    refine r_aload_n (q := 129) (dc dt_MO_layMarks 70 rfl) rfl rfl 0 rfl ?_
    refine r_getO (q := 132) (v := 106) fl_MO_62 (dc dt_MO_layMarks 71 rfl) rfl ly8 rfl ?_
    refine r_iload_n (q := 133) (dc dt_MO_layMarks 72 rfl) rfl rfl 1 rfl ?_
    obtain ⟨o50, h⟩ := h
    refine r_iald (q := 134) (v := σ.1 106 v1.toNat) (dc dt_MO_layMarks 73 rfl) rfl ly106 o50 rfl (fun g51 => ?_)
    obtain ⟨o52, h⟩ := h
    refine r_iald (q := 135) (v := σ.1 89 ((σ.1 106 v1.toNat).toNat)) (dc dt_MO_layMarks 74 rfl) rfl ly89 o52 rfl (fun g53 => ?_)
    refine r_bipush (q := 137) (dc dt_MO_layMarks 75 rfl) rfl (by decide) ?_
    refine r_icmp_eq (q := 140) (t := 165) (dc dt_MO_layMarks 76 rfl) rfl (by decide) g53 (⟨by decide, by decide⟩ : rng 6) (fun q_ => ?_) (fun q_ => ?_)
    · have h := h.1 q_
      refine r_iinc (q := 168) (k := 1) (dc dt_MO_layMarks 92 rfl) rfl rfl (by decide) rfl ?_
      refine r_goto (q := 116) (dc dt_MO_layMarks 93 rfl) (by decide) ?_
      exact r_loc [1, 0] rfl h
    · have h := h.2 q_
      refine r_aload_n (q := 141) (dc dt_MO_layMarks 77 rfl) rfl rfl 0 rfl ?_
      refine r_getO (q := 144) (v := 116) fl_MO_92 (dc dt_MO_layMarks 78 rfl) rfl ly8 rfl ?_
      refine r_iload_n (q := 145) (dc dt_MO_layMarks 79 rfl) rfl rfl 1 rfl ?_
      refine r_zald (q := 146) (v := σ.1 116 v1.toNat) (dc dt_MO_layMarks 80 rfl) rfl ly116 o50 rfl (fun g58 => ?_)
      refine r_if_eq (q := 149) (t := 165) (dc dt_MO_layMarks 81 rfl) rfl (by decide) g58 (fun q_ => ?_) (fun q_ => ?_)
      · have h := h.1 q_
        refine r_iinc (q := 168) (k := 1) (dc dt_MO_layMarks 92 rfl) rfl rfl (by decide) rfl ?_
        refine r_goto (q := 116) (dc dt_MO_layMarks 93 rfl) (by decide) ?_
        exact r_loc [1, 0] rfl h
      · have h := h.2 q_
        refine r_aload_n (q := 150) (dc dt_MO_layMarks 82 rfl) rfl rfl 0 rfl ?_
        refine r_iload_n (q := 151) (dc dt_MO_layMarks 83 rfl) rfl rfl 1 rfl ?_
        refine r_aload_n (q := 152) (dc dt_MO_layMarks 84 rfl) rfl rfl 0 rfl ?_
        refine r_getO (q := 155) (v := 132) fl_MO_141 (dc dt_MO_layMarks 85 rfl) rfl ly8 rfl ?_
        refine r_aload_n (q := 156) (dc dt_MO_layMarks 86 rfl) rfl rfl 0 rfl ?_
        refine r_getO (q := 159) (v := 115) fl_MO_89 (dc dt_MO_layMarks 87 rfl) rfl ly8 rfl ?_
        refine r_iload_n (q := 160) (dc dt_MO_layMarks 88 rfl) rfl rfl 1 rfl ?_
        refine r_iald (q := 161) (v := σ.1 115 v1.toNat) (dc dt_MO_layMarks 89 rfl) rfl ly115 o50 rfl (fun g62 => ?_)
        obtain ⟨o63, h⟩ := h
        refine r_iald (q := 162) (v := σ.1 132 ((σ.1 115 v1.toNat).toNat)) (dc dt_MO_layMarks 90 rfl) rfl ly132 o63 rfl (fun g64 => ?_)
        refine r_callVv (q := 165) mk_MO_layMark lm_MO_455 (RMO.of rfl) rfl (dc dt_MO_layMarks 91 rfl) rfl ly8 [I v1, I (σ.1 132 ((σ.1 115 v1.toNat).toNat))] [] rfl rfl (Nat.le_of_ble_eq_true rfl) h (fun u65 h => ?_)
        refine r_iinc (q := 168) (k := 1) (dc dt_MO_layMarks 92 rfl) rfl rfl (by decide) rfl ?_
        refine r_goto (q := 116) (dc dt_MO_layMarks 93 rfl) (by decide) ?_
        exact r_loc [1, 0] rfl h
def tb_MO_fill : List (Nat × Instr × Nat) := [(0, .aload_n 0, 1), (1, .iload_n 1, 1), (2, .iload_n 2, 1), (3, .invokevirtual 424, 3), (6, .ifCond .ne 5, 3), (9, .iconst 0, 1), (10, .ireturn, 1), (11, .aload_n 0, 1), (12, .getfield 80, 3), (15, .iload_n 1, 1), (16, .iaload, 1), (17, .istore 4, 2), (19, .aload_n 0, 1), (20, .getfield 83, 3), (23, .iload_n 2, 1), (24, .iaload, 1), (25, .istore 5, 2), (27, .aload_n 0, 1), (28, .iload 4, 2), (30, .iload 5, 2), (32, .invokevirtual 427, 3), (35, .aload_n 0, 1), (36, .getfield 117, 3), (39, .iload 4, 2), (41, .iload_n 3, 1), (42, .iconst 0, 1), (43, .invokestatic 372, 3), (46, .iaload, 1), (47, .ldc_w 376, 3), (50, .if_icmp .lt 5, 3), (53, .iconst 0, 1), (54, .ireturn, 1), (55, .aload_n 0, 1), (56, .iload_n 1, 1), (57, .iload_n 2, 1), (58, .invokevirtual 430, 3), (61, .iload 4, 2), (63, .istore 6, 2), (65, .iload_n 3, 1), (66, .istore 7, 2), (68, .iconst 0, 1), (69, .istore 8, 2), (71, .iload 6, 2), (73, .iload 5, 2), (75, .if_icmp .ge 48, 3), (78, .aload_n 0, 1), (79, .getfield 398, 3), (82, .istore 9, 2), (84, .aload_n 0, 1), (85, .iload 6, 2), (87, .iload 7, 2), (89, .iload 8, 2), (91, .iload 5, 2), (93, .invokevirtual 433, 3), (96, .iload 7, 2), (98, .aload_n 0, 1), (99, .getfield 398, 3), (102, .iload 9, 2), (104, .isub, 1), (105, .isub, 1), (106, .istore 7, 2), (108, .aload_n 0, 1), (109, .getfield 418, 3), (112, .istore 6, 2), (114, .aload_n 0, 1), (115, .getfield 421, 3), (118, .istore 8, 2), (120, .goto (-49), 3), (123, .aload_n 0, 1), (124, .invokevirtual 436, 3), (127, .iconst 1, 1), (128, .ireturn, 1)]
theorem dt_MO_fill : DT (cM m_MO_fill) tb_MO_fill := by unfold DT; decide +kernel
abbrev a_MO_fill_0 (G : GT)  (v1 : Int) (v2 : Int) (v3 : Int) (σ : St) (P : Int → St → Prop) : Prop := A G m_MO_fill 0 [(0, O 8), (1, I v1), (2, I v2), (3, I v3)] [] σ P
abbrev a_MO_fill_71 (G : GT)  (v5 : Int) (v6 : Int) (v7 : Int) (v8 : Int) (σ : St) (P : Int → St → Prop) : Prop := A G m_MO_fill 71 [(0, O 8), (5, I v5), (6, I v6), (7, I v7), (8, I v8)] [] σ P
set_option maxRecDepth 20000 in
theorem k_MO_fill_0 {G : GT} {σ : St} {P : Int → St → Prop}  {v1 : Int} {v2 : Int} {v3 : Int}  
    (h : CJ G m_MO_haveForms [O 8, I v1, I v2] σ (fun r2 u1 => (r2 ≠ 0 → (0 ≤ v1 ∧ v1 < 80) ∧ (0 ≤ v2 ∧ v2 < 80) ∧ CJ G m_MO_findLeast [O 8, I (u1.1 112 v1.toNat), I (u1.1 113 v2.toNat)] u1 (fun _ u8 => rng (((((u1.1 112 v1.toNat) * 301) + v3) * 4) + 0) ∧ (0 ≤ ((((u1.1 112 v1.toNat) * 301) + v3) * 4) + 0 ∧ ((((u1.1 112 v1.toNat) * 301) + v3) * 4) + 0 < 97524) ∧ (u8.1 124 ((((((u1.1 112 v1.toNat) * 301) + v3) * 4) + 0).toNat) < 536870912 → CJ G m_MO_beginSet [O 8, I v1, I v2] u8 (fun _ u13 => a_MO_fill_71 G (u1.1 113 v2.toNat) (u1.1 112 v1.toNat) v3 0 u13 P)) ∧ (536870912 ≤ u8.1 124 ((((((u1.1 112 v1.toNat) * 301) + v3) * 4) + 0).toNat) → P 0 u8))) ∧ (r2 = 0 → P 0 u1))) :
    a_MO_fill_0 G v1 v2 v3 σ P := by
  refine r_aload_n (q := 1) (dc dt_MO_fill 0 rfl) rfl rfl 0 rfl ?_
  refine r_iload_n (q := 2) (dc dt_MO_fill 1 rfl) rfl rfl 1 rfl ?_
  refine r_iload_n (q := 3) (dc dt_MO_fill 2 rfl) rfl rfl 2 rfl ?_
  refine r_callVi (q := 6) mk_MO_haveForms lm_MO_424 (RMO.of rfl) rfl (dc dt_MO_fill 3 rfl) rfl ly8 [I v1, I v2] [] rfl rfl (Nat.le_of_ble_eq_true rfl) h (fun r2 u1 g3 h => ?_)
  refine r_if_ne (q := 9) (t := 11) (dc dt_MO_fill 4 rfl) rfl (by decide) g3 (fun q_ => ?_) (fun q_ => ?_)
  · have h := h.1 q_
    refine r_aload_n (q := 12) (dc dt_MO_fill 7 rfl) rfl rfl 0 rfl ?_
    refine r_getO (q := 15) (v := 112) fl_MO_80 (dc dt_MO_fill 8 rfl) rfl ly8 rfl ?_
    refine r_iload_n (q := 16) (dc dt_MO_fill 9 rfl) rfl rfl 1 rfl ?_
    obtain ⟨o4, h⟩ := h
    refine r_iald (q := 17) (v := u1.1 112 v1.toNat) (dc dt_MO_fill 10 rfl) rfl ly112 o4 rfl (fun g5 => ?_)
    refine r_istore (q := 19) (dc dt_MO_fill 11 rfl) rfl (by decide) rfl ?_
    refine r_aload_n (q := 20) (dc dt_MO_fill 12 rfl) rfl rfl 1 rfl ?_
    refine r_getO (q := 23) (v := 113) fl_MO_83 (dc dt_MO_fill 13 rfl) rfl ly8 rfl ?_
    refine r_iload_n (q := 24) (dc dt_MO_fill 14 rfl) rfl rfl 3 rfl ?_
    obtain ⟨o6, h⟩ := h
    refine r_iald (q := 25) (v := u1.1 113 v2.toNat) (dc dt_MO_fill 15 rfl) rfl ly113 o6 rfl (fun g7 => ?_)
    refine r_istore (q := 27) (dc dt_MO_fill 16 rfl) rfl (by decide) rfl ?_
    refine r_aload_n (q := 28) (dc dt_MO_fill 17 rfl) rfl rfl 2 rfl ?_
    refine r_iload (q := 30) (dc dt_MO_fill 18 rfl) rfl 1 rfl ?_
    refine r_iload (q := 32) (dc dt_MO_fill 19 rfl) rfl 0 rfl ?_
    refine r_callVv (q := 35) mk_MO_findLeast lm_MO_427 (RMO.of rfl) rfl (dc dt_MO_fill 20 rfl) rfl ly8 [I (u1.1 112 v1.toNat), I (u1.1 113 v2.toNat)] [] rfl rfl (Nat.le_of_ble_eq_true rfl) h (fun u8 h => ?_)
    refine r_aload_n (q := 36) (dc dt_MO_fill 21 rfl) rfl rfl 2 rfl ?_
    refine r_getO (q := 39) (v := 124) fl_MO_117 (dc dt_MO_fill 22 rfl) rfl ly8 rfl ?_
    refine r_iload (q := 41) (dc dt_MO_fill 23 rfl) rfl 1 rfl ?_
    refine r_iload_n (q := 42) (dc dt_MO_fill 24 rfl) rfl rfl 5 rfl ?_
    refine r_iconst (q := 43) (dc dt_MO_fill 25 rfl) rfl rfl ?_
    obtain ⟨o9, h⟩ := h
    refine r_callSi (q := 46) mk_MO_at lm_MO_372 (RMO.of rfl) rfl (dc dt_MO_fill 26 rfl) rfl [I (u1.1 112 v1.toNat), I v3, I 0] [O 124] rfl rfl (Nat.le_of_ble_eq_true rfl) (sp_MO_at o9) (fun _ _ g10 z => ?_)
    obtain ⟨z, w⟩ := z
    subst z
    replace w := w.symm
    subst w
    obtain ⟨o11, h⟩ := h
    refine r_iald (q := 47) (v := u8.1 124 ((((((u1.1 112 v1.toNat) * 301) + v3) * 4) + 0).toNat)) (dc dt_MO_fill 27 rfl) rfl ly124 o11 rfl (fun g12 => ?_)
    refine r_ldcw (q := 50) (n := 536870912) (dc dt_MO_fill 28 rfl) rfl (gt_at 1622 (by decide +kernel) rfl) ?_
    refine r_icmp_lt (q := 53) (t := 55) (dc dt_MO_fill 29 rfl) rfl (by decide) g12 (⟨by decide, by decide⟩ : rng 536870912) (fun q_ => ?_) (fun q_ => ?_)
    · have h := h.1 q_
      refine r_aload_n (q := 56) (dc dt_MO_fill 32 rfl) rfl rfl 2 rfl ?_
      refine r_iload_n (q := 57) (dc dt_MO_fill 33 rfl) rfl rfl 3 rfl ?_
      refine r_iload_n (q := 58) (dc dt_MO_fill 34 rfl) rfl rfl 4 rfl ?_
      refine r_callVv (q := 61) mk_MO_beginSet lm_MO_430 (RMO.of rfl) rfl (dc dt_MO_fill 35 rfl) rfl ly8 [I v1, I v2] [] rfl rfl (Nat.le_of_ble_eq_true rfl) h (fun u13 h => ?_)
      refine r_iload (q := 63) (dc dt_MO_fill 36 rfl) rfl 1 rfl ?_
      refine r_istore (q := 65) (dc dt_MO_fill 37 rfl) rfl (by decide) rfl ?_
      refine r_iload_n (q := 66) (dc dt_MO_fill 38 rfl) rfl rfl 6 rfl ?_
      refine r_istore (q := 68) (dc dt_MO_fill 39 rfl) rfl (by decide) rfl ?_
      refine r_iconst (q := 69) (dc dt_MO_fill 40 rfl) rfl rfl ?_
      refine r_istore (q := 71) (dc dt_MO_fill 41 rfl) rfl (by decide) rfl ?_
      exact r_loc [5, 3, 2, 1, 0] rfl h
    · have h := h.2 q_
      refine r_iconst (q := 54) (dc dt_MO_fill 30 rfl) rfl rfl ?_
      exact r_zret rfl (dc dt_MO_fill 31 rfl) (by decide) h
  · have h := h.2 q_
    refine r_iconst (q := 10) (dc dt_MO_fill 5 rfl) rfl rfl ?_
    exact r_zret rfl (dc dt_MO_fill 6 rfl) (by decide) h
set_option maxRecDepth 20000 in
theorem k_MO_fill_71 {G : GT} {σ : St} {P : Int → St → Prop}  {v5 : Int} {v6 : Int} {v7 : Int} {v8 : Int}  
    (h : rng v6 ∧ rng v5 ∧ (v5 ≤ v6 → CJ G m_MO_layMarks [O 8] σ (fun _ u17 => P 1 u17)) ∧ (v6 < v5 → CJ G m_MO_choose [O 8, I v6, I v7, I v8, I v5] σ (fun _ u19 => a_MO_fill_71 G v5 (u19.2.1 8 66) (v7 - ((u19.2.1 8 53) - (σ.2.1 8 53))) (u19.2.1 8 67) u19 P))) :
    a_MO_fill_71 G v5 v6 v7 v8 σ P := by
  refine r_iload (q := 73) (dc dt_MO_fill 42 rfl) rfl 2 rfl ?_
  refine r_iload (q := 75) (dc dt_MO_fill 43 rfl) rfl 1 rfl ?_
  obtain ⟨o14, h⟩ := h
  obtain ⟨o15, h⟩ := h
  refine r_icmp_ge (q := 78) (t := 123) (dc dt_MO_fill 44 rfl) rfl (by decide) o14 o15 (fun q_ => ?_) (fun q_ => ?_)
  · have h := h.1 q_
    refine r_aload_n (q := 124) (dc dt_MO_fill 68 rfl) rfl rfl 0 rfl ?_
    refine r_callVv (q := 127) mk_MO_layMarks lm_MO_436 (RMO.of rfl) rfl (dc dt_MO_fill 69 rfl) rfl ly8 [] [] rfl rfl (Nat.le_of_ble_eq_true rfl) h (fun u17 h => ?_)
    refine r_iconst (q := 128) (dc dt_MO_fill 70 rfl) rfl rfl ?_
    exact r_zret rfl (dc dt_MO_fill 71 rfl) (by decide) h
  · have h := h.2 q_
    refine r_aload_n (q := 79) (dc dt_MO_fill 45 rfl) rfl rfl 0 rfl ?_
    refine r_getI (q := 82) (v := σ.2.1 8 53) fl_MO_398 (dc dt_MO_fill 46 rfl) rfl ly8 rfl rfl (fun g18 => ?_)
    refine r_istore (q := 84) (dc dt_MO_fill 47 rfl) rfl (by decide) rfl ?_
    refine r_aload_n (q := 85) (dc dt_MO_fill 48 rfl) rfl rfl 1 rfl ?_
    refine r_iload (q := 87) (dc dt_MO_fill 49 rfl) rfl 3 rfl ?_
    refine r_iload (q := 89) (dc dt_MO_fill 50 rfl) rfl 4 rfl ?_
    refine r_iload (q := 91) (dc dt_MO_fill 51 rfl) rfl 5 rfl ?_
    refine r_iload (q := 93) (dc dt_MO_fill 52 rfl) rfl 2 rfl ?_
    refine r_callVv (q := 96) mk_MO_choose lm_MO_433 (RMO.of rfl) rfl (dc dt_MO_fill 53 rfl) rfl ly8 [I v6, I v7, I v8, I v5] [] rfl rfl (Nat.le_of_ble_eq_true rfl) h (fun u19 h => ?_)
    refine r_iload (q := 98) (dc dt_MO_fill 54 rfl) rfl 4 rfl ?_
    refine r_aload_n (q := 99) (dc dt_MO_fill 55 rfl) rfl rfl 1 rfl ?_
    refine r_getI (q := 102) (v := u19.2.1 8 53) fl_MO_398 (dc dt_MO_fill 56 rfl) rfl ly8 rfl rfl (fun g20 => ?_)
    refine r_iload (q := 104) (dc dt_MO_fill 57 rfl) rfl 0 rfl ?_
    refine r_isub (q := 105) (dc dt_MO_fill 58 rfl) rfl ?_
    refine r_isub (q := 106) (dc dt_MO_fill 59 rfl) rfl ?_
    refine r_istore (q := 108) (dc dt_MO_fill 60 rfl) rfl (by decide) rfl ?_
    refine r_aload_n (q := 109) (dc dt_MO_fill 61 rfl) rfl rfl 2 rfl ?_
    refine r_getI (q := 112) (v := u19.2.1 8 66) fl_MO_418 (dc dt_MO_fill 62 rfl) rfl ly8 rfl rfl (fun g21 => ?_)
    refine r_istore (q := 114) (dc dt_MO_fill 63 rfl) rfl (by decide) rfl ?_
    refine r_aload_n (q := 115) (dc dt_MO_fill 64 rfl) rfl rfl 3 rfl ?_
    refine r_getI (q := 118) (v := u19.2.1 8 67) fl_MO_421 (dc dt_MO_fill 65 rfl) rfl ly8 rfl rfl (fun g22 => ?_)
    refine r_istore (q := 120) (dc dt_MO_fill 66 rfl) rfl (by decide) rfl ?_
    refine r_goto (q := 71) (dc dt_MO_fill 67 rfl) (by decide) ?_
    exact r_loc [4, 5, 1, 2, 0] rfl h
def tb_MO_canBePlain : List (Nat × Instr × Nat) := [(0, .aload_n 0, 1), (1, .iload_n 1, 1), (2, .iload_n 2, 1), (3, .invokevirtual 424, 3), (6, .istore_n 3, 1), (7, .aload_n 0, 1), (8, .getfield 80, 3), (11, .iload_n 1, 1), (12, .iaload, 1), (13, .istore 4, 2), (15, .iload 4, 2), (17, .aload_n 0, 1), (18, .getfield 83, 3), (21, .iload_n 2, 1), (22, .iaload, 1), (23, .if_icmp .ge 41, 3), (26, .iload_n 3, 1), (27, .ifCond .eq 37, 3), (30, .aload_n 0, 1), (31, .aload_n 0, 1), (32, .getfield 98, 3), (35, .iload 4, 2), (37, .iaload, 1), (38, .aload_n 0, 1), (39, .iload 4, 2), (41, .iload 4, 2), (43, .invokevirtual 366, 3), (46, .invokevirtual 369, 3), (49, .ifCond .lt 7, 3), (52, .iconst 1, 1), (53, .goto 4, 3), (56, .iconst 0, 1), (57, .istore_n 3, 1), (58, .iinc 4 1, 3), (61, .goto (-46), 3), (64, .iload_n 3, 1), (65, .ireturn, 1)]
theorem dt_MO_canBePlain : DT (cM m_MO_canBePlain) tb_MO_canBePlain := by unfold DT; decide +kernel
abbrev a_MO_canBePlain_0 (G : GT)  (v1 : Int) (v2 : Int) (σ : St) (P : Int → St → Prop) : Prop := A G m_MO_canBePlain 0 [(0, O 8), (1, I v1), (2, I v2)] [] σ P
abbrev a_MO_canBePlain_15 (G : GT)  (v2 : Int) (v3 : Int) (v4 : Int) (σ : St) (P : Int → St → Prop) : Prop := A G m_MO_canBePlain 15 [(0, O 8), (2, I v2), (3, I v3), (4, I v4)] [] σ P
set_option maxRecDepth 20000 in
theorem k_MO_canBePlain_0 {G : GT} {σ : St} {P : Int → St → Prop}  {v1 : Int} {v2 : Int}  
    (h : CJ G m_MO_haveForms [O 8, I v1, I v2] σ (fun r2 u1 => (0 ≤ v1 ∧ v1 < 80) ∧ a_MO_canBePlain_15 G v2 r2 (u1.1 112 v1.toNat) u1 P)) :
    a_MO_canBePlain_0 G v1 v2 σ P := by
  refine r_aload_n (q := 1) (dc dt_MO_canBePlain 0 rfl) rfl rfl 0 rfl ?_
  refine r_iload_n (q := 2) (dc dt_MO_canBePlain 1 rfl) rfl rfl 1 rfl ?_
  refine r_iload_n (q := 3) (dc dt_MO_canBePlain 2 rfl) rfl rfl 2 rfl ?_
  refine r_callVi (q := 6) mk_MO_haveForms lm_MO_424 (RMO.of rfl) rfl (dc dt_MO_canBePlain 3 rfl) rfl ly8 [I v1, I v2] [] rfl rfl (Nat.le_of_ble_eq_true rfl) h (fun r2 u1 g3 h => ?_)
  refine r_istore_n (q := 7) (dc dt_MO_canBePlain 4 rfl) rfl rfl (by decide) rfl ?_
  refine r_aload_n (q := 8) (dc dt_MO_canBePlain 5 rfl) rfl rfl 1 rfl ?_
  refine r_getO (q := 11) (v := 112) fl_MO_80 (dc dt_MO_canBePlain 6 rfl) rfl ly8 rfl ?_
  refine r_iload_n (q := 12) (dc dt_MO_canBePlain 7 rfl) rfl rfl 2 rfl ?_
  obtain ⟨o4, h⟩ := h
  refine r_iald (q := 13) (v := u1.1 112 v1.toNat) (dc dt_MO_canBePlain 8 rfl) rfl ly112 o4 rfl (fun g5 => ?_)
  refine r_istore (q := 15) (dc dt_MO_canBePlain 9 rfl) rfl (by decide) rfl ?_
  exact r_loc [2, 4, 1, 0] rfl h
set_option maxRecDepth 20000 in
theorem k_MO_canBePlain_15 {G : GT} {σ : St} {P : Int → St → Prop}  {v2 : Int} {v3 : Int} {v4 : Int}  
    (h : (0 ≤ v2 ∧ v2 < 80) ∧ rng v4 ∧ (σ.1 113 v2.toNat ≤ v4 → (v3 = 0 ∨ v3 = 1) ∧ P v3 σ) ∧ (v4 < σ.1 113 v2.toNat → rng v3 ∧ (v3 = 0 → (v3 = 0 ∨ v3 = 1) ∧ P v3 σ) ∧ (v3 ≠ 0 → (0 ≤ v4 ∧ v4 < 80) ∧ p_MO_placeOf σ v4 v4 ∧ p_MO_plainOf σ (σ.1 118 v4.toNat) (f_MO_placeOf σ v4 v4) ∧ a_MO_canBePlain_15 G v2 (if 0 ≤ f_MO_plainOf σ (σ.1 118 v4.toNat) (f_MO_placeOf σ v4 v4) then 1 else 0) (v4 + 1) σ P))) :
    a_MO_canBePlain_15 G v2 v3 v4 σ P := by
  refine r_iload (q := 17) (dc dt_MO_canBePlain 10 rfl) rfl 3 rfl ?_
  refine r_aload_n (q := 18) (dc dt_MO_canBePlain 11 rfl) rfl rfl 0 rfl ?_
  refine r_getO (q := 21) (v := 113) fl_MO_83 (dc dt_MO_canBePlain 12 rfl) rfl ly8 rfl ?_
  refine r_iload_n (q := 22) (dc dt_MO_canBePlain 13 rfl) rfl rfl 1 rfl ?_
  obtain ⟨o6, h⟩ := h
  refine r_iald (q := 23) (v := σ.1 113 v2.toNat) (dc dt_MO_canBePlain 14 rfl) rfl ly113 o6 rfl (fun g7 => ?_)
  obtain ⟨o8, h⟩ := h
  refine r_icmp_ge (q := 26) (t := 64) (dc dt_MO_canBePlain 15 rfl) rfl (by decide) o8 g7 (fun q_ => ?_) (fun q_ => ?_)
  · have h := h.1 q_
    refine r_iload_n (q := 65) (dc dt_MO_canBePlain 35 rfl) rfl rfl 2 rfl ?_
    obtain ⟨o16, h⟩ := h
    exact r_zret rfl (dc dt_MO_canBePlain 36 rfl) o16 h
  · have h := h.2 q_
    refine r_iload_n (q := 27) (dc dt_MO_canBePlain 16 rfl) rfl rfl 2 rfl ?_
    obtain ⟨o17, h⟩ := h
    refine r_if_eq (q := 30) (t := 64) (dc dt_MO_canBePlain 17 rfl) rfl (by decide) o17 (fun q_ => ?_) (fun q_ => ?_)
    · have h := h.1 q_
      refine r_iload_n (q := 65) (dc dt_MO_canBePlain 35 rfl) rfl rfl 2 rfl ?_
      obtain ⟨o24, h⟩ := h
      exact r_zret rfl (dc dt_MO_canBePlain 36 rfl) o24 h
    · have h := h.2 q_
      refine r_aload_n (q := 31) (dc dt_MO_canBePlain 18 rfl) rfl rfl 0 rfl ?_
      refine r_aload_n (q := 32) (dc dt_MO_canBePlain 19 rfl) rfl rfl 0 rfl ?_
      refine r_getO (q := 35) (v := 118) fl_MO_98 (dc dt_MO_canBePlain 20 rfl) rfl ly8 rfl ?_
      refine r_iload (q := 37) (dc dt_MO_canBePlain 21 rfl) rfl 3 rfl ?_
      obtain ⟨o25, h⟩ := h
      refine r_iald (q := 38) (v := σ.1 118 v4.toNat) (dc dt_MO_canBePlain 22 rfl) rfl ly118 o25 rfl (fun g26 => ?_)
      refine r_aload_n (q := 39) (dc dt_MO_canBePlain 23 rfl) rfl rfl 0 rfl ?_
      refine r_iload (q := 41) (dc dt_MO_canBePlain 24 rfl) rfl 3 rfl ?_
      refine r_iload (q := 43) (dc dt_MO_canBePlain 25 rfl) rfl 3 rfl ?_
      obtain ⟨o27, h⟩ := h
      refine r_callVi (q := 46) mk_MO_placeOf lm_MO_366 (RMO.of rfl) rfl (dc dt_MO_canBePlain 26 rfl) rfl ly8 [I v4, I v4] [I (σ.1 118 v4.toNat), O 8] rfl rfl (Nat.le_of_ble_eq_true rfl) (sp_MO_placeOf o27) (fun _ _ g28 z => ?_)
      obtain ⟨z, w⟩ := z
      subst z
      replace w := w.symm
      subst w
      obtain ⟨o29, h⟩ := h
      refine r_callVi (q := 49) mk_MO_plainOf lm_MO_369 (RMO.of rfl) rfl (dc dt_MO_canBePlain 27 rfl) rfl ly8 [I (σ.1 118 v4.toNat), I (f_MO_placeOf σ v4 v4)] [] rfl rfl (Nat.le_of_ble_eq_true rfl) (sp_MO_plainOf o29) (fun _ _ g30 z => ?_)
      obtain ⟨z, w⟩ := z
      subst z
      replace w := w.symm
      subst w
      have hJ : ∀ (w_0 : Int), w_0 = (if 0 ≤ f_MO_plainOf σ (σ.1 118 v4.toNat) (f_MO_placeOf σ v4 v4) then 1 else 0) → A G m_MO_canBePlain 57 [(0, O 8), (2, I v2), (3, I v3), (4, I v4)] [I w_0] σ P := by
        intro w_0 z_0
        subst z_0
        refine r_istore_n (q := 58) (dc dt_MO_canBePlain 32 rfl) rfl rfl (by decide) rfl ?_
        refine r_iinc (q := 61) (k := 3) (dc dt_MO_canBePlain 33 rfl) rfl rfl (by decide) rfl ?_
        refine r_goto (q := 15) (dc dt_MO_canBePlain 34 rfl) (by decide) ?_
        exact r_loc [2, 3, 1, 0] rfl h
      clear h
      refine r_if_lt (q := 52) (t := 56) (dc dt_MO_canBePlain 28 rfl) rfl (by decide) g30 (fun q_ => ?_) (fun q_ => ?_)
      · have q31 := q_
        refine r_iconst (q := 57) (dc dt_MO_canBePlain 31 rfl) rfl rfl ?_
        exact (hJ 0 ((if_neg (by first | omega | grind)).symm))
      · have q31 := q_
        refine r_iconst (q := 53) (dc dt_MO_canBePlain 29 rfl) rfl rfl ?_
        refine r_goto (q := 57) (dc dt_MO_canBePlain 30 rfl) (by decide) ?_
        exact (hJ 1 ((if_pos (by first | omega | grind)).symm))
def tb_MO_setPlain : List (Nat × Instr × Nat) := [(0, .aload_n 0, 1), (1, .iload_n 1, 1), (2, .iload_n 2, 1), (3, .invokevirtual 439, 3), (6, .ifCond .ne 5, 3), (9, .iconst 0, 1), (10, .ireturn, 1), (11, .aload_n 0, 1), (12, .iload_n 1, 1), (13, .iload_n 2, 1), (14, .invokevirtual 430, 3), (17, .aload_n 0, 1), (18, .getfield 80, 3), (21, .iload_n 1, 1), (22, .iaload, 1), (23, .istore_n 3, 1), (24, .iload_n 3, 1), (25, .aload_n 0, 1), (26, .getfield 83, 3), (29, .iload_n 2, 1), (30, .iaload, 1), (31, .if_icmp .ge 40, 3), (34, .aload_n 0, 1), (35, .iload_n 3, 1), (36, .iload_n 3, 1), (37, .iconst 1, 1), (38, .iadd, 1), (39, .aload_n 0, 1), (40, .getfield 98, 3), (43, .iload_n 3, 1), (44, .iaload, 1), (45, .aload_n 0, 1), (46, .aload_n 0, 1), (47, .getfield 98, 3), (50, .iload_n 3, 1), (51, .iaload, 1), (52, .aload_n 0, 1), (53, .iload_n 3, 1), (54, .iload_n 3, 1), (55, .invokevirtual 366, 3), (58, .invokevirtual 369, 3), (61, .iconst 0, 1), (62, .invokevirtual 414, 3), (65, .iinc 3 1, 3), (68, .goto (-44), 3), (71, .aload_n 0, 1), (72, .invokevirtual 436, 3), (75, .iconst 1, 1), (76, .ireturn, 1)]
theorem dt_MO_setPlain : DT (cM m_MO_setPlain) tb_MO_setPlain := by unfold DT; decide +kernel
abbrev a_MO_setPlain_0 (G : GT)  (v1 : Int) (v2 : Int) (σ : St) (P : Int → St → Prop) : Prop := A G m_MO_setPlain 0 [(0, O 8), (1, I v1), (2, I v2)] [] σ P
abbrev a_MO_setPlain_24 (G : GT)  (v2 : Int) (v3 : Int) (σ : St) (P : Int → St → Prop) : Prop := A G m_MO_setPlain 24 [(0, O 8), (2, I v2), (3, I v3)] [] σ P
set_option maxRecDepth 20000 in
theorem k_MO_setPlain_0 {G : GT} {σ : St} {P : Int → St → Prop}  {v1 : Int} {v2 : Int}  
    (h : CJ G m_MO_canBePlain [O 8, I v1, I v2] σ (fun r2 u1 => (r2 ≠ 0 → CJ G m_MO_beginSet [O 8, I v1, I v2] u1 (fun _ u4 => (0 ≤ v1 ∧ v1 < 80) ∧ a_MO_setPlain_24 G v2 (u4.1 112 v1.toNat) u4 P)) ∧ (r2 = 0 → P 0 u1))) :
    a_MO_setPlain_0 G v1 v2 σ P := by
  refine r_aload_n (q := 1) (dc dt_MO_setPlain 0 rfl) rfl rfl 0 rfl ?_
  refine r_iload_n (q := 2) (dc dt_MO_setPlain 1 rfl) rfl rfl 1 rfl ?_
  refine r_iload_n (q := 3) (dc dt_MO_setPlain 2 rfl) rfl rfl 2 rfl ?_
  refine r_callVi (q := 6) mk_MO_canBePlain lm_MO_439 (RMO.of rfl) rfl (dc dt_MO_setPlain 3 rfl) rfl ly8 [I v1, I v2] [] rfl rfl (Nat.le_of_ble_eq_true rfl) h (fun r2 u1 g3 h => ?_)
  refine r_if_ne (q := 9) (t := 11) (dc dt_MO_setPlain 4 rfl) rfl (by decide) g3 (fun q_ => ?_) (fun q_ => ?_)
  · have h := h.1 q_
    refine r_aload_n (q := 12) (dc dt_MO_setPlain 7 rfl) rfl rfl 0 rfl ?_
    refine r_iload_n (q := 13) (dc dt_MO_setPlain 8 rfl) rfl rfl 1 rfl ?_
    refine r_iload_n (q := 14) (dc dt_MO_setPlain 9 rfl) rfl rfl 2 rfl ?_
    refine r_callVv (q := 17) mk_MO_beginSet lm_MO_430 (RMO.of rfl) rfl (dc dt_MO_setPlain 10 rfl) rfl ly8 [I v1, I v2] [] rfl rfl (Nat.le_of_ble_eq_true rfl) h (fun u4 h => ?_)
    refine r_aload_n (q := 18) (dc dt_MO_setPlain 11 rfl) rfl rfl 0 rfl ?_
    refine r_getO (q := 21) (v := 112) fl_MO_80 (dc dt_MO_setPlain 12 rfl) rfl ly8 rfl ?_
    refine r_iload_n (q := 22) (dc dt_MO_setPlain 13 rfl) rfl rfl 1 rfl ?_
    obtain ⟨o5, h⟩ := h
    refine r_iald (q := 23) (v := u4.1 112 v1.toNat) (dc dt_MO_setPlain 14 rfl) rfl ly112 o5 rfl (fun g6 => ?_)
    refine r_istore_n (q := 24) (dc dt_MO_setPlain 15 rfl) rfl rfl (by decide) rfl ?_
    exact r_loc [1, 3, 0] rfl h
  · have h := h.2 q_
    refine r_iconst (q := 10) (dc dt_MO_setPlain 5 rfl) rfl rfl ?_
    exact r_zret rfl (dc dt_MO_setPlain 6 rfl) (by decide) h
set_option maxRecDepth 20000 in
theorem k_MO_setPlain_24 {G : GT} {σ : St} {P : Int → St → Prop}  {v2 : Int} {v3 : Int}  
    (h : (0 ≤ v2 ∧ v2 < 80) ∧ rng v3 ∧ (σ.1 113 v2.toNat ≤ v3 → CJ G m_MO_layMarks [O 8] σ (fun _ u17 => P 1 u17)) ∧ (v3 < σ.1 113 v2.toNat → (0 ≤ v3 ∧ v3 < 80) ∧ p_MO_placeOf σ v3 v3 ∧ p_MO_plainOf σ (σ.1 118 v3.toNat) (f_MO_placeOf σ v3 v3) ∧ CJ G m_MO_addPiece [O 8, I v3, I (v3 + 1), I (σ.1 118 v3.toNat), I (f_MO_plainOf σ (σ.1 118 v3.toNat) (f_MO_placeOf σ v3 v3)), I 0] σ (fun _ u25 => a_MO_setPlain_24 G v2 (v3 + 1) u25 P))) :
    a_MO_setPlain_24 G v2 v3 σ P := by
  refine r_iload_n (q := 25) (dc dt_MO_setPlain 16 rfl) rfl rfl 2 rfl ?_
  refine r_aload_n (q := 26) (dc dt_MO_setPlain 17 rfl) rfl rfl 0 rfl ?_
  refine r_getO (q := 29) (v := 113) fl_MO_83 (dc dt_MO_setPlain 18 rfl) rfl ly8 rfl ?_
  refine r_iload_n (q := 30) (dc dt_MO_setPlain 19 rfl) rfl rfl 1 rfl ?_
  obtain ⟨o7, h⟩ := h
  refine r_iald (q := 31) (v := σ.1 113 v2.toNat) (dc dt_MO_setPlain 20 rfl) rfl ly113 o7 rfl (fun g8 => ?_)
  obtain ⟨o9, h⟩ := h
  refine r_icmp_ge (q := 34) (t := 71) (dc dt_MO_setPlain 21 rfl) rfl (by decide) o9 g8 (fun q_ => ?_) (fun q_ => ?_)
  · have h := h.1 q_
    refine r_aload_n (q := 72) (dc dt_MO_setPlain 45 rfl) rfl rfl 0 rfl ?_
    refine r_callVv (q := 75) mk_MO_layMarks lm_MO_436 (RMO.of rfl) rfl (dc dt_MO_setPlain 46 rfl) rfl ly8 [] [] rfl rfl (Nat.le_of_ble_eq_true rfl) h (fun u17 h => ?_)
    refine r_iconst (q := 76) (dc dt_MO_setPlain 47 rfl) rfl rfl ?_
    exact r_zret rfl (dc dt_MO_setPlain 48 rfl) (by decide) h
  · have h := h.2 q_
    refine r_aload_n (q := 35) (dc dt_MO_setPlain 22 rfl) rfl rfl 0 rfl ?_
    refine r_iload_n (q := 36) (dc dt_MO_setPlain 23 rfl) rfl rfl 2 rfl ?_
    refine r_iload_n (q := 37) (dc dt_MO_setPlain 24 rfl) rfl rfl 2 rfl ?_
    refine r_iconst (q := 38) (dc dt_MO_setPlain 25 rfl) rfl rfl ?_
    refine r_iadd (q := 39) (dc dt_MO_setPlain 26 rfl) rfl ?_
    refine r_aload_n (q := 40) (dc dt_MO_setPlain 27 rfl) rfl rfl 0 rfl ?_
    refine r_getO (q := 43) (v := 118) fl_MO_98 (dc dt_MO_setPlain 28 rfl) rfl ly8 rfl ?_
    refine r_iload_n (q := 44) (dc dt_MO_setPlain 29 rfl) rfl rfl 2 rfl ?_
    obtain ⟨o18, h⟩ := h
    refine r_iald (q := 45) (v := σ.1 118 v3.toNat) (dc dt_MO_setPlain 30 rfl) rfl ly118 o18 rfl (fun g19 => ?_)
    refine r_aload_n (q := 46) (dc dt_MO_setPlain 31 rfl) rfl rfl 0 rfl ?_
    refine r_aload_n (q := 47) (dc dt_MO_setPlain 32 rfl) rfl rfl 0 rfl ?_
    refine r_getO (q := 50) (v := 118) fl_MO_98 (dc dt_MO_setPlain 33 rfl) rfl ly8 rfl ?_
    refine r_iload_n (q := 51) (dc dt_MO_setPlain 34 rfl) rfl rfl 2 rfl ?_
    refine r_iald (q := 52) (v := σ.1 118 v3.toNat) (dc dt_MO_setPlain 35 rfl) rfl ly118 o18 rfl (fun g20 => ?_)
    refine r_aload_n (q := 53) (dc dt_MO_setPlain 36 rfl) rfl rfl 0 rfl ?_
    refine r_iload_n (q := 54) (dc dt_MO_setPlain 37 rfl) rfl rfl 2 rfl ?_
    refine r_iload_n (q := 55) (dc dt_MO_setPlain 38 rfl) rfl rfl 2 rfl ?_
    obtain ⟨o21, h⟩ := h
    refine r_callVi (q := 58) mk_MO_placeOf lm_MO_366 (RMO.of rfl) rfl (dc dt_MO_setPlain 39 rfl) rfl ly8 [I v3, I v3] [I (σ.1 118 v3.toNat), O 8, I (σ.1 118 v3.toNat), I (v3 + 1), I v3, O 8] rfl rfl (Nat.le_of_ble_eq_true rfl) (sp_MO_placeOf o21) (fun _ _ g22 z => ?_)
    obtain ⟨z, w⟩ := z
    subst z
    replace w := w.symm
    subst w
    obtain ⟨o23, h⟩ := h
    refine r_callVi (q := 61) mk_MO_plainOf lm_MO_369 (RMO.of rfl) rfl (dc dt_MO_setPlain 40 rfl) rfl ly8 [I (σ.1 118 v3.toNat), I (f_MO_placeOf σ v3 v3)] [I (σ.1 118 v3.toNat), I (v3 + 1), I v3, O 8] rfl rfl (Nat.le_of_ble_eq_true rfl) (sp_MO_plainOf o23) (fun _ _ g24 z => ?_)
    obtain ⟨z, w⟩ := z
    subst z
    replace w := w.symm
    subst w
    refine r_iconst (q := 62) (dc dt_MO_setPlain 41 rfl) rfl rfl ?_
    refine r_callVv (q := 65) mk_MO_addPiece lm_MO_414 (RMO.of rfl) rfl (dc dt_MO_setPlain 42 rfl) rfl ly8 [I v3, I (v3 + 1), I (σ.1 118 v3.toNat), I (f_MO_plainOf σ (σ.1 118 v3.toNat) (f_MO_placeOf σ v3 v3)), I 0] [] rfl rfl (Nat.le_of_ble_eq_true rfl) h (fun u25 h => ?_)
    refine r_iinc (q := 68) (k := 2) (dc dt_MO_setPlain 43 rfl) rfl rfl (by decide) rfl ?_
    refine r_goto (q := 24) (dc dt_MO_setPlain 44 rfl) (by decide) ?_
    exact r_loc [1, 2, 0] rfl h
