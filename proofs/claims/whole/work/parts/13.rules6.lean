theorem fl_MO_101 : FL R_MO 101 8 38 := FL.of rfl (by decide) rfl 1144 (by decide +kernel)
theorem fl_MO_104 : FL R_MO 104 8 39 := FL.of rfl (by decide) rfl 1145 (by decide +kernel)
theorem fl_MO_107 : FL R_MO 107 8 40 := FL.of rfl (by decide) rfl 1146 (by decide +kernel)
theorem fl_MO_110 : FL R_MO 110 8 41 := FL.of rfl (by decide) rfl 1147 (by decide +kernel)
theorem fl_MO_13 : FL R_MO 13 8 1 := FL.of rfl (by decide) rfl 1107 (by decide +kernel)
theorem fl_MO_16 : FL R_MO 16 8 2 := FL.of rfl (by decide) rfl 1108 (by decide +kernel)
theorem fl_MO_19 : FL R_MO 19 8 3 := FL.of rfl (by decide) rfl 1109 (by decide +kernel)
theorem fl_MO_22 : FL R_MO 22 8 4 := FL.of rfl (by decide) rfl 1110 (by decide +kernel)
theorem fl_MO_29 : FL R_MO 29 8 8 := FL.of rfl (by decide) rfl 1114 (by decide +kernel)
theorem fl_MO_292 : FL R_MO 292 8 7 := FL.of rfl (by decide) rfl 1113 (by decide +kernel)
theorem fl_MO_32 : FL R_MO 32 8 9 := FL.of rfl (by decide) rfl 1115 (by decide +kernel)
theorem fl_MO_320 : FL R_MO 320 8 21 := FL.of rfl (by decide) rfl 1127 (by decide +kernel)
theorem fl_MO_323 : FL R_MO 323 8 25 := FL.of rfl (by decide) rfl 1131 (by decide +kernel)
theorem fl_MO_341 : FL R_MO 341 8 35 := FL.of rfl (by decide) rfl 1141 (by decide +kernel)
theorem fl_MO_35 : FL R_MO 35 8 10 := FL.of rfl (by decide) rfl 1116 (by decide +kernel)
theorem fl_MO_38 : FL R_MO 38 8 11 := FL.of rfl (by decide) rfl 1117 (by decide +kernel)
theorem fl_MO_41 : FL R_MO 41 8 12 := FL.of rfl (by decide) rfl 1118 (by decide +kernel)
theorem fl_MO_44 : FL R_MO 44 8 13 := FL.of rfl (by decide) rfl 1119 (by decide +kernel)
theorem fl_MO_47 : FL R_MO 47 8 14 := FL.of rfl (by decide) rfl 1120 (by decide +kernel)
theorem fl_MO_50 : FL R_MO 50 8 15 := FL.of rfl (by decide) rfl 1121 (by decide +kernel)
theorem fl_MO_53 : FL R_MO 53 8 16 := FL.of rfl (by decide) rfl 1122 (by decide +kernel)
theorem fl_MO_56 : FL R_MO 56 8 18 := FL.of rfl (by decide) rfl 1124 (by decide +kernel)
theorem fl_MO_62 : FL R_MO 62 8 20 := FL.of rfl (by decide) rfl 1126 (by decide +kernel)
theorem fl_MO_65 : FL R_MO 65 8 22 := FL.of rfl (by decide) rfl 1128 (by decide +kernel)
theorem fl_MO_68 : FL R_MO 68 8 23 := FL.of rfl (by decide) rfl 1129 (by decide +kernel)
theorem fl_MO_71 : FL R_MO 71 8 24 := FL.of rfl (by decide) rfl 1130 (by decide +kernel)
theorem fl_MO_95 : FL R_MO 95 8 36 := FL.of rfl (by decide) rfl 1142 (by decide +kernel)
theorem fl_MO_98 : FL R_MO 98 8 37 := FL.of rfl (by decide) rfl 1143 (by decide +kernel)
theorem lm_MO_281 : Cond.methodLink R_MO 281 (yM m_MO_newLetter) ∈ gt := gt_at 1463 (by decide +kernel) rfl
theorem lm_MO_285 : Cond.methodLink R_MO 285 (yM m_MO_isLetter) ∈ gt := gt_at 1475 (by decide +kernel) rfl
theorem lm_MO_289 : Cond.methodLink R_MO 289 (yM m_MO_joinsOn) ∈ gt := gt_at 1479 (by decide +kernel) rfl
theorem lm_MO_299 : Cond.methodLink R_MO 299 (yM m_MO_rounded) ∈ gt := gt_at 1487 (by decide +kernel) rfl
theorem lm_MO_302 : Cond.methodLink R_MO 302 (yM m_MO_canHave) ∈ gt := gt_at 1493 (by decide +kernel) rfl
theorem lm_MO_310 : Cond.methodLink R_MO 310 (yM m_MO_isForm) ∈ gt := gt_at 1503 (by decide +kernel) rfl
theorem lm_MO_317 : Cond.methodLink R_MO 317 (yM m_MO_isMark) ∈ gt := gt_at 1509 (by decide +kernel) rfl
theorem lm_MO_326 : Cond.methodLink R_MO 326 (yM m_MO_insert) ∈ gt := gt_at 1529 (by decide +kernel) rfl
theorem lm_MO_330 : Cond.methodLink R_MO 330 (yM m_MO_put) ∈ gt := gt_at 1533 (by decide +kernel) rfl
theorem lm_MO_334 : Cond.methodLink R_MO 334 (yM m_MO_note) ∈ gt := gt_at 1537 (by decide +kernel) rfl
theorem lm_MO_338 : Cond.methodLink R_MO 338 (yM m_MO_takeOut) ∈ gt := gt_at 1546 (by decide +kernel) rfl
theorem mk_MO_canHave : MKV m_MO_canHave 8 2 := ⟨⟨gt_at 1496 (by decide +kernel) rfl, gt_at 82 (by decide +kernel) rfl, by decide +kernel, by decide +kernel, by decide +kernel⟩, gt_at 1495 (by decide +kernel) rfl, gt_at 30 (by decide +kernel) rfl, _, _, rfl⟩
theorem mk_MO_insert : MKV m_MO_insert 8 2 := ⟨⟨gt_at 1532 (by decide +kernel) rfl, gt_at 82 (by decide +kernel) rfl, by decide +kernel, by decide +kernel, by decide +kernel⟩, gt_at 1530 (by decide +kernel) rfl, gt_at 1531 (by decide +kernel) rfl, _, _, rfl⟩
theorem mk_MO_isForm : MKV m_MO_isForm 8 1 := ⟨⟨gt_at 1506 (by decide +kernel) rfl, gt_at 82 (by decide +kernel) rfl, by decide +kernel, by decide +kernel, by decide +kernel⟩, gt_at 1505 (by decide +kernel) rfl, gt_at 31 (by decide +kernel) rfl, _, _, rfl⟩
theorem mk_MO_isLetter : MKV m_MO_isLetter 8 1 := ⟨⟨gt_at 1478 (by decide +kernel) rfl, gt_at 82 (by decide +kernel) rfl, by decide +kernel, by decide +kernel, by decide +kernel⟩, gt_at 1477 (by decide +kernel) rfl, gt_at 28 (by decide +kernel) rfl, _, _, rfl⟩
theorem mk_MO_isMark : MKV m_MO_isMark 8 1 := ⟨⟨gt_at 1512 (by decide +kernel) rfl, gt_at 82 (by decide +kernel) rfl, by decide +kernel, by decide +kernel, by decide +kernel⟩, gt_at 1511 (by decide +kernel) rfl, gt_at 32 (by decide +kernel) rfl, _, _, rfl⟩
theorem mk_MO_joinsOn : MKV m_MO_joinsOn 8 1 := ⟨⟨gt_at 1482 (by decide +kernel) rfl, gt_at 82 (by decide +kernel) rfl, by decide +kernel, by decide +kernel, by decide +kernel⟩, gt_at 1481 (by decide +kernel) rfl, gt_at 29 (by decide +kernel) rfl, _, _, rfl⟩
theorem mk_MO_newLetter : MKV m_MO_newLetter 8 1 := ⟨⟨gt_at 1466 (by decide +kernel) rfl, gt_at 82 (by decide +kernel) rfl, by decide +kernel, by decide +kernel, by decide +kernel⟩, gt_at 1465 (by decide +kernel) rfl, gt_at 26 (by decide +kernel) rfl, _, _, rfl⟩
theorem mk_MO_note : MKV m_MO_note 8 3 := ⟨⟨gt_at 1540 (by decide +kernel) rfl, gt_at 82 (by decide +kernel) rfl, by decide +kernel, by decide +kernel, by decide +kernel⟩, gt_at 1539 (by decide +kernel) rfl, gt_at 34 (by decide +kernel) rfl, _, _, rfl⟩
theorem mk_MO_put : MKV m_MO_put 8 2 := ⟨⟨gt_at 1536 (by decide +kernel) rfl, gt_at 82 (by decide +kernel) rfl, by decide +kernel, by decide +kernel, by decide +kernel⟩, gt_at 1535 (by decide +kernel) rfl, gt_at 33 (by decide +kernel) rfl, _, _, rfl⟩
theorem mk_MO_rounded : MKS m_MO_rounded 1 := ⟨⟨gt_at 1489 (by decide +kernel) rfl, gt_at 82 (by decide +kernel) rfl, by decide +kernel, by decide +kernel, by decide +kernel⟩, gt_at 1488 (by decide +kernel) rfl⟩
theorem mk_MO_takeOut : MKV m_MO_takeOut 8 1 := ⟨⟨gt_at 1549 (by decide +kernel) rfl, gt_at 82 (by decide +kernel) rfl, by decide +kernel, by decide +kernel, by decide +kernel⟩, gt_at 1548 (by decide +kernel) rfl, gt_at 35 (by decide +kernel) rfl, _, _, rfl⟩
theorem pf_8_17 : ∀ C T N, classes[8]? = some (C, T, N) → (T 17).2.2.2 = false := fun _ _ _ h => by cases h; rfl
theorem pf_8_21 : ∀ C T N, classes[8]? = some (C, T, N) → (T 21).2.2.2 = false := fun _ _ _ h => by cases h; rfl
theorem pf_8_25 : ∀ C T N, classes[8]? = some (C, T, N) → (T 25).2.2.2 = false := fun _ _ _ h => by cases h; rfl
theorem pf_8_35 : ∀ C T N, classes[8]? = some (C, T, N) → (T 35).2.2.2 = false := fun _ _ _ h => by cases h; rfl
theorem pf_8_7 : ∀ C T N, classes[8]? = some (C, T, N) → (T 7).2.2.2 = false := fun _ _ _ h => by cases h; rfl
def tb_MO_letter : List (Nat × Instr × Nat) := [(0, .iload_n 1, 1), (1, .i2l, 1), (2, .lconst 0, 1), (3, .ldc2_w 279, 3), (6, .invokestatic 253, 3), (9, .ifCond .ne 6, 3), (12, .bipush (-2), 2), (14, .ireturn, 1), (15, .aload_n 0, 1), (16, .getfield 249, 3), (19, .bipush 60, 2), (21, .if_icmp .ne 8, 3), (24, .bipush (-4), 2), (26, .goto 8, 3), (29, .aload_n 0, 1), (30, .iload_n 1, 1), (31, .invokevirtual 281, 3), (34, .ireturn, 1)]
theorem dt_MO_letter : DT (cM m_MO_letter) tb_MO_letter := by unfold DT; decide +kernel
abbrev a_MO_letter_0 (G : GT)  (v1 : Int) (σ : St) (P : Int → St → Prop) : Prop := A G m_MO_letter 0 [(0, O 8), (1, I v1)] [] σ P
set_option maxRecDepth 20000 in
theorem k_MO_letter_0 {G : GT} {σ : St} {P : Int → St → Prop}  {v1 : Int}  
    (h : rng v1 ∧ (0 ≤ v1 ∧ v1 ≤ 6 → (σ.2.1 8 6 ≠ 60 → CJ G m_MO_newLetter [O 8, I v1] σ (fun r5 u4 => P r5 u4)) ∧ (σ.2.1 8 6 = 60 → P (-4) σ)) ∧ (¬ (0 ≤ v1 ∧ v1 ≤ 6) → P (-2) σ)) :
    a_MO_letter_0 G v1 σ P := by
  refine r_iload_n (q := 1) (dc dt_MO_letter 0 rfl) rfl rfl 1 rfl ?_
  obtain ⟨o1, h⟩ := h
  refine r_i2l (q := 2) (dc dt_MO_letter 1 rfl) rfl o1 ?_
  refine r_lconst (q := 3) (n := 0) (dc dt_MO_letter 2 rfl) rfl rfl ?_
  refine r_ldc2 (q := 6) (n := 6) (dc dt_MO_letter 3 rfl) rfl (gt_at 1459 (by decide +kernel) rfl) ?_
  refine r_callSi (q := 9) mk_MO_in lm_MO_253 (RMO.of rfl) rfl (dc dt_MO_letter 4 rfl) rfl [J v1, J 0, J 6] [] rfl rfl (Nat.le_of_ble_eq_true rfl) (sp_MO_in o1 (⟨by decide, by decide⟩ : rng 0) (⟨by decide, by decide⟩ : rng 6)) (fun _ _ g2 z => ?_)
  obtain ⟨z, w⟩ := z
  subst z
  replace w := w.symm
  subst w
  refine r_ifb_ne (q := 12) (t := 15) (dc dt_MO_letter 5 rfl) rfl (by decide) (fun q_ => ?_) (fun q_ => ?_)
  · have h := h.1 q_
    refine r_aload_n (q := 16) (dc dt_MO_letter 8 rfl) rfl rfl 0 rfl ?_
    refine r_getI (q := 19) (v := σ.2.1 8 6) fl_MO_249 (dc dt_MO_letter 9 rfl) rfl ly8 rfl rfl (fun g3 => ?_)
    refine r_bipush (q := 21) (dc dt_MO_letter 10 rfl) rfl (by decide) ?_
    refine r_icmp_ne (q := 24) (t := 29) (dc dt_MO_letter 11 rfl) rfl (by decide) g3 (⟨by decide, by decide⟩ : rng 60) (fun q_ => ?_) (fun q_ => ?_)
    · have h := h.1 q_
      refine r_aload_n (q := 30) (dc dt_MO_letter 14 rfl) rfl rfl 0 rfl ?_
      refine r_iload_n (q := 31) (dc dt_MO_letter 15 rfl) rfl rfl 1 rfl ?_
      refine r_callVi (q := 34) mk_MO_newLetter lm_MO_281 (RMO.of rfl) rfl (dc dt_MO_letter 16 rfl) rfl ly8 [I v1] [] rfl rfl (Nat.le_of_ble_eq_true rfl) h (fun r5 u4 g6 h => ?_)
      exact r_iret rfl (dc dt_MO_letter 17 rfl) g6 h
    · have h := h.2 q_
      refine r_bipush (q := 26) (dc dt_MO_letter 12 rfl) rfl (by decide) ?_
      refine r_goto (q := 34) (dc dt_MO_letter 13 rfl) (by decide) ?_
      exact r_iret rfl (dc dt_MO_letter 17 rfl) (⟨by decide, by decide⟩ : rng (-4)) h
  · have h := h.2 q_
    refine r_bipush (q := 14) (dc dt_MO_letter 6 rfl) rfl (by decide) ?_
    exact r_iret rfl (dc dt_MO_letter 7 rfl) (⟨by decide, by decide⟩ : rng (-2)) h
def tb_MO_joinsOn : List (Nat × Instr × Nat) := [(0, .aload_n 0, 1), (1, .getfield 7, 3), (4, .iload_n 1, 1), (5, .iaload, 1), (6, .ifCond .eq 13, 3), (9, .aload_n 0, 1), (10, .getfield 7, 3), (13, .iload_n 1, 1), (14, .iaload, 1), (15, .iconst 1, 1), (16, .if_icmp .ne 7, 3), (19, .iconst 1, 1), (20, .goto 4, 3), (23, .iconst 0, 1), (24, .ireturn, 1)]
theorem dt_MO_joinsOn : DT (cM m_MO_joinsOn) tb_MO_joinsOn := by unfold DT; decide +kernel
abbrev a_MO_joinsOn_0 (G : GT)  (v1 : Int) (σ : St) (P : Int → St → Prop) : Prop := A G m_MO_joinsOn 0 [(0, O 8), (1, I v1)] [] σ P
set_option maxRecDepth 20000 in
theorem k_MO_joinsOn_0 {G : GT} {σ : St} {P : Int → St → Prop}  {v1 : Int}  
    (h : (0 ≤ v1 ∧ v1 < 60) ∧ P (if σ.1 89 v1.toNat = 0 ∨ σ.1 89 v1.toNat = 1 then 1 else 0) σ) :
    a_MO_joinsOn_0 G v1 σ P := by
  refine r_aload_n (q := 1) (dc dt_MO_joinsOn 0 rfl) rfl rfl 0 rfl ?_
  refine r_getO (q := 4) (v := 89) fl_MO_7 (dc dt_MO_joinsOn 1 rfl) rfl ly8 rfl ?_
  refine r_iload_n (q := 5) (dc dt_MO_joinsOn 2 rfl) rfl rfl 1 rfl ?_
  obtain ⟨o1, h⟩ := h
  refine r_iald (q := 6) (v := σ.1 89 v1.toNat) (dc dt_MO_joinsOn 3 rfl) rfl ly89 o1 rfl (fun g2 => ?_)
  have hJ : ∀ (w_0 : Int), w_0 = (if σ.1 89 v1.toNat = 0 ∨ σ.1 89 v1.toNat = 1 then 1 else 0) → A G m_MO_joinsOn 24 [(0, O 8), (1, I v1)] [I w_0] σ P := by
    intro w_0 z_0
    subst z_0
    exact r_zret rfl (dc dt_MO_joinsOn 14 rfl) b01_or h
  clear h
  refine r_if_eq (q := 9) (t := 19) (dc dt_MO_joinsOn 4 rfl) rfl (by decide) g2 (fun q_ => ?_) (fun q_ => ?_)
  · have q4 := q_
    refine r_iconst (q := 20) (dc dt_MO_joinsOn 11 rfl) rfl rfl ?_
    refine r_goto (q := 24) (dc dt_MO_joinsOn 12 rfl) (by decide) ?_
    exact (hJ 1 ((if_pos (by first | omega | grind)).symm))
  · have q4 := q_
    refine r_aload_n (q := 10) (dc dt_MO_joinsOn 5 rfl) rfl rfl 0 rfl ?_
    refine r_getO (q := 13) (v := 89) fl_MO_7 (dc dt_MO_joinsOn 6 rfl) rfl ly8 rfl ?_
    refine r_iload_n (q := 14) (dc dt_MO_joinsOn 7 rfl) rfl rfl 1 rfl ?_
    refine r_iald (q := 15) (v := σ.1 89 v1.toNat) (dc dt_MO_joinsOn 8 rfl) rfl ly89 o1 rfl (fun g3 => ?_)
    refine r_iconst (q := 16) (dc dt_MO_joinsOn 9 rfl) rfl rfl ?_
    refine r_icmp_ne (q := 19) (t := 23) (dc dt_MO_joinsOn 10 rfl) rfl (by decide) g3 (⟨by decide, by decide⟩ : rng 1) (fun q_ => ?_) (fun q_ => ?_)
    · have q5 := q_
      refine r_iconst (q := 24) (dc dt_MO_joinsOn 13 rfl) rfl rfl ?_
      exact (hJ 0 ((if_neg (by first | omega | grind)).symm))
    · have q5 := q_
      refine r_iconst (q := 20) (dc dt_MO_joinsOn 11 rfl) rfl rfl ?_
      refine r_goto (q := 24) (dc dt_MO_joinsOn 12 rfl) (by decide) ?_
      exact (hJ 1 ((if_pos (by first | omega | grind)).symm))
set_option maxRecDepth 20000 in
theorem sp_MO_joinsOn {G : GT} {σ : St} {v1 : Int}  (j0 : 0 ≤ v1 ∧ v1 < 60) : CJ G m_MO_joinsOn [O 8, I v1] σ (fun r u => r = (if σ.1 89 v1.toNat = 0 ∨ σ.1 89 v1.toNat = 1 then 1 else 0) ∧ u = σ) := by
  refine CJ.intro (by decide) (by simp [catA]; decide) (fun _ => k_MO_joinsOn_0  ?_)
  refine ⟨by first | assumption | omega | grind, ?_⟩
  exact ⟨rfl, rfl⟩
def tb_MO_ligature : List (Nat × Instr × Nat) := [(0, .aload_n 0, 1), (1, .iload_n 1, 1), (2, .invokevirtual 285, 3), (5, .ifCond .eq 24, 3), (8, .aload_n 0, 1), (9, .iload_n 2, 1), (10, .invokevirtual 285, 3), (13, .ifCond .eq 16, 3), (16, .iload_n 3, 1), (17, .iconst (-1), 1), (18, .if_icmp .eq 13, 3), (21, .aload_n 0, 1), (22, .iload_n 3, 1), (23, .invokevirtual 285, 3), (26, .ifCond .ne 5, 3), (29, .iconst (-1), 1), (30, .ireturn, 1), (31, .aload_n 0, 1), (32, .getfield 7, 3), (35, .iload_n 1, 1), (36, .iaload, 1), (37, .ifCond .ne 40, 3), (40, .iload_n 3, 1), (41, .iconst (-1), 1), (42, .if_icmp .ne 14, 3), (45, .aload_n 0, 1), (46, .iload_n 2, 1), (47, .invokevirtual 289, 3), (50, .ifCond .eq 27, 3), (53, .goto 20, 3), (56, .aload_n 0, 1), (57, .getfield 7, 3), (60, .iload_n 2, 1), (61, .iaload, 1), (62, .ifCond .ne 15, 3), (65, .aload_n 0, 1), (66, .iload_n 3, 1), (67, .invokevirtual 289, 3), (70, .ifCond .eq 7, 3), (73, .iconst 1, 1), (74, .goto 4, 3), (77, .iconst 0, 1), (78, .istore 5, 2), (80, .iload 5, 2), (82, .ifCond .ne 6, 3), (85, .bipush (-2), 2), (87, .ireturn, 1), (88, .aload_n 0, 1), (89, .getfield 292, 3), (92, .bipush 8, 2), (94, .if_icmp .eq 12, 3), (97, .aload_n 0, 1), (98, .getfield 249, 3), (101, .bipush 60, 2), (103, .if_icmp .ne 6, 3), (106, .bipush (-4), 2), (108, .ireturn, 1), (109, .iconst 0, 1), (110, .istore 6, 2), (112, .iload 6, 2), (114, .aload_n 0, 1), (115, .getfield 249, 3), (118, .if_icmp .ge 57, 3), (121, .aload_n 0, 1), (122, .getfield 7, 3), (125, .iload 6, 2), (127, .iaload, 1), (128, .bipush 7, 2), (130, .if_icmp .ne 39, 3), (133, .aload_n 0, 1), (134, .getfield 13, 3), (137, .iload 6, 2), (139, .iaload, 1), (140, .iload_n 1, 1), (141, .if_icmp .ne 28, 3), (144, .aload_n 0, 1), (145, .getfield 16, 3), (148, .iload 6, 2), (150, .iaload, 1), (151, .iload_n 2, 1), (152, .if_icmp .ne 17, 3), (155, .aload_n 0, 1), (156, .getfield 19, 3), (159, .iload 6, 2), (161, .iaload, 1), (162, .iload_n 3, 1), (163, .if_icmp .ne 6, 3), (166, .bipush (-5), 2), (168, .ireturn, 1), (169, .iinc 6 1, 3), (172, .goto (-60), 3), (175, .aload_n 0, 1), (176, .getfield 13, 3), (179, .aload_n 0, 1), (180, .getfield 249, 3), (183, .iload_n 1, 1), (184, .iastore, 1), (185, .aload_n 0, 1), (186, .getfield 16, 3), (189, .aload_n 0, 1), (190, .getfield 249, 3), (193, .iload_n 2, 1), (194, .iastore, 1), (195, .aload_n 0, 1), (196, .getfield 19, 3), (199, .aload_n 0, 1), (200, .getfield 249, 3), (203, .iload_n 3, 1), (204, .iastore, 1), (205, .aload_n 0, 1), (206, .getfield 22, 3), (209, .aload_n 0, 1), (210, .getfield 249, 3), (213, .iload 4, 2), (215, .bastore, 1), (216, .aload_n 0, 1), (217, .dup, 1), (218, .getfield 292, 3), (221, .iconst 1, 1), (222, .iadd, 1), (223, .putfield 292, 3), (226, .aload_n 0, 1), (227, .bipush 7, 2), (229, .invokevirtual 281, 3), (232, .ireturn, 1)]
theorem dt_MO_ligature : DT (cM m_MO_ligature) tb_MO_ligature := by unfold DT; decide +kernel
abbrev a_MO_ligature_0 (G : GT)  (v1 : Int) (v2 : Int) (v3 : Int) (v4 : Int) (σ : St) (P : Int → St → Prop) : Prop := A G m_MO_ligature 0 [(0, O 8), (1, I v1), (2, I v2), (3, I v3), (4, I v4)] [] σ P
abbrev a_MO_ligature_112 (G : GT)  (v1 : Int) (v2 : Int) (v3 : Int) (v4 : Int) (v6 : Int) (σ : St) (P : Int → St → Prop) : Prop := A G m_MO_ligature 112 [(0, O 8), (1, I v1), (2, I v2), (3, I v3), (4, I v4), (6, I v6)] [] σ P
set_option maxRecDepth 20000 in
theorem k_MO_ligature_0 {G : GT} {σ : St} {P : Int → St → Prop}  {v1 : Int} {v2 : Int} {v3 : Int} {v4 : Int}  
    (h : rng v1 ∧ rng ((σ.2.1 8 6) - 1) ∧ (¬ (0 ≤ v1 ∧ v1 ≤ ((σ.2.1 8 6) - 1)) → P (-1) σ) ∧ (0 ≤ v1 ∧ v1 ≤ ((σ.2.1 8 6) - 1) → rng v2 ∧ (¬ (0 ≤ v2 ∧ v2 ≤ ((σ.2.1 8 6) - 1)) → P (-1) σ) ∧ (0 ≤ v2 ∧ v2 ≤ ((σ.2.1 8 6) - 1) → rng v3 ∧ (v3 = (-1) → (0 ≤ v1 ∧ v1 < 60) ∧ ((σ.1 89 v1.toNat = 0 → (v3 ≠ (-1) → (0 ≤ v2 ∧ v2 < 60) ∧ (σ.1 89 v2.toNat = 0 → 0 ≤ v3 ∧ v3 < 60)) ∧ (v3 = (-1) → 0 ≤ v2 ∧ v2 < 60))) ∧ (σ.1 89 v1.toNat = 0 ∧ ((v3 ≠ (-1) ∧ (σ.1 89 v2.toNat = 0 ∧ (σ.1 89 v3.toNat = 0 ∨ σ.1 89 v3.toNat = 1))) ∨ (v3 = (-1) ∧ (σ.1 89 v2.toNat = 0 ∨ σ.1 89 v2.toNat = 1))) → (σ.2.1 8 7 = 8 → P (-4) σ) ∧ (σ.2.1 8 7 ≠ 8 → (σ.2.1 8 6 ≠ 60 → a_MO_ligature_112 G v1 v2 v3 v4 0 σ P) ∧ (σ.2.1 8 6 = 60 → P (-4) σ))) ∧ (¬ (σ.1 89 v1.toNat = 0 ∧ ((v3 ≠ (-1) ∧ (σ.1 89 v2.toNat = 0 ∧ (σ.1 89 v3.toNat = 0 ∨ σ.1 89 v3.toNat = 1))) ∨ (v3 = (-1) ∧ (σ.1 89 v2.toNat = 0 ∨ σ.1 89 v2.toNat = 1)))) → P (-2) σ)) ∧ (v3 ≠ (-1) → (0 ≤ v3 ∧ v3 ≤ ((σ.2.1 8 6) - 1) → (0 ≤ v1 ∧ v1 < 60) ∧ ((σ.1 89 v1.toNat = 0 → (v3 ≠ (-1) → (0 ≤ v2 ∧ v2 < 60) ∧ (σ.1 89 v2.toNat = 0 → 0 ≤ v3 ∧ v3 < 60)) ∧ (v3 = (-1) → 0 ≤ v2 ∧ v2 < 60))) ∧ (σ.1 89 v1.toNat = 0 ∧ ((v3 ≠ (-1) ∧ (σ.1 89 v2.toNat = 0 ∧ (σ.1 89 v3.toNat = 0 ∨ σ.1 89 v3.toNat = 1))) ∨ (v3 = (-1) ∧ (σ.1 89 v2.toNat = 0 ∨ σ.1 89 v2.toNat = 1))) → (σ.2.1 8 7 = 8 → P (-4) σ) ∧ (σ.2.1 8 7 ≠ 8 → (σ.2.1 8 6 ≠ 60 → a_MO_ligature_112 G v1 v2 v3 v4 0 σ P) ∧ (σ.2.1 8 6 = 60 → P (-4) σ))) ∧ (¬ (σ.1 89 v1.toNat = 0 ∧ ((v3 ≠ (-1) ∧ (σ.1 89 v2.toNat = 0 ∧ (σ.1 89 v3.toNat = 0 ∨ σ.1 89 v3.toNat = 1))) ∨ (v3 = (-1) ∧ (σ.1 89 v2.toNat = 0 ∨ σ.1 89 v2.toNat = 1)))) → P (-2) σ)) ∧ (¬ (0 ≤ v3 ∧ v3 ≤ ((σ.2.1 8 6) - 1)) → P (-1) σ))))) :
    a_MO_ligature_0 G v1 v2 v3 v4 σ P := by
  refine r_aload_n (q := 1) (dc dt_MO_ligature 0 rfl) rfl rfl 0 rfl ?_
  refine r_iload_n (q := 2) (dc dt_MO_ligature 1 rfl) rfl rfl 1 rfl ?_
  obtain ⟨o1, h⟩ := h
  obtain ⟨o2, h⟩ := h
  refine r_callVi (q := 5) mk_MO_isLetter lm_MO_285 (RMO.of rfl) rfl (dc dt_MO_ligature 2 rfl) rfl ly8 [I v1] [] rfl rfl (Nat.le_of_ble_eq_true rfl) (sp_MO_isLetter o1 o2) (fun _ _ g3 z => ?_)
  obtain ⟨z, w⟩ := z
  subst z
  replace w := w.symm
  subst w
  refine r_ifb_eq (q := 8) (t := 29) (dc dt_MO_ligature 3 rfl) rfl (by decide) (fun q_ => ?_) (fun q_ => ?_)
  · have h := h.1 q_
    refine r_iconst (q := 30) (dc dt_MO_ligature 15 rfl) rfl rfl ?_
    exact r_iret rfl (dc dt_MO_ligature 16 rfl) (⟨by decide, by decide⟩ : rng (-1)) h
  · have h := h.2 q_
    refine r_aload_n (q := 9) (dc dt_MO_ligature 4 rfl) rfl rfl 0 rfl ?_
    refine r_iload_n (q := 10) (dc dt_MO_ligature 5 rfl) rfl rfl 2 rfl ?_
    obtain ⟨o4, h⟩ := h
    refine r_callVi (q := 13) mk_MO_isLetter lm_MO_285 (RMO.of rfl) rfl (dc dt_MO_ligature 6 rfl) rfl ly8 [I v2] [] rfl rfl (Nat.le_of_ble_eq_true rfl) (sp_MO_isLetter o4 o2) (fun _ _ g5 z => ?_)
    obtain ⟨z, w⟩ := z
    subst z
    replace w := w.symm
    subst w
    refine r_ifb_eq (q := 16) (t := 29) (dc dt_MO_ligature 7 rfl) rfl (by decide) (fun q_ => ?_) (fun q_ => ?_)
    · have h := h.1 q_
      refine r_iconst (q := 30) (dc dt_MO_ligature 15 rfl) rfl rfl ?_
      exact r_iret rfl (dc dt_MO_ligature 16 rfl) (⟨by decide, by decide⟩ : rng (-1)) h
    · have h := h.2 q_
      refine r_iload_n (q := 17) (dc dt_MO_ligature 8 rfl) rfl rfl 3 rfl ?_
      refine r_iconst (q := 18) (dc dt_MO_ligature 9 rfl) rfl rfl ?_
      obtain ⟨o6, h⟩ := h
      refine r_icmp_eq (q := 21) (t := 31) (dc dt_MO_ligature 10 rfl) rfl (by decide) o6 (⟨by decide, by decide⟩ : rng (-1)) (fun q_ => ?_) (fun q_ => ?_)
      · have h := h.1 q_
        refine r_aload_n (q := 32) (dc dt_MO_ligature 17 rfl) rfl rfl 0 rfl ?_
        refine r_getO (q := 35) (v := 89) fl_MO_7 (dc dt_MO_ligature 18 rfl) rfl ly8 rfl ?_
        refine r_iload_n (q := 36) (dc dt_MO_ligature 19 rfl) rfl rfl 1 rfl ?_
        obtain ⟨o7, h⟩ := h
        refine r_iald (q := 37) (v := σ.1 89 v1.toNat) (dc dt_MO_ligature 20 rfl) rfl ly89 o7 rfl (fun g8 => ?_)
        obtain ⟨ho, h⟩ := h
        have hJ : ∀ (w_0 : Int), w_0 = (if σ.1 89 v1.toNat = 0 ∧ ((v3 ≠ (-1) ∧ (σ.1 89 v2.toNat = 0 ∧ (σ.1 89 v3.toNat = 0 ∨ σ.1 89 v3.toNat = 1))) ∨ (v3 = (-1) ∧ (σ.1 89 v2.toNat = 0 ∨ σ.1 89 v2.toNat = 1))) then 1 else 0) → A G m_MO_ligature 78 [(0, O 8), (1, I v1), (2, I v2), (3, I v3), (4, I v4)] [I w_0] σ P := by
          intro w_0 z_0
          subst z_0
          refine r_istore (q := 80) (dc dt_MO_ligature 42 rfl) rfl (by decide) rfl ?_
          refine r_iload (q := 82) (dc dt_MO_ligature 43 rfl) rfl 0 rfl ?_
          refine r_ifb_ne (q := 85) (t := 88) (dc dt_MO_ligature 44 rfl) rfl (by decide) (fun q_ => ?_) (fun q_ => ?_)
          · have h := h.1 q_
            refine r_aload_n (q := 89) (dc dt_MO_ligature 47 rfl) rfl rfl 1 rfl ?_
            refine r_getI (q := 92) (v := σ.2.1 8 7) fl_MO_292 (dc dt_MO_ligature 48 rfl) rfl ly8 rfl rfl (fun g15 => ?_)
            refine r_bipush (q := 94) (dc dt_MO_ligature 49 rfl) rfl (by decide) ?_
            refine r_icmp_eq (q := 97) (t := 106) (dc dt_MO_ligature 50 rfl) rfl (by decide) g15 (⟨by decide, by decide⟩ : rng 8) (fun q_ => ?_) (fun q_ => ?_)
            · have h := h.1 q_
              refine r_bipush (q := 108) (dc dt_MO_ligature 55 rfl) rfl (by decide) ?_
              exact r_iret rfl (dc dt_MO_ligature 56 rfl) (⟨by decide, by decide⟩ : rng (-4)) h
            · have h := h.2 q_
              refine r_aload_n (q := 98) (dc dt_MO_ligature 51 rfl) rfl rfl 1 rfl ?_
              refine r_getI (q := 101) (v := σ.2.1 8 6) fl_MO_249 (dc dt_MO_ligature 52 rfl) rfl ly8 rfl rfl (fun g16 => ?_)
              refine r_bipush (q := 103) (dc dt_MO_ligature 53 rfl) rfl (by decide) ?_
              refine r_icmp_ne (q := 106) (t := 109) (dc dt_MO_ligature 54 rfl) rfl (by decide) g16 (⟨by decide, by decide⟩ : rng 60) (fun q_ => ?_) (fun q_ => ?_)
              · have h := h.1 q_
                refine r_iconst (q := 110) (dc dt_MO_ligature 57 rfl) rfl rfl ?_
                refine r_istore (q := 112) (dc dt_MO_ligature 58 rfl) rfl (by decide) rfl ?_
                exact r_loc [2, 3, 4, 5, 6, 0] rfl h
              · have h := h.2 q_
                refine r_bipush (q := 108) (dc dt_MO_ligature 55 rfl) rfl (by decide) ?_
                exact r_iret rfl (dc dt_MO_ligature 56 rfl) (⟨by decide, by decide⟩ : rng (-4)) h
          · have h := h.2 q_
            refine r_bipush (q := 87) (dc dt_MO_ligature 45 rfl) rfl (by decide) ?_
            exact r_iret rfl (dc dt_MO_ligature 46 rfl) (⟨by decide, by decide⟩ : rng (-2)) h
        clear h
        refine r_if_ne (q := 40) (t := 77) (dc dt_MO_ligature 21 rfl) rfl (by decide) g8 (fun q_ => ?_) (fun q_ => ?_)
        · have q62 := q_
          refine r_iconst (q := 78) (dc dt_MO_ligature 41 rfl) rfl rfl ?_
          exact (hJ 0 ((if_neg (by first | omega | grind)).symm))
        · have q62 := q_
          have ho := ho q_
          refine r_iload_n (q := 41) (dc dt_MO_ligature 22 rfl) rfl rfl 3 rfl ?_
          refine r_iconst (q := 42) (dc dt_MO_ligature 23 rfl) rfl rfl ?_
          refine r_icmp_ne (q := 45) (t := 56) (dc dt_MO_ligature 24 rfl) rfl (by decide) o6 (⟨by decide, by decide⟩ : rng (-1)) (fun q_ => ?_) (fun q_ => ?_)
          · have q63 := q_
            have ho := ho.1 q_
            refine r_aload_n (q := 57) (dc dt_MO_ligature 30 rfl) rfl rfl 0 rfl ?_
            refine r_getO (q := 60) (v := 89) fl_MO_7 (dc dt_MO_ligature 31 rfl) rfl ly8 rfl ?_
            refine r_iload_n (q := 61) (dc dt_MO_ligature 32 rfl) rfl rfl 2 rfl ?_
            obtain ⟨o9, ho⟩ := ho
            refine r_iald (q := 62) (v := σ.1 89 v2.toNat) (dc dt_MO_ligature 33 rfl) rfl ly89 o9 rfl (fun g10 => ?_)
            refine r_if_ne (q := 65) (t := 77) (dc dt_MO_ligature 34 rfl) rfl (by decide) g10 (fun q_ => ?_) (fun q_ => ?_)
            · have q64 := q_
              refine r_iconst (q := 78) (dc dt_MO_ligature 41 rfl) rfl rfl ?_
              exact (hJ 0 ((if_neg (by first | omega | grind)).symm))
            · have q64 := q_
              have ho := ho q_
              refine r_aload_n (q := 66) (dc dt_MO_ligature 35 rfl) rfl rfl 0 rfl ?_
              refine r_iload_n (q := 67) (dc dt_MO_ligature 36 rfl) rfl rfl 3 rfl ?_
              have o11 := ho
              refine r_callVi (q := 70) mk_MO_joinsOn lm_MO_289 (RMO.of rfl) rfl (dc dt_MO_ligature 37 rfl) rfl ly8 [I v3] [] rfl rfl (Nat.le_of_ble_eq_true rfl) (sp_MO_joinsOn o11) (fun _ _ g12 z => ?_)
              obtain ⟨z, w⟩ := z
              subst z
              replace w := w.symm
              subst w
              refine r_ifb_eq (q := 73) (t := 77) (dc dt_MO_ligature 38 rfl) rfl (by decide) (fun q_ => ?_) (fun q_ => ?_)
              · have q65 := q_
                refine r_iconst (q := 78) (dc dt_MO_ligature 41 rfl) rfl rfl ?_
                exact (hJ 0 ((if_neg (by first | omega | grind)).symm))
              · have q65 := q_
                refine r_iconst (q := 74) (dc dt_MO_ligature 39 rfl) rfl rfl ?_
                refine r_goto (q := 78) (dc dt_MO_ligature 40 rfl) (by decide) ?_
                exact (hJ 1 ((if_pos (by first | omega | grind)).symm))
          · have q63 := q_
            have ho := ho.2 q_
            refine r_aload_n (q := 46) (dc dt_MO_ligature 25 rfl) rfl rfl 0 rfl ?_
            refine r_iload_n (q := 47) (dc dt_MO_ligature 26 rfl) rfl rfl 2 rfl ?_
            have o13 := ho
            refine r_callVi (q := 50) mk_MO_joinsOn lm_MO_289 (RMO.of rfl) rfl (dc dt_MO_ligature 27 rfl) rfl ly8 [I v2] [] rfl rfl (Nat.le_of_ble_eq_true rfl) (sp_MO_joinsOn o13) (fun _ _ g14 z => ?_)
            obtain ⟨z, w⟩ := z
            subst z
            replace w := w.symm
            subst w
            refine r_ifb_eq (q := 53) (t := 77) (dc dt_MO_ligature 28 rfl) rfl (by decide) (fun q_ => ?_) (fun q_ => ?_)
            · have q66 := q_
              refine r_iconst (q := 78) (dc dt_MO_ligature 41 rfl) rfl rfl ?_
              exact (hJ 0 ((if_neg (by first | omega | grind)).symm))
            · have q66 := q_
              refine r_goto (q := 73) (dc dt_MO_ligature 29 rfl) (by decide) ?_
              refine r_iconst (q := 74) (dc dt_MO_ligature 39 rfl) rfl rfl ?_
              refine r_goto (q := 78) (dc dt_MO_ligature 40 rfl) (by decide) ?_
              exact (hJ 1 ((if_pos (by first | omega | grind)).symm))
      · have h := h.2 q_
        refine r_aload_n (q := 22) (dc dt_MO_ligature 11 rfl) rfl rfl 0 rfl ?_
        refine r_iload_n (q := 23) (dc dt_MO_ligature 12 rfl) rfl rfl 3 rfl ?_
        refine r_callVi (q := 26) mk_MO_isLetter lm_MO_285 (RMO.of rfl) rfl (dc dt_MO_ligature 13 rfl) rfl ly8 [I v3] [] rfl rfl (Nat.le_of_ble_eq_true rfl) (sp_MO_isLetter o6 o2) (fun _ _ g17 z => ?_)
        obtain ⟨z, w⟩ := z
        subst z
        replace w := w.symm
        subst w
        refine r_ifb_ne (q := 29) (t := 31) (dc dt_MO_ligature 14 rfl) rfl (by decide) (fun q_ => ?_) (fun q_ => ?_)
        · have h := h.1 q_
          refine r_aload_n (q := 32) (dc dt_MO_ligature 17 rfl) rfl rfl 0 rfl ?_
          refine r_getO (q := 35) (v := 89) fl_MO_7 (dc dt_MO_ligature 18 rfl) rfl ly8 rfl ?_
          refine r_iload_n (q := 36) (dc dt_MO_ligature 19 rfl) rfl rfl 1 rfl ?_
          obtain ⟨o18, h⟩ := h
          refine r_iald (q := 37) (v := σ.1 89 v1.toNat) (dc dt_MO_ligature 20 rfl) rfl ly89 o18 rfl (fun g19 => ?_)
          obtain ⟨ho, h⟩ := h
          have hJ : ∀ (w_0 : Int), w_0 = (if σ.1 89 v1.toNat = 0 ∧ ((v3 ≠ (-1) ∧ (σ.1 89 v2.toNat = 0 ∧ (σ.1 89 v3.toNat = 0 ∨ σ.1 89 v3.toNat = 1))) ∨ (v3 = (-1) ∧ (σ.1 89 v2.toNat = 0 ∨ σ.1 89 v2.toNat = 1))) then 1 else 0) → A G m_MO_ligature 78 [(0, O 8), (1, I v1), (2, I v2), (3, I v3), (4, I v4)] [I w_0] σ P := by
            intro w_0 z_0
            subst z_0
            refine r_istore (q := 80) (dc dt_MO_ligature 42 rfl) rfl (by decide) rfl ?_
            refine r_iload (q := 82) (dc dt_MO_ligature 43 rfl) rfl 0 rfl ?_
            refine r_ifb_ne (q := 85) (t := 88) (dc dt_MO_ligature 44 rfl) rfl (by decide) (fun q_ => ?_) (fun q_ => ?_)
            · have h := h.1 q_
              refine r_aload_n (q := 89) (dc dt_MO_ligature 47 rfl) rfl rfl 1 rfl ?_
              refine r_getI (q := 92) (v := σ.2.1 8 7) fl_MO_292 (dc dt_MO_ligature 48 rfl) rfl ly8 rfl rfl (fun g26 => ?_)
              refine r_bipush (q := 94) (dc dt_MO_ligature 49 rfl) rfl (by decide) ?_
              refine r_icmp_eq (q := 97) (t := 106) (dc dt_MO_ligature 50 rfl) rfl (by decide) g26 (⟨by decide, by decide⟩ : rng 8) (fun q_ => ?_) (fun q_ => ?_)
              · have h := h.1 q_
                refine r_bipush (q := 108) (dc dt_MO_ligature 55 rfl) rfl (by decide) ?_
                exact r_iret rfl (dc dt_MO_ligature 56 rfl) (⟨by decide, by decide⟩ : rng (-4)) h
              · have h := h.2 q_
                refine r_aload_n (q := 98) (dc dt_MO_ligature 51 rfl) rfl rfl 1 rfl ?_
                refine r_getI (q := 101) (v := σ.2.1 8 6) fl_MO_249 (dc dt_MO_ligature 52 rfl) rfl ly8 rfl rfl (fun g27 => ?_)
                refine r_bipush (q := 103) (dc dt_MO_ligature 53 rfl) rfl (by decide) ?_
                refine r_icmp_ne (q := 106) (t := 109) (dc dt_MO_ligature 54 rfl) rfl (by decide) g27 (⟨by decide, by decide⟩ : rng 60) (fun q_ => ?_) (fun q_ => ?_)
                · have h := h.1 q_
                  refine r_iconst (q := 110) (dc dt_MO_ligature 57 rfl) rfl rfl ?_
                  refine r_istore (q := 112) (dc dt_MO_ligature 58 rfl) rfl (by decide) rfl ?_
                  exact r_loc [2, 3, 4, 5, 6, 0] rfl h
                · have h := h.2 q_
                  refine r_bipush (q := 108) (dc dt_MO_ligature 55 rfl) rfl (by decide) ?_
                  exact r_iret rfl (dc dt_MO_ligature 56 rfl) (⟨by decide, by decide⟩ : rng (-4)) h
            · have h := h.2 q_
              refine r_bipush (q := 87) (dc dt_MO_ligature 45 rfl) rfl (by decide) ?_
              exact r_iret rfl (dc dt_MO_ligature 46 rfl) (⟨by decide, by decide⟩ : rng (-2)) h
          clear h
          refine r_if_ne (q := 40) (t := 77) (dc dt_MO_ligature 21 rfl) rfl (by decide) g19 (fun q_ => ?_) (fun q_ => ?_)
          · have q67 := q_
            refine r_iconst (q := 78) (dc dt_MO_ligature 41 rfl) rfl rfl ?_
            exact (hJ 0 ((if_neg (by first | omega | grind)).symm))
          · have q67 := q_
            have ho := ho q_
            refine r_iload_n (q := 41) (dc dt_MO_ligature 22 rfl) rfl rfl 3 rfl ?_
            refine r_iconst (q := 42) (dc dt_MO_ligature 23 rfl) rfl rfl ?_
            refine r_icmp_ne (q := 45) (t := 56) (dc dt_MO_ligature 24 rfl) rfl (by decide) o6 (⟨by decide, by decide⟩ : rng (-1)) (fun q_ => ?_) (fun q_ => ?_)
            · have q68 := q_
              have ho := ho.1 q_
              refine r_aload_n (q := 57) (dc dt_MO_ligature 30 rfl) rfl rfl 0 rfl ?_
              refine r_getO (q := 60) (v := 89) fl_MO_7 (dc dt_MO_ligature 31 rfl) rfl ly8 rfl ?_
              refine r_iload_n (q := 61) (dc dt_MO_ligature 32 rfl) rfl rfl 2 rfl ?_
              obtain ⟨o20, ho⟩ := ho
              refine r_iald (q := 62) (v := σ.1 89 v2.toNat) (dc dt_MO_ligature 33 rfl) rfl ly89 o20 rfl (fun g21 => ?_)
              refine r_if_ne (q := 65) (t := 77) (dc dt_MO_ligature 34 rfl) rfl (by decide) g21 (fun q_ => ?_) (fun q_ => ?_)
              · have q69 := q_
                refine r_iconst (q := 78) (dc dt_MO_ligature 41 rfl) rfl rfl ?_
                exact (hJ 0 ((if_neg (by first | omega | grind)).symm))
              · have q69 := q_
                have ho := ho q_
                refine r_aload_n (q := 66) (dc dt_MO_ligature 35 rfl) rfl rfl 0 rfl ?_
                refine r_iload_n (q := 67) (dc dt_MO_ligature 36 rfl) rfl rfl 3 rfl ?_
                have o22 := ho
                refine r_callVi (q := 70) mk_MO_joinsOn lm_MO_289 (RMO.of rfl) rfl (dc dt_MO_ligature 37 rfl) rfl ly8 [I v3] [] rfl rfl (Nat.le_of_ble_eq_true rfl) (sp_MO_joinsOn o22) (fun _ _ g23 z => ?_)
                obtain ⟨z, w⟩ := z
                subst z
                replace w := w.symm
                subst w
                refine r_ifb_eq (q := 73) (t := 77) (dc dt_MO_ligature 38 rfl) rfl (by decide) (fun q_ => ?_) (fun q_ => ?_)
                · have q70 := q_
                  refine r_iconst (q := 78) (dc dt_MO_ligature 41 rfl) rfl rfl ?_
                  exact (hJ 0 ((if_neg (by first | omega | grind)).symm))
                · have q70 := q_
                  refine r_iconst (q := 74) (dc dt_MO_ligature 39 rfl) rfl rfl ?_
                  refine r_goto (q := 78) (dc dt_MO_ligature 40 rfl) (by decide) ?_
                  exact (hJ 1 ((if_pos (by first | omega | grind)).symm))
            · have q68 := q_
              have ho := ho.2 q_
              refine r_aload_n (q := 46) (dc dt_MO_ligature 25 rfl) rfl rfl 0 rfl ?_
              refine r_iload_n (q := 47) (dc dt_MO_ligature 26 rfl) rfl rfl 2 rfl ?_
              have o24 := ho
              refine r_callVi (q := 50) mk_MO_joinsOn lm_MO_289 (RMO.of rfl) rfl (dc dt_MO_ligature 27 rfl) rfl ly8 [I v2] [] rfl rfl (Nat.le_of_ble_eq_true rfl) (sp_MO_joinsOn o24) (fun _ _ g25 z => ?_)
              obtain ⟨z, w⟩ := z
              subst z
              replace w := w.symm
              subst w
              refine r_ifb_eq (q := 53) (t := 77) (dc dt_MO_ligature 28 rfl) rfl (by decide) (fun q_ => ?_) (fun q_ => ?_)
              · have q71 := q_
                refine r_iconst (q := 78) (dc dt_MO_ligature 41 rfl) rfl rfl ?_
                exact (hJ 0 ((if_neg (by first | omega | grind)).symm))
              · have q71 := q_
                refine r_goto (q := 73) (dc dt_MO_ligature 29 rfl) (by decide) ?_
                refine r_iconst (q := 74) (dc dt_MO_ligature 39 rfl) rfl rfl ?_
                refine r_goto (q := 78) (dc dt_MO_ligature 40 rfl) (by decide) ?_
                exact (hJ 1 ((if_pos (by first | omega | grind)).symm))
        · have h := h.2 q_
          refine r_iconst (q := 30) (dc dt_MO_ligature 15 rfl) rfl rfl ?_
          exact r_iret rfl (dc dt_MO_ligature 16 rfl) (⟨by decide, by decide⟩ : rng (-1)) h
set_option maxRecDepth 20000 in
theorem k_MO_ligature_112 {G : GT} {σ : St} {P : Int → St → Prop}  {v1 : Int} {v2 : Int} {v3 : Int} {v4 : Int} {v6 : Int}  
    (h : rng v6 ∧ (σ.2.1 8 6 ≤ v6 → (0 ≤ σ.2.1 8 6 ∧ σ.2.1 8 6 < 60) ∧ rng v1 ∧ (∀ σ33, σ33 = sa σ 90 ((σ.2.1 8 6).toNat) v1 → rng v2 ∧ (∀ σ37, σ37 = sa σ33 91 ((σ.2.1 8 6).toNat) v2 → rng v3 ∧ (∀ σ41, σ41 = sa σ37 92 ((σ.2.1 8 6).toNat) v3 → (v4 = 0 ∨ v4 = 1) ∧ (∀ σ45, σ45 = sa σ41 93 ((σ.2.1 8 6).toNat) v4 → rng ((σ.2.1 8 7) + 1) ∧ (∀ σ48, σ48 = sf σ45 8 7 ((σ.2.1 8 7) + 1) → CJ G m_MO_newLetter [O 8, I 7] σ48 (fun r52 u51 => P r52 u51))))))) ∧ (v6 < σ.2.1 8 6 → (0 ≤ v6 ∧ v6 < 60) ∧ (σ.1 89 v6.toNat ≠ 7 → a_MO_ligature_112 G v1 v2 v3 v4 (v6 + 1) σ P) ∧ (σ.1 89 v6.toNat = 7 → rng v1 ∧ (σ.1 90 v6.toNat ≠ v1 → a_MO_ligature_112 G v1 v2 v3 v4 (v6 + 1) σ P) ∧ (σ.1 90 v6.toNat = v1 → rng v2 ∧ (σ.1 91 v6.toNat ≠ v2 → a_MO_ligature_112 G v1 v2 v3 v4 (v6 + 1) σ P) ∧ (σ.1 91 v6.toNat = v2 → rng v3 ∧ (σ.1 92 v6.toNat ≠ v3 → a_MO_ligature_112 G v1 v2 v3 v4 (v6 + 1) σ P) ∧ (σ.1 92 v6.toNat = v3 → P (-5) σ)))))) :
    a_MO_ligature_112 G v1 v2 v3 v4 v6 σ P := by
  refine r_iload (q := 114) (dc dt_MO_ligature 59 rfl) rfl 5 rfl ?_
  refine r_aload_n (q := 115) (dc dt_MO_ligature 60 rfl) rfl rfl 0 rfl ?_
  refine r_getI (q := 118) (v := σ.2.1 8 6) fl_MO_249 (dc dt_MO_ligature 61 rfl) rfl ly8 rfl rfl (fun g28 => ?_)
  obtain ⟨o29, h⟩ := h
  refine r_icmp_ge (q := 121) (t := 175) (dc dt_MO_ligature 62 rfl) rfl (by decide) o29 g28 (fun q_ => ?_) (fun q_ => ?_)
  · have h := h.1 q_
    refine r_aload_n (q := 176) (dc dt_MO_ligature 91 rfl) rfl rfl 0 rfl ?_
    refine r_getO (q := 179) (v := 90) fl_MO_13 (dc dt_MO_ligature 92 rfl) rfl ly8 rfl ?_
    refine r_aload_n (q := 180) (dc dt_MO_ligature 93 rfl) rfl rfl 0 rfl ?_
    refine r_getI (q := 183) (v := σ.2.1 8 6) fl_MO_249 (dc dt_MO_ligature 94 rfl) rfl ly8 rfl rfl (fun g30 => ?_)
    refine r_iload_n (q := 184) (dc dt_MO_ligature 95 rfl) rfl rfl 1 rfl ?_
    obtain ⟨o31, h⟩ := h
    obtain ⟨o32, h⟩ := h
    refine r_iast (q := 185) (dc dt_MO_ligature 96 rfl) rfl ly90 o31 o32 (fun σ33 e34 => ?_)
    have h := h σ33 e34
    refine r_aload_n (q := 186) (dc dt_MO_ligature 97 rfl) rfl rfl 0 rfl ?_
    refine r_getO (q := 189) (v := 91) fl_MO_16 (dc dt_MO_ligature 98 rfl) rfl ly8 rfl ?_
    refine r_aload_n (q := 190) (dc dt_MO_ligature 99 rfl) rfl rfl 0 rfl ?_
    refine r_getI (q := 193) (v := σ.2.1 8 6) fl_MO_249 (dc dt_MO_ligature 100 rfl) rfl ly8 rfl (by rw [e34]; rfl) (fun g35 => ?_)
    refine r_iload_n (q := 194) (dc dt_MO_ligature 101 rfl) rfl rfl 2 rfl ?_
    obtain ⟨o36, h⟩ := h
    refine r_iast (q := 195) (dc dt_MO_ligature 102 rfl) rfl ly91 o31 o36 (fun σ37 e38 => ?_)
    have h := h σ37 e38
    refine r_aload_n (q := 196) (dc dt_MO_ligature 103 rfl) rfl rfl 0 rfl ?_
    refine r_getO (q := 199) (v := 92) fl_MO_19 (dc dt_MO_ligature 104 rfl) rfl ly8 rfl ?_
    refine r_aload_n (q := 200) (dc dt_MO_ligature 105 rfl) rfl rfl 0 rfl ?_
    refine r_getI (q := 203) (v := σ.2.1 8 6) fl_MO_249 (dc dt_MO_ligature 106 rfl) rfl ly8 rfl (by rw [e38, e34]; rfl) (fun g39 => ?_)
    refine r_iload_n (q := 204) (dc dt_MO_ligature 107 rfl) rfl rfl 3 rfl ?_
    obtain ⟨o40, h⟩ := h
    refine r_iast (q := 205) (dc dt_MO_ligature 108 rfl) rfl ly92 o31 o40 (fun σ41 e42 => ?_)
    have h := h σ41 e42
    refine r_aload_n (q := 206) (dc dt_MO_ligature 109 rfl) rfl rfl 0 rfl ?_
    refine r_getO (q := 209) (v := 93) fl_MO_22 (dc dt_MO_ligature 110 rfl) rfl ly8 rfl ?_
    refine r_aload_n (q := 210) (dc dt_MO_ligature 111 rfl) rfl rfl 0 rfl ?_
    refine r_getI (q := 213) (v := σ.2.1 8 6) fl_MO_249 (dc dt_MO_ligature 112 rfl) rfl ly8 rfl (by rw [e42, e38, e34]; rfl) (fun g43 => ?_)
    refine r_iload (q := 215) (dc dt_MO_ligature 113 rfl) rfl 4 rfl ?_
    obtain ⟨o44, h⟩ := h
    refine r_zast (q := 216) (dc dt_MO_ligature 114 rfl) rfl ly93 o31 o44 (fun σ45 e46 => ?_)
    have h := h σ45 e46
    refine r_aload_n (q := 217) (dc dt_MO_ligature 115 rfl) rfl rfl 0 rfl ?_
    refine r_dupo (q := 218) (dc dt_MO_ligature 116 rfl) rfl ?_
    refine r_getI (q := 221) (v := σ.2.1 8 7) fl_MO_292 (dc dt_MO_ligature 117 rfl) rfl ly8 rfl (by rw [e46, e42, e38, e34]; rfl) (fun g47 => ?_)
    refine r_iconst (q := 222) (dc dt_MO_ligature 118 rfl) rfl rfl ?_
    refine r_iadd (q := 223) (dc dt_MO_ligature 119 rfl) rfl ?_
    obtain ⟨o50, h⟩ := h
    refine r_put (q := 226) fl_MO_292 (dc dt_MO_ligature 120 rfl) rfl ly8 (fun _ => rfl) (Or.inl rfl) pf_8_7 o50 (fun σ48 e49 => ?_)
    have h := h σ48 e49
    refine r_aload_n (q := 227) (dc dt_MO_ligature 121 rfl) rfl rfl 0 rfl ?_
    refine r_bipush (q := 229) (dc dt_MO_ligature 122 rfl) rfl (by decide) ?_
    refine r_callVi (q := 232) mk_MO_newLetter lm_MO_281 (RMO.of rfl) rfl (dc dt_MO_ligature 123 rfl) rfl ly8 [I 7] [] rfl rfl (Nat.le_of_ble_eq_true rfl) h (fun r52 u51 g53 h => ?_)
    exact r_iret rfl (dc dt_MO_ligature 124 rfl) g53 h
  · have h := h.2 q_
    refine r_aload_n (q := 122) (dc dt_MO_ligature 63 rfl) rfl rfl 0 rfl ?_
    refine r_getO (q := 125) (v := 89) fl_MO_7 (dc dt_MO_ligature 64 rfl) rfl ly8 rfl ?_
    refine r_iload (q := 127) (dc dt_MO_ligature 65 rfl) rfl 5 rfl ?_
    obtain ⟨o54, h⟩ := h
    refine r_iald (q := 128) (v := σ.1 89 v6.toNat) (dc dt_MO_ligature 66 rfl) rfl ly89 o54 rfl (fun g55 => ?_)
    refine r_bipush (q := 130) (dc dt_MO_ligature 67 rfl) rfl (by decide) ?_
    refine r_icmp_ne (q := 133) (t := 169) (dc dt_MO_ligature 68 rfl) rfl (by decide) g55 (⟨by decide, by decide⟩ : rng 7) (fun q_ => ?_) (fun q_ => ?_)
    · have h := h.1 q_
      refine r_iinc (q := 172) (k := 5) (dc dt_MO_ligature 89 rfl) rfl rfl (by decide) rfl ?_
      refine r_goto (q := 112) (dc dt_MO_ligature 90 rfl) (by decide) ?_
      exact r_loc [1, 2, 3, 4, 5, 0] rfl h
    · have h := h.2 q_
      refine r_aload_n (q := 134) (dc dt_MO_ligature 69 rfl) rfl rfl 0 rfl ?_
      refine r_getO (q := 137) (v := 90) fl_MO_13 (dc dt_MO_ligature 70 rfl) rfl ly8 rfl ?_
      refine r_iload (q := 139) (dc dt_MO_ligature 71 rfl) rfl 5 rfl ?_
      refine r_iald (q := 140) (v := σ.1 90 v6.toNat) (dc dt_MO_ligature 72 rfl) rfl ly90 o54 rfl (fun g56 => ?_)
      refine r_iload_n (q := 141) (dc dt_MO_ligature 73 rfl) rfl rfl 1 rfl ?_
      obtain ⟨o57, h⟩ := h
      refine r_icmp_ne (q := 144) (t := 169) (dc dt_MO_ligature 74 rfl) rfl (by decide) g56 o57 (fun q_ => ?_) (fun q_ => ?_)
      · have h := h.1 q_
        refine r_iinc (q := 172) (k := 5) (dc dt_MO_ligature 89 rfl) rfl rfl (by decide) rfl ?_
        refine r_goto (q := 112) (dc dt_MO_ligature 90 rfl) (by decide) ?_
        exact r_loc [1, 2, 3, 4, 5, 0] rfl h
      · have h := h.2 q_
        refine r_aload_n (q := 145) (dc dt_MO_ligature 75 rfl) rfl rfl 0 rfl ?_
        refine r_getO (q := 148) (v := 91) fl_MO_16 (dc dt_MO_ligature 76 rfl) rfl ly8 rfl ?_
        refine r_iload (q := 150) (dc dt_MO_ligature 77 rfl) rfl 5 rfl ?_
        refine r_iald (q := 151) (v := σ.1 91 v6.toNat) (dc dt_MO_ligature 78 rfl) rfl ly91 o54 rfl (fun g58 => ?_)
        refine r_iload_n (q := 152) (dc dt_MO_ligature 79 rfl) rfl rfl 2 rfl ?_
        obtain ⟨o59, h⟩ := h
        refine r_icmp_ne (q := 155) (t := 169) (dc dt_MO_ligature 80 rfl) rfl (by decide) g58 o59 (fun q_ => ?_) (fun q_ => ?_)
        · have h := h.1 q_
          refine r_iinc (q := 172) (k := 5) (dc dt_MO_ligature 89 rfl) rfl rfl (by decide) rfl ?_
          refine r_goto (q := 112) (dc dt_MO_ligature 90 rfl) (by decide) ?_
          exact r_loc [1, 2, 3, 4, 5, 0] rfl h
        · have h := h.2 q_
          refine r_aload_n (q := 156) (dc dt_MO_ligature 81 rfl) rfl rfl 0 rfl ?_
          refine r_getO (q := 159) (v := 92) fl_MO_19 (dc dt_MO_ligature 82 rfl) rfl ly8 rfl ?_
          refine r_iload (q := 161) (dc dt_MO_ligature 83 rfl) rfl 5 rfl ?_
          refine r_iald (q := 162) (v := σ.1 92 v6.toNat) (dc dt_MO_ligature 84 rfl) rfl ly92 o54 rfl (fun g60 => ?_)
          refine r_iload_n (q := 163) (dc dt_MO_ligature 85 rfl) rfl rfl 3 rfl ?_
          obtain ⟨o61, h⟩ := h
          refine r_icmp_ne (q := 166) (t := 169) (dc dt_MO_ligature 86 rfl) rfl (by decide) g60 o61 (fun q_ => ?_) (fun q_ => ?_)
          · have h := h.1 q_
            refine r_iinc (q := 172) (k := 5) (dc dt_MO_ligature 89 rfl) rfl rfl (by decide) rfl ?_
            refine r_goto (q := 112) (dc dt_MO_ligature 90 rfl) (by decide) ?_
            exact r_loc [1, 2, 3, 4, 5, 0] rfl h
          · have h := h.2 q_
            refine r_bipush (q := 168) (dc dt_MO_ligature 87 rfl) rfl (by decide) ?_
            exact r_iret rfl (dc dt_MO_ligature 88 rfl) (⟨by decide, by decide⟩ : rng (-5)) h
def tb_MO_howManyOf : List (Nat × Instr × Nat) := [(0, .aload_n 0, 1), (1, .getfield 19, 3), (4, .iload_n 1, 1), (5, .iaload, 1), (6, .ifCond .ge 7, 3), (9, .iconst 2, 1), (10, .goto 4, 3), (13, .iconst 3, 1), (14, .ireturn, 1)]
theorem dt_MO_howManyOf : DT (cM m_MO_howManyOf) tb_MO_howManyOf := by unfold DT; decide +kernel
abbrev a_MO_howManyOf_0 (G : GT)  (v1 : Int) (σ : St) (P : Int → St → Prop) : Prop := A G m_MO_howManyOf 0 [(0, O 8), (1, I v1)] [] σ P
set_option maxRecDepth 20000 in
theorem k_MO_howManyOf_0 {G : GT} {σ : St} {P : Int → St → Prop}  {v1 : Int}  
    (h : (0 ≤ v1 ∧ v1 < 60) ∧ rng (if 0 ≤ σ.1 92 v1.toNat then (3 : Int) else (2 : Int)) ∧ P (if 0 ≤ σ.1 92 v1.toNat then (3 : Int) else (2 : Int)) σ) :
    a_MO_howManyOf_0 G v1 σ P := by
  refine r_aload_n (q := 1) (dc dt_MO_howManyOf 0 rfl) rfl rfl 0 rfl ?_
  refine r_getO (q := 4) (v := 92) fl_MO_19 (dc dt_MO_howManyOf 1 rfl) rfl ly8 rfl ?_
  refine r_iload_n (q := 5) (dc dt_MO_howManyOf 2 rfl) rfl rfl 1 rfl ?_
  obtain ⟨o1, h⟩ := h
  refine r_iald (q := 6) (v := σ.1 92 v1.toNat) (dc dt_MO_howManyOf 3 rfl) rfl ly92 o1 rfl (fun g2 => ?_)
  have hJ : ∀ (w_0 : Int), w_0 = (if 0 ≤ σ.1 92 v1.toNat then (3 : Int) else (2 : Int)) → A G m_MO_howManyOf 14 [(0, O 8), (1, I v1)] [I w_0] σ P := by
    intro w_0 z_0
    subst z_0
    obtain ⟨o3, h⟩ := h
    exact r_iret rfl (dc dt_MO_howManyOf 8 rfl) o3 h
  clear h
  refine r_if_ge (q := 9) (t := 13) (dc dt_MO_howManyOf 4 rfl) rfl (by decide) g2 (fun q_ => ?_) (fun q_ => ?_)
  · have q4 := q_
    refine r_iconst (q := 14) (dc dt_MO_howManyOf 7 rfl) rfl rfl ?_
    exact (hJ 3 ((if_pos (by first | omega | grind)).symm))
  · have q4 := q_
    refine r_iconst (q := 10) (dc dt_MO_howManyOf 5 rfl) rfl rfl ?_
    refine r_goto (q := 14) (dc dt_MO_howManyOf 6 rfl) (by decide) ?_
    exact (hJ 2 ((if_neg (by first | omega | grind)).symm))
set_option maxRecDepth 20000 in
theorem sp_MO_howManyOf {G : GT} {σ : St} {v1 : Int}  (j0 : 0 ≤ v1 ∧ v1 < 60) (j1 : rng (if 0 ≤ σ.1 92 v1.toNat then (3 : Int) else (2 : Int))) : CJ G m_MO_howManyOf [O 8, I v1] σ (fun r u => r = (if 0 ≤ σ.1 92 v1.toNat then (3 : Int) else (2 : Int)) ∧ u = σ) := by
  refine CJ.intro (by decide) (by simp [catA]; decide) (fun _ => k_MO_howManyOf_0  ?_)
  refine ⟨by first | assumption | omega | grind, ?_⟩
  refine ⟨by first | assumption | omega | grind, ?_⟩
  exact ⟨by first | rfl | grind, rfl⟩
def tb_MO_canHave : List (Nat × Instr × Nat) := [(0, .aload_n 0, 1), (1, .getfield 7, 3), (4, .iload_n 1, 1), (5, .iaload, 1), (6, .istore_n 3, 1), (7, .iload_n 3, 1), (8, .bipush 7, 2), (10, .if_icmp .ne 33, 3), (13, .aload_n 0, 1), (14, .getfield 7, 3), (17, .aload_n 0, 1), (18, .getfield 19, 3), (21, .iload_n 1, 1), (22, .iaload, 1), (23, .ifCond .ge 12, 3), (26, .aload_n 0, 1), (27, .getfield 16, 3), (30, .iload_n 1, 1), (31, .iaload, 1), (32, .goto 9, 3), (35, .aload_n 0, 1), (36, .getfield 19, 3), (39, .iload_n 1, 1), (40, .iaload, 1), (41, .iaload, 1), (42, .istore_n 3, 1), (43, .iload_n 2, 1), (44, .ifCond .eq 29, 3), (47, .iload_n 3, 1), (48, .ifCond .ne 15, 3), (51, .iload_n 2, 1), (52, .i2l, 1), (53, .lconst 1, 1), (54, .ldc2_w 295, 3), (57, .invokestatic 253, 3), (60, .ifCond .ne 13, 3), (63, .iload_n 3, 1), (64, .iconst 1, 1), (65, .if_icmp .ne 12, 3), (68, .iload_n 2, 1), (69, .iconst 3, 1), (70, .if_icmp .ne 7, 3), (73, .iconst 1, 1), (74, .goto 4, 3), (77, .iconst 0, 1), (78, .ireturn, 1)]
theorem dt_MO_canHave : DT (cM m_MO_canHave) tb_MO_canHave := by unfold DT; decide +kernel
abbrev a_MO_canHave_0 (G : GT)  (v1 : Int) (v2 : Int) (σ : St) (P : Int → St → Prop) : Prop := A G m_MO_canHave 0 [(0, O 8), (1, I v1), (2, I v2)] [] σ P
set_option maxRecDepth 20000 in
theorem k_MO_canHave_0 {G : GT} {σ : St} {P : Int → St → Prop}  {v1 : Int} {v2 : Int}  
    (h : (0 ≤ v1 ∧ v1 < 60) ∧ ((σ.1 89 v1.toNat = 7 → 0 ≤ (if 0 ≤ σ.1 92 v1.toNat then σ.1 92 v1.toNat else σ.1 91 v1.toNat) ∧ (if 0 ≤ σ.1 92 v1.toNat then σ.1 92 v1.toNat else σ.1 91 v1.toNat) < 60)) ∧ rng v2 ∧ ((v2 ≠ 0 → rng (if σ.1 89 v1.toNat ≠ 7 then σ.1 89 v1.toNat else σ.1 89 ((if 0 ≤ σ.1 92 v1.toNat then σ.1 92 v1.toNat else σ.1 91 v1.toNat).toNat)))) ∧ P (if v2 = 0 ∨ (((if σ.1 89 v1.toNat ≠ 7 then σ.1 89 v1.toNat else σ.1 89 ((if 0 ≤ σ.1 92 v1.toNat then σ.1 92 v1.toNat else σ.1 91 v1.toNat).toNat)) ≠ 0 ∧ ((if σ.1 89 v1.toNat ≠ 7 then σ.1 89 v1.toNat else σ.1 89 ((if 0 ≤ σ.1 92 v1.toNat then σ.1 92 v1.toNat else σ.1 91 v1.toNat).toNat)) = 1 ∧ v2 = 3)) ∨ ((if σ.1 89 v1.toNat ≠ 7 then σ.1 89 v1.toNat else σ.1 89 ((if 0 ≤ σ.1 92 v1.toNat then σ.1 92 v1.toNat else σ.1 91 v1.toNat).toNat)) = 0 ∧ ((1 ≤ v2 ∧ v2 ≤ 3) ∨ ((if σ.1 89 v1.toNat ≠ 7 then σ.1 89 v1.toNat else σ.1 89 ((if 0 ≤ σ.1 92 v1.toNat then σ.1 92 v1.toNat else σ.1 91 v1.toNat).toNat)) = 1 ∧ v2 = 3)))) then 1 else 0) σ) :
    a_MO_canHave_0 G v1 v2 σ P := by
  refine r_aload_n (q := 1) (dc dt_MO_canHave 0 rfl) rfl rfl 0 rfl ?_
  refine r_getO (q := 4) (v := 89) fl_MO_7 (dc dt_MO_canHave 1 rfl) rfl ly8 rfl ?_
  refine r_iload_n (q := 5) (dc dt_MO_canHave 2 rfl) rfl rfl 1 rfl ?_
  obtain ⟨o1, h⟩ := h
  refine r_iald (q := 6) (v := σ.1 89 v1.toNat) (dc dt_MO_canHave 3 rfl) rfl ly89 o1 rfl (fun g2 => ?_)
  refine r_istore_n (q := 7) (dc dt_MO_canHave 4 rfl) rfl rfl (by decide) rfl ?_
  refine r_iload_n (q := 8) (dc dt_MO_canHave 5 rfl) rfl rfl 0 rfl ?_
  refine r_bipush (q := 10) (dc dt_MO_canHave 6 rfl) rfl (by decide) ?_
  obtain ⟨ho, h⟩ := h
  have hJ : ∀ (w_0 : Int), w_0 = (if σ.1 89 v1.toNat ≠ 7 then σ.1 89 v1.toNat else σ.1 89 ((if 0 ≤ σ.1 92 v1.toNat then σ.1 92 v1.toNat else σ.1 91 v1.toNat).toNat)) → A G m_MO_canHave 43 [(3, I w_0), (0, O 8), (1, I v1), (2, I v2)] [] σ P := by
    intro w_0 z_0
    subst z_0
    refine r_iload_n (q := 44) (dc dt_MO_canHave 26 rfl) rfl rfl 3 rfl ?_
    obtain ⟨o8, h⟩ := h
    obtain ⟨ho, h⟩ := h
    have hJ : ∀ (w_0 : Int), w_0 = (if v2 = 0 ∨ (((if σ.1 89 v1.toNat ≠ 7 then σ.1 89 v1.toNat else σ.1 89 ((if 0 ≤ σ.1 92 v1.toNat then σ.1 92 v1.toNat else σ.1 91 v1.toNat).toNat)) ≠ 0 ∧ ((if σ.1 89 v1.toNat ≠ 7 then σ.1 89 v1.toNat else σ.1 89 ((if 0 ≤ σ.1 92 v1.toNat then σ.1 92 v1.toNat else σ.1 91 v1.toNat).toNat)) = 1 ∧ v2 = 3)) ∨ ((if σ.1 89 v1.toNat ≠ 7 then σ.1 89 v1.toNat else σ.1 89 ((if 0 ≤ σ.1 92 v1.toNat then σ.1 92 v1.toNat else σ.1 91 v1.toNat).toNat)) = 0 ∧ ((1 ≤ v2 ∧ v2 ≤ 3) ∨ ((if σ.1 89 v1.toNat ≠ 7 then σ.1 89 v1.toNat else σ.1 89 ((if 0 ≤ σ.1 92 v1.toNat then σ.1 92 v1.toNat else σ.1 91 v1.toNat).toNat)) = 1 ∧ v2 = 3)))) then 1 else 0) → A G m_MO_canHave 78 [(3, I (if σ.1 89 v1.toNat ≠ 7 then σ.1 89 v1.toNat else σ.1 89 ((if 0 ≤ σ.1 92 v1.toNat then σ.1 92 v1.toNat else σ.1 91 v1.toNat).toNat))), (0, O 8), (1, I v1), (2, I v2)] [I w_0] σ P := by
      intro w_0 z_0
      subst z_0
      exact r_zret rfl (dc dt_MO_canHave 45 rfl) b01_or h
    clear h
    refine r_if_eq (q := 47) (t := 73) (dc dt_MO_canHave 27 rfl) rfl (by decide) o8 (fun q_ => ?_) (fun q_ => ?_)
    · have q11 := q_
      refine r_iconst (q := 74) (dc dt_MO_canHave 42 rfl) rfl rfl ?_
      refine r_goto (q := 78) (dc dt_MO_canHave 43 rfl) (by decide) ?_
      exact (hJ 1 ((if_pos (by first | omega | grind)).symm))
    · have q11 := q_
      have ho := ho q_
      refine r_iload_n (q := 48) (dc dt_MO_canHave 28 rfl) rfl rfl 0 rfl ?_
      have o9 := ho
      refine r_if_ne (q := 51) (t := 63) (dc dt_MO_canHave 29 rfl) rfl (by decide) o9 (fun q_ => ?_) (fun q_ => ?_)
      · have q12 := q_
        refine r_iload_n (q := 64) (dc dt_MO_canHave 36 rfl) rfl rfl 0 rfl ?_
        refine r_iconst (q := 65) (dc dt_MO_canHave 37 rfl) rfl rfl ?_
        refine r_icmp_ne (q := 68) (t := 77) (dc dt_MO_canHave 38 rfl) rfl (by decide) o9 (⟨by decide, by decide⟩ : rng 1) (fun q_ => ?_) (fun q_ => ?_)
        · have q13 := q_
          refine r_iconst (q := 78) (dc dt_MO_canHave 44 rfl) rfl rfl ?_
          exact (hJ 0 ((if_neg (by first | omega | grind)).symm))
        · have q13 := q_
          refine r_iload_n (q := 69) (dc dt_MO_canHave 39 rfl) rfl rfl 3 rfl ?_
          refine r_iconst (q := 70) (dc dt_MO_canHave 40 rfl) rfl rfl ?_
          refine r_icmp_ne (q := 73) (t := 77) (dc dt_MO_canHave 41 rfl) rfl (by decide) o8 (⟨by decide, by decide⟩ : rng 3) (fun q_ => ?_) (fun q_ => ?_)
          · have q14 := q_
            refine r_iconst (q := 78) (dc dt_MO_canHave 44 rfl) rfl rfl ?_
            exact (hJ 0 ((if_neg (by first | omega | grind)).symm))
          · have q14 := q_
            refine r_iconst (q := 74) (dc dt_MO_canHave 42 rfl) rfl rfl ?_
            refine r_goto (q := 78) (dc dt_MO_canHave 43 rfl) (by decide) ?_
            exact (hJ 1 ((if_pos (by first | omega | grind)).symm))
      · have q12 := q_
        refine r_iload_n (q := 52) (dc dt_MO_canHave 30 rfl) rfl rfl 3 rfl ?_
        refine r_i2l (q := 53) (dc dt_MO_canHave 31 rfl) rfl o8 ?_
        refine r_lconst (q := 54) (n := 1) (dc dt_MO_canHave 32 rfl) rfl rfl ?_
        refine r_ldc2 (q := 57) (n := 3) (dc dt_MO_canHave 33 rfl) rfl (gt_at 1492 (by decide +kernel) rfl) ?_
        refine r_callSi (q := 60) mk_MO_in lm_MO_253 (RMO.of rfl) rfl (dc dt_MO_canHave 34 rfl) rfl [J v2, J 1, J 3] [] rfl rfl (Nat.le_of_ble_eq_true rfl) (sp_MO_in o8 (⟨by decide, by decide⟩ : rng 1) (⟨by decide, by decide⟩ : rng 3)) (fun _ _ g10 z => ?_)
        obtain ⟨z, w⟩ := z
        subst z
        replace w := w.symm
        subst w
        refine r_ifb_ne (q := 63) (t := 73) (dc dt_MO_canHave 35 rfl) rfl (by decide) (fun q_ => ?_) (fun q_ => ?_)
        · have q15 := q_
          refine r_iconst (q := 74) (dc dt_MO_canHave 42 rfl) rfl rfl ?_
          refine r_goto (q := 78) (dc dt_MO_canHave 43 rfl) (by decide) ?_
          exact (hJ 1 ((if_pos (by first | omega | grind)).symm))
        · have q15 := q_
          refine r_iload_n (q := 64) (dc dt_MO_canHave 36 rfl) rfl rfl 0 rfl ?_
          refine r_iconst (q := 65) (dc dt_MO_canHave 37 rfl) rfl rfl ?_
          refine r_icmp_ne (q := 68) (t := 77) (dc dt_MO_canHave 38 rfl) rfl (by decide) o9 (⟨by decide, by decide⟩ : rng 1) (fun q_ => ?_) (fun q_ => ?_)
          · have q16 := q_
            refine r_iconst (q := 78) (dc dt_MO_canHave 44 rfl) rfl rfl ?_
            exact (hJ 0 ((if_neg (by first | omega | grind)).symm))
          · have q16 := q_
            refine r_iload_n (q := 69) (dc dt_MO_canHave 39 rfl) rfl rfl 3 rfl ?_
            refine r_iconst (q := 70) (dc dt_MO_canHave 40 rfl) rfl rfl ?_
            refine r_icmp_ne (q := 73) (t := 77) (dc dt_MO_canHave 41 rfl) rfl (by decide) o8 (⟨by decide, by decide⟩ : rng 3) (fun q_ => ?_) (fun q_ => ?_)
            · have q17 := q_
              refine r_iconst (q := 78) (dc dt_MO_canHave 44 rfl) rfl rfl ?_
              exact (hJ 0 ((if_neg (by first | omega | grind)).symm))
            · have q17 := q_
              refine r_iconst (q := 74) (dc dt_MO_canHave 42 rfl) rfl rfl ?_
              refine r_goto (q := 78) (dc dt_MO_canHave 43 rfl) (by decide) ?_
              exact (hJ 1 ((if_pos (by first | omega | grind)).symm))
  clear h
  refine r_icmp_ne (q := 13) (t := 43) (dc dt_MO_canHave 7 rfl) rfl (by decide) g2 (⟨by decide, by decide⟩ : rng 7) (fun q_ => ?_) (fun q_ => ?_)
  · have q18 := q_
    exact (hJ (σ.1 89 v1.toNat) ((if_pos (by first | omega | grind)).symm))
  · have q18 := q_
    have ho := ho q_
    refine r_aload_n (q := 14) (dc dt_MO_canHave 8 rfl) rfl rfl 1 rfl ?_
    refine r_getO (q := 17) (v := 89) fl_MO_7 (dc dt_MO_canHave 9 rfl) rfl ly8 rfl ?_
    refine r_aload_n (q := 18) (dc dt_MO_canHave 10 rfl) rfl rfl 1 rfl ?_
    refine r_getO (q := 21) (v := 92) fl_MO_19 (dc dt_MO_canHave 11 rfl) rfl ly8 rfl ?_
    refine r_iload_n (q := 22) (dc dt_MO_canHave 12 rfl) rfl rfl 2 rfl ?_
    refine r_iald (q := 23) (v := σ.1 92 v1.toNat) (dc dt_MO_canHave 13 rfl) rfl ly92 o1 rfl (fun g3 => ?_)
    have hK : ∀ (w_0 : Int), w_0 = (if 0 ≤ σ.1 92 v1.toNat then σ.1 92 v1.toNat else σ.1 91 v1.toNat) → A G m_MO_canHave 41 [(3, I (σ.1 89 v1.toNat)), (0, O 8), (1, I v1), (2, I v2)] [I w_0, O 89] σ P := by
      intro w_0 z_0
      subst z_0
      have o6 := ho
      refine r_iald (q := 42) (v := σ.1 89 ((if 0 ≤ σ.1 92 v1.toNat then σ.1 92 v1.toNat else σ.1 91 v1.toNat).toNat)) (dc dt_MO_canHave 24 rfl) rfl ly89 o6 rfl (fun g7 => ?_)
      refine r_istore_n (q := 43) (dc dt_MO_canHave 25 rfl) rfl rfl (by decide) rfl ?_
      exact (hJ (σ.1 89 ((if 0 ≤ σ.1 92 v1.toNat then σ.1 92 v1.toNat else σ.1 91 v1.toNat).toNat)) ((if_neg (by first | omega | grind)).symm))
    clear hJ
    have hJ := hK
    refine r_if_ge (q := 26) (t := 35) (dc dt_MO_canHave 14 rfl) rfl (by decide) g3 (fun q_ => ?_) (fun q_ => ?_)
    · have q19 := q_
      refine r_aload_n (q := 36) (dc dt_MO_canHave 20 rfl) rfl rfl 1 rfl ?_
      refine r_getO (q := 39) (v := 92) fl_MO_19 (dc dt_MO_canHave 21 rfl) rfl ly8 rfl ?_
      refine r_iload_n (q := 40) (dc dt_MO_canHave 22 rfl) rfl rfl 2 rfl ?_
      refine r_iald (q := 41) (v := σ.1 92 v1.toNat) (dc dt_MO_canHave 23 rfl) rfl ly92 o1 rfl (fun g4 => ?_)
      exact (hJ (σ.1 92 v1.toNat) ((if_pos (by first | omega | grind)).symm))
    · have q19 := q_
      refine r_aload_n (q := 27) (dc dt_MO_canHave 15 rfl) rfl rfl 1 rfl ?_
      refine r_getO (q := 30) (v := 91) fl_MO_16 (dc dt_MO_canHave 16 rfl) rfl ly8 rfl ?_
      refine r_iload_n (q := 31) (dc dt_MO_canHave 17 rfl) rfl rfl 2 rfl ?_
      refine r_iald (q := 32) (v := σ.1 91 v1.toNat) (dc dt_MO_canHave 18 rfl) rfl ly91 o1 rfl (fun g5 => ?_)
      refine r_goto (q := 41) (dc dt_MO_canHave 19 rfl) (by decide) ?_
      exact (hJ (σ.1 91 v1.toNat) ((if_neg (by first | omega | grind)).symm))
set_option maxRecDepth 20000 in
theorem sp0_MO_canHave {G : GT} {σ : St} {v1 : Int} {v2 : Int}  (j0 : 0 ≤ v1 ∧ v1 < 60) (j1 : (σ.1 89 v1.toNat = 7 → 0 ≤ (if 0 ≤ σ.1 92 v1.toNat then σ.1 92 v1.toNat else σ.1 91 v1.toNat) ∧ (if 0 ≤ σ.1 92 v1.toNat then σ.1 92 v1.toNat else σ.1 91 v1.toNat) < 60)) (j2 : rng v2) (j3 : (v2 ≠ 0 → rng (if σ.1 89 v1.toNat ≠ 7 then σ.1 89 v1.toNat else σ.1 89 ((if 0 ≤ σ.1 92 v1.toNat then σ.1 92 v1.toNat else σ.1 91 v1.toNat).toNat)))) : CJ G m_MO_canHave [O 8, I v1, I v2] σ (fun r u => r = (if v2 = 0 ∨ (((if σ.1 89 v1.toNat ≠ 7 then σ.1 89 v1.toNat else σ.1 89 ((if 0 ≤ σ.1 92 v1.toNat then σ.1 92 v1.toNat else σ.1 91 v1.toNat).toNat)) ≠ 0 ∧ ((if σ.1 89 v1.toNat ≠ 7 then σ.1 89 v1.toNat else σ.1 89 ((if 0 ≤ σ.1 92 v1.toNat then σ.1 92 v1.toNat else σ.1 91 v1.toNat).toNat)) = 1 ∧ v2 = 3)) ∨ ((if σ.1 89 v1.toNat ≠ 7 then σ.1 89 v1.toNat else σ.1 89 ((if 0 ≤ σ.1 92 v1.toNat then σ.1 92 v1.toNat else σ.1 91 v1.toNat).toNat)) = 0 ∧ ((1 ≤ v2 ∧ v2 ≤ 3) ∨ ((if σ.1 89 v1.toNat ≠ 7 then σ.1 89 v1.toNat else σ.1 89 ((if 0 ≤ σ.1 92 v1.toNat then σ.1 92 v1.toNat else σ.1 91 v1.toNat).toNat)) = 1 ∧ v2 = 3)))) then 1 else 0) ∧ u = σ) := by
  refine CJ.intro (by decide) (by simp [catA]; decide) (fun _ => k_MO_canHave_0  ?_)
  refine ⟨by first | assumption | omega | grind, ?_⟩
  refine ⟨by first | assumption | omega | grind, ?_⟩
  refine ⟨by first | assumption | omega | grind, ?_⟩
  refine ⟨by first | assumption | omega | grind, ?_⟩
  exact ⟨rfl, rfl⟩
def p_MO_canHave (σ : St) (v1 : Int) (v2 : Int) : Prop := (0 ≤ v1 ∧ v1 < 60) ∧ (σ.1 89 v1.toNat = 7 → 0 ≤ (if 0 ≤ σ.1 92 v1.toNat then σ.1 92 v1.toNat else σ.1 91 v1.toNat) ∧ (if 0 ≤ σ.1 92 v1.toNat then σ.1 92 v1.toNat else σ.1 91 v1.toNat) < 60) ∧ rng v2 ∧ (v2 ≠ 0 → rng (if σ.1 89 v1.toNat ≠ 7 then σ.1 89 v1.toNat else σ.1 89 ((if 0 ≤ σ.1 92 v1.toNat then σ.1 92 v1.toNat else σ.1 91 v1.toNat).toNat)))
abbrev b_MO_canHave (σ : St) (v1 : Int) (v2 : Int) : Prop := v2 = 0 ∨ (((if σ.1 89 v1.toNat ≠ 7 then σ.1 89 v1.toNat else σ.1 89 ((if 0 ≤ σ.1 92 v1.toNat then σ.1 92 v1.toNat else σ.1 91 v1.toNat).toNat)) ≠ 0 ∧ ((if σ.1 89 v1.toNat ≠ 7 then σ.1 89 v1.toNat else σ.1 89 ((if 0 ≤ σ.1 92 v1.toNat then σ.1 92 v1.toNat else σ.1 91 v1.toNat).toNat)) = 1 ∧ v2 = 3)) ∨ ((if σ.1 89 v1.toNat ≠ 7 then σ.1 89 v1.toNat else σ.1 89 ((if 0 ≤ σ.1 92 v1.toNat then σ.1 92 v1.toNat else σ.1 91 v1.toNat).toNat)) = 0 ∧ ((1 ≤ v2 ∧ v2 ≤ 3) ∨ ((if σ.1 89 v1.toNat ≠ 7 then σ.1 89 v1.toNat else σ.1 89 ((if 0 ≤ σ.1 92 v1.toNat then σ.1 92 v1.toNat else σ.1 91 v1.toNat).toNat)) = 1 ∧ v2 = 3))))
theorem sp_MO_canHave {G : GT} {σ : St} {v1 : Int} {v2 : Int}  (j : p_MO_canHave σ v1 v2) : CJ G m_MO_canHave [O 8, I v1, I v2] σ (fun r u => r = (if b_MO_canHave σ v1 v2 then 1 else 0) ∧ u = σ) := sp0_MO_canHave  j.1 j.2.1 j.2.2.1 j.2.2.2
def tb_MO_rounded : List (Nat × Instr × Nat) := [(0, .iload_n 0, 1), (1, .bipush 23, 2), (3, .ishr, 1), (4, .sipush 255, 3), (7, .iand, 1), (8, .bipush 127, 2), (10, .isub, 1), (11, .istore_n 1, 1), (12, .iload_n 0, 1), (13, .ifCond .lt 9, 3), (16, .iload_n 1, 1), (17, .bipush 6, 2), (19, .if_icmp .le 5, 3), (22, .iconst (-1), 1), (23, .ireturn, 1), (24, .bipush 23, 2), (26, .iload_n 1, 1), (27, .isub, 1), (28, .istore_n 2, 1), (29, .iload_n 2, 1), (30, .bipush 24, 2), (32, .if_icmp .le 5, 3), (35, .iconst 0, 1), (36, .ireturn, 1), (37, .iload_n 0, 1), (38, .ldc_w 297, 3), (41, .iand, 1), (42, .ldc_w 298, 3), (45, .ior, 1), (46, .istore_n 3, 1), (47, .iload_n 3, 1), (48, .iload_n 2, 1), (49, .ishr, 1), (50, .istore 4, 2), (52, .iload_n 3, 1), (53, .iconst 1, 1), (54, .iload_n 2, 1), (55, .ishl, 1), (56, .iconst 1, 1), (57, .isub, 1), (58, .iand, 1), (59, .istore 5, 2), (61, .iconst 1, 1), (62, .iload_n 2, 1), (63, .iconst 1, 1), (64, .isub, 1), (65, .ishl, 1), (66, .istore 6, 2), (68, .iload 5, 2), (70, .iload 6, 2), (72, .if_icmp .gt 18, 3), (75, .iload 5, 2), (77, .iload 6, 2), (79, .if_icmp .ne 18, 3), (82, .iload 4, 2), (84, .iconst 1, 1), (85, .iand, 1), (86, .iconst 1, 1), (87, .if_icmp .ne 10, 3), (90, .iload 4, 2), (92, .iconst 1, 1), (93, .iadd, 1), (94, .goto 5, 3), (97, .iload 4, 2), (99, .ireturn, 1)]
theorem dt_MO_rounded : DT (cM m_MO_rounded) tb_MO_rounded := by unfold DT; decide +kernel
abbrev a_MO_rounded_0 (G : GT)  (v0 : Int) (σ : St) (P : Int → St → Prop) : Prop := A G m_MO_rounded 0 [(0, I v0)] [] σ P
set_option maxRecDepth 20000 in
theorem k_MO_rounded_0 {G : GT} {σ : St} {P : Int → St → Prop}  {v0 : Int}  
    (h : rng v0 ∧ (v0 < 0 → P (-1) σ) ∧ (0 ≤ v0 → rng (((Int32.ofInt ((Int32.ofInt v0 >>> (Int32.ofInt 23 &&& 31)).toInt) &&& Int32.ofInt 255).toInt) - 127) ∧ (((Int32.ofInt ((Int32.ofInt v0 >>> (Int32.ofInt 23 &&& 31)).toInt) &&& Int32.ofInt 255).toInt) - 127 ≤ 6 → rng (23 - (((Int32.ofInt ((Int32.ofInt v0 >>> (Int32.ofInt 23 &&& 31)).toInt) &&& Int32.ofInt 255).toInt) - 127)) ∧ (23 - (((Int32.ofInt ((Int32.ofInt v0 >>> (Int32.ofInt 23 &&& 31)).toInt) &&& Int32.ofInt 255).toInt) - 127) ≤ 24 → rng (if (Int32.ofInt 1 <<< (Int32.ofInt ((23 - (((Int32.ofInt ((Int32.ofInt v0 >>> (Int32.ofInt 23 &&& 31)).toInt) &&& Int32.ofInt 255).toInt) - 127)) - 1) &&& 31)).toInt < (Int32.ofInt ((Int32.ofInt ((Int32.ofInt v0 &&& Int32.ofInt 8388607).toInt) ||| Int32.ofInt 8388608).toInt) &&& Int32.ofInt (((Int32.ofInt 1 <<< (Int32.ofInt (23 - (((Int32.ofInt ((Int32.ofInt v0 >>> (Int32.ofInt 23 &&& 31)).toInt) &&& Int32.ofInt 255).toInt) - 127)) &&& 31)).toInt) - 1)).toInt then ((Int32.ofInt ((Int32.ofInt ((Int32.ofInt v0 &&& Int32.ofInt 8388607).toInt) ||| Int32.ofInt 8388608).toInt) >>> (Int32.ofInt (23 - (((Int32.ofInt ((Int32.ofInt v0 >>> (Int32.ofInt 23 &&& 31)).toInt) &&& Int32.ofInt 255).toInt) - 127)) &&& 31)).toInt) + 1 else if (Int32.ofInt ((Int32.ofInt ((Int32.ofInt v0 &&& Int32.ofInt 8388607).toInt) ||| Int32.ofInt 8388608).toInt) &&& Int32.ofInt (((Int32.ofInt 1 <<< (Int32.ofInt (23 - (((Int32.ofInt ((Int32.ofInt v0 >>> (Int32.ofInt 23 &&& 31)).toInt) &&& Int32.ofInt 255).toInt) - 127)) &&& 31)).toInt) - 1)).toInt ≠ (Int32.ofInt 1 <<< (Int32.ofInt ((23 - (((Int32.ofInt ((Int32.ofInt v0 >>> (Int32.ofInt 23 &&& 31)).toInt) &&& Int32.ofInt 255).toInt) - 127)) - 1) &&& 31)).toInt then (Int32.ofInt ((Int32.ofInt ((Int32.ofInt v0 &&& Int32.ofInt 8388607).toInt) ||| Int32.ofInt 8388608).toInt) >>> (Int32.ofInt (23 - (((Int32.ofInt ((Int32.ofInt v0 >>> (Int32.ofInt 23 &&& 31)).toInt) &&& Int32.ofInt 255).toInt) - 127)) &&& 31)).toInt else if (Int32.ofInt ((Int32.ofInt ((Int32.ofInt ((Int32.ofInt v0 &&& Int32.ofInt 8388607).toInt) ||| Int32.ofInt 8388608).toInt) >>> (Int32.ofInt (23 - (((Int32.ofInt ((Int32.ofInt v0 >>> (Int32.ofInt 23 &&& 31)).toInt) &&& Int32.ofInt 255).toInt) - 127)) &&& 31)).toInt) &&& Int32.ofInt 1).toInt ≠ 1 then (Int32.ofInt ((Int32.ofInt ((Int32.ofInt v0 &&& Int32.ofInt 8388607).toInt) ||| Int32.ofInt 8388608).toInt) >>> (Int32.ofInt (23 - (((Int32.ofInt ((Int32.ofInt v0 >>> (Int32.ofInt 23 &&& 31)).toInt) &&& Int32.ofInt 255).toInt) - 127)) &&& 31)).toInt else ((Int32.ofInt ((Int32.ofInt ((Int32.ofInt v0 &&& Int32.ofInt 8388607).toInt) ||| Int32.ofInt 8388608).toInt) >>> (Int32.ofInt (23 - (((Int32.ofInt ((Int32.ofInt v0 >>> (Int32.ofInt 23 &&& 31)).toInt) &&& Int32.ofInt 255).toInt) - 127)) &&& 31)).toInt) + 1) ∧ P (if (Int32.ofInt 1 <<< (Int32.ofInt ((23 - (((Int32.ofInt ((Int32.ofInt v0 >>> (Int32.ofInt 23 &&& 31)).toInt) &&& Int32.ofInt 255).toInt) - 127)) - 1) &&& 31)).toInt < (Int32.ofInt ((Int32.ofInt ((Int32.ofInt v0 &&& Int32.ofInt 8388607).toInt) ||| Int32.ofInt 8388608).toInt) &&& Int32.ofInt (((Int32.ofInt 1 <<< (Int32.ofInt (23 - (((Int32.ofInt ((Int32.ofInt v0 >>> (Int32.ofInt 23 &&& 31)).toInt) &&& Int32.ofInt 255).toInt) - 127)) &&& 31)).toInt) - 1)).toInt then ((Int32.ofInt ((Int32.ofInt ((Int32.ofInt v0 &&& Int32.ofInt 8388607).toInt) ||| Int32.ofInt 8388608).toInt) >>> (Int32.ofInt (23 - (((Int32.ofInt ((Int32.ofInt v0 >>> (Int32.ofInt 23 &&& 31)).toInt) &&& Int32.ofInt 255).toInt) - 127)) &&& 31)).toInt) + 1 else if (Int32.ofInt ((Int32.ofInt ((Int32.ofInt v0 &&& Int32.ofInt 8388607).toInt) ||| Int32.ofInt 8388608).toInt) &&& Int32.ofInt (((Int32.ofInt 1 <<< (Int32.ofInt (23 - (((Int32.ofInt ((Int32.ofInt v0 >>> (Int32.ofInt 23 &&& 31)).toInt) &&& Int32.ofInt 255).toInt) - 127)) &&& 31)).toInt) - 1)).toInt ≠ (Int32.ofInt 1 <<< (Int32.ofInt ((23 - (((Int32.ofInt ((Int32.ofInt v0 >>> (Int32.ofInt 23 &&& 31)).toInt) &&& Int32.ofInt 255).toInt) - 127)) - 1) &&& 31)).toInt then (Int32.ofInt ((Int32.ofInt ((Int32.ofInt v0 &&& Int32.ofInt 8388607).toInt) ||| Int32.ofInt 8388608).toInt) >>> (Int32.ofInt (23 - (((Int32.ofInt ((Int32.ofInt v0 >>> (Int32.ofInt 23 &&& 31)).toInt) &&& Int32.ofInt 255).toInt) - 127)) &&& 31)).toInt else if (Int32.ofInt ((Int32.ofInt ((Int32.ofInt ((Int32.ofInt v0 &&& Int32.ofInt 8388607).toInt) ||| Int32.ofInt 8388608).toInt) >>> (Int32.ofInt (23 - (((Int32.ofInt ((Int32.ofInt v0 >>> (Int32.ofInt 23 &&& 31)).toInt) &&& Int32.ofInt 255).toInt) - 127)) &&& 31)).toInt) &&& Int32.ofInt 1).toInt ≠ 1 then (Int32.ofInt ((Int32.ofInt ((Int32.ofInt v0 &&& Int32.ofInt 8388607).toInt) ||| Int32.ofInt 8388608).toInt) >>> (Int32.ofInt (23 - (((Int32.ofInt ((Int32.ofInt v0 >>> (Int32.ofInt 23 &&& 31)).toInt) &&& Int32.ofInt 255).toInt) - 127)) &&& 31)).toInt else ((Int32.ofInt ((Int32.ofInt ((Int32.ofInt v0 &&& Int32.ofInt 8388607).toInt) ||| Int32.ofInt 8388608).toInt) >>> (Int32.ofInt (23 - (((Int32.ofInt ((Int32.ofInt v0 >>> (Int32.ofInt 23 &&& 31)).toInt) &&& Int32.ofInt 255).toInt) - 127)) &&& 31)).toInt) + 1) σ) ∧ (24 < 23 - (((Int32.ofInt ((Int32.ofInt v0 >>> (Int32.ofInt 23 &&& 31)).toInt) &&& Int32.ofInt 255).toInt) - 127) → P 0 σ)) ∧ (6 < ((Int32.ofInt ((Int32.ofInt v0 >>> (Int32.ofInt 23 &&& 31)).toInt) &&& Int32.ofInt 255).toInt) - 127 → P (-1) σ))) :
    a_MO_rounded_0 G v0 σ P := by
  refine r_iload_n (q := 1) (dc dt_MO_rounded 0 rfl) rfl rfl 0 rfl ?_
  refine r_bipush (q := 3) (dc dt_MO_rounded 1 rfl) rfl (by decide) ?_
  refine r_ishr (q := 4) (dc dt_MO_rounded 2 rfl) rfl ?_
  refine r_sipush (q := 7) (dc dt_MO_rounded 3 rfl) rfl (by decide) ?_
  refine r_iand (q := 8) (dc dt_MO_rounded 4 rfl) rfl ?_
  refine r_bipush (q := 10) (dc dt_MO_rounded 5 rfl) rfl (by decide) ?_
  refine r_isub (q := 11) (dc dt_MO_rounded 6 rfl) rfl ?_
  refine r_istore_n (q := 12) (dc dt_MO_rounded 7 rfl) rfl rfl (by decide) rfl ?_
  refine r_iload_n (q := 13) (dc dt_MO_rounded 8 rfl) rfl rfl 1 rfl ?_
  obtain ⟨o1, h⟩ := h
  refine r_if_lt (q := 16) (t := 22) (dc dt_MO_rounded 9 rfl) rfl (by decide) o1 (fun q_ => ?_) (fun q_ => ?_)
  · have h := h.1 q_
    refine r_iconst (q := 23) (dc dt_MO_rounded 13 rfl) rfl rfl ?_
    exact r_iret rfl (dc dt_MO_rounded 14 rfl) (⟨by decide, by decide⟩ : rng (-1)) h
  · have h := h.2 q_
    refine r_iload_n (q := 17) (dc dt_MO_rounded 10 rfl) rfl rfl 0 rfl ?_
    refine r_bipush (q := 19) (dc dt_MO_rounded 11 rfl) rfl (by decide) ?_
    obtain ⟨o2, h⟩ := h
    refine r_icmp_le (q := 22) (t := 24) (dc dt_MO_rounded 12 rfl) rfl (by decide) o2 (⟨by decide, by decide⟩ : rng 6) (fun q_ => ?_) (fun q_ => ?_)
    · have h := h.1 q_
      refine r_bipush (q := 26) (dc dt_MO_rounded 15 rfl) rfl (by decide) ?_
      refine r_iload_n (q := 27) (dc dt_MO_rounded 16 rfl) rfl rfl 0 rfl ?_
      refine r_isub (q := 28) (dc dt_MO_rounded 17 rfl) rfl ?_
      refine r_istore_n (q := 29) (dc dt_MO_rounded 18 rfl) rfl rfl (by decide) rfl ?_
      refine r_iload_n (q := 30) (dc dt_MO_rounded 19 rfl) rfl rfl 0 rfl ?_
      refine r_bipush (q := 32) (dc dt_MO_rounded 20 rfl) rfl (by decide) ?_
      obtain ⟨o3, h⟩ := h
      refine r_icmp_le (q := 35) (t := 37) (dc dt_MO_rounded 21 rfl) rfl (by decide) o3 (⟨by decide, by decide⟩ : rng 24) (fun q_ => ?_) (fun q_ => ?_)
      · have h := h.1 q_
        refine r_iload_n (q := 38) (dc dt_MO_rounded 24 rfl) rfl rfl 2 rfl ?_
        refine r_ldcw (q := 41) (n := 8388607) (dc dt_MO_rounded 25 rfl) rfl (gt_at 1490 (by decide +kernel) rfl) ?_
        refine r_iand (q := 42) (dc dt_MO_rounded 26 rfl) rfl ?_
        refine r_ldcw (q := 45) (n := 8388608) (dc dt_MO_rounded 27 rfl) rfl (gt_at 1491 (by decide +kernel) rfl) ?_
        refine r_ior (q := 46) (dc dt_MO_rounded 28 rfl) rfl ?_
        refine r_istore_n (q := 47) (dc dt_MO_rounded 29 rfl) rfl rfl (by decide) rfl ?_
        refine r_iload_n (q := 48) (dc dt_MO_rounded 30 rfl) rfl rfl 0 rfl ?_
        refine r_iload_n (q := 49) (dc dt_MO_rounded 31 rfl) rfl rfl 1 rfl ?_
        refine r_ishr (q := 50) (dc dt_MO_rounded 32 rfl) rfl ?_
        refine r_istore (q := 52) (dc dt_MO_rounded 33 rfl) rfl (by decide) rfl ?_
        refine r_iload_n (q := 53) (dc dt_MO_rounded 34 rfl) rfl rfl 1 rfl ?_
        refine r_iconst (q := 54) (dc dt_MO_rounded 35 rfl) rfl rfl ?_
        refine r_iload_n (q := 55) (dc dt_MO_rounded 36 rfl) rfl rfl 2 rfl ?_
        refine r_ishl (q := 56) (dc dt_MO_rounded 37 rfl) rfl ?_
        refine r_iconst (q := 57) (dc dt_MO_rounded 38 rfl) rfl rfl ?_
        refine r_isub (q := 58) (dc dt_MO_rounded 39 rfl) rfl ?_
        refine r_iand (q := 59) (dc dt_MO_rounded 40 rfl) rfl ?_
        refine r_istore (q := 61) (dc dt_MO_rounded 41 rfl) rfl (by decide) rfl ?_
        refine r_iconst (q := 62) (dc dt_MO_rounded 42 rfl) rfl rfl ?_
        refine r_iload_n (q := 63) (dc dt_MO_rounded 43 rfl) rfl rfl 3 rfl ?_
        refine r_iconst (q := 64) (dc dt_MO_rounded 44 rfl) rfl rfl ?_
        refine r_isub (q := 65) (dc dt_MO_rounded 45 rfl) rfl ?_
        refine r_ishl (q := 66) (dc dt_MO_rounded 46 rfl) rfl ?_
        refine r_istore (q := 68) (dc dt_MO_rounded 47 rfl) rfl (by decide) rfl ?_
        refine r_iload (q := 70) (dc dt_MO_rounded 48 rfl) rfl 1 rfl ?_
        refine r_iload (q := 72) (dc dt_MO_rounded 49 rfl) rfl 0 rfl ?_
        have hJ : ∀ (w_0 : Int), w_0 = (if (Int32.ofInt 1 <<< (Int32.ofInt ((23 - (((Int32.ofInt ((Int32.ofInt v0 >>> (Int32.ofInt 23 &&& 31)).toInt) &&& Int32.ofInt 255).toInt) - 127)) - 1) &&& 31)).toInt < (Int32.ofInt ((Int32.ofInt ((Int32.ofInt v0 &&& Int32.ofInt 8388607).toInt) ||| Int32.ofInt 8388608).toInt) &&& Int32.ofInt (((Int32.ofInt 1 <<< (Int32.ofInt (23 - (((Int32.ofInt ((Int32.ofInt v0 >>> (Int32.ofInt 23 &&& 31)).toInt) &&& Int32.ofInt 255).toInt) - 127)) &&& 31)).toInt) - 1)).toInt then ((Int32.ofInt ((Int32.ofInt ((Int32.ofInt v0 &&& Int32.ofInt 8388607).toInt) ||| Int32.ofInt 8388608).toInt) >>> (Int32.ofInt (23 - (((Int32.ofInt ((Int32.ofInt v0 >>> (Int32.ofInt 23 &&& 31)).toInt) &&& Int32.ofInt 255).toInt) - 127)) &&& 31)).toInt) + 1 else if (Int32.ofInt ((Int32.ofInt ((Int32.ofInt v0 &&& Int32.ofInt 8388607).toInt) ||| Int32.ofInt 8388608).toInt) &&& Int32.ofInt (((Int32.ofInt 1 <<< (Int32.ofInt (23 - (((Int32.ofInt ((Int32.ofInt v0 >>> (Int32.ofInt 23 &&& 31)).toInt) &&& Int32.ofInt 255).toInt) - 127)) &&& 31)).toInt) - 1)).toInt ≠ (Int32.ofInt 1 <<< (Int32.ofInt ((23 - (((Int32.ofInt ((Int32.ofInt v0 >>> (Int32.ofInt 23 &&& 31)).toInt) &&& Int32.ofInt 255).toInt) - 127)) - 1) &&& 31)).toInt then (Int32.ofInt ((Int32.ofInt ((Int32.ofInt v0 &&& Int32.ofInt 8388607).toInt) ||| Int32.ofInt 8388608).toInt) >>> (Int32.ofInt (23 - (((Int32.ofInt ((Int32.ofInt v0 >>> (Int32.ofInt 23 &&& 31)).toInt) &&& Int32.ofInt 255).toInt) - 127)) &&& 31)).toInt else if (Int32.ofInt ((Int32.ofInt ((Int32.ofInt ((Int32.ofInt v0 &&& Int32.ofInt 8388607).toInt) ||| Int32.ofInt 8388608).toInt) >>> (Int32.ofInt (23 - (((Int32.ofInt ((Int32.ofInt v0 >>> (Int32.ofInt 23 &&& 31)).toInt) &&& Int32.ofInt 255).toInt) - 127)) &&& 31)).toInt) &&& Int32.ofInt 1).toInt ≠ 1 then (Int32.ofInt ((Int32.ofInt ((Int32.ofInt v0 &&& Int32.ofInt 8388607).toInt) ||| Int32.ofInt 8388608).toInt) >>> (Int32.ofInt (23 - (((Int32.ofInt ((Int32.ofInt v0 >>> (Int32.ofInt 23 &&& 31)).toInt) &&& Int32.ofInt 255).toInt) - 127)) &&& 31)).toInt else ((Int32.ofInt ((Int32.ofInt ((Int32.ofInt v0 &&& Int32.ofInt 8388607).toInt) ||| Int32.ofInt 8388608).toInt) >>> (Int32.ofInt (23 - (((Int32.ofInt ((Int32.ofInt v0 >>> (Int32.ofInt 23 &&& 31)).toInt) &&& Int32.ofInt 255).toInt) - 127)) &&& 31)).toInt) + 1) → A G m_MO_rounded 99 [(6, I ((Int32.ofInt 1 <<< (Int32.ofInt ((23 - (((Int32.ofInt ((Int32.ofInt v0 >>> (Int32.ofInt 23 &&& 31)).toInt) &&& Int32.ofInt 255).toInt) - 127)) - 1) &&& 31)).toInt)), (5, I ((Int32.ofInt ((Int32.ofInt ((Int32.ofInt v0 &&& Int32.ofInt 8388607).toInt) ||| Int32.ofInt 8388608).toInt) &&& Int32.ofInt (((Int32.ofInt 1 <<< (Int32.ofInt (23 - (((Int32.ofInt ((Int32.ofInt v0 >>> (Int32.ofInt 23 &&& 31)).toInt) &&& Int32.ofInt 255).toInt) - 127)) &&& 31)).toInt) - 1)).toInt)), (4, I ((Int32.ofInt ((Int32.ofInt ((Int32.ofInt v0 &&& Int32.ofInt 8388607).toInt) ||| Int32.ofInt 8388608).toInt) >>> (Int32.ofInt (23 - (((Int32.ofInt ((Int32.ofInt v0 >>> (Int32.ofInt 23 &&& 31)).toInt) &&& Int32.ofInt 255).toInt) - 127)) &&& 31)).toInt)), (3, I ((Int32.ofInt ((Int32.ofInt v0 &&& Int32.ofInt 8388607).toInt) ||| Int32.ofInt 8388608).toInt)), (2, I (23 - (((Int32.ofInt ((Int32.ofInt v0 >>> (Int32.ofInt 23 &&& 31)).toInt) &&& Int32.ofInt 255).toInt) - 127))), (1, I (((Int32.ofInt ((Int32.ofInt v0 >>> (Int32.ofInt 23 &&& 31)).toInt) &&& Int32.ofInt 255).toInt) - 127)), (0, I v0)] [I w_0] σ P := by
          intro w_0 z_0
          subst z_0
          obtain ⟨o4, h⟩ := h
          exact r_iret rfl (dc dt_MO_rounded 64 rfl) o4 h
        clear h
        refine r_icmp_gt (q := 75) (t := 90) (dc dt_MO_rounded 50 rfl) rfl (by decide) (rng_toInt _) (rng_toInt _) (fun q_ => ?_) (fun q_ => ?_)
        · have q5 := q_
          refine r_iload (q := 92) (dc dt_MO_rounded 59 rfl) rfl 2 rfl ?_
          refine r_iconst (q := 93) (dc dt_MO_rounded 60 rfl) rfl rfl ?_
          refine r_iadd (q := 94) (dc dt_MO_rounded 61 rfl) rfl ?_
          refine r_goto (q := 99) (dc dt_MO_rounded 62 rfl) (by decide) ?_
          exact (hJ (((Int32.ofInt ((Int32.ofInt ((Int32.ofInt v0 &&& Int32.ofInt 8388607).toInt) ||| Int32.ofInt 8388608).toInt) >>> (Int32.ofInt (23 - (((Int32.ofInt ((Int32.ofInt v0 >>> (Int32.ofInt 23 &&& 31)).toInt) &&& Int32.ofInt 255).toInt) - 127)) &&& 31)).toInt) + 1) ((if_pos (by first | omega | grind)).symm))
        · have q5 := q_
          refine r_iload (q := 77) (dc dt_MO_rounded 51 rfl) rfl 1 rfl ?_
          refine r_iload (q := 79) (dc dt_MO_rounded 52 rfl) rfl 0 rfl ?_
          refine r_icmp_ne (q := 82) (t := 97) (dc dt_MO_rounded 53 rfl) rfl (by decide) (rng_toInt _) (rng_toInt _) (fun q_ => ?_) (fun q_ => ?_)
          · have q6 := q_
            refine r_iload (q := 99) (dc dt_MO_rounded 63 rfl) rfl 2 rfl ?_
            exact (hJ ((Int32.ofInt ((Int32.ofInt ((Int32.ofInt v0 &&& Int32.ofInt 8388607).toInt) ||| Int32.ofInt 8388608).toInt) >>> (Int32.ofInt (23 - (((Int32.ofInt ((Int32.ofInt v0 >>> (Int32.ofInt 23 &&& 31)).toInt) &&& Int32.ofInt 255).toInt) - 127)) &&& 31)).toInt) (((if_neg (by first | omega | grind)).trans (if_pos (by first | omega | grind))).symm))
          · have q6 := q_
            refine r_iload (q := 84) (dc dt_MO_rounded 54 rfl) rfl 2 rfl ?_
            refine r_iconst (q := 85) (dc dt_MO_rounded 55 rfl) rfl rfl ?_
            refine r_iand (q := 86) (dc dt_MO_rounded 56 rfl) rfl ?_
            refine r_iconst (q := 87) (dc dt_MO_rounded 57 rfl) rfl rfl ?_
            refine r_icmp_ne (q := 90) (t := 97) (dc dt_MO_rounded 58 rfl) rfl (by decide) (rng_toInt _) (⟨by decide, by decide⟩ : rng 1) (fun q_ => ?_) (fun q_ => ?_)
            · have q7 := q_
              refine r_iload (q := 99) (dc dt_MO_rounded 63 rfl) rfl 2 rfl ?_
              exact (hJ ((Int32.ofInt ((Int32.ofInt ((Int32.ofInt v0 &&& Int32.ofInt 8388607).toInt) ||| Int32.ofInt 8388608).toInt) >>> (Int32.ofInt (23 - (((Int32.ofInt ((Int32.ofInt v0 >>> (Int32.ofInt 23 &&& 31)).toInt) &&& Int32.ofInt 255).toInt) - 127)) &&& 31)).toInt) ((((if_neg (by first | omega | grind)).trans (if_neg (by first | omega | grind))).trans (if_pos (by first | omega | grind))).symm))
            · have q7 := q_
              refine r_iload (q := 92) (dc dt_MO_rounded 59 rfl) rfl 2 rfl ?_
              refine r_iconst (q := 93) (dc dt_MO_rounded 60 rfl) rfl rfl ?_
              refine r_iadd (q := 94) (dc dt_MO_rounded 61 rfl) rfl ?_
              refine r_goto (q := 99) (dc dt_MO_rounded 62 rfl) (by decide) ?_
              exact (hJ (((Int32.ofInt ((Int32.ofInt ((Int32.ofInt v0 &&& Int32.ofInt 8388607).toInt) ||| Int32.ofInt 8388608).toInt) >>> (Int32.ofInt (23 - (((Int32.ofInt ((Int32.ofInt v0 >>> (Int32.ofInt 23 &&& 31)).toInt) &&& Int32.ofInt 255).toInt) - 127)) &&& 31)).toInt) + 1) ((((if_neg (by first | omega | grind)).trans (if_neg (by first | omega | grind))).trans (if_neg (by first | omega | grind))).symm))
      · have h := h.2 q_
        refine r_iconst (q := 36) (dc dt_MO_rounded 22 rfl) rfl rfl ?_
        exact r_iret rfl (dc dt_MO_rounded 23 rfl) (⟨by decide, by decide⟩ : rng 0) h
    · have h := h.2 q_
      refine r_iconst (q := 23) (dc dt_MO_rounded 13 rfl) rfl rfl ?_
      exact r_iret rfl (dc dt_MO_rounded 14 rfl) (⟨by decide, by decide⟩ : rng (-1)) h
def tb_MO_form : List (Nat × Instr × Nat) := [(0, .aload_n 0, 1), (1, .iload_n 1, 1), (2, .invokevirtual 285, 3), (5, .ifCond .ne 5, 3), (8, .iconst (-1), 1), (9, .ireturn, 1), (10, .iload_n 3, 1), (11, .invokestatic 299, 3), (14, .istore 7, 2), (16, .iload_n 2, 1), (17, .i2l, 1), (18, .lconst 0, 1), (19, .ldc2_w 295, 3), (22, .invokestatic 253, 3), (25, .ifCond .eq 64, 3), (28, .aload_n 0, 1), (29, .iload_n 1, 1), (30, .iload_n 2, 1), (31, .invokevirtual 302, 3), (34, .ifCond .eq 55, 3), (37, .iload 7, 2), (39, .i2l, 1), (40, .lconst 1, 1), (41, .ldc2_w 306, 3), (44, .invokestatic 253, 3), (47, .ifCond .eq 42, 3), (50, .iload 4, 2), (52, .i2l, 1), (53, .lconst 0, 1), (54, .ldc2_w 306, 3), (57, .invokestatic 253, 3), (60, .ifCond .eq 29, 3), (63, .iload 5, 2), (65, .i2l, 1), (66, .lconst 0, 1), (67, .ldc2_w 306, 3), (70, .invokestatic 253, 3), (73, .ifCond .eq 16, 3), (76, .iload 6, 2), (78, .i2l, 1), (79, .lconst 0, 1), (80, .ldc2_w 308, 3), (83, .invokestatic 253, 3), (86, .ifCond .ne 6, 3), (89, .bipush (-2), 2), (91, .ireturn, 1), (92, .iconst 4, 1), (93, .iload_n 1, 1), (94, .imul, 1), (95, .iload_n 2, 1), (96, .iadd, 1), (97, .istore 8, 2), (99, .aload_n 0, 1), (100, .getfield 59, 3), (103, .iload 8, 2), (105, .iaload, 1), (106, .iconst 3, 1), (107, .if_icmp .eq 13, 3), (110, .aload_n 0, 1), (111, .getfield 257, 3), (114, .sipush 200, 3), (117, .if_icmp .ne 6, 3), (120, .bipush (-4), 2), (122, .ireturn, 1), (123, .aload_n 0, 1), (124, .getfield 29, 3), (127, .aload_n 0, 1), (128, .getfield 257, 3), (131, .iload_n 1, 1), (132, .iastore, 1), (133, .aload_n 0, 1), (134, .getfield 32, 3), (137, .aload_n 0, 1), (138, .getfield 257, 3), (141, .iload_n 2, 1), (142, .iastore, 1), (143, .aload_n 0, 1), (144, .getfield 35, 3), (147, .aload_n 0, 1), (148, .getfield 257, 3), (151, .iload 7, 2), (153, .iastore, 1), (154, .aload_n 0, 1), (155, .getfield 38, 3), (158, .aload_n 0, 1), (159, .getfield 257, 3), (162, .iload 4, 2), (164, .iastore, 1), (165, .aload_n 0, 1), (166, .getfield 41, 3), (169, .aload_n 0, 1), (170, .getfield 257, 3), (173, .iload 5, 2), (175, .iastore, 1), (176, .aload_n 0, 1), (177, .getfield 44, 3), (180, .aload_n 0, 1), (181, .getfield 257, 3), (184, .iload 6, 2), (186, .iastore, 1), (187, .aload_n 0, 1), (188, .getfield 47, 3), (191, .aload_n 0, 1), (192, .getfield 257, 3), (195, .iload 7, 2), (197, .iconst 2, 1), (198, .idiv, 1), (199, .iastore, 1), (200, .aload_n 0, 1), (201, .getfield 50, 3), (204, .aload_n 0, 1), (205, .getfield 257, 3), (208, .iconst 0, 1), (209, .iastore, 1), (210, .aload_n 0, 1), (211, .getfield 53, 3), (214, .aload_n 0, 1), (215, .getfield 257, 3), (218, .iconst 0, 1), (219, .iastore, 1), (220, .aload_n 0, 1), (221, .getfield 56, 3), (224, .iconst 3, 1), (225, .iload 8, 2), (227, .imul, 1), (228, .aload_n 0, 1), (229, .getfield 59, 3), (232, .iload 8, 2), (234, .iaload, 1), (235, .iadd, 1), (236, .aload_n 0, 1), (237, .getfield 257, 3), (240, .iastore, 1), (241, .aload_n 0, 1), (242, .getfield 59, 3), (245, .iload 8, 2), (247, .dup2, 1), (248, .iaload, 1), (249, .iconst 1, 1), (250, .iadd, 1), (251, .iastore, 1), (252, .aload_n 0, 1), (253, .dup, 1), (254, .getfield 257, 3), (257, .iconst 1, 1), (258, .iadd, 1), (259, .putfield 257, 3), (262, .aload_n 0, 1), (263, .invokevirtual 276, 3), (266, .aload_n 0, 1), (267, .getfield 257, 3), (270, .iconst 1, 1), (271, .isub, 1), (272, .ireturn, 1)]
theorem dt_MO_form : DT (cM m_MO_form) tb_MO_form := by unfold DT; decide +kernel
abbrev a_MO_form_0 (G : GT)  (v1 : Int) (v2 : Int) (v3 : Int) (v4 : Int) (v5 : Int) (v6 : Int) (σ : St) (P : Int → St → Prop) : Prop := A G m_MO_form 0 [(0, O 8), (1, I v1), (2, I v2), (3, I v3), (4, I v4), (5, I v5), (6, I v6)] [] σ P
set_option maxRecDepth 20000 in
theorem k_MO_form_0 {G : GT} {σ : St} {P : Int → St → Prop}  {v1 : Int} {v2 : Int} {v3 : Int} {v4 : Int} {v5 : Int} {v6 : Int}  
    (h : rng v1 ∧ rng ((σ.2.1 8 6) - 1) ∧ (0 ≤ v1 ∧ v1 ≤ ((σ.2.1 8 6) - 1) → CJ G m_MO_rounded [I v3] σ (fun r5 u4 => rng v2 ∧ (¬ (0 ≤ v2 ∧ v2 ≤ 3) → P (-2) u4) ∧ (0 ≤ v2 ∧ v2 ≤ 3 → p_MO_canHave u4 v1 v2 ∧ (¬ (b_MO_canHave u4 v1 v2) → P (-2) u4) ∧ (b_MO_canHave u4 v1 v2 → (¬ (1 ≤ r5 ∧ r5 ≤ 100) → P (-2) u4) ∧ (1 ≤ r5 ∧ r5 ≤ 100 → rng v4 ∧ (¬ (0 ≤ v4 ∧ v4 ≤ 100) → P (-2) u4) ∧ (0 ≤ v4 ∧ v4 ≤ 100 → rng v5 ∧ (¬ (0 ≤ v5 ∧ v5 ≤ 100) → P (-2) u4) ∧ (0 ≤ v5 ∧ v5 ≤ 100 → rng v6 ∧ (0 ≤ v6 ∧ v6 ≤ 1000 → (0 ≤ (4 * v1) + v2 ∧ (4 * v1) + v2 < 240) ∧ (u4.1 105 (((4 * v1) + v2).toNat) = 3 → P (-4) u4) ∧ (u4.1 105 (((4 * v1) + v2).toNat) ≠ 3 → (u4.2.1 8 17 ≠ 200 → (0 ≤ u4.2.1 8 17 ∧ u4.2.1 8 17 < 200) ∧ (∀ σ23, σ23 = sa u4 95 ((u4.2.1 8 17).toNat) v1 → (∀ σ26, σ26 = sa σ23 96 ((u4.2.1 8 17).toNat) v2 → (∀ σ29, σ29 = sa σ26 97 ((u4.2.1 8 17).toNat) r5 → (∀ σ32, σ32 = sa σ29 98 ((u4.2.1 8 17).toNat) v4 → (∀ σ35, σ35 = sa σ32 99 ((u4.2.1 8 17).toNat) v5 → (∀ σ38, σ38 = sa σ35 100 ((u4.2.1 8 17).toNat) v6 → 0 ≤ r5 ∧ rng (r5 / 2) ∧ (∀ σ43, σ43 = sa σ38 101 ((u4.2.1 8 17).toNat) (r5 / 2) → (∀ σ46, σ46 = sa σ43 102 ((u4.2.1 8 17).toNat) 0 → (∀ σ49, σ49 = sa σ46 103 ((u4.2.1 8 17).toNat) 0 → (0 ≤ (3 * ((4 * v1) + v2)) + (u4.1 105 (((4 * v1) + v2).toNat)) ∧ (3 * ((4 * v1) + v2)) + (u4.1 105 (((4 * v1) + v2).toNat)) < 720) ∧ (∀ σ54, σ54 = sa σ49 104 (((3 * ((4 * v1) + v2)) + (u4.1 105 (((4 * v1) + v2).toNat))).toNat) (u4.2.1 8 17) → rng ((u4.1 105 (((4 * v1) + v2).toNat)) + 1) ∧ (∀ σ58, σ58 = sa σ54 105 (((4 * v1) + v2).toNat) ((u4.1 105 (((4 * v1) + v2).toNat)) + 1) → rng ((u4.2.1 8 17) + 1) ∧ (∀ σ61, σ61 = sf σ58 8 17 ((u4.2.1 8 17) + 1) → CJ G m_MO_changed [O 8] σ61 (fun _ u64 => rng ((u64.2.1 8 17) - 1) ∧ P ((u64.2.1 8 17) - 1) u64)))))))))))))) ∧ (u4.2.1 8 17 = 200 → P (-4) u4))) ∧ (¬ (0 ≤ v6 ∧ v6 ≤ 1000) → P (-2) u4)))))))) ∧ (¬ (0 ≤ v1 ∧ v1 ≤ ((σ.2.1 8 6) - 1)) → P (-1) σ)) :
    a_MO_form_0 G v1 v2 v3 v4 v5 v6 σ P := by
  refine r_aload_n (q := 1) (dc dt_MO_form 0 rfl) rfl rfl 0 rfl ?_
  refine r_iload_n (q := 2) (dc dt_MO_form 1 rfl) rfl rfl 1 rfl ?_
  obtain ⟨o1, h⟩ := h
  obtain ⟨o2, h⟩ := h
  refine r_callVi (q := 5) mk_MO_isLetter lm_MO_285 (RMO.of rfl) rfl (dc dt_MO_form 2 rfl) rfl ly8 [I v1] [] rfl rfl (Nat.le_of_ble_eq_true rfl) (sp_MO_isLetter o1 o2) (fun _ _ g3 z => ?_)
  obtain ⟨z, w⟩ := z
  subst z
  replace w := w.symm
  subst w
  refine r_ifb_ne (q := 8) (t := 10) (dc dt_MO_form 3 rfl) rfl (by decide) (fun q_ => ?_) (fun q_ => ?_)
  · have h := h.1 q_
    refine r_iload_n (q := 11) (dc dt_MO_form 6 rfl) rfl rfl 3 rfl ?_
    refine r_callSi (q := 14) mk_MO_rounded lm_MO_299 (RMO.of rfl) rfl (dc dt_MO_form 7 rfl) rfl [I v3] [] rfl rfl (Nat.le_of_ble_eq_true rfl) h (fun r5 u4 g6 h => ?_)
    refine r_istore (q := 16) (dc dt_MO_form 8 rfl) rfl (by decide) rfl ?_
    refine r_iload_n (q := 17) (dc dt_MO_form 9 rfl) rfl rfl 3 rfl ?_
    obtain ⟨o7, h⟩ := h
    refine r_i2l (q := 18) (dc dt_MO_form 10 rfl) rfl o7 ?_
    refine r_lconst (q := 19) (n := 0) (dc dt_MO_form 11 rfl) rfl rfl ?_
    refine r_ldc2 (q := 22) (n := 3) (dc dt_MO_form 12 rfl) rfl (gt_at 1492 (by decide +kernel) rfl) ?_
    refine r_callSi (q := 25) mk_MO_in lm_MO_253 (RMO.of rfl) rfl (dc dt_MO_form 13 rfl) rfl [J v2, J 0, J 3] [] rfl rfl (Nat.le_of_ble_eq_true rfl) (sp_MO_in o7 (⟨by decide, by decide⟩ : rng 0) (⟨by decide, by decide⟩ : rng 3)) (fun _ _ g8 z => ?_)
    obtain ⟨z, w⟩ := z
    subst z
    replace w := w.symm
    subst w
    refine r_ifb_eq (q := 28) (t := 89) (dc dt_MO_form 14 rfl) rfl (by decide) (fun q_ => ?_) (fun q_ => ?_)
    · have h := h.1 q_
      refine r_bipush (q := 91) (dc dt_MO_form 44 rfl) rfl (by decide) ?_
      exact r_iret rfl (dc dt_MO_form 45 rfl) (⟨by decide, by decide⟩ : rng (-2)) h
    · have h := h.2 q_
      refine r_aload_n (q := 29) (dc dt_MO_form 15 rfl) rfl rfl 1 rfl ?_
      refine r_iload_n (q := 30) (dc dt_MO_form 16 rfl) rfl rfl 2 rfl ?_
      refine r_iload_n (q := 31) (dc dt_MO_form 17 rfl) rfl rfl 3 rfl ?_
      obtain ⟨o9, h⟩ := h
      refine r_callVi (q := 34) mk_MO_canHave lm_MO_302 (RMO.of rfl) rfl (dc dt_MO_form 18 rfl) rfl ly8 [I v1, I v2] [] rfl rfl (Nat.le_of_ble_eq_true rfl) (sp_MO_canHave o9) (fun _ _ g10 z => ?_)
      obtain ⟨z, w⟩ := z
      subst z
      replace w := w.symm
      subst w
      refine r_ifb_eq (q := 37) (t := 89) (dc dt_MO_form 19 rfl) rfl (by decide) (fun q_ => ?_) (fun q_ => ?_)
      · have h := h.1 q_
        refine r_bipush (q := 91) (dc dt_MO_form 44 rfl) rfl (by decide) ?_
        exact r_iret rfl (dc dt_MO_form 45 rfl) (⟨by decide, by decide⟩ : rng (-2)) h
      · have h := h.2 q_
        refine r_iload (q := 39) (dc dt_MO_form 20 rfl) rfl 0 rfl ?_
        refine r_i2l (q := 40) (dc dt_MO_form 21 rfl) rfl g6 ?_
        refine r_lconst (q := 41) (n := 1) (dc dt_MO_form 22 rfl) rfl rfl ?_
        refine r_ldc2 (q := 44) (n := 100) (dc dt_MO_form 23 rfl) rfl (gt_at 1497 (by decide +kernel) rfl) ?_
        refine r_callSi (q := 47) mk_MO_in lm_MO_253 (RMO.of rfl) rfl (dc dt_MO_form 24 rfl) rfl [J r5, J 1, J 100] [] rfl rfl (Nat.le_of_ble_eq_true rfl) (sp_MO_in g6 (⟨by decide, by decide⟩ : rng 1) (⟨by decide, by decide⟩ : rng 100)) (fun _ _ g11 z => ?_)
        obtain ⟨z, w⟩ := z
        subst z
        replace w := w.symm
        subst w
        refine r_ifb_eq (q := 50) (t := 89) (dc dt_MO_form 25 rfl) rfl (by decide) (fun q_ => ?_) (fun q_ => ?_)
        · have h := h.1 q_
          refine r_bipush (q := 91) (dc dt_MO_form 44 rfl) rfl (by decide) ?_
          exact r_iret rfl (dc dt_MO_form 45 rfl) (⟨by decide, by decide⟩ : rng (-2)) h
        · have h := h.2 q_
          refine r_iload (q := 52) (dc dt_MO_form 26 rfl) rfl 5 rfl ?_
          obtain ⟨o12, h⟩ := h
          refine r_i2l (q := 53) (dc dt_MO_form 27 rfl) rfl o12 ?_
          refine r_lconst (q := 54) (n := 0) (dc dt_MO_form 28 rfl) rfl rfl ?_
          refine r_ldc2 (q := 57) (n := 100) (dc dt_MO_form 29 rfl) rfl (gt_at 1497 (by decide +kernel) rfl) ?_
          refine r_callSi (q := 60) mk_MO_in lm_MO_253 (RMO.of rfl) rfl (dc dt_MO_form 30 rfl) rfl [J v4, J 0, J 100] [] rfl rfl (Nat.le_of_ble_eq_true rfl) (sp_MO_in o12 (⟨by decide, by decide⟩ : rng 0) (⟨by decide, by decide⟩ : rng 100)) (fun _ _ g13 z => ?_)
          obtain ⟨z, w⟩ := z
          subst z
          replace w := w.symm
          subst w
          refine r_ifb_eq (q := 63) (t := 89) (dc dt_MO_form 31 rfl) rfl (by decide) (fun q_ => ?_) (fun q_ => ?_)
          · have h := h.1 q_
            refine r_bipush (q := 91) (dc dt_MO_form 44 rfl) rfl (by decide) ?_
            exact r_iret rfl (dc dt_MO_form 45 rfl) (⟨by decide, by decide⟩ : rng (-2)) h
          · have h := h.2 q_
            refine r_iload (q := 65) (dc dt_MO_form 32 rfl) rfl 6 rfl ?_
            obtain ⟨o14, h⟩ := h
            refine r_i2l (q := 66) (dc dt_MO_form 33 rfl) rfl o14 ?_
            refine r_lconst (q := 67) (n := 0) (dc dt_MO_form 34 rfl) rfl rfl ?_
            refine r_ldc2 (q := 70) (n := 100) (dc dt_MO_form 35 rfl) rfl (gt_at 1497 (by decide +kernel) rfl) ?_
            refine r_callSi (q := 73) mk_MO_in lm_MO_253 (RMO.of rfl) rfl (dc dt_MO_form 36 rfl) rfl [J v5, J 0, J 100] [] rfl rfl (Nat.le_of_ble_eq_true rfl) (sp_MO_in o14 (⟨by decide, by decide⟩ : rng 0) (⟨by decide, by decide⟩ : rng 100)) (fun _ _ g15 z => ?_)
            obtain ⟨z, w⟩ := z
            subst z
            replace w := w.symm
            subst w
            refine r_ifb_eq (q := 76) (t := 89) (dc dt_MO_form 37 rfl) rfl (by decide) (fun q_ => ?_) (fun q_ => ?_)
            · have h := h.1 q_
              refine r_bipush (q := 91) (dc dt_MO_form 44 rfl) rfl (by decide) ?_
              exact r_iret rfl (dc dt_MO_form 45 rfl) (⟨by decide, by decide⟩ : rng (-2)) h
            · have h := h.2 q_
              refine r_iload (q := 78) (dc dt_MO_form 38 rfl) rfl 7 rfl ?_
              obtain ⟨o16, h⟩ := h
              refine r_i2l (q := 79) (dc dt_MO_form 39 rfl) rfl o16 ?_
              refine r_lconst (q := 80) (n := 0) (dc dt_MO_form 40 rfl) rfl rfl ?_
              refine r_ldc2 (q := 83) (n := 1000) (dc dt_MO_form 41 rfl) rfl (gt_at 1498 (by decide +kernel) rfl) ?_
              refine r_callSi (q := 86) mk_MO_in lm_MO_253 (RMO.of rfl) rfl (dc dt_MO_form 42 rfl) rfl [J v6, J 0, J 1000] [] rfl rfl (Nat.le_of_ble_eq_true rfl) (sp_MO_in o16 (⟨by decide, by decide⟩ : rng 0) (⟨by decide, by decide⟩ : rng 1000)) (fun _ _ g17 z => ?_)
              obtain ⟨z, w⟩ := z
              subst z
              replace w := w.symm
              subst w
              refine r_ifb_ne (q := 89) (t := 92) (dc dt_MO_form 43 rfl) rfl (by decide) (fun q_ => ?_) (fun q_ => ?_)
              · have h := h.1 q_
                refine r_iconst (q := 93) (dc dt_MO_form 46 rfl) rfl rfl ?_
                refine r_iload_n (q := 94) (dc dt_MO_form 47 rfl) rfl rfl 2 rfl ?_
                refine r_imul (q := 95) (dc dt_MO_form 48 rfl) rfl ?_
                refine r_iload_n (q := 96) (dc dt_MO_form 49 rfl) rfl rfl 3 rfl ?_
                refine r_iadd (q := 97) (dc dt_MO_form 50 rfl) rfl ?_
                refine r_istore (q := 99) (dc dt_MO_form 51 rfl) rfl (by decide) rfl ?_
                refine r_aload_n (q := 100) (dc dt_MO_form 52 rfl) rfl rfl 2 rfl ?_
                refine r_getO (q := 103) (v := 105) fl_MO_59 (dc dt_MO_form 53 rfl) rfl ly8 rfl ?_
                refine r_iload (q := 105) (dc dt_MO_form 54 rfl) rfl 0 rfl ?_
                obtain ⟨o18, h⟩ := h
                refine r_iald (q := 106) (v := u4.1 105 (((4 * v1) + v2).toNat)) (dc dt_MO_form 55 rfl) rfl ly105 o18 rfl (fun g19 => ?_)
                refine r_iconst (q := 107) (dc dt_MO_form 56 rfl) rfl rfl ?_
                refine r_icmp_eq (q := 110) (t := 120) (dc dt_MO_form 57 rfl) rfl (by decide) g19 (⟨by decide, by decide⟩ : rng 3) (fun q_ => ?_) (fun q_ => ?_)
                · have h := h.1 q_
                  refine r_bipush (q := 122) (dc dt_MO_form 62 rfl) rfl (by decide) ?_
                  exact r_iret rfl (dc dt_MO_form 63 rfl) (⟨by decide, by decide⟩ : rng (-4)) h
                · have h := h.2 q_
                  refine r_aload_n (q := 111) (dc dt_MO_form 58 rfl) rfl rfl 2 rfl ?_
                  refine r_getI (q := 114) (v := u4.2.1 8 17) fl_MO_257 (dc dt_MO_form 59 rfl) rfl ly8 rfl rfl (fun g20 => ?_)
                  refine r_sipush (q := 117) (dc dt_MO_form 60 rfl) rfl (by decide) ?_
                  refine r_icmp_ne (q := 120) (t := 123) (dc dt_MO_form 61 rfl) rfl (by decide) g20 (⟨by decide, by decide⟩ : rng 200) (fun q_ => ?_) (fun q_ => ?_)
                  · have h := h.1 q_
                    refine r_aload_n (q := 124) (dc dt_MO_form 64 rfl) rfl rfl 2 rfl ?_
                    refine r_getO (q := 127) (v := 95) fl_MO_29 (dc dt_MO_form 65 rfl) rfl ly8 rfl ?_
                    refine r_aload_n (q := 128) (dc dt_MO_form 66 rfl) rfl rfl 2 rfl ?_
                    refine r_getI (q := 131) (v := u4.2.1 8 17) fl_MO_257 (dc dt_MO_form 67 rfl) rfl ly8 rfl rfl (fun g21 => ?_)
                    refine r_iload_n (q := 132) (dc dt_MO_form 68 rfl) rfl rfl 3 rfl ?_
                    obtain ⟨o22, h⟩ := h
                    refine r_iast (q := 133) (dc dt_MO_form 69 rfl) rfl ly95 o22 o1 (fun σ23 e24 => ?_)
                    have h := h σ23 e24
                    refine r_aload_n (q := 134) (dc dt_MO_form 70 rfl) rfl rfl 2 rfl ?_
                    refine r_getO (q := 137) (v := 96) fl_MO_32 (dc dt_MO_form 71 rfl) rfl ly8 rfl ?_
                    refine r_aload_n (q := 138) (dc dt_MO_form 72 rfl) rfl rfl 2 rfl ?_
                    refine r_getI (q := 141) (v := u4.2.1 8 17) fl_MO_257 (dc dt_MO_form 73 rfl) rfl ly8 rfl (by rw [e24]; rfl) (fun g25 => ?_)
                    refine r_iload_n (q := 142) (dc dt_MO_form 74 rfl) rfl rfl 4 rfl ?_
                    refine r_iast (q := 143) (dc dt_MO_form 75 rfl) rfl ly96 o22 o7 (fun σ26 e27 => ?_)
                    have h := h σ26 e27
                    refine r_aload_n (q := 144) (dc dt_MO_form 76 rfl) rfl rfl 2 rfl ?_
                    refine r_getO (q := 147) (v := 97) fl_MO_35 (dc dt_MO_form 77 rfl) rfl ly8 rfl ?_
                    refine r_aload_n (q := 148) (dc dt_MO_form 78 rfl) rfl rfl 2 rfl ?_
                    refine r_getI (q := 151) (v := u4.2.1 8 17) fl_MO_257 (dc dt_MO_form 79 rfl) rfl ly8 rfl (by rw [e27, e24]; rfl) (fun g28 => ?_)
                    refine r_iload (q := 153) (dc dt_MO_form 80 rfl) rfl 1 rfl ?_
                    refine r_iast (q := 154) (dc dt_MO_form 81 rfl) rfl ly97 o22 g6 (fun σ29 e30 => ?_)
                    have h := h σ29 e30
                    refine r_aload_n (q := 155) (dc dt_MO_form 82 rfl) rfl rfl 2 rfl ?_
                    refine r_getO (q := 158) (v := 98) fl_MO_38 (dc dt_MO_form 83 rfl) rfl ly8 rfl ?_
                    refine r_aload_n (q := 159) (dc dt_MO_form 84 rfl) rfl rfl 2 rfl ?_
                    refine r_getI (q := 162) (v := u4.2.1 8 17) fl_MO_257 (dc dt_MO_form 85 rfl) rfl ly8 rfl (by rw [e30, e27, e24]; rfl) (fun g31 => ?_)
                    refine r_iload (q := 164) (dc dt_MO_form 86 rfl) rfl 6 rfl ?_
                    refine r_iast (q := 165) (dc dt_MO_form 87 rfl) rfl ly98 o22 o12 (fun σ32 e33 => ?_)
                    have h := h σ32 e33
                    refine r_aload_n (q := 166) (dc dt_MO_form 88 rfl) rfl rfl 2 rfl ?_
                    refine r_getO (q := 169) (v := 99) fl_MO_41 (dc dt_MO_form 89 rfl) rfl ly8 rfl ?_
                    refine r_aload_n (q := 170) (dc dt_MO_form 90 rfl) rfl rfl 2 rfl ?_
                    refine r_getI (q := 173) (v := u4.2.1 8 17) fl_MO_257 (dc dt_MO_form 91 rfl) rfl ly8 rfl (by rw [e33, e30, e27, e24]; rfl) (fun g34 => ?_)
                    refine r_iload (q := 175) (dc dt_MO_form 92 rfl) rfl 7 rfl ?_
                    refine r_iast (q := 176) (dc dt_MO_form 93 rfl) rfl ly99 o22 o14 (fun σ35 e36 => ?_)
                    have h := h σ35 e36
                    refine r_aload_n (q := 177) (dc dt_MO_form 94 rfl) rfl rfl 2 rfl ?_
                    refine r_getO (q := 180) (v := 100) fl_MO_44 (dc dt_MO_form 95 rfl) rfl ly8 rfl ?_
                    refine r_aload_n (q := 181) (dc dt_MO_form 96 rfl) rfl rfl 2 rfl ?_
                    refine r_getI (q := 184) (v := u4.2.1 8 17) fl_MO_257 (dc dt_MO_form 97 rfl) rfl ly8 rfl (by rw [e36, e33, e30, e27, e24]; rfl) (fun g37 => ?_)
                    refine r_iload (q := 186) (dc dt_MO_form 98 rfl) rfl 8 rfl ?_
                    refine r_iast (q := 187) (dc dt_MO_form 99 rfl) rfl ly100 o22 o16 (fun σ38 e39 => ?_)
                    have h := h σ38 e39
                    refine r_aload_n (q := 188) (dc dt_MO_form 100 rfl) rfl rfl 2 rfl ?_
                    refine r_getO (q := 191) (v := 101) fl_MO_47 (dc dt_MO_form 101 rfl) rfl ly8 rfl ?_
                    refine r_aload_n (q := 192) (dc dt_MO_form 102 rfl) rfl rfl 2 rfl ?_
                    refine r_getI (q := 195) (v := u4.2.1 8 17) fl_MO_257 (dc dt_MO_form 103 rfl) rfl ly8 rfl (by rw [e39, e36, e33, e30, e27, e24]; rfl) (fun g40 => ?_)
                    refine r_iload (q := 197) (dc dt_MO_form 104 rfl) rfl 1 rfl ?_
                    refine r_iconst (q := 198) (dc dt_MO_form 105 rfl) rfl rfl ?_
                    obtain ⟨o41, h⟩ := h
                    refine r_idiv (q := 199) (dc dt_MO_form 106 rfl) rfl o41 g6 (by decide) (by decide) ?_
                    obtain ⟨o42, h⟩ := h
                    refine r_iast (q := 200) (dc dt_MO_form 107 rfl) rfl ly101 o22 o42 (fun σ43 e44 => ?_)
                    have h := h σ43 e44
                    refine r_aload_n (q := 201) (dc dt_MO_form 108 rfl) rfl rfl 2 rfl ?_
                    refine r_getO (q := 204) (v := 102) fl_MO_50 (dc dt_MO_form 109 rfl) rfl ly8 rfl ?_
                    refine r_aload_n (q := 205) (dc dt_MO_form 110 rfl) rfl rfl 2 rfl ?_
                    refine r_getI (q := 208) (v := u4.2.1 8 17) fl_MO_257 (dc dt_MO_form 111 rfl) rfl ly8 rfl (by rw [e44, e39, e36, e33, e30, e27, e24]; rfl) (fun g45 => ?_)
                    refine r_iconst (q := 209) (dc dt_MO_form 112 rfl) rfl rfl ?_
                    refine r_iast (q := 210) (dc dt_MO_form 113 rfl) rfl ly102 o22 (⟨by decide, by decide⟩ : rng 0) (fun σ46 e47 => ?_)
                    have h := h σ46 e47
                    refine r_aload_n (q := 211) (dc dt_MO_form 114 rfl) rfl rfl 2 rfl ?_
                    refine r_getO (q := 214) (v := 103) fl_MO_53 (dc dt_MO_form 115 rfl) rfl ly8 rfl ?_
                    refine r_aload_n (q := 215) (dc dt_MO_form 116 rfl) rfl rfl 2 rfl ?_
                    refine r_getI (q := 218) (v := u4.2.1 8 17) fl_MO_257 (dc dt_MO_form 117 rfl) rfl ly8 rfl (by rw [e47, e44, e39, e36, e33, e30, e27, e24]; rfl) (fun g48 => ?_)
                    refine r_iconst (q := 219) (dc dt_MO_form 118 rfl) rfl rfl ?_
                    refine r_iast (q := 220) (dc dt_MO_form 119 rfl) rfl ly103 o22 (⟨by decide, by decide⟩ : rng 0) (fun σ49 e50 => ?_)
                    have h := h σ49 e50
                    refine r_aload_n (q := 221) (dc dt_MO_form 120 rfl) rfl rfl 2 rfl ?_
                    refine r_getO (q := 224) (v := 104) fl_MO_56 (dc dt_MO_form 121 rfl) rfl ly8 rfl ?_
                    refine r_iconst (q := 225) (dc dt_MO_form 122 rfl) rfl rfl ?_
                    refine r_iload (q := 227) (dc dt_MO_form 123 rfl) rfl 0 rfl ?_
                    refine r_imul (q := 228) (dc dt_MO_form 124 rfl) rfl ?_
                    refine r_aload_n (q := 229) (dc dt_MO_form 125 rfl) rfl rfl 2 rfl ?_
                    refine r_getO (q := 232) (v := 105) fl_MO_59 (dc dt_MO_form 126 rfl) rfl ly8 rfl ?_
                    refine r_iload (q := 234) (dc dt_MO_form 127 rfl) rfl 0 rfl ?_
                    refine r_iald (q := 235) (v := u4.1 105 (((4 * v1) + v2).toNat)) (dc dt_MO_form 128 rfl) rfl ly105 o18 (by rw [e50, e47, e44, e39, e36, e33, e30, e27, e24]; rfl) (fun g51 => ?_)
                    refine r_iadd (q := 236) (dc dt_MO_form 129 rfl) rfl ?_
                    refine r_aload_n (q := 237) (dc dt_MO_form 130 rfl) rfl rfl 2 rfl ?_
                    refine r_getI (q := 240) (v := u4.2.1 8 17) fl_MO_257 (dc dt_MO_form 131 rfl) rfl ly8 rfl (by rw [e50, e47, e44, e39, e36, e33, e30, e27, e24]; rfl) (fun g52 => ?_)
                    obtain ⟨o53, h⟩ := h
                    refine r_iast (q := 241) (dc dt_MO_form 132 rfl) rfl ly104 o53 g52 (fun σ54 e55 => ?_)
                    have h := h σ54 e55
                    refine r_aload_n (q := 242) (dc dt_MO_form 133 rfl) rfl rfl 2 rfl ?_
                    refine r_getO (q := 245) (v := 105) fl_MO_59 (dc dt_MO_form 134 rfl) rfl ly8 rfl ?_
                    refine r_iload (q := 247) (dc dt_MO_form 135 rfl) rfl 0 rfl ?_
                    refine r_dup2 (q := 248) (dc dt_MO_form 136 rfl) rfl ?_
                    refine r_iald (q := 249) (v := u4.1 105 (((4 * v1) + v2).toNat)) (dc dt_MO_form 137 rfl) rfl ly105 o18 (by rw [e55, e50, e47, e44, e39, e36, e33, e30, e27, e24]; rfl) (fun g56 => ?_)
                    refine r_iconst (q := 250) (dc dt_MO_form 138 rfl) rfl rfl ?_
                    refine r_iadd (q := 251) (dc dt_MO_form 139 rfl) rfl ?_
                    obtain ⟨o57, h⟩ := h
                    refine r_iast (q := 252) (dc dt_MO_form 140 rfl) rfl ly105 o18 o57 (fun σ58 e59 => ?_)
                    have h := h σ58 e59
                    refine r_aload_n (q := 253) (dc dt_MO_form 141 rfl) rfl rfl 2 rfl ?_
                    refine r_dupo (q := 254) (dc dt_MO_form 142 rfl) rfl ?_
                    refine r_getI (q := 257) (v := u4.2.1 8 17) fl_MO_257 (dc dt_MO_form 143 rfl) rfl ly8 rfl (by rw [e59, e55, e50, e47, e44, e39, e36, e33, e30, e27, e24]; rfl) (fun g60 => ?_)
                    refine r_iconst (q := 258) (dc dt_MO_form 144 rfl) rfl rfl ?_
                    refine r_iadd (q := 259) (dc dt_MO_form 145 rfl) rfl ?_
                    obtain ⟨o63, h⟩ := h
                    refine r_put (q := 262) fl_MO_257 (dc dt_MO_form 146 rfl) rfl ly8 (fun _ => rfl) (Or.inl rfl) pf_8_17 o63 (fun σ61 e62 => ?_)
                    have h := h σ61 e62
                    refine r_aload_n (q := 263) (dc dt_MO_form 147 rfl) rfl rfl 2 rfl ?_
                    refine r_callVv (q := 266) mk_MO_changed lm_MO_276 (RMO.of rfl) rfl (dc dt_MO_form 148 rfl) rfl ly8 [] [] rfl rfl (Nat.le_of_ble_eq_true rfl) h (fun u64 h => ?_)
                    refine r_aload_n (q := 267) (dc dt_MO_form 149 rfl) rfl rfl 2 rfl ?_
                    refine r_getI (q := 270) (v := u64.2.1 8 17) fl_MO_257 (dc dt_MO_form 150 rfl) rfl ly8 rfl rfl (fun g65 => ?_)
                    refine r_iconst (q := 271) (dc dt_MO_form 151 rfl) rfl rfl ?_
                    refine r_isub (q := 272) (dc dt_MO_form 152 rfl) rfl ?_
                    obtain ⟨o66, h⟩ := h
                    exact r_iret rfl (dc dt_MO_form 153 rfl) o66 h
                  · have h := h.2 q_
                    refine r_bipush (q := 122) (dc dt_MO_form 62 rfl) rfl (by decide) ?_
                    exact r_iret rfl (dc dt_MO_form 63 rfl) (⟨by decide, by decide⟩ : rng (-4)) h
              · have h := h.2 q_
                refine r_bipush (q := 91) (dc dt_MO_form 44 rfl) rfl (by decide) ?_
                exact r_iret rfl (dc dt_MO_form 45 rfl) (⟨by decide, by decide⟩ : rng (-2)) h
  · have h := h.2 q_
    refine r_iconst (q := 9) (dc dt_MO_form 4 rfl) rfl rfl ?_
    exact r_iret rfl (dc dt_MO_form 5 rfl) (⟨by decide, by decide⟩ : rng (-1)) h
def tb_MO_isMark : List (Nat × Instr × Nat) := [(0, .aload_n 0, 1), (1, .getfield 7, 3), (4, .iload_n 1, 1), (5, .iaload, 1), (6, .iconst 3, 1), (7, .if_icmp .eq 13, 3), (10, .aload_n 0, 1), (11, .getfield 7, 3), (14, .iload_n 1, 1), (15, .iaload, 1), (16, .iconst 4, 1), (17, .if_icmp .ne 7, 3), (20, .iconst 1, 1), (21, .goto 4, 3), (24, .iconst 0, 1), (25, .ireturn, 1)]
theorem dt_MO_isMark : DT (cM m_MO_isMark) tb_MO_isMark := by unfold DT; decide +kernel
abbrev a_MO_isMark_0 (G : GT)  (v1 : Int) (σ : St) (P : Int → St → Prop) : Prop := A G m_MO_isMark 0 [(0, O 8), (1, I v1)] [] σ P
set_option maxRecDepth 20000 in
theorem k_MO_isMark_0 {G : GT} {σ : St} {P : Int → St → Prop}  {v1 : Int}  
    (h : (0 ≤ v1 ∧ v1 < 60) ∧ P (if σ.1 89 v1.toNat = 3 ∨ σ.1 89 v1.toNat = 4 then 1 else 0) σ) :
    a_MO_isMark_0 G v1 σ P := by
  refine r_aload_n (q := 1) (dc dt_MO_isMark 0 rfl) rfl rfl 0 rfl ?_
  refine r_getO (q := 4) (v := 89) fl_MO_7 (dc dt_MO_isMark 1 rfl) rfl ly8 rfl ?_
  refine r_iload_n (q := 5) (dc dt_MO_isMark 2 rfl) rfl rfl 1 rfl ?_
  obtain ⟨o1, h⟩ := h
  refine r_iald (q := 6) (v := σ.1 89 v1.toNat) (dc dt_MO_isMark 3 rfl) rfl ly89 o1 rfl (fun g2 => ?_)
  refine r_iconst (q := 7) (dc dt_MO_isMark 4 rfl) rfl rfl ?_
  have hJ : ∀ (w_0 : Int), w_0 = (if σ.1 89 v1.toNat = 3 ∨ σ.1 89 v1.toNat = 4 then 1 else 0) → A G m_MO_isMark 25 [(0, O 8), (1, I v1)] [I w_0] σ P := by
    intro w_0 z_0
    subst z_0
    exact r_zret rfl (dc dt_MO_isMark 15 rfl) b01_or h
  clear h
  refine r_icmp_eq (q := 10) (t := 20) (dc dt_MO_isMark 5 rfl) rfl (by decide) g2 (⟨by decide, by decide⟩ : rng 3) (fun q_ => ?_) (fun q_ => ?_)
  · have q4 := q_
    refine r_iconst (q := 21) (dc dt_MO_isMark 12 rfl) rfl rfl ?_
    refine r_goto (q := 25) (dc dt_MO_isMark 13 rfl) (by decide) ?_
    exact (hJ 1 ((if_pos (by first | omega | grind)).symm))
  · have q4 := q_
    refine r_aload_n (q := 11) (dc dt_MO_isMark 6 rfl) rfl rfl 0 rfl ?_
    refine r_getO (q := 14) (v := 89) fl_MO_7 (dc dt_MO_isMark 7 rfl) rfl ly8 rfl ?_
    refine r_iload_n (q := 15) (dc dt_MO_isMark 8 rfl) rfl rfl 1 rfl ?_
    refine r_iald (q := 16) (v := σ.1 89 v1.toNat) (dc dt_MO_isMark 9 rfl) rfl ly89 o1 rfl (fun g3 => ?_)
    refine r_iconst (q := 17) (dc dt_MO_isMark 10 rfl) rfl rfl ?_
    refine r_icmp_ne (q := 20) (t := 24) (dc dt_MO_isMark 11 rfl) rfl (by decide) g3 (⟨by decide, by decide⟩ : rng 4) (fun q_ => ?_) (fun q_ => ?_)
    · have q5 := q_
      refine r_iconst (q := 25) (dc dt_MO_isMark 14 rfl) rfl rfl ?_
      exact (hJ 0 ((if_neg (by first | omega | grind)).symm))
    · have q5 := q_
      refine r_iconst (q := 21) (dc dt_MO_isMark 12 rfl) rfl rfl ?_
      refine r_goto (q := 25) (dc dt_MO_isMark 13 rfl) (by decide) ?_
      exact (hJ 1 ((if_pos (by first | omega | grind)).symm))
set_option maxRecDepth 20000 in
theorem sp_MO_isMark {G : GT} {σ : St} {v1 : Int}  (j0 : 0 ≤ v1 ∧ v1 < 60) : CJ G m_MO_isMark [O 8, I v1] σ (fun r u => r = (if σ.1 89 v1.toNat = 3 ∨ σ.1 89 v1.toNat = 4 then 1 else 0) ∧ u = σ) := by
  refine CJ.intro (by decide) (by simp [catA]; decide) (fun _ => k_MO_isMark_0  ?_)
  refine ⟨by first | assumption | omega | grind, ?_⟩
  exact ⟨rfl, rfl⟩
def tb_MO_stretch : List (Nat × Instr × Nat) := [(0, .aload_n 0, 1), (1, .iload_n 1, 1), (2, .invokevirtual 310, 3), (5, .ifCond .ne 5, 3), (8, .iconst (-1), 1), (9, .ireturn, 1), (10, .iload_n 2, 1), (11, .i2l, 1), (12, .lconst 0, 1), (13, .ldc2_w 313, 3), (16, .invokestatic 253, 3), (19, .ifCond .eq 15, 3), (22, .iload_n 3, 1), (23, .i2l, 1), (24, .lconst 0, 1), (25, .ldc2_w 315, 3), (28, .invokestatic 253, 3), (31, .ifCond .ne 6, 3), (34, .bipush (-2), 2), (36, .ireturn, 1), (37, .aload_n 0, 1), (38, .aload_n 0, 1), (39, .getfield 29, 3), (42, .iload_n 1, 1), (43, .iaload, 1), (44, .invokevirtual 317, 3), (47, .ifCond .eq 6, 3), (50, .bipush (-5), 2), (52, .ireturn, 1), (53, .aload_n 0, 1), (54, .getfield 50, 3), (57, .iload_n 1, 1), (58, .iload_n 2, 1), (59, .iastore, 1), (60, .aload_n 0, 1), (61, .getfield 53, 3), (64, .iload_n 1, 1), (65, .iload_n 3, 1), (66, .iastore, 1), (67, .aload_n 0, 1), (68, .invokevirtual 276, 3), (71, .iconst 1, 1), (72, .ireturn, 1)]
theorem dt_MO_stretch : DT (cM m_MO_stretch) tb_MO_stretch := by unfold DT; decide +kernel
abbrev a_MO_stretch_0 (G : GT)  (v1 : Int) (v2 : Int) (v3 : Int) (σ : St) (P : Int → St → Prop) : Prop := A G m_MO_stretch 0 [(0, O 8), (1, I v1), (2, I v2), (3, I v3)] [] σ P
set_option maxRecDepth 20000 in
theorem k_MO_stretch_0 {G : GT} {σ : St} {P : Int → St → Prop}  {v1 : Int} {v2 : Int} {v3 : Int}  
    (h : rng v1 ∧ rng ((σ.2.1 8 17) - 1) ∧ (0 ≤ v1 ∧ v1 ≤ ((σ.2.1 8 17) - 1) → rng v2 ∧ (¬ (0 ≤ v2 ∧ v2 ≤ 12) → P (-2) σ) ∧ (0 ≤ v2 ∧ v2 ≤ 12 → rng v3 ∧ (0 ≤ v3 ∧ v3 ≤ 50 → (0 ≤ v1 ∧ v1 < 200) ∧ (0 ≤ (σ.1 95 v1.toNat) ∧ (σ.1 95 v1.toNat) < 60) ∧ (¬ (σ.1 89 (σ.1 95 v1.toNat).toNat = 3 ∨ σ.1 89 (σ.1 95 v1.toNat).toNat = 4) → (∀ σ12, σ12 = sa σ 102 v1.toNat v2 → (∀ σ14, σ14 = sa σ12 103 v1.toNat v3 → CJ G m_MO_changed [O 8] σ14 (fun _ u16 => P 1 u16)))) ∧ (σ.1 89 (σ.1 95 v1.toNat).toNat = 3 ∨ σ.1 89 (σ.1 95 v1.toNat).toNat = 4 → P (-5) σ)) ∧ (¬ (0 ≤ v3 ∧ v3 ≤ 50) → P (-2) σ))) ∧ (¬ (0 ≤ v1 ∧ v1 ≤ ((σ.2.1 8 17) - 1)) → P (-1) σ)) :
    a_MO_stretch_0 G v1 v2 v3 σ P := by
  refine r_aload_n (q := 1) (dc dt_MO_stretch 0 rfl) rfl rfl 0 rfl ?_
  refine r_iload_n (q := 2) (dc dt_MO_stretch 1 rfl) rfl rfl 1 rfl ?_
  obtain ⟨o1, h⟩ := h
  obtain ⟨o2, h⟩ := h
  refine r_callVi (q := 5) mk_MO_isForm lm_MO_310 (RMO.of rfl) rfl (dc dt_MO_stretch 2 rfl) rfl ly8 [I v1] [] rfl rfl (Nat.le_of_ble_eq_true rfl) (sp_MO_isForm o1 o2) (fun _ _ g3 z => ?_)
  obtain ⟨z, w⟩ := z
  subst z
  replace w := w.symm
  subst w
  refine r_ifb_ne (q := 8) (t := 10) (dc dt_MO_stretch 3 rfl) rfl (by decide) (fun q_ => ?_) (fun q_ => ?_)
  · have h := h.1 q_
    refine r_iload_n (q := 11) (dc dt_MO_stretch 6 rfl) rfl rfl 2 rfl ?_
    obtain ⟨o4, h⟩ := h
    refine r_i2l (q := 12) (dc dt_MO_stretch 7 rfl) rfl o4 ?_
    refine r_lconst (q := 13) (n := 0) (dc dt_MO_stretch 8 rfl) rfl rfl ?_
    refine r_ldc2 (q := 16) (n := 12) (dc dt_MO_stretch 9 rfl) rfl (gt_at 1507 (by decide +kernel) rfl) ?_
    refine r_callSi (q := 19) mk_MO_in lm_MO_253 (RMO.of rfl) rfl (dc dt_MO_stretch 10 rfl) rfl [J v2, J 0, J 12] [] rfl rfl (Nat.le_of_ble_eq_true rfl) (sp_MO_in o4 (⟨by decide, by decide⟩ : rng 0) (⟨by decide, by decide⟩ : rng 12)) (fun _ _ g5 z => ?_)
    obtain ⟨z, w⟩ := z
    subst z
    replace w := w.symm
    subst w
    refine r_ifb_eq (q := 22) (t := 34) (dc dt_MO_stretch 11 rfl) rfl (by decide) (fun q_ => ?_) (fun q_ => ?_)
    · have h := h.1 q_
      refine r_bipush (q := 36) (dc dt_MO_stretch 18 rfl) rfl (by decide) ?_
      exact r_iret rfl (dc dt_MO_stretch 19 rfl) (⟨by decide, by decide⟩ : rng (-2)) h
    · have h := h.2 q_
      refine r_iload_n (q := 23) (dc dt_MO_stretch 12 rfl) rfl rfl 3 rfl ?_
      obtain ⟨o6, h⟩ := h
      refine r_i2l (q := 24) (dc dt_MO_stretch 13 rfl) rfl o6 ?_
      refine r_lconst (q := 25) (n := 0) (dc dt_MO_stretch 14 rfl) rfl rfl ?_
      refine r_ldc2 (q := 28) (n := 50) (dc dt_MO_stretch 15 rfl) rfl (gt_at 1508 (by decide +kernel) rfl) ?_
      refine r_callSi (q := 31) mk_MO_in lm_MO_253 (RMO.of rfl) rfl (dc dt_MO_stretch 16 rfl) rfl [J v3, J 0, J 50] [] rfl rfl (Nat.le_of_ble_eq_true rfl) (sp_MO_in o6 (⟨by decide, by decide⟩ : rng 0) (⟨by decide, by decide⟩ : rng 50)) (fun _ _ g7 z => ?_)
      obtain ⟨z, w⟩ := z
      subst z
      replace w := w.symm
      subst w
      refine r_ifb_ne (q := 34) (t := 37) (dc dt_MO_stretch 17 rfl) rfl (by decide) (fun q_ => ?_) (fun q_ => ?_)
      · have h := h.1 q_
        refine r_aload_n (q := 38) (dc dt_MO_stretch 20 rfl) rfl rfl 0 rfl ?_
        refine r_aload_n (q := 39) (dc dt_MO_stretch 21 rfl) rfl rfl 0 rfl ?_
        refine r_getO (q := 42) (v := 95) fl_MO_29 (dc dt_MO_stretch 22 rfl) rfl ly8 rfl ?_
        refine r_iload_n (q := 43) (dc dt_MO_stretch 23 rfl) rfl rfl 1 rfl ?_
        obtain ⟨o8, h⟩ := h
        refine r_iald (q := 44) (v := σ.1 95 v1.toNat) (dc dt_MO_stretch 24 rfl) rfl ly95 o8 rfl (fun g9 => ?_)
        obtain ⟨o10, h⟩ := h
        refine r_callVi (q := 47) mk_MO_isMark lm_MO_317 (RMO.of rfl) rfl (dc dt_MO_stretch 25 rfl) rfl ly8 [I (σ.1 95 v1.toNat)] [] rfl rfl (Nat.le_of_ble_eq_true rfl) (sp_MO_isMark o10) (fun _ _ g11 z => ?_)
        obtain ⟨z, w⟩ := z
        subst z
        replace w := w.symm
        subst w
        refine r_ifb_eq (q := 50) (t := 53) (dc dt_MO_stretch 26 rfl) rfl (by decide) (fun q_ => ?_) (fun q_ => ?_)
        · have h := h.1 q_
          refine r_aload_n (q := 54) (dc dt_MO_stretch 29 rfl) rfl rfl 0 rfl ?_
          refine r_getO (q := 57) (v := 102) fl_MO_50 (dc dt_MO_stretch 30 rfl) rfl ly8 rfl ?_
          refine r_iload_n (q := 58) (dc dt_MO_stretch 31 rfl) rfl rfl 1 rfl ?_
          refine r_iload_n (q := 59) (dc dt_MO_stretch 32 rfl) rfl rfl 2 rfl ?_
          refine r_iast (q := 60) (dc dt_MO_stretch 33 rfl) rfl ly102 o8 o4 (fun σ12 e13 => ?_)
          have h := h σ12 e13
          refine r_aload_n (q := 61) (dc dt_MO_stretch 34 rfl) rfl rfl 0 rfl ?_
          refine r_getO (q := 64) (v := 103) fl_MO_53 (dc dt_MO_stretch 35 rfl) rfl ly8 rfl ?_
          refine r_iload_n (q := 65) (dc dt_MO_stretch 36 rfl) rfl rfl 1 rfl ?_
          refine r_iload_n (q := 66) (dc dt_MO_stretch 37 rfl) rfl rfl 3 rfl ?_
          refine r_iast (q := 67) (dc dt_MO_stretch 38 rfl) rfl ly103 o8 o6 (fun σ14 e15 => ?_)
          have h := h σ14 e15
          refine r_aload_n (q := 68) (dc dt_MO_stretch 39 rfl) rfl rfl 0 rfl ?_
          refine r_callVv (q := 71) mk_MO_changed lm_MO_276 (RMO.of rfl) rfl (dc dt_MO_stretch 40 rfl) rfl ly8 [] [] rfl rfl (Nat.le_of_ble_eq_true rfl) h (fun u16 h => ?_)
          refine r_iconst (q := 72) (dc dt_MO_stretch 41 rfl) rfl rfl ?_
          exact r_iret rfl (dc dt_MO_stretch 42 rfl) (⟨by decide, by decide⟩ : rng 1) h
        · have h := h.2 q_
          refine r_bipush (q := 52) (dc dt_MO_stretch 27 rfl) rfl (by decide) ?_
          exact r_iret rfl (dc dt_MO_stretch 28 rfl) (⟨by decide, by decide⟩ : rng (-5)) h
      · have h := h.2 q_
        refine r_bipush (q := 36) (dc dt_MO_stretch 18 rfl) rfl (by decide) ?_
        exact r_iret rfl (dc dt_MO_stretch 19 rfl) (⟨by decide, by decide⟩ : rng (-2)) h
  · have h := h.2 q_
    refine r_iconst (q := 9) (dc dt_MO_stretch 4 rfl) rfl rfl ?_
    exact r_iret rfl (dc dt_MO_stretch 5 rfl) (⟨by decide, by decide⟩ : rng (-1)) h
def tb_MO_point : List (Nat × Instr × Nat) := [(0, .aload_n 0, 1), (1, .iload_n 1, 1), (2, .invokevirtual 310, 3), (5, .ifCond .ne 5, 3), (8, .iconst (-1), 1), (9, .ireturn, 1), (10, .iload_n 2, 1), (11, .i2l, 1), (12, .lconst 0, 1), (13, .aload_n 0, 1), (14, .getfield 35, 3), (17, .iload_n 1, 1), (18, .iaload, 1), (19, .i2l, 1), (20, .invokestatic 253, 3), (23, .ifCond .ne 6, 3), (26, .bipush (-2), 2), (28, .ireturn, 1), (29, .aload_n 0, 1), (30, .getfield 47, 3), (33, .iload_n 1, 1), (34, .iload_n 2, 1), (35, .iastore, 1), (36, .aload_n 0, 1), (37, .invokevirtual 276, 3), (40, .iconst 1, 1), (41, .ireturn, 1)]
theorem dt_MO_point : DT (cM m_MO_point) tb_MO_point := by unfold DT; decide +kernel
abbrev a_MO_point_0 (G : GT)  (v1 : Int) (v2 : Int) (σ : St) (P : Int → St → Prop) : Prop := A G m_MO_point 0 [(0, O 8), (1, I v1), (2, I v2)] [] σ P
set_option maxRecDepth 20000 in
theorem k_MO_point_0 {G : GT} {σ : St} {P : Int → St → Prop}  {v1 : Int} {v2 : Int}  
    (h : rng v1 ∧ rng ((σ.2.1 8 17) - 1) ∧ (0 ≤ v1 ∧ v1 ≤ ((σ.2.1 8 17) - 1) → rng v2 ∧ (0 ≤ v1 ∧ v1 < 200) ∧ (0 ≤ v2 ∧ v2 ≤ (σ.1 97 v1.toNat) → (∀ σ8, σ8 = sa σ 101 v1.toNat v2 → CJ G m_MO_changed [O 8] σ8 (fun _ u10 => P 1 u10))) ∧ (¬ (0 ≤ v2 ∧ v2 ≤ (σ.1 97 v1.toNat)) → P (-2) σ)) ∧ (¬ (0 ≤ v1 ∧ v1 ≤ ((σ.2.1 8 17) - 1)) → P (-1) σ)) :
    a_MO_point_0 G v1 v2 σ P := by
  refine r_aload_n (q := 1) (dc dt_MO_point 0 rfl) rfl rfl 0 rfl ?_
  refine r_iload_n (q := 2) (dc dt_MO_point 1 rfl) rfl rfl 1 rfl ?_
  obtain ⟨o1, h⟩ := h
  obtain ⟨o2, h⟩ := h
  refine r_callVi (q := 5) mk_MO_isForm lm_MO_310 (RMO.of rfl) rfl (dc dt_MO_point 2 rfl) rfl ly8 [I v1] [] rfl rfl (Nat.le_of_ble_eq_true rfl) (sp_MO_isForm o1 o2) (fun _ _ g3 z => ?_)
  obtain ⟨z, w⟩ := z
  subst z
  replace w := w.symm
  subst w
  refine r_ifb_ne (q := 8) (t := 10) (dc dt_MO_point 3 rfl) rfl (by decide) (fun q_ => ?_) (fun q_ => ?_)
  · have h := h.1 q_
    refine r_iload_n (q := 11) (dc dt_MO_point 6 rfl) rfl rfl 2 rfl ?_
    obtain ⟨o4, h⟩ := h
    refine r_i2l (q := 12) (dc dt_MO_point 7 rfl) rfl o4 ?_
    refine r_lconst (q := 13) (n := 0) (dc dt_MO_point 8 rfl) rfl rfl ?_
    refine r_aload_n (q := 14) (dc dt_MO_point 9 rfl) rfl rfl 0 rfl ?_
    refine r_getO (q := 17) (v := 97) fl_MO_35 (dc dt_MO_point 10 rfl) rfl ly8 rfl ?_
    refine r_iload_n (q := 18) (dc dt_MO_point 11 rfl) rfl rfl 1 rfl ?_
    obtain ⟨o5, h⟩ := h
    refine r_iald (q := 19) (v := σ.1 97 v1.toNat) (dc dt_MO_point 12 rfl) rfl ly97 o5 rfl (fun g6 => ?_)
    refine r_i2l (q := 20) (dc dt_MO_point 13 rfl) rfl g6 ?_
    refine r_callSi (q := 23) mk_MO_in lm_MO_253 (RMO.of rfl) rfl (dc dt_MO_point 14 rfl) rfl [J v2, J 0, J (σ.1 97 v1.toNat)] [] rfl rfl (Nat.le_of_ble_eq_true rfl) (sp_MO_in o4 (⟨by decide, by decide⟩ : rng 0) g6) (fun _ _ g7 z => ?_)
    obtain ⟨z, w⟩ := z
    subst z
    replace w := w.symm
    subst w
    refine r_ifb_ne (q := 26) (t := 29) (dc dt_MO_point 15 rfl) rfl (by decide) (fun q_ => ?_) (fun q_ => ?_)
    · have h := h.1 q_
      refine r_aload_n (q := 30) (dc dt_MO_point 18 rfl) rfl rfl 0 rfl ?_
      refine r_getO (q := 33) (v := 101) fl_MO_47 (dc dt_MO_point 19 rfl) rfl ly8 rfl ?_
      refine r_iload_n (q := 34) (dc dt_MO_point 20 rfl) rfl rfl 1 rfl ?_
      refine r_iload_n (q := 35) (dc dt_MO_point 21 rfl) rfl rfl 2 rfl ?_
      refine r_iast (q := 36) (dc dt_MO_point 22 rfl) rfl ly101 o5 o4 (fun σ8 e9 => ?_)
      have h := h σ8 e9
      refine r_aload_n (q := 37) (dc dt_MO_point 23 rfl) rfl rfl 0 rfl ?_
      refine r_callVv (q := 40) mk_MO_changed lm_MO_276 (RMO.of rfl) rfl (dc dt_MO_point 24 rfl) rfl ly8 [] [] rfl rfl (Nat.le_of_ble_eq_true rfl) h (fun u10 h => ?_)
      refine r_iconst (q := 41) (dc dt_MO_point 25 rfl) rfl rfl ?_
      exact r_iret rfl (dc dt_MO_point 26 rfl) (⟨by decide, by decide⟩ : rng 1) h
    · have h := h.2 q_
      refine r_bipush (q := 28) (dc dt_MO_point 16 rfl) rfl (by decide) ?_
      exact r_iret rfl (dc dt_MO_point 17 rfl) (⟨by decide, by decide⟩ : rng (-2)) h
  · have h := h.2 q_
    refine r_iconst (q := 9) (dc dt_MO_point 4 rfl) rfl rfl ?_
    exact r_iret rfl (dc dt_MO_point 5 rfl) (⟨by decide, by decide⟩ : rng (-1)) h
def tb_MO_bar : List (Nat × Instr × Nat) := [(0, .aload_n 0, 1), (1, .iload_n 1, 1), (2, .invokevirtual 285, 3), (5, .ifCond .ne 5, 3), (8, .iconst (-1), 1), (9, .ireturn, 1), (10, .aload_n 0, 1), (11, .getfield 26, 3), (14, .iload_n 1, 1), (15, .baload, 1), (16, .ifCond .eq 7, 3), (19, .iconst 1, 1), (20, .goto 4, 3), (23, .iconst 0, 1), (24, .istore_n 3, 1), (25, .aload_n 0, 1), (26, .getfield 26, 3), (29, .iload_n 1, 1), (30, .iload_n 2, 1), (31, .bastore, 1), (32, .aload_n 0, 1), (33, .invokevirtual 276, 3), (36, .iload_n 3, 1), (37, .ireturn, 1)]
theorem dt_MO_bar : DT (cM m_MO_bar) tb_MO_bar := by unfold DT; decide +kernel
abbrev a_MO_bar_0 (G : GT)  (v1 : Int) (v2 : Int) (σ : St) (P : Int → St → Prop) : Prop := A G m_MO_bar 0 [(0, O 8), (1, I v1), (2, I v2)] [] σ P
set_option maxRecDepth 20000 in
theorem k_MO_bar_0 {G : GT} {σ : St} {P : Int → St → Prop}  {v1 : Int} {v2 : Int}  
    (h : rng v1 ∧ rng ((σ.2.1 8 6) - 1) ∧ (0 ≤ v1 ∧ v1 ≤ ((σ.2.1 8 6) - 1) → (0 ≤ v1 ∧ v1 < 60) ∧ (v2 = 0 ∨ v2 = 1) ∧ (∀ σ7, σ7 = sa σ 94 v1.toNat v2 → CJ G m_MO_changed [O 8] σ7 (fun _ u9 => P (if σ.1 94 v1.toNat ≠ 0 then 1 else 0) u9))) ∧ (¬ (0 ≤ v1 ∧ v1 ≤ ((σ.2.1 8 6) - 1)) → P (-1) σ)) :
    a_MO_bar_0 G v1 v2 σ P := by
  refine r_aload_n (q := 1) (dc dt_MO_bar 0 rfl) rfl rfl 0 rfl ?_
  refine r_iload_n (q := 2) (dc dt_MO_bar 1 rfl) rfl rfl 1 rfl ?_
  obtain ⟨o1, h⟩ := h
  obtain ⟨o2, h⟩ := h
  refine r_callVi (q := 5) mk_MO_isLetter lm_MO_285 (RMO.of rfl) rfl (dc dt_MO_bar 2 rfl) rfl ly8 [I v1] [] rfl rfl (Nat.le_of_ble_eq_true rfl) (sp_MO_isLetter o1 o2) (fun _ _ g3 z => ?_)
  obtain ⟨z, w⟩ := z
  subst z
  replace w := w.symm
  subst w
  refine r_ifb_ne (q := 8) (t := 10) (dc dt_MO_bar 3 rfl) rfl (by decide) (fun q_ => ?_) (fun q_ => ?_)
  · have h := h.1 q_
    refine r_aload_n (q := 11) (dc dt_MO_bar 6 rfl) rfl rfl 0 rfl ?_
    refine r_getO (q := 14) (v := 94) fl_MO_26 (dc dt_MO_bar 7 rfl) rfl ly8 rfl ?_
    refine r_iload_n (q := 15) (dc dt_MO_bar 8 rfl) rfl rfl 1 rfl ?_
    obtain ⟨o4, h⟩ := h
    refine r_zald (q := 16) (v := σ.1 94 v1.toNat) (dc dt_MO_bar 9 rfl) rfl ly94 o4 rfl (fun g5 => ?_)
    have hJ : ∀ (w_0 : Int), w_0 = (if σ.1 94 v1.toNat ≠ 0 then 1 else 0) → A G m_MO_bar 24 [(0, O 8), (1, I v1), (2, I v2)] [I w_0] σ P := by
      intro w_0 z_0
      subst z_0
      refine r_istore_n (q := 25) (dc dt_MO_bar 14 rfl) rfl rfl (by decide) rfl ?_
      refine r_aload_n (q := 26) (dc dt_MO_bar 15 rfl) rfl rfl 1 rfl ?_
      refine r_getO (q := 29) (v := 94) fl_MO_26 (dc dt_MO_bar 16 rfl) rfl ly8 rfl ?_
      refine r_iload_n (q := 30) (dc dt_MO_bar 17 rfl) rfl rfl 2 rfl ?_
      refine r_iload_n (q := 31) (dc dt_MO_bar 18 rfl) rfl rfl 3 rfl ?_
      obtain ⟨o6, h⟩ := h
      refine r_zast (q := 32) (dc dt_MO_bar 19 rfl) rfl ly94 o4 o6 (fun σ7 e8 => ?_)
      have h := h σ7 e8
      refine r_aload_n (q := 33) (dc dt_MO_bar 20 rfl) rfl rfl 1 rfl ?_
      refine r_callVv (q := 36) mk_MO_changed lm_MO_276 (RMO.of rfl) rfl (dc dt_MO_bar 21 rfl) rfl ly8 [] [] rfl rfl (Nat.le_of_ble_eq_true rfl) h (fun u9 h => ?_)
      refine r_iload_n (q := 37) (dc dt_MO_bar 22 rfl) rfl rfl 0 rfl ?_
      exact r_iret rfl (dc dt_MO_bar 23 rfl) b01_rng h
    clear h
    refine r_if_eq (q := 19) (t := 23) (dc dt_MO_bar 10 rfl) rfl (by decide) g5 (fun q_ => ?_) (fun q_ => ?_)
    · have q10 := q_
      refine r_iconst (q := 24) (dc dt_MO_bar 13 rfl) rfl rfl ?_
      exact (hJ 0 ((if_neg (by first | omega | grind)).symm))
    · have q10 := q_
      refine r_iconst (q := 20) (dc dt_MO_bar 11 rfl) rfl rfl ?_
      refine r_goto (q := 24) (dc dt_MO_bar 12 rfl) (by decide) ?_
      exact (hJ 1 ((if_pos (by first | omega | grind)).symm))
  · have h := h.2 q_
    refine r_iconst (q := 9) (dc dt_MO_bar 4 rfl) rfl rfl ?_
    exact r_iret rfl (dc dt_MO_bar 5 rfl) (⟨by decide, by decide⟩ : rng (-1)) h
def tb_MO_about : List (Nat × Instr × Nat) := [(0, .aload_n 0, 1), (1, .iload_n 1, 1), (2, .invokevirtual 310, 3), (5, .ifCond .ne 5, 3), (8, .iconst (-1), 1), (9, .ireturn, 1), (10, .iload_n 2, 1), (11, .tableswitch 112 0 8 #[49, 56, 63, 70, 77, 84, 91, 98, 105], 49), (60, .aload_n 0, 1), (61, .getfield 29, 3), (64, .iload_n 1, 1), (65, .iaload, 1), (66, .ireturn, 1), (67, .aload_n 0, 1), (68, .getfield 32, 3), (71, .iload_n 1, 1), (72, .iaload, 1), (73, .ireturn, 1), (74, .aload_n 0, 1), (75, .getfield 35, 3), (78, .iload_n 1, 1), (79, .iaload, 1), (80, .ireturn, 1), (81, .aload_n 0, 1), (82, .getfield 38, 3), (85, .iload_n 1, 1), (86, .iaload, 1), (87, .ireturn, 1), (88, .aload_n 0, 1), (89, .getfield 41, 3), (92, .iload_n 1, 1), (93, .iaload, 1), (94, .ireturn, 1), (95, .aload_n 0, 1), (96, .getfield 44, 3), (99, .iload_n 1, 1), (100, .iaload, 1), (101, .ireturn, 1), (102, .aload_n 0, 1), (103, .getfield 47, 3), (106, .iload_n 1, 1), (107, .iaload, 1), (108, .ireturn, 1), (109, .aload_n 0, 1), (110, .getfield 50, 3), (113, .iload_n 1, 1), (114, .iaload, 1), (115, .ireturn, 1), (116, .aload_n 0, 1), (117, .getfield 53, 3), (120, .iload_n 1, 1), (121, .iaload, 1), (122, .ireturn, 1), (123, .bipush (-2), 2), (125, .ireturn, 1)]
theorem dt_MO_about : DT (cM m_MO_about) tb_MO_about := by unfold DT; decide +kernel
abbrev a_MO_about_0 (G : GT)  (v1 : Int) (v2 : Int) (σ : St) (P : Int → St → Prop) : Prop := A G m_MO_about 0 [(0, O 8), (1, I v1), (2, I v2)] [] σ P
set_option maxRecDepth 20000 in
theorem k_MO_about_0 {G : GT} {σ : St} {P : Int → St → Prop}  {v1 : Int} {v2 : Int}  
    (h : rng v1 ∧ rng ((σ.2.1 8 17) - 1) ∧ (0 ≤ v1 ∧ v1 ≤ ((σ.2.1 8 17) - 1) → rng v2 ∧ (v2 = 0 → (0 ≤ v1 ∧ v1 < 200) ∧ P (σ.1 95 v1.toNat) σ) ∧ (v2 = 1 → (0 ≤ v1 ∧ v1 < 200) ∧ P (σ.1 96 v1.toNat) σ) ∧ (v2 = 2 → (0 ≤ v1 ∧ v1 < 200) ∧ P (σ.1 97 v1.toNat) σ) ∧ (v2 = 3 → (0 ≤ v1 ∧ v1 < 200) ∧ P (σ.1 98 v1.toNat) σ) ∧ (v2 = 4 → (0 ≤ v1 ∧ v1 < 200) ∧ P (σ.1 99 v1.toNat) σ) ∧ (v2 = 5 → (0 ≤ v1 ∧ v1 < 200) ∧ P (σ.1 100 v1.toNat) σ) ∧ (v2 = 6 → (0 ≤ v1 ∧ v1 < 200) ∧ P (σ.1 101 v1.toNat) σ) ∧ (v2 = 7 → (0 ≤ v1 ∧ v1 < 200) ∧ P (σ.1 102 v1.toNat) σ) ∧ (v2 = 8 → (0 ≤ v1 ∧ v1 < 200) ∧ P (σ.1 103 v1.toNat) σ) ∧ ((v2 < 0 ∨ 8 < v2) → P (-2) σ)) ∧ (¬ (0 ≤ v1 ∧ v1 ≤ ((σ.2.1 8 17) - 1)) → P (-1) σ)) :
    a_MO_about_0 G v1 v2 σ P := by
  refine r_aload_n (q := 1) (dc dt_MO_about 0 rfl) rfl rfl 0 rfl ?_
  refine r_iload_n (q := 2) (dc dt_MO_about 1 rfl) rfl rfl 1 rfl ?_
  obtain ⟨o1, h⟩ := h
  obtain ⟨o2, h⟩ := h
  refine r_callVi (q := 5) mk_MO_isForm lm_MO_310 (RMO.of rfl) rfl (dc dt_MO_about 2 rfl) rfl ly8 [I v1] [] rfl rfl (Nat.le_of_ble_eq_true rfl) (sp_MO_isForm o1 o2) (fun _ _ g3 z => ?_)
  obtain ⟨z, w⟩ := z
  subst z
  replace w := w.symm
  subst w
  refine r_ifb_ne (q := 8) (t := 10) (dc dt_MO_about 3 rfl) rfl (by decide) (fun q_ => ?_) (fun q_ => ?_)
  · have h := h.1 q_
    refine r_iload_n (q := 11) (dc dt_MO_about 6 rfl) rfl rfl 2 rfl ?_
    obtain ⟨o4, h⟩ := h
    by_cases qo : (v2 < 0 ∨ 8 < v2)
    · have q_ := qo
      have h := h.2.2.2.2.2.2.2.2.2 q_
      refine r_swOut (t := 123) (dc dt_MO_about 7 rfl) (by decide) o4 q_ ?_
      refine r_bipush (q := 125) (dc dt_MO_about 53 rfl) rfl (by decide) ?_
      exact r_iret rfl (dc dt_MO_about 54 rfl) (⟨by decide, by decide⟩ : rng (-2)) h
    · by_cases q_ : v2 = 0
      · have h := h.1 q_
        refine r_swIn (t := 60) (dc dt_MO_about 7 rfl) o4 (by omega) (by omega) (by rw [q_]; rfl) (by decide) ?_
        refine r_aload_n (q := 61) (dc dt_MO_about 8 rfl) rfl rfl 0 rfl ?_
        refine r_getO (q := 64) (v := 95) fl_MO_29 (dc dt_MO_about 9 rfl) rfl ly8 rfl ?_
        refine r_iload_n (q := 65) (dc dt_MO_about 10 rfl) rfl rfl 1 rfl ?_
        obtain ⟨o5, h⟩ := h
        refine r_iald (q := 66) (v := σ.1 95 v1.toNat) (dc dt_MO_about 11 rfl) rfl ly95 o5 rfl (fun g6 => ?_)
        exact r_iret rfl (dc dt_MO_about 12 rfl) g6 h
      · by_cases q_ : v2 = 1
        · have h := h.2.1 q_
          refine r_swIn (t := 67) (dc dt_MO_about 7 rfl) o4 (by omega) (by omega) (by rw [q_]; rfl) (by decide) ?_
          refine r_aload_n (q := 68) (dc dt_MO_about 13 rfl) rfl rfl 0 rfl ?_
          refine r_getO (q := 71) (v := 96) fl_MO_32 (dc dt_MO_about 14 rfl) rfl ly8 rfl ?_
          refine r_iload_n (q := 72) (dc dt_MO_about 15 rfl) rfl rfl 1 rfl ?_
          obtain ⟨o7, h⟩ := h
          refine r_iald (q := 73) (v := σ.1 96 v1.toNat) (dc dt_MO_about 16 rfl) rfl ly96 o7 rfl (fun g8 => ?_)
          exact r_iret rfl (dc dt_MO_about 17 rfl) g8 h
        · by_cases q_ : v2 = 2
          · have h := h.2.2.1 q_
            refine r_swIn (t := 74) (dc dt_MO_about 7 rfl) o4 (by omega) (by omega) (by rw [q_]; rfl) (by decide) ?_
            refine r_aload_n (q := 75) (dc dt_MO_about 18 rfl) rfl rfl 0 rfl ?_
            refine r_getO (q := 78) (v := 97) fl_MO_35 (dc dt_MO_about 19 rfl) rfl ly8 rfl ?_
            refine r_iload_n (q := 79) (dc dt_MO_about 20 rfl) rfl rfl 1 rfl ?_
            obtain ⟨o9, h⟩ := h
            refine r_iald (q := 80) (v := σ.1 97 v1.toNat) (dc dt_MO_about 21 rfl) rfl ly97 o9 rfl (fun g10 => ?_)
            exact r_iret rfl (dc dt_MO_about 22 rfl) g10 h
          · by_cases q_ : v2 = 3
            · have h := h.2.2.2.1 q_
              refine r_swIn (t := 81) (dc dt_MO_about 7 rfl) o4 (by omega) (by omega) (by rw [q_]; rfl) (by decide) ?_
              refine r_aload_n (q := 82) (dc dt_MO_about 23 rfl) rfl rfl 0 rfl ?_
              refine r_getO (q := 85) (v := 98) fl_MO_38 (dc dt_MO_about 24 rfl) rfl ly8 rfl ?_
              refine r_iload_n (q := 86) (dc dt_MO_about 25 rfl) rfl rfl 1 rfl ?_
              obtain ⟨o11, h⟩ := h
              refine r_iald (q := 87) (v := σ.1 98 v1.toNat) (dc dt_MO_about 26 rfl) rfl ly98 o11 rfl (fun g12 => ?_)
              exact r_iret rfl (dc dt_MO_about 27 rfl) g12 h
            · by_cases q_ : v2 = 4
              · have h := h.2.2.2.2.1 q_
                refine r_swIn (t := 88) (dc dt_MO_about 7 rfl) o4 (by omega) (by omega) (by rw [q_]; rfl) (by decide) ?_
                refine r_aload_n (q := 89) (dc dt_MO_about 28 rfl) rfl rfl 0 rfl ?_
                refine r_getO (q := 92) (v := 99) fl_MO_41 (dc dt_MO_about 29 rfl) rfl ly8 rfl ?_
                refine r_iload_n (q := 93) (dc dt_MO_about 30 rfl) rfl rfl 1 rfl ?_
                obtain ⟨o13, h⟩ := h
                refine r_iald (q := 94) (v := σ.1 99 v1.toNat) (dc dt_MO_about 31 rfl) rfl ly99 o13 rfl (fun g14 => ?_)
                exact r_iret rfl (dc dt_MO_about 32 rfl) g14 h
              · by_cases q_ : v2 = 5
                · have h := h.2.2.2.2.2.1 q_
                  refine r_swIn (t := 95) (dc dt_MO_about 7 rfl) o4 (by omega) (by omega) (by rw [q_]; rfl) (by decide) ?_
                  refine r_aload_n (q := 96) (dc dt_MO_about 33 rfl) rfl rfl 0 rfl ?_
                  refine r_getO (q := 99) (v := 100) fl_MO_44 (dc dt_MO_about 34 rfl) rfl ly8 rfl ?_
                  refine r_iload_n (q := 100) (dc dt_MO_about 35 rfl) rfl rfl 1 rfl ?_
                  obtain ⟨o15, h⟩ := h
                  refine r_iald (q := 101) (v := σ.1 100 v1.toNat) (dc dt_MO_about 36 rfl) rfl ly100 o15 rfl (fun g16 => ?_)
                  exact r_iret rfl (dc dt_MO_about 37 rfl) g16 h
                · by_cases q_ : v2 = 6
                  · have h := h.2.2.2.2.2.2.1 q_
                    refine r_swIn (t := 102) (dc dt_MO_about 7 rfl) o4 (by omega) (by omega) (by rw [q_]; rfl) (by decide) ?_
                    refine r_aload_n (q := 103) (dc dt_MO_about 38 rfl) rfl rfl 0 rfl ?_
                    refine r_getO (q := 106) (v := 101) fl_MO_47 (dc dt_MO_about 39 rfl) rfl ly8 rfl ?_
                    refine r_iload_n (q := 107) (dc dt_MO_about 40 rfl) rfl rfl 1 rfl ?_
                    obtain ⟨o17, h⟩ := h
                    refine r_iald (q := 108) (v := σ.1 101 v1.toNat) (dc dt_MO_about 41 rfl) rfl ly101 o17 rfl (fun g18 => ?_)
                    exact r_iret rfl (dc dt_MO_about 42 rfl) g18 h
                  · by_cases q_ : v2 = 7
                    · have h := h.2.2.2.2.2.2.2.1 q_
                      refine r_swIn (t := 109) (dc dt_MO_about 7 rfl) o4 (by omega) (by omega) (by rw [q_]; rfl) (by decide) ?_
                      refine r_aload_n (q := 110) (dc dt_MO_about 43 rfl) rfl rfl 0 rfl ?_
                      refine r_getO (q := 113) (v := 102) fl_MO_50 (dc dt_MO_about 44 rfl) rfl ly8 rfl ?_
                      refine r_iload_n (q := 114) (dc dt_MO_about 45 rfl) rfl rfl 1 rfl ?_
                      obtain ⟨o19, h⟩ := h
                      refine r_iald (q := 115) (v := σ.1 102 v1.toNat) (dc dt_MO_about 46 rfl) rfl ly102 o19 rfl (fun g20 => ?_)
                      exact r_iret rfl (dc dt_MO_about 47 rfl) g20 h
                    · have q_ : v2 = 8 := by omega
                      have h := h.2.2.2.2.2.2.2.2.1 q_
                      refine r_swIn (t := 116) (dc dt_MO_about 7 rfl) o4 (by omega) (by omega) (by rw [q_]; rfl) (by decide) ?_
                      refine r_aload_n (q := 117) (dc dt_MO_about 48 rfl) rfl rfl 0 rfl ?_
                      refine r_getO (q := 120) (v := 103) fl_MO_53 (dc dt_MO_about 49 rfl) rfl ly8 rfl ?_
                      refine r_iload_n (q := 121) (dc dt_MO_about 50 rfl) rfl rfl 1 rfl ?_
                      obtain ⟨o21, h⟩ := h
                      refine r_iald (q := 122) (v := σ.1 103 v1.toNat) (dc dt_MO_about 51 rfl) rfl ly103 o21 rfl (fun g22 => ?_)
                      exact r_iret rfl (dc dt_MO_about 52 rfl) g22 h
  · have h := h.2 q_
    refine r_iconst (q := 9) (dc dt_MO_about 4 rfl) rfl rfl ?_
    exact r_iret rfl (dc dt_MO_about 5 rfl) (⟨by decide, by decide⟩ : rng (-1)) h
def tb_MO_plainOf : List (Nat × Instr × Nat) := [(0, .aload_n 0, 1), (1, .getfield 59, 3), (4, .iconst 4, 1), (5, .iload_n 1, 1), (6, .imul, 1), (7, .iload_n 2, 1), (8, .iadd, 1), (9, .iaload, 1), (10, .ifCond .ne 8, 3), (13, .bipush (-6), 2), (15, .goto 15, 3), (18, .aload_n 0, 1), (19, .getfield 56, 3), (22, .iconst 3, 1), (23, .iconst 4, 1), (24, .iload_n 1, 1), (25, .imul, 1), (26, .iload_n 2, 1), (27, .iadd, 1), (28, .imul, 1), (29, .iaload, 1), (30, .ireturn, 1)]
theorem dt_MO_plainOf : DT (cM m_MO_plainOf) tb_MO_plainOf := by unfold DT; decide +kernel
abbrev a_MO_plainOf_0 (G : GT)  (v1 : Int) (v2 : Int) (σ : St) (P : Int → St → Prop) : Prop := A G m_MO_plainOf 0 [(0, O 8), (1, I v1), (2, I v2)] [] σ P
set_option maxRecDepth 20000 in
theorem k_MO_plainOf_0 {G : GT} {σ : St} {P : Int → St → Prop}  {v1 : Int} {v2 : Int}  
    (h : (0 ≤ (4 * v1) + v2 ∧ (4 * v1) + v2 < 240) ∧ ((σ.1 105 (((4 * v1) + v2).toNat) ≠ 0 → 0 ≤ 3 * ((4 * v1) + v2) ∧ 3 * ((4 * v1) + v2) < 720)) ∧ rng (if σ.1 105 (((4 * v1) + v2).toNat) ≠ 0 then σ.1 104 ((3 * ((4 * v1) + v2)).toNat) else (-6 : Int)) ∧ P (if σ.1 105 (((4 * v1) + v2).toNat) ≠ 0 then σ.1 104 ((3 * ((4 * v1) + v2)).toNat) else (-6 : Int)) σ) :
    a_MO_plainOf_0 G v1 v2 σ P := by
  refine r_aload_n (q := 1) (dc dt_MO_plainOf 0 rfl) rfl rfl 0 rfl ?_
  refine r_getO (q := 4) (v := 105) fl_MO_59 (dc dt_MO_plainOf 1 rfl) rfl ly8 rfl ?_
  refine r_iconst (q := 5) (dc dt_MO_plainOf 2 rfl) rfl rfl ?_
  refine r_iload_n (q := 6) (dc dt_MO_plainOf 3 rfl) rfl rfl 1 rfl ?_
  refine r_imul (q := 7) (dc dt_MO_plainOf 4 rfl) rfl ?_
  refine r_iload_n (q := 8) (dc dt_MO_plainOf 5 rfl) rfl rfl 2 rfl ?_
  refine r_iadd (q := 9) (dc dt_MO_plainOf 6 rfl) rfl ?_
  obtain ⟨o1, h⟩ := h
  refine r_iald (q := 10) (v := σ.1 105 (((4 * v1) + v2).toNat)) (dc dt_MO_plainOf 7 rfl) rfl ly105 o1 rfl (fun g2 => ?_)
  obtain ⟨ho, h⟩ := h
  have hJ : ∀ (w_0 : Int), w_0 = (if σ.1 105 (((4 * v1) + v2).toNat) ≠ 0 then σ.1 104 ((3 * ((4 * v1) + v2)).toNat) else (-6 : Int)) → A G m_MO_plainOf 30 [(0, O 8), (1, I v1), (2, I v2)] [I w_0] σ P := by
    intro w_0 z_0
    subst z_0
    obtain ⟨o5, h⟩ := h
    exact r_iret rfl (dc dt_MO_plainOf 21 rfl) o5 h
  clear h
  refine r_if_ne (q := 13) (t := 18) (dc dt_MO_plainOf 8 rfl) rfl (by decide) g2 (fun q_ => ?_) (fun q_ => ?_)
  · have q6 := q_
    have ho := ho q_
    refine r_aload_n (q := 19) (dc dt_MO_plainOf 11 rfl) rfl rfl 0 rfl ?_
    refine r_getO (q := 22) (v := 104) fl_MO_56 (dc dt_MO_plainOf 12 rfl) rfl ly8 rfl ?_
    refine r_iconst (q := 23) (dc dt_MO_plainOf 13 rfl) rfl rfl ?_
    refine r_iconst (q := 24) (dc dt_MO_plainOf 14 rfl) rfl rfl ?_
    refine r_iload_n (q := 25) (dc dt_MO_plainOf 15 rfl) rfl rfl 1 rfl ?_
    refine r_imul (q := 26) (dc dt_MO_plainOf 16 rfl) rfl ?_
    refine r_iload_n (q := 27) (dc dt_MO_plainOf 17 rfl) rfl rfl 2 rfl ?_
    refine r_iadd (q := 28) (dc dt_MO_plainOf 18 rfl) rfl ?_
    refine r_imul (q := 29) (dc dt_MO_plainOf 19 rfl) rfl ?_
    have o3 := ho
    refine r_iald (q := 30) (v := σ.1 104 ((3 * ((4 * v1) + v2)).toNat)) (dc dt_MO_plainOf 20 rfl) rfl ly104 o3 rfl (fun g4 => ?_)
    exact (hJ (σ.1 104 ((3 * ((4 * v1) + v2)).toNat)) ((if_pos (by first | omega | grind)).symm))
  · have q6 := q_
    refine r_bipush (q := 15) (dc dt_MO_plainOf 9 rfl) rfl (by decide) ?_
    refine r_goto (q := 30) (dc dt_MO_plainOf 10 rfl) (by decide) ?_
    exact (hJ (-6) ((if_neg (by first | omega | grind)).symm))
set_option maxRecDepth 20000 in
theorem sp0_MO_plainOf {G : GT} {σ : St} {v1 : Int} {v2 : Int}  (j0 : 0 ≤ (4 * v1) + v2 ∧ (4 * v1) + v2 < 240) (j1 : (σ.1 105 (((4 * v1) + v2).toNat) ≠ 0 → 0 ≤ 3 * ((4 * v1) + v2) ∧ 3 * ((4 * v1) + v2) < 720)) (j2 : rng (if σ.1 105 (((4 * v1) + v2).toNat) ≠ 0 then σ.1 104 ((3 * ((4 * v1) + v2)).toNat) else (-6 : Int))) : CJ G m_MO_plainOf [O 8, I v1, I v2] σ (fun r u => r = (if σ.1 105 (((4 * v1) + v2).toNat) ≠ 0 then σ.1 104 ((3 * ((4 * v1) + v2)).toNat) else (-6 : Int)) ∧ u = σ) := by
  refine CJ.intro (by decide) (by simp [catA]; decide) (fun _ => k_MO_plainOf_0  ?_)
  refine ⟨by first | assumption | omega | grind, ?_⟩
  refine ⟨by first | assumption | omega | grind, ?_⟩
  refine ⟨by first | assumption | omega | grind, ?_⟩
  exact ⟨by first | rfl | grind, rfl⟩
def p_MO_plainOf (σ : St) (v1 : Int) (v2 : Int) : Prop := (0 ≤ (4 * v1) + v2 ∧ (4 * v1) + v2 < 240) ∧ (σ.1 105 (((4 * v1) + v2).toNat) ≠ 0 → 0 ≤ 3 * ((4 * v1) + v2) ∧ 3 * ((4 * v1) + v2) < 720) ∧ rng (if σ.1 105 (((4 * v1) + v2).toNat) ≠ 0 then σ.1 104 ((3 * ((4 * v1) + v2)).toNat) else (-6 : Int))
def f_MO_plainOf (σ : St) (v1 : Int) (v2 : Int) : Int := if σ.1 105 (((4 * v1) + v2).toNat) ≠ 0 then σ.1 104 ((3 * ((4 * v1) + v2)).toNat) else (-6 : Int)
theorem sp_MO_plainOf {G : GT} {σ : St} {v1 : Int} {v2 : Int}  (j : p_MO_plainOf σ v1 v2) : CJ G m_MO_plainOf [O 8, I v1, I v2] σ (fun r u => r = (f_MO_plainOf σ v1 v2) ∧ u = σ) := sp0_MO_plainOf  j.1 j.2.1 j.2.2
def tb_MO_put : List (Nat × Instr × Nat) := [(0, .aload_n 0, 1), (1, .getfield 320, 3), (4, .istore_n 3, 1), (5, .iload_n 3, 1), (6, .iload_n 1, 1), (7, .if_icmp .le 23, 3), (10, .aload_n 0, 1), (11, .getfield 62, 3), (14, .iload_n 3, 1), (15, .aload_n 0, 1), (16, .getfield 62, 3), (19, .iload_n 3, 1), (20, .iconst 1, 1), (21, .isub, 1), (22, .iaload, 1), (23, .iastore, 1), (24, .iinc 3 (-1), 3), (27, .goto (-22), 3), (30, .aload_n 0, 1), (31, .getfield 62, 3), (34, .iload_n 1, 1), (35, .iload_n 2, 1), (36, .iastore, 1), (37, .aload_n 0, 1), (38, .dup, 1), (39, .getfield 320, 3), (42, .iconst 1, 1), (43, .iadd, 1), (44, .putfield 320, 3), (47, .return_, 1)]
theorem dt_MO_put : DT (cM m_MO_put) tb_MO_put := by unfold DT; decide +kernel
abbrev a_MO_put_0 (G : GT)  (v1 : Int) (v2 : Int) (σ : St) (P : Int → St → Prop) : Prop := A G m_MO_put 0 [(0, O 8), (1, I v1), (2, I v2)] [] σ P
abbrev a_MO_put_5 (G : GT)  (v1 : Int) (v2 : Int) (v3 : Int) (σ : St) (P : Int → St → Prop) : Prop := A G m_MO_put 5 [(0, O 8), (1, I v1), (2, I v2), (3, I v3)] [] σ P
set_option maxRecDepth 20000 in
theorem k_MO_put_0 {G : GT} {σ : St} {P : Int → St → Prop}  {v1 : Int} {v2 : Int}  
    (h : a_MO_put_5 G v1 v2 (σ.2.1 8 21) σ P) :
    a_MO_put_0 G v1 v2 σ P := by
  refine r_aload_n (q := 1) (dc dt_MO_put 0 rfl) rfl rfl 0 rfl ?_
  refine r_getI (q := 4) (v := σ.2.1 8 21) fl_MO_320 (dc dt_MO_put 1 rfl) rfl ly8 rfl rfl (fun g1 => ?_)
  refine r_istore_n (q := 5) (dc dt_MO_put 2 rfl) rfl rfl (by decide) rfl ?_
  exact r_loc [1, 2, 3, 0] rfl h
set_option maxRecDepth 20000 in
theorem k_MO_put_5 {G : GT} {σ : St} {P : Int → St → Prop}  {v1 : Int} {v2 : Int} {v3 : Int}  
    (h : rng v3 ∧ rng v1 ∧ (v3 ≤ v1 → (0 ≤ v1 ∧ v1 < 80) ∧ rng v2 ∧ (∀ σ8, σ8 = sa σ 106 v1.toNat v2 → rng ((σ.2.1 8 21) + 1) ∧ (∀ σ11, σ11 = sf σ8 8 21 ((σ.2.1 8 21) + 1) → P 0 σ11))) ∧ (v1 < v3 → (0 ≤ v3 - 1 ∧ v3 - 1 < 80) ∧ (0 ≤ v3 ∧ v3 < 80) ∧ (∀ σ17, σ17 = sa σ 106 v3.toNat (σ.1 106 ((v3 - 1).toNat)) → a_MO_put_5 G v1 v2 (v3 + (-1)) σ17 P))) :
    a_MO_put_5 G v1 v2 v3 σ P := by
  refine r_iload_n (q := 6) (dc dt_MO_put 3 rfl) rfl rfl 3 rfl ?_
  refine r_iload_n (q := 7) (dc dt_MO_put 4 rfl) rfl rfl 1 rfl ?_
  obtain ⟨o2, h⟩ := h
  obtain ⟨o3, h⟩ := h
  refine r_icmp_le (q := 10) (t := 30) (dc dt_MO_put 5 rfl) rfl (by decide) o2 o3 (fun q_ => ?_) (fun q_ => ?_)
  · have h := h.1 q_
    refine r_aload_n (q := 31) (dc dt_MO_put 18 rfl) rfl rfl 0 rfl ?_
    refine r_getO (q := 34) (v := 106) fl_MO_62 (dc dt_MO_put 19 rfl) rfl ly8 rfl ?_
    refine r_iload_n (q := 35) (dc dt_MO_put 20 rfl) rfl rfl 1 rfl ?_
    refine r_iload_n (q := 36) (dc dt_MO_put 21 rfl) rfl rfl 2 rfl ?_
    obtain ⟨o6, h⟩ := h
    obtain ⟨o7, h⟩ := h
    refine r_iast (q := 37) (dc dt_MO_put 22 rfl) rfl ly106 o6 o7 (fun σ8 e9 => ?_)
    have h := h σ8 e9
    refine r_aload_n (q := 38) (dc dt_MO_put 23 rfl) rfl rfl 0 rfl ?_
    refine r_dupo (q := 39) (dc dt_MO_put 24 rfl) rfl ?_
    refine r_getI (q := 42) (v := σ.2.1 8 21) fl_MO_320 (dc dt_MO_put 25 rfl) rfl ly8 rfl (by rw [e9]; rfl) (fun g10 => ?_)
    refine r_iconst (q := 43) (dc dt_MO_put 26 rfl) rfl rfl ?_
    refine r_iadd (q := 44) (dc dt_MO_put 27 rfl) rfl ?_
    obtain ⟨o13, h⟩ := h
    refine r_put (q := 47) fl_MO_320 (dc dt_MO_put 28 rfl) rfl ly8 (fun _ => rfl) (Or.inl rfl) pf_8_21 o13 (fun σ11 e12 => ?_)
    have h := h σ11 e12
    exact r_vret rfl (dc dt_MO_put 29 rfl) h
  · have h := h.2 q_
    refine r_aload_n (q := 11) (dc dt_MO_put 6 rfl) rfl rfl 0 rfl ?_
    refine r_getO (q := 14) (v := 106) fl_MO_62 (dc dt_MO_put 7 rfl) rfl ly8 rfl ?_
    refine r_iload_n (q := 15) (dc dt_MO_put 8 rfl) rfl rfl 3 rfl ?_
    refine r_aload_n (q := 16) (dc dt_MO_put 9 rfl) rfl rfl 0 rfl ?_
    refine r_getO (q := 19) (v := 106) fl_MO_62 (dc dt_MO_put 10 rfl) rfl ly8 rfl ?_
    refine r_iload_n (q := 20) (dc dt_MO_put 11 rfl) rfl rfl 3 rfl ?_
    refine r_iconst (q := 21) (dc dt_MO_put 12 rfl) rfl rfl ?_
    refine r_isub (q := 22) (dc dt_MO_put 13 rfl) rfl ?_
    obtain ⟨o14, h⟩ := h
    refine r_iald (q := 23) (v := σ.1 106 ((v3 - 1).toNat)) (dc dt_MO_put 14 rfl) rfl ly106 o14 rfl (fun g15 => ?_)
    obtain ⟨o16, h⟩ := h
    refine r_iast (q := 24) (dc dt_MO_put 15 rfl) rfl ly106 o16 g15 (fun σ17 e18 => ?_)
    have h := h σ17 e18
    refine r_iinc (q := 27) (k := 3) (dc dt_MO_put 16 rfl) rfl rfl (by decide) rfl ?_
    refine r_goto (q := 5) (dc dt_MO_put 17 rfl) (by decide) ?_
    exact r_loc [1, 2, 3, 0] rfl h
def tb_MO_takeOut : List (Nat × Instr × Nat) := [(0, .aload_n 0, 1), (1, .getfield 62, 3), (4, .iload_n 1, 1), (5, .iaload, 1), (6, .istore_n 2, 1), (7, .iload_n 1, 1), (8, .istore_n 3, 1), (9, .iload_n 3, 1), (10, .aload_n 0, 1), (11, .getfield 320, 3), (14, .iconst 1, 1), (15, .isub, 1), (16, .if_icmp .ge 23, 3), (19, .aload_n 0, 1), (20, .getfield 62, 3), (23, .iload_n 3, 1), (24, .aload_n 0, 1), (25, .getfield 62, 3), (28, .iload_n 3, 1), (29, .iconst 1, 1), (30, .iadd, 1), (31, .iaload, 1), (32, .iastore, 1), (33, .iinc 3 1, 3), (36, .goto (-27), 3), (39, .aload_n 0, 1), (40, .dup, 1), (41, .getfield 320, 3), (44, .iconst 1, 1), (45, .isub, 1), (46, .putfield 320, 3), (49, .iload_n 2, 1), (50, .ireturn, 1)]
theorem dt_MO_takeOut : DT (cM m_MO_takeOut) tb_MO_takeOut := by unfold DT; decide +kernel
abbrev a_MO_takeOut_0 (G : GT)  (v1 : Int) (σ : St) (P : Int → St → Prop) : Prop := A G m_MO_takeOut 0 [(0, O 8), (1, I v1)] [] σ P
abbrev a_MO_takeOut_9 (G : GT)  (v2 : Int) (v3 : Int) (σ : St) (P : Int → St → Prop) : Prop := A G m_MO_takeOut 9 [(0, O 8), (2, I v2), (3, I v3)] [] σ P
set_option maxRecDepth 20000 in
theorem k_MO_takeOut_0 {G : GT} {σ : St} {P : Int → St → Prop}  {v1 : Int}  
    (h : (0 ≤ v1 ∧ v1 < 80) ∧ a_MO_takeOut_9 G (σ.1 106 v1.toNat) v1 σ P) :
    a_MO_takeOut_0 G v1 σ P := by
  refine r_aload_n (q := 1) (dc dt_MO_takeOut 0 rfl) rfl rfl 0 rfl ?_
  refine r_getO (q := 4) (v := 106) fl_MO_62 (dc dt_MO_takeOut 1 rfl) rfl ly8 rfl ?_
  refine r_iload_n (q := 5) (dc dt_MO_takeOut 2 rfl) rfl rfl 1 rfl ?_
  obtain ⟨o1, h⟩ := h
  refine r_iald (q := 6) (v := σ.1 106 v1.toNat) (dc dt_MO_takeOut 3 rfl) rfl ly106 o1 rfl (fun g2 => ?_)
  refine r_istore_n (q := 7) (dc dt_MO_takeOut 4 rfl) rfl rfl (by decide) rfl ?_
  refine r_iload_n (q := 8) (dc dt_MO_takeOut 5 rfl) rfl rfl 2 rfl ?_
  refine r_istore_n (q := 9) (dc dt_MO_takeOut 6 rfl) rfl rfl (by decide) rfl ?_
  exact r_loc [2, 1, 0] rfl h
set_option maxRecDepth 20000 in
theorem k_MO_takeOut_9 {G : GT} {σ : St} {P : Int → St → Prop}  {v2 : Int} {v3 : Int}  
    (h : rng v3 ∧ rng ((σ.2.1 8 21) - 1) ∧ ((σ.2.1 8 21) - 1 ≤ v3 → (∀ σ9, σ9 = sf σ 8 21 ((σ.2.1 8 21) - 1) → rng v2 ∧ P v2 σ9)) ∧ (v3 < (σ.2.1 8 21) - 1 → (0 ≤ v3 + 1 ∧ v3 + 1 < 80) ∧ (0 ≤ v3 ∧ v3 < 80) ∧ (∀ σ15, σ15 = sa σ 106 v3.toNat (σ.1 106 ((v3 + 1).toNat)) → a_MO_takeOut_9 G v2 (v3 + 1) σ15 P))) :
    a_MO_takeOut_9 G v2 v3 σ P := by
  refine r_iload_n (q := 10) (dc dt_MO_takeOut 7 rfl) rfl rfl 2 rfl ?_
  refine r_aload_n (q := 11) (dc dt_MO_takeOut 8 rfl) rfl rfl 0 rfl ?_
  refine r_getI (q := 14) (v := σ.2.1 8 21) fl_MO_320 (dc dt_MO_takeOut 9 rfl) rfl ly8 rfl rfl (fun g3 => ?_)
  refine r_iconst (q := 15) (dc dt_MO_takeOut 10 rfl) rfl rfl ?_
  refine r_isub (q := 16) (dc dt_MO_takeOut 11 rfl) rfl ?_
  obtain ⟨o4, h⟩ := h
  obtain ⟨o5, h⟩ := h
  refine r_icmp_ge (q := 19) (t := 39) (dc dt_MO_takeOut 12 rfl) rfl (by decide) o4 o5 (fun q_ => ?_) (fun q_ => ?_)
  · have h := h.1 q_
    refine r_aload_n (q := 40) (dc dt_MO_takeOut 25 rfl) rfl rfl 0 rfl ?_
    refine r_dupo (q := 41) (dc dt_MO_takeOut 26 rfl) rfl ?_
    refine r_getI (q := 44) (v := σ.2.1 8 21) fl_MO_320 (dc dt_MO_takeOut 27 rfl) rfl ly8 rfl rfl (fun g8 => ?_)
    refine r_iconst (q := 45) (dc dt_MO_takeOut 28 rfl) rfl rfl ?_
    refine r_isub (q := 46) (dc dt_MO_takeOut 29 rfl) rfl ?_
    refine r_put (q := 49) fl_MO_320 (dc dt_MO_takeOut 30 rfl) rfl ly8 (fun _ => rfl) (Or.inl rfl) pf_8_21 o5 (fun σ9 e10 => ?_)
    have h := h σ9 e10
    refine r_iload_n (q := 50) (dc dt_MO_takeOut 31 rfl) rfl rfl 1 rfl ?_
    obtain ⟨o11, h⟩ := h
    exact r_iret rfl (dc dt_MO_takeOut 32 rfl) o11 h
  · have h := h.2 q_
    refine r_aload_n (q := 20) (dc dt_MO_takeOut 13 rfl) rfl rfl 0 rfl ?_
    refine r_getO (q := 23) (v := 106) fl_MO_62 (dc dt_MO_takeOut 14 rfl) rfl ly8 rfl ?_
    refine r_iload_n (q := 24) (dc dt_MO_takeOut 15 rfl) rfl rfl 2 rfl ?_
    refine r_aload_n (q := 25) (dc dt_MO_takeOut 16 rfl) rfl rfl 0 rfl ?_
    refine r_getO (q := 28) (v := 106) fl_MO_62 (dc dt_MO_takeOut 17 rfl) rfl ly8 rfl ?_
    refine r_iload_n (q := 29) (dc dt_MO_takeOut 18 rfl) rfl rfl 2 rfl ?_
    refine r_iconst (q := 30) (dc dt_MO_takeOut 19 rfl) rfl rfl ?_
    refine r_iadd (q := 31) (dc dt_MO_takeOut 20 rfl) rfl ?_
    obtain ⟨o12, h⟩ := h
    refine r_iald (q := 32) (v := σ.1 106 ((v3 + 1).toNat)) (dc dt_MO_takeOut 21 rfl) rfl ly106 o12 rfl (fun g13 => ?_)
    obtain ⟨o14, h⟩ := h
    refine r_iast (q := 33) (dc dt_MO_takeOut 22 rfl) rfl ly106 o14 g13 (fun σ15 e16 => ?_)
    have h := h σ15 e16
    refine r_iinc (q := 36) (k := 2) (dc dt_MO_takeOut 23 rfl) rfl rfl (by decide) rfl ?_
    refine r_goto (q := 9) (dc dt_MO_takeOut 24 rfl) (by decide) ?_
    exact r_loc [1, 2, 0] rfl h
def tb_MO_note : List (Nat × Instr × Nat) := [(0, .aload_n 0, 1), (1, .getfield 323, 3), (4, .bipush 40, 2), (6, .if_icmp .ne 73, 3), (9, .iconst 0, 1), (10, .istore 4, 2), (12, .iload 4, 2), (14, .bipush 39, 2), (16, .if_icmp .ge 57, 3), (19, .aload_n 0, 1), (20, .getfield 65, 3), (23, .iload 4, 2), (25, .aload_n 0, 1), (26, .getfield 65, 3), (29, .iload 4, 2), (31, .iconst 1, 1), (32, .iadd, 1), (33, .baload, 1), (34, .bastore, 1), (35, .aload_n 0, 1), (36, .getfield 68, 3), (39, .iload 4, 2), (41, .aload_n 0, 1), (42, .getfield 68, 3), (45, .iload 4, 2), (47, .iconst 1, 1), (48, .iadd, 1), (49, .iaload, 1), (50, .iastore, 1), (51, .aload_n 0, 1), (52, .getfield 71, 3), (55, .iload 4, 2), (57, .aload_n 0, 1), (58, .getfield 71, 3), (61, .iload 4, 2), (63, .iconst 1, 1), (64, .iadd, 1), (65, .iaload, 1), (66, .iastore, 1), (67, .iinc 4 1, 3), (70, .goto (-58), 3), (73, .aload_n 0, 1), (74, .bipush 39, 2), (76, .putfield 323, 3), (79, .aload_n 0, 1), (80, .getfield 65, 3), (83, .aload_n 0, 1), (84, .getfield 323, 3), (87, .iload_n 1, 1), (88, .bastore, 1), (89, .aload_n 0, 1), (90, .getfield 68, 3), (93, .aload_n 0, 1), (94, .getfield 323, 3), (97, .iload_n 2, 1), (98, .iastore, 1), (99, .aload_n 0, 1), (100, .getfield 71, 3), (103, .aload_n 0, 1), (104, .getfield 323, 3), (107, .iload_n 3, 1), (108, .iastore, 1), (109, .aload_n 0, 1), (110, .dup, 1), (111, .getfield 323, 3), (114, .iconst 1, 1), (115, .iadd, 1), (116, .putfield 323, 3), (119, .aload_n 0, 1), (120, .invokevirtual 276, 3), (123, .return_, 1)]
theorem dt_MO_note : DT (cM m_MO_note) tb_MO_note := by unfold DT; decide +kernel
abbrev a_MO_note_0 (G : GT)  (v1 : Int) (v2 : Int) (v3 : Int) (σ : St) (P : Int → St → Prop) : Prop := A G m_MO_note 0 [(0, O 8), (1, I v1), (2, I v2), (3, I v3)] [] σ P
abbrev a_MO_note_12 (G : GT)  (v1 : Int) (v2 : Int) (v3 : Int) (v4 : Int) (σ : St) (P : Int → St → Prop) : Prop := A G m_MO_note 12 [(0, O 8), (1, I v1), (2, I v2), (3, I v3), (4, I v4)] [] σ P
set_option maxRecDepth 20000 in
theorem k_MO_note_0 {G : GT} {σ : St} {P : Int → St → Prop}  {v1 : Int} {v2 : Int} {v3 : Int}  
    (h : (σ.2.1 8 25 ≠ 40 → (0 ≤ σ.2.1 8 25 ∧ σ.2.1 8 25 < 40) ∧ (v1 = 0 ∨ v1 = 1) ∧ (∀ σ5, σ5 = sa σ 107 ((σ.2.1 8 25).toNat) v1 → rng v2 ∧ (∀ σ9, σ9 = sa σ5 108 ((σ.2.1 8 25).toNat) v2 → rng v3 ∧ (∀ σ13, σ13 = sa σ9 109 ((σ.2.1 8 25).toNat) v3 → rng ((σ.2.1 8 25) + 1) ∧ (∀ σ16, σ16 = sf σ13 8 25 ((σ.2.1 8 25) + 1) → CJ G m_MO_changed [O 8] σ16 (fun _ u19 => P 0 u19)))))) ∧ (σ.2.1 8 25 = 40 → a_MO_note_12 G v1 v2 v3 0 σ P)) :
    a_MO_note_0 G v1 v2 v3 σ P := by
  refine r_aload_n (q := 1) (dc dt_MO_note 0 rfl) rfl rfl 0 rfl ?_
  refine r_getI (q := 4) (v := σ.2.1 8 25) fl_MO_323 (dc dt_MO_note 1 rfl) rfl ly8 rfl rfl (fun g1 => ?_)
  refine r_bipush (q := 6) (dc dt_MO_note 2 rfl) rfl (by decide) ?_
  refine r_icmp_ne (q := 9) (t := 79) (dc dt_MO_note 3 rfl) rfl (by decide) g1 (⟨by decide, by decide⟩ : rng 40) (fun q_ => ?_) (fun q_ => ?_)
  · have h := h.1 q_
    refine r_aload_n (q := 80) (dc dt_MO_note 44 rfl) rfl rfl 0 rfl ?_
    refine r_getO (q := 83) (v := 107) fl_MO_65 (dc dt_MO_note 45 rfl) rfl ly8 rfl ?_
    refine r_aload_n (q := 84) (dc dt_MO_note 46 rfl) rfl rfl 0 rfl ?_
    refine r_getI (q := 87) (v := σ.2.1 8 25) fl_MO_323 (dc dt_MO_note 47 rfl) rfl ly8 rfl rfl (fun g2 => ?_)
    refine r_iload_n (q := 88) (dc dt_MO_note 48 rfl) rfl rfl 1 rfl ?_
    obtain ⟨o3, h⟩ := h
    obtain ⟨o4, h⟩ := h
    refine r_zast (q := 89) (dc dt_MO_note 49 rfl) rfl ly107 o3 o4 (fun σ5 e6 => ?_)
    have h := h σ5 e6
    refine r_aload_n (q := 90) (dc dt_MO_note 50 rfl) rfl rfl 0 rfl ?_
    refine r_getO (q := 93) (v := 108) fl_MO_68 (dc dt_MO_note 51 rfl) rfl ly8 rfl ?_
    refine r_aload_n (q := 94) (dc dt_MO_note 52 rfl) rfl rfl 0 rfl ?_
    refine r_getI (q := 97) (v := σ.2.1 8 25) fl_MO_323 (dc dt_MO_note 53 rfl) rfl ly8 rfl (by rw [e6]; rfl) (fun g7 => ?_)
    refine r_iload_n (q := 98) (dc dt_MO_note 54 rfl) rfl rfl 2 rfl ?_
    obtain ⟨o8, h⟩ := h
    refine r_iast (q := 99) (dc dt_MO_note 55 rfl) rfl ly108 o3 o8 (fun σ9 e10 => ?_)
    have h := h σ9 e10
    refine r_aload_n (q := 100) (dc dt_MO_note 56 rfl) rfl rfl 0 rfl ?_
    refine r_getO (q := 103) (v := 109) fl_MO_71 (dc dt_MO_note 57 rfl) rfl ly8 rfl ?_
    refine r_aload_n (q := 104) (dc dt_MO_note 58 rfl) rfl rfl 0 rfl ?_
    refine r_getI (q := 107) (v := σ.2.1 8 25) fl_MO_323 (dc dt_MO_note 59 rfl) rfl ly8 rfl (by rw [e10, e6]; rfl) (fun g11 => ?_)
    refine r_iload_n (q := 108) (dc dt_MO_note 60 rfl) rfl rfl 3 rfl ?_
    obtain ⟨o12, h⟩ := h
    refine r_iast (q := 109) (dc dt_MO_note 61 rfl) rfl ly109 o3 o12 (fun σ13 e14 => ?_)
    have h := h σ13 e14
    refine r_aload_n (q := 110) (dc dt_MO_note 62 rfl) rfl rfl 0 rfl ?_
    refine r_dupo (q := 111) (dc dt_MO_note 63 rfl) rfl ?_
    refine r_getI (q := 114) (v := σ.2.1 8 25) fl_MO_323 (dc dt_MO_note 64 rfl) rfl ly8 rfl (by rw [e14, e10, e6]; rfl) (fun g15 => ?_)
    refine r_iconst (q := 115) (dc dt_MO_note 65 rfl) rfl rfl ?_
    refine r_iadd (q := 116) (dc dt_MO_note 66 rfl) rfl ?_
    obtain ⟨o18, h⟩ := h
    refine r_put (q := 119) fl_MO_323 (dc dt_MO_note 67 rfl) rfl ly8 (fun _ => rfl) (Or.inl rfl) pf_8_25 o18 (fun σ16 e17 => ?_)
    have h := h σ16 e17
    refine r_aload_n (q := 120) (dc dt_MO_note 68 rfl) rfl rfl 0 rfl ?_
    refine r_callVv (q := 123) mk_MO_changed lm_MO_276 (RMO.of rfl) rfl (dc dt_MO_note 69 rfl) rfl ly8 [] [] rfl rfl (Nat.le_of_ble_eq_true rfl) h (fun u19 h => ?_)
    exact r_vret rfl (dc dt_MO_note 70 rfl) h
  · have h := h.2 q_
    refine r_iconst (q := 10) (dc dt_MO_note 4 rfl) rfl rfl ?_
    refine r_istore (q := 12) (dc dt_MO_note 5 rfl) rfl (by decide) rfl ?_
    exact r_loc [1, 2, 3, 4, 0] rfl h
set_option maxRecDepth 20000 in
theorem k_MO_note_12 {G : GT} {σ : St} {P : Int → St → Prop}  {v1 : Int} {v2 : Int} {v3 : Int} {v4 : Int}  
    (h : rng v4 ∧ (39 ≤ v4 → (∀ σ23, σ23 = sf σ 8 25 39 → (v1 = 0 ∨ v1 = 1) ∧ (∀ σ26, σ26 = sa σ23 107 39 v1 → rng v2 ∧ (∀ σ29, σ29 = sa σ26 108 39 v2 → rng v3 ∧ (∀ σ32, σ32 = sa σ29 109 39 v3 → (∀ σ34, σ34 = sf σ32 8 25 40 → CJ G m_MO_changed [O 8] σ34 (fun _ u36 => P 0 u36))))))) ∧ (v4 < 39 → (0 ≤ v4 + 1 ∧ v4 + 1 < 40) ∧ (0 ≤ v4 ∧ v4 < 40) ∧ (σ.1 107 ((v4 + 1).toNat) = 0 ∨ σ.1 107 ((v4 + 1).toNat) = 1) ∧ (∀ σ41, σ41 = sa σ 107 v4.toNat (σ.1 107 ((v4 + 1).toNat)) → (∀ σ44, σ44 = sa σ41 108 v4.toNat (σ.1 108 ((v4 + 1).toNat)) → (∀ σ47, σ47 = sa σ44 109 v4.toNat (σ.1 109 ((v4 + 1).toNat)) → a_MO_note_12 G v1 v2 v3 (v4 + 1) σ47 P))))) :
    a_MO_note_12 G v1 v2 v3 v4 σ P := by
  refine r_iload (q := 14) (dc dt_MO_note 6 rfl) rfl 4 rfl ?_
  refine r_bipush (q := 16) (dc dt_MO_note 7 rfl) rfl (by decide) ?_
  obtain ⟨o20, h⟩ := h
  refine r_icmp_ge (q := 19) (t := 73) (dc dt_MO_note 8 rfl) rfl (by decide) o20 (⟨by decide, by decide⟩ : rng 39) (fun q_ => ?_) (fun q_ => ?_)
  · have h := h.1 q_
    refine r_aload_n (q := 74) (dc dt_MO_note 41 rfl) rfl rfl 0 rfl ?_
    refine r_bipush (q := 76) (dc dt_MO_note 42 rfl) rfl (by decide) ?_
    refine r_put (q := 79) fl_MO_323 (dc dt_MO_note 43 rfl) rfl ly8 (fun _ => rfl) (Or.inl rfl) pf_8_25 (⟨by decide, by decide⟩ : rng 39) (fun σ23 e24 => ?_)
    have h := h σ23 e24
    refine r_aload_n (q := 80) (dc dt_MO_note 44 rfl) rfl rfl 0 rfl ?_
    refine r_getO (q := 83) (v := 107) fl_MO_65 (dc dt_MO_note 45 rfl) rfl ly8 rfl ?_
    refine r_aload_n (q := 84) (dc dt_MO_note 46 rfl) rfl rfl 0 rfl ?_
    refine r_getI (q := 87) (v := 39) fl_MO_323 (dc dt_MO_note 47 rfl) rfl ly8 rfl (by rw [e24]; first | rfl | exact up2_at) (fun _ => ?_)
    refine r_iload_n (q := 88) (dc dt_MO_note 48 rfl) rfl rfl 1 rfl ?_
    obtain ⟨o25, h⟩ := h
    refine r_zast (q := 89) (dc dt_MO_note 49 rfl) rfl ly107 ⟨by decide, by decide⟩ o25 (fun σ26 e27 => ?_)
    have h := h σ26 e27
    refine r_aload_n (q := 90) (dc dt_MO_note 50 rfl) rfl rfl 0 rfl ?_
    refine r_getO (q := 93) (v := 108) fl_MO_68 (dc dt_MO_note 51 rfl) rfl ly8 rfl ?_
    refine r_aload_n (q := 94) (dc dt_MO_note 52 rfl) rfl rfl 0 rfl ?_
    refine r_getI (q := 97) (v := 39) fl_MO_323 (dc dt_MO_note 53 rfl) rfl ly8 rfl (by rw [e27, e24]; first | rfl | exact up2_at | simp [sa, sf, up2]) (fun _ => ?_)
    refine r_iload_n (q := 98) (dc dt_MO_note 54 rfl) rfl rfl 2 rfl ?_
    obtain ⟨o28, h⟩ := h
    refine r_iast (q := 99) (dc dt_MO_note 55 rfl) rfl ly108 ⟨by decide, by decide⟩ o28 (fun σ29 e30 => ?_)
    have h := h σ29 e30
    refine r_aload_n (q := 100) (dc dt_MO_note 56 rfl) rfl rfl 0 rfl ?_
    refine r_getO (q := 103) (v := 109) fl_MO_71 (dc dt_MO_note 57 rfl) rfl ly8 rfl ?_
    refine r_aload_n (q := 104) (dc dt_MO_note 58 rfl) rfl rfl 0 rfl ?_
    refine r_getI (q := 107) (v := 39) fl_MO_323 (dc dt_MO_note 59 rfl) rfl ly8 rfl (by rw [e30, e27, e24]; first | rfl | exact up2_at | simp [sa, sf, up2]) (fun _ => ?_)
    refine r_iload_n (q := 108) (dc dt_MO_note 60 rfl) rfl rfl 3 rfl ?_
    obtain ⟨o31, h⟩ := h
    refine r_iast (q := 109) (dc dt_MO_note 61 rfl) rfl ly109 ⟨by decide, by decide⟩ o31 (fun σ32 e33 => ?_)
    have h := h σ32 e33
    refine r_aload_n (q := 110) (dc dt_MO_note 62 rfl) rfl rfl 0 rfl ?_
    refine r_dupo (q := 111) (dc dt_MO_note 63 rfl) rfl ?_
    refine r_getI (q := 114) (v := 39) fl_MO_323 (dc dt_MO_note 64 rfl) rfl ly8 rfl (by rw [e33, e30, e27, e24]; first | rfl | exact up2_at | simp [sa, sf, up2]) (fun _ => ?_)
    refine r_iconst (q := 115) (dc dt_MO_note 65 rfl) rfl rfl ?_
    refine r_iadd (q := 116) (dc dt_MO_note 66 rfl) rfl ?_
    refine r_put (q := 119) fl_MO_323 (dc dt_MO_note 67 rfl) rfl ly8 (fun _ => rfl) (Or.inl rfl) pf_8_25 (⟨by decide, by decide⟩ : rng 40) (fun σ34 e35 => ?_)
    have h := h σ34 e35
    refine r_aload_n (q := 120) (dc dt_MO_note 68 rfl) rfl rfl 0 rfl ?_
    refine r_callVv (q := 123) mk_MO_changed lm_MO_276 (RMO.of rfl) rfl (dc dt_MO_note 69 rfl) rfl ly8 [] [] rfl rfl (Nat.le_of_ble_eq_true rfl) h (fun u36 h => ?_)
    exact r_vret rfl (dc dt_MO_note 70 rfl) h
  · have h := h.2 q_
    refine r_aload_n (q := 20) (dc dt_MO_note 9 rfl) rfl rfl 0 rfl ?_
    refine r_getO (q := 23) (v := 107) fl_MO_65 (dc dt_MO_note 10 rfl) rfl ly8 rfl ?_
    refine r_iload (q := 25) (dc dt_MO_note 11 rfl) rfl 4 rfl ?_
    refine r_aload_n (q := 26) (dc dt_MO_note 12 rfl) rfl rfl 0 rfl ?_
    refine r_getO (q := 29) (v := 107) fl_MO_65 (dc dt_MO_note 13 rfl) rfl ly8 rfl ?_
    refine r_iload (q := 31) (dc dt_MO_note 14 rfl) rfl 4 rfl ?_
    refine r_iconst (q := 32) (dc dt_MO_note 15 rfl) rfl rfl ?_
    refine r_iadd (q := 33) (dc dt_MO_note 16 rfl) rfl ?_
    obtain ⟨o37, h⟩ := h
    refine r_zald (q := 34) (v := σ.1 107 ((v4 + 1).toNat)) (dc dt_MO_note 17 rfl) rfl ly107 o37 rfl (fun g38 => ?_)
    obtain ⟨o39, h⟩ := h
    obtain ⟨o40, h⟩ := h
    refine r_zast (q := 35) (dc dt_MO_note 18 rfl) rfl ly107 o39 o40 (fun σ41 e42 => ?_)
    have h := h σ41 e42
    refine r_aload_n (q := 36) (dc dt_MO_note 19 rfl) rfl rfl 0 rfl ?_
    refine r_getO (q := 39) (v := 108) fl_MO_68 (dc dt_MO_note 20 rfl) rfl ly8 rfl ?_
    refine r_iload (q := 41) (dc dt_MO_note 21 rfl) rfl 4 rfl ?_
    refine r_aload_n (q := 42) (dc dt_MO_note 22 rfl) rfl rfl 0 rfl ?_
    refine r_getO (q := 45) (v := 108) fl_MO_68 (dc dt_MO_note 23 rfl) rfl ly8 rfl ?_
    refine r_iload (q := 47) (dc dt_MO_note 24 rfl) rfl 4 rfl ?_
    refine r_iconst (q := 48) (dc dt_MO_note 25 rfl) rfl rfl ?_
    refine r_iadd (q := 49) (dc dt_MO_note 26 rfl) rfl ?_
    refine r_iald (q := 50) (v := σ.1 108 ((v4 + 1).toNat)) (dc dt_MO_note 27 rfl) rfl ly108 o37 (by rw [e42]; rfl) (fun g43 => ?_)
    refine r_iast (q := 51) (dc dt_MO_note 28 rfl) rfl ly108 o39 g43 (fun σ44 e45 => ?_)
    have h := h σ44 e45
    refine r_aload_n (q := 52) (dc dt_MO_note 29 rfl) rfl rfl 0 rfl ?_
    refine r_getO (q := 55) (v := 109) fl_MO_71 (dc dt_MO_note 30 rfl) rfl ly8 rfl ?_
    refine r_iload (q := 57) (dc dt_MO_note 31 rfl) rfl 4 rfl ?_
    refine r_aload_n (q := 58) (dc dt_MO_note 32 rfl) rfl rfl 0 rfl ?_
    refine r_getO (q := 61) (v := 109) fl_MO_71 (dc dt_MO_note 33 rfl) rfl ly8 rfl ?_
    refine r_iload (q := 63) (dc dt_MO_note 34 rfl) rfl 4 rfl ?_
    refine r_iconst (q := 64) (dc dt_MO_note 35 rfl) rfl rfl ?_
    refine r_iadd (q := 65) (dc dt_MO_note 36 rfl) rfl ?_
    refine r_iald (q := 66) (v := σ.1 109 ((v4 + 1).toNat)) (dc dt_MO_note 37 rfl) rfl ly109 o37 (by rw [e45, e42]; rfl) (fun g46 => ?_)
    refine r_iast (q := 67) (dc dt_MO_note 38 rfl) rfl ly109 o39 g46 (fun σ47 e48 => ?_)
    have h := h σ47 e48
    refine r_iinc (q := 70) (k := 4) (dc dt_MO_note 39 rfl) rfl rfl (by decide) rfl ?_
    refine r_goto (q := 12) (dc dt_MO_note 40 rfl) (by decide) ?_
    exact r_loc [1, 2, 3, 4, 0] rfl h
def tb_MO_insert : List (Nat × Instr × Nat) := [(0, .aload_n 0, 1), (1, .iload_n 2, 1), (2, .invokevirtual 285, 3), (5, .ifCond .ne 5, 3), (8, .iconst (-1), 1), (9, .ireturn, 1), (10, .iload_n 1, 1), (11, .i2l, 1), (12, .lconst 0, 1), (13, .aload_n 0, 1), (14, .getfield 320, 3), (17, .i2l, 1), (18, .invokestatic 253, 3), (21, .ifCond .ne 6, 3), (24, .bipush (-2), 2), (26, .ireturn, 1), (27, .aload_n 0, 1), (28, .getfield 320, 3), (31, .bipush 80, 2), (33, .if_icmp .ne 6, 3), (36, .bipush (-4), 2), (38, .ireturn, 1), (39, .aload_n 0, 1), (40, .getfield 7, 3), (43, .iload_n 2, 1), (44, .iaload, 1), (45, .bipush 7, 2), (47, .if_icmp .ne 6, 3), (50, .bipush (-5), 2), (52, .ireturn, 1), (53, .aload_n 0, 1), (54, .iload_n 1, 1), (55, .iload_n 2, 1), (56, .invokevirtual 330, 3), (59, .aload_n 0, 1), (60, .iconst 0, 1), (61, .iload_n 1, 1), (62, .iload_n 2, 1), (63, .invokevirtual 334, 3), (66, .aload_n 0, 1), (67, .getfield 320, 3), (70, .ireturn, 1)]
theorem dt_MO_insert : DT (cM m_MO_insert) tb_MO_insert := by unfold DT; decide +kernel
abbrev a_MO_insert_0 (G : GT)  (v1 : Int) (v2 : Int) (σ : St) (P : Int → St → Prop) : Prop := A G m_MO_insert 0 [(0, O 8), (1, I v1), (2, I v2)] [] σ P
set_option maxRecDepth 20000 in
theorem k_MO_insert_0 {G : GT} {σ : St} {P : Int → St → Prop}  {v1 : Int} {v2 : Int}  
    (h : rng v2 ∧ rng ((σ.2.1 8 6) - 1) ∧ (0 ≤ v2 ∧ v2 ≤ ((σ.2.1 8 6) - 1) → rng v1 ∧ (0 ≤ v1 ∧ v1 ≤ (σ.2.1 8 21) → (σ.2.1 8 21 ≠ 80 → (0 ≤ v2 ∧ v2 < 60) ∧ (σ.1 89 v2.toNat ≠ 7 → CJ G m_MO_put [O 8, I v1, I v2] σ (fun _ u10 => CJ G m_MO_note [O 8, I 0, I v1, I v2] u10 (fun _ u11 => P (u11.2.1 8 21) u11))) ∧ (σ.1 89 v2.toNat = 7 → P (-5) σ)) ∧ (σ.2.1 8 21 = 80 → P (-4) σ)) ∧ (¬ (0 ≤ v1 ∧ v1 ≤ (σ.2.1 8 21)) → P (-2) σ)) ∧ (¬ (0 ≤ v2 ∧ v2 ≤ ((σ.2.1 8 6) - 1)) → P (-1) σ)) :
    a_MO_insert_0 G v1 v2 σ P := by
  refine r_aload_n (q := 1) (dc dt_MO_insert 0 rfl) rfl rfl 0 rfl ?_
  refine r_iload_n (q := 2) (dc dt_MO_insert 1 rfl) rfl rfl 2 rfl ?_
  obtain ⟨o1, h⟩ := h
  obtain ⟨o2, h⟩ := h
  refine r_callVi (q := 5) mk_MO_isLetter lm_MO_285 (RMO.of rfl) rfl (dc dt_MO_insert 2 rfl) rfl ly8 [I v2] [] rfl rfl (Nat.le_of_ble_eq_true rfl) (sp_MO_isLetter o1 o2) (fun _ _ g3 z => ?_)
  obtain ⟨z, w⟩ := z
  subst z
  replace w := w.symm
  subst w
  refine r_ifb_ne (q := 8) (t := 10) (dc dt_MO_insert 3 rfl) rfl (by decide) (fun q_ => ?_) (fun q_ => ?_)
  · have h := h.1 q_
    refine r_iload_n (q := 11) (dc dt_MO_insert 6 rfl) rfl rfl 1 rfl ?_
    obtain ⟨o4, h⟩ := h
    refine r_i2l (q := 12) (dc dt_MO_insert 7 rfl) rfl o4 ?_
    refine r_lconst (q := 13) (n := 0) (dc dt_MO_insert 8 rfl) rfl rfl ?_
    refine r_aload_n (q := 14) (dc dt_MO_insert 9 rfl) rfl rfl 0 rfl ?_
    refine r_getI (q := 17) (v := σ.2.1 8 21) fl_MO_320 (dc dt_MO_insert 10 rfl) rfl ly8 rfl rfl (fun g5 => ?_)
    refine r_i2l (q := 18) (dc dt_MO_insert 11 rfl) rfl g5 ?_
    refine r_callSi (q := 21) mk_MO_in lm_MO_253 (RMO.of rfl) rfl (dc dt_MO_insert 12 rfl) rfl [J v1, J 0, J (σ.2.1 8 21)] [] rfl rfl (Nat.le_of_ble_eq_true rfl) (sp_MO_in o4 (⟨by decide, by decide⟩ : rng 0) g5) (fun _ _ g6 z => ?_)
    obtain ⟨z, w⟩ := z
    subst z
    replace w := w.symm
    subst w
    refine r_ifb_ne (q := 24) (t := 27) (dc dt_MO_insert 13 rfl) rfl (by decide) (fun q_ => ?_) (fun q_ => ?_)
    · have h := h.1 q_
      refine r_aload_n (q := 28) (dc dt_MO_insert 16 rfl) rfl rfl 0 rfl ?_
      refine r_getI (q := 31) (v := σ.2.1 8 21) fl_MO_320 (dc dt_MO_insert 17 rfl) rfl ly8 rfl rfl (fun g7 => ?_)
      refine r_bipush (q := 33) (dc dt_MO_insert 18 rfl) rfl (by decide) ?_
      refine r_icmp_ne (q := 36) (t := 39) (dc dt_MO_insert 19 rfl) rfl (by decide) g7 (⟨by decide, by decide⟩ : rng 80) (fun q_ => ?_) (fun q_ => ?_)
      · have h := h.1 q_
        refine r_aload_n (q := 40) (dc dt_MO_insert 22 rfl) rfl rfl 0 rfl ?_
        refine r_getO (q := 43) (v := 89) fl_MO_7 (dc dt_MO_insert 23 rfl) rfl ly8 rfl ?_
        refine r_iload_n (q := 44) (dc dt_MO_insert 24 rfl) rfl rfl 2 rfl ?_
        obtain ⟨o8, h⟩ := h
        refine r_iald (q := 45) (v := σ.1 89 v2.toNat) (dc dt_MO_insert 25 rfl) rfl ly89 o8 rfl (fun g9 => ?_)
        refine r_bipush (q := 47) (dc dt_MO_insert 26 rfl) rfl (by decide) ?_
        refine r_icmp_ne (q := 50) (t := 53) (dc dt_MO_insert 27 rfl) rfl (by decide) g9 (⟨by decide, by decide⟩ : rng 7) (fun q_ => ?_) (fun q_ => ?_)
        · have h := h.1 q_
          refine r_aload_n (q := 54) (dc dt_MO_insert 30 rfl) rfl rfl 0 rfl ?_
          refine r_iload_n (q := 55) (dc dt_MO_insert 31 rfl) rfl rfl 1 rfl ?_
          refine r_iload_n (q := 56) (dc dt_MO_insert 32 rfl) rfl rfl 2 rfl ?_
          refine r_callVv (q := 59) mk_MO_put lm_MO_330 (RMO.of rfl) rfl (dc dt_MO_insert 33 rfl) rfl ly8 [I v1, I v2] [] rfl rfl (Nat.le_of_ble_eq_true rfl) h (fun u10 h => ?_)
          refine r_aload_n (q := 60) (dc dt_MO_insert 34 rfl) rfl rfl 0 rfl ?_
          refine r_iconst (q := 61) (dc dt_MO_insert 35 rfl) rfl rfl ?_
          refine r_iload_n (q := 62) (dc dt_MO_insert 36 rfl) rfl rfl 1 rfl ?_
          refine r_iload_n (q := 63) (dc dt_MO_insert 37 rfl) rfl rfl 2 rfl ?_
          refine r_callVv (q := 66) mk_MO_note lm_MO_334 (RMO.of rfl) rfl (dc dt_MO_insert 38 rfl) rfl ly8 [I 0, I v1, I v2] [] rfl rfl (Nat.le_of_ble_eq_true rfl) h (fun u11 h => ?_)
          refine r_aload_n (q := 67) (dc dt_MO_insert 39 rfl) rfl rfl 0 rfl ?_
          refine r_getI (q := 70) (v := u11.2.1 8 21) fl_MO_320 (dc dt_MO_insert 40 rfl) rfl ly8 rfl rfl (fun g12 => ?_)
          exact r_iret rfl (dc dt_MO_insert 41 rfl) g12 h
        · have h := h.2 q_
          refine r_bipush (q := 52) (dc dt_MO_insert 28 rfl) rfl (by decide) ?_
          exact r_iret rfl (dc dt_MO_insert 29 rfl) (⟨by decide, by decide⟩ : rng (-5)) h
      · have h := h.2 q_
        refine r_bipush (q := 38) (dc dt_MO_insert 20 rfl) rfl (by decide) ?_
        exact r_iret rfl (dc dt_MO_insert 21 rfl) (⟨by decide, by decide⟩ : rng (-4)) h
    · have h := h.2 q_
      refine r_bipush (q := 26) (dc dt_MO_insert 14 rfl) rfl (by decide) ?_
      exact r_iret rfl (dc dt_MO_insert 15 rfl) (⟨by decide, by decide⟩ : rng (-2)) h
  · have h := h.2 q_
    refine r_iconst (q := 9) (dc dt_MO_insert 4 rfl) rfl rfl ?_
    exact r_iret rfl (dc dt_MO_insert 5 rfl) (⟨by decide, by decide⟩ : rng (-1)) h
def tb_MO_type : List (Nat × Instr × Nat) := [(0, .aload_n 0, 1), (1, .aload_n 0, 1), (2, .getfield 320, 3), (5, .iload_n 1, 1), (6, .invokevirtual 326, 3), (9, .ireturn, 1)]
theorem dt_MO_type : DT (cM m_MO_type) tb_MO_type := by unfold DT; decide +kernel
abbrev a_MO_type_0 (G : GT)  (v1 : Int) (σ : St) (P : Int → St → Prop) : Prop := A G m_MO_type 0 [(0, O 8), (1, I v1)] [] σ P
set_option maxRecDepth 20000 in
theorem k_MO_type_0 {G : GT} {σ : St} {P : Int → St → Prop}  {v1 : Int}  
    (h : CJ G m_MO_insert [O 8, I (σ.2.1 8 21), I v1] σ (fun r3 u2 => P r3 u2)) :
    a_MO_type_0 G v1 σ P := by
  refine r_aload_n (q := 1) (dc dt_MO_type 0 rfl) rfl rfl 0 rfl ?_
  refine r_aload_n (q := 2) (dc dt_MO_type 1 rfl) rfl rfl 0 rfl ?_
  refine r_getI (q := 5) (v := σ.2.1 8 21) fl_MO_320 (dc dt_MO_type 2 rfl) rfl ly8 rfl rfl (fun g1 => ?_)
  refine r_iload_n (q := 6) (dc dt_MO_type 3 rfl) rfl rfl 1 rfl ?_
  refine r_callVi (q := 9) mk_MO_insert lm_MO_326 (RMO.of rfl) rfl (dc dt_MO_type 4 rfl) rfl ly8 [I (σ.2.1 8 21), I v1] [] rfl rfl (Nat.le_of_ble_eq_true rfl) h (fun r3 u2 g4 h => ?_)
  exact r_iret rfl (dc dt_MO_type 5 rfl) g4 h
def tb_MO_remove : List (Nat × Instr × Nat) := [(0, .iload_n 1, 1), (1, .i2l, 1), (2, .lconst 0, 1), (3, .aload_n 0, 1), (4, .getfield 320, 3), (7, .iconst 1, 1), (8, .isub, 1), (9, .i2l, 1), (10, .invokestatic 253, 3), (13, .ifCond .ne 6, 3), (16, .bipush (-2), 2), (18, .ireturn, 1), (19, .aload_n 0, 1), (20, .iload_n 1, 1), (21, .invokevirtual 338, 3), (24, .istore_n 2, 1), (25, .aload_n 0, 1), (26, .iconst 1, 1), (27, .iload_n 1, 1), (28, .iload_n 2, 1), (29, .invokevirtual 334, 3), (32, .iload_n 2, 1), (33, .ireturn, 1)]
theorem dt_MO_remove : DT (cM m_MO_remove) tb_MO_remove := by unfold DT; decide +kernel
abbrev a_MO_remove_0 (G : GT)  (v1 : Int) (σ : St) (P : Int → St → Prop) : Prop := A G m_MO_remove 0 [(0, O 8), (1, I v1)] [] σ P
set_option maxRecDepth 20000 in
theorem k_MO_remove_0 {G : GT} {σ : St} {P : Int → St → Prop}  {v1 : Int}  
    (h : rng v1 ∧ rng ((σ.2.1 8 21) - 1) ∧ (0 ≤ v1 ∧ v1 ≤ ((σ.2.1 8 21) - 1) → CJ G m_MO_takeOut [O 8, I v1] σ (fun r6 u5 => CJ G m_MO_note [O 8, I 1, I v1, I r6] u5 (fun _ u8 => P r6 u8))) ∧ (¬ (0 ≤ v1 ∧ v1 ≤ ((σ.2.1 8 21) - 1)) → P (-2) σ)) :
    a_MO_remove_0 G v1 σ P := by
  refine r_iload_n (q := 1) (dc dt_MO_remove 0 rfl) rfl rfl 1 rfl ?_
  obtain ⟨o1, h⟩ := h
  refine r_i2l (q := 2) (dc dt_MO_remove 1 rfl) rfl o1 ?_
  refine r_lconst (q := 3) (n := 0) (dc dt_MO_remove 2 rfl) rfl rfl ?_
  refine r_aload_n (q := 4) (dc dt_MO_remove 3 rfl) rfl rfl 0 rfl ?_
  refine r_getI (q := 7) (v := σ.2.1 8 21) fl_MO_320 (dc dt_MO_remove 4 rfl) rfl ly8 rfl rfl (fun g2 => ?_)
  refine r_iconst (q := 8) (dc dt_MO_remove 5 rfl) rfl rfl ?_
  refine r_isub (q := 9) (dc dt_MO_remove 6 rfl) rfl ?_
  obtain ⟨o3, h⟩ := h
  refine r_i2l (q := 10) (dc dt_MO_remove 7 rfl) rfl o3 ?_
  refine r_callSi (q := 13) mk_MO_in lm_MO_253 (RMO.of rfl) rfl (dc dt_MO_remove 8 rfl) rfl [J v1, J 0, J ((σ.2.1 8 21) - 1)] [] rfl rfl (Nat.le_of_ble_eq_true rfl) (sp_MO_in o1 (⟨by decide, by decide⟩ : rng 0) o3) (fun _ _ g4 z => ?_)
  obtain ⟨z, w⟩ := z
  subst z
  replace w := w.symm
  subst w
  refine r_ifb_ne (q := 16) (t := 19) (dc dt_MO_remove 9 rfl) rfl (by decide) (fun q_ => ?_) (fun q_ => ?_)
  · have h := h.1 q_
    refine r_aload_n (q := 20) (dc dt_MO_remove 12 rfl) rfl rfl 0 rfl ?_
    refine r_iload_n (q := 21) (dc dt_MO_remove 13 rfl) rfl rfl 1 rfl ?_
    refine r_callVi (q := 24) mk_MO_takeOut lm_MO_338 (RMO.of rfl) rfl (dc dt_MO_remove 14 rfl) rfl ly8 [I v1] [] rfl rfl (Nat.le_of_ble_eq_true rfl) h (fun r6 u5 g7 h => ?_)
    refine r_istore_n (q := 25) (dc dt_MO_remove 15 rfl) rfl rfl (by decide) rfl ?_
    refine r_aload_n (q := 26) (dc dt_MO_remove 16 rfl) rfl rfl 1 rfl ?_
    refine r_iconst (q := 27) (dc dt_MO_remove 17 rfl) rfl rfl ?_
    refine r_iload_n (q := 28) (dc dt_MO_remove 18 rfl) rfl rfl 2 rfl ?_
    refine r_iload_n (q := 29) (dc dt_MO_remove 19 rfl) rfl rfl 0 rfl ?_
    refine r_callVv (q := 32) mk_MO_note lm_MO_334 (RMO.of rfl) rfl (dc dt_MO_remove 20 rfl) rfl ly8 [I 1, I v1, I r6] [] rfl rfl (Nat.le_of_ble_eq_true rfl) h (fun u8 h => ?_)
    refine r_iload_n (q := 33) (dc dt_MO_remove 21 rfl) rfl rfl 0 rfl ?_
    exact r_iret rfl (dc dt_MO_remove 22 rfl) g7 h
  · have h := h.2 q_
    refine r_bipush (q := 18) (dc dt_MO_remove 10 rfl) rfl (by decide) ?_
    exact r_iret rfl (dc dt_MO_remove 11 rfl) (⟨by decide, by decide⟩ : rng (-2)) h
def tb_MO_undo : List (Nat × Instr × Nat) := [(0, .aload_n 0, 1), (1, .getfield 323, 3), (4, .ifCond .ne 6, 3), (7, .bipush (-3), 2), (9, .ireturn, 1), (10, .aload_n 0, 1), (11, .dup, 1), (12, .getfield 323, 3), (15, .iconst 1, 1), (16, .isub, 1), (17, .putfield 323, 3), (20, .aload_n 0, 1), (21, .getfield 65, 3), (24, .aload_n 0, 1), (25, .getfield 323, 3), (28, .baload, 1), (29, .ifCond .eq 28, 3), (32, .aload_n 0, 1), (33, .aload_n 0, 1), (34, .getfield 68, 3), (37, .aload_n 0, 1), (38, .getfield 323, 3), (41, .iaload, 1), (42, .aload_n 0, 1), (43, .getfield 71, 3), (46, .aload_n 0, 1), (47, .getfield 323, 3), (50, .iaload, 1), (51, .invokevirtual 330, 3), (54, .goto 17, 3), (57, .aload_n 0, 1), (58, .aload_n 0, 1), (59, .getfield 68, 3), (62, .aload_n 0, 1), (63, .getfield 323, 3), (66, .iaload, 1), (67, .invokevirtual 338, 3), (70, .pop, 1), (71, .aload_n 0, 1), (72, .invokevirtual 276, 3), (75, .aload_n 0, 1), (76, .getfield 320, 3), (79, .ireturn, 1)]
theorem dt_MO_undo : DT (cM m_MO_undo) tb_MO_undo := by unfold DT; decide +kernel
abbrev a_MO_undo_0 (G : GT)   (σ : St) (P : Int → St → Prop) : Prop := A G m_MO_undo 0 [(0, O 8)] [] σ P
set_option maxRecDepth 20000 in
theorem k_MO_undo_0 {G : GT} {σ : St} {P : Int → St → Prop}    
    (h : (σ.2.1 8 25 ≠ 0 → rng ((σ.2.1 8 25) - 1) ∧ (∀ σ3, σ3 = sf σ 8 25 ((σ.2.1 8 25) - 1) → (0 ≤ (σ.2.1 8 25) - 1 ∧ (σ.2.1 8 25) - 1 < 40) ∧ (σ.1 107 (((σ.2.1 8 25) - 1).toNat) = 0 → CJ G m_MO_takeOut [O 8, I (σ.1 108 (((σ.2.1 8 25) - 1).toNat))] σ3 (fun r11 u10 => CJ G m_MO_changed [O 8] u10 (fun _ u13 => P (u13.2.1 8 21) u13))) ∧ (σ.1 107 (((σ.2.1 8 25) - 1).toNat) ≠ 0 → CJ G m_MO_put [O 8, I (σ.1 108 (((σ.2.1 8 25) - 1).toNat)), I (σ.1 109 (((σ.2.1 8 25) - 1).toNat))] σ3 (fun _ u17 => CJ G m_MO_changed [O 8] u17 (fun _ u18 => P (u18.2.1 8 21) u18))))) ∧ (σ.2.1 8 25 = 0 → P (-3) σ)) :
    a_MO_undo_0 G  σ P := by
  refine r_aload_n (q := 1) (dc dt_MO_undo 0 rfl) rfl rfl 0 rfl ?_
  refine r_getI (q := 4) (v := σ.2.1 8 25) fl_MO_323 (dc dt_MO_undo 1 rfl) rfl ly8 rfl rfl (fun g1 => ?_)
  refine r_if_ne (q := 7) (t := 10) (dc dt_MO_undo 2 rfl) rfl (by decide) g1 (fun q_ => ?_) (fun q_ => ?_)
  · have h := h.1 q_
    refine r_aload_n (q := 11) (dc dt_MO_undo 5 rfl) rfl rfl 0 rfl ?_
    refine r_dupo (q := 12) (dc dt_MO_undo 6 rfl) rfl ?_
    refine r_getI (q := 15) (v := σ.2.1 8 25) fl_MO_323 (dc dt_MO_undo 7 rfl) rfl ly8 rfl rfl (fun g2 => ?_)
    refine r_iconst (q := 16) (dc dt_MO_undo 8 rfl) rfl rfl ?_
    refine r_isub (q := 17) (dc dt_MO_undo 9 rfl) rfl ?_
    obtain ⟨o5, h⟩ := h
    refine r_put (q := 20) fl_MO_323 (dc dt_MO_undo 10 rfl) rfl ly8 (fun _ => rfl) (Or.inl rfl) pf_8_25 o5 (fun σ3 e4 => ?_)
    have h := h σ3 e4
    refine r_aload_n (q := 21) (dc dt_MO_undo 11 rfl) rfl rfl 0 rfl ?_
    refine r_getO (q := 24) (v := 107) fl_MO_65 (dc dt_MO_undo 12 rfl) rfl ly8 rfl ?_
    refine r_aload_n (q := 25) (dc dt_MO_undo 13 rfl) rfl rfl 0 rfl ?_
    refine r_getI (q := 28) (v := (σ.2.1 8 25) - 1) fl_MO_323 (dc dt_MO_undo 14 rfl) rfl ly8 rfl (by rw [e4]; first | rfl | exact up2_at) (fun _ => ?_)
    obtain ⟨o6, h⟩ := h
    refine r_zald (q := 29) (v := σ.1 107 (((σ.2.1 8 25) - 1).toNat)) (dc dt_MO_undo 15 rfl) rfl ly107 o6 (by rw [e4]; rfl) (fun g7 => ?_)
    refine r_if_eq (q := 32) (t := 57) (dc dt_MO_undo 16 rfl) rfl (by decide) g7 (fun q_ => ?_) (fun q_ => ?_)
    · have h := h.1 q_
      refine r_aload_n (q := 58) (dc dt_MO_undo 30 rfl) rfl rfl 0 rfl ?_
      refine r_aload_n (q := 59) (dc dt_MO_undo 31 rfl) rfl rfl 0 rfl ?_
      refine r_getO (q := 62) (v := 108) fl_MO_68 (dc dt_MO_undo 32 rfl) rfl ly8 rfl ?_
      refine r_aload_n (q := 63) (dc dt_MO_undo 33 rfl) rfl rfl 0 rfl ?_
      refine r_getI (q := 66) (v := (σ.2.1 8 25) - 1) fl_MO_323 (dc dt_MO_undo 34 rfl) rfl ly8 rfl (by rw [e4]; first | rfl | exact up2_at) (fun _ => ?_)
      refine r_iald (q := 67) (v := σ.1 108 (((σ.2.1 8 25) - 1).toNat)) (dc dt_MO_undo 35 rfl) rfl ly108 o6 (by rw [e4]; rfl) (fun g9 => ?_)
      refine r_callVi (q := 70) mk_MO_takeOut lm_MO_338 (RMO.of rfl) rfl (dc dt_MO_undo 36 rfl) rfl ly8 [I (σ.1 108 (((σ.2.1 8 25) - 1).toNat))] [] rfl rfl (Nat.le_of_ble_eq_true rfl) h (fun r11 u10 g12 h => ?_)
      refine r_pop (q := 71) (dc dt_MO_undo 37 rfl) rfl ?_
      refine r_aload_n (q := 72) (dc dt_MO_undo 38 rfl) rfl rfl 0 rfl ?_
      refine r_callVv (q := 75) mk_MO_changed lm_MO_276 (RMO.of rfl) rfl (dc dt_MO_undo 39 rfl) rfl ly8 [] [] rfl rfl (Nat.le_of_ble_eq_true rfl) h (fun u13 h => ?_)
      refine r_aload_n (q := 76) (dc dt_MO_undo 40 rfl) rfl rfl 0 rfl ?_
      refine r_getI (q := 79) (v := u13.2.1 8 21) fl_MO_320 (dc dt_MO_undo 41 rfl) rfl ly8 rfl rfl (fun g14 => ?_)
      exact r_iret rfl (dc dt_MO_undo 42 rfl) g14 h
    · have h := h.2 q_
      refine r_aload_n (q := 33) (dc dt_MO_undo 17 rfl) rfl rfl 0 rfl ?_
      refine r_aload_n (q := 34) (dc dt_MO_undo 18 rfl) rfl rfl 0 rfl ?_
      refine r_getO (q := 37) (v := 108) fl_MO_68 (dc dt_MO_undo 19 rfl) rfl ly8 rfl ?_
      refine r_aload_n (q := 38) (dc dt_MO_undo 20 rfl) rfl rfl 0 rfl ?_
      refine r_getI (q := 41) (v := (σ.2.1 8 25) - 1) fl_MO_323 (dc dt_MO_undo 21 rfl) rfl ly8 rfl (by rw [e4]; first | rfl | exact up2_at) (fun _ => ?_)
      refine r_iald (q := 42) (v := σ.1 108 (((σ.2.1 8 25) - 1).toNat)) (dc dt_MO_undo 22 rfl) rfl ly108 o6 (by rw [e4]; rfl) (fun g15 => ?_)
      refine r_aload_n (q := 43) (dc dt_MO_undo 23 rfl) rfl rfl 0 rfl ?_
      refine r_getO (q := 46) (v := 109) fl_MO_71 (dc dt_MO_undo 24 rfl) rfl ly8 rfl ?_
      refine r_aload_n (q := 47) (dc dt_MO_undo 25 rfl) rfl rfl 0 rfl ?_
      refine r_getI (q := 50) (v := (σ.2.1 8 25) - 1) fl_MO_323 (dc dt_MO_undo 26 rfl) rfl ly8 rfl (by rw [e4]; first | rfl | exact up2_at) (fun _ => ?_)
      refine r_iald (q := 51) (v := σ.1 109 (((σ.2.1 8 25) - 1).toNat)) (dc dt_MO_undo 27 rfl) rfl ly109 o6 (by rw [e4]; rfl) (fun g16 => ?_)
      refine r_callVv (q := 54) mk_MO_put lm_MO_330 (RMO.of rfl) rfl (dc dt_MO_undo 28 rfl) rfl ly8 [I (σ.1 108 (((σ.2.1 8 25) - 1).toNat)), I (σ.1 109 (((σ.2.1 8 25) - 1).toNat))] [] rfl rfl (Nat.le_of_ble_eq_true rfl) h (fun u17 h => ?_)
      refine r_goto (q := 71) (dc dt_MO_undo 29 rfl) (by decide) ?_
      refine r_aload_n (q := 72) (dc dt_MO_undo 38 rfl) rfl rfl 0 rfl ?_
      refine r_callVv (q := 75) mk_MO_changed lm_MO_276 (RMO.of rfl) rfl (dc dt_MO_undo 39 rfl) rfl ly8 [] [] rfl rfl (Nat.le_of_ble_eq_true rfl) h (fun u18 h => ?_)
      refine r_aload_n (q := 76) (dc dt_MO_undo 40 rfl) rfl rfl 0 rfl ?_
      refine r_getI (q := 79) (v := u18.2.1 8 21) fl_MO_320 (dc dt_MO_undo 41 rfl) rfl ly8 rfl rfl (fun g19 => ?_)
      exact r_iret rfl (dc dt_MO_undo 42 rfl) g19 h
  · have h := h.2 q_
    refine r_bipush (q := 9) (dc dt_MO_undo 3 rfl) rfl (by decide) ?_
    exact r_iret rfl (dc dt_MO_undo 4 rfl) (⟨by decide, by decide⟩ : rng (-3)) h
def tb_MO_text : List (Nat × Instr × Nat) := [(0, .iload_n 1, 1), (1, .i2l, 1), (2, .lconst 0, 1), (3, .aload_n 0, 1), (4, .getfield 320, 3), (7, .iconst 1, 1), (8, .isub, 1), (9, .i2l, 1), (10, .invokestatic 253, 3), (13, .ifCond .eq 12, 3), (16, .aload_n 0, 1), (17, .getfield 62, 3), (20, .iload_n 1, 1), (21, .iaload, 1), (22, .goto 5, 3), (25, .bipush (-6), 2), (27, .ireturn, 1)]
theorem dt_MO_text : DT (cM m_MO_text) tb_MO_text := by unfold DT; decide +kernel
abbrev a_MO_text_0 (G : GT)  (v1 : Int) (σ : St) (P : Int → St → Prop) : Prop := A G m_MO_text 0 [(0, O 8), (1, I v1)] [] σ P
set_option maxRecDepth 20000 in
theorem k_MO_text_0 {G : GT} {σ : St} {P : Int → St → Prop}  {v1 : Int}  
    (h : rng v1 ∧ rng ((σ.2.1 8 21) - 1) ∧ ((0 ≤ v1 ∧ v1 ≤ ((σ.2.1 8 21) - 1) → 0 ≤ v1 ∧ v1 < 80)) ∧ (rng (if ¬ (0 ≤ v1 ∧ v1 ≤ ((σ.2.1 8 21) - 1)) then (-6 : Int) else σ.1 106 v1.toNat)) ∧ P (if ¬ (0 ≤ v1 ∧ v1 ≤ ((σ.2.1 8 21) - 1)) then (-6 : Int) else σ.1 106 v1.toNat) σ) :
    a_MO_text_0 G v1 σ P := by
  refine r_iload_n (q := 1) (dc dt_MO_text 0 rfl) rfl rfl 1 rfl ?_
  obtain ⟨o1, h⟩ := h
  refine r_i2l (q := 2) (dc dt_MO_text 1 rfl) rfl o1 ?_
  refine r_lconst (q := 3) (n := 0) (dc dt_MO_text 2 rfl) rfl rfl ?_
  refine r_aload_n (q := 4) (dc dt_MO_text 3 rfl) rfl rfl 0 rfl ?_
  refine r_getI (q := 7) (v := σ.2.1 8 21) fl_MO_320 (dc dt_MO_text 4 rfl) rfl ly8 rfl rfl (fun g2 => ?_)
  refine r_iconst (q := 8) (dc dt_MO_text 5 rfl) rfl rfl ?_
  refine r_isub (q := 9) (dc dt_MO_text 6 rfl) rfl ?_
  obtain ⟨o3, h⟩ := h
  refine r_i2l (q := 10) (dc dt_MO_text 7 rfl) rfl o3 ?_
  refine r_callSi (q := 13) mk_MO_in lm_MO_253 (RMO.of rfl) rfl (dc dt_MO_text 8 rfl) rfl [J v1, J 0, J ((σ.2.1 8 21) - 1)] [] rfl rfl (Nat.le_of_ble_eq_true rfl) (sp_MO_in o1 (⟨by decide, by decide⟩ : rng 0) o3) (fun _ _ g4 z => ?_)
  obtain ⟨z, w⟩ := z
  subst z
  replace w := w.symm
  subst w
  obtain ⟨ho, h⟩ := h
  have hJ : ∀ (w_0 : Int), w_0 = (if ¬ (0 ≤ v1 ∧ v1 ≤ ((σ.2.1 8 21) - 1)) then (-6 : Int) else σ.1 106 v1.toNat) → A G m_MO_text 27 [(0, O 8), (1, I v1)] [I w_0] σ P := by
    intro w_0 z_0
    subst z_0
    obtain ⟨o7, h⟩ := h
    exact r_iret rfl (dc dt_MO_text 16 rfl) o7 h
  clear h
  refine r_ifb_eq (q := 16) (t := 25) (dc dt_MO_text 9 rfl) rfl (by decide) (fun q_ => ?_) (fun q_ => ?_)
  · have q8 := q_
    refine r_bipush (q := 27) (dc dt_MO_text 15 rfl) rfl (by decide) ?_
    exact (hJ (-6) ((if_pos (by first | omega | grind)).symm))
  · have q8 := q_
    have ho := ho q_
    refine r_aload_n (q := 17) (dc dt_MO_text 10 rfl) rfl rfl 0 rfl ?_
    refine r_getO (q := 20) (v := 106) fl_MO_62 (dc dt_MO_text 11 rfl) rfl ly8 rfl ?_
    refine r_iload_n (q := 21) (dc dt_MO_text 12 rfl) rfl rfl 1 rfl ?_
    have o5 := ho
    refine r_iald (q := 22) (v := σ.1 106 v1.toNat) (dc dt_MO_text 13 rfl) rfl ly106 o5 rfl (fun g6 => ?_)
    refine r_goto (q := 27) (dc dt_MO_text 14 rfl) (by decide) ?_
    exact (hJ (σ.1 106 v1.toNat) ((if_neg (by first | omega | grind)).symm))
set_option maxRecDepth 20000 in
theorem sp0_MO_text {G : GT} {σ : St} {v1 : Int}  (j0 : rng v1) (j1 : rng ((σ.2.1 8 21) - 1)) (j2 : (0 ≤ v1 ∧ v1 ≤ ((σ.2.1 8 21) - 1) → 0 ≤ v1 ∧ v1 < 80)) (j3 : rng (if ¬ (0 ≤ v1 ∧ v1 ≤ ((σ.2.1 8 21) - 1)) then (-6 : Int) else σ.1 106 v1.toNat)) : CJ G m_MO_text [O 8, I v1] σ (fun r u => r = (if ¬ (0 ≤ v1 ∧ v1 ≤ ((σ.2.1 8 21) - 1)) then (-6 : Int) else σ.1 106 v1.toNat) ∧ u = σ) := by
  refine CJ.intro (by decide) (by simp [catA]; decide) (fun _ => k_MO_text_0  ?_)
  refine ⟨by first | assumption | omega | grind, ?_⟩
  refine ⟨by first | assumption | omega | grind, ?_⟩
  refine ⟨by first | assumption | omega | grind, ?_⟩
  refine ⟨by first | assumption | omega | grind, ?_⟩
  exact ⟨by first | rfl | grind, rfl⟩
def p_MO_text (σ : St) (v1 : Int) : Prop := rng v1 ∧ rng ((σ.2.1 8 21) - 1) ∧ (0 ≤ v1 ∧ v1 ≤ ((σ.2.1 8 21) - 1) → 0 ≤ v1 ∧ v1 < 80) ∧ (rng (if ¬ (0 ≤ v1 ∧ v1 ≤ ((σ.2.1 8 21) - 1)) then (-6 : Int) else σ.1 106 v1.toNat))
def f_MO_text (σ : St) (v1 : Int) : Int := if ¬ (0 ≤ v1 ∧ v1 ≤ ((σ.2.1 8 21) - 1)) then (-6 : Int) else σ.1 106 v1.toNat
theorem sp_MO_text {G : GT} {σ : St} {v1 : Int}  (j : p_MO_text σ v1) : CJ G m_MO_text [O 8, I v1] σ (fun r u => r = (f_MO_text σ v1) ∧ u = σ) := sp0_MO_text  j.1 j.2.1 j.2.2.1 j.2.2.2
def tb_MO_base : List (Nat × Instr × Nat) := [(0, .aload_n 0, 1), (1, .getfield 95, 3), (4, .aload_n 0, 1), (5, .getfield 341, 3), (8, .iload_n 1, 1), (9, .iastore, 1), (10, .aload_n 0, 1), (11, .getfield 98, 3), (14, .aload_n 0, 1), (15, .getfield 341, 3), (18, .iload_n 2, 1), (19, .iastore, 1), (20, .aload_n 0, 1), (21, .getfield 101, 3), (24, .aload_n 0, 1), (25, .getfield 341, 3), (28, .iload_n 3, 1), (29, .iastore, 1), (30, .aload_n 0, 1), (31, .getfield 104, 3), (34, .aload_n 0, 1), (35, .getfield 341, 3), (38, .iload 4, 2), (40, .iastore, 1), (41, .aload_n 0, 1), (42, .getfield 107, 3), (45, .aload_n 0, 1), (46, .getfield 341, 3), (49, .iconst 0, 1), (50, .bastore, 1), (51, .aload_n 0, 1), (52, .getfield 110, 3), (55, .aload_n 0, 1), (56, .getfield 341, 3), (59, .iconst 0, 1), (60, .bastore, 1), (61, .aload_n 0, 1), (62, .dup, 1), (63, .getfield 341, 3), (66, .iconst 1, 1), (67, .iadd, 1), (68, .putfield 341, 3), (71, .return_, 1)]
theorem dt_MO_base : DT (cM m_MO_base) tb_MO_base := by unfold DT; decide +kernel
abbrev a_MO_base_0 (G : GT)  (v1 : Int) (v2 : Int) (v3 : Int) (v4 : Int) (σ : St) (P : Int → St → Prop) : Prop := A G m_MO_base 0 [(0, O 8), (1, I v1), (2, I v2), (3, I v3), (4, I v4)] [] σ P
set_option maxRecDepth 20000 in
theorem k_MO_base_0 {G : GT} {σ : St} {P : Int → St → Prop}  {v1 : Int} {v2 : Int} {v3 : Int} {v4 : Int}  
    (h : (0 ≤ σ.2.1 8 35 ∧ σ.2.1 8 35 < 80) ∧ rng v1 ∧ (∀ σ4, σ4 = sa σ 117 ((σ.2.1 8 35).toNat) v1 → rng v2 ∧ (∀ σ8, σ8 = sa σ4 118 ((σ.2.1 8 35).toNat) v2 → rng v3 ∧ (∀ σ12, σ12 = sa σ8 119 ((σ.2.1 8 35).toNat) v3 → rng v4 ∧ (∀ σ16, σ16 = sa σ12 120 ((σ.2.1 8 35).toNat) v4 → (∀ σ19, σ19 = sa σ16 121 ((σ.2.1 8 35).toNat) 0 → (∀ σ22, σ22 = sa σ19 122 ((σ.2.1 8 35).toNat) 0 → rng ((σ.2.1 8 35) + 1) ∧ (∀ σ25, σ25 = sf σ22 8 35 ((σ.2.1 8 35) + 1) → P 0 σ25)))))))) :
    a_MO_base_0 G v1 v2 v3 v4 σ P := by
  refine r_aload_n (q := 1) (dc dt_MO_base 0 rfl) rfl rfl 0 rfl ?_
  refine r_getO (q := 4) (v := 117) fl_MO_95 (dc dt_MO_base 1 rfl) rfl ly8 rfl ?_
  refine r_aload_n (q := 5) (dc dt_MO_base 2 rfl) rfl rfl 0 rfl ?_
  refine r_getI (q := 8) (v := σ.2.1 8 35) fl_MO_341 (dc dt_MO_base 3 rfl) rfl ly8 rfl rfl (fun g1 => ?_)
  refine r_iload_n (q := 9) (dc dt_MO_base 4 rfl) rfl rfl 1 rfl ?_
  obtain ⟨o2, h⟩ := h
  obtain ⟨o3, h⟩ := h
  refine r_iast (q := 10) (dc dt_MO_base 5 rfl) rfl ly117 o2 o3 (fun σ4 e5 => ?_)
  have h := h σ4 e5
  refine r_aload_n (q := 11) (dc dt_MO_base 6 rfl) rfl rfl 0 rfl ?_
  refine r_getO (q := 14) (v := 118) fl_MO_98 (dc dt_MO_base 7 rfl) rfl ly8 rfl ?_
  refine r_aload_n (q := 15) (dc dt_MO_base 8 rfl) rfl rfl 0 rfl ?_
  refine r_getI (q := 18) (v := σ.2.1 8 35) fl_MO_341 (dc dt_MO_base 9 rfl) rfl ly8 rfl (by rw [e5]; rfl) (fun g6 => ?_)
  refine r_iload_n (q := 19) (dc dt_MO_base 10 rfl) rfl rfl 2 rfl ?_
  obtain ⟨o7, h⟩ := h
  refine r_iast (q := 20) (dc dt_MO_base 11 rfl) rfl ly118 o2 o7 (fun σ8 e9 => ?_)
  have h := h σ8 e9
  refine r_aload_n (q := 21) (dc dt_MO_base 12 rfl) rfl rfl 0 rfl ?_
  refine r_getO (q := 24) (v := 119) fl_MO_101 (dc dt_MO_base 13 rfl) rfl ly8 rfl ?_
  refine r_aload_n (q := 25) (dc dt_MO_base 14 rfl) rfl rfl 0 rfl ?_
  refine r_getI (q := 28) (v := σ.2.1 8 35) fl_MO_341 (dc dt_MO_base 15 rfl) rfl ly8 rfl (by rw [e9, e5]; rfl) (fun g10 => ?_)
  refine r_iload_n (q := 29) (dc dt_MO_base 16 rfl) rfl rfl 3 rfl ?_
  obtain ⟨o11, h⟩ := h
  refine r_iast (q := 30) (dc dt_MO_base 17 rfl) rfl ly119 o2 o11 (fun σ12 e13 => ?_)
  have h := h σ12 e13
  refine r_aload_n (q := 31) (dc dt_MO_base 18 rfl) rfl rfl 0 rfl ?_
  refine r_getO (q := 34) (v := 120) fl_MO_104 (dc dt_MO_base 19 rfl) rfl ly8 rfl ?_
  refine r_aload_n (q := 35) (dc dt_MO_base 20 rfl) rfl rfl 0 rfl ?_
  refine r_getI (q := 38) (v := σ.2.1 8 35) fl_MO_341 (dc dt_MO_base 21 rfl) rfl ly8 rfl (by rw [e13, e9, e5]; rfl) (fun g14 => ?_)
  refine r_iload (q := 40) (dc dt_MO_base 22 rfl) rfl 4 rfl ?_
  obtain ⟨o15, h⟩ := h
  refine r_iast (q := 41) (dc dt_MO_base 23 rfl) rfl ly120 o2 o15 (fun σ16 e17 => ?_)
  have h := h σ16 e17
  refine r_aload_n (q := 42) (dc dt_MO_base 24 rfl) rfl rfl 0 rfl ?_
  refine r_getO (q := 45) (v := 121) fl_MO_107 (dc dt_MO_base 25 rfl) rfl ly8 rfl ?_
  refine r_aload_n (q := 46) (dc dt_MO_base 26 rfl) rfl rfl 0 rfl ?_
  refine r_getI (q := 49) (v := σ.2.1 8 35) fl_MO_341 (dc dt_MO_base 27 rfl) rfl ly8 rfl (by rw [e17, e13, e9, e5]; rfl) (fun g18 => ?_)
  refine r_iconst (q := 50) (dc dt_MO_base 28 rfl) rfl rfl ?_
  refine r_zast (q := 51) (dc dt_MO_base 29 rfl) rfl ly121 o2 (by decide) (fun σ19 e20 => ?_)
  have h := h σ19 e20
  refine r_aload_n (q := 52) (dc dt_MO_base 30 rfl) rfl rfl 0 rfl ?_
  refine r_getO (q := 55) (v := 122) fl_MO_110 (dc dt_MO_base 31 rfl) rfl ly8 rfl ?_
  refine r_aload_n (q := 56) (dc dt_MO_base 32 rfl) rfl rfl 0 rfl ?_
  refine r_getI (q := 59) (v := σ.2.1 8 35) fl_MO_341 (dc dt_MO_base 33 rfl) rfl ly8 rfl (by rw [e20, e17, e13, e9, e5]; rfl) (fun g21 => ?_)
  refine r_iconst (q := 60) (dc dt_MO_base 34 rfl) rfl rfl ?_
  refine r_zast (q := 61) (dc dt_MO_base 35 rfl) rfl ly122 o2 (by decide) (fun σ22 e23 => ?_)
  have h := h σ22 e23
  refine r_aload_n (q := 62) (dc dt_MO_base 36 rfl) rfl rfl 0 rfl ?_
  refine r_dupo (q := 63) (dc dt_MO_base 37 rfl) rfl ?_
  refine r_getI (q := 66) (v := σ.2.1 8 35) fl_MO_341 (dc dt_MO_base 38 rfl) rfl ly8 rfl (by rw [e23, e20, e17, e13, e9, e5]; rfl) (fun g24 => ?_)
  refine r_iconst (q := 67) (dc dt_MO_base 39 rfl) rfl rfl ?_
  refine r_iadd (q := 68) (dc dt_MO_base 40 rfl) rfl ?_
  obtain ⟨o27, h⟩ := h
  refine r_put (q := 71) fl_MO_341 (dc dt_MO_base 41 rfl) rfl ly8 (fun _ => rfl) (Or.inl rfl) pf_8_35 o27 (fun σ25 e26 => ?_)
  have h := h σ25 e26
  exact r_vret rfl (dc dt_MO_base 42 rfl) h
