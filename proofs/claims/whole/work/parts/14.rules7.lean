theorem fl_MO_113 : FL R_MO 113 8 42 := FL.of rfl (by decide) rfl 1148 (by decide +kernel)
theorem fl_MO_117 : FL R_MO 117 8 43 := FL.of rfl (by decide) rfl 1149 (by decide +kernel)
theorem fl_MO_344 : FL R_MO 344 8 27 := FL.of rfl (by decide) rfl 1133 (by decide +kernel)
theorem fl_MO_74 : FL R_MO 74 8 28 := FL.of rfl (by decide) rfl 1134 (by decide +kernel)
theorem fl_MO_77 : FL R_MO 77 8 29 := FL.of rfl (by decide) rfl 1135 (by decide +kernel)
theorem fl_MO_80 : FL R_MO 80 8 30 := FL.of rfl (by decide) rfl 1136 (by decide +kernel)
theorem fl_MO_83 : FL R_MO 83 8 31 := FL.of rfl (by decide) rfl 1137 (by decide +kernel)
theorem fl_MO_86 : FL R_MO 86 8 32 := FL.of rfl (by decide) rfl 1138 (by decide +kernel)
theorem fl_MO_89 : FL R_MO 89 8 33 := FL.of rfl (by decide) rfl 1139 (by decide +kernel)
theorem fl_MO_92 : FL R_MO 92 8 34 := FL.of rfl (by decide) rfl 1140 (by decide +kernel)
theorem lm_MO_347 : Cond.methodLink R_MO 347 (yM m_MO_base) ∈ gt := gt_at 1566 (by decide +kernel) rfl
theorem lm_MO_351 : Cond.methodLink R_MO 351 (yM m_MO_cutWord) ∈ gt := gt_at 1570 (by decide +kernel) rfl
theorem lm_MO_354 : Cond.methodLink R_MO 354 (yM m_MO_longest) ∈ gt := gt_at 1574 (by decide +kernel) rfl
theorem lm_MO_357 : Cond.methodLink R_MO 357 (yM m_MO_howManyOf) ∈ gt := gt_at 1578 (by decide +kernel) rfl
theorem lm_MO_360 : Cond.methodLink R_MO 360 (yM m_MO_joined) ∈ gt := gt_at 1582 (by decide +kernel) rfl
theorem lm_MO_363 : Cond.methodLink R_MO 363 (yM m_MO_cut) ∈ gt := gt_at 1562 (by decide +kernel) rfl
theorem lm_MO_366 : Cond.methodLink R_MO 366 (yM m_MO_placeOf) ∈ gt := gt_at 1586 (by decide +kernel) rfl
theorem lm_MO_369 : Cond.methodLink R_MO 369 (yM m_MO_plainOf) ∈ gt := gt_at 1590 (by decide +kernel) rfl
theorem lm_MO_372 : Cond.methodLink R_MO 372 (yM m_MO_at) ∈ gt := gt_at 1619 (by decide +kernel) rfl
theorem lm_MO_377 : Cond.methodLink R_MO 377 (yM m_MO_withPiece) ∈ gt := gt_at 1623 (by decide +kernel) rfl
theorem lm_MO_381 : Cond.methodLink R_MO 381 (yM m_MO_mayBe) ∈ gt := gt_at 1638 (by decide +kernel) rfl
theorem lm_MO_385 : Cond.methodLink R_MO 385 (yM m_MO_withStretch) ∈ gt := gt_at 1627 (by decide +kernel) rfl
theorem lm_MO_388 : Cond.methodLink R_MO 388 (yM m_MO_cost) ∈ gt := gt_at 1631 (by decide +kernel) rfl
theorem lm_MO_391 : Cond.methodLink R_MO 391 (yM m_MO_stateBehind) ∈ gt := gt_at 1634 (by decide +kernel) rfl
theorem mk_MO_at : MKS m_MO_at 3 := ⟨⟨gt_at 1621 (by decide +kernel) rfl, gt_at 82 (by decide +kernel) rfl, by decide +kernel, by decide +kernel, by decide +kernel⟩, gt_at 1620 (by decide +kernel) rfl⟩
theorem mk_MO_base : MKV m_MO_base 8 4 := ⟨⟨gt_at 1569 (by decide +kernel) rfl, gt_at 82 (by decide +kernel) rfl, by decide +kernel, by decide +kernel, by decide +kernel⟩, gt_at 1568 (by decide +kernel) rfl, gt_at 37 (by decide +kernel) rfl, _, _, rfl⟩
theorem mk_MO_cost : MKS m_MO_cost 3 := ⟨⟨gt_at 1633 (by decide +kernel) rfl, gt_at 82 (by decide +kernel) rfl, by decide +kernel, by decide +kernel, by decide +kernel⟩, gt_at 1632 (by decide +kernel) rfl⟩
theorem mk_MO_cut : MKV m_MO_cut 8 0 := ⟨⟨gt_at 1565 (by decide +kernel) rfl, gt_at 82 (by decide +kernel) rfl, by decide +kernel, by decide +kernel, by decide +kernel⟩, gt_at 1564 (by decide +kernel) rfl, gt_at 36 (by decide +kernel) rfl, _, _, rfl⟩
theorem mk_MO_cutWord : MKV m_MO_cutWord 8 2 := ⟨⟨gt_at 1573 (by decide +kernel) rfl, gt_at 82 (by decide +kernel) rfl, by decide +kernel, by decide +kernel, by decide +kernel⟩, gt_at 1572 (by decide +kernel) rfl, gt_at 38 (by decide +kernel) rfl, _, _, rfl⟩
theorem mk_MO_howManyOf : MKV m_MO_howManyOf 8 1 := ⟨⟨gt_at 1581 (by decide +kernel) rfl, gt_at 82 (by decide +kernel) rfl, by decide +kernel, by decide +kernel, by decide +kernel⟩, gt_at 1580 (by decide +kernel) rfl, gt_at 40 (by decide +kernel) rfl, _, _, rfl⟩
theorem mk_MO_joined : MKV m_MO_joined 8 2 := ⟨⟨gt_at 1585 (by decide +kernel) rfl, gt_at 82 (by decide +kernel) rfl, by decide +kernel, by decide +kernel, by decide +kernel⟩, gt_at 1584 (by decide +kernel) rfl, gt_at 41 (by decide +kernel) rfl, _, _, rfl⟩
theorem mk_MO_longest : MKV m_MO_longest 8 2 := ⟨⟨gt_at 1577 (by decide +kernel) rfl, gt_at 82 (by decide +kernel) rfl, by decide +kernel, by decide +kernel, by decide +kernel⟩, gt_at 1576 (by decide +kernel) rfl, gt_at 39 (by decide +kernel) rfl, _, _, rfl⟩
theorem mk_MO_mayBe : MKV m_MO_mayBe 8 3 := ⟨⟨gt_at 1641 (by decide +kernel) rfl, gt_at 82 (by decide +kernel) rfl, by decide +kernel, by decide +kernel, by decide +kernel⟩, gt_at 1640 (by decide +kernel) rfl, gt_at 51 (by decide +kernel) rfl, _, _, rfl⟩
theorem mk_MO_placeOf : MKV m_MO_placeOf 8 2 := ⟨⟨gt_at 1589 (by decide +kernel) rfl, gt_at 82 (by decide +kernel) rfl, by decide +kernel, by decide +kernel, by decide +kernel⟩, gt_at 1588 (by decide +kernel) rfl, gt_at 42 (by decide +kernel) rfl, _, _, rfl⟩
theorem mk_MO_plainOf : MKV m_MO_plainOf 8 2 := ⟨⟨gt_at 1593 (by decide +kernel) rfl, gt_at 82 (by decide +kernel) rfl, by decide +kernel, by decide +kernel, by decide +kernel⟩, gt_at 1592 (by decide +kernel) rfl, gt_at 43 (by decide +kernel) rfl, _, _, rfl⟩
theorem mk_MO_stateBehind : MKV m_MO_stateBehind 8 4 := ⟨⟨gt_at 1637 (by decide +kernel) rfl, gt_at 82 (by decide +kernel) rfl, by decide +kernel, by decide +kernel, by decide +kernel⟩, gt_at 1636 (by decide +kernel) rfl, gt_at 50 (by decide +kernel) rfl, _, _, rfl⟩
theorem mk_MO_withPiece : MKV m_MO_withPiece 8 3 := ⟨⟨gt_at 1626 (by decide +kernel) rfl, gt_at 82 (by decide +kernel) rfl, by decide +kernel, by decide +kernel, by decide +kernel⟩, gt_at 1625 (by decide +kernel) rfl, gt_at 48 (by decide +kernel) rfl, _, _, rfl⟩
theorem mk_MO_withStretch : MKV m_MO_withStretch 8 4 := ⟨⟨gt_at 1630 (by decide +kernel) rfl, gt_at 82 (by decide +kernel) rfl, by decide +kernel, by decide +kernel, by decide +kernel⟩, gt_at 1629 (by decide +kernel) rfl, gt_at 49 (by decide +kernel) rfl, _, _, rfl⟩
theorem pf_8_27 : ∀ C T N, classes[8]? = some (C, T, N) → (T 27).2.2.2 = false := fun _ _ _ h => by cases h; rfl
def tb_MO_longest : List (Nat × Instr × Nat) := [(0, .iconst (-1), 1), (1, .istore_n 3, 1), (2, .iconst 0, 1), (3, .istore 4, 2), (5, .iload 4, 2), (7, .aload_n 0, 1), (8, .getfield 249, 3), (11, .if_icmp .ge 169, 3), (14, .aload_n 0, 1), (15, .getfield 7, 3), (18, .iload 4, 2), (20, .iaload, 1), (21, .bipush 7, 2), (23, .if_icmp .ne 151, 3), (26, .aload_n 0, 1), (27, .getfield 22, 3), (30, .iload 4, 2), (32, .baload, 1), (33, .ifCond .eq 141, 3), (36, .iload_n 3, 1), (37, .ifCond .lt 17, 3), (40, .aload_n 0, 1), (41, .iload 4, 2), (43, .invokevirtual 357, 3), (46, .aload_n 0, 1), (47, .iload_n 3, 1), (48, .invokevirtual 357, 3), (51, .if_icmp .le 123, 3), (54, .aload_n 0, 1), (55, .iload 4, 2), (57, .invokevirtual 357, 3), (60, .istore 5, 2), (62, .iload_n 1, 1), (63, .iload 5, 2), (65, .iadd, 1), (66, .iload_n 2, 1), (67, .if_icmp .gt 28, 3), (70, .aload_n 0, 1), (71, .getfield 62, 3), (74, .aload_n 0, 1), (75, .getfield 113, 3), (78, .iload_n 1, 1), (79, .iaload, 1), (80, .iaload, 1), (81, .aload_n 0, 1), (82, .getfield 13, 3), (85, .iload 4, 2), (87, .iaload, 1), (88, .if_icmp .ne 7, 3), (91, .iconst 1, 1), (92, .goto 4, 3), (95, .iconst 0, 1), (96, .istore 6, 2), (98, .iload 6, 2), (100, .ifCond .eq 59, 3), (103, .aload_n 0, 1), (104, .getfield 62, 3), (107, .aload_n 0, 1), (108, .getfield 113, 3), (111, .iload_n 1, 1), (112, .iconst 1, 1), (113, .iadd, 1), (114, .iaload, 1), (115, .iaload, 1), (116, .aload_n 0, 1), (117, .getfield 16, 3), (120, .iload 4, 2), (122, .iaload, 1), (123, .if_icmp .ne 36, 3), (126, .iload 5, 2), (128, .iconst 2, 1), (129, .if_icmp .eq 26, 3), (132, .aload_n 0, 1), (133, .getfield 62, 3), (136, .aload_n 0, 1), (137, .getfield 113, 3), (140, .iload_n 1, 1), (141, .iconst 2, 1), (142, .iadd, 1), (143, .iaload, 1), (144, .iaload, 1), (145, .aload_n 0, 1), (146, .getfield 19, 3), (149, .iload 4, 2), (151, .iaload, 1), (152, .if_icmp .ne 7, 3), (155, .iconst 1, 1), (156, .goto 4, 3), (159, .iconst 0, 1), (160, .istore 6, 2), (162, .iload 6, 2), (164, .ifCond .eq 8, 3), (167, .iload 4, 2), (169, .goto 4, 3), (172, .iload_n 3, 1), (173, .istore_n 3, 1), (174, .iinc 4 1, 3), (177, .goto (-172), 3), (180, .iload_n 3, 1), (181, .ireturn, 1)]
theorem dt_MO_longest : DT (cM m_MO_longest) tb_MO_longest := by unfold DT; decide +kernel
abbrev a_MO_longest_0 (G : GT)  (v1 : Int) (v2 : Int) (σ : St) (P : Int → St → Prop) : Prop := A G m_MO_longest 0 [(0, O 8), (1, I v1), (2, I v2)] [] σ P
abbrev a_MO_longest_5 (G : GT)  (v1 : Int) (v2 : Int) (v3 : Int) (v4 : Int) (σ : St) (P : Int → St → Prop) : Prop := A G m_MO_longest 5 [(0, O 8), (1, I v1), (2, I v2), (3, I v3), (4, I v4)] [] σ P
set_option maxRecDepth 20000 in
theorem k_MO_longest_0 {G : GT} {σ : St} {P : Int → St → Prop}  {v1 : Int} {v2 : Int}  
    (h : a_MO_longest_5 G v1 v2 (-1) 0 σ P) :
    a_MO_longest_0 G v1 v2 σ P := by
  refine r_iconst (q := 1) (dc dt_MO_longest 0 rfl) rfl rfl ?_
  refine r_istore_n (q := 2) (dc dt_MO_longest 1 rfl) rfl rfl (by decide) rfl ?_
  refine r_iconst (q := 3) (dc dt_MO_longest 2 rfl) rfl rfl ?_
  refine r_istore (q := 5) (dc dt_MO_longest 3 rfl) rfl (by decide) rfl ?_
  exact r_loc [2, 3, 4, 1, 0] rfl h
set_option maxRecDepth 20000 in
theorem k_MO_longest_5 {G : GT} {σ : St} {P : Int → St → Prop}  {v1 : Int} {v2 : Int} {v3 : Int} {v4 : Int}  
    (h : rng v4 ∧ (σ.2.1 8 6 ≤ v4 → rng v3 ∧ P v3 σ) ∧ (v4 < σ.2.1 8 6 → (0 ≤ v4 ∧ v4 < 60) ∧ ((σ.1 89 v4.toNat = 7 → (σ.1 93 v4.toNat ≠ 0 → rng v3 ∧ (v3 < 0 → rng (if 0 ≤ σ.1 92 v4.toNat then (3 : Int) else (2 : Int)) ∧ rng (v1 + (if 0 ≤ σ.1 92 v4.toNat then (3 : Int) else (2 : Int))) ∧ rng v2 ∧ ((v1 + (if 0 ≤ σ.1 92 v4.toNat then (3 : Int) else (2 : Int)) ≤ v2 → (0 ≤ v1 ∧ v1 < 80) ∧ 0 ≤ σ.1 123 v1.toNat ∧ σ.1 123 v1.toNat < 80)) ∧ (v1 + (if 0 ≤ σ.1 92 v4.toNat then (3 : Int) else (2 : Int)) ≤ v2 ∧ σ.1 106 ((σ.1 123 v1.toNat).toNat) = σ.1 90 v4.toNat → (0 ≤ v1 + 1 ∧ v1 + 1 < 80) ∧ (0 ≤ σ.1 123 ((v1 + 1).toNat) ∧ σ.1 123 ((v1 + 1).toNat) < 80) ∧ (σ.1 106 ((σ.1 123 ((v1 + 1).toNat)).toNat) = σ.1 91 v4.toNat → ((if 0 ≤ σ.1 92 v4.toNat then (3 : Int) else (2 : Int)) ≠ 2 → (0 ≤ v1 + 2 ∧ v1 + 2 < 80) ∧ 0 ≤ σ.1 123 ((v1 + 2).toNat) ∧ σ.1 123 ((v1 + 2).toNat) < 80)))) ∧ (0 ≤ v3 → rng (if 0 ≤ σ.1 92 v4.toNat then (3 : Int) else (2 : Int)) ∧ (0 ≤ v3 ∧ v3 < 60) ∧ rng (if 0 ≤ σ.1 92 v3.toNat then (3 : Int) else (2 : Int)) ∧ ((if 0 ≤ σ.1 92 v3.toNat then (3 : Int) else (2 : Int)) < (if 0 ≤ σ.1 92 v4.toNat then (3 : Int) else (2 : Int)) → rng (v1 + (if 0 ≤ σ.1 92 v4.toNat then (3 : Int) else (2 : Int))) ∧ rng v2 ∧ ((v1 + (if 0 ≤ σ.1 92 v4.toNat then (3 : Int) else (2 : Int)) ≤ v2 → (0 ≤ v1 ∧ v1 < 80) ∧ 0 ≤ σ.1 123 v1.toNat ∧ σ.1 123 v1.toNat < 80)) ∧ (v1 + (if 0 ≤ σ.1 92 v4.toNat then (3 : Int) else (2 : Int)) ≤ v2 ∧ σ.1 106 ((σ.1 123 v1.toNat).toNat) = σ.1 90 v4.toNat → (0 ≤ v1 + 1 ∧ v1 + 1 < 80) ∧ (0 ≤ σ.1 123 ((v1 + 1).toNat) ∧ σ.1 123 ((v1 + 1).toNat) < 80) ∧ (σ.1 106 ((σ.1 123 ((v1 + 1).toNat)).toNat) = σ.1 91 v4.toNat → ((if 0 ≤ σ.1 92 v4.toNat then (3 : Int) else (2 : Int)) ≠ 2 → (0 ≤ v1 + 2 ∧ v1 + 2 < 80) ∧ 0 ≤ σ.1 123 ((v1 + 2).toNat) ∧ σ.1 123 ((v1 + 2).toNat) < 80)))))))) ∧ a_MO_longest_5 G v1 v2 (if σ.1 89 v4.toNat ≠ 7 then v3 else if σ.1 93 v4.toNat = 0 then v3 else if v3 < 0 then (if ¬ ((v1 + (if 0 ≤ σ.1 92 v4.toNat then (3 : Int) else (2 : Int)) ≤ v2 ∧ σ.1 106 ((σ.1 123 v1.toNat).toNat) = σ.1 90 v4.toNat) ∧ (σ.1 106 ((σ.1 123 ((v1 + 1).toNat)).toNat) = σ.1 91 v4.toNat ∧ ((if 0 ≤ σ.1 92 v4.toNat then (3 : Int) else (2 : Int)) = 2 ∨ σ.1 106 ((σ.1 123 ((v1 + 2).toNat)).toNat) = σ.1 92 v4.toNat))) then v3 else v4) else if (if 0 ≤ σ.1 92 v4.toNat then (3 : Int) else (2 : Int)) ≤ (if 0 ≤ σ.1 92 v3.toNat then (3 : Int) else (2 : Int)) then v3 else if ¬ ((v1 + (if 0 ≤ σ.1 92 v4.toNat then (3 : Int) else (2 : Int)) ≤ v2 ∧ σ.1 106 ((σ.1 123 v1.toNat).toNat) = σ.1 90 v4.toNat) ∧ (σ.1 106 ((σ.1 123 ((v1 + 1).toNat)).toNat) = σ.1 91 v4.toNat ∧ ((if 0 ≤ σ.1 92 v4.toNat then (3 : Int) else (2 : Int)) = 2 ∨ σ.1 106 ((σ.1 123 ((v1 + 2).toNat)).toNat) = σ.1 92 v4.toNat))) then v3 else v4) (v4 + 1) σ P)) :
    a_MO_longest_5 G v1 v2 v3 v4 σ P := by
  refine r_iload (q := 7) (dc dt_MO_longest 4 rfl) rfl 4 rfl ?_
  refine r_aload_n (q := 8) (dc dt_MO_longest 5 rfl) rfl rfl 0 rfl ?_
  refine r_getI (q := 11) (v := σ.2.1 8 6) fl_MO_249 (dc dt_MO_longest 6 rfl) rfl ly8 rfl rfl (fun g1 => ?_)
  obtain ⟨o2, h⟩ := h
  refine r_icmp_ge (q := 14) (t := 180) (dc dt_MO_longest 7 rfl) rfl (by decide) o2 g1 (fun q_ => ?_) (fun q_ => ?_)
  · have h := h.1 q_
    refine r_iload_n (q := 181) (dc dt_MO_longest 98 rfl) rfl rfl 3 rfl ?_
    obtain ⟨o49, h⟩ := h
    exact r_iret rfl (dc dt_MO_longest 99 rfl) o49 h
  · have h := h.2 q_
    refine r_aload_n (q := 15) (dc dt_MO_longest 8 rfl) rfl rfl 0 rfl ?_
    refine r_getO (q := 18) (v := 89) fl_MO_7 (dc dt_MO_longest 9 rfl) rfl ly8 rfl ?_
    refine r_iload (q := 20) (dc dt_MO_longest 10 rfl) rfl 4 rfl ?_
    obtain ⟨o50, h⟩ := h
    refine r_iald (q := 21) (v := σ.1 89 v4.toNat) (dc dt_MO_longest 11 rfl) rfl ly89 o50 rfl (fun g51 => ?_)
    refine r_bipush (q := 23) (dc dt_MO_longest 12 rfl) rfl (by decide) ?_
    obtain ⟨ho, h⟩ := h
    have hJ : ∀ (w_0 : Int), w_0 = (if σ.1 89 v4.toNat ≠ 7 then v3 else if σ.1 93 v4.toNat = 0 then v3 else if v3 < 0 then (if ¬ ((v1 + (if 0 ≤ σ.1 92 v4.toNat then (3 : Int) else (2 : Int)) ≤ v2 ∧ σ.1 106 ((σ.1 123 v1.toNat).toNat) = σ.1 90 v4.toNat) ∧ (σ.1 106 ((σ.1 123 ((v1 + 1).toNat)).toNat) = σ.1 91 v4.toNat ∧ ((if 0 ≤ σ.1 92 v4.toNat then (3 : Int) else (2 : Int)) = 2 ∨ σ.1 106 ((σ.1 123 ((v1 + 2).toNat)).toNat) = σ.1 92 v4.toNat))) then v3 else v4) else if (if 0 ≤ σ.1 92 v4.toNat then (3 : Int) else (2 : Int)) ≤ (if 0 ≤ σ.1 92 v3.toNat then (3 : Int) else (2 : Int)) then v3 else if ¬ ((v1 + (if 0 ≤ σ.1 92 v4.toNat then (3 : Int) else (2 : Int)) ≤ v2 ∧ σ.1 106 ((σ.1 123 v1.toNat).toNat) = σ.1 90 v4.toNat) ∧ (σ.1 106 ((σ.1 123 ((v1 + 1).toNat)).toNat) = σ.1 91 v4.toNat ∧ ((if 0 ≤ σ.1 92 v4.toNat then (3 : Int) else (2 : Int)) = 2 ∨ σ.1 106 ((σ.1 123 ((v1 + 2).toNat)).toNat) = σ.1 92 v4.toNat))) then v3 else v4) → A G m_MO_longest 174 [(0, O 8), (1, I v1), (2, I v2), (3, I w_0), (4, I v4)] [] σ P := by
      intro w_0 z_0
      subst z_0
      refine r_iinc (q := 177) (k := 4) (dc dt_MO_longest 96 rfl) rfl rfl (by decide) rfl ?_
      refine r_goto (q := 5) (dc dt_MO_longest 97 rfl) (by decide) ?_
      exact r_loc [1, 2, 3, 4, 0] rfl h
    clear h
    refine r_icmp_ne (q := 26) (t := 174) (dc dt_MO_longest 13 rfl) rfl (by decide) g51 (⟨by decide, by decide⟩ : rng 7) (fun q_ => ?_) (fun q_ => ?_)
    · have q96 := q_
      exact (hJ v3 ((if_pos (by first | omega | grind)).symm))
    · have q96 := q_
      have ho := ho q_
      refine r_aload_n (q := 27) (dc dt_MO_longest 14 rfl) rfl rfl 0 rfl ?_
      refine r_getO (q := 30) (v := 93) fl_MO_22 (dc dt_MO_longest 15 rfl) rfl ly8 rfl ?_
      refine r_iload (q := 32) (dc dt_MO_longest 16 rfl) rfl 4 rfl ?_
      refine r_zald (q := 33) (v := σ.1 93 v4.toNat) (dc dt_MO_longest 17 rfl) rfl ly93 o50 rfl (fun g52 => ?_)
      refine r_if_eq (q := 36) (t := 174) (dc dt_MO_longest 18 rfl) rfl (by decide) g52 (fun q_ => ?_) (fun q_ => ?_)
      · have q97 := q_
        exact (hJ v3 (((if_neg (by first | omega | grind)).trans (if_pos (by first | omega | grind))).symm))
      · have q97 := q_
        have ho := ho q_
        refine r_iload_n (q := 37) (dc dt_MO_longest 19 rfl) rfl rfl 3 rfl ?_
        obtain ⟨o53, ho⟩ := ho
        refine r_if_lt (q := 40) (t := 54) (dc dt_MO_longest 20 rfl) rfl (by decide) o53 (fun q_ => ?_) (fun q_ => ?_)
        · have q98 := q_
          have ho := ho.1 q_
          refine r_aload_n (q := 55) (dc dt_MO_longest 28 rfl) rfl rfl 0 rfl ?_
          refine r_iload (q := 57) (dc dt_MO_longest 29 rfl) rfl 4 rfl ?_
          obtain ⟨o54, ho⟩ := ho
          refine r_callVi (q := 60) mk_MO_howManyOf lm_MO_357 (RMO.of rfl) rfl (dc dt_MO_longest 30 rfl) rfl ly8 [I v4] [] rfl rfl (Nat.le_of_ble_eq_true rfl) (sp_MO_howManyOf o50 o54) (fun _ _ g55 z => ?_)
          obtain ⟨z, w⟩ := z
          subst z
          replace w := w.symm
          subst w
          refine r_istore (q := 62) (dc dt_MO_longest 31 rfl) rfl (by decide) rfl ?_
          refine r_iload_n (q := 63) (dc dt_MO_longest 32 rfl) rfl rfl 2 rfl ?_
          refine r_iload (q := 65) (dc dt_MO_longest 33 rfl) rfl 0 rfl ?_
          refine r_iadd (q := 66) (dc dt_MO_longest 34 rfl) rfl ?_
          refine r_iload_n (q := 67) (dc dt_MO_longest 35 rfl) rfl rfl 3 rfl ?_
          obtain ⟨o56, ho⟩ := ho
          obtain ⟨o57, ho⟩ := ho
          obtain ⟨hoA, ho⟩ := ho
          have hK : ∀ (w_0 : Int), w_0 = (if v1 + (if 0 ≤ σ.1 92 v4.toNat then (3 : Int) else (2 : Int)) ≤ v2 ∧ σ.1 106 ((σ.1 123 v1.toNat).toNat) = σ.1 90 v4.toNat then 1 else 0) → A G m_MO_longest 96 [(5, I (if 0 ≤ σ.1 92 v4.toNat then (3 : Int) else (2 : Int))), (0, O 8), (1, I v1), (2, I v2), (3, I v3), (4, I v4)] [I w_0] σ P := by
            intro w_0 z_0
            subst z_0
            refine r_istore (q := 98) (dc dt_MO_longest 52 rfl) rfl (by decide) rfl ?_
            refine r_iload (q := 100) (dc dt_MO_longest 53 rfl) rfl 0 rfl ?_
            have hoA := ho
            have hK : ∀ (w_0 : Int), w_0 = (if (v1 + (if 0 ≤ σ.1 92 v4.toNat then (3 : Int) else (2 : Int)) ≤ v2 ∧ σ.1 106 ((σ.1 123 v1.toNat).toNat) = σ.1 90 v4.toNat) ∧ (σ.1 106 ((σ.1 123 ((v1 + 1).toNat)).toNat) = σ.1 91 v4.toNat ∧ ((if 0 ≤ σ.1 92 v4.toNat then (3 : Int) else (2 : Int)) = 2 ∨ σ.1 106 ((σ.1 123 ((v1 + 2).toNat)).toNat) = σ.1 92 v4.toNat)) then 1 else 0) → A G m_MO_longest 160 [(6, I (if v1 + (if 0 ≤ σ.1 92 v4.toNat then (3 : Int) else (2 : Int)) ≤ v2 ∧ σ.1 106 ((σ.1 123 v1.toNat).toNat) = σ.1 90 v4.toNat then 1 else 0)), (5, I (if 0 ≤ σ.1 92 v4.toNat then (3 : Int) else (2 : Int))), (0, O 8), (1, I v1), (2, I v2), (3, I v3), (4, I v4)] [I w_0] σ P := by
              intro w_0 z_0
              subst z_0
              refine r_istore (q := 162) (dc dt_MO_longest 89 rfl) rfl (by decide) rfl ?_
              refine r_iload (q := 164) (dc dt_MO_longest 90 rfl) rfl 0 rfl ?_
              have hK : ∀ (w_0 : Int), w_0 = (if ¬ ((v1 + (if 0 ≤ σ.1 92 v4.toNat then (3 : Int) else (2 : Int)) ≤ v2 ∧ σ.1 106 ((σ.1 123 v1.toNat).toNat) = σ.1 90 v4.toNat) ∧ (σ.1 106 ((σ.1 123 ((v1 + 1).toNat)).toNat) = σ.1 91 v4.toNat ∧ ((if 0 ≤ σ.1 92 v4.toNat then (3 : Int) else (2 : Int)) = 2 ∨ σ.1 106 ((σ.1 123 ((v1 + 2).toNat)).toNat) = σ.1 92 v4.toNat))) then v3 else v4) → A G m_MO_longest 173 [(6, I (if (v1 + (if 0 ≤ σ.1 92 v4.toNat then (3 : Int) else (2 : Int)) ≤ v2 ∧ σ.1 106 ((σ.1 123 v1.toNat).toNat) = σ.1 90 v4.toNat) ∧ (σ.1 106 ((σ.1 123 ((v1 + 1).toNat)).toNat) = σ.1 91 v4.toNat ∧ ((if 0 ≤ σ.1 92 v4.toNat then (3 : Int) else (2 : Int)) = 2 ∨ σ.1 106 ((σ.1 123 ((v1 + 2).toNat)).toNat) = σ.1 92 v4.toNat)) then 1 else 0)), (5, I (if 0 ≤ σ.1 92 v4.toNat then (3 : Int) else (2 : Int))), (0, O 8), (1, I v1), (2, I v2), (3, I v3), (4, I v4)] [I w_0] σ P := by
                intro w_0 z_0
                subst z_0
                refine r_istore_n (q := 174) (dc dt_MO_longest 95 rfl) rfl rfl (by decide) rfl ?_
                exact r_loc [3, 4, 5, 0, 6] rfl (hJ (if ¬ ((v1 + (if 0 ≤ σ.1 92 v4.toNat then (3 : Int) else (2 : Int)) ≤ v2 ∧ σ.1 106 ((σ.1 123 v1.toNat).toNat) = σ.1 90 v4.toNat) ∧ (σ.1 106 ((σ.1 123 ((v1 + 1).toNat)).toNat) = σ.1 91 v4.toNat ∧ ((if 0 ≤ σ.1 92 v4.toNat then (3 : Int) else (2 : Int)) = 2 ∨ σ.1 106 ((σ.1 123 ((v1 + 2).toNat)).toNat) = σ.1 92 v4.toNat))) then v3 else v4) ((((if_neg (by first | omega | grind)).trans (if_neg (by first | omega | grind))).trans (if_pos (by first | omega | grind))).symm))
              clear hJ
              have hJ := hK
              refine r_ifb_eq (q := 167) (t := 172) (dc dt_MO_longest 91 rfl) rfl (by decide) (fun q_ => ?_) (fun q_ => ?_)
              · have q99 := q_
                refine r_iload_n (q := 173) (dc dt_MO_longest 94 rfl) rfl rfl 5 rfl ?_
                exact (hJ v3 ((if_pos (by first | omega | grind)).symm))
              · have q99 := q_
                refine r_iload (q := 169) (dc dt_MO_longest 92 rfl) rfl 6 rfl ?_
                refine r_goto (q := 173) (dc dt_MO_longest 93 rfl) (by decide) ?_
                exact (hJ v4 ((if_neg (by first | omega | grind)).symm))
            clear hJ
            have hJ := hK
            have ho := hoA
            refine r_ifb_eq (q := 103) (t := 159) (dc dt_MO_longest 54 rfl) rfl (by decide) (fun q_ => ?_) (fun q_ => ?_)
            · have q100 := q_
              refine r_iconst (q := 160) (dc dt_MO_longest 88 rfl) rfl rfl ?_
              exact (hJ 0 ((if_neg (by first | omega | grind)).symm))
            · have q100 := q_
              have ho := ho q_
              refine r_aload_n (q := 104) (dc dt_MO_longest 55 rfl) rfl rfl 2 rfl ?_
              refine r_getO (q := 107) (v := 106) fl_MO_62 (dc dt_MO_longest 56 rfl) rfl ly8 rfl ?_
              refine r_aload_n (q := 108) (dc dt_MO_longest 57 rfl) rfl rfl 2 rfl ?_
              refine r_getO (q := 111) (v := 123) fl_MO_113 (dc dt_MO_longest 58 rfl) rfl ly8 rfl ?_
              refine r_iload_n (q := 112) (dc dt_MO_longest 59 rfl) rfl rfl 3 rfl ?_
              refine r_iconst (q := 113) (dc dt_MO_longest 60 rfl) rfl rfl ?_
              refine r_iadd (q := 114) (dc dt_MO_longest 61 rfl) rfl ?_
              obtain ⟨o63, ho⟩ := ho
              refine r_iald (q := 115) (v := σ.1 123 ((v1 + 1).toNat)) (dc dt_MO_longest 62 rfl) rfl ly123 o63 rfl (fun g64 => ?_)
              obtain ⟨o65, ho⟩ := ho
              refine r_iald (q := 116) (v := σ.1 106 ((σ.1 123 ((v1 + 1).toNat)).toNat)) (dc dt_MO_longest 63 rfl) rfl ly106 o65 rfl (fun g66 => ?_)
              refine r_aload_n (q := 117) (dc dt_MO_longest 64 rfl) rfl rfl 2 rfl ?_
              refine r_getO (q := 120) (v := 91) fl_MO_16 (dc dt_MO_longest 65 rfl) rfl ly8 rfl ?_
              refine r_iload (q := 122) (dc dt_MO_longest 66 rfl) rfl 6 rfl ?_
              refine r_iald (q := 123) (v := σ.1 91 v4.toNat) (dc dt_MO_longest 67 rfl) rfl ly91 o50 rfl (fun g67 => ?_)
              refine r_icmp_ne (q := 126) (t := 159) (dc dt_MO_longest 68 rfl) rfl (by decide) g66 g67 (fun q_ => ?_) (fun q_ => ?_)
              · have q101 := q_
                refine r_iconst (q := 160) (dc dt_MO_longest 88 rfl) rfl rfl ?_
                exact (hJ 0 ((if_neg (by first | omega | grind)).symm))
              · have q101 := q_
                have ho := ho q_
                refine r_iload (q := 128) (dc dt_MO_longest 69 rfl) rfl 1 rfl ?_
                refine r_iconst (q := 129) (dc dt_MO_longest 70 rfl) rfl rfl ?_
                refine r_icmp_eq (q := 132) (t := 155) (dc dt_MO_longest 71 rfl) rfl (by decide) g55 (⟨by decide, by decide⟩ : rng 2) (fun q_ => ?_) (fun q_ => ?_)
                · have q102 := q_
                  refine r_iconst (q := 156) (dc dt_MO_longest 86 rfl) rfl rfl ?_
                  refine r_goto (q := 160) (dc dt_MO_longest 87 rfl) (by decide) ?_
                  exact (hJ 1 ((if_pos (by first | omega | grind)).symm))
                · have q102 := q_
                  have ho := ho q_
                  refine r_aload_n (q := 133) (dc dt_MO_longest 72 rfl) rfl rfl 2 rfl ?_
                  refine r_getO (q := 136) (v := 106) fl_MO_62 (dc dt_MO_longest 73 rfl) rfl ly8 rfl ?_
                  refine r_aload_n (q := 137) (dc dt_MO_longest 74 rfl) rfl rfl 2 rfl ?_
                  refine r_getO (q := 140) (v := 123) fl_MO_113 (dc dt_MO_longest 75 rfl) rfl ly8 rfl ?_
                  refine r_iload_n (q := 141) (dc dt_MO_longest 76 rfl) rfl rfl 3 rfl ?_
                  refine r_iconst (q := 142) (dc dt_MO_longest 77 rfl) rfl rfl ?_
                  refine r_iadd (q := 143) (dc dt_MO_longest 78 rfl) rfl ?_
                  obtain ⟨o68, ho⟩ := ho
                  refine r_iald (q := 144) (v := σ.1 123 ((v1 + 2).toNat)) (dc dt_MO_longest 79 rfl) rfl ly123 o68 rfl (fun g69 => ?_)
                  have o70 := ho
                  refine r_iald (q := 145) (v := σ.1 106 ((σ.1 123 ((v1 + 2).toNat)).toNat)) (dc dt_MO_longest 80 rfl) rfl ly106 o70 rfl (fun g71 => ?_)
                  refine r_aload_n (q := 146) (dc dt_MO_longest 81 rfl) rfl rfl 2 rfl ?_
                  refine r_getO (q := 149) (v := 92) fl_MO_19 (dc dt_MO_longest 82 rfl) rfl ly8 rfl ?_
                  refine r_iload (q := 151) (dc dt_MO_longest 83 rfl) rfl 6 rfl ?_
                  refine r_iald (q := 152) (v := σ.1 92 v4.toNat) (dc dt_MO_longest 84 rfl) rfl ly92 o50 rfl (fun g72 => ?_)
                  refine r_icmp_ne (q := 155) (t := 159) (dc dt_MO_longest 85 rfl) rfl (by decide) g71 g72 (fun q_ => ?_) (fun q_ => ?_)
                  · have q103 := q_
                    refine r_iconst (q := 160) (dc dt_MO_longest 88 rfl) rfl rfl ?_
                    exact (hJ 0 ((if_neg (by first | omega | grind)).symm))
                  · have q103 := q_
                    refine r_iconst (q := 156) (dc dt_MO_longest 86 rfl) rfl rfl ?_
                    refine r_goto (q := 160) (dc dt_MO_longest 87 rfl) (by decide) ?_
                    exact (hJ 1 ((if_pos (by first | omega | grind)).symm))
          clear hJ
          have hJ := hK
          have ho := hoA
          refine r_icmp_gt (q := 70) (t := 95) (dc dt_MO_longest 36 rfl) rfl (by decide) o56 o57 (fun q_ => ?_) (fun q_ => ?_)
          · have q104 := q_
            refine r_iconst (q := 96) (dc dt_MO_longest 51 rfl) rfl rfl ?_
            exact (hJ 0 ((if_neg (by first | omega | grind)).symm))
          · have q104 := q_
            have ho := ho q_
            refine r_aload_n (q := 71) (dc dt_MO_longest 37 rfl) rfl rfl 1 rfl ?_
            refine r_getO (q := 74) (v := 106) fl_MO_62 (dc dt_MO_longest 38 rfl) rfl ly8 rfl ?_
            refine r_aload_n (q := 75) (dc dt_MO_longest 39 rfl) rfl rfl 1 rfl ?_
            refine r_getO (q := 78) (v := 123) fl_MO_113 (dc dt_MO_longest 40 rfl) rfl ly8 rfl ?_
            refine r_iload_n (q := 79) (dc dt_MO_longest 41 rfl) rfl rfl 2 rfl ?_
            obtain ⟨o58, ho⟩ := ho
            refine r_iald (q := 80) (v := σ.1 123 v1.toNat) (dc dt_MO_longest 42 rfl) rfl ly123 o58 rfl (fun g59 => ?_)
            have o60 := ho
            refine r_iald (q := 81) (v := σ.1 106 ((σ.1 123 v1.toNat).toNat)) (dc dt_MO_longest 43 rfl) rfl ly106 o60 rfl (fun g61 => ?_)
            refine r_aload_n (q := 82) (dc dt_MO_longest 44 rfl) rfl rfl 1 rfl ?_
            refine r_getO (q := 85) (v := 90) fl_MO_13 (dc dt_MO_longest 45 rfl) rfl ly8 rfl ?_
            refine r_iload (q := 87) (dc dt_MO_longest 46 rfl) rfl 5 rfl ?_
            refine r_iald (q := 88) (v := σ.1 90 v4.toNat) (dc dt_MO_longest 47 rfl) rfl ly90 o50 rfl (fun g62 => ?_)
            refine r_icmp_ne (q := 91) (t := 95) (dc dt_MO_longest 48 rfl) rfl (by decide) g61 g62 (fun q_ => ?_) (fun q_ => ?_)
            · have q105 := q_
              refine r_iconst (q := 96) (dc dt_MO_longest 51 rfl) rfl rfl ?_
              exact (hJ 0 ((if_neg (by first | omega | grind)).symm))
            · have q105 := q_
              refine r_iconst (q := 92) (dc dt_MO_longest 49 rfl) rfl rfl ?_
              refine r_goto (q := 96) (dc dt_MO_longest 50 rfl) (by decide) ?_
              exact (hJ 1 ((if_pos (by first | omega | grind)).symm))
        · have q98 := q_
          have ho := ho.2 q_
          refine r_aload_n (q := 41) (dc dt_MO_longest 21 rfl) rfl rfl 0 rfl ?_
          refine r_iload (q := 43) (dc dt_MO_longest 22 rfl) rfl 4 rfl ?_
          obtain ⟨o73, ho⟩ := ho
          refine r_callVi (q := 46) mk_MO_howManyOf lm_MO_357 (RMO.of rfl) rfl (dc dt_MO_longest 23 rfl) rfl ly8 [I v4] [] rfl rfl (Nat.le_of_ble_eq_true rfl) (sp_MO_howManyOf o50 o73) (fun _ _ g74 z => ?_)
          obtain ⟨z, w⟩ := z
          subst z
          replace w := w.symm
          subst w
          refine r_aload_n (q := 47) (dc dt_MO_longest 24 rfl) rfl rfl 0 rfl ?_
          refine r_iload_n (q := 48) (dc dt_MO_longest 25 rfl) rfl rfl 3 rfl ?_
          obtain ⟨o75, ho⟩ := ho
          obtain ⟨o76, ho⟩ := ho
          refine r_callVi (q := 51) mk_MO_howManyOf lm_MO_357 (RMO.of rfl) rfl (dc dt_MO_longest 26 rfl) rfl ly8 [I v3] [I (if 0 ≤ σ.1 92 v4.toNat then (3 : Int) else (2 : Int))] rfl rfl (Nat.le_of_ble_eq_true rfl) (sp_MO_howManyOf o75 o76) (fun _ _ g77 z => ?_)
          obtain ⟨z, w⟩ := z
          subst z
          replace w := w.symm
          subst w
          refine r_icmp_le (q := 54) (t := 174) (dc dt_MO_longest 27 rfl) rfl (by decide) g74 g77 (fun q_ => ?_) (fun q_ => ?_)
          · have q106 := q_
            exact (hJ v3 (((((if_neg (by first | omega | grind)).trans (if_neg (by first | omega | grind))).trans (if_neg (by first | omega | grind))).trans (if_pos (by first | omega | grind))).symm))
          · have q106 := q_
            have ho := ho q_
            refine r_aload_n (q := 55) (dc dt_MO_longest 28 rfl) rfl rfl 0 rfl ?_
            refine r_iload (q := 57) (dc dt_MO_longest 29 rfl) rfl 4 rfl ?_
            refine r_callVi (q := 60) mk_MO_howManyOf lm_MO_357 (RMO.of rfl) rfl (dc dt_MO_longest 30 rfl) rfl ly8 [I v4] [] rfl rfl (Nat.le_of_ble_eq_true rfl) (sp_MO_howManyOf o50 o73) (fun _ _ g78 z => ?_)
            obtain ⟨z, w⟩ := z
            subst z
            replace w := w.symm
            subst w
            refine r_istore (q := 62) (dc dt_MO_longest 31 rfl) rfl (by decide) rfl ?_
            refine r_iload_n (q := 63) (dc dt_MO_longest 32 rfl) rfl rfl 2 rfl ?_
            refine r_iload (q := 65) (dc dt_MO_longest 33 rfl) rfl 0 rfl ?_
            refine r_iadd (q := 66) (dc dt_MO_longest 34 rfl) rfl ?_
            refine r_iload_n (q := 67) (dc dt_MO_longest 35 rfl) rfl rfl 3 rfl ?_
            obtain ⟨o79, ho⟩ := ho
            obtain ⟨o80, ho⟩ := ho
            obtain ⟨hoA, ho⟩ := ho
            have hK : ∀ (w_0 : Int), w_0 = (if v1 + (if 0 ≤ σ.1 92 v4.toNat then (3 : Int) else (2 : Int)) ≤ v2 ∧ σ.1 106 ((σ.1 123 v1.toNat).toNat) = σ.1 90 v4.toNat then 1 else 0) → A G m_MO_longest 96 [(5, I (if 0 ≤ σ.1 92 v4.toNat then (3 : Int) else (2 : Int))), (0, O 8), (1, I v1), (2, I v2), (3, I v3), (4, I v4)] [I w_0] σ P := by
              intro w_0 z_0
              subst z_0
              refine r_istore (q := 98) (dc dt_MO_longest 52 rfl) rfl (by decide) rfl ?_
              refine r_iload (q := 100) (dc dt_MO_longest 53 rfl) rfl 0 rfl ?_
              have hoA := ho
              have hK : ∀ (w_0 : Int), w_0 = (if (v1 + (if 0 ≤ σ.1 92 v4.toNat then (3 : Int) else (2 : Int)) ≤ v2 ∧ σ.1 106 ((σ.1 123 v1.toNat).toNat) = σ.1 90 v4.toNat) ∧ (σ.1 106 ((σ.1 123 ((v1 + 1).toNat)).toNat) = σ.1 91 v4.toNat ∧ ((if 0 ≤ σ.1 92 v4.toNat then (3 : Int) else (2 : Int)) = 2 ∨ σ.1 106 ((σ.1 123 ((v1 + 2).toNat)).toNat) = σ.1 92 v4.toNat)) then 1 else 0) → A G m_MO_longest 160 [(6, I (if v1 + (if 0 ≤ σ.1 92 v4.toNat then (3 : Int) else (2 : Int)) ≤ v2 ∧ σ.1 106 ((σ.1 123 v1.toNat).toNat) = σ.1 90 v4.toNat then 1 else 0)), (5, I (if 0 ≤ σ.1 92 v4.toNat then (3 : Int) else (2 : Int))), (0, O 8), (1, I v1), (2, I v2), (3, I v3), (4, I v4)] [I w_0] σ P := by
                intro w_0 z_0
                subst z_0
                refine r_istore (q := 162) (dc dt_MO_longest 89 rfl) rfl (by decide) rfl ?_
                refine r_iload (q := 164) (dc dt_MO_longest 90 rfl) rfl 0 rfl ?_
                have hK : ∀ (w_0 : Int), w_0 = (if ¬ ((v1 + (if 0 ≤ σ.1 92 v4.toNat then (3 : Int) else (2 : Int)) ≤ v2 ∧ σ.1 106 ((σ.1 123 v1.toNat).toNat) = σ.1 90 v4.toNat) ∧ (σ.1 106 ((σ.1 123 ((v1 + 1).toNat)).toNat) = σ.1 91 v4.toNat ∧ ((if 0 ≤ σ.1 92 v4.toNat then (3 : Int) else (2 : Int)) = 2 ∨ σ.1 106 ((σ.1 123 ((v1 + 2).toNat)).toNat) = σ.1 92 v4.toNat))) then v3 else v4) → A G m_MO_longest 173 [(6, I (if (v1 + (if 0 ≤ σ.1 92 v4.toNat then (3 : Int) else (2 : Int)) ≤ v2 ∧ σ.1 106 ((σ.1 123 v1.toNat).toNat) = σ.1 90 v4.toNat) ∧ (σ.1 106 ((σ.1 123 ((v1 + 1).toNat)).toNat) = σ.1 91 v4.toNat ∧ ((if 0 ≤ σ.1 92 v4.toNat then (3 : Int) else (2 : Int)) = 2 ∨ σ.1 106 ((σ.1 123 ((v1 + 2).toNat)).toNat) = σ.1 92 v4.toNat)) then 1 else 0)), (5, I (if 0 ≤ σ.1 92 v4.toNat then (3 : Int) else (2 : Int))), (0, O 8), (1, I v1), (2, I v2), (3, I v3), (4, I v4)] [I w_0] σ P := by
                  intro w_0 z_0
                  subst z_0
                  refine r_istore_n (q := 174) (dc dt_MO_longest 95 rfl) rfl rfl (by decide) rfl ?_
                  exact r_loc [3, 4, 5, 0, 6] rfl (hJ (if ¬ ((v1 + (if 0 ≤ σ.1 92 v4.toNat then (3 : Int) else (2 : Int)) ≤ v2 ∧ σ.1 106 ((σ.1 123 v1.toNat).toNat) = σ.1 90 v4.toNat) ∧ (σ.1 106 ((σ.1 123 ((v1 + 1).toNat)).toNat) = σ.1 91 v4.toNat ∧ ((if 0 ≤ σ.1 92 v4.toNat then (3 : Int) else (2 : Int)) = 2 ∨ σ.1 106 ((σ.1 123 ((v1 + 2).toNat)).toNat) = σ.1 92 v4.toNat))) then v3 else v4) (((((if_neg (by first | omega | grind)).trans (if_neg (by first | omega | grind))).trans (if_neg (by first | omega | grind))).trans (if_neg (by first | omega | grind))).symm))
                clear hJ
                have hJ := hK
                refine r_ifb_eq (q := 167) (t := 172) (dc dt_MO_longest 91 rfl) rfl (by decide) (fun q_ => ?_) (fun q_ => ?_)
                · have q107 := q_
                  refine r_iload_n (q := 173) (dc dt_MO_longest 94 rfl) rfl rfl 5 rfl ?_
                  exact (hJ v3 ((if_pos (by first | omega | grind)).symm))
                · have q107 := q_
                  refine r_iload (q := 169) (dc dt_MO_longest 92 rfl) rfl 6 rfl ?_
                  refine r_goto (q := 173) (dc dt_MO_longest 93 rfl) (by decide) ?_
                  exact (hJ v4 ((if_neg (by first | omega | grind)).symm))
              clear hJ
              have hJ := hK
              have ho := hoA
              refine r_ifb_eq (q := 103) (t := 159) (dc dt_MO_longest 54 rfl) rfl (by decide) (fun q_ => ?_) (fun q_ => ?_)
              · have q108 := q_
                refine r_iconst (q := 160) (dc dt_MO_longest 88 rfl) rfl rfl ?_
                exact (hJ 0 ((if_neg (by first | omega | grind)).symm))
              · have q108 := q_
                have ho := ho q_
                refine r_aload_n (q := 104) (dc dt_MO_longest 55 rfl) rfl rfl 2 rfl ?_
                refine r_getO (q := 107) (v := 106) fl_MO_62 (dc dt_MO_longest 56 rfl) rfl ly8 rfl ?_
                refine r_aload_n (q := 108) (dc dt_MO_longest 57 rfl) rfl rfl 2 rfl ?_
                refine r_getO (q := 111) (v := 123) fl_MO_113 (dc dt_MO_longest 58 rfl) rfl ly8 rfl ?_
                refine r_iload_n (q := 112) (dc dt_MO_longest 59 rfl) rfl rfl 3 rfl ?_
                refine r_iconst (q := 113) (dc dt_MO_longest 60 rfl) rfl rfl ?_
                refine r_iadd (q := 114) (dc dt_MO_longest 61 rfl) rfl ?_
                obtain ⟨o86, ho⟩ := ho
                refine r_iald (q := 115) (v := σ.1 123 ((v1 + 1).toNat)) (dc dt_MO_longest 62 rfl) rfl ly123 o86 rfl (fun g87 => ?_)
                obtain ⟨o88, ho⟩ := ho
                refine r_iald (q := 116) (v := σ.1 106 ((σ.1 123 ((v1 + 1).toNat)).toNat)) (dc dt_MO_longest 63 rfl) rfl ly106 o88 rfl (fun g89 => ?_)
                refine r_aload_n (q := 117) (dc dt_MO_longest 64 rfl) rfl rfl 2 rfl ?_
                refine r_getO (q := 120) (v := 91) fl_MO_16 (dc dt_MO_longest 65 rfl) rfl ly8 rfl ?_
                refine r_iload (q := 122) (dc dt_MO_longest 66 rfl) rfl 6 rfl ?_
                refine r_iald (q := 123) (v := σ.1 91 v4.toNat) (dc dt_MO_longest 67 rfl) rfl ly91 o50 rfl (fun g90 => ?_)
                refine r_icmp_ne (q := 126) (t := 159) (dc dt_MO_longest 68 rfl) rfl (by decide) g89 g90 (fun q_ => ?_) (fun q_ => ?_)
                · have q109 := q_
                  refine r_iconst (q := 160) (dc dt_MO_longest 88 rfl) rfl rfl ?_
                  exact (hJ 0 ((if_neg (by first | omega | grind)).symm))
                · have q109 := q_
                  have ho := ho q_
                  refine r_iload (q := 128) (dc dt_MO_longest 69 rfl) rfl 1 rfl ?_
                  refine r_iconst (q := 129) (dc dt_MO_longest 70 rfl) rfl rfl ?_
                  refine r_icmp_eq (q := 132) (t := 155) (dc dt_MO_longest 71 rfl) rfl (by decide) g78 (⟨by decide, by decide⟩ : rng 2) (fun q_ => ?_) (fun q_ => ?_)
                  · have q110 := q_
                    refine r_iconst (q := 156) (dc dt_MO_longest 86 rfl) rfl rfl ?_
                    refine r_goto (q := 160) (dc dt_MO_longest 87 rfl) (by decide) ?_
                    exact (hJ 1 ((if_pos (by first | omega | grind)).symm))
                  · have q110 := q_
                    have ho := ho q_
                    refine r_aload_n (q := 133) (dc dt_MO_longest 72 rfl) rfl rfl 2 rfl ?_
                    refine r_getO (q := 136) (v := 106) fl_MO_62 (dc dt_MO_longest 73 rfl) rfl ly8 rfl ?_
                    refine r_aload_n (q := 137) (dc dt_MO_longest 74 rfl) rfl rfl 2 rfl ?_
                    refine r_getO (q := 140) (v := 123) fl_MO_113 (dc dt_MO_longest 75 rfl) rfl ly8 rfl ?_
                    refine r_iload_n (q := 141) (dc dt_MO_longest 76 rfl) rfl rfl 3 rfl ?_
                    refine r_iconst (q := 142) (dc dt_MO_longest 77 rfl) rfl rfl ?_
                    refine r_iadd (q := 143) (dc dt_MO_longest 78 rfl) rfl ?_
                    obtain ⟨o91, ho⟩ := ho
                    refine r_iald (q := 144) (v := σ.1 123 ((v1 + 2).toNat)) (dc dt_MO_longest 79 rfl) rfl ly123 o91 rfl (fun g92 => ?_)
                    have o93 := ho
                    refine r_iald (q := 145) (v := σ.1 106 ((σ.1 123 ((v1 + 2).toNat)).toNat)) (dc dt_MO_longest 80 rfl) rfl ly106 o93 rfl (fun g94 => ?_)
                    refine r_aload_n (q := 146) (dc dt_MO_longest 81 rfl) rfl rfl 2 rfl ?_
                    refine r_getO (q := 149) (v := 92) fl_MO_19 (dc dt_MO_longest 82 rfl) rfl ly8 rfl ?_
                    refine r_iload (q := 151) (dc dt_MO_longest 83 rfl) rfl 6 rfl ?_
                    refine r_iald (q := 152) (v := σ.1 92 v4.toNat) (dc dt_MO_longest 84 rfl) rfl ly92 o50 rfl (fun g95 => ?_)
                    refine r_icmp_ne (q := 155) (t := 159) (dc dt_MO_longest 85 rfl) rfl (by decide) g94 g95 (fun q_ => ?_) (fun q_ => ?_)
                    · have q111 := q_
                      refine r_iconst (q := 160) (dc dt_MO_longest 88 rfl) rfl rfl ?_
                      exact (hJ 0 ((if_neg (by first | omega | grind)).symm))
                    · have q111 := q_
                      refine r_iconst (q := 156) (dc dt_MO_longest 86 rfl) rfl rfl ?_
                      refine r_goto (q := 160) (dc dt_MO_longest 87 rfl) (by decide) ?_
                      exact (hJ 1 ((if_pos (by first | omega | grind)).symm))
            clear hJ
            have hJ := hK
            have ho := hoA
            refine r_icmp_gt (q := 70) (t := 95) (dc dt_MO_longest 36 rfl) rfl (by decide) o79 o80 (fun q_ => ?_) (fun q_ => ?_)
            · have q112 := q_
              refine r_iconst (q := 96) (dc dt_MO_longest 51 rfl) rfl rfl ?_
              exact (hJ 0 ((if_neg (by first | omega | grind)).symm))
            · have q112 := q_
              have ho := ho q_
              refine r_aload_n (q := 71) (dc dt_MO_longest 37 rfl) rfl rfl 1 rfl ?_
              refine r_getO (q := 74) (v := 106) fl_MO_62 (dc dt_MO_longest 38 rfl) rfl ly8 rfl ?_
              refine r_aload_n (q := 75) (dc dt_MO_longest 39 rfl) rfl rfl 1 rfl ?_
              refine r_getO (q := 78) (v := 123) fl_MO_113 (dc dt_MO_longest 40 rfl) rfl ly8 rfl ?_
              refine r_iload_n (q := 79) (dc dt_MO_longest 41 rfl) rfl rfl 2 rfl ?_
              obtain ⟨o81, ho⟩ := ho
              refine r_iald (q := 80) (v := σ.1 123 v1.toNat) (dc dt_MO_longest 42 rfl) rfl ly123 o81 rfl (fun g82 => ?_)
              have o83 := ho
              refine r_iald (q := 81) (v := σ.1 106 ((σ.1 123 v1.toNat).toNat)) (dc dt_MO_longest 43 rfl) rfl ly106 o83 rfl (fun g84 => ?_)
              refine r_aload_n (q := 82) (dc dt_MO_longest 44 rfl) rfl rfl 1 rfl ?_
              refine r_getO (q := 85) (v := 90) fl_MO_13 (dc dt_MO_longest 45 rfl) rfl ly8 rfl ?_
              refine r_iload (q := 87) (dc dt_MO_longest 46 rfl) rfl 5 rfl ?_
              refine r_iald (q := 88) (v := σ.1 90 v4.toNat) (dc dt_MO_longest 47 rfl) rfl ly90 o50 rfl (fun g85 => ?_)
              refine r_icmp_ne (q := 91) (t := 95) (dc dt_MO_longest 48 rfl) rfl (by decide) g84 g85 (fun q_ => ?_) (fun q_ => ?_)
              · have q113 := q_
                refine r_iconst (q := 96) (dc dt_MO_longest 51 rfl) rfl rfl ?_
                exact (hJ 0 ((if_neg (by first | omega | grind)).symm))
              · have q113 := q_
                refine r_iconst (q := 92) (dc dt_MO_longest 49 rfl) rfl rfl ?_
                refine r_goto (q := 96) (dc dt_MO_longest 50 rfl) (by decide) ?_
                exact (hJ 1 ((if_pos (by first | omega | grind)).symm))
def tb_MO_joined : List (Nat × Instr × Nat) := [(0, .aload_n 0, 1), (1, .getfield 7, 3), (4, .iload_n 1, 1), (5, .iaload, 1), (6, .ifCond .ne 15, 3), (9, .aload_n 0, 1), (10, .iload_n 2, 1), (11, .invokevirtual 289, 3), (14, .ifCond .eq 7, 3), (17, .iconst 1, 1), (18, .goto 4, 3), (21, .iconst 0, 1), (22, .ireturn, 1)]
theorem dt_MO_joined : DT (cM m_MO_joined) tb_MO_joined := by unfold DT; decide +kernel
abbrev a_MO_joined_0 (G : GT)  (v1 : Int) (v2 : Int) (σ : St) (P : Int → St → Prop) : Prop := A G m_MO_joined 0 [(0, O 8), (1, I v1), (2, I v2)] [] σ P
set_option maxRecDepth 20000 in
theorem k_MO_joined_0 {G : GT} {σ : St} {P : Int → St → Prop}  {v1 : Int} {v2 : Int}  
    (h : (0 ≤ v1 ∧ v1 < 60) ∧ ((σ.1 89 v1.toNat = 0 → 0 ≤ v2 ∧ v2 < 60)) ∧ P (if σ.1 89 v1.toNat = 0 ∧ (σ.1 89 v2.toNat = 0 ∨ σ.1 89 v2.toNat = 1) then 1 else 0) σ) :
    a_MO_joined_0 G v1 v2 σ P := by
  refine r_aload_n (q := 1) (dc dt_MO_joined 0 rfl) rfl rfl 0 rfl ?_
  refine r_getO (q := 4) (v := 89) fl_MO_7 (dc dt_MO_joined 1 rfl) rfl ly8 rfl ?_
  refine r_iload_n (q := 5) (dc dt_MO_joined 2 rfl) rfl rfl 1 rfl ?_
  obtain ⟨o1, h⟩ := h
  refine r_iald (q := 6) (v := σ.1 89 v1.toNat) (dc dt_MO_joined 3 rfl) rfl ly89 o1 rfl (fun g2 => ?_)
  obtain ⟨ho, h⟩ := h
  have hJ : ∀ (w_0 : Int), w_0 = (if σ.1 89 v1.toNat = 0 ∧ (σ.1 89 v2.toNat = 0 ∨ σ.1 89 v2.toNat = 1) then 1 else 0) → A G m_MO_joined 22 [(0, O 8), (1, I v1), (2, I v2)] [I w_0] σ P := by
    intro w_0 z_0
    subst z_0
    exact r_zret rfl (dc dt_MO_joined 12 rfl) b01_or h
  clear h
  refine r_if_ne (q := 9) (t := 21) (dc dt_MO_joined 4 rfl) rfl (by decide) g2 (fun q_ => ?_) (fun q_ => ?_)
  · have q5 := q_
    refine r_iconst (q := 22) (dc dt_MO_joined 11 rfl) rfl rfl ?_
    exact (hJ 0 ((if_neg (by first | omega | grind)).symm))
  · have q5 := q_
    have ho := ho q_
    refine r_aload_n (q := 10) (dc dt_MO_joined 5 rfl) rfl rfl 0 rfl ?_
    refine r_iload_n (q := 11) (dc dt_MO_joined 6 rfl) rfl rfl 2 rfl ?_
    have o3 := ho
    refine r_callVi (q := 14) mk_MO_joinsOn lm_MO_289 (RMO.of rfl) rfl (dc dt_MO_joined 7 rfl) rfl ly8 [I v2] [] rfl rfl (Nat.le_of_ble_eq_true rfl) (sp_MO_joinsOn o3) (fun _ _ g4 z => ?_)
    obtain ⟨z, w⟩ := z
    subst z
    replace w := w.symm
    subst w
    refine r_ifb_eq (q := 17) (t := 21) (dc dt_MO_joined 8 rfl) rfl (by decide) (fun q_ => ?_) (fun q_ => ?_)
    · have q6 := q_
      refine r_iconst (q := 22) (dc dt_MO_joined 11 rfl) rfl rfl ?_
      exact (hJ 0 ((if_neg (by first | omega | grind)).symm))
    · have q6 := q_
      refine r_iconst (q := 18) (dc dt_MO_joined 9 rfl) rfl rfl ?_
      refine r_goto (q := 22) (dc dt_MO_joined 10 rfl) (by decide) ?_
      exact (hJ 1 ((if_pos (by first | omega | grind)).symm))
set_option maxRecDepth 20000 in
theorem sp_MO_joined {G : GT} {σ : St} {v1 : Int} {v2 : Int}  (j0 : 0 ≤ v1 ∧ v1 < 60) (j1 : (σ.1 89 v1.toNat = 0 → 0 ≤ v2 ∧ v2 < 60)) : CJ G m_MO_joined [O 8, I v1, I v2] σ (fun r u => r = (if σ.1 89 v1.toNat = 0 ∧ (σ.1 89 v2.toNat = 0 ∨ σ.1 89 v2.toNat = 1) then 1 else 0) ∧ u = σ) := by
  refine CJ.intro (by decide) (by simp [catA]; decide) (fun _ => k_MO_joined_0  ?_)
  refine ⟨by first | assumption | omega | grind, ?_⟩
  refine ⟨by first | assumption | omega | grind, ?_⟩
  exact ⟨rfl, rfl⟩
def tb_MO_cutWord : List (Nat × Instr × Nat) := [(0, .aload_n 0, 1), (1, .getfield 74, 3), (4, .aload_n 0, 1), (5, .getfield 344, 3), (8, .iload_n 1, 1), (9, .iastore, 1), (10, .aload_n 0, 1), (11, .getfield 77, 3), (14, .aload_n 0, 1), (15, .getfield 344, 3), (18, .iload_n 2, 1), (19, .iconst 1, 1), (20, .isub, 1), (21, .iastore, 1), (22, .aload_n 0, 1), (23, .getfield 80, 3), (26, .aload_n 0, 1), (27, .getfield 344, 3), (30, .aload_n 0, 1), (31, .getfield 341, 3), (34, .iastore, 1), (35, .iconst 0, 1), (36, .istore_n 3, 1), (37, .iload_n 1, 1), (38, .istore 4, 2), (40, .iload 4, 2), (42, .iload_n 2, 1), (43, .if_icmp .ge 108, 3), (46, .aload_n 0, 1), (47, .getfield 86, 3), (50, .iload 4, 2), (52, .aload_n 0, 1), (53, .getfield 344, 3), (56, .iastore, 1), (57, .aload_n 0, 1), (58, .getfield 92, 3), (61, .iload 4, 2), (63, .aload_n 0, 1), (64, .aload_n 0, 1), (65, .getfield 62, 3), (68, .iload 4, 2), (70, .iaload, 1), (71, .invokevirtual 317, 3), (74, .ifCond .eq 11, 3), (77, .iload_n 3, 1), (78, .ifCond .le 7, 3), (81, .iconst 1, 1), (82, .goto 4, 3), (85, .iconst 0, 1), (86, .bastore, 1), (87, .aload_n 0, 1), (88, .aload_n 0, 1), (89, .getfield 62, 3), (92, .iload 4, 2), (94, .iaload, 1), (95, .invokevirtual 317, 3), (98, .ifCond .ne 17, 3), (101, .aload_n 0, 1), (102, .getfield 113, 3), (105, .iload_n 3, 1), (106, .iload 4, 2), (108, .iastore, 1), (109, .iinc 3 1, 3), (112, .goto 33, 3), (115, .iload_n 3, 1), (116, .ifCond .ne 29, 3), (119, .aload_n 0, 1), (120, .getfield 89, 3), (123, .iload 4, 2), (125, .aload_n 0, 1), (126, .getfield 341, 3), (129, .iastore, 1), (130, .aload_n 0, 1), (131, .iconst 2, 1), (132, .aload_n 0, 1), (133, .getfield 62, 3), (136, .iload 4, 2), (138, .iaload, 1), (139, .iload 4, 2), (141, .iconst 1, 1), (142, .invokevirtual 347, 3), (145, .iinc 4 1, 3), (148, .goto (-108), 3), (151, .iconst 0, 1), (152, .istore 4, 2), (154, .iload 4, 2), (156, .iload_n 3, 1), (157, .if_icmp .ge 238, 3), (160, .aload_n 0, 1), (161, .iload 4, 2), (163, .iload_n 3, 1), (164, .invokevirtual 354, 3), (167, .istore 5, 2), (169, .iload 5, 2), (171, .ifCond .ge 7, 3), (174, .iconst 1, 1), (175, .goto 9, 3), (178, .aload_n 0, 1), (179, .iload 5, 2), (181, .invokevirtual 357, 3), (184, .istore 6, 2), (186, .iload 4, 2), (188, .istore 7, 2), (190, .iload 7, 2), (192, .iload 4, 2), (194, .iload 6, 2), (196, .iadd, 1), (197, .if_icmp .ge 25, 3), (200, .aload_n 0, 1), (201, .getfield 89, 3), (204, .aload_n 0, 1), (205, .getfield 113, 3), (208, .iload 7, 2), (210, .iaload, 1), (211, .aload_n 0, 1), (212, .getfield 341, 3), (215, .iastore, 1), (216, .iinc 7 1, 3), (219, .goto (-29), 3), (222, .aload_n 0, 1), (223, .iload 5, 2), (225, .ifCond .ge 7, 3), (228, .iconst 0, 1), (229, .goto 4, 3), (232, .iconst 1, 1), (233, .iload 5, 2), (235, .ifCond .ge 18, 3), (238, .aload_n 0, 1), (239, .getfield 62, 3), (242, .aload_n 0, 1), (243, .getfield 113, 3), (246, .iload 4, 2), (248, .iaload, 1), (249, .iaload, 1), (250, .goto 5, 3), (253, .iload 5, 2), (255, .aload_n 0, 1), (256, .getfield 113, 3), (259, .iload 4, 2), (261, .iaload, 1), (262, .iload 6, 2), (264, .invokevirtual 347, 3), (267, .aload_n 0, 1), (268, .getfield 107, 3), (271, .aload_n 0, 1), (272, .getfield 341, 3), (275, .iconst 1, 1), (276, .isub, 1), (277, .iload 4, 2), (279, .ifCond .le 40, 3), (282, .aload_n 0, 1), (283, .aload_n 0, 1), (284, .getfield 62, 3), (287, .aload_n 0, 1), (288, .getfield 113, 3), (291, .iload 4, 2), (293, .iconst 1, 1), (294, .isub, 1), (295, .iaload, 1), (296, .iaload, 1), (297, .aload_n 0, 1), (298, .getfield 62, 3), (301, .aload_n 0, 1), (302, .getfield 113, 3), (305, .iload 4, 2), (307, .iaload, 1), (308, .iaload, 1), (309, .invokevirtual 360, 3), (312, .ifCond .eq 7, 3), (315, .iconst 1, 1), (316, .goto 4, 3), (319, .iconst 0, 1), (320, .bastore, 1), (321, .aload_n 0, 1), (322, .getfield 110, 3), (325, .aload_n 0, 1), (326, .getfield 341, 3), (329, .iconst 1, 1), (330, .isub, 1), (331, .iload 4, 2), (333, .iload 6, 2), (335, .iadd, 1), (336, .iload_n 3, 1), (337, .if_icmp .ge 46, 3), (340, .aload_n 0, 1), (341, .aload_n 0, 1), (342, .getfield 62, 3), (345, .aload_n 0, 1), (346, .getfield 113, 3), (349, .iload 4, 2), (351, .iload 6, 2), (353, .iadd, 1), (354, .iconst 1, 1), (355, .isub, 1), (356, .iaload, 1), (357, .iaload, 1), (358, .aload_n 0, 1), (359, .getfield 62, 3), (362, .aload_n 0, 1), (363, .getfield 113, 3), (366, .iload 4, 2), (368, .iload 6, 2), (370, .iadd, 1), (371, .iaload, 1), (372, .iaload, 1), (373, .invokevirtual 360, 3), (376, .ifCond .eq 7, 3), (379, .iconst 1, 1), (380, .goto 4, 3), (383, .iconst 0, 1), (384, .bastore, 1), (385, .iload 4, 2), (387, .iload 6, 2), (389, .iadd, 1), (390, .istore 4, 2), (392, .goto (-238), 3), (395, .bipush (-6), 2), (397, .istore 5, 2), (399, .iload_n 1, 1), (400, .istore 6, 2), (402, .iload 6, 2), (404, .iload_n 2, 1), (405, .if_icmp .ge 40, 3), (408, .aload_n 0, 1), (409, .getfield 92, 3), (412, .iload 6, 2), (414, .baload, 1), (415, .ifCond .eq 20, 3), (418, .aload_n 0, 1), (419, .getfield 89, 3), (422, .iload 6, 2), (424, .aload_n 0, 1), (425, .getfield 89, 3), (428, .iload 5, 2), (430, .iaload, 1), (431, .iastore, 1), (432, .goto 7, 3), (435, .iload 6, 2), (437, .istore 5, 2), (439, .iinc 6 1, 3), (442, .goto (-40), 3), (445, .aload_n 0, 1), (446, .getfield 83, 3), (449, .aload_n 0, 1), (450, .getfield 344, 3), (453, .aload_n 0, 1), (454, .getfield 341, 3), (457, .iastore, 1), (458, .aload_n 0, 1), (459, .dup, 1), (460, .getfield 344, 3), (463, .iconst 1, 1), (464, .iadd, 1), (465, .putfield 344, 3), (468, .return_, 1)]
theorem dt_MO_cutWord : DT (cM m_MO_cutWord) tb_MO_cutWord := by unfold DT; decide +kernel
abbrev a_MO_cutWord_0 (G : GT)  (v1 : Int) (v2 : Int) (σ : St) (P : Int → St → Prop) : Prop := A G m_MO_cutWord 0 [(0, O 8), (1, I v1), (2, I v2)] [] σ P
abbrev a_MO_cutWord_40 (G : GT)  (v1 : Int) (v2 : Int) (v3 : Int) (v4 : Int) (σ : St) (P : Int → St → Prop) : Prop := A G m_MO_cutWord 40 [(0, O 8), (1, I v1), (2, I v2), (3, I v3), (4, I v4)] [] σ P
abbrev a_MO_cutWord_154 (G : GT)  (v1 : Int) (v2 : Int) (v3 : Int) (v4 : Int) (σ : St) (P : Int → St → Prop) : Prop := A G m_MO_cutWord 154 [(0, O 8), (1, I v1), (2, I v2), (3, I v3), (4, I v4)] [] σ P
abbrev a_MO_cutWord_402 (G : GT)  (v2 : Int) (v5 : Int) (v6 : Int) (σ : St) (P : Int → St → Prop) : Prop := A G m_MO_cutWord 402 [(0, O 8), (2, I v2), (5, I v5), (6, I v6)] [] σ P
abbrev a_MO_cutWord_190 (G : GT)  (v1 : Int) (v2 : Int) (v3 : Int) (v4 : Int) (v5 : Int) (v6 : Int) (v7 : Int) (σ : St) (P : Int → St → Prop) : Prop := A G m_MO_cutWord 190 [(0, O 8), (1, I v1), (2, I v2), (3, I v3), (4, I v4), (5, I v5), (6, I v6), (7, I v7)] [] σ P
set_option maxRecDepth 20000 in
theorem k_MO_cutWord_0 {G : GT} {σ : St} {P : Int → St → Prop}  {v1 : Int} {v2 : Int}  
    (h : (0 ≤ σ.2.1 8 27 ∧ σ.2.1 8 27 < 80) ∧ rng v1 ∧ (∀ σ4, σ4 = sa σ 110 ((σ.2.1 8 27).toNat) v1 → rng (v2 - 1) ∧ (∀ σ8, σ8 = sa σ4 111 ((σ.2.1 8 27).toNat) (v2 - 1) → (∀ σ12, σ12 = sa σ8 112 ((σ.2.1 8 27).toNat) (σ.2.1 8 35) → a_MO_cutWord_40 G v1 v2 0 v1 σ12 P)))) :
    a_MO_cutWord_0 G v1 v2 σ P := by
  refine r_aload_n (q := 1) (dc dt_MO_cutWord 0 rfl) rfl rfl 0 rfl ?_
  refine r_getO (q := 4) (v := 110) fl_MO_74 (dc dt_MO_cutWord 1 rfl) rfl ly8 rfl ?_
  refine r_aload_n (q := 5) (dc dt_MO_cutWord 2 rfl) rfl rfl 0 rfl ?_
  refine r_getI (q := 8) (v := σ.2.1 8 27) fl_MO_344 (dc dt_MO_cutWord 3 rfl) rfl ly8 rfl rfl (fun g1 => ?_)
  refine r_iload_n (q := 9) (dc dt_MO_cutWord 4 rfl) rfl rfl 1 rfl ?_
  obtain ⟨o2, h⟩ := h
  obtain ⟨o3, h⟩ := h
  refine r_iast (q := 10) (dc dt_MO_cutWord 5 rfl) rfl ly110 o2 o3 (fun σ4 e5 => ?_)
  have h := h σ4 e5
  refine r_aload_n (q := 11) (dc dt_MO_cutWord 6 rfl) rfl rfl 0 rfl ?_
  refine r_getO (q := 14) (v := 111) fl_MO_77 (dc dt_MO_cutWord 7 rfl) rfl ly8 rfl ?_
  refine r_aload_n (q := 15) (dc dt_MO_cutWord 8 rfl) rfl rfl 0 rfl ?_
  refine r_getI (q := 18) (v := σ.2.1 8 27) fl_MO_344 (dc dt_MO_cutWord 9 rfl) rfl ly8 rfl (by rw [e5]; rfl) (fun g6 => ?_)
  refine r_iload_n (q := 19) (dc dt_MO_cutWord 10 rfl) rfl rfl 2 rfl ?_
  refine r_iconst (q := 20) (dc dt_MO_cutWord 11 rfl) rfl rfl ?_
  refine r_isub (q := 21) (dc dt_MO_cutWord 12 rfl) rfl ?_
  obtain ⟨o7, h⟩ := h
  refine r_iast (q := 22) (dc dt_MO_cutWord 13 rfl) rfl ly111 o2 o7 (fun σ8 e9 => ?_)
  have h := h σ8 e9
  refine r_aload_n (q := 23) (dc dt_MO_cutWord 14 rfl) rfl rfl 0 rfl ?_
  refine r_getO (q := 26) (v := 112) fl_MO_80 (dc dt_MO_cutWord 15 rfl) rfl ly8 rfl ?_
  refine r_aload_n (q := 27) (dc dt_MO_cutWord 16 rfl) rfl rfl 0 rfl ?_
  refine r_getI (q := 30) (v := σ.2.1 8 27) fl_MO_344 (dc dt_MO_cutWord 17 rfl) rfl ly8 rfl (by rw [e9, e5]; rfl) (fun g10 => ?_)
  refine r_aload_n (q := 31) (dc dt_MO_cutWord 18 rfl) rfl rfl 0 rfl ?_
  refine r_getI (q := 34) (v := σ.2.1 8 35) fl_MO_341 (dc dt_MO_cutWord 19 rfl) rfl ly8 rfl (by rw [e9, e5]; rfl) (fun g11 => ?_)
  refine r_iast (q := 35) (dc dt_MO_cutWord 20 rfl) rfl ly112 o2 g11 (fun σ12 e13 => ?_)
  have h := h σ12 e13
  refine r_iconst (q := 36) (dc dt_MO_cutWord 21 rfl) rfl rfl ?_
  refine r_istore_n (q := 37) (dc dt_MO_cutWord 22 rfl) rfl rfl (by decide) rfl ?_
  refine r_iload_n (q := 38) (dc dt_MO_cutWord 23 rfl) rfl rfl 2 rfl ?_
  refine r_istore (q := 40) (dc dt_MO_cutWord 24 rfl) rfl (by decide) rfl ?_
  exact r_loc [2, 3, 4, 1, 0] rfl h
set_option maxRecDepth 20000 in
theorem k_MO_cutWord_40 {G : GT} {σ : St} {P : Int → St → Prop}  {v1 : Int} {v2 : Int} {v3 : Int} {v4 : Int}  
    (h : rng v4 ∧ rng v2 ∧ (v2 ≤ v4 → a_MO_cutWord_154 G v1 v2 v3 0 σ P) ∧ (v4 < v2 → (0 ≤ v4 ∧ v4 < 80) ∧ (∀ σ19, σ19 = sa σ 114 v4.toNat (σ.2.1 8 27) → (0 ≤ (σ.1 106 v4.toNat) ∧ (σ.1 106 v4.toNat) < 60) ∧ ((σ19.1 89 (σ.1 106 v4.toNat).toNat = 3 ∨ σ19.1 89 (σ.1 106 v4.toNat).toNat = 4 → rng v3)) ∧ (∀ σ25, σ25 = sa σ19 116 v4.toNat (if (σ19.1 89 (σ.1 106 v4.toNat).toNat = 3 ∨ σ19.1 89 (σ.1 106 v4.toNat).toNat = 4) ∧ 0 < v3 then 1 else 0) → (σ25.1 89 (σ.1 106 v4.toNat).toNat = 3 ∨ σ25.1 89 (σ.1 106 v4.toNat).toNat = 4 → rng v3 ∧ (v3 ≠ 0 → a_MO_cutWord_40 G v1 v2 v3 (v4 + 1) σ25 P) ∧ (v3 = 0 → (∀ σ34, σ34 = sa σ25 115 v4.toNat (σ.2.1 8 35) → CJ G m_MO_base [O 8, I 2, I (σ.1 106 v4.toNat), I v4, I 1] σ34 (fun _ u37 => a_MO_cutWord_40 G v1 v2 v3 (v4 + 1) u37 P)))) ∧ (¬ (σ25.1 89 (σ.1 106 v4.toNat).toNat = 3 ∨ σ25.1 89 (σ.1 106 v4.toNat).toNat = 4) → (0 ≤ v3 ∧ v3 < 80) ∧ (∀ σ39, σ39 = sa σ25 123 v3.toNat v4 → a_MO_cutWord_40 G v1 v2 (v3 + 1) (v4 + 1) σ39 P)))))) :
    a_MO_cutWord_40 G v1 v2 v3 v4 σ P := by
  refine r_iload (q := 42) (dc dt_MO_cutWord 25 rfl) rfl 4 rfl ?_
  refine r_iload_n (q := 43) (dc dt_MO_cutWord 26 rfl) rfl rfl 2 rfl ?_
  obtain ⟨o14, h⟩ := h
  obtain ⟨o15, h⟩ := h
  refine r_icmp_ge (q := 46) (t := 151) (dc dt_MO_cutWord 27 rfl) rfl (by decide) o14 o15 (fun q_ => ?_) (fun q_ => ?_)
  · have h := h.1 q_
    refine r_iconst (q := 152) (dc dt_MO_cutWord 83 rfl) rfl rfl ?_
    refine r_istore (q := 154) (dc dt_MO_cutWord 84 rfl) rfl (by decide) rfl ?_
    exact r_loc [1, 2, 3, 4, 0] rfl h
  · have h := h.2 q_
    refine r_aload_n (q := 47) (dc dt_MO_cutWord 28 rfl) rfl rfl 0 rfl ?_
    refine r_getO (q := 50) (v := 114) fl_MO_86 (dc dt_MO_cutWord 29 rfl) rfl ly8 rfl ?_
    refine r_iload (q := 52) (dc dt_MO_cutWord 30 rfl) rfl 4 rfl ?_
    refine r_aload_n (q := 53) (dc dt_MO_cutWord 31 rfl) rfl rfl 0 rfl ?_
    refine r_getI (q := 56) (v := σ.2.1 8 27) fl_MO_344 (dc dt_MO_cutWord 32 rfl) rfl ly8 rfl rfl (fun g17 => ?_)
    obtain ⟨o18, h⟩ := h
    refine r_iast (q := 57) (dc dt_MO_cutWord 33 rfl) rfl ly114 o18 g17 (fun σ19 e20 => ?_)
    have h := h σ19 e20
    refine r_aload_n (q := 58) (dc dt_MO_cutWord 34 rfl) rfl rfl 0 rfl ?_
    refine r_getO (q := 61) (v := 116) fl_MO_92 (dc dt_MO_cutWord 35 rfl) rfl ly8 rfl ?_
    refine r_iload (q := 63) (dc dt_MO_cutWord 36 rfl) rfl 4 rfl ?_
    refine r_aload_n (q := 64) (dc dt_MO_cutWord 37 rfl) rfl rfl 0 rfl ?_
    refine r_aload_n (q := 65) (dc dt_MO_cutWord 38 rfl) rfl rfl 0 rfl ?_
    refine r_getO (q := 68) (v := 106) fl_MO_62 (dc dt_MO_cutWord 39 rfl) rfl ly8 rfl ?_
    refine r_iload (q := 70) (dc dt_MO_cutWord 40 rfl) rfl 4 rfl ?_
    refine r_iald (q := 71) (v := σ.1 106 v4.toNat) (dc dt_MO_cutWord 41 rfl) rfl ly106 o18 (by rw [e20]; rfl) (fun g21 => ?_)
    obtain ⟨o22, h⟩ := h
    refine r_callVi (q := 74) mk_MO_isMark lm_MO_317 (RMO.of rfl) rfl (dc dt_MO_cutWord 42 rfl) rfl ly8 [I (σ.1 106 v4.toNat)] [I v4, O 116] rfl rfl (Nat.le_of_ble_eq_true rfl) (sp_MO_isMark o22) (fun _ _ g23 z => ?_)
    obtain ⟨z, w⟩ := z
    subst z
    replace w := w.symm
    subst w
    obtain ⟨ho, h⟩ := h
    have hJ : ∀ (w_0 : Int), w_0 = (if (σ19.1 89 (σ.1 106 v4.toNat).toNat = 3 ∨ σ19.1 89 (σ.1 106 v4.toNat).toNat = 4) ∧ 0 < v3 then 1 else 0) → A G m_MO_cutWord 86 [(0, O 8), (1, I v1), (2, I v2), (3, I v3), (4, I v4)] [I w_0, I v4, O 116] σ19 P := by
      intro w_0 z_0
      subst z_0
      refine r_zast (q := 87) (dc dt_MO_cutWord 49 rfl) rfl ly116 o18 b01_or (fun σ25 e26 => ?_)
      have h := h σ25 e26
      refine r_aload_n (q := 88) (dc dt_MO_cutWord 50 rfl) rfl rfl 0 rfl ?_
      refine r_aload_n (q := 89) (dc dt_MO_cutWord 51 rfl) rfl rfl 0 rfl ?_
      refine r_getO (q := 92) (v := 106) fl_MO_62 (dc dt_MO_cutWord 52 rfl) rfl ly8 rfl ?_
      refine r_iload (q := 94) (dc dt_MO_cutWord 53 rfl) rfl 4 rfl ?_
      refine r_iald (q := 95) (v := σ.1 106 v4.toNat) (dc dt_MO_cutWord 54 rfl) rfl ly106 o18 (by rw [e26, e20]; rfl) (fun g27 => ?_)
      refine r_callVi (q := 98) mk_MO_isMark lm_MO_317 (RMO.of rfl) rfl (dc dt_MO_cutWord 55 rfl) rfl ly8 [I (σ.1 106 v4.toNat)] [] rfl rfl (Nat.le_of_ble_eq_true rfl) (sp_MO_isMark o22) (fun _ _ g28 z => ?_)
      obtain ⟨z, w⟩ := z
      subst z
      replace w := w.symm
      subst w
      refine r_ifb_ne (q := 101) (t := 115) (dc dt_MO_cutWord 56 rfl) rfl (by decide) (fun q_ => ?_) (fun q_ => ?_)
      · have h := h.1 q_
        refine r_iload_n (q := 116) (dc dt_MO_cutWord 64 rfl) rfl rfl 3 rfl ?_
        obtain ⟨o31, h⟩ := h
        refine r_if_ne (q := 119) (t := 145) (dc dt_MO_cutWord 65 rfl) rfl (by decide) o31 (fun q_ => ?_) (fun q_ => ?_)
        · have h := h.1 q_
          refine r_iinc (q := 148) (k := 4) (dc dt_MO_cutWord 81 rfl) rfl rfl (by decide) rfl ?_
          refine r_goto (q := 40) (dc dt_MO_cutWord 82 rfl) (by decide) ?_
          exact r_loc [1, 2, 3, 4, 0] rfl h
        · have h := h.2 q_
          refine r_aload_n (q := 120) (dc dt_MO_cutWord 66 rfl) rfl rfl 0 rfl ?_
          refine r_getO (q := 123) (v := 115) fl_MO_89 (dc dt_MO_cutWord 67 rfl) rfl ly8 rfl ?_
          refine r_iload (q := 125) (dc dt_MO_cutWord 68 rfl) rfl 4 rfl ?_
          refine r_aload_n (q := 126) (dc dt_MO_cutWord 69 rfl) rfl rfl 0 rfl ?_
          refine r_getI (q := 129) (v := σ.2.1 8 35) fl_MO_341 (dc dt_MO_cutWord 70 rfl) rfl ly8 rfl (by rw [e26, e20]; rfl) (fun g33 => ?_)
          refine r_iast (q := 130) (dc dt_MO_cutWord 71 rfl) rfl ly115 o18 g33 (fun σ34 e35 => ?_)
          have h := h σ34 e35
          refine r_aload_n (q := 131) (dc dt_MO_cutWord 72 rfl) rfl rfl 0 rfl ?_
          refine r_iconst (q := 132) (dc dt_MO_cutWord 73 rfl) rfl rfl ?_
          refine r_aload_n (q := 133) (dc dt_MO_cutWord 74 rfl) rfl rfl 0 rfl ?_
          refine r_getO (q := 136) (v := 106) fl_MO_62 (dc dt_MO_cutWord 75 rfl) rfl ly8 rfl ?_
          refine r_iload (q := 138) (dc dt_MO_cutWord 76 rfl) rfl 4 rfl ?_
          refine r_iald (q := 139) (v := σ.1 106 v4.toNat) (dc dt_MO_cutWord 77 rfl) rfl ly106 o18 (by rw [e35, e26, e20]; rfl) (fun g36 => ?_)
          refine r_iload (q := 141) (dc dt_MO_cutWord 78 rfl) rfl 4 rfl ?_
          refine r_iconst (q := 142) (dc dt_MO_cutWord 79 rfl) rfl rfl ?_
          refine r_callVv (q := 145) mk_MO_base lm_MO_347 (RMO.of rfl) rfl (dc dt_MO_cutWord 80 rfl) rfl ly8 [I 2, I (σ.1 106 v4.toNat), I v4, I 1] [] rfl rfl (Nat.le_of_ble_eq_true rfl) h (fun u37 h => ?_)
          refine r_iinc (q := 148) (k := 4) (dc dt_MO_cutWord 81 rfl) rfl rfl (by decide) rfl ?_
          refine r_goto (q := 40) (dc dt_MO_cutWord 82 rfl) (by decide) ?_
          exact r_loc [1, 2, 3, 4, 0] rfl h
      · have h := h.2 q_
        refine r_aload_n (q := 102) (dc dt_MO_cutWord 57 rfl) rfl rfl 0 rfl ?_
        refine r_getO (q := 105) (v := 123) fl_MO_113 (dc dt_MO_cutWord 58 rfl) rfl ly8 rfl ?_
        refine r_iload_n (q := 106) (dc dt_MO_cutWord 59 rfl) rfl rfl 3 rfl ?_
        refine r_iload (q := 108) (dc dt_MO_cutWord 60 rfl) rfl 4 rfl ?_
        obtain ⟨o38, h⟩ := h
        refine r_iast (q := 109) (dc dt_MO_cutWord 61 rfl) rfl ly123 o38 o14 (fun σ39 e40 => ?_)
        have h := h σ39 e40
        refine r_iinc (q := 112) (k := 3) (dc dt_MO_cutWord 62 rfl) rfl rfl (by decide) rfl ?_
        refine r_goto (q := 145) (dc dt_MO_cutWord 63 rfl) (by decide) ?_
        refine r_iinc (q := 148) (k := 4) (dc dt_MO_cutWord 81 rfl) rfl rfl (by decide) rfl ?_
        refine r_goto (q := 40) (dc dt_MO_cutWord 82 rfl) (by decide) ?_
        exact r_loc [2, 3, 4, 1, 0] rfl h
    clear h
    refine r_ifb_eq (q := 77) (t := 85) (dc dt_MO_cutWord 43 rfl) rfl (by decide) (fun q_ => ?_) (fun q_ => ?_)
    · have q121 := q_
      refine r_iconst (q := 86) (dc dt_MO_cutWord 48 rfl) rfl rfl ?_
      exact (hJ 0 ((if_neg (by first | omega | grind)).symm))
    · have q121 := q_
      have ho := ho q_
      refine r_iload_n (q := 78) (dc dt_MO_cutWord 44 rfl) rfl rfl 3 rfl ?_
      have o24 := ho
      refine r_if_le (q := 81) (t := 85) (dc dt_MO_cutWord 45 rfl) rfl (by decide) o24 (fun q_ => ?_) (fun q_ => ?_)
      · have q122 := q_
        refine r_iconst (q := 86) (dc dt_MO_cutWord 48 rfl) rfl rfl ?_
        exact (hJ 0 ((if_neg (by first | omega | grind)).symm))
      · have q122 := q_
        refine r_iconst (q := 82) (dc dt_MO_cutWord 46 rfl) rfl rfl ?_
        refine r_goto (q := 86) (dc dt_MO_cutWord 47 rfl) (by decide) ?_
        exact (hJ 1 ((if_pos (by first | omega | grind)).symm))
set_option maxRecDepth 20000 in
theorem k_MO_cutWord_154 {G : GT} {σ : St} {P : Int → St → Prop}  {v1 : Int} {v2 : Int} {v3 : Int} {v4 : Int}  
    (h : rng v4 ∧ rng v3 ∧ (v3 ≤ v4 → a_MO_cutWord_402 G v2 (-6) v1 σ P) ∧ (v4 < v3 → CJ G m_MO_longest [O 8, I v4, I v3] σ (fun r44 u43 => ((0 ≤ r44 → (0 ≤ r44 ∧ r44 < 60) ∧ rng (if 0 ≤ u43.1 92 r44.toNat then (3 : Int) else (2 : Int)))) ∧ a_MO_cutWord_190 G v1 v2 v3 v4 r44 (if 0 ≤ r44 then (if 0 ≤ u43.1 92 r44.toNat then (3 : Int) else (2 : Int)) else (1 : Int)) v4 u43 P))) :
    a_MO_cutWord_154 G v1 v2 v3 v4 σ P := by
  refine r_iload (q := 156) (dc dt_MO_cutWord 85 rfl) rfl 4 rfl ?_
  refine r_iload_n (q := 157) (dc dt_MO_cutWord 86 rfl) rfl rfl 3 rfl ?_
  obtain ⟨o41, h⟩ := h
  obtain ⟨o42, h⟩ := h
  refine r_icmp_ge (q := 160) (t := 395) (dc dt_MO_cutWord 87 rfl) rfl (by decide) o41 o42 (fun q_ => ?_) (fun q_ => ?_)
  · have h := h.1 q_
    refine r_bipush (q := 397) (dc dt_MO_cutWord 216 rfl) rfl (by decide) ?_
    refine r_istore (q := 399) (dc dt_MO_cutWord 217 rfl) rfl (by decide) rfl ?_
    refine r_iload_n (q := 400) (dc dt_MO_cutWord 218 rfl) rfl rfl 2 rfl ?_
    refine r_istore (q := 402) (dc dt_MO_cutWord 219 rfl) rfl (by decide) rfl ?_
    exact r_loc [2, 4, 1, 0] rfl h
  · have h := h.2 q_
    refine r_aload_n (q := 161) (dc dt_MO_cutWord 88 rfl) rfl rfl 0 rfl ?_
    refine r_iload (q := 163) (dc dt_MO_cutWord 89 rfl) rfl 4 rfl ?_
    refine r_iload_n (q := 164) (dc dt_MO_cutWord 90 rfl) rfl rfl 3 rfl ?_
    refine r_callVi (q := 167) mk_MO_longest lm_MO_354 (RMO.of rfl) rfl (dc dt_MO_cutWord 91 rfl) rfl ly8 [I v4, I v3] [] rfl rfl (Nat.le_of_ble_eq_true rfl) h (fun r44 u43 g45 h => ?_)
    refine r_istore (q := 169) (dc dt_MO_cutWord 92 rfl) rfl (by decide) rfl ?_
    refine r_iload (q := 171) (dc dt_MO_cutWord 93 rfl) rfl 0 rfl ?_
    obtain ⟨ho, h⟩ := h
    have hJ : ∀ (w_0 : Int), w_0 = (if 0 ≤ r44 then (if 0 ≤ u43.1 92 r44.toNat then (3 : Int) else (2 : Int)) else (1 : Int)) → A G m_MO_cutWord 184 [(5, I r44), (0, O 8), (1, I v1), (2, I v2), (3, I v3), (4, I v4)] [I w_0] u43 P := by
      intro w_0 z_0
      subst z_0
      refine r_istore (q := 186) (dc dt_MO_cutWord 100 rfl) rfl (by decide) rfl ?_
      refine r_iload (q := 188) (dc dt_MO_cutWord 101 rfl) rfl 6 rfl ?_
      refine r_istore (q := 190) (dc dt_MO_cutWord 102 rfl) rfl (by decide) rfl ?_
      exact r_loc [3, 4, 5, 6, 7, 2, 1, 0] rfl h
    clear h
    refine r_if_ge (q := 174) (t := 178) (dc dt_MO_cutWord 94 rfl) rfl (by decide) g45 (fun q_ => ?_) (fun q_ => ?_)
    · have q123 := q_
      have ho := ho q_
      refine r_aload_n (q := 179) (dc dt_MO_cutWord 97 rfl) rfl rfl 1 rfl ?_
      refine r_iload (q := 181) (dc dt_MO_cutWord 98 rfl) rfl 0 rfl ?_
      obtain ⟨o46, ho⟩ := ho
      have o47 := ho
      refine r_callVi (q := 184) mk_MO_howManyOf lm_MO_357 (RMO.of rfl) rfl (dc dt_MO_cutWord 99 rfl) rfl ly8 [I r44] [] rfl rfl (Nat.le_of_ble_eq_true rfl) (sp_MO_howManyOf o46 o47) (fun _ _ g48 z => ?_)
      obtain ⟨z, w⟩ := z
      subst z
      replace w := w.symm
      subst w
      exact (hJ (if 0 ≤ u43.1 92 r44.toNat then (3 : Int) else (2 : Int)) ((if_pos (by first | omega | grind)).symm))
    · have q123 := q_
      refine r_iconst (q := 175) (dc dt_MO_cutWord 95 rfl) rfl rfl ?_
      refine r_goto (q := 184) (dc dt_MO_cutWord 96 rfl) (by decide) ?_
      exact (hJ 1 ((if_neg (by first | omega | grind)).symm))
set_option maxRecDepth 20000 in
theorem k_MO_cutWord_402 {G : GT} {σ : St} {P : Int → St → Prop}  {v2 : Int} {v5 : Int} {v6 : Int}  
    (h : rng v6 ∧ rng v2 ∧ (v2 ≤ v6 → (0 ≤ σ.2.1 8 27 ∧ σ.2.1 8 27 < 80) ∧ (∀ σ58, σ58 = sa σ 113 ((σ.2.1 8 27).toNat) (σ.2.1 8 35) → rng ((σ.2.1 8 27) + 1) ∧ (∀ σ61, σ61 = sf σ58 8 27 ((σ.2.1 8 27) + 1) → P 0 σ61))) ∧ (v6 < v2 → (0 ≤ v6 ∧ v6 < 80) ∧ (σ.1 116 v6.toNat = 0 → a_MO_cutWord_402 G v2 v6 (v6 + 1) σ P) ∧ (σ.1 116 v6.toNat ≠ 0 → (0 ≤ v5 ∧ v5 < 80) ∧ (∀ σ70, σ70 = sa σ 115 v6.toNat (σ.1 115 v5.toNat) → a_MO_cutWord_402 G v2 v5 (v6 + 1) σ70 P)))) :
    a_MO_cutWord_402 G v2 v5 v6 σ P := by
  refine r_iload (q := 404) (dc dt_MO_cutWord 220 rfl) rfl 3 rfl ?_
  refine r_iload_n (q := 405) (dc dt_MO_cutWord 221 rfl) rfl rfl 1 rfl ?_
  obtain ⟨o49, h⟩ := h
  obtain ⟨o50, h⟩ := h
  refine r_icmp_ge (q := 408) (t := 445) (dc dt_MO_cutWord 222 rfl) rfl (by decide) o49 o50 (fun q_ => ?_) (fun q_ => ?_)
  · have h := h.1 q_
    refine r_aload_n (q := 446) (dc dt_MO_cutWord 241 rfl) rfl rfl 0 rfl ?_
    refine r_getO (q := 449) (v := 113) fl_MO_83 (dc dt_MO_cutWord 242 rfl) rfl ly8 rfl ?_
    refine r_aload_n (q := 450) (dc dt_MO_cutWord 243 rfl) rfl rfl 0 rfl ?_
    refine r_getI (q := 453) (v := σ.2.1 8 27) fl_MO_344 (dc dt_MO_cutWord 244 rfl) rfl ly8 rfl rfl (fun g55 => ?_)
    refine r_aload_n (q := 454) (dc dt_MO_cutWord 245 rfl) rfl rfl 0 rfl ?_
    refine r_getI (q := 457) (v := σ.2.1 8 35) fl_MO_341 (dc dt_MO_cutWord 246 rfl) rfl ly8 rfl rfl (fun g56 => ?_)
    obtain ⟨o57, h⟩ := h
    refine r_iast (q := 458) (dc dt_MO_cutWord 247 rfl) rfl ly113 o57 g56 (fun σ58 e59 => ?_)
    have h := h σ58 e59
    refine r_aload_n (q := 459) (dc dt_MO_cutWord 248 rfl) rfl rfl 0 rfl ?_
    refine r_dupo (q := 460) (dc dt_MO_cutWord 249 rfl) rfl ?_
    refine r_getI (q := 463) (v := σ.2.1 8 27) fl_MO_344 (dc dt_MO_cutWord 250 rfl) rfl ly8 rfl (by rw [e59]; rfl) (fun g60 => ?_)
    refine r_iconst (q := 464) (dc dt_MO_cutWord 251 rfl) rfl rfl ?_
    refine r_iadd (q := 465) (dc dt_MO_cutWord 252 rfl) rfl ?_
    obtain ⟨o63, h⟩ := h
    refine r_put (q := 468) fl_MO_344 (dc dt_MO_cutWord 253 rfl) rfl ly8 (fun _ => rfl) (Or.inl rfl) pf_8_27 o63 (fun σ61 e62 => ?_)
    have h := h σ61 e62
    exact r_vret rfl (dc dt_MO_cutWord 254 rfl) h
  · have h := h.2 q_
    refine r_aload_n (q := 409) (dc dt_MO_cutWord 223 rfl) rfl rfl 0 rfl ?_
    refine r_getO (q := 412) (v := 116) fl_MO_92 (dc dt_MO_cutWord 224 rfl) rfl ly8 rfl ?_
    refine r_iload (q := 414) (dc dt_MO_cutWord 225 rfl) rfl 3 rfl ?_
    obtain ⟨o64, h⟩ := h
    refine r_zald (q := 415) (v := σ.1 116 v6.toNat) (dc dt_MO_cutWord 226 rfl) rfl ly116 o64 rfl (fun g65 => ?_)
    refine r_if_eq (q := 418) (t := 435) (dc dt_MO_cutWord 227 rfl) rfl (by decide) g65 (fun q_ => ?_) (fun q_ => ?_)
    · have h := h.1 q_
      refine r_iload (q := 437) (dc dt_MO_cutWord 237 rfl) rfl 3 rfl ?_
      refine r_istore (q := 439) (dc dt_MO_cutWord 238 rfl) rfl (by decide) rfl ?_
      refine r_iinc (q := 442) (k := 3) (dc dt_MO_cutWord 239 rfl) rfl rfl (by decide) rfl ?_
      refine r_goto (q := 402) (dc dt_MO_cutWord 240 rfl) (by decide) ?_
      exact r_loc [2, 3, 1, 0] rfl h
    · have h := h.2 q_
      refine r_aload_n (q := 419) (dc dt_MO_cutWord 228 rfl) rfl rfl 0 rfl ?_
      refine r_getO (q := 422) (v := 115) fl_MO_89 (dc dt_MO_cutWord 229 rfl) rfl ly8 rfl ?_
      refine r_iload (q := 424) (dc dt_MO_cutWord 230 rfl) rfl 3 rfl ?_
      refine r_aload_n (q := 425) (dc dt_MO_cutWord 231 rfl) rfl rfl 0 rfl ?_
      refine r_getO (q := 428) (v := 115) fl_MO_89 (dc dt_MO_cutWord 232 rfl) rfl ly8 rfl ?_
      refine r_iload (q := 430) (dc dt_MO_cutWord 233 rfl) rfl 2 rfl ?_
      obtain ⟨o68, h⟩ := h
      refine r_iald (q := 431) (v := σ.1 115 v5.toNat) (dc dt_MO_cutWord 234 rfl) rfl ly115 o68 rfl (fun g69 => ?_)
      refine r_iast (q := 432) (dc dt_MO_cutWord 235 rfl) rfl ly115 o64 g69 (fun σ70 e71 => ?_)
      have h := h σ70 e71
      refine r_goto (q := 439) (dc dt_MO_cutWord 236 rfl) (by decide) ?_
      refine r_iinc (q := 442) (k := 3) (dc dt_MO_cutWord 239 rfl) rfl rfl (by decide) rfl ?_
      refine r_goto (q := 402) (dc dt_MO_cutWord 240 rfl) (by decide) ?_
      exact r_loc [1, 2, 3, 0] rfl h
set_option maxRecDepth 20000 in
theorem k_MO_cutWord_190 {G : GT} {σ : St} {P : Int → St → Prop}  {v1 : Int} {v2 : Int} {v3 : Int} {v4 : Int} {v5 : Int} {v6 : Int} {v7 : Int}  
    (h : rng v7 ∧ rng (v4 + v6) ∧ (v4 + v6 ≤ v7 → rng v5 ∧ ((v5 < 0 → (0 ≤ v4 ∧ v4 < 80) ∧ 0 ≤ σ.1 123 v4.toNat ∧ σ.1 123 v4.toNat < 80)) ∧ (0 ≤ v4 ∧ v4 < 80) ∧ CJ G m_MO_base [O 8, I (if 0 ≤ v5 then 1 else 0), I (if 0 ≤ v5 then v5 else σ.1 106 ((σ.1 123 v4.toNat).toNat)), I (σ.1 123 v4.toNat), I v6] σ (fun _ u84 => rng v4 ∧ ((0 < v4 → (0 ≤ v4 - 1 ∧ v4 - 1 < 80) ∧ (0 ≤ u84.1 123 ((v4 - 1).toNat) ∧ u84.1 123 ((v4 - 1).toNat) < 80) ∧ (0 ≤ u84.1 123 v4.toNat ∧ u84.1 123 v4.toNat < 80) ∧ (0 ≤ (u84.1 106 ((u84.1 123 ((v4 - 1).toNat)).toNat)) ∧ (u84.1 106 ((u84.1 123 ((v4 - 1).toNat)).toNat)) < 60) ∧ (u84.1 89 (u84.1 106 ((u84.1 123 ((v4 - 1).toNat)).toNat)).toNat = 0 → 0 ≤ (u84.1 106 ((u84.1 123 v4.toNat).toNat)) ∧ (u84.1 106 ((u84.1 123 v4.toNat).toNat)) < 60))) ∧ (0 ≤ (u84.2.1 8 35) - 1 ∧ (u84.2.1 8 35) - 1 < 80) ∧ (∀ σ98, σ98 = sa u84 121 (((u84.2.1 8 35) - 1).toNat) (if 0 < v4 ∧ (u84.1 89 (u84.1 106 ((u84.1 123 ((v4 - 1).toNat)).toNat)).toNat = 0 ∧ (u84.1 89 (u84.1 106 ((u84.1 123 v4.toNat).toNat)).toNat = 0 ∨ u84.1 89 (u84.1 106 ((u84.1 123 v4.toNat).toNat)).toNat = 1)) then 1 else 0) → rng v3 ∧ ((v4 + v6 < v3 → (0 ≤ (v4 + v6) - 1 ∧ (v4 + v6) - 1 < 80) ∧ (0 ≤ u84.1 123 (((v4 + v6) - 1).toNat) ∧ u84.1 123 (((v4 + v6) - 1).toNat) < 80) ∧ (0 ≤ v4 + v6 ∧ v4 + v6 < 80) ∧ (0 ≤ u84.1 123 ((v4 + v6).toNat) ∧ u84.1 123 ((v4 + v6).toNat) < 80) ∧ (0 ≤ (u84.1 106 ((u84.1 123 (((v4 + v6) - 1).toNat)).toNat)) ∧ (u84.1 106 ((u84.1 123 (((v4 + v6) - 1).toNat)).toNat)) < 60) ∧ (σ98.1 89 (u84.1 106 ((u84.1 123 (((v4 + v6) - 1).toNat)).toNat)).toNat = 0 → 0 ≤ (u84.1 106 ((u84.1 123 ((v4 + v6).toNat)).toNat)) ∧ (u84.1 106 ((u84.1 123 ((v4 + v6).toNat)).toNat)) < 60))) ∧ (∀ σ113, σ113 = sa σ98 122 (((u84.2.1 8 35) - 1).toNat) (if v4 + v6 < v3 ∧ (σ98.1 89 (u84.1 106 ((u84.1 123 (((v4 + v6) - 1).toNat)).toNat)).toNat = 0 ∧ (σ98.1 89 (u84.1 106 ((u84.1 123 ((v4 + v6).toNat)).toNat)).toNat = 0 ∨ σ98.1 89 (u84.1 106 ((u84.1 123 ((v4 + v6).toNat)).toNat)).toNat = 1)) then 1 else 0) → a_MO_cutWord_154 G v1 v2 v3 (v4 + v6) σ113 P)))) ∧ (v7 < v4 + v6 → (0 ≤ v7 ∧ v7 < 80) ∧ (0 ≤ σ.1 123 v7.toNat ∧ σ.1 123 v7.toNat < 80) ∧ (∀ σ119, σ119 = sa σ 115 ((σ.1 123 v7.toNat).toNat) (σ.2.1 8 35) → a_MO_cutWord_190 G v1 v2 v3 v4 v5 v6 (v7 + 1) σ119 P))) :
    a_MO_cutWord_190 G v1 v2 v3 v4 v5 v6 v7 σ P := by
  refine r_iload (q := 192) (dc dt_MO_cutWord 103 rfl) rfl 7 rfl ?_
  refine r_iload (q := 194) (dc dt_MO_cutWord 104 rfl) rfl 4 rfl ?_
  refine r_iload (q := 196) (dc dt_MO_cutWord 105 rfl) rfl 6 rfl ?_
  refine r_iadd (q := 197) (dc dt_MO_cutWord 106 rfl) rfl ?_
  obtain ⟨o72, h⟩ := h
  obtain ⟨o73, h⟩ := h
  refine r_icmp_ge (q := 200) (t := 222) (dc dt_MO_cutWord 107 rfl) rfl (by decide) o72 o73 (fun q_ => ?_) (fun q_ => ?_)
  · have h := h.1 q_
    refine r_aload_n (q := 223) (dc dt_MO_cutWord 119 rfl) rfl rfl 0 rfl ?_
    refine r_iload (q := 225) (dc dt_MO_cutWord 120 rfl) rfl 5 rfl ?_
    obtain ⟨o77, h⟩ := h
    have hJ : ∀ (w_0 : Int), w_0 = (if 0 ≤ v5 then 1 else 0) → A G m_MO_cutWord 233 [(0, O 8), (1, I v1), (2, I v2), (3, I v3), (4, I v4), (5, I v5), (6, I v6), (7, I v7)] [I w_0, O 8] σ P := by
      intro w_0 z_0
      subst z_0
      refine r_iload (q := 235) (dc dt_MO_cutWord 125 rfl) rfl 5 rfl ?_
      obtain ⟨ho, h⟩ := h
      have hJ : ∀ (w_0 : Int), w_0 = (if 0 ≤ v5 then v5 else σ.1 106 ((σ.1 123 v4.toNat).toNat)) → A G m_MO_cutWord 255 [(0, O 8), (1, I v1), (2, I v2), (3, I v3), (4, I v4), (5, I v5), (6, I v6), (7, I v7)] [I w_0, I (if 0 ≤ v5 then 1 else 0), O 8] σ P := by
        intro w_0 z_0
        subst z_0
        refine r_aload_n (q := 256) (dc dt_MO_cutWord 136 rfl) rfl rfl 0 rfl ?_
        refine r_getO (q := 259) (v := 123) fl_MO_113 (dc dt_MO_cutWord 137 rfl) rfl ly8 rfl ?_
        refine r_iload (q := 261) (dc dt_MO_cutWord 138 rfl) rfl 4 rfl ?_
        obtain ⟨o82, h⟩ := h
        refine r_iald (q := 262) (v := σ.1 123 v4.toNat) (dc dt_MO_cutWord 139 rfl) rfl ly123 o82 rfl (fun g83 => ?_)
        refine r_iload (q := 264) (dc dt_MO_cutWord 140 rfl) rfl 6 rfl ?_
        refine r_callVv (q := 267) mk_MO_base lm_MO_347 (RMO.of rfl) rfl (dc dt_MO_cutWord 141 rfl) rfl ly8 [I (if 0 ≤ v5 then 1 else 0), I (if 0 ≤ v5 then v5 else σ.1 106 ((σ.1 123 v4.toNat).toNat)), I (σ.1 123 v4.toNat), I v6] [] rfl rfl (Nat.le_of_ble_eq_true rfl) h (fun u84 h => ?_)
        refine r_aload_n (q := 268) (dc dt_MO_cutWord 142 rfl) rfl rfl 0 rfl ?_
        refine r_getO (q := 271) (v := 121) fl_MO_107 (dc dt_MO_cutWord 143 rfl) rfl ly8 rfl ?_
        refine r_aload_n (q := 272) (dc dt_MO_cutWord 144 rfl) rfl rfl 0 rfl ?_
        refine r_getI (q := 275) (v := u84.2.1 8 35) fl_MO_341 (dc dt_MO_cutWord 145 rfl) rfl ly8 rfl rfl (fun g85 => ?_)
        refine r_iconst (q := 276) (dc dt_MO_cutWord 146 rfl) rfl rfl ?_
        refine r_isub (q := 277) (dc dt_MO_cutWord 147 rfl) rfl ?_
        refine r_iload (q := 279) (dc dt_MO_cutWord 148 rfl) rfl 4 rfl ?_
        obtain ⟨o86, h⟩ := h
        obtain ⟨ho, h⟩ := h
        have hJ : ∀ (w_0 : Int), w_0 = (if 0 < v4 ∧ (u84.1 89 (u84.1 106 ((u84.1 123 ((v4 - 1).toNat)).toNat)).toNat = 0 ∧ (u84.1 89 (u84.1 106 ((u84.1 123 v4.toNat).toNat)).toNat = 0 ∨ u84.1 89 (u84.1 106 ((u84.1 123 v4.toNat).toNat)).toNat = 1)) then 1 else 0) → A G m_MO_cutWord 320 [(0, O 8), (1, I v1), (2, I v2), (3, I v3), (4, I v4), (5, I v5), (6, I v6), (7, I v7)] [I w_0, I ((u84.2.1 8 35) - 1), O 121] u84 P := by
          intro w_0 z_0
          subst z_0
          obtain ⟨o97, h⟩ := h
          refine r_zast (q := 321) (dc dt_MO_cutWord 172 rfl) rfl ly121 o97 b01_or (fun σ98 e99 => ?_)
          have h := h σ98 e99
          refine r_aload_n (q := 322) (dc dt_MO_cutWord 173 rfl) rfl rfl 0 rfl ?_
          refine r_getO (q := 325) (v := 122) fl_MO_110 (dc dt_MO_cutWord 174 rfl) rfl ly8 rfl ?_
          refine r_aload_n (q := 326) (dc dt_MO_cutWord 175 rfl) rfl rfl 0 rfl ?_
          refine r_getI (q := 329) (v := u84.2.1 8 35) fl_MO_341 (dc dt_MO_cutWord 176 rfl) rfl ly8 rfl (by rw [e99]; rfl) (fun g100 => ?_)
          refine r_iconst (q := 330) (dc dt_MO_cutWord 177 rfl) rfl rfl ?_
          refine r_isub (q := 331) (dc dt_MO_cutWord 178 rfl) rfl ?_
          refine r_iload (q := 333) (dc dt_MO_cutWord 179 rfl) rfl 4 rfl ?_
          refine r_iload (q := 335) (dc dt_MO_cutWord 180 rfl) rfl 6 rfl ?_
          refine r_iadd (q := 336) (dc dt_MO_cutWord 181 rfl) rfl ?_
          refine r_iload_n (q := 337) (dc dt_MO_cutWord 182 rfl) rfl rfl 3 rfl ?_
          obtain ⟨o101, h⟩ := h
          obtain ⟨ho, h⟩ := h
          have hJ : ∀ (w_0 : Int), w_0 = (if v4 + v6 < v3 ∧ (σ98.1 89 (u84.1 106 ((u84.1 123 (((v4 + v6) - 1).toNat)).toNat)).toNat = 0 ∧ (σ98.1 89 (u84.1 106 ((u84.1 123 ((v4 + v6).toNat)).toNat)).toNat = 0 ∨ σ98.1 89 (u84.1 106 ((u84.1 123 ((v4 + v6).toNat)).toNat)).toNat = 1)) then 1 else 0) → A G m_MO_cutWord 384 [(0, O 8), (1, I v1), (2, I v2), (3, I v3), (4, I v4), (5, I v5), (6, I v6), (7, I v7)] [I w_0, I ((u84.2.1 8 35) - 1), O 122] σ98 P := by
            intro w_0 z_0
            subst z_0
            refine r_zast (q := 385) (dc dt_MO_cutWord 210 rfl) rfl ly122 o97 b01_or (fun σ113 e114 => ?_)
            have h := h σ113 e114
            refine r_iload (q := 387) (dc dt_MO_cutWord 211 rfl) rfl 4 rfl ?_
            refine r_iload (q := 389) (dc dt_MO_cutWord 212 rfl) rfl 6 rfl ?_
            refine r_iadd (q := 390) (dc dt_MO_cutWord 213 rfl) rfl ?_
            refine r_istore (q := 392) (dc dt_MO_cutWord 214 rfl) rfl (by decide) rfl ?_
            refine r_goto (q := 154) (dc dt_MO_cutWord 215 rfl) (by decide) ?_
            exact r_loc [1, 2, 3, 4, 0] rfl h
          clear h
          refine r_icmp_ge (q := 340) (t := 383) (dc dt_MO_cutWord 183 rfl) rfl (by decide) o73 o101 (fun q_ => ?_) (fun q_ => ?_)
          · have q124 := q_
            refine r_iconst (q := 384) (dc dt_MO_cutWord 209 rfl) rfl rfl ?_
            exact (hJ 0 ((if_neg (by first | omega | grind)).symm))
          · have q124 := q_
            have ho := ho q_
            refine r_aload_n (q := 341) (dc dt_MO_cutWord 184 rfl) rfl rfl 0 rfl ?_
            refine r_aload_n (q := 342) (dc dt_MO_cutWord 185 rfl) rfl rfl 0 rfl ?_
            refine r_getO (q := 345) (v := 106) fl_MO_62 (dc dt_MO_cutWord 186 rfl) rfl ly8 rfl ?_
            refine r_aload_n (q := 346) (dc dt_MO_cutWord 187 rfl) rfl rfl 0 rfl ?_
            refine r_getO (q := 349) (v := 123) fl_MO_113 (dc dt_MO_cutWord 188 rfl) rfl ly8 rfl ?_
            refine r_iload (q := 351) (dc dt_MO_cutWord 189 rfl) rfl 4 rfl ?_
            refine r_iload (q := 353) (dc dt_MO_cutWord 190 rfl) rfl 6 rfl ?_
            refine r_iadd (q := 354) (dc dt_MO_cutWord 191 rfl) rfl ?_
            refine r_iconst (q := 355) (dc dt_MO_cutWord 192 rfl) rfl rfl ?_
            refine r_isub (q := 356) (dc dt_MO_cutWord 193 rfl) rfl ?_
            obtain ⟨o102, ho⟩ := ho
            refine r_iald (q := 357) (v := u84.1 123 (((v4 + v6) - 1).toNat)) (dc dt_MO_cutWord 194 rfl) rfl ly123 o102 (by rw [e99]; rfl) (fun g103 => ?_)
            obtain ⟨o104, ho⟩ := ho
            refine r_iald (q := 358) (v := u84.1 106 ((u84.1 123 (((v4 + v6) - 1).toNat)).toNat)) (dc dt_MO_cutWord 195 rfl) rfl ly106 o104 (by rw [e99]; rfl) (fun g105 => ?_)
            refine r_aload_n (q := 359) (dc dt_MO_cutWord 196 rfl) rfl rfl 0 rfl ?_
            refine r_getO (q := 362) (v := 106) fl_MO_62 (dc dt_MO_cutWord 197 rfl) rfl ly8 rfl ?_
            refine r_aload_n (q := 363) (dc dt_MO_cutWord 198 rfl) rfl rfl 0 rfl ?_
            refine r_getO (q := 366) (v := 123) fl_MO_113 (dc dt_MO_cutWord 199 rfl) rfl ly8 rfl ?_
            refine r_iload (q := 368) (dc dt_MO_cutWord 200 rfl) rfl 4 rfl ?_
            refine r_iload (q := 370) (dc dt_MO_cutWord 201 rfl) rfl 6 rfl ?_
            refine r_iadd (q := 371) (dc dt_MO_cutWord 202 rfl) rfl ?_
            obtain ⟨o106, ho⟩ := ho
            refine r_iald (q := 372) (v := u84.1 123 ((v4 + v6).toNat)) (dc dt_MO_cutWord 203 rfl) rfl ly123 o106 (by rw [e99]; rfl) (fun g107 => ?_)
            obtain ⟨o108, ho⟩ := ho
            refine r_iald (q := 373) (v := u84.1 106 ((u84.1 123 ((v4 + v6).toNat)).toNat)) (dc dt_MO_cutWord 204 rfl) rfl ly106 o108 (by rw [e99]; rfl) (fun g109 => ?_)
            obtain ⟨o110, ho⟩ := ho
            have o111 := ho
            refine r_callVi (q := 376) mk_MO_joined lm_MO_360 (RMO.of rfl) rfl (dc dt_MO_cutWord 205 rfl) rfl ly8 [I (u84.1 106 ((u84.1 123 (((v4 + v6) - 1).toNat)).toNat)), I (u84.1 106 ((u84.1 123 ((v4 + v6).toNat)).toNat))] [I ((u84.2.1 8 35) - 1), O 122] rfl rfl (Nat.le_of_ble_eq_true rfl) (sp_MO_joined o110 o111) (fun _ _ g112 z => ?_)
            obtain ⟨z, w⟩ := z
            subst z
            replace w := w.symm
            subst w
            refine r_ifb_eq (q := 379) (t := 383) (dc dt_MO_cutWord 206 rfl) rfl (by decide) (fun q_ => ?_) (fun q_ => ?_)
            · have q125 := q_
              refine r_iconst (q := 384) (dc dt_MO_cutWord 209 rfl) rfl rfl ?_
              exact (hJ 0 ((if_neg (by first | omega | grind)).symm))
            · have q125 := q_
              refine r_iconst (q := 380) (dc dt_MO_cutWord 207 rfl) rfl rfl ?_
              refine r_goto (q := 384) (dc dt_MO_cutWord 208 rfl) (by decide) ?_
              exact (hJ 1 ((if_pos (by first | omega | grind)).symm))
        clear h
        refine r_if_le (q := 282) (t := 319) (dc dt_MO_cutWord 149 rfl) rfl (by decide) o86 (fun q_ => ?_) (fun q_ => ?_)
        · have q126 := q_
          refine r_iconst (q := 320) (dc dt_MO_cutWord 171 rfl) rfl rfl ?_
          exact (hJ 0 ((if_neg (by first | omega | grind)).symm))
        · have q126 := q_
          have ho := ho q_
          refine r_aload_n (q := 283) (dc dt_MO_cutWord 150 rfl) rfl rfl 0 rfl ?_
          refine r_aload_n (q := 284) (dc dt_MO_cutWord 151 rfl) rfl rfl 0 rfl ?_
          refine r_getO (q := 287) (v := 106) fl_MO_62 (dc dt_MO_cutWord 152 rfl) rfl ly8 rfl ?_
          refine r_aload_n (q := 288) (dc dt_MO_cutWord 153 rfl) rfl rfl 0 rfl ?_
          refine r_getO (q := 291) (v := 123) fl_MO_113 (dc dt_MO_cutWord 154 rfl) rfl ly8 rfl ?_
          refine r_iload (q := 293) (dc dt_MO_cutWord 155 rfl) rfl 4 rfl ?_
          refine r_iconst (q := 294) (dc dt_MO_cutWord 156 rfl) rfl rfl ?_
          refine r_isub (q := 295) (dc dt_MO_cutWord 157 rfl) rfl ?_
          obtain ⟨o87, ho⟩ := ho
          refine r_iald (q := 296) (v := u84.1 123 ((v4 - 1).toNat)) (dc dt_MO_cutWord 158 rfl) rfl ly123 o87 rfl (fun g88 => ?_)
          obtain ⟨o89, ho⟩ := ho
          refine r_iald (q := 297) (v := u84.1 106 ((u84.1 123 ((v4 - 1).toNat)).toNat)) (dc dt_MO_cutWord 159 rfl) rfl ly106 o89 rfl (fun g90 => ?_)
          refine r_aload_n (q := 298) (dc dt_MO_cutWord 160 rfl) rfl rfl 0 rfl ?_
          refine r_getO (q := 301) (v := 106) fl_MO_62 (dc dt_MO_cutWord 161 rfl) rfl ly8 rfl ?_
          refine r_aload_n (q := 302) (dc dt_MO_cutWord 162 rfl) rfl rfl 0 rfl ?_
          refine r_getO (q := 305) (v := 123) fl_MO_113 (dc dt_MO_cutWord 163 rfl) rfl ly8 rfl ?_
          refine r_iload (q := 307) (dc dt_MO_cutWord 164 rfl) rfl 4 rfl ?_
          refine r_iald (q := 308) (v := u84.1 123 v4.toNat) (dc dt_MO_cutWord 165 rfl) rfl ly123 o82 rfl (fun g91 => ?_)
          obtain ⟨o92, ho⟩ := ho
          refine r_iald (q := 309) (v := u84.1 106 ((u84.1 123 v4.toNat).toNat)) (dc dt_MO_cutWord 166 rfl) rfl ly106 o92 rfl (fun g93 => ?_)
          obtain ⟨o94, ho⟩ := ho
          have o95 := ho
          refine r_callVi (q := 312) mk_MO_joined lm_MO_360 (RMO.of rfl) rfl (dc dt_MO_cutWord 167 rfl) rfl ly8 [I (u84.1 106 ((u84.1 123 ((v4 - 1).toNat)).toNat)), I (u84.1 106 ((u84.1 123 v4.toNat).toNat))] [I ((u84.2.1 8 35) - 1), O 121] rfl rfl (Nat.le_of_ble_eq_true rfl) (sp_MO_joined o94 o95) (fun _ _ g96 z => ?_)
          obtain ⟨z, w⟩ := z
          subst z
          replace w := w.symm
          subst w
          refine r_ifb_eq (q := 315) (t := 319) (dc dt_MO_cutWord 168 rfl) rfl (by decide) (fun q_ => ?_) (fun q_ => ?_)
          · have q127 := q_
            refine r_iconst (q := 320) (dc dt_MO_cutWord 171 rfl) rfl rfl ?_
            exact (hJ 0 ((if_neg (by first | omega | grind)).symm))
          · have q127 := q_
            refine r_iconst (q := 316) (dc dt_MO_cutWord 169 rfl) rfl rfl ?_
            refine r_goto (q := 320) (dc dt_MO_cutWord 170 rfl) (by decide) ?_
            exact (hJ 1 ((if_pos (by first | omega | grind)).symm))
      clear h
      refine r_if_ge (q := 238) (t := 253) (dc dt_MO_cutWord 126 rfl) rfl (by decide) o77 (fun q_ => ?_) (fun q_ => ?_)
      · have q128 := q_
        refine r_iload (q := 255) (dc dt_MO_cutWord 135 rfl) rfl 5 rfl ?_
        exact (hJ v5 ((if_pos (by first | omega | grind)).symm))
      · have q128 := q_
        have ho := ho q_
        refine r_aload_n (q := 239) (dc dt_MO_cutWord 127 rfl) rfl rfl 0 rfl ?_
        refine r_getO (q := 242) (v := 106) fl_MO_62 (dc dt_MO_cutWord 128 rfl) rfl ly8 rfl ?_
        refine r_aload_n (q := 243) (dc dt_MO_cutWord 129 rfl) rfl rfl 0 rfl ?_
        refine r_getO (q := 246) (v := 123) fl_MO_113 (dc dt_MO_cutWord 130 rfl) rfl ly8 rfl ?_
        refine r_iload (q := 248) (dc dt_MO_cutWord 131 rfl) rfl 4 rfl ?_
        obtain ⟨o78, ho⟩ := ho
        refine r_iald (q := 249) (v := σ.1 123 v4.toNat) (dc dt_MO_cutWord 132 rfl) rfl ly123 o78 rfl (fun g79 => ?_)
        have o80 := ho
        refine r_iald (q := 250) (v := σ.1 106 ((σ.1 123 v4.toNat).toNat)) (dc dt_MO_cutWord 133 rfl) rfl ly106 o80 rfl (fun g81 => ?_)
        refine r_goto (q := 255) (dc dt_MO_cutWord 134 rfl) (by decide) ?_
        exact (hJ (σ.1 106 ((σ.1 123 v4.toNat).toNat)) ((if_neg (by first | omega | grind)).symm))
    clear h
    refine r_if_ge (q := 228) (t := 232) (dc dt_MO_cutWord 121 rfl) rfl (by decide) o77 (fun q_ => ?_) (fun q_ => ?_)
    · have q129 := q_
      refine r_iconst (q := 233) (dc dt_MO_cutWord 124 rfl) rfl rfl ?_
      exact (hJ 1 ((if_pos (by first | omega | grind)).symm))
    · have q129 := q_
      refine r_iconst (q := 229) (dc dt_MO_cutWord 122 rfl) rfl rfl ?_
      refine r_goto (q := 233) (dc dt_MO_cutWord 123 rfl) (by decide) ?_
      exact (hJ 0 ((if_neg (by first | omega | grind)).symm))
  · have h := h.2 q_
    refine r_aload_n (q := 201) (dc dt_MO_cutWord 108 rfl) rfl rfl 0 rfl ?_
    refine r_getO (q := 204) (v := 115) fl_MO_89 (dc dt_MO_cutWord 109 rfl) rfl ly8 rfl ?_
    refine r_aload_n (q := 205) (dc dt_MO_cutWord 110 rfl) rfl rfl 0 rfl ?_
    refine r_getO (q := 208) (v := 123) fl_MO_113 (dc dt_MO_cutWord 111 rfl) rfl ly8 rfl ?_
    refine r_iload (q := 210) (dc dt_MO_cutWord 112 rfl) rfl 7 rfl ?_
    obtain ⟨o115, h⟩ := h
    refine r_iald (q := 211) (v := σ.1 123 v7.toNat) (dc dt_MO_cutWord 113 rfl) rfl ly123 o115 rfl (fun g116 => ?_)
    refine r_aload_n (q := 212) (dc dt_MO_cutWord 114 rfl) rfl rfl 0 rfl ?_
    refine r_getI (q := 215) (v := σ.2.1 8 35) fl_MO_341 (dc dt_MO_cutWord 115 rfl) rfl ly8 rfl rfl (fun g117 => ?_)
    obtain ⟨o118, h⟩ := h
    refine r_iast (q := 216) (dc dt_MO_cutWord 116 rfl) rfl ly115 o118 g117 (fun σ119 e120 => ?_)
    have h := h σ119 e120
    refine r_iinc (q := 219) (k := 7) (dc dt_MO_cutWord 117 rfl) rfl rfl (by decide) rfl ?_
    refine r_goto (q := 190) (dc dt_MO_cutWord 118 rfl) (by decide) ?_
    exact r_loc [1, 2, 3, 4, 5, 6, 7, 0] rfl h
def tb_MO_cut : List (Nat × Instr × Nat) := [(0, .aload_n 0, 1), (1, .getfield 273, 3), (4, .ifCond .eq 4, 3), (7, .return_, 1), (8, .aload_n 0, 1), (9, .iconst 1, 1), (10, .putfield 273, 3), (13, .aload_n 0, 1), (14, .iconst 0, 1), (15, .putfield 344, 3), (18, .aload_n 0, 1), (19, .iconst 0, 1), (20, .putfield 341, 3), (23, .iconst 0, 1), (24, .istore_n 1, 1), (25, .iload_n 1, 1), (26, .aload_n 0, 1), (27, .getfield 320, 3), (30, .if_icmp .ge 106, 3), (33, .aload_n 0, 1), (34, .getfield 7, 3), (37, .aload_n 0, 1), (38, .getfield 62, 3), (41, .iload_n 1, 1), (42, .iaload, 1), (43, .iaload, 1), (44, .bipush 6, 2), (46, .if_icmp .ne 47, 3), (49, .aload_n 0, 1), (50, .getfield 86, 3), (53, .iload_n 1, 1), (54, .bipush (-6), 2), (56, .iastore, 1), (57, .aload_n 0, 1), (58, .getfield 89, 3), (61, .iload_n 1, 1), (62, .aload_n 0, 1), (63, .getfield 341, 3), (66, .iastore, 1), (67, .aload_n 0, 1), (68, .getfield 92, 3), (71, .iload_n 1, 1), (72, .iconst 0, 1), (73, .bastore, 1), (74, .aload_n 0, 1), (75, .iconst 3, 1), (76, .aload_n 0, 1), (77, .getfield 62, 3), (80, .iload_n 1, 1), (81, .iaload, 1), (82, .iload_n 1, 1), (83, .iconst 1, 1), (84, .invokevirtual 347, 3), (87, .iinc 1 1, 3), (90, .goto (-65), 3), (93, .iload_n 1, 1), (94, .istore_n 2, 1), (95, .iload_n 2, 1), (96, .aload_n 0, 1), (97, .getfield 320, 3), (100, .if_icmp .ge 25, 3), (103, .aload_n 0, 1), (104, .getfield 7, 3), (107, .aload_n 0, 1), (108, .getfield 62, 3), (111, .iload_n 2, 1), (112, .iaload, 1), (113, .iaload, 1), (114, .bipush 6, 2), (116, .if_icmp .eq 9, 3), (119, .iinc 2 1, 3), (122, .goto (-27), 3), (125, .aload_n 0, 1), (126, .iload_n 1, 1), (127, .iload_n 2, 1), (128, .invokevirtual 351, 3), (131, .iload_n 2, 1), (132, .istore_n 1, 1), (133, .goto (-108), 3), (136, .return_, 1)]
theorem dt_MO_cut : DT (cM m_MO_cut) tb_MO_cut := by unfold DT; decide +kernel
abbrev a_MO_cut_0 (G : GT)   (σ : St) (P : Int → St → Prop) : Prop := A G m_MO_cut 0 [(0, O 8)] [] σ P
abbrev a_MO_cut_25 (G : GT)  (v1 : Int) (σ : St) (P : Int → St → Prop) : Prop := A G m_MO_cut 25 [(0, O 8), (1, I v1)] [] σ P
abbrev a_MO_cut_95 (G : GT)  (v1 : Int) (v2 : Int) (σ : St) (P : Int → St → Prop) : Prop := A G m_MO_cut 95 [(0, O 8), (1, I v1), (2, I v2)] [] σ P
set_option maxRecDepth 20000 in
theorem k_MO_cut_0 {G : GT} {σ : St} {P : Int → St → Prop}    
    (h : (σ.2.1 8 26 = 0 → (∀ σ2, σ2 = sf σ 8 26 1 → (∀ σ4, σ4 = sf σ2 8 27 0 → (∀ σ6, σ6 = sf σ4 8 35 0 → a_MO_cut_25 G 0 σ6 P)))) ∧ (σ.2.1 8 26 ≠ 0 → P 0 σ)) :
    a_MO_cut_0 G  σ P := by
  refine r_aload_n (q := 1) (dc dt_MO_cut 0 rfl) rfl rfl 0 rfl ?_
  refine r_getI (q := 4) (v := σ.2.1 8 26) fl_MO_273 (dc dt_MO_cut 1 rfl) rfl ly8 rfl rfl (fun g1 => ?_)
  refine r_if_eq (q := 7) (t := 8) (dc dt_MO_cut 2 rfl) rfl (by decide) g1 (fun q_ => ?_) (fun q_ => ?_)
  · have h := h.1 q_
    refine r_aload_n (q := 9) (dc dt_MO_cut 4 rfl) rfl rfl 0 rfl ?_
    refine r_iconst (q := 10) (dc dt_MO_cut 5 rfl) rfl rfl ?_
    refine r_put (q := 13) fl_MO_273 (dc dt_MO_cut 6 rfl) rfl ly8 (fun _ => rfl) (Or.inr ⟨rfl, (by decide)⟩) pf_8_26 (⟨by decide, by decide⟩ : rng 1) (fun σ2 e3 => ?_)
    have h := h σ2 e3
    refine r_aload_n (q := 14) (dc dt_MO_cut 7 rfl) rfl rfl 0 rfl ?_
    refine r_iconst (q := 15) (dc dt_MO_cut 8 rfl) rfl rfl ?_
    refine r_put (q := 18) fl_MO_344 (dc dt_MO_cut 9 rfl) rfl ly8 (fun _ => rfl) (Or.inl rfl) pf_8_27 (⟨by decide, by decide⟩ : rng 0) (fun σ4 e5 => ?_)
    have h := h σ4 e5
    refine r_aload_n (q := 19) (dc dt_MO_cut 10 rfl) rfl rfl 0 rfl ?_
    refine r_iconst (q := 20) (dc dt_MO_cut 11 rfl) rfl rfl ?_
    refine r_put (q := 23) fl_MO_341 (dc dt_MO_cut 12 rfl) rfl ly8 (fun _ => rfl) (Or.inl rfl) pf_8_35 (⟨by decide, by decide⟩ : rng 0) (fun σ6 e7 => ?_)
    have h := h σ6 e7
    refine r_iconst (q := 24) (dc dt_MO_cut 13 rfl) rfl rfl ?_
    refine r_istore_n (q := 25) (dc dt_MO_cut 14 rfl) rfl rfl (by decide) rfl ?_
    exact r_loc [1, 0] rfl h
  · have h := h.2 q_
    exact r_vret rfl (dc dt_MO_cut 3 rfl) h
set_option maxRecDepth 20000 in
theorem k_MO_cut_25 {G : GT} {σ : St} {P : Int → St → Prop}  {v1 : Int}  
    (h : rng v1 ∧ (σ.2.1 8 21 ≤ v1 → P 0 σ) ∧ (v1 < σ.2.1 8 21 → (0 ≤ v1 ∧ v1 < 80) ∧ (0 ≤ σ.1 106 v1.toNat ∧ σ.1 106 v1.toNat < 60) ∧ (σ.1 89 ((σ.1 106 v1.toNat).toNat) ≠ 6 → a_MO_cut_95 G v1 v1 σ P) ∧ (σ.1 89 ((σ.1 106 v1.toNat).toNat) = 6 → (∀ σ18, σ18 = sa σ 114 v1.toNat (-6) → (∀ σ21, σ21 = sa σ18 115 v1.toNat (σ.2.1 8 35) → (∀ σ23, σ23 = sa σ21 116 v1.toNat 0 → CJ G m_MO_base [O 8, I 3, I (σ.1 106 v1.toNat), I v1, I 1] σ23 (fun _ u26 => a_MO_cut_25 G (v1 + 1) u26 P))))))) :
    a_MO_cut_25 G v1 σ P := by
  refine r_iload_n (q := 26) (dc dt_MO_cut 15 rfl) rfl rfl 1 rfl ?_
  refine r_aload_n (q := 27) (dc dt_MO_cut 16 rfl) rfl rfl 0 rfl ?_
  refine r_getI (q := 30) (v := σ.2.1 8 21) fl_MO_320 (dc dt_MO_cut 17 rfl) rfl ly8 rfl rfl (fun g8 => ?_)
  obtain ⟨o9, h⟩ := h
  refine r_icmp_ge (q := 33) (t := 136) (dc dt_MO_cut 18 rfl) rfl (by decide) o9 g8 (fun q_ => ?_) (fun q_ => ?_)
  · have h := h.1 q_
    exact r_vret rfl (dc dt_MO_cut 79 rfl) h
  · have h := h.2 q_
    refine r_aload_n (q := 34) (dc dt_MO_cut 19 rfl) rfl rfl 0 rfl ?_
    refine r_getO (q := 37) (v := 89) fl_MO_7 (dc dt_MO_cut 20 rfl) rfl ly8 rfl ?_
    refine r_aload_n (q := 38) (dc dt_MO_cut 21 rfl) rfl rfl 0 rfl ?_
    refine r_getO (q := 41) (v := 106) fl_MO_62 (dc dt_MO_cut 22 rfl) rfl ly8 rfl ?_
    refine r_iload_n (q := 42) (dc dt_MO_cut 23 rfl) rfl rfl 1 rfl ?_
    obtain ⟨o14, h⟩ := h
    refine r_iald (q := 43) (v := σ.1 106 v1.toNat) (dc dt_MO_cut 24 rfl) rfl ly106 o14 rfl (fun g15 => ?_)
    obtain ⟨o16, h⟩ := h
    refine r_iald (q := 44) (v := σ.1 89 ((σ.1 106 v1.toNat).toNat)) (dc dt_MO_cut 25 rfl) rfl ly89 o16 rfl (fun g17 => ?_)
    refine r_bipush (q := 46) (dc dt_MO_cut 26 rfl) rfl (by decide) ?_
    refine r_icmp_ne (q := 49) (t := 93) (dc dt_MO_cut 27 rfl) rfl (by decide) g17 (⟨by decide, by decide⟩ : rng 6) (fun q_ => ?_) (fun q_ => ?_)
    · have h := h.1 q_
      refine r_iload_n (q := 94) (dc dt_MO_cut 55 rfl) rfl rfl 1 rfl ?_
      refine r_istore_n (q := 95) (dc dt_MO_cut 56 rfl) rfl rfl (by decide) rfl ?_
      exact r_loc [1, 2, 0] rfl h
    · have h := h.2 q_
      refine r_aload_n (q := 50) (dc dt_MO_cut 28 rfl) rfl rfl 0 rfl ?_
      refine r_getO (q := 53) (v := 114) fl_MO_86 (dc dt_MO_cut 29 rfl) rfl ly8 rfl ?_
      refine r_iload_n (q := 54) (dc dt_MO_cut 30 rfl) rfl rfl 1 rfl ?_
      refine r_bipush (q := 56) (dc dt_MO_cut 31 rfl) rfl (by decide) ?_
      refine r_iast (q := 57) (dc dt_MO_cut 32 rfl) rfl ly114 o14 (⟨by decide, by decide⟩ : rng (-6)) (fun σ18 e19 => ?_)
      have h := h σ18 e19
      refine r_aload_n (q := 58) (dc dt_MO_cut 33 rfl) rfl rfl 0 rfl ?_
      refine r_getO (q := 61) (v := 115) fl_MO_89 (dc dt_MO_cut 34 rfl) rfl ly8 rfl ?_
      refine r_iload_n (q := 62) (dc dt_MO_cut 35 rfl) rfl rfl 1 rfl ?_
      refine r_aload_n (q := 63) (dc dt_MO_cut 36 rfl) rfl rfl 0 rfl ?_
      refine r_getI (q := 66) (v := σ.2.1 8 35) fl_MO_341 (dc dt_MO_cut 37 rfl) rfl ly8 rfl (by rw [e19]; rfl) (fun g20 => ?_)
      refine r_iast (q := 67) (dc dt_MO_cut 38 rfl) rfl ly115 o14 g20 (fun σ21 e22 => ?_)
      have h := h σ21 e22
      refine r_aload_n (q := 68) (dc dt_MO_cut 39 rfl) rfl rfl 0 rfl ?_
      refine r_getO (q := 71) (v := 116) fl_MO_92 (dc dt_MO_cut 40 rfl) rfl ly8 rfl ?_
      refine r_iload_n (q := 72) (dc dt_MO_cut 41 rfl) rfl rfl 1 rfl ?_
      refine r_iconst (q := 73) (dc dt_MO_cut 42 rfl) rfl rfl ?_
      refine r_zast (q := 74) (dc dt_MO_cut 43 rfl) rfl ly116 o14 (by decide) (fun σ23 e24 => ?_)
      have h := h σ23 e24
      refine r_aload_n (q := 75) (dc dt_MO_cut 44 rfl) rfl rfl 0 rfl ?_
      refine r_iconst (q := 76) (dc dt_MO_cut 45 rfl) rfl rfl ?_
      refine r_aload_n (q := 77) (dc dt_MO_cut 46 rfl) rfl rfl 0 rfl ?_
      refine r_getO (q := 80) (v := 106) fl_MO_62 (dc dt_MO_cut 47 rfl) rfl ly8 rfl ?_
      refine r_iload_n (q := 81) (dc dt_MO_cut 48 rfl) rfl rfl 1 rfl ?_
      refine r_iald (q := 82) (v := σ.1 106 v1.toNat) (dc dt_MO_cut 49 rfl) rfl ly106 o14 (by rw [e24, e22, e19]; rfl) (fun g25 => ?_)
      refine r_iload_n (q := 83) (dc dt_MO_cut 50 rfl) rfl rfl 1 rfl ?_
      refine r_iconst (q := 84) (dc dt_MO_cut 51 rfl) rfl rfl ?_
      refine r_callVv (q := 87) mk_MO_base lm_MO_347 (RMO.of rfl) rfl (dc dt_MO_cut 52 rfl) rfl ly8 [I 3, I (σ.1 106 v1.toNat), I v1, I 1] [] rfl rfl (Nat.le_of_ble_eq_true rfl) h (fun u26 h => ?_)
      refine r_iinc (q := 90) (k := 1) (dc dt_MO_cut 53 rfl) rfl rfl (by decide) rfl ?_
      refine r_goto (q := 25) (dc dt_MO_cut 54 rfl) (by decide) ?_
      exact r_loc [1, 0] rfl h
set_option maxRecDepth 20000 in
theorem k_MO_cut_95 {G : GT} {σ : St} {P : Int → St → Prop}  {v1 : Int} {v2 : Int}  
    (h : rng v2 ∧ (σ.2.1 8 21 ≤ v2 → CJ G m_MO_cutWord [O 8, I v1, I v2] σ (fun _ u33 => a_MO_cut_25 G v2 u33 P)) ∧ (v2 < σ.2.1 8 21 → (0 ≤ v2 ∧ v2 < 80) ∧ (0 ≤ σ.1 106 v2.toNat ∧ σ.1 106 v2.toNat < 60) ∧ (σ.1 89 ((σ.1 106 v2.toNat).toNat) = 6 → CJ G m_MO_cutWord [O 8, I v1, I v2] σ (fun _ u38 => a_MO_cut_25 G v2 u38 P)) ∧ (σ.1 89 ((σ.1 106 v2.toNat).toNat) ≠ 6 → a_MO_cut_95 G v1 (v2 + 1) σ P))) :
    a_MO_cut_95 G v1 v2 σ P := by
  refine r_iload_n (q := 96) (dc dt_MO_cut 57 rfl) rfl rfl 2 rfl ?_
  refine r_aload_n (q := 97) (dc dt_MO_cut 58 rfl) rfl rfl 0 rfl ?_
  refine r_getI (q := 100) (v := σ.2.1 8 21) fl_MO_320 (dc dt_MO_cut 59 rfl) rfl ly8 rfl rfl (fun g27 => ?_)
  obtain ⟨o28, h⟩ := h
  refine r_icmp_ge (q := 103) (t := 125) (dc dt_MO_cut 60 rfl) rfl (by decide) o28 g27 (fun q_ => ?_) (fun q_ => ?_)
  · have h := h.1 q_
    refine r_aload_n (q := 126) (dc dt_MO_cut 72 rfl) rfl rfl 0 rfl ?_
    refine r_iload_n (q := 127) (dc dt_MO_cut 73 rfl) rfl rfl 1 rfl ?_
    refine r_iload_n (q := 128) (dc dt_MO_cut 74 rfl) rfl rfl 2 rfl ?_
    refine r_callVv (q := 131) mk_MO_cutWord lm_MO_351 (RMO.of rfl) rfl (dc dt_MO_cut 75 rfl) rfl ly8 [I v1, I v2] [] rfl rfl (Nat.le_of_ble_eq_true rfl) h (fun u33 h => ?_)
    refine r_iload_n (q := 132) (dc dt_MO_cut 76 rfl) rfl rfl 2 rfl ?_
    refine r_istore_n (q := 133) (dc dt_MO_cut 77 rfl) rfl rfl (by decide) rfl ?_
    refine r_goto (q := 25) (dc dt_MO_cut 78 rfl) (by decide) ?_
    exact r_loc [1, 0] rfl h
  · have h := h.2 q_
    refine r_aload_n (q := 104) (dc dt_MO_cut 61 rfl) rfl rfl 0 rfl ?_
    refine r_getO (q := 107) (v := 89) fl_MO_7 (dc dt_MO_cut 62 rfl) rfl ly8 rfl ?_
    refine r_aload_n (q := 108) (dc dt_MO_cut 63 rfl) rfl rfl 0 rfl ?_
    refine r_getO (q := 111) (v := 106) fl_MO_62 (dc dt_MO_cut 64 rfl) rfl ly8 rfl ?_
    refine r_iload_n (q := 112) (dc dt_MO_cut 65 rfl) rfl rfl 2 rfl ?_
    obtain ⟨o34, h⟩ := h
    refine r_iald (q := 113) (v := σ.1 106 v2.toNat) (dc dt_MO_cut 66 rfl) rfl ly106 o34 rfl (fun g35 => ?_)
    obtain ⟨o36, h⟩ := h
    refine r_iald (q := 114) (v := σ.1 89 ((σ.1 106 v2.toNat).toNat)) (dc dt_MO_cut 67 rfl) rfl ly89 o36 rfl (fun g37 => ?_)
    refine r_bipush (q := 116) (dc dt_MO_cut 68 rfl) rfl (by decide) ?_
    refine r_icmp_eq (q := 119) (t := 125) (dc dt_MO_cut 69 rfl) rfl (by decide) g37 (⟨by decide, by decide⟩ : rng 6) (fun q_ => ?_) (fun q_ => ?_)
    · have h := h.1 q_
      refine r_aload_n (q := 126) (dc dt_MO_cut 72 rfl) rfl rfl 0 rfl ?_
      refine r_iload_n (q := 127) (dc dt_MO_cut 73 rfl) rfl rfl 1 rfl ?_
      refine r_iload_n (q := 128) (dc dt_MO_cut 74 rfl) rfl rfl 2 rfl ?_
      refine r_callVv (q := 131) mk_MO_cutWord lm_MO_351 (RMO.of rfl) rfl (dc dt_MO_cut 75 rfl) rfl ly8 [I v1, I v2] [] rfl rfl (Nat.le_of_ble_eq_true rfl) h (fun u38 h => ?_)
      refine r_iload_n (q := 132) (dc dt_MO_cut 76 rfl) rfl rfl 2 rfl ?_
      refine r_istore_n (q := 133) (dc dt_MO_cut 77 rfl) rfl rfl (by decide) rfl ?_
      refine r_goto (q := 25) (dc dt_MO_cut 78 rfl) (by decide) ?_
      exact r_loc [1, 0] rfl h
    · have h := h.2 q_
      refine r_iinc (q := 122) (k := 2) (dc dt_MO_cut 70 rfl) rfl rfl (by decide) rfl ?_
      refine r_goto (q := 95) (dc dt_MO_cut 71 rfl) (by decide) ?_
      exact r_loc [1, 2, 0] rfl h
def tb_MO_placeOf : List (Nat × Instr × Nat) := [(0, .aload_n 0, 1), (1, .getfield 107, 3), (4, .iload_n 1, 1), (5, .baload, 1), (6, .ifCond .eq 20, 3), (9, .aload_n 0, 1), (10, .getfield 110, 3), (13, .iload_n 2, 1), (14, .baload, 1), (15, .ifCond .eq 7, 3), (18, .iconst 2, 1), (19, .goto 21, 3), (22, .iconst 3, 1), (23, .goto 17, 3), (26, .aload_n 0, 1), (27, .getfield 110, 3), (30, .iload_n 2, 1), (31, .baload, 1), (32, .ifCond .eq 7, 3), (35, .iconst 1, 1), (36, .goto 4, 3), (39, .iconst 0, 1), (40, .ireturn, 1)]
theorem dt_MO_placeOf : DT (cM m_MO_placeOf) tb_MO_placeOf := by unfold DT; decide +kernel
abbrev a_MO_placeOf_0 (G : GT)  (v1 : Int) (v2 : Int) (σ : St) (P : Int → St → Prop) : Prop := A G m_MO_placeOf 0 [(0, O 8), (1, I v1), (2, I v2)] [] σ P
set_option maxRecDepth 20000 in
theorem k_MO_placeOf_0 {G : GT} {σ : St} {P : Int → St → Prop}  {v1 : Int} {v2 : Int}  
    (h : (0 ≤ v1 ∧ v1 < 80) ∧ ((σ.1 121 v1.toNat = 0 → 0 ≤ v2 ∧ v2 < 80) ∧ (σ.1 121 v1.toNat ≠ 0 → 0 ≤ v2 ∧ v2 < 80)) ∧ rng (if σ.1 121 v1.toNat = 0 then (if σ.1 122 v2.toNat = 0 then (0 : Int) else (1 : Int)) else if σ.1 122 v2.toNat = 0 then (3 : Int) else (2 : Int)) ∧ P (if σ.1 121 v1.toNat = 0 then (if σ.1 122 v2.toNat = 0 then (0 : Int) else (1 : Int)) else if σ.1 122 v2.toNat = 0 then (3 : Int) else (2 : Int)) σ) :
    a_MO_placeOf_0 G v1 v2 σ P := by
  refine r_aload_n (q := 1) (dc dt_MO_placeOf 0 rfl) rfl rfl 0 rfl ?_
  refine r_getO (q := 4) (v := 121) fl_MO_107 (dc dt_MO_placeOf 1 rfl) rfl ly8 rfl ?_
  refine r_iload_n (q := 5) (dc dt_MO_placeOf 2 rfl) rfl rfl 1 rfl ?_
  obtain ⟨o1, h⟩ := h
  refine r_zald (q := 6) (v := σ.1 121 v1.toNat) (dc dt_MO_placeOf 3 rfl) rfl ly121 o1 rfl (fun g2 => ?_)
  obtain ⟨ho, h⟩ := h
  have hJ : ∀ (w_0 : Int), w_0 = (if σ.1 121 v1.toNat = 0 then (if σ.1 122 v2.toNat = 0 then (0 : Int) else (1 : Int)) else if σ.1 122 v2.toNat = 0 then (3 : Int) else (2 : Int)) → A G m_MO_placeOf 40 [(0, O 8), (1, I v1), (2, I v2)] [I w_0] σ P := by
    intro w_0 z_0
    subst z_0
    obtain ⟨o7, h⟩ := h
    exact r_iret rfl (dc dt_MO_placeOf 22 rfl) o7 h
  clear h
  refine r_if_eq (q := 9) (t := 26) (dc dt_MO_placeOf 4 rfl) rfl (by decide) g2 (fun q_ => ?_) (fun q_ => ?_)
  · have q8 := q_
    have ho := ho.1 q_
    refine r_aload_n (q := 27) (dc dt_MO_placeOf 14 rfl) rfl rfl 0 rfl ?_
    refine r_getO (q := 30) (v := 122) fl_MO_110 (dc dt_MO_placeOf 15 rfl) rfl ly8 rfl ?_
    refine r_iload_n (q := 31) (dc dt_MO_placeOf 16 rfl) rfl rfl 2 rfl ?_
    have o3 := ho
    refine r_zald (q := 32) (v := σ.1 122 v2.toNat) (dc dt_MO_placeOf 17 rfl) rfl ly122 o3 rfl (fun g4 => ?_)
    refine r_if_eq (q := 35) (t := 39) (dc dt_MO_placeOf 18 rfl) rfl (by decide) g4 (fun q_ => ?_) (fun q_ => ?_)
    · have q9 := q_
      refine r_iconst (q := 40) (dc dt_MO_placeOf 21 rfl) rfl rfl ?_
      exact (hJ 0 (((if_pos (by first | omega | grind)).trans (if_pos (by first | omega | grind))).symm))
    · have q9 := q_
      refine r_iconst (q := 36) (dc dt_MO_placeOf 19 rfl) rfl rfl ?_
      refine r_goto (q := 40) (dc dt_MO_placeOf 20 rfl) (by decide) ?_
      exact (hJ 1 (((if_pos (by first | omega | grind)).trans (if_neg (by first | omega | grind))).symm))
  · have q8 := q_
    have ho := ho.2 q_
    refine r_aload_n (q := 10) (dc dt_MO_placeOf 5 rfl) rfl rfl 0 rfl ?_
    refine r_getO (q := 13) (v := 122) fl_MO_110 (dc dt_MO_placeOf 6 rfl) rfl ly8 rfl ?_
    refine r_iload_n (q := 14) (dc dt_MO_placeOf 7 rfl) rfl rfl 2 rfl ?_
    have o5 := ho
    refine r_zald (q := 15) (v := σ.1 122 v2.toNat) (dc dt_MO_placeOf 8 rfl) rfl ly122 o5 rfl (fun g6 => ?_)
    refine r_if_eq (q := 18) (t := 22) (dc dt_MO_placeOf 9 rfl) rfl (by decide) g6 (fun q_ => ?_) (fun q_ => ?_)
    · have q10 := q_
      refine r_iconst (q := 23) (dc dt_MO_placeOf 12 rfl) rfl rfl ?_
      refine r_goto (q := 40) (dc dt_MO_placeOf 13 rfl) (by decide) ?_
      exact (hJ 3 (((if_neg (by first | omega | grind)).trans (if_pos (by first | omega | grind))).symm))
    · have q10 := q_
      refine r_iconst (q := 19) (dc dt_MO_placeOf 10 rfl) rfl rfl ?_
      refine r_goto (q := 40) (dc dt_MO_placeOf 11 rfl) (by decide) ?_
      exact (hJ 2 (((if_neg (by first | omega | grind)).trans (if_neg (by first | omega | grind))).symm))
set_option maxRecDepth 20000 in
theorem sp0_MO_placeOf {G : GT} {σ : St} {v1 : Int} {v2 : Int}  (j0 : 0 ≤ v1 ∧ v1 < 80) (j1 : ((σ.1 121 v1.toNat = 0 → 0 ≤ v2 ∧ v2 < 80) ∧ (σ.1 121 v1.toNat ≠ 0 → 0 ≤ v2 ∧ v2 < 80))) (j2 : rng (if σ.1 121 v1.toNat = 0 then (if σ.1 122 v2.toNat = 0 then (0 : Int) else (1 : Int)) else if σ.1 122 v2.toNat = 0 then (3 : Int) else (2 : Int))) : CJ G m_MO_placeOf [O 8, I v1, I v2] σ (fun r u => r = (if σ.1 121 v1.toNat = 0 then (if σ.1 122 v2.toNat = 0 then (0 : Int) else (1 : Int)) else if σ.1 122 v2.toNat = 0 then (3 : Int) else (2 : Int)) ∧ u = σ) := by
  refine CJ.intro (by decide) (by simp [catA]; decide) (fun _ => k_MO_placeOf_0  ?_)
  refine ⟨by first | assumption | omega | grind, ?_⟩
  refine ⟨by first | assumption | omega | grind, ?_⟩
  refine ⟨by first | assumption | omega | grind, ?_⟩
  exact ⟨by first | rfl | grind, rfl⟩
def p_MO_placeOf (σ : St) (v1 : Int) (v2 : Int) : Prop := (0 ≤ v1 ∧ v1 < 80) ∧ ((σ.1 121 v1.toNat = 0 → 0 ≤ v2 ∧ v2 < 80) ∧ (σ.1 121 v1.toNat ≠ 0 → 0 ≤ v2 ∧ v2 < 80)) ∧ rng (if σ.1 121 v1.toNat = 0 then (if σ.1 122 v2.toNat = 0 then (0 : Int) else (1 : Int)) else if σ.1 122 v2.toNat = 0 then (3 : Int) else (2 : Int))
def f_MO_placeOf (σ : St) (v1 : Int) (v2 : Int) : Int := if σ.1 121 v1.toNat = 0 then (if σ.1 122 v2.toNat = 0 then (0 : Int) else (1 : Int)) else if σ.1 122 v2.toNat = 0 then (3 : Int) else (2 : Int)
theorem sp_MO_placeOf {G : GT} {σ : St} {v1 : Int} {v2 : Int}  (j : p_MO_placeOf σ v1 v2) : CJ G m_MO_placeOf [O 8, I v1, I v2] σ (fun r u => r = (f_MO_placeOf σ v1 v2) ∧ u = σ) := sp0_MO_placeOf  j.1 j.2.1 j.2.2
def tb_MO_mayBe : List (Nat × Instr × Nat) := [(0, .aload_n 0, 1), (1, .iload_n 1, 1), (2, .invokevirtual 357, 3), (5, .istore 4, 2), (7, .aload_n 0, 1), (8, .getfield 7, 3), (11, .iload_n 1, 1), (12, .iaload, 1), (13, .bipush 7, 2), (15, .if_icmp .ne 24, 3), (18, .aload_n 0, 1), (19, .getfield 22, 3), (22, .iload_n 1, 1), (23, .baload, 1), (24, .ifCond .ne 15, 3), (27, .iload_n 2, 1), (28, .iload 4, 2), (30, .iadd, 1), (31, .iload_n 3, 1), (32, .if_icmp .gt 7, 3), (35, .iconst 1, 1), (36, .goto 4, 3), (39, .iconst 0, 1), (40, .istore 5, 2), (42, .iconst 0, 1), (43, .istore 6, 2), (45, .iload 6, 2), (47, .iload 4, 2), (49, .if_icmp .ge 84, 3), (52, .iload 5, 2), (54, .ifCond .eq 79, 3), (57, .iload 6, 2), (59, .ifCond .ne 12, 3), (62, .aload_n 0, 1), (63, .getfield 13, 3), (66, .iload_n 1, 1), (67, .iaload, 1), (68, .goto 24, 3), (71, .iload 6, 2), (73, .iconst 1, 1), (74, .if_icmp .ne 12, 3), (77, .aload_n 0, 1), (78, .getfield 16, 3), (81, .iload_n 1, 1), (82, .iaload, 1), (83, .goto 9, 3), (86, .aload_n 0, 1), (87, .getfield 19, 3), (90, .iload_n 1, 1), (91, .iaload, 1), (92, .istore 7, 2), (94, .aload_n 0, 1), (95, .getfield 95, 3), (98, .iload_n 2, 1), (99, .iload 6, 2), (101, .iadd, 1), (102, .iaload, 1), (103, .ifCond .ne 21, 3), (106, .aload_n 0, 1), (107, .getfield 98, 3), (110, .iload_n 2, 1), (111, .iload 6, 2), (113, .iadd, 1), (114, .iaload, 1), (115, .iload 7, 2), (117, .if_icmp .ne 7, 3), (120, .iconst 1, 1), (121, .goto 4, 3), (124, .iconst 0, 1), (125, .istore 5, 2), (127, .iinc 6 1, 3), (130, .goto (-85), 3), (133, .iload 5, 2), (135, .ireturn, 1)]
theorem dt_MO_mayBe : DT (cM m_MO_mayBe) tb_MO_mayBe := by unfold DT; decide +kernel
abbrev a_MO_mayBe_0 (G : GT)  (v1 : Int) (v2 : Int) (v3 : Int) (σ : St) (P : Int → St → Prop) : Prop := A G m_MO_mayBe 0 [(0, O 8), (1, I v1), (2, I v2), (3, I v3)] [] σ P
abbrev a_MO_mayBe_45 (G : GT)  (v1 : Int) (v2 : Int) (v4 : Int) (v5 : Int) (v6 : Int) (σ : St) (P : Int → St → Prop) : Prop := A G m_MO_mayBe 45 [(0, O 8), (1, I v1), (2, I v2), (4, I v4), (5, I v5), (6, I v6)] [] σ P
set_option maxRecDepth 20000 in
theorem k_MO_mayBe_0 {G : GT} {σ : St} {P : Int → St → Prop}  {v1 : Int} {v2 : Int} {v3 : Int}  
    (h : (0 ≤ v1 ∧ v1 < 60) ∧ rng (if 0 ≤ σ.1 92 v1.toNat then (3 : Int) else (2 : Int)) ∧ ((σ.1 89 v1.toNat = 7 → (σ.1 93 v1.toNat = 0 → rng (v2 + (if 0 ≤ σ.1 92 v1.toNat then (3 : Int) else (2 : Int))) ∧ rng v3))) ∧ a_MO_mayBe_45 G v1 v2 (if 0 ≤ σ.1 92 v1.toNat then (3 : Int) else (2 : Int)) (if σ.1 89 v1.toNat = 7 ∧ (σ.1 93 v1.toNat = 0 ∧ v2 + (if 0 ≤ σ.1 92 v1.toNat then (3 : Int) else (2 : Int)) ≤ v3) then 1 else 0) 0 σ P) :
    a_MO_mayBe_0 G v1 v2 v3 σ P := by
  refine r_aload_n (q := 1) (dc dt_MO_mayBe 0 rfl) rfl rfl 0 rfl ?_
  refine r_iload_n (q := 2) (dc dt_MO_mayBe 1 rfl) rfl rfl 1 rfl ?_
  obtain ⟨o1, h⟩ := h
  obtain ⟨o2, h⟩ := h
  refine r_callVi (q := 5) mk_MO_howManyOf lm_MO_357 (RMO.of rfl) rfl (dc dt_MO_mayBe 2 rfl) rfl ly8 [I v1] [] rfl rfl (Nat.le_of_ble_eq_true rfl) (sp_MO_howManyOf o1 o2) (fun _ _ g3 z => ?_)
  obtain ⟨z, w⟩ := z
  subst z
  replace w := w.symm
  subst w
  refine r_istore (q := 7) (dc dt_MO_mayBe 3 rfl) rfl (by decide) rfl ?_
  refine r_aload_n (q := 8) (dc dt_MO_mayBe 4 rfl) rfl rfl 1 rfl ?_
  refine r_getO (q := 11) (v := 89) fl_MO_7 (dc dt_MO_mayBe 5 rfl) rfl ly8 rfl ?_
  refine r_iload_n (q := 12) (dc dt_MO_mayBe 6 rfl) rfl rfl 2 rfl ?_
  refine r_iald (q := 13) (v := σ.1 89 v1.toNat) (dc dt_MO_mayBe 7 rfl) rfl ly89 o1 rfl (fun g4 => ?_)
  refine r_bipush (q := 15) (dc dt_MO_mayBe 8 rfl) rfl (by decide) ?_
  obtain ⟨ho, h⟩ := h
  have hJ : ∀ (w_0 : Int), w_0 = (if σ.1 89 v1.toNat = 7 ∧ (σ.1 93 v1.toNat = 0 ∧ v2 + (if 0 ≤ σ.1 92 v1.toNat then (3 : Int) else (2 : Int)) ≤ v3) then 1 else 0) → A G m_MO_mayBe 40 [(4, I (if 0 ≤ σ.1 92 v1.toNat then (3 : Int) else (2 : Int))), (0, O 8), (1, I v1), (2, I v2), (3, I v3)] [I w_0] σ P := by
    intro w_0 z_0
    subst z_0
    refine r_istore (q := 42) (dc dt_MO_mayBe 23 rfl) rfl (by decide) rfl ?_
    refine r_iconst (q := 43) (dc dt_MO_mayBe 24 rfl) rfl rfl ?_
    refine r_istore (q := 45) (dc dt_MO_mayBe 25 rfl) rfl (by decide) rfl ?_
    exact r_loc [3, 4, 5, 2, 1, 0] rfl h
  clear h
  refine r_icmp_ne (q := 18) (t := 39) (dc dt_MO_mayBe 9 rfl) rfl (by decide) g4 (⟨by decide, by decide⟩ : rng 7) (fun q_ => ?_) (fun q_ => ?_)
  · have q70 := q_
    refine r_iconst (q := 40) (dc dt_MO_mayBe 22 rfl) rfl rfl ?_
    exact (hJ 0 ((if_neg (by first | omega | grind)).symm))
  · have q70 := q_
    have ho := ho q_
    refine r_aload_n (q := 19) (dc dt_MO_mayBe 10 rfl) rfl rfl 1 rfl ?_
    refine r_getO (q := 22) (v := 93) fl_MO_22 (dc dt_MO_mayBe 11 rfl) rfl ly8 rfl ?_
    refine r_iload_n (q := 23) (dc dt_MO_mayBe 12 rfl) rfl rfl 2 rfl ?_
    refine r_zald (q := 24) (v := σ.1 93 v1.toNat) (dc dt_MO_mayBe 13 rfl) rfl ly93 o1 rfl (fun g5 => ?_)
    refine r_if_ne (q := 27) (t := 39) (dc dt_MO_mayBe 14 rfl) rfl (by decide) g5 (fun q_ => ?_) (fun q_ => ?_)
    · have q71 := q_
      refine r_iconst (q := 40) (dc dt_MO_mayBe 22 rfl) rfl rfl ?_
      exact (hJ 0 ((if_neg (by first | omega | grind)).symm))
    · have q71 := q_
      have ho := ho q_
      refine r_iload_n (q := 28) (dc dt_MO_mayBe 15 rfl) rfl rfl 3 rfl ?_
      refine r_iload (q := 30) (dc dt_MO_mayBe 16 rfl) rfl 0 rfl ?_
      refine r_iadd (q := 31) (dc dt_MO_mayBe 17 rfl) rfl ?_
      refine r_iload_n (q := 32) (dc dt_MO_mayBe 18 rfl) rfl rfl 4 rfl ?_
      obtain ⟨o6, ho⟩ := ho
      have o7 := ho
      refine r_icmp_gt (q := 35) (t := 39) (dc dt_MO_mayBe 19 rfl) rfl (by decide) o6 o7 (fun q_ => ?_) (fun q_ => ?_)
      · have q72 := q_
        refine r_iconst (q := 40) (dc dt_MO_mayBe 22 rfl) rfl rfl ?_
        exact (hJ 0 ((if_neg (by first | omega | grind)).symm))
      · have q72 := q_
        refine r_iconst (q := 36) (dc dt_MO_mayBe 20 rfl) rfl rfl ?_
        refine r_goto (q := 40) (dc dt_MO_mayBe 21 rfl) (by decide) ?_
        exact (hJ 1 ((if_pos (by first | omega | grind)).symm))
set_option maxRecDepth 20000 in
theorem k_MO_mayBe_45 {G : GT} {σ : St} {P : Int → St → Prop}  {v1 : Int} {v2 : Int} {v4 : Int} {v5 : Int} {v6 : Int}  
    (h : rng v6 ∧ rng v4 ∧ (v4 ≤ v6 → (v5 = 0 ∨ v5 = 1) ∧ P v5 σ) ∧ (v6 < v4 → rng v5 ∧ (v5 = 0 → (v5 = 0 ∨ v5 = 1) ∧ P v5 σ) ∧ (v5 ≠ 0 → ((v6 ≠ 0 → (v6 ≠ 1 → 0 ≤ v1 ∧ v1 < 60) ∧ (v6 = 1 → 0 ≤ v1 ∧ v1 < 60)) ∧ (v6 = 0 → 0 ≤ v1 ∧ v1 < 60)) ∧ (0 ≤ v2 + v6 ∧ v2 + v6 < 80) ∧ ((σ.1 117 ((v2 + v6).toNat) = 0 → rng (if v6 ≠ 0 then (if v6 ≠ 1 then σ.1 92 v1.toNat else σ.1 91 v1.toNat) else σ.1 90 v1.toNat))) ∧ a_MO_mayBe_45 G v1 v2 v4 (if σ.1 117 ((v2 + v6).toNat) = 0 ∧ σ.1 118 ((v2 + v6).toNat) = (if v6 ≠ 0 then (if v6 ≠ 1 then σ.1 92 v1.toNat else σ.1 91 v1.toNat) else σ.1 90 v1.toNat) then 1 else 0) (v6 + 1) σ P))) :
    a_MO_mayBe_45 G v1 v2 v4 v5 v6 σ P := by
  refine r_iload (q := 47) (dc dt_MO_mayBe 26 rfl) rfl 5 rfl ?_
  refine r_iload (q := 49) (dc dt_MO_mayBe 27 rfl) rfl 3 rfl ?_
  obtain ⟨o8, h⟩ := h
  obtain ⟨o9, h⟩ := h
  refine r_icmp_ge (q := 52) (t := 133) (dc dt_MO_mayBe 28 rfl) rfl (by decide) o8 o9 (fun q_ => ?_) (fun q_ => ?_)
  · have h := h.1 q_
    refine r_iload (q := 135) (dc dt_MO_mayBe 72 rfl) rfl 4 rfl ?_
    obtain ⟨o34, h⟩ := h
    exact r_zret rfl (dc dt_MO_mayBe 73 rfl) o34 h
  · have h := h.2 q_
    refine r_iload (q := 54) (dc dt_MO_mayBe 29 rfl) rfl 4 rfl ?_
    obtain ⟨o35, h⟩ := h
    refine r_if_eq (q := 57) (t := 133) (dc dt_MO_mayBe 30 rfl) rfl (by decide) o35 (fun q_ => ?_) (fun q_ => ?_)
    · have h := h.1 q_
      refine r_iload (q := 135) (dc dt_MO_mayBe 72 rfl) rfl 4 rfl ?_
      obtain ⟨o59, h⟩ := h
      exact r_zret rfl (dc dt_MO_mayBe 73 rfl) o59 h
    · have h := h.2 q_
      refine r_iload (q := 59) (dc dt_MO_mayBe 31 rfl) rfl 5 rfl ?_
      obtain ⟨ho, h⟩ := h
      have hJ : ∀ (w_0 : Int), w_0 = (if v6 ≠ 0 then (if v6 ≠ 1 then σ.1 92 v1.toNat else σ.1 91 v1.toNat) else σ.1 90 v1.toNat) → A G m_MO_mayBe 92 [(0, O 8), (1, I v1), (2, I v2), (4, I v4), (5, I v5), (6, I v6)] [I w_0] σ P := by
        intro w_0 z_0
        subst z_0
        refine r_istore (q := 94) (dc dt_MO_mayBe 50 rfl) rfl (by decide) rfl ?_
        refine r_aload_n (q := 95) (dc dt_MO_mayBe 51 rfl) rfl rfl 1 rfl ?_
        refine r_getO (q := 98) (v := 117) fl_MO_95 (dc dt_MO_mayBe 52 rfl) rfl ly8 rfl ?_
        refine r_iload_n (q := 99) (dc dt_MO_mayBe 53 rfl) rfl rfl 3 rfl ?_
        refine r_iload (q := 101) (dc dt_MO_mayBe 54 rfl) rfl 6 rfl ?_
        refine r_iadd (q := 102) (dc dt_MO_mayBe 55 rfl) rfl ?_
        obtain ⟨o66, h⟩ := h
        refine r_iald (q := 103) (v := σ.1 117 ((v2 + v6).toNat)) (dc dt_MO_mayBe 56 rfl) rfl ly117 o66 rfl (fun g67 => ?_)
        obtain ⟨ho, h⟩ := h
        have hJ : ∀ (w_0 : Int), w_0 = (if σ.1 117 ((v2 + v6).toNat) = 0 ∧ σ.1 118 ((v2 + v6).toNat) = (if v6 ≠ 0 then (if v6 ≠ 1 then σ.1 92 v1.toNat else σ.1 91 v1.toNat) else σ.1 90 v1.toNat) then 1 else 0) → A G m_MO_mayBe 125 [(7, I (if v6 ≠ 0 then (if v6 ≠ 1 then σ.1 92 v1.toNat else σ.1 91 v1.toNat) else σ.1 90 v1.toNat)), (0, O 8), (1, I v1), (2, I v2), (4, I v4), (5, I v5), (6, I v6)] [I w_0] σ P := by
          intro w_0 z_0
          subst z_0
          refine r_istore (q := 127) (dc dt_MO_mayBe 69 rfl) rfl (by decide) rfl ?_
          refine r_iinc (q := 130) (k := 6) (dc dt_MO_mayBe 70 rfl) rfl rfl (by decide) rfl ?_
          refine r_goto (q := 45) (dc dt_MO_mayBe 71 rfl) (by decide) ?_
          exact r_loc [3, 4, 5, 6, 1, 0] rfl h
        clear h
        refine r_if_ne (q := 106) (t := 124) (dc dt_MO_mayBe 57 rfl) rfl (by decide) g67 (fun q_ => ?_) (fun q_ => ?_)
        · have q73 := q_
          refine r_iconst (q := 125) (dc dt_MO_mayBe 68 rfl) rfl rfl ?_
          exact (hJ 0 ((if_neg (by first | omega | grind)).symm))
        · have q73 := q_
          have ho := ho q_
          refine r_aload_n (q := 107) (dc dt_MO_mayBe 58 rfl) rfl rfl 1 rfl ?_
          refine r_getO (q := 110) (v := 118) fl_MO_98 (dc dt_MO_mayBe 59 rfl) rfl ly8 rfl ?_
          refine r_iload_n (q := 111) (dc dt_MO_mayBe 60 rfl) rfl rfl 3 rfl ?_
          refine r_iload (q := 113) (dc dt_MO_mayBe 61 rfl) rfl 6 rfl ?_
          refine r_iadd (q := 114) (dc dt_MO_mayBe 62 rfl) rfl ?_
          refine r_iald (q := 115) (v := σ.1 118 ((v2 + v6).toNat)) (dc dt_MO_mayBe 63 rfl) rfl ly118 o66 rfl (fun g68 => ?_)
          refine r_iload (q := 117) (dc dt_MO_mayBe 64 rfl) rfl 0 rfl ?_
          have o69 := ho
          refine r_icmp_ne (q := 120) (t := 124) (dc dt_MO_mayBe 65 rfl) rfl (by decide) g68 o69 (fun q_ => ?_) (fun q_ => ?_)
          · have q74 := q_
            refine r_iconst (q := 125) (dc dt_MO_mayBe 68 rfl) rfl rfl ?_
            exact (hJ 0 ((if_neg (by first | omega | grind)).symm))
          · have q74 := q_
            refine r_iconst (q := 121) (dc dt_MO_mayBe 66 rfl) rfl rfl ?_
            refine r_goto (q := 125) (dc dt_MO_mayBe 67 rfl) (by decide) ?_
            exact (hJ 1 ((if_pos (by first | omega | grind)).symm))
      clear h
      refine r_if_ne (q := 62) (t := 71) (dc dt_MO_mayBe 32 rfl) rfl (by decide) o8 (fun q_ => ?_) (fun q_ => ?_)
      · have q75 := q_
        have ho := ho.1 q_
        refine r_iload (q := 73) (dc dt_MO_mayBe 38 rfl) rfl 5 rfl ?_
        refine r_iconst (q := 74) (dc dt_MO_mayBe 39 rfl) rfl rfl ?_
        refine r_icmp_ne (q := 77) (t := 86) (dc dt_MO_mayBe 40 rfl) rfl (by decide) o8 (⟨by decide, by decide⟩ : rng 1) (fun q_ => ?_) (fun q_ => ?_)
        · have q76 := q_
          have ho := ho.1 q_
          refine r_aload_n (q := 87) (dc dt_MO_mayBe 46 rfl) rfl rfl 0 rfl ?_
          refine r_getO (q := 90) (v := 92) fl_MO_19 (dc dt_MO_mayBe 47 rfl) rfl ly8 rfl ?_
          refine r_iload_n (q := 91) (dc dt_MO_mayBe 48 rfl) rfl rfl 1 rfl ?_
          have o60 := ho
          refine r_iald (q := 92) (v := σ.1 92 v1.toNat) (dc dt_MO_mayBe 49 rfl) rfl ly92 o60 rfl (fun g61 => ?_)
          exact (hJ (σ.1 92 v1.toNat) (((if_pos (by first | omega | grind)).trans (if_pos (by first | omega | grind))).symm))
        · have q76 := q_
          have ho := ho.2 q_
          refine r_aload_n (q := 78) (dc dt_MO_mayBe 41 rfl) rfl rfl 0 rfl ?_
          refine r_getO (q := 81) (v := 91) fl_MO_16 (dc dt_MO_mayBe 42 rfl) rfl ly8 rfl ?_
          refine r_iload_n (q := 82) (dc dt_MO_mayBe 43 rfl) rfl rfl 1 rfl ?_
          have o62 := ho
          refine r_iald (q := 83) (v := σ.1 91 v1.toNat) (dc dt_MO_mayBe 44 rfl) rfl ly91 o62 rfl (fun g63 => ?_)
          refine r_goto (q := 92) (dc dt_MO_mayBe 45 rfl) (by decide) ?_
          exact (hJ (σ.1 91 v1.toNat) (((if_pos (by first | omega | grind)).trans (if_neg (by first | omega | grind))).symm))
      · have q75 := q_
        have ho := ho.2 q_
        refine r_aload_n (q := 63) (dc dt_MO_mayBe 33 rfl) rfl rfl 0 rfl ?_
        refine r_getO (q := 66) (v := 90) fl_MO_13 (dc dt_MO_mayBe 34 rfl) rfl ly8 rfl ?_
        refine r_iload_n (q := 67) (dc dt_MO_mayBe 35 rfl) rfl rfl 1 rfl ?_
        have o64 := ho
        refine r_iald (q := 68) (v := σ.1 90 v1.toNat) (dc dt_MO_mayBe 36 rfl) rfl ly90 o64 rfl (fun g65 => ?_)
        refine r_goto (q := 92) (dc dt_MO_mayBe 37 rfl) (by decide) ?_
        exact (hJ (σ.1 90 v1.toNat) ((if_neg (by first | omega | grind)).symm))
def tb_MO_shape : List (Nat × Instr × Nat) := [(0, .iload_n 1, 1), (1, .i2l, 1), (2, .lconst 0, 1), (3, .aload_n 0, 1), (4, .getfield 320, 3), (7, .iconst 1, 1), (8, .isub, 1), (9, .i2l, 1), (10, .invokestatic 253, 3), (13, .ifCond .ne 5, 3), (16, .iconst (-1), 1), (17, .ireturn, 1), (18, .aload_n 0, 1), (19, .invokevirtual 363, 3), (22, .aload_n 0, 1), (23, .getfield 89, 3), (26, .iload_n 1, 1), (27, .iaload, 1), (28, .istore_n 3, 1), (29, .iload_n 2, 1), (30, .tableswitch 79 0 4 #[34, 41, 48, 55, 62], 34), (64, .aload_n 0, 1), (65, .getfield 86, 3), (68, .iload_n 1, 1), (69, .iaload, 1), (70, .ireturn, 1), (71, .aload_n 0, 1), (72, .getfield 101, 3), (75, .iload_n 3, 1), (76, .iaload, 1), (77, .ireturn, 1), (78, .aload_n 0, 1), (79, .getfield 98, 3), (82, .iload_n 3, 1), (83, .iaload, 1), (84, .ireturn, 1), (85, .aload_n 0, 1), (86, .iload_n 3, 1), (87, .iload_n 3, 1), (88, .invokevirtual 366, 3), (91, .ireturn, 1), (92, .aload_n 0, 1), (93, .aload_n 0, 1), (94, .getfield 98, 3), (97, .iload_n 3, 1), (98, .iaload, 1), (99, .aload_n 0, 1), (100, .iload_n 3, 1), (101, .iload_n 3, 1), (102, .invokevirtual 366, 3), (105, .invokevirtual 369, 3), (108, .ireturn, 1), (109, .bipush (-2), 2), (111, .ireturn, 1)]
theorem dt_MO_shape : DT (cM m_MO_shape) tb_MO_shape := by unfold DT; decide +kernel
abbrev a_MO_shape_0 (G : GT)  (v1 : Int) (v2 : Int) (σ : St) (P : Int → St → Prop) : Prop := A G m_MO_shape 0 [(0, O 8), (1, I v1), (2, I v2)] [] σ P
set_option maxRecDepth 20000 in
theorem k_MO_shape_0 {G : GT} {σ : St} {P : Int → St → Prop}  {v1 : Int} {v2 : Int}  
    (h : rng v1 ∧ rng ((σ.2.1 8 21) - 1) ∧ (0 ≤ v1 ∧ v1 ≤ ((σ.2.1 8 21) - 1) → CJ G m_MO_cut [O 8] σ (fun _ u5 => (0 ≤ v1 ∧ v1 < 80) ∧ rng v2 ∧ (v2 = 0 → P (u5.1 114 v1.toNat) u5) ∧ (v2 = 1 → (0 ≤ u5.1 115 v1.toNat ∧ u5.1 115 v1.toNat < 80) ∧ P (u5.1 119 ((u5.1 115 v1.toNat).toNat)) u5) ∧ (v2 = 2 → (0 ≤ u5.1 115 v1.toNat ∧ u5.1 115 v1.toNat < 80) ∧ P (u5.1 118 ((u5.1 115 v1.toNat).toNat)) u5) ∧ (v2 = 3 → p_MO_placeOf u5 (u5.1 115 v1.toNat) (u5.1 115 v1.toNat) ∧ P (f_MO_placeOf u5 (u5.1 115 v1.toNat) (u5.1 115 v1.toNat)) u5) ∧ (v2 = 4 → (0 ≤ u5.1 115 v1.toNat ∧ u5.1 115 v1.toNat < 80) ∧ p_MO_placeOf u5 (u5.1 115 v1.toNat) (u5.1 115 v1.toNat) ∧ p_MO_plainOf u5 (u5.1 118 ((u5.1 115 v1.toNat).toNat)) (f_MO_placeOf u5 (u5.1 115 v1.toNat) (u5.1 115 v1.toNat)) ∧ P (f_MO_plainOf u5 (u5.1 118 ((u5.1 115 v1.toNat).toNat)) (f_MO_placeOf u5 (u5.1 115 v1.toNat) (u5.1 115 v1.toNat))) u5) ∧ ((v2 < 0 ∨ 4 < v2) → P (-2) u5))) ∧ (¬ (0 ≤ v1 ∧ v1 ≤ ((σ.2.1 8 21) - 1)) → P (-1) σ)) :
    a_MO_shape_0 G v1 v2 σ P := by
  refine r_iload_n (q := 1) (dc dt_MO_shape 0 rfl) rfl rfl 1 rfl ?_
  obtain ⟨o1, h⟩ := h
  refine r_i2l (q := 2) (dc dt_MO_shape 1 rfl) rfl o1 ?_
  refine r_lconst (q := 3) (n := 0) (dc dt_MO_shape 2 rfl) rfl rfl ?_
  refine r_aload_n (q := 4) (dc dt_MO_shape 3 rfl) rfl rfl 0 rfl ?_
  refine r_getI (q := 7) (v := σ.2.1 8 21) fl_MO_320 (dc dt_MO_shape 4 rfl) rfl ly8 rfl rfl (fun g2 => ?_)
  refine r_iconst (q := 8) (dc dt_MO_shape 5 rfl) rfl rfl ?_
  refine r_isub (q := 9) (dc dt_MO_shape 6 rfl) rfl ?_
  obtain ⟨o3, h⟩ := h
  refine r_i2l (q := 10) (dc dt_MO_shape 7 rfl) rfl o3 ?_
  refine r_callSi (q := 13) mk_MO_in lm_MO_253 (RMO.of rfl) rfl (dc dt_MO_shape 8 rfl) rfl [J v1, J 0, J ((σ.2.1 8 21) - 1)] [] rfl rfl (Nat.le_of_ble_eq_true rfl) (sp_MO_in o1 (⟨by decide, by decide⟩ : rng 0) o3) (fun _ _ g4 z => ?_)
  obtain ⟨z, w⟩ := z
  subst z
  replace w := w.symm
  subst w
  refine r_ifb_ne (q := 16) (t := 18) (dc dt_MO_shape 9 rfl) rfl (by decide) (fun q_ => ?_) (fun q_ => ?_)
  · have h := h.1 q_
    refine r_aload_n (q := 19) (dc dt_MO_shape 12 rfl) rfl rfl 0 rfl ?_
    refine r_callVv (q := 22) mk_MO_cut lm_MO_363 (RMO.of rfl) rfl (dc dt_MO_shape 13 rfl) rfl ly8 [] [] rfl rfl (Nat.le_of_ble_eq_true rfl) h (fun u5 h => ?_)
    refine r_aload_n (q := 23) (dc dt_MO_shape 14 rfl) rfl rfl 0 rfl ?_
    refine r_getO (q := 26) (v := 115) fl_MO_89 (dc dt_MO_shape 15 rfl) rfl ly8 rfl ?_
    refine r_iload_n (q := 27) (dc dt_MO_shape 16 rfl) rfl rfl 1 rfl ?_
    obtain ⟨o6, h⟩ := h
    refine r_iald (q := 28) (v := u5.1 115 v1.toNat) (dc dt_MO_shape 17 rfl) rfl ly115 o6 rfl (fun g7 => ?_)
    refine r_istore_n (q := 29) (dc dt_MO_shape 18 rfl) rfl rfl (by decide) rfl ?_
    refine r_iload_n (q := 30) (dc dt_MO_shape 19 rfl) rfl rfl 3 rfl ?_
    obtain ⟨o8, h⟩ := h
    by_cases qo : (v2 < 0 ∨ 4 < v2)
    · have q_ := qo
      have h := h.2.2.2.2.2 q_
      refine r_swOut (t := 109) (dc dt_MO_shape 20 rfl) (by decide) o8 q_ ?_
      refine r_bipush (q := 111) (dc dt_MO_shape 52 rfl) rfl (by decide) ?_
      exact r_iret rfl (dc dt_MO_shape 53 rfl) (⟨by decide, by decide⟩ : rng (-2)) h
    · by_cases q_ : v2 = 0
      · have h := h.1 q_
        refine r_swIn (t := 64) (dc dt_MO_shape 20 rfl) o8 (by omega) (by omega) (by rw [q_]; rfl) (by decide) ?_
        refine r_aload_n (q := 65) (dc dt_MO_shape 21 rfl) rfl rfl 1 rfl ?_
        refine r_getO (q := 68) (v := 114) fl_MO_86 (dc dt_MO_shape 22 rfl) rfl ly8 rfl ?_
        refine r_iload_n (q := 69) (dc dt_MO_shape 23 rfl) rfl rfl 2 rfl ?_
        refine r_iald (q := 70) (v := u5.1 114 v1.toNat) (dc dt_MO_shape 24 rfl) rfl ly114 o6 rfl (fun g9 => ?_)
        exact r_iret rfl (dc dt_MO_shape 25 rfl) g9 h
      · by_cases q_ : v2 = 1
        · have h := h.2.1 q_
          refine r_swIn (t := 71) (dc dt_MO_shape 20 rfl) o8 (by omega) (by omega) (by rw [q_]; rfl) (by decide) ?_
          refine r_aload_n (q := 72) (dc dt_MO_shape 26 rfl) rfl rfl 1 rfl ?_
          refine r_getO (q := 75) (v := 119) fl_MO_101 (dc dt_MO_shape 27 rfl) rfl ly8 rfl ?_
          refine r_iload_n (q := 76) (dc dt_MO_shape 28 rfl) rfl rfl 0 rfl ?_
          obtain ⟨o10, h⟩ := h
          refine r_iald (q := 77) (v := u5.1 119 ((u5.1 115 v1.toNat).toNat)) (dc dt_MO_shape 29 rfl) rfl ly119 o10 rfl (fun g11 => ?_)
          exact r_iret rfl (dc dt_MO_shape 30 rfl) g11 h
        · by_cases q_ : v2 = 2
          · have h := h.2.2.1 q_
            refine r_swIn (t := 78) (dc dt_MO_shape 20 rfl) o8 (by omega) (by omega) (by rw [q_]; rfl) (by decide) ?_
            refine r_aload_n (q := 79) (dc dt_MO_shape 31 rfl) rfl rfl 1 rfl ?_
            refine r_getO (q := 82) (v := 118) fl_MO_98 (dc dt_MO_shape 32 rfl) rfl ly8 rfl ?_
            refine r_iload_n (q := 83) (dc dt_MO_shape 33 rfl) rfl rfl 0 rfl ?_
            obtain ⟨o12, h⟩ := h
            refine r_iald (q := 84) (v := u5.1 118 ((u5.1 115 v1.toNat).toNat)) (dc dt_MO_shape 34 rfl) rfl ly118 o12 rfl (fun g13 => ?_)
            exact r_iret rfl (dc dt_MO_shape 35 rfl) g13 h
          · by_cases q_ : v2 = 3
            · have h := h.2.2.2.1 q_
              refine r_swIn (t := 85) (dc dt_MO_shape 20 rfl) o8 (by omega) (by omega) (by rw [q_]; rfl) (by decide) ?_
              refine r_aload_n (q := 86) (dc dt_MO_shape 36 rfl) rfl rfl 1 rfl ?_
              refine r_iload_n (q := 87) (dc dt_MO_shape 37 rfl) rfl rfl 0 rfl ?_
              refine r_iload_n (q := 88) (dc dt_MO_shape 38 rfl) rfl rfl 0 rfl ?_
              obtain ⟨o14, h⟩ := h
              refine r_callVi (q := 91) mk_MO_placeOf lm_MO_366 (RMO.of rfl) rfl (dc dt_MO_shape 39 rfl) rfl ly8 [I (u5.1 115 v1.toNat), I (u5.1 115 v1.toNat)] [] rfl rfl (Nat.le_of_ble_eq_true rfl) (sp_MO_placeOf o14) (fun _ _ g15 z => ?_)
              obtain ⟨z, w⟩ := z
              subst z
              replace w := w.symm
              subst w
              exact r_iret rfl (dc dt_MO_shape 40 rfl) g15 h
            · have q_ : v2 = 4 := by omega
              have h := h.2.2.2.2.1 q_
              refine r_swIn (t := 92) (dc dt_MO_shape 20 rfl) o8 (by omega) (by omega) (by rw [q_]; rfl) (by decide) ?_
              refine r_aload_n (q := 93) (dc dt_MO_shape 41 rfl) rfl rfl 1 rfl ?_
              refine r_aload_n (q := 94) (dc dt_MO_shape 42 rfl) rfl rfl 1 rfl ?_
              refine r_getO (q := 97) (v := 118) fl_MO_98 (dc dt_MO_shape 43 rfl) rfl ly8 rfl ?_
              refine r_iload_n (q := 98) (dc dt_MO_shape 44 rfl) rfl rfl 0 rfl ?_
              obtain ⟨o16, h⟩ := h
              refine r_iald (q := 99) (v := u5.1 118 ((u5.1 115 v1.toNat).toNat)) (dc dt_MO_shape 45 rfl) rfl ly118 o16 rfl (fun g17 => ?_)
              refine r_aload_n (q := 100) (dc dt_MO_shape 46 rfl) rfl rfl 1 rfl ?_
              refine r_iload_n (q := 101) (dc dt_MO_shape 47 rfl) rfl rfl 0 rfl ?_
              refine r_iload_n (q := 102) (dc dt_MO_shape 48 rfl) rfl rfl 0 rfl ?_
              obtain ⟨o18, h⟩ := h
              refine r_callVi (q := 105) mk_MO_placeOf lm_MO_366 (RMO.of rfl) rfl (dc dt_MO_shape 49 rfl) rfl ly8 [I (u5.1 115 v1.toNat), I (u5.1 115 v1.toNat)] [I (u5.1 118 ((u5.1 115 v1.toNat).toNat)), O 8] rfl rfl (Nat.le_of_ble_eq_true rfl) (sp_MO_placeOf o18) (fun _ _ g19 z => ?_)
              obtain ⟨z, w⟩ := z
              subst z
              replace w := w.symm
              subst w
              obtain ⟨o20, h⟩ := h
              refine r_callVi (q := 108) mk_MO_plainOf lm_MO_369 (RMO.of rfl) rfl (dc dt_MO_shape 50 rfl) rfl ly8 [I (u5.1 118 ((u5.1 115 v1.toNat).toNat)), I (f_MO_placeOf u5 (u5.1 115 v1.toNat) (u5.1 115 v1.toNat))] [] rfl rfl (Nat.le_of_ble_eq_true rfl) (sp_MO_plainOf o20) (fun _ _ g21 z => ?_)
              obtain ⟨z, w⟩ := z
              subst z
              replace w := w.symm
              subst w
              exact r_iret rfl (dc dt_MO_shape 51 rfl) g21 h
  · have h := h.2 q_
    refine r_iconst (q := 17) (dc dt_MO_shape 10 rfl) rfl rfl ?_
    exact r_iret rfl (dc dt_MO_shape 11 rfl) (⟨by decide, by decide⟩ : rng (-1)) h
def tb_MO_words : List (Nat × Instr × Nat) := [(0, .aload_n 0, 1), (1, .invokevirtual 363, 3), (4, .aload_n 0, 1), (5, .getfield 344, 3), (8, .ireturn, 1)]
theorem dt_MO_words : DT (cM m_MO_words) tb_MO_words := by unfold DT; decide +kernel
abbrev a_MO_words_0 (G : GT)   (σ : St) (P : Int → St → Prop) : Prop := A G m_MO_words 0 [(0, O 8)] [] σ P
set_option maxRecDepth 20000 in
theorem k_MO_words_0 {G : GT} {σ : St} {P : Int → St → Prop}    
    (h : CJ G m_MO_cut [O 8] σ (fun _ u1 => P (u1.2.1 8 27) u1)) :
    a_MO_words_0 G  σ P := by
  refine r_aload_n (q := 1) (dc dt_MO_words 0 rfl) rfl rfl 0 rfl ?_
  refine r_callVv (q := 4) mk_MO_cut lm_MO_363 (RMO.of rfl) rfl (dc dt_MO_words 1 rfl) rfl ly8 [] [] rfl rfl (Nat.le_of_ble_eq_true rfl) h (fun u1 h => ?_)
  refine r_aload_n (q := 5) (dc dt_MO_words 2 rfl) rfl rfl 0 rfl ?_
  refine r_getI (q := 8) (v := u1.2.1 8 27) fl_MO_344 (dc dt_MO_words 3 rfl) rfl ly8 rfl rfl (fun g2 => ?_)
  exact r_iret rfl (dc dt_MO_words 4 rfl) g2 h
def tb_MO_at : List (Nat × Instr × Nat) := [(0, .iload_n 0, 1), (1, .sipush 301, 3), (4, .imul, 1), (5, .iload_n 1, 1), (6, .iadd, 1), (7, .iconst 4, 1), (8, .imul, 1), (9, .iload_n 2, 1), (10, .iadd, 1), (11, .ireturn, 1)]
theorem dt_MO_at : DT (cM m_MO_at) tb_MO_at := by unfold DT; decide +kernel
abbrev a_MO_at_0 (G : GT)  (v0 : Int) (v1 : Int) (v2 : Int) (σ : St) (P : Int → St → Prop) : Prop := A G m_MO_at 0 [(0, I v0), (1, I v1), (2, I v2)] [] σ P
set_option maxRecDepth 20000 in
theorem k_MO_at_0 {G : GT} {σ : St} {P : Int → St → Prop}  {v0 : Int} {v1 : Int} {v2 : Int}  
    (h : rng ((((v0 * 301) + v1) * 4) + v2) ∧ P ((((v0 * 301) + v1) * 4) + v2) σ) :
    a_MO_at_0 G v0 v1 v2 σ P := by
  refine r_iload_n (q := 1) (dc dt_MO_at 0 rfl) rfl rfl 0 rfl ?_
  refine r_sipush (q := 4) (dc dt_MO_at 1 rfl) rfl (by decide) ?_
  refine r_imul (q := 5) (dc dt_MO_at 2 rfl) rfl ?_
  refine r_iload_n (q := 6) (dc dt_MO_at 3 rfl) rfl rfl 1 rfl ?_
  refine r_iadd (q := 7) (dc dt_MO_at 4 rfl) rfl ?_
  refine r_iconst (q := 8) (dc dt_MO_at 5 rfl) rfl rfl ?_
  refine r_imul (q := 9) (dc dt_MO_at 6 rfl) rfl ?_
  refine r_iload_n (q := 10) (dc dt_MO_at 7 rfl) rfl rfl 2 rfl ?_
  refine r_iadd (q := 11) (dc dt_MO_at 8 rfl) rfl ?_
  obtain ⟨o1, h⟩ := h
  exact r_iret rfl (dc dt_MO_at 9 rfl) o1 h
set_option maxRecDepth 20000 in
theorem sp_MO_at {G : GT} {σ : St} {v0 : Int} {v1 : Int} {v2 : Int}  (j0 : rng ((((v0 * 301) + v1) * 4) + v2)) : CJ G m_MO_at [I v0, I v1, I v2] σ (fun r u => r = ((((v0 * 301) + v1) * 4) + v2) ∧ u = σ) := by
  refine CJ.intro (by decide) (by simp [catA]; decide) (fun _ => k_MO_at_0  ?_)
  refine ⟨by first | assumption | omega | grind, ?_⟩
  exact ⟨by first | rfl | grind, rfl⟩
def tb_MO_haveForms : List (Nat × Instr × Nat) := [(0, .iconst 1, 1), (1, .istore_n 3, 1), (2, .aload_n 0, 1), (3, .getfield 74, 3), (6, .iload_n 1, 1), (7, .iaload, 1), (8, .istore 4, 2), (10, .iload 4, 2), (12, .aload_n 0, 1), (13, .getfield 77, 3), (16, .iload_n 2, 1), (17, .iaload, 1), (18, .if_icmp .gt 46, 3), (21, .iload_n 3, 1), (22, .ifCond .eq 42, 3), (25, .aload_n 0, 1), (26, .getfield 92, 3), (29, .iload 4, 2), (31, .baload, 1), (32, .ifCond .eq 20, 3), (35, .aload_n 0, 1), (36, .getfield 59, 3), (39, .iconst 4, 1), (40, .aload_n 0, 1), (41, .getfield 62, 3), (44, .iload 4, 2), (46, .iaload, 1), (47, .imul, 1), (48, .iaload, 1), (49, .ifCond .le 7, 3), (52, .iconst 1, 1), (53, .goto 4, 3), (56, .iconst 0, 1), (57, .istore_n 3, 1), (58, .iinc 4 1, 3), (61, .goto (-51), 3), (64, .iload_n 3, 1), (65, .ireturn, 1)]
theorem dt_MO_haveForms : DT (cM m_MO_haveForms) tb_MO_haveForms := by unfold DT; decide +kernel
abbrev a_MO_haveForms_0 (G : GT)  (v1 : Int) (v2 : Int) (σ : St) (P : Int → St → Prop) : Prop := A G m_MO_haveForms 0 [(0, O 8), (1, I v1), (2, I v2)] [] σ P
abbrev a_MO_haveForms_10 (G : GT)  (v2 : Int) (v3 : Int) (v4 : Int) (σ : St) (P : Int → St → Prop) : Prop := A G m_MO_haveForms 10 [(0, O 8), (2, I v2), (3, I v3), (4, I v4)] [] σ P
set_option maxRecDepth 20000 in
theorem k_MO_haveForms_0 {G : GT} {σ : St} {P : Int → St → Prop}  {v1 : Int} {v2 : Int}  
    (h : (0 ≤ v1 ∧ v1 < 80) ∧ a_MO_haveForms_10 G v2 1 (σ.1 110 v1.toNat) σ P) :
    a_MO_haveForms_0 G v1 v2 σ P := by
  refine r_iconst (q := 1) (dc dt_MO_haveForms 0 rfl) rfl rfl ?_
  refine r_istore_n (q := 2) (dc dt_MO_haveForms 1 rfl) rfl rfl (by decide) rfl ?_
  refine r_aload_n (q := 3) (dc dt_MO_haveForms 2 rfl) rfl rfl 1 rfl ?_
  refine r_getO (q := 6) (v := 110) fl_MO_74 (dc dt_MO_haveForms 3 rfl) rfl ly8 rfl ?_
  refine r_iload_n (q := 7) (dc dt_MO_haveForms 4 rfl) rfl rfl 2 rfl ?_
  obtain ⟨o1, h⟩ := h
  refine r_iald (q := 8) (v := σ.1 110 v1.toNat) (dc dt_MO_haveForms 5 rfl) rfl ly110 o1 rfl (fun g2 => ?_)
  refine r_istore (q := 10) (dc dt_MO_haveForms 6 rfl) rfl (by decide) rfl ?_
  exact r_loc [2, 4, 1, 0] rfl h
set_option maxRecDepth 20000 in
theorem k_MO_haveForms_10 {G : GT} {σ : St} {P : Int → St → Prop}  {v2 : Int} {v3 : Int} {v4 : Int}  
    (h : (0 ≤ v2 ∧ v2 < 80) ∧ rng v4 ∧ (σ.1 111 v2.toNat < v4 → (v3 = 0 ∨ v3 = 1) ∧ P v3 σ) ∧ (v4 ≤ σ.1 111 v2.toNat → rng v3 ∧ (v3 = 0 → (v3 = 0 ∨ v3 = 1) ∧ P v3 σ) ∧ (v3 ≠ 0 → (0 ≤ v4 ∧ v4 < 80) ∧ ((σ.1 116 v4.toNat ≠ 0 → 0 ≤ 4 * (σ.1 106 v4.toNat) ∧ 4 * (σ.1 106 v4.toNat) < 240)) ∧ a_MO_haveForms_10 G v2 (if σ.1 116 v4.toNat = 0 ∨ 0 < σ.1 105 ((4 * (σ.1 106 v4.toNat)).toNat) then 1 else 0) (v4 + 1) σ P))) :
    a_MO_haveForms_10 G v2 v3 v4 σ P := by
  refine r_iload (q := 12) (dc dt_MO_haveForms 7 rfl) rfl 3 rfl ?_
  refine r_aload_n (q := 13) (dc dt_MO_haveForms 8 rfl) rfl rfl 0 rfl ?_
  refine r_getO (q := 16) (v := 111) fl_MO_77 (dc dt_MO_haveForms 9 rfl) rfl ly8 rfl ?_
  refine r_iload_n (q := 17) (dc dt_MO_haveForms 10 rfl) rfl rfl 1 rfl ?_
  obtain ⟨o3, h⟩ := h
  refine r_iald (q := 18) (v := σ.1 111 v2.toNat) (dc dt_MO_haveForms 11 rfl) rfl ly111 o3 rfl (fun g4 => ?_)
  obtain ⟨o5, h⟩ := h
  refine r_icmp_gt (q := 21) (t := 64) (dc dt_MO_haveForms 12 rfl) rfl (by decide) o5 g4 (fun q_ => ?_) (fun q_ => ?_)
  · have h := h.1 q_
    refine r_iload_n (q := 65) (dc dt_MO_haveForms 36 rfl) rfl rfl 2 rfl ?_
    obtain ⟨o12, h⟩ := h
    exact r_zret rfl (dc dt_MO_haveForms 37 rfl) o12 h
  · have h := h.2 q_
    refine r_iload_n (q := 22) (dc dt_MO_haveForms 13 rfl) rfl rfl 2 rfl ?_
    obtain ⟨o13, h⟩ := h
    refine r_if_eq (q := 25) (t := 64) (dc dt_MO_haveForms 14 rfl) rfl (by decide) o13 (fun q_ => ?_) (fun q_ => ?_)
    · have h := h.1 q_
      refine r_iload_n (q := 65) (dc dt_MO_haveForms 36 rfl) rfl rfl 2 rfl ?_
      obtain ⟨o19, h⟩ := h
      exact r_zret rfl (dc dt_MO_haveForms 37 rfl) o19 h
    · have h := h.2 q_
      refine r_aload_n (q := 26) (dc dt_MO_haveForms 15 rfl) rfl rfl 0 rfl ?_
      refine r_getO (q := 29) (v := 116) fl_MO_92 (dc dt_MO_haveForms 16 rfl) rfl ly8 rfl ?_
      refine r_iload (q := 31) (dc dt_MO_haveForms 17 rfl) rfl 3 rfl ?_
      obtain ⟨o20, h⟩ := h
      refine r_zald (q := 32) (v := σ.1 116 v4.toNat) (dc dt_MO_haveForms 18 rfl) rfl ly116 o20 rfl (fun g21 => ?_)
      obtain ⟨ho, h⟩ := h
      have hJ : ∀ (w_0 : Int), w_0 = (if σ.1 116 v4.toNat = 0 ∨ 0 < σ.1 105 ((4 * (σ.1 106 v4.toNat)).toNat) then 1 else 0) → A G m_MO_haveForms 57 [(0, O 8), (2, I v2), (3, I v3), (4, I v4)] [I w_0] σ P := by
        intro w_0 z_0
        subst z_0
        refine r_istore_n (q := 58) (dc dt_MO_haveForms 33 rfl) rfl rfl (by decide) rfl ?_
        refine r_iinc (q := 61) (k := 3) (dc dt_MO_haveForms 34 rfl) rfl rfl (by decide) rfl ?_
        refine r_goto (q := 10) (dc dt_MO_haveForms 35 rfl) (by decide) ?_
        exact r_loc [2, 3, 1, 0] rfl h
      clear h
      refine r_if_eq (q := 35) (t := 52) (dc dt_MO_haveForms 19 rfl) rfl (by decide) g21 (fun q_ => ?_) (fun q_ => ?_)
      · have q25 := q_
        refine r_iconst (q := 53) (dc dt_MO_haveForms 30 rfl) rfl rfl ?_
        refine r_goto (q := 57) (dc dt_MO_haveForms 31 rfl) (by decide) ?_
        exact (hJ 1 ((if_pos (by first | omega | grind)).symm))
      · have q25 := q_
        have ho := ho q_
        refine r_aload_n (q := 36) (dc dt_MO_haveForms 20 rfl) rfl rfl 0 rfl ?_
        refine r_getO (q := 39) (v := 105) fl_MO_59 (dc dt_MO_haveForms 21 rfl) rfl ly8 rfl ?_
        refine r_iconst (q := 40) (dc dt_MO_haveForms 22 rfl) rfl rfl ?_
        refine r_aload_n (q := 41) (dc dt_MO_haveForms 23 rfl) rfl rfl 0 rfl ?_
        refine r_getO (q := 44) (v := 106) fl_MO_62 (dc dt_MO_haveForms 24 rfl) rfl ly8 rfl ?_
        refine r_iload (q := 46) (dc dt_MO_haveForms 25 rfl) rfl 3 rfl ?_
        refine r_iald (q := 47) (v := σ.1 106 v4.toNat) (dc dt_MO_haveForms 26 rfl) rfl ly106 o20 rfl (fun g22 => ?_)
        refine r_imul (q := 48) (dc dt_MO_haveForms 27 rfl) rfl ?_
        have o23 := ho
        refine r_iald (q := 49) (v := σ.1 105 ((4 * (σ.1 106 v4.toNat)).toNat)) (dc dt_MO_haveForms 28 rfl) rfl ly105 o23 rfl (fun g24 => ?_)
        refine r_if_le (q := 52) (t := 56) (dc dt_MO_haveForms 29 rfl) rfl (by decide) g24 (fun q_ => ?_) (fun q_ => ?_)
        · have q26 := q_
          refine r_iconst (q := 57) (dc dt_MO_haveForms 32 rfl) rfl rfl ?_
          exact (hJ 0 ((if_neg (by first | omega | grind)).symm))
        · have q26 := q_
          refine r_iconst (q := 53) (dc dt_MO_haveForms 30 rfl) rfl rfl ?_
          refine r_goto (q := 57) (dc dt_MO_haveForms 31 rfl) (by decide) ?_
          exact (hJ 1 ((if_pos (by first | omega | grind)).symm))
def tb_MO_cost : List (Nat × Instr × Nat) := [(0, .iload_n 0, 1), (1, .iload_n 1, 1), (2, .iload_n 2, 1), (3, .imul, 1), (4, .iload_n 2, 1), (5, .imul, 1), (6, .iadd, 1), (7, .ireturn, 1)]
theorem dt_MO_cost : DT (cM m_MO_cost) tb_MO_cost := by unfold DT; decide +kernel
abbrev a_MO_cost_0 (G : GT)  (v0 : Int) (v1 : Int) (v2 : Int) (σ : St) (P : Int → St → Prop) : Prop := A G m_MO_cost 0 [(0, I v0), (1, I v1), (2, I v2)] [] σ P
set_option maxRecDepth 20000 in
theorem k_MO_cost_0 {G : GT} {σ : St} {P : Int → St → Prop}  {v0 : Int} {v1 : Int} {v2 : Int}  
    (h : rng (v0 + ((v1 * v2) * v2)) ∧ P (v0 + ((v1 * v2) * v2)) σ) :
    a_MO_cost_0 G v0 v1 v2 σ P := by
  refine r_iload_n (q := 1) (dc dt_MO_cost 0 rfl) rfl rfl 0 rfl ?_
  refine r_iload_n (q := 2) (dc dt_MO_cost 1 rfl) rfl rfl 1 rfl ?_
  refine r_iload_n (q := 3) (dc dt_MO_cost 2 rfl) rfl rfl 2 rfl ?_
  refine r_imul (q := 4) (dc dt_MO_cost 3 rfl) rfl ?_
  refine r_iload_n (q := 5) (dc dt_MO_cost 4 rfl) rfl rfl 2 rfl ?_
  refine r_imul (q := 6) (dc dt_MO_cost 5 rfl) rfl ?_
  refine r_iadd (q := 7) (dc dt_MO_cost 6 rfl) rfl ?_
  obtain ⟨o1, h⟩ := h
  exact r_iret rfl (dc dt_MO_cost 7 rfl) o1 h
set_option maxRecDepth 20000 in
theorem sp_MO_cost {G : GT} {σ : St} {v0 : Int} {v1 : Int} {v2 : Int}  (j0 : rng (v0 + ((v1 * v2) * v2))) : CJ G m_MO_cost [I v0, I v1, I v2] σ (fun r u => r = (v0 + ((v1 * v2) * v2)) ∧ u = σ) := by
  refine CJ.intro (by decide) (by simp [catA]; decide) (fun _ => k_MO_cost_0  ?_)
  refine ⟨by first | assumption | omega | grind, ?_⟩
  exact ⟨by first | rfl | grind, rfl⟩
def tb_MO_stateBehind : List (Nat × Instr × Nat) := [(0, .aload_n 0, 1), (1, .getfield 95, 3), (4, .iload_n 1, 1), (5, .iaload, 1), (6, .iconst 3, 1), (7, .if_icmp .ne 5, 3), (10, .iconst 0, 1), (11, .ireturn, 1), (12, .iload 4, 2), (14, .ifCond .le 9, 3), (17, .iload_n 2, 1), (18, .ifCond .le 5, 3), (21, .iconst (-1), 1), (22, .ireturn, 1), (23, .iload 4, 2), (25, .ifCond .gt 8, 3), (28, .iload_n 2, 1), (29, .iconst 1, 1), (30, .if_icmp .le 7, 3), (33, .iconst 2, 1), (34, .goto 4, 3), (37, .iconst 0, 1), (38, .aload_n 0, 1), (39, .getfield 26, 3), (42, .iload_n 3, 1), (43, .baload, 1), (44, .ifCond .eq 7, 3), (47, .iconst 1, 1), (48, .goto 4, 3), (51, .iconst 0, 1), (52, .iadd, 1), (53, .ireturn, 1)]
theorem dt_MO_stateBehind : DT (cM m_MO_stateBehind) tb_MO_stateBehind := by unfold DT; decide +kernel
abbrev a_MO_stateBehind_0 (G : GT)  (v1 : Int) (v2 : Int) (v3 : Int) (v4 : Int) (σ : St) (P : Int → St → Prop) : Prop := A G m_MO_stateBehind 0 [(0, O 8), (1, I v1), (2, I v2), (3, I v3), (4, I v4)] [] σ P
set_option maxRecDepth 20000 in
theorem k_MO_stateBehind_0 {G : GT} {σ : St} {P : Int → St → Prop}  {v1 : Int} {v2 : Int} {v3 : Int} {v4 : Int}  
    (h : (0 ≤ v1 ∧ v1 < 80) ∧ (σ.1 117 v1.toNat ≠ 3 → rng v4 ∧ (v4 ≤ 0 → ((v4 ≤ 0 → rng v2)) ∧ (0 ≤ v3 ∧ v3 < 60) ∧ rng ((if 0 < v4 then (2 : Int) else if v2 ≤ 1 then (0 : Int) else (2 : Int)) + (if σ.1 94 v3.toNat ≠ 0 then 1 else 0)) ∧ P ((if 0 < v4 then (2 : Int) else if v2 ≤ 1 then (0 : Int) else (2 : Int)) + (if σ.1 94 v3.toNat ≠ 0 then 1 else 0)) σ) ∧ (0 < v4 → rng v2 ∧ (v2 ≤ 0 → (0 ≤ v3 ∧ v3 < 60) ∧ rng ((if 0 < v4 then (2 : Int) else if v2 ≤ 1 then (0 : Int) else (2 : Int)) + (if σ.1 94 v3.toNat ≠ 0 then 1 else 0)) ∧ P ((if 0 < v4 then (2 : Int) else if v2 ≤ 1 then (0 : Int) else (2 : Int)) + (if σ.1 94 v3.toNat ≠ 0 then 1 else 0)) σ) ∧ (0 < v2 → P (-1) σ))) ∧ (σ.1 117 v1.toNat = 3 → P 0 σ)) :
    a_MO_stateBehind_0 G v1 v2 v3 v4 σ P := by
  refine r_aload_n (q := 1) (dc dt_MO_stateBehind 0 rfl) rfl rfl 0 rfl ?_
  refine r_getO (q := 4) (v := 117) fl_MO_95 (dc dt_MO_stateBehind 1 rfl) rfl ly8 rfl ?_
  refine r_iload_n (q := 5) (dc dt_MO_stateBehind 2 rfl) rfl rfl 1 rfl ?_
  obtain ⟨o1, h⟩ := h
  refine r_iald (q := 6) (v := σ.1 117 v1.toNat) (dc dt_MO_stateBehind 3 rfl) rfl ly117 o1 rfl (fun g2 => ?_)
  refine r_iconst (q := 7) (dc dt_MO_stateBehind 4 rfl) rfl rfl ?_
  refine r_icmp_ne (q := 10) (t := 12) (dc dt_MO_stateBehind 5 rfl) rfl (by decide) g2 (⟨by decide, by decide⟩ : rng 3) (fun q_ => ?_) (fun q_ => ?_)
  · have h := h.1 q_
    refine r_iload (q := 14) (dc dt_MO_stateBehind 8 rfl) rfl 4 rfl ?_
    obtain ⟨o3, h⟩ := h
    refine r_if_le (q := 17) (t := 23) (dc dt_MO_stateBehind 9 rfl) rfl (by decide) o3 (fun q_ => ?_) (fun q_ => ?_)
    · have h := h.1 q_
      refine r_iload (q := 25) (dc dt_MO_stateBehind 14 rfl) rfl 4 rfl ?_
      obtain ⟨ho, h⟩ := h
      have hJ : ∀ (w_0 : Int), w_0 = (if 0 < v4 then (2 : Int) else if v2 ≤ 1 then (0 : Int) else (2 : Int)) → A G m_MO_stateBehind 38 [(0, O 8), (1, I v1), (2, I v2), (3, I v3), (4, I v4)] [I w_0] σ P := by
        intro w_0 z_0
        subst z_0
        refine r_aload_n (q := 39) (dc dt_MO_stateBehind 22 rfl) rfl rfl 0 rfl ?_
        refine r_getO (q := 42) (v := 94) fl_MO_26 (dc dt_MO_stateBehind 23 rfl) rfl ly8 rfl ?_
        refine r_iload_n (q := 43) (dc dt_MO_stateBehind 24 rfl) rfl rfl 3 rfl ?_
        obtain ⟨o5, h⟩ := h
        refine r_zald (q := 44) (v := σ.1 94 v3.toNat) (dc dt_MO_stateBehind 25 rfl) rfl ly94 o5 rfl (fun g6 => ?_)
        have hJ : ∀ (w_0 : Int), w_0 = (if σ.1 94 v3.toNat ≠ 0 then 1 else 0) → A G m_MO_stateBehind 52 [(0, O 8), (1, I v1), (2, I v2), (3, I v3), (4, I v4)] [I w_0, I (if 0 < v4 then (2 : Int) else if v2 ≤ 1 then (0 : Int) else (2 : Int))] σ P := by
          intro w_0 z_0
          subst z_0
          refine r_iadd (q := 53) (dc dt_MO_stateBehind 30 rfl) rfl ?_
          obtain ⟨o7, h⟩ := h
          exact r_iret rfl (dc dt_MO_stateBehind 31 rfl) o7 h
        clear h
        refine r_if_eq (q := 47) (t := 51) (dc dt_MO_stateBehind 26 rfl) rfl (by decide) g6 (fun q_ => ?_) (fun q_ => ?_)
        · have q12 := q_
          refine r_iconst (q := 52) (dc dt_MO_stateBehind 29 rfl) rfl rfl ?_
          exact (hJ 0 ((if_neg (by first | omega | grind)).symm))
        · have q12 := q_
          refine r_iconst (q := 48) (dc dt_MO_stateBehind 27 rfl) rfl rfl ?_
          refine r_goto (q := 52) (dc dt_MO_stateBehind 28 rfl) (by decide) ?_
          exact (hJ 1 ((if_pos (by first | omega | grind)).symm))
      clear h
      refine r_if_gt (q := 28) (t := 33) (dc dt_MO_stateBehind 15 rfl) rfl (by decide) o3 (fun q_ => ?_) (fun q_ => ?_)
      · have q13 := q_
        refine r_iconst (q := 34) (dc dt_MO_stateBehind 19 rfl) rfl rfl ?_
        refine r_goto (q := 38) (dc dt_MO_stateBehind 20 rfl) (by decide) ?_
        exact (hJ 2 ((if_pos (by first | omega | grind)).symm))
      · have q13 := q_
        have ho := ho q_
        refine r_iload_n (q := 29) (dc dt_MO_stateBehind 16 rfl) rfl rfl 2 rfl ?_
        refine r_iconst (q := 30) (dc dt_MO_stateBehind 17 rfl) rfl rfl ?_
        have o4 := ho
        refine r_icmp_le (q := 33) (t := 37) (dc dt_MO_stateBehind 18 rfl) rfl (by decide) o4 (⟨by decide, by decide⟩ : rng 1) (fun q_ => ?_) (fun q_ => ?_)
        · have q14 := q_
          refine r_iconst (q := 38) (dc dt_MO_stateBehind 21 rfl) rfl rfl ?_
          exact (hJ 0 (((if_neg (by first | omega | grind)).trans (if_pos (by first | omega | grind))).symm))
        · have q14 := q_
          refine r_iconst (q := 34) (dc dt_MO_stateBehind 19 rfl) rfl rfl ?_
          refine r_goto (q := 38) (dc dt_MO_stateBehind 20 rfl) (by decide) ?_
          exact (hJ 2 (((if_neg (by first | omega | grind)).trans (if_neg (by first | omega | grind))).symm))
    · have h := h.2 q_
      refine r_iload_n (q := 18) (dc dt_MO_stateBehind 10 rfl) rfl rfl 2 rfl ?_
      obtain ⟨o8, h⟩ := h
      refine r_if_le (q := 21) (t := 23) (dc dt_MO_stateBehind 11 rfl) rfl (by decide) o8 (fun q_ => ?_) (fun q_ => ?_)
      · have h := h.1 q_
        refine r_iload (q := 25) (dc dt_MO_stateBehind 14 rfl) rfl 4 rfl ?_
        have hJ : ∀ (w_0 : Int), w_0 = (if 0 < v4 then (2 : Int) else if v2 ≤ 1 then (0 : Int) else (2 : Int)) → A G m_MO_stateBehind 38 [(0, O 8), (1, I v1), (2, I v2), (3, I v3), (4, I v4)] [I w_0] σ P := by
          intro w_0 z_0
          subst z_0
          refine r_aload_n (q := 39) (dc dt_MO_stateBehind 22 rfl) rfl rfl 0 rfl ?_
          refine r_getO (q := 42) (v := 94) fl_MO_26 (dc dt_MO_stateBehind 23 rfl) rfl ly8 rfl ?_
          refine r_iload_n (q := 43) (dc dt_MO_stateBehind 24 rfl) rfl rfl 3 rfl ?_
          obtain ⟨o9, h⟩ := h
          refine r_zald (q := 44) (v := σ.1 94 v3.toNat) (dc dt_MO_stateBehind 25 rfl) rfl ly94 o9 rfl (fun g10 => ?_)
          have hJ : ∀ (w_0 : Int), w_0 = (if σ.1 94 v3.toNat ≠ 0 then 1 else 0) → A G m_MO_stateBehind 52 [(0, O 8), (1, I v1), (2, I v2), (3, I v3), (4, I v4)] [I w_0, I (if 0 < v4 then (2 : Int) else if v2 ≤ 1 then (0 : Int) else (2 : Int))] σ P := by
            intro w_0 z_0
            subst z_0
            refine r_iadd (q := 53) (dc dt_MO_stateBehind 30 rfl) rfl ?_
            obtain ⟨o11, h⟩ := h
            exact r_iret rfl (dc dt_MO_stateBehind 31 rfl) o11 h
          clear h
          refine r_if_eq (q := 47) (t := 51) (dc dt_MO_stateBehind 26 rfl) rfl (by decide) g10 (fun q_ => ?_) (fun q_ => ?_)
          · have q15 := q_
            refine r_iconst (q := 52) (dc dt_MO_stateBehind 29 rfl) rfl rfl ?_
            exact (hJ 0 ((if_neg (by first | omega | grind)).symm))
          · have q15 := q_
            refine r_iconst (q := 48) (dc dt_MO_stateBehind 27 rfl) rfl rfl ?_
            refine r_goto (q := 52) (dc dt_MO_stateBehind 28 rfl) (by decide) ?_
            exact (hJ 1 ((if_pos (by first | omega | grind)).symm))
        clear h
        refine r_if_gt (q := 28) (t := 33) (dc dt_MO_stateBehind 15 rfl) rfl (by decide) o3 (fun q_ => ?_) (fun q_ => ?_)
        · have q16 := q_
          refine r_iconst (q := 34) (dc dt_MO_stateBehind 19 rfl) rfl rfl ?_
          refine r_goto (q := 38) (dc dt_MO_stateBehind 20 rfl) (by decide) ?_
          exact (hJ 2 ((if_pos (by first | omega | grind)).symm))
        · have q16 := q_
          refine r_iload_n (q := 29) (dc dt_MO_stateBehind 16 rfl) rfl rfl 2 rfl ?_
          refine r_iconst (q := 30) (dc dt_MO_stateBehind 17 rfl) rfl rfl ?_
          refine r_icmp_le (q := 33) (t := 37) (dc dt_MO_stateBehind 18 rfl) rfl (by decide) o8 (⟨by decide, by decide⟩ : rng 1) (fun q_ => ?_) (fun q_ => ?_)
          · have q17 := q_
            refine r_iconst (q := 38) (dc dt_MO_stateBehind 21 rfl) rfl rfl ?_
            exact (hJ 0 (((if_neg (by first | omega | grind)).trans (if_pos (by first | omega | grind))).symm))
          · have q17 := q_
            refine r_iconst (q := 34) (dc dt_MO_stateBehind 19 rfl) rfl rfl ?_
            refine r_goto (q := 38) (dc dt_MO_stateBehind 20 rfl) (by decide) ?_
            exact (hJ 2 (((if_neg (by first | omega | grind)).trans (if_neg (by first | omega | grind))).symm))
      · have h := h.2 q_
        refine r_iconst (q := 22) (dc dt_MO_stateBehind 12 rfl) rfl rfl ?_
        exact r_iret rfl (dc dt_MO_stateBehind 13 rfl) (⟨by decide, by decide⟩ : rng (-1)) h
  · have h := h.2 q_
    refine r_iconst (q := 11) (dc dt_MO_stateBehind 6 rfl) rfl rfl ?_
    exact r_iret rfl (dc dt_MO_stateBehind 7 rfl) (⟨by decide, by decide⟩ : rng 0) h
set_option maxRecDepth 20000 in
theorem sp0_MO_stateBehind {G : GT} {σ : St} {v1 : Int} {v2 : Int} {v3 : Int} {v4 : Int}  (j0 : 0 ≤ v1 ∧ v1 < 80) (j1 : (σ.1 117 v1.toNat ≠ 3 → rng v4 ∧ (v4 ≤ 0 → ((v4 ≤ 0 → rng v2)) ∧ (0 ≤ v3 ∧ v3 < 60) ∧ rng ((if 0 < v4 then (2 : Int) else if v2 ≤ 1 then (0 : Int) else (2 : Int)) + (if σ.1 94 v3.toNat ≠ 0 then 1 else 0))) ∧ (0 < v4 → rng v2 ∧ (v2 ≤ 0 → (0 ≤ v3 ∧ v3 < 60) ∧ rng ((if 0 < v4 then (2 : Int) else if v2 ≤ 1 then (0 : Int) else (2 : Int)) + (if σ.1 94 v3.toNat ≠ 0 then 1 else 0)))))) : CJ G m_MO_stateBehind [O 8, I v1, I v2, I v3, I v4] σ (fun r u => r = (if σ.1 117 v1.toNat ≠ 3 then (if v4 ≤ 0 then ((if 0 < v4 then (2 : Int) else if v2 ≤ 1 then (0 : Int) else (2 : Int)) + (if σ.1 94 v3.toNat ≠ 0 then 1 else 0)) else if v2 ≤ 0 then ((if 0 < v4 then (2 : Int) else if v2 ≤ 1 then (0 : Int) else (2 : Int)) + (if σ.1 94 v3.toNat ≠ 0 then 1 else 0)) else (-1 : Int)) else (0 : Int)) ∧ u = σ) := by
  refine CJ.intro (by decide) (by simp [catA]; decide) (fun _ => k_MO_stateBehind_0  ?_)
  refine ⟨by first | assumption | omega | grind, ?_⟩
  refine ⟨fun q_ => ?_, fun q_ => ?_⟩
  ·
    refine ⟨by first | assumption | omega | grind, ?_⟩
    refine ⟨fun q_ => ?_, fun q_ => ?_⟩
    ·
      refine ⟨by first | assumption | omega | grind, ?_⟩
      refine ⟨by first | assumption | omega | grind, ?_⟩
      refine ⟨by first | assumption | omega | grind, ?_⟩
      exact ⟨by first | rfl | grind, rfl⟩
    ·
      refine ⟨by first | assumption | omega | grind, ?_⟩
      refine ⟨fun q_ => ?_, fun q_ => ?_⟩
      ·
        refine ⟨by first | assumption | omega | grind, ?_⟩
        refine ⟨by first | assumption | omega | grind, ?_⟩
        exact ⟨by first | rfl | grind, rfl⟩
      ·
        exact ⟨by first | rfl | grind, rfl⟩
  ·
    exact ⟨by first | rfl | grind, rfl⟩
def p_MO_stateBehind (σ : St) (v1 : Int) (v2 : Int) (v3 : Int) (v4 : Int) : Prop := (0 ≤ v1 ∧ v1 < 80) ∧ (σ.1 117 v1.toNat ≠ 3 → rng v4 ∧ (v4 ≤ 0 → ((v4 ≤ 0 → rng v2)) ∧ (0 ≤ v3 ∧ v3 < 60) ∧ rng ((if 0 < v4 then (2 : Int) else if v2 ≤ 1 then (0 : Int) else (2 : Int)) + (if σ.1 94 v3.toNat ≠ 0 then 1 else 0))) ∧ (0 < v4 → rng v2 ∧ (v2 ≤ 0 → (0 ≤ v3 ∧ v3 < 60) ∧ rng ((if 0 < v4 then (2 : Int) else if v2 ≤ 1 then (0 : Int) else (2 : Int)) + (if σ.1 94 v3.toNat ≠ 0 then 1 else 0)))))
def f_MO_stateBehind (σ : St) (v1 : Int) (v2 : Int) (v3 : Int) (v4 : Int) : Int := if σ.1 117 v1.toNat ≠ 3 then (if v4 ≤ 0 then ((if 0 < v4 then (2 : Int) else if v2 ≤ 1 then (0 : Int) else (2 : Int)) + (if σ.1 94 v3.toNat ≠ 0 then 1 else 0)) else if v2 ≤ 0 then ((if 0 < v4 then (2 : Int) else if v2 ≤ 1 then (0 : Int) else (2 : Int)) + (if σ.1 94 v3.toNat ≠ 0 then 1 else 0)) else (-1 : Int)) else (0 : Int)
theorem sp_MO_stateBehind {G : GT} {σ : St} {v1 : Int} {v2 : Int} {v3 : Int} {v4 : Int}  (j : p_MO_stateBehind σ v1 v2 v3 v4) : CJ G m_MO_stateBehind [O 8, I v1, I v2, I v3, I v4] σ (fun r u => r = (f_MO_stateBehind σ v1 v2 v3 v4) ∧ u = σ) := sp0_MO_stateBehind  j.1 j.2
def tb_MO_withStretch : List (Nat × Instr × Nat) := [(0, .aload_n 0, 1), (1, .getfield 35, 3), (4, .iload_n 3, 1), (5, .iaload, 1), (6, .iload 4, 2), (8, .iadd, 1), (9, .istore 5, 2), (11, .aload_n 0, 1), (12, .getfield 44, 3), (15, .iload_n 3, 1), (16, .iaload, 1), (17, .aload_n 0, 1), (18, .getfield 53, 3), (21, .iload_n 3, 1), (22, .iaload, 1), (23, .iload 4, 2), (25, .invokestatic 388, 3), (28, .istore 6, 2), (30, .iconst 0, 1), (31, .istore 7, 2), (33, .iload 7, 2), (35, .iconst 4, 1), (36, .if_icmp .ge 103, 3), (39, .aload_n 0, 1), (40, .iload_n 1, 1), (41, .iload 7, 2), (43, .aload_n 0, 1), (44, .getfield 29, 3), (47, .iload_n 3, 1), (48, .iaload, 1), (49, .iload 4, 2), (51, .invokevirtual 391, 3), (54, .istore 8, 2), (56, .iload 5, 2), (58, .istore 9, 2), (60, .iload 8, 2), (62, .ifCond .lt 71, 3), (65, .iload 9, 2), (67, .sipush 300, 3), (70, .if_icmp .gt 63, 3), (73, .aload_n 0, 1), (74, .getfield 117, 3), (77, .iload_n 2, 1), (78, .iload 9, 2), (80, .iload 5, 2), (82, .isub, 1), (83, .iload 8, 2), (85, .invokestatic 372, 3), (88, .iaload, 1), (89, .iload 6, 2), (91, .iadd, 1), (92, .istore 10, 2), (94, .iload 10, 2), (96, .aload_n 0, 1), (97, .getfield 117, 3), (100, .iload_n 1, 1), (101, .iload 9, 2), (103, .iload 7, 2), (105, .invokestatic 372, 3), (108, .iaload, 1), (109, .if_icmp .ge 18, 3), (112, .aload_n 0, 1), (113, .getfield 117, 3), (116, .iload_n 1, 1), (117, .iload 9, 2), (119, .iload 7, 2), (121, .invokestatic 372, 3), (124, .iload 10, 2), (126, .iastore, 1), (127, .iinc 9 1, 3), (130, .goto (-70), 3), (133, .iinc 7 1, 3), (136, .goto (-103), 3), (139, .return_, 1)]
theorem dt_MO_withStretch : DT (cM m_MO_withStretch) tb_MO_withStretch := by unfold DT; decide +kernel
abbrev a_MO_withStretch_0 (G : GT)  (v1 : Int) (v2 : Int) (v3 : Int) (v4 : Int) (σ : St) (P : Int → St → Prop) : Prop := A G m_MO_withStretch 0 [(0, O 8), (1, I v1), (2, I v2), (3, I v3), (4, I v4)] [] σ P
abbrev a_MO_withStretch_33 (G : GT)  (v1 : Int) (v2 : Int) (v3 : Int) (v4 : Int) (v5 : Int) (v6 : Int) (v7 : Int) (σ : St) (P : Int → St → Prop) : Prop := A G m_MO_withStretch 33 [(0, O 8), (1, I v1), (2, I v2), (3, I v3), (4, I v4), (5, I v5), (6, I v6), (7, I v7)] [] σ P
abbrev a_MO_withStretch_60 (G : GT)  (v1 : Int) (v2 : Int) (v3 : Int) (v4 : Int) (v5 : Int) (v6 : Int) (v7 : Int) (v8 : Int) (v9 : Int) (σ : St) (P : Int → St → Prop) : Prop := A G m_MO_withStretch 60 [(0, O 8), (1, I v1), (2, I v2), (3, I v3), (4, I v4), (5, I v5), (6, I v6), (7, I v7), (8, I v8), (9, I v9)] [] σ P
set_option maxRecDepth 20000 in
theorem k_MO_withStretch_0 {G : GT} {σ : St} {P : Int → St → Prop}  {v1 : Int} {v2 : Int} {v3 : Int} {v4 : Int}  
    (h : (0 ≤ v3 ∧ v3 < 200) ∧ rng ((σ.1 100 v3.toNat) + (((σ.1 103 v3.toNat) * v4) * v4)) ∧ a_MO_withStretch_33 G v1 v2 v3 v4 ((σ.1 97 v3.toNat) + v4) ((σ.1 100 v3.toNat) + (((σ.1 103 v3.toNat) * v4) * v4)) 0 σ P) :
    a_MO_withStretch_0 G v1 v2 v3 v4 σ P := by
  refine r_aload_n (q := 1) (dc dt_MO_withStretch 0 rfl) rfl rfl 0 rfl ?_
  refine r_getO (q := 4) (v := 97) fl_MO_35 (dc dt_MO_withStretch 1 rfl) rfl ly8 rfl ?_
  refine r_iload_n (q := 5) (dc dt_MO_withStretch 2 rfl) rfl rfl 3 rfl ?_
  obtain ⟨o1, h⟩ := h
  refine r_iald (q := 6) (v := σ.1 97 v3.toNat) (dc dt_MO_withStretch 3 rfl) rfl ly97 o1 rfl (fun g2 => ?_)
  refine r_iload (q := 8) (dc dt_MO_withStretch 4 rfl) rfl 4 rfl ?_
  refine r_iadd (q := 9) (dc dt_MO_withStretch 5 rfl) rfl ?_
  refine r_istore (q := 11) (dc dt_MO_withStretch 6 rfl) rfl (by decide) rfl ?_
  refine r_aload_n (q := 12) (dc dt_MO_withStretch 7 rfl) rfl rfl 1 rfl ?_
  refine r_getO (q := 15) (v := 100) fl_MO_44 (dc dt_MO_withStretch 8 rfl) rfl ly8 rfl ?_
  refine r_iload_n (q := 16) (dc dt_MO_withStretch 9 rfl) rfl rfl 4 rfl ?_
  refine r_iald (q := 17) (v := σ.1 100 v3.toNat) (dc dt_MO_withStretch 10 rfl) rfl ly100 o1 rfl (fun g3 => ?_)
  refine r_aload_n (q := 18) (dc dt_MO_withStretch 11 rfl) rfl rfl 1 rfl ?_
  refine r_getO (q := 21) (v := 103) fl_MO_53 (dc dt_MO_withStretch 12 rfl) rfl ly8 rfl ?_
  refine r_iload_n (q := 22) (dc dt_MO_withStretch 13 rfl) rfl rfl 4 rfl ?_
  refine r_iald (q := 23) (v := σ.1 103 v3.toNat) (dc dt_MO_withStretch 14 rfl) rfl ly103 o1 rfl (fun g4 => ?_)
  refine r_iload (q := 25) (dc dt_MO_withStretch 15 rfl) rfl 5 rfl ?_
  obtain ⟨o5, h⟩ := h
  refine r_callSi (q := 28) mk_MO_cost lm_MO_388 (RMO.of rfl) rfl (dc dt_MO_withStretch 16 rfl) rfl [I (σ.1 100 v3.toNat), I (σ.1 103 v3.toNat), I v4] [] rfl rfl (Nat.le_of_ble_eq_true rfl) (sp_MO_cost o5) (fun _ _ g6 z => ?_)
  obtain ⟨z, w⟩ := z
  subst z
  replace w := w.symm
  subst w
  refine r_istore (q := 30) (dc dt_MO_withStretch 17 rfl) rfl (by decide) rfl ?_
  refine r_iconst (q := 31) (dc dt_MO_withStretch 18 rfl) rfl rfl ?_
  refine r_istore (q := 33) (dc dt_MO_withStretch 19 rfl) rfl (by decide) rfl ?_
  exact r_loc [3, 4, 5, 6, 7, 2, 1, 0] rfl h
set_option maxRecDepth 20000 in
theorem k_MO_withStretch_33 {G : GT} {σ : St} {P : Int → St → Prop}  {v1 : Int} {v2 : Int} {v3 : Int} {v4 : Int} {v5 : Int} {v6 : Int} {v7 : Int}  
    (h : rng v7 ∧ (4 ≤ v7 → P 0 σ) ∧ (v7 < 4 → (0 ≤ v3 ∧ v3 < 200) ∧ p_MO_stateBehind σ v1 v7 (σ.1 95 v3.toNat) v4 ∧ a_MO_withStretch_60 G v1 v2 v3 v4 v5 v6 v7 (f_MO_stateBehind σ v1 v7 (σ.1 95 v3.toNat) v4) v5 σ P)) :
    a_MO_withStretch_33 G v1 v2 v3 v4 v5 v6 v7 σ P := by
  refine r_iload (q := 35) (dc dt_MO_withStretch 20 rfl) rfl 7 rfl ?_
  refine r_iconst (q := 36) (dc dt_MO_withStretch 21 rfl) rfl rfl ?_
  obtain ⟨o7, h⟩ := h
  refine r_icmp_ge (q := 39) (t := 139) (dc dt_MO_withStretch 22 rfl) rfl (by decide) o7 (⟨by decide, by decide⟩ : rng 4) (fun q_ => ?_) (fun q_ => ?_)
  · have h := h.1 q_
    exact r_vret rfl (dc dt_MO_withStretch 73 rfl) h
  · have h := h.2 q_
    refine r_aload_n (q := 40) (dc dt_MO_withStretch 23 rfl) rfl rfl 0 rfl ?_
    refine r_iload_n (q := 41) (dc dt_MO_withStretch 24 rfl) rfl rfl 1 rfl ?_
    refine r_iload (q := 43) (dc dt_MO_withStretch 25 rfl) rfl 7 rfl ?_
    refine r_aload_n (q := 44) (dc dt_MO_withStretch 26 rfl) rfl rfl 0 rfl ?_
    refine r_getO (q := 47) (v := 95) fl_MO_29 (dc dt_MO_withStretch 27 rfl) rfl ly8 rfl ?_
    refine r_iload_n (q := 48) (dc dt_MO_withStretch 28 rfl) rfl rfl 3 rfl ?_
    obtain ⟨o12, h⟩ := h
    refine r_iald (q := 49) (v := σ.1 95 v3.toNat) (dc dt_MO_withStretch 29 rfl) rfl ly95 o12 rfl (fun g13 => ?_)
    refine r_iload (q := 51) (dc dt_MO_withStretch 30 rfl) rfl 4 rfl ?_
    obtain ⟨o14, h⟩ := h
    refine r_callVi (q := 54) mk_MO_stateBehind lm_MO_391 (RMO.of rfl) rfl (dc dt_MO_withStretch 31 rfl) rfl ly8 [I v1, I v7, I (σ.1 95 v3.toNat), I v4] [] rfl rfl (Nat.le_of_ble_eq_true rfl) (sp_MO_stateBehind o14) (fun _ _ g15 z => ?_)
    obtain ⟨z, w⟩ := z
    subst z
    replace w := w.symm
    subst w
    refine r_istore (q := 56) (dc dt_MO_withStretch 32 rfl) rfl (by decide) rfl ?_
    refine r_iload (q := 58) (dc dt_MO_withStretch 33 rfl) rfl 6 rfl ?_
    refine r_istore (q := 60) (dc dt_MO_withStretch 34 rfl) rfl (by decide) rfl ?_
    exact r_loc [2, 3, 4, 5, 6, 7, 8, 9, 1, 0] rfl h
set_option maxRecDepth 20000 in
theorem k_MO_withStretch_60 {G : GT} {σ : St} {P : Int → St → Prop}  {v1 : Int} {v2 : Int} {v3 : Int} {v4 : Int} {v5 : Int} {v6 : Int} {v7 : Int} {v8 : Int} {v9 : Int}  
    (h : rng v8 ∧ (v8 < 0 → a_MO_withStretch_33 G v1 v2 v3 v4 v5 v6 (v7 + 1) σ P) ∧ (0 ≤ v8 → rng v9 ∧ (300 < v9 → a_MO_withStretch_33 G v1 v2 v3 v4 v5 v6 (v7 + 1) σ P) ∧ (v9 ≤ 300 → rng ((((v2 * 301) + (v9 - v5)) * 4) + v8) ∧ (0 ≤ (((v2 * 301) + (v9 - v5)) * 4) + v8 ∧ (((v2 * 301) + (v9 - v5)) * 4) + v8 < 97524) ∧ rng ((((v1 * 301) + v9) * 4) + v7) ∧ (0 ≤ (((v1 * 301) + v9) * 4) + v7 ∧ (((v1 * 301) + v9) * 4) + v7 < 97524) ∧ rng ((σ.1 124 (((((v2 * 301) + (v9 - v5)) * 4) + v8).toNat)) + v6) ∧ (σ.1 124 (((((v1 * 301) + v9) * 4) + v7).toNat) ≤ (σ.1 124 (((((v2 * 301) + (v9 - v5)) * 4) + v8).toNat)) + v6 → a_MO_withStretch_60 G v1 v2 v3 v4 v5 v6 v7 v8 (v9 + 1) σ P) ∧ ((σ.1 124 (((((v2 * 301) + (v9 - v5)) * 4) + v8).toNat)) + v6 < σ.1 124 (((((v1 * 301) + v9) * 4) + v7).toNat) → (∀ σ50, σ50 = sa σ 124 (((((v1 * 301) + v9) * 4) + v7).toNat) ((σ.1 124 (((((v2 * 301) + (v9 - v5)) * 4) + v8).toNat)) + v6) → a_MO_withStretch_60 G v1 v2 v3 v4 v5 v6 v7 v8 (v9 + 1) σ50 P))))) :
    a_MO_withStretch_60 G v1 v2 v3 v4 v5 v6 v7 v8 v9 σ P := by
  refine r_iload (q := 62) (dc dt_MO_withStretch 35 rfl) rfl 8 rfl ?_
  obtain ⟨o16, h⟩ := h
  refine r_if_lt (q := 65) (t := 133) (dc dt_MO_withStretch 36 rfl) rfl (by decide) o16 (fun q_ => ?_) (fun q_ => ?_)
  · have h := h.1 q_
    refine r_iinc (q := 136) (k := 7) (dc dt_MO_withStretch 71 rfl) rfl rfl (by decide) rfl ?_
    refine r_goto (q := 33) (dc dt_MO_withStretch 72 rfl) (by decide) ?_
    exact r_loc [1, 2, 3, 4, 5, 6, 7, 0] rfl h
  · have h := h.2 q_
    refine r_iload (q := 67) (dc dt_MO_withStretch 37 rfl) rfl 9 rfl ?_
    refine r_sipush (q := 70) (dc dt_MO_withStretch 38 rfl) rfl (by decide) ?_
    obtain ⟨o28, h⟩ := h
    refine r_icmp_gt (q := 73) (t := 133) (dc dt_MO_withStretch 39 rfl) rfl (by decide) o28 (⟨by decide, by decide⟩ : rng 300) (fun q_ => ?_) (fun q_ => ?_)
    · have h := h.1 q_
      refine r_iinc (q := 136) (k := 7) (dc dt_MO_withStretch 71 rfl) rfl rfl (by decide) rfl ?_
      refine r_goto (q := 33) (dc dt_MO_withStretch 72 rfl) (by decide) ?_
      exact r_loc [1, 2, 3, 4, 5, 6, 7, 0] rfl h
    · have h := h.2 q_
      refine r_aload_n (q := 74) (dc dt_MO_withStretch 40 rfl) rfl rfl 0 rfl ?_
      refine r_getO (q := 77) (v := 124) fl_MO_117 (dc dt_MO_withStretch 41 rfl) rfl ly8 rfl ?_
      refine r_iload_n (q := 78) (dc dt_MO_withStretch 42 rfl) rfl rfl 2 rfl ?_
      refine r_iload (q := 80) (dc dt_MO_withStretch 43 rfl) rfl 9 rfl ?_
      refine r_iload (q := 82) (dc dt_MO_withStretch 44 rfl) rfl 5 rfl ?_
      refine r_isub (q := 83) (dc dt_MO_withStretch 45 rfl) rfl ?_
      refine r_iload (q := 85) (dc dt_MO_withStretch 46 rfl) rfl 8 rfl ?_
      obtain ⟨o39, h⟩ := h
      refine r_callSi (q := 88) mk_MO_at lm_MO_372 (RMO.of rfl) rfl (dc dt_MO_withStretch 47 rfl) rfl [I v2, I (v9 - v5), I v8] [O 124] rfl rfl (Nat.le_of_ble_eq_true rfl) (sp_MO_at o39) (fun _ _ g40 z => ?_)
      obtain ⟨z, w⟩ := z
      subst z
      replace w := w.symm
      subst w
      obtain ⟨o41, h⟩ := h
      refine r_iald (q := 89) (v := σ.1 124 (((((v2 * 301) + (v9 - v5)) * 4) + v8).toNat)) (dc dt_MO_withStretch 48 rfl) rfl ly124 o41 rfl (fun g42 => ?_)
      refine r_iload (q := 91) (dc dt_MO_withStretch 49 rfl) rfl 6 rfl ?_
      refine r_iadd (q := 92) (dc dt_MO_withStretch 50 rfl) rfl ?_
      refine r_istore (q := 94) (dc dt_MO_withStretch 51 rfl) rfl (by decide) rfl ?_
      refine r_iload (q := 96) (dc dt_MO_withStretch 52 rfl) rfl 0 rfl ?_
      refine r_aload_n (q := 97) (dc dt_MO_withStretch 53 rfl) rfl rfl 1 rfl ?_
      refine r_getO (q := 100) (v := 124) fl_MO_117 (dc dt_MO_withStretch 54 rfl) rfl ly8 rfl ?_
      refine r_iload_n (q := 101) (dc dt_MO_withStretch 55 rfl) rfl rfl 2 rfl ?_
      refine r_iload (q := 103) (dc dt_MO_withStretch 56 rfl) rfl 10 rfl ?_
      refine r_iload (q := 105) (dc dt_MO_withStretch 57 rfl) rfl 8 rfl ?_
      obtain ⟨o43, h⟩ := h
      refine r_callSi (q := 108) mk_MO_at lm_MO_372 (RMO.of rfl) rfl (dc dt_MO_withStretch 58 rfl) rfl [I v1, I v9, I v7] [O 124, I ((σ.1 124 (((((v2 * 301) + (v9 - v5)) * 4) + v8).toNat)) + v6)] rfl rfl (Nat.le_of_ble_eq_true rfl) (sp_MO_at o43) (fun _ _ g44 z => ?_)
      obtain ⟨z, w⟩ := z
      subst z
      replace w := w.symm
      subst w
      obtain ⟨o45, h⟩ := h
      refine r_iald (q := 109) (v := σ.1 124 (((((v1 * 301) + v9) * 4) + v7).toNat)) (dc dt_MO_withStretch 59 rfl) rfl ly124 o45 rfl (fun g46 => ?_)
      obtain ⟨o47, h⟩ := h
      refine r_icmp_ge (q := 112) (t := 127) (dc dt_MO_withStretch 60 rfl) rfl (by decide) o47 g46 (fun q_ => ?_) (fun q_ => ?_)
      · have h := h.1 q_
        refine r_iinc (q := 130) (k := 10) (dc dt_MO_withStretch 69 rfl) rfl rfl (by decide) rfl ?_
        refine r_goto (q := 60) (dc dt_MO_withStretch 70 rfl) (by decide) ?_
        exact r_loc [2, 3, 4, 5, 6, 7, 8, 9, 10, 0] rfl h
      · have h := h.2 q_
        refine r_aload_n (q := 113) (dc dt_MO_withStretch 61 rfl) rfl rfl 1 rfl ?_
        refine r_getO (q := 116) (v := 124) fl_MO_117 (dc dt_MO_withStretch 62 rfl) rfl ly8 rfl ?_
        refine r_iload_n (q := 117) (dc dt_MO_withStretch 63 rfl) rfl rfl 2 rfl ?_
        refine r_iload (q := 119) (dc dt_MO_withStretch 64 rfl) rfl 10 rfl ?_
        refine r_iload (q := 121) (dc dt_MO_withStretch 65 rfl) rfl 8 rfl ?_
        refine r_callSi (q := 124) mk_MO_at lm_MO_372 (RMO.of rfl) rfl (dc dt_MO_withStretch 66 rfl) rfl [I v1, I v9, I v7] [O 124] rfl rfl (Nat.le_of_ble_eq_true rfl) (sp_MO_at o43) (fun _ _ g49 z => ?_)
        obtain ⟨z, w⟩ := z
        subst z
        replace w := w.symm
        subst w
        refine r_iload (q := 126) (dc dt_MO_withStretch 67 rfl) rfl 0 rfl ?_
        refine r_iast (q := 127) (dc dt_MO_withStretch 68 rfl) rfl ly124 o45 o47 (fun σ50 e51 => ?_)
        have h := h σ50 e51
        refine r_iinc (q := 130) (k := 10) (dc dt_MO_withStretch 69 rfl) rfl rfl (by decide) rfl ?_
        refine r_goto (q := 60) (dc dt_MO_withStretch 70 rfl) (by decide) ?_
        exact r_loc [2, 3, 4, 5, 6, 7, 8, 9, 10, 0] rfl h
def tb_MO_withPiece : List (Nat × Instr × Nat) := [(0, .iconst 4, 1), (1, .iload_n 3, 1), (2, .imul, 1), (3, .aload_n 0, 1), (4, .iload_n 1, 1), (5, .iload_n 2, 1), (6, .iconst 1, 1), (7, .isub, 1), (8, .invokevirtual 366, 3), (11, .iadd, 1), (12, .istore 4, 2), (14, .iconst 0, 1), (15, .istore 5, 2), (17, .iload 5, 2), (19, .aload_n 0, 1), (20, .getfield 59, 3), (23, .iload 4, 2), (25, .iaload, 1), (26, .if_icmp .ge 54, 3), (29, .aload_n 0, 1), (30, .getfield 56, 3), (33, .iconst 3, 1), (34, .iload 4, 2), (36, .imul, 1), (37, .iload 5, 2), (39, .iadd, 1), (40, .iaload, 1), (41, .istore 6, 2), (43, .iconst 0, 1), (44, .istore 7, 2), (46, .iload 7, 2), (48, .aload_n 0, 1), (49, .getfield 50, 3), (52, .iload 6, 2), (54, .iaload, 1), (55, .if_icmp .gt 19, 3), (58, .aload_n 0, 1), (59, .iload_n 1, 1), (60, .iload_n 2, 1), (61, .iload 6, 2), (63, .iload 7, 2), (65, .invokevirtual 385, 3), (68, .iinc 7 1, 3), (71, .goto (-25), 3), (74, .iinc 5 1, 3), (77, .goto (-60), 3), (80, .return_, 1)]
theorem dt_MO_withPiece : DT (cM m_MO_withPiece) tb_MO_withPiece := by unfold DT; decide +kernel
abbrev a_MO_withPiece_0 (G : GT)  (v1 : Int) (v2 : Int) (v3 : Int) (σ : St) (P : Int → St → Prop) : Prop := A G m_MO_withPiece 0 [(0, O 8), (1, I v1), (2, I v2), (3, I v3)] [] σ P
abbrev a_MO_withPiece_17 (G : GT)  (v1 : Int) (v2 : Int) (v4 : Int) (v5 : Int) (σ : St) (P : Int → St → Prop) : Prop := A G m_MO_withPiece 17 [(0, O 8), (1, I v1), (2, I v2), (4, I v4), (5, I v5)] [] σ P
abbrev a_MO_withPiece_46 (G : GT)  (v1 : Int) (v2 : Int) (v4 : Int) (v5 : Int) (v6 : Int) (v7 : Int) (σ : St) (P : Int → St → Prop) : Prop := A G m_MO_withPiece 46 [(0, O 8), (1, I v1), (2, I v2), (4, I v4), (5, I v5), (6, I v6), (7, I v7)] [] σ P
set_option maxRecDepth 20000 in
theorem k_MO_withPiece_0 {G : GT} {σ : St} {P : Int → St → Prop}  {v1 : Int} {v2 : Int} {v3 : Int}  
    (h : p_MO_placeOf σ v1 (v2 - 1) ∧ a_MO_withPiece_17 G v1 v2 ((4 * v3) + (f_MO_placeOf σ v1 (v2 - 1))) 0 σ P) :
    a_MO_withPiece_0 G v1 v2 v3 σ P := by
  refine r_iconst (q := 1) (dc dt_MO_withPiece 0 rfl) rfl rfl ?_
  refine r_iload_n (q := 2) (dc dt_MO_withPiece 1 rfl) rfl rfl 3 rfl ?_
  refine r_imul (q := 3) (dc dt_MO_withPiece 2 rfl) rfl ?_
  refine r_aload_n (q := 4) (dc dt_MO_withPiece 3 rfl) rfl rfl 0 rfl ?_
  refine r_iload_n (q := 5) (dc dt_MO_withPiece 4 rfl) rfl rfl 1 rfl ?_
  refine r_iload_n (q := 6) (dc dt_MO_withPiece 5 rfl) rfl rfl 2 rfl ?_
  refine r_iconst (q := 7) (dc dt_MO_withPiece 6 rfl) rfl rfl ?_
  refine r_isub (q := 8) (dc dt_MO_withPiece 7 rfl) rfl ?_
  obtain ⟨o1, h⟩ := h
  refine r_callVi (q := 11) mk_MO_placeOf lm_MO_366 (RMO.of rfl) rfl (dc dt_MO_withPiece 8 rfl) rfl ly8 [I v1, I (v2 - 1)] [I (4 * v3)] rfl rfl (Nat.le_of_ble_eq_true rfl) (sp_MO_placeOf o1) (fun _ _ g2 z => ?_)
  obtain ⟨z, w⟩ := z
  subst z
  replace w := w.symm
  subst w
  refine r_iadd (q := 12) (dc dt_MO_withPiece 9 rfl) rfl ?_
  refine r_istore (q := 14) (dc dt_MO_withPiece 10 rfl) rfl (by decide) rfl ?_
  refine r_iconst (q := 15) (dc dt_MO_withPiece 11 rfl) rfl rfl ?_
  refine r_istore (q := 17) (dc dt_MO_withPiece 12 rfl) rfl (by decide) rfl ?_
  exact r_loc [2, 3, 4, 1, 0] rfl h
set_option maxRecDepth 20000 in
theorem k_MO_withPiece_17 {G : GT} {σ : St} {P : Int → St → Prop}  {v1 : Int} {v2 : Int} {v4 : Int} {v5 : Int}  
    (h : (0 ≤ v4 ∧ v4 < 240) ∧ rng v5 ∧ (σ.1 105 v4.toNat ≤ v5 → P 0 σ) ∧ (v5 < σ.1 105 v4.toNat → (0 ≤ (3 * v4) + v5 ∧ (3 * v4) + v5 < 720) ∧ a_MO_withPiece_46 G v1 v2 v4 v5 (σ.1 104 (((3 * v4) + v5).toNat)) 0 σ P)) :
    a_MO_withPiece_17 G v1 v2 v4 v5 σ P := by
  refine r_iload (q := 19) (dc dt_MO_withPiece 13 rfl) rfl 4 rfl ?_
  refine r_aload_n (q := 20) (dc dt_MO_withPiece 14 rfl) rfl rfl 0 rfl ?_
  refine r_getO (q := 23) (v := 105) fl_MO_59 (dc dt_MO_withPiece 15 rfl) rfl ly8 rfl ?_
  refine r_iload (q := 25) (dc dt_MO_withPiece 16 rfl) rfl 3 rfl ?_
  obtain ⟨o3, h⟩ := h
  refine r_iald (q := 26) (v := σ.1 105 v4.toNat) (dc dt_MO_withPiece 17 rfl) rfl ly105 o3 rfl (fun g4 => ?_)
  obtain ⟨o5, h⟩ := h
  refine r_icmp_ge (q := 29) (t := 80) (dc dt_MO_withPiece 18 rfl) rfl (by decide) o5 g4 (fun q_ => ?_) (fun q_ => ?_)
  · have h := h.1 q_
    exact r_vret rfl (dc dt_MO_withPiece 46 rfl) h
  · have h := h.2 q_
    refine r_aload_n (q := 30) (dc dt_MO_withPiece 19 rfl) rfl rfl 0 rfl ?_
    refine r_getO (q := 33) (v := 104) fl_MO_56 (dc dt_MO_withPiece 20 rfl) rfl ly8 rfl ?_
    refine r_iconst (q := 34) (dc dt_MO_withPiece 21 rfl) rfl rfl ?_
    refine r_iload (q := 36) (dc dt_MO_withPiece 22 rfl) rfl 3 rfl ?_
    refine r_imul (q := 37) (dc dt_MO_withPiece 23 rfl) rfl ?_
    refine r_iload (q := 39) (dc dt_MO_withPiece 24 rfl) rfl 4 rfl ?_
    refine r_iadd (q := 40) (dc dt_MO_withPiece 25 rfl) rfl ?_
    obtain ⟨o8, h⟩ := h
    refine r_iald (q := 41) (v := σ.1 104 (((3 * v4) + v5).toNat)) (dc dt_MO_withPiece 26 rfl) rfl ly104 o8 rfl (fun g9 => ?_)
    refine r_istore (q := 43) (dc dt_MO_withPiece 27 rfl) rfl (by decide) rfl ?_
    refine r_iconst (q := 44) (dc dt_MO_withPiece 28 rfl) rfl rfl ?_
    refine r_istore (q := 46) (dc dt_MO_withPiece 29 rfl) rfl (by decide) rfl ?_
    exact r_loc [2, 3, 4, 5, 6, 1, 0] rfl h
set_option maxRecDepth 20000 in
theorem k_MO_withPiece_46 {G : GT} {σ : St} {P : Int → St → Prop}  {v1 : Int} {v2 : Int} {v4 : Int} {v5 : Int} {v6 : Int} {v7 : Int}  
    (h : (0 ≤ v6 ∧ v6 < 200) ∧ rng v7 ∧ (σ.1 102 v6.toNat < v7 → a_MO_withPiece_17 G v1 v2 v4 (v5 + 1) σ P) ∧ (v7 ≤ σ.1 102 v6.toNat → CJ G m_MO_withStretch [O 8, I v1, I v2, I v6, I v7] σ (fun _ u13 => a_MO_withPiece_46 G v1 v2 v4 v5 v6 (v7 + 1) u13 P))) :
    a_MO_withPiece_46 G v1 v2 v4 v5 v6 v7 σ P := by
  refine r_iload (q := 48) (dc dt_MO_withPiece 30 rfl) rfl 6 rfl ?_
  refine r_aload_n (q := 49) (dc dt_MO_withPiece 31 rfl) rfl rfl 0 rfl ?_
  refine r_getO (q := 52) (v := 102) fl_MO_50 (dc dt_MO_withPiece 32 rfl) rfl ly8 rfl ?_
  refine r_iload (q := 54) (dc dt_MO_withPiece 33 rfl) rfl 5 rfl ?_
  obtain ⟨o10, h⟩ := h
  refine r_iald (q := 55) (v := σ.1 102 v6.toNat) (dc dt_MO_withPiece 34 rfl) rfl ly102 o10 rfl (fun g11 => ?_)
  obtain ⟨o12, h⟩ := h
  refine r_icmp_gt (q := 58) (t := 74) (dc dt_MO_withPiece 35 rfl) rfl (by decide) o12 g11 (fun q_ => ?_) (fun q_ => ?_)
  · have h := h.1 q_
    refine r_iinc (q := 77) (k := 4) (dc dt_MO_withPiece 44 rfl) rfl rfl (by decide) rfl ?_
    refine r_goto (q := 17) (dc dt_MO_withPiece 45 rfl) (by decide) ?_
    exact r_loc [1, 2, 3, 4, 0] rfl h
  · have h := h.2 q_
    refine r_aload_n (q := 59) (dc dt_MO_withPiece 36 rfl) rfl rfl 0 rfl ?_
    refine r_iload_n (q := 60) (dc dt_MO_withPiece 37 rfl) rfl rfl 1 rfl ?_
    refine r_iload_n (q := 61) (dc dt_MO_withPiece 38 rfl) rfl rfl 2 rfl ?_
    refine r_iload (q := 63) (dc dt_MO_withPiece 39 rfl) rfl 5 rfl ?_
    refine r_iload (q := 65) (dc dt_MO_withPiece 40 rfl) rfl 6 rfl ?_
    refine r_callVv (q := 68) mk_MO_withStretch lm_MO_385 (RMO.of rfl) rfl (dc dt_MO_withPiece 41 rfl) rfl ly8 [I v1, I v2, I v6, I v7] [] rfl rfl (Nat.le_of_ble_eq_true rfl) h (fun u13 h => ?_)
    refine r_iinc (q := 71) (k := 6) (dc dt_MO_withPiece 42 rfl) rfl rfl (by decide) rfl ?_
    refine r_goto (q := 46) (dc dt_MO_withPiece 43 rfl) (by decide) ?_
    exact r_loc [1, 2, 3, 4, 5, 6, 0] rfl h
def tb_MO_findLeast : List (Nat × Instr × Nat) := [(0, .iconst 0, 1), (1, .istore_n 3, 1), (2, .iload_n 3, 1), (3, .sipush 300, 3), (6, .if_icmp .gt 47, 3), (9, .iconst 0, 1), (10, .istore 4, 2), (12, .iload 4, 2), (14, .iconst 4, 1), (15, .if_icmp .ge 32, 3), (18, .aload_n 0, 1), (19, .getfield 117, 3), (22, .iload_n 2, 1), (23, .iload_n 3, 1), (24, .iload 4, 2), (26, .invokestatic 372, 3), (29, .iload_n 3, 1), (30, .ifCond .ne 7, 3), (33, .iconst 0, 1), (34, .goto 6, 3), (37, .ldc_w 376, 3), (40, .iastore, 1), (41, .iinc 4 1, 3), (44, .goto (-32), 3), (47, .iinc 3 1, 3), (50, .goto (-48), 3), (53, .iload_n 2, 1), (54, .iconst 1, 1), (55, .isub, 1), (56, .istore_n 3, 1), (57, .iload_n 3, 1), (58, .iload_n 1, 1), (59, .if_icmp .lt 127, 3), (62, .iconst 0, 1), (63, .istore 4, 2), (65, .iload 4, 2), (67, .sipush 300, 3), (70, .if_icmp .gt 40, 3), (73, .iconst 0, 1), (74, .istore 5, 2), (76, .iload 5, 2), (78, .iconst 4, 1), (79, .if_icmp .ge 25, 3), (82, .aload_n 0, 1), (83, .getfield 117, 3), (86, .iload_n 3, 1), (87, .iload 4, 2), (89, .iload 5, 2), (91, .invokestatic 372, 3), (94, .ldc_w 376, 3), (97, .iastore, 1), (98, .iinc 5 1, 3), (101, .goto (-25), 3), (104, .iinc 4 1, 3), (107, .goto (-42), 3), (110, .aload_n 0, 1), (111, .iload_n 3, 1), (112, .iload_n 3, 1), (113, .iconst 1, 1), (114, .iadd, 1), (115, .aload_n 0, 1), (116, .getfield 98, 3), (119, .iload_n 3, 1), (120, .iaload, 1), (121, .invokevirtual 377, 3), (124, .iconst 0, 1), (125, .istore 4, 2), (127, .iload 4, 2), (129, .aload_n 0, 1), (130, .getfield 249, 3), (133, .if_icmp .ge 47, 3), (136, .aload_n 0, 1), (137, .getfield 7, 3), (140, .iload 4, 2), (142, .iaload, 1), (143, .bipush 7, 2), (145, .if_icmp .ne 29, 3), (148, .aload_n 0, 1), (149, .iload 4, 2), (151, .iload_n 3, 1), (152, .iload_n 2, 1), (153, .invokevirtual 381, 3), (156, .ifCond .eq 18, 3), (159, .aload_n 0, 1), (160, .iload_n 3, 1), (161, .iload_n 3, 1), (162, .aload_n 0, 1), (163, .iload 4, 2), (165, .invokevirtual 357, 3), (168, .iadd, 1), (169, .iload 4, 2), (171, .invokevirtual 377, 3), (174, .iinc 4 1, 3), (177, .goto (-50), 3), (180, .iinc 3 (-1), 3), (183, .goto (-126), 3), (186, .return_, 1)]
theorem dt_MO_findLeast : DT (cM m_MO_findLeast) tb_MO_findLeast := by unfold DT; decide +kernel
abbrev a_MO_findLeast_0 (G : GT)  (v1 : Int) (v2 : Int) (σ : St) (P : Int → St → Prop) : Prop := A G m_MO_findLeast 0 [(0, O 8), (1, I v1), (2, I v2)] [] σ P
abbrev a_MO_findLeast_2 (G : GT)  (v1 : Int) (v2 : Int) (v3 : Int) (σ : St) (P : Int → St → Prop) : Prop := A G m_MO_findLeast 2 [(0, O 8), (1, I v1), (2, I v2), (3, I v3)] [] σ P
abbrev a_MO_findLeast_57 (G : GT)  (v1 : Int) (v2 : Int) (v3 : Int) (σ : St) (P : Int → St → Prop) : Prop := A G m_MO_findLeast 57 [(0, O 8), (1, I v1), (2, I v2), (3, I v3)] [] σ P
abbrev a_MO_findLeast_12 (G : GT)  (v1 : Int) (v2 : Int) (v3 : Int) (v4 : Int) (σ : St) (P : Int → St → Prop) : Prop := A G m_MO_findLeast 12 [(0, O 8), (1, I v1), (2, I v2), (3, I v3), (4, I v4)] [] σ P
abbrev a_MO_findLeast_65 (G : GT)  (v1 : Int) (v2 : Int) (v3 : Int) (v4 : Int) (σ : St) (P : Int → St → Prop) : Prop := A G m_MO_findLeast 65 [(0, O 8), (1, I v1), (2, I v2), (3, I v3), (4, I v4)] [] σ P
abbrev a_MO_findLeast_127 (G : GT)  (v1 : Int) (v2 : Int) (v3 : Int) (v4 : Int) (σ : St) (P : Int → St → Prop) : Prop := A G m_MO_findLeast 127 [(0, O 8), (1, I v1), (2, I v2), (3, I v3), (4, I v4)] [] σ P
abbrev a_MO_findLeast_76 (G : GT)  (v1 : Int) (v2 : Int) (v3 : Int) (v4 : Int) (v5 : Int) (σ : St) (P : Int → St → Prop) : Prop := A G m_MO_findLeast 76 [(0, O 8), (1, I v1), (2, I v2), (3, I v3), (4, I v4), (5, I v5)] [] σ P
set_option maxRecDepth 20000 in
theorem k_MO_findLeast_0 {G : GT} {σ : St} {P : Int → St → Prop}  {v1 : Int} {v2 : Int}  
    (h : a_MO_findLeast_2 G v1 v2 0 σ P) :
    a_MO_findLeast_0 G v1 v2 σ P := by
  refine r_iconst (q := 1) (dc dt_MO_findLeast 0 rfl) rfl rfl ?_
  refine r_istore_n (q := 2) (dc dt_MO_findLeast 1 rfl) rfl rfl (by decide) rfl ?_
  exact r_loc [1, 2, 3, 0] rfl h
set_option maxRecDepth 20000 in
theorem k_MO_findLeast_2 {G : GT} {σ : St} {P : Int → St → Prop}  {v1 : Int} {v2 : Int} {v3 : Int}  
    (h : rng v3 ∧ (300 < v3 → a_MO_findLeast_57 G v1 v2 (v2 - 1) σ P) ∧ (v3 ≤ 300 → a_MO_findLeast_12 G v1 v2 v3 0 σ P)) :
    a_MO_findLeast_2 G v1 v2 v3 σ P := by
  refine r_iload_n (q := 3) (dc dt_MO_findLeast 2 rfl) rfl rfl 3 rfl ?_
  refine r_sipush (q := 6) (dc dt_MO_findLeast 3 rfl) rfl (by decide) ?_
  obtain ⟨o1, h⟩ := h
  refine r_icmp_gt (q := 9) (t := 53) (dc dt_MO_findLeast 4 rfl) rfl (by decide) o1 (⟨by decide, by decide⟩ : rng 300) (fun q_ => ?_) (fun q_ => ?_)
  · have h := h.1 q_
    refine r_iload_n (q := 54) (dc dt_MO_findLeast 26 rfl) rfl rfl 2 rfl ?_
    refine r_iconst (q := 55) (dc dt_MO_findLeast 27 rfl) rfl rfl ?_
    refine r_isub (q := 56) (dc dt_MO_findLeast 28 rfl) rfl ?_
    refine r_istore_n (q := 57) (dc dt_MO_findLeast 29 rfl) rfl rfl (by decide) rfl ?_
    exact r_loc [1, 2, 3, 0] rfl h
  · have h := h.2 q_
    refine r_iconst (q := 10) (dc dt_MO_findLeast 5 rfl) rfl rfl ?_
    refine r_istore (q := 12) (dc dt_MO_findLeast 6 rfl) rfl (by decide) rfl ?_
    exact r_loc [1, 2, 3, 4, 0] rfl h
set_option maxRecDepth 20000 in
theorem k_MO_findLeast_57 {G : GT} {σ : St} {P : Int → St → Prop}  {v1 : Int} {v2 : Int} {v3 : Int}  
    (h : rng v3 ∧ rng v1 ∧ (v3 < v1 → P 0 σ) ∧ (v1 ≤ v3 → a_MO_findLeast_65 G v1 v2 v3 0 σ P)) :
    a_MO_findLeast_57 G v1 v2 v3 σ P := by
  refine r_iload_n (q := 58) (dc dt_MO_findLeast 30 rfl) rfl rfl 3 rfl ?_
  refine r_iload_n (q := 59) (dc dt_MO_findLeast 31 rfl) rfl rfl 1 rfl ?_
  obtain ⟨o2, h⟩ := h
  obtain ⟨o3, h⟩ := h
  refine r_icmp_lt (q := 62) (t := 186) (dc dt_MO_findLeast 32 rfl) rfl (by decide) o2 o3 (fun q_ => ?_) (fun q_ => ?_)
  · have h := h.1 q_
    exact r_vret rfl (dc dt_MO_findLeast 96 rfl) h
  · have h := h.2 q_
    refine r_iconst (q := 63) (dc dt_MO_findLeast 33 rfl) rfl rfl ?_
    refine r_istore (q := 65) (dc dt_MO_findLeast 34 rfl) rfl (by decide) rfl ?_
    exact r_loc [1, 2, 3, 4, 0] rfl h
set_option maxRecDepth 20000 in
theorem k_MO_findLeast_12 {G : GT} {σ : St} {P : Int → St → Prop}  {v1 : Int} {v2 : Int} {v3 : Int} {v4 : Int}  
    (h : rng v4 ∧ (4 ≤ v4 → a_MO_findLeast_2 G v1 v2 (v3 + 1) σ P) ∧ (v4 < 4 → rng ((((v2 * 301) + v3) * 4) + v4) ∧ rng v3 ∧ (0 ≤ (((v2 * 301) + v3) * 4) + v4 ∧ (((v2 * 301) + v3) * 4) + v4 < 97524) ∧ rng (if v3 ≠ 0 then (536870912 : Int) else (0 : Int)) ∧ (∀ σ13, σ13 = sa σ 124 (((((v2 * 301) + v3) * 4) + v4).toNat) (if v3 ≠ 0 then (536870912 : Int) else (0 : Int)) → a_MO_findLeast_12 G v1 v2 v3 (v4 + 1) σ13 P))) :
    a_MO_findLeast_12 G v1 v2 v3 v4 σ P := by
  refine r_iload (q := 14) (dc dt_MO_findLeast 7 rfl) rfl 4 rfl ?_
  refine r_iconst (q := 15) (dc dt_MO_findLeast 8 rfl) rfl rfl ?_
  obtain ⟨o4, h⟩ := h
  refine r_icmp_ge (q := 18) (t := 47) (dc dt_MO_findLeast 9 rfl) rfl (by decide) o4 (⟨by decide, by decide⟩ : rng 4) (fun q_ => ?_) (fun q_ => ?_)
  · have h := h.1 q_
    refine r_iinc (q := 50) (k := 3) (dc dt_MO_findLeast 24 rfl) rfl rfl (by decide) rfl ?_
    refine r_goto (q := 2) (dc dt_MO_findLeast 25 rfl) (by decide) ?_
    exact r_loc [1, 2, 3, 0] rfl h
  · have h := h.2 q_
    refine r_aload_n (q := 19) (dc dt_MO_findLeast 10 rfl) rfl rfl 0 rfl ?_
    refine r_getO (q := 22) (v := 124) fl_MO_117 (dc dt_MO_findLeast 11 rfl) rfl ly8 rfl ?_
    refine r_iload_n (q := 23) (dc dt_MO_findLeast 12 rfl) rfl rfl 2 rfl ?_
    refine r_iload_n (q := 24) (dc dt_MO_findLeast 13 rfl) rfl rfl 3 rfl ?_
    refine r_iload (q := 26) (dc dt_MO_findLeast 14 rfl) rfl 4 rfl ?_
    obtain ⟨o8, h⟩ := h
    refine r_callSi (q := 29) mk_MO_at lm_MO_372 (RMO.of rfl) rfl (dc dt_MO_findLeast 15 rfl) rfl [I v2, I v3, I v4] [O 124] rfl rfl (Nat.le_of_ble_eq_true rfl) (sp_MO_at o8) (fun _ _ g9 z => ?_)
    obtain ⟨z, w⟩ := z
    subst z
    replace w := w.symm
    subst w
    refine r_iload_n (q := 30) (dc dt_MO_findLeast 16 rfl) rfl rfl 3 rfl ?_
    obtain ⟨o10, h⟩ := h
    have hJ : ∀ (w_0 : Int), w_0 = (if v3 ≠ 0 then (536870912 : Int) else (0 : Int)) → A G m_MO_findLeast 40 [(0, O 8), (1, I v1), (2, I v2), (3, I v3), (4, I v4)] [I w_0, I ((((v2 * 301) + v3) * 4) + v4), O 124] σ P := by
      intro w_0 z_0
      subst z_0
      obtain ⟨o11, h⟩ := h
      obtain ⟨o12, h⟩ := h
      refine r_iast (q := 41) (dc dt_MO_findLeast 21 rfl) rfl ly124 o11 o12 (fun σ13 e14 => ?_)
      have h := h σ13 e14
      refine r_iinc (q := 44) (k := 4) (dc dt_MO_findLeast 22 rfl) rfl rfl (by decide) rfl ?_
      refine r_goto (q := 12) (dc dt_MO_findLeast 23 rfl) (by decide) ?_
      exact r_loc [1, 2, 3, 4, 0] rfl h
    clear h
    refine r_if_ne (q := 33) (t := 37) (dc dt_MO_findLeast 17 rfl) rfl (by decide) o10 (fun q_ => ?_) (fun q_ => ?_)
    · have q41 := q_
      refine r_ldcw (q := 40) (n := 536870912) (dc dt_MO_findLeast 20 rfl) rfl (gt_at 1622 (by decide +kernel) rfl) ?_
      exact (hJ 536870912 ((if_pos (by first | omega | grind)).symm))
    · have q41 := q_
      refine r_iconst (q := 34) (dc dt_MO_findLeast 18 rfl) rfl rfl ?_
      refine r_goto (q := 40) (dc dt_MO_findLeast 19 rfl) (by decide) ?_
      exact (hJ 0 ((if_neg (by first | omega | grind)).symm))
set_option maxRecDepth 20000 in
theorem k_MO_findLeast_65 {G : GT} {σ : St} {P : Int → St → Prop}  {v1 : Int} {v2 : Int} {v3 : Int} {v4 : Int}  
    (h : rng v4 ∧ (300 < v4 → (0 ≤ v3 ∧ v3 < 80) ∧ CJ G m_MO_withPiece [O 8, I v3, I (v3 + 1), I (σ.1 118 v3.toNat)] σ (fun _ u18 => a_MO_findLeast_127 G v1 v2 v3 0 u18 P)) ∧ (v4 ≤ 300 → a_MO_findLeast_76 G v1 v2 v3 v4 0 σ P)) :
    a_MO_findLeast_65 G v1 v2 v3 v4 σ P := by
  refine r_iload (q := 67) (dc dt_MO_findLeast 35 rfl) rfl 4 rfl ?_
  refine r_sipush (q := 70) (dc dt_MO_findLeast 36 rfl) rfl (by decide) ?_
  obtain ⟨o15, h⟩ := h
  refine r_icmp_gt (q := 73) (t := 110) (dc dt_MO_findLeast 37 rfl) rfl (by decide) o15 (⟨by decide, by decide⟩ : rng 300) (fun q_ => ?_) (fun q_ => ?_)
  · have h := h.1 q_
    refine r_aload_n (q := 111) (dc dt_MO_findLeast 55 rfl) rfl rfl 0 rfl ?_
    refine r_iload_n (q := 112) (dc dt_MO_findLeast 56 rfl) rfl rfl 3 rfl ?_
    refine r_iload_n (q := 113) (dc dt_MO_findLeast 57 rfl) rfl rfl 3 rfl ?_
    refine r_iconst (q := 114) (dc dt_MO_findLeast 58 rfl) rfl rfl ?_
    refine r_iadd (q := 115) (dc dt_MO_findLeast 59 rfl) rfl ?_
    refine r_aload_n (q := 116) (dc dt_MO_findLeast 60 rfl) rfl rfl 0 rfl ?_
    refine r_getO (q := 119) (v := 118) fl_MO_98 (dc dt_MO_findLeast 61 rfl) rfl ly8 rfl ?_
    refine r_iload_n (q := 120) (dc dt_MO_findLeast 62 rfl) rfl rfl 3 rfl ?_
    obtain ⟨o16, h⟩ := h
    refine r_iald (q := 121) (v := σ.1 118 v3.toNat) (dc dt_MO_findLeast 63 rfl) rfl ly118 o16 rfl (fun g17 => ?_)
    refine r_callVv (q := 124) mk_MO_withPiece lm_MO_377 (RMO.of rfl) rfl (dc dt_MO_findLeast 64 rfl) rfl ly8 [I v3, I (v3 + 1), I (σ.1 118 v3.toNat)] [] rfl rfl (Nat.le_of_ble_eq_true rfl) h (fun u18 h => ?_)
    refine r_iconst (q := 125) (dc dt_MO_findLeast 65 rfl) rfl rfl ?_
    refine r_istore (q := 127) (dc dt_MO_findLeast 66 rfl) rfl (by decide) rfl ?_
    exact r_loc [1, 2, 3, 4, 0] rfl h
  · have h := h.2 q_
    refine r_iconst (q := 74) (dc dt_MO_findLeast 38 rfl) rfl rfl ?_
    refine r_istore (q := 76) (dc dt_MO_findLeast 39 rfl) rfl (by decide) rfl ?_
    exact r_loc [1, 2, 3, 4, 5, 0] rfl h
set_option maxRecDepth 20000 in
theorem k_MO_findLeast_127 {G : GT} {σ : St} {P : Int → St → Prop}  {v1 : Int} {v2 : Int} {v3 : Int} {v4 : Int}  
    (h : rng v4 ∧ (σ.2.1 8 6 ≤ v4 → a_MO_findLeast_57 G v1 v2 (v3 + (-1)) σ P) ∧ (v4 < σ.2.1 8 6 → (0 ≤ v4 ∧ v4 < 60) ∧ (σ.1 89 v4.toNat ≠ 7 → a_MO_findLeast_127 G v1 v2 v3 (v4 + 1) σ P) ∧ (σ.1 89 v4.toNat = 7 → CJ G m_MO_mayBe [O 8, I v4, I v3, I v2] σ (fun r26 u25 => (r26 = 0 → a_MO_findLeast_127 G v1 v2 v3 (v4 + 1) u25 P) ∧ (r26 ≠ 0 → rng (if 0 ≤ u25.1 92 v4.toNat then (3 : Int) else (2 : Int)) ∧ CJ G m_MO_withPiece [O 8, I v3, I (v3 + (if 0 ≤ u25.1 92 v4.toNat then (3 : Int) else (2 : Int))), I v4] u25 (fun _ u32 => a_MO_findLeast_127 G v1 v2 v3 (v4 + 1) u32 P)))))) :
    a_MO_findLeast_127 G v1 v2 v3 v4 σ P := by
  refine r_iload (q := 129) (dc dt_MO_findLeast 67 rfl) rfl 4 rfl ?_
  refine r_aload_n (q := 130) (dc dt_MO_findLeast 68 rfl) rfl rfl 0 rfl ?_
  refine r_getI (q := 133) (v := σ.2.1 8 6) fl_MO_249 (dc dt_MO_findLeast 69 rfl) rfl ly8 rfl rfl (fun g19 => ?_)
  obtain ⟨o20, h⟩ := h
  refine r_icmp_ge (q := 136) (t := 180) (dc dt_MO_findLeast 70 rfl) rfl (by decide) o20 g19 (fun q_ => ?_) (fun q_ => ?_)
  · have h := h.1 q_
    refine r_iinc (q := 183) (k := 3) (dc dt_MO_findLeast 94 rfl) rfl rfl (by decide) rfl ?_
    refine r_goto (q := 57) (dc dt_MO_findLeast 95 rfl) (by decide) ?_
    exact r_loc [1, 2, 3, 0] rfl h
  · have h := h.2 q_
    refine r_aload_n (q := 137) (dc dt_MO_findLeast 71 rfl) rfl rfl 0 rfl ?_
    refine r_getO (q := 140) (v := 89) fl_MO_7 (dc dt_MO_findLeast 72 rfl) rfl ly8 rfl ?_
    refine r_iload (q := 142) (dc dt_MO_findLeast 73 rfl) rfl 4 rfl ?_
    obtain ⟨o23, h⟩ := h
    refine r_iald (q := 143) (v := σ.1 89 v4.toNat) (dc dt_MO_findLeast 74 rfl) rfl ly89 o23 rfl (fun g24 => ?_)
    refine r_bipush (q := 145) (dc dt_MO_findLeast 75 rfl) rfl (by decide) ?_
    refine r_icmp_ne (q := 148) (t := 174) (dc dt_MO_findLeast 76 rfl) rfl (by decide) g24 (⟨by decide, by decide⟩ : rng 7) (fun q_ => ?_) (fun q_ => ?_)
    · have h := h.1 q_
      refine r_iinc (q := 177) (k := 4) (dc dt_MO_findLeast 92 rfl) rfl rfl (by decide) rfl ?_
      refine r_goto (q := 127) (dc dt_MO_findLeast 93 rfl) (by decide) ?_
      exact r_loc [1, 2, 3, 4, 0] rfl h
    · have h := h.2 q_
      refine r_aload_n (q := 149) (dc dt_MO_findLeast 77 rfl) rfl rfl 0 rfl ?_
      refine r_iload (q := 151) (dc dt_MO_findLeast 78 rfl) rfl 4 rfl ?_
      refine r_iload_n (q := 152) (dc dt_MO_findLeast 79 rfl) rfl rfl 3 rfl ?_
      refine r_iload_n (q := 153) (dc dt_MO_findLeast 80 rfl) rfl rfl 2 rfl ?_
      refine r_callVi (q := 156) mk_MO_mayBe lm_MO_381 (RMO.of rfl) rfl (dc dt_MO_findLeast 81 rfl) rfl ly8 [I v4, I v3, I v2] [] rfl rfl (Nat.le_of_ble_eq_true rfl) h (fun r26 u25 g27 h => ?_)
      refine r_if_eq (q := 159) (t := 174) (dc dt_MO_findLeast 82 rfl) rfl (by decide) g27 (fun q_ => ?_) (fun q_ => ?_)
      · have h := h.1 q_
        refine r_iinc (q := 177) (k := 4) (dc dt_MO_findLeast 92 rfl) rfl rfl (by decide) rfl ?_
        refine r_goto (q := 127) (dc dt_MO_findLeast 93 rfl) (by decide) ?_
        exact r_loc [1, 2, 3, 4, 0] rfl h
      · have h := h.2 q_
        refine r_aload_n (q := 160) (dc dt_MO_findLeast 83 rfl) rfl rfl 0 rfl ?_
        refine r_iload_n (q := 161) (dc dt_MO_findLeast 84 rfl) rfl rfl 3 rfl ?_
        refine r_iload_n (q := 162) (dc dt_MO_findLeast 85 rfl) rfl rfl 3 rfl ?_
        refine r_aload_n (q := 163) (dc dt_MO_findLeast 86 rfl) rfl rfl 0 rfl ?_
        refine r_iload (q := 165) (dc dt_MO_findLeast 87 rfl) rfl 4 rfl ?_
        obtain ⟨o30, h⟩ := h
        refine r_callVi (q := 168) mk_MO_howManyOf lm_MO_357 (RMO.of rfl) rfl (dc dt_MO_findLeast 88 rfl) rfl ly8 [I v4] [I v3, I v3, O 8] rfl rfl (Nat.le_of_ble_eq_true rfl) (sp_MO_howManyOf o23 o30) (fun _ _ g31 z => ?_)
        obtain ⟨z, w⟩ := z
        subst z
        replace w := w.symm
        subst w
        refine r_iadd (q := 169) (dc dt_MO_findLeast 89 rfl) rfl ?_
        refine r_iload (q := 171) (dc dt_MO_findLeast 90 rfl) rfl 4 rfl ?_
        refine r_callVv (q := 174) mk_MO_withPiece lm_MO_377 (RMO.of rfl) rfl (dc dt_MO_findLeast 91 rfl) rfl ly8 [I v3, I (v3 + (if 0 ≤ u25.1 92 v4.toNat then (3 : Int) else (2 : Int))), I v4] [] rfl rfl (Nat.le_of_ble_eq_true rfl) h (fun u32 h => ?_)
        refine r_iinc (q := 177) (k := 4) (dc dt_MO_findLeast 92 rfl) rfl rfl (by decide) rfl ?_
        refine r_goto (q := 127) (dc dt_MO_findLeast 93 rfl) (by decide) ?_
        exact r_loc [1, 2, 3, 4, 0] rfl h
set_option maxRecDepth 20000 in
theorem k_MO_findLeast_76 {G : GT} {σ : St} {P : Int → St → Prop}  {v1 : Int} {v2 : Int} {v3 : Int} {v4 : Int} {v5 : Int}  
    (h : rng v5 ∧ (4 ≤ v5 → a_MO_findLeast_65 G v1 v2 v3 (v4 + 1) σ P) ∧ (v5 < 4 → rng ((((v3 * 301) + v4) * 4) + v5) ∧ (0 ≤ (((v3 * 301) + v4) * 4) + v5 ∧ (((v3 * 301) + v4) * 4) + v5 < 97524) ∧ (∀ σ39, σ39 = sa σ 124 (((((v3 * 301) + v4) * 4) + v5).toNat) 536870912 → a_MO_findLeast_76 G v1 v2 v3 v4 (v5 + 1) σ39 P))) :
    a_MO_findLeast_76 G v1 v2 v3 v4 v5 σ P := by
  refine r_iload (q := 78) (dc dt_MO_findLeast 40 rfl) rfl 5 rfl ?_
  refine r_iconst (q := 79) (dc dt_MO_findLeast 41 rfl) rfl rfl ?_
  obtain ⟨o33, h⟩ := h
  refine r_icmp_ge (q := 82) (t := 104) (dc dt_MO_findLeast 42 rfl) rfl (by decide) o33 (⟨by decide, by decide⟩ : rng 4) (fun q_ => ?_) (fun q_ => ?_)
  · have h := h.1 q_
    refine r_iinc (q := 107) (k := 4) (dc dt_MO_findLeast 53 rfl) rfl rfl (by decide) rfl ?_
    refine r_goto (q := 65) (dc dt_MO_findLeast 54 rfl) (by decide) ?_
    exact r_loc [1, 2, 3, 4, 0] rfl h
  · have h := h.2 q_
    refine r_aload_n (q := 83) (dc dt_MO_findLeast 43 rfl) rfl rfl 0 rfl ?_
    refine r_getO (q := 86) (v := 124) fl_MO_117 (dc dt_MO_findLeast 44 rfl) rfl ly8 rfl ?_
    refine r_iload_n (q := 87) (dc dt_MO_findLeast 45 rfl) rfl rfl 3 rfl ?_
    refine r_iload (q := 89) (dc dt_MO_findLeast 46 rfl) rfl 4 rfl ?_
    refine r_iload (q := 91) (dc dt_MO_findLeast 47 rfl) rfl 5 rfl ?_
    obtain ⟨o36, h⟩ := h
    refine r_callSi (q := 94) mk_MO_at lm_MO_372 (RMO.of rfl) rfl (dc dt_MO_findLeast 48 rfl) rfl [I v3, I v4, I v5] [O 124] rfl rfl (Nat.le_of_ble_eq_true rfl) (sp_MO_at o36) (fun _ _ g37 z => ?_)
    obtain ⟨z, w⟩ := z
    subst z
    replace w := w.symm
    subst w
    refine r_ldcw (q := 97) (n := 536870912) (dc dt_MO_findLeast 49 rfl) rfl (gt_at 1622 (by decide +kernel) rfl) ?_
    obtain ⟨o38, h⟩ := h
    refine r_iast (q := 98) (dc dt_MO_findLeast 50 rfl) rfl ly124 o38 (⟨by decide, by decide⟩ : rng 536870912) (fun σ39 e40 => ?_)
    have h := h σ39 e40
    refine r_iinc (q := 101) (k := 5) (dc dt_MO_findLeast 51 rfl) rfl rfl (by decide) rfl ?_
    refine r_goto (q := 76) (dc dt_MO_findLeast 52 rfl) (by decide) ?_
    exact r_loc [1, 2, 3, 4, 5, 0] rfl h
