theorem fl_MO_162 : FL R_MO 162 8 70 := FL.of rfl (by decide) rfl 1176 (by decide +kernel)
theorem fl_MO_165 : FL R_MO 165 8 71 := FL.of rfl (by decide) rfl 1177 (by decide +kernel)
theorem fl_MO_168 : FL R_MO 168 8 72 := FL.of rfl (by decide) rfl 1178 (by decide +kernel)
theorem fl_MO_171 : FL R_MO 171 8 73 := FL.of rfl (by decide) rfl 1179 (by decide +kernel)
theorem fl_MO_174 : FL R_MO 174 8 74 := FL.of rfl (by decide) rfl 1180 (by decide +kernel)
theorem fl_MO_177 : FL R_MO 177 8 75 := FL.of rfl (by decide) rfl 1181 (by decide +kernel)
theorem fl_MO_180 : FL R_MO 180 8 76 := FL.of rfl (by decide) rfl 1182 (by decide +kernel)
theorem fl_MO_183 : FL R_MO 183 8 80 := FL.of rfl (by decide) rfl 1186 (by decide +kernel)
theorem fl_MO_186 : FL R_MO 186 8 81 := FL.of rfl (by decide) rfl 1187 (by decide +kernel)
theorem fl_MO_189 : FL R_MO 189 8 82 := FL.of rfl (by decide) rfl 1188 (by decide +kernel)
theorem fl_MO_192 : FL R_MO 192 8 83 := FL.of rfl (by decide) rfl 1189 (by decide +kernel)
theorem fl_MO_195 : FL R_MO 195 8 84 := FL.of rfl (by decide) rfl 1190 (by decide +kernel)
theorem fl_MO_198 : FL R_MO 198 8 85 := FL.of rfl (by decide) rfl 1191 (by decide +kernel)
theorem fl_MO_201 : FL R_MO 201 8 90 := FL.of rfl (by decide) rfl 1196 (by decide +kernel)
theorem fl_MO_204 : FL R_MO 204 8 95 := FL.of rfl (by decide) rfl 1201 (by decide +kernel)
theorem fl_MO_461 : FL R_MO 461 8 69 := FL.of rfl (by decide) rfl 1175 (by decide +kernel)
theorem fl_MO_464 : FL R_MO 464 8 77 := FL.of rfl (by decide) rfl 1183 (by decide +kernel)
theorem fl_MO_467 : FL R_MO 467 8 78 := FL.of rfl (by decide) rfl 1184 (by decide +kernel)
theorem fl_MO_470 : FL R_MO 470 8 79 := FL.of rfl (by decide) rfl 1185 (by decide +kernel)
theorem fl_MO_473 : FL R_MO 473 8 86 := FL.of rfl (by decide) rfl 1192 (by decide +kernel)
theorem fl_MO_476 : FL R_MO 476 8 87 := FL.of rfl (by decide) rfl 1193 (by decide +kernel)
theorem fl_MO_479 : FL R_MO 479 8 88 := FL.of rfl (by decide) rfl 1194 (by decide +kernel)
theorem fl_MO_482 : FL R_MO 482 8 89 := FL.of rfl (by decide) rfl 1195 (by decide +kernel)
theorem fl_MO_496 : FL R_MO 496 8 92 := FL.of rfl (by decide) rfl 1198 (by decide +kernel)
theorem fl_MO_499 : FL R_MO 499 8 93 := FL.of rfl (by decide) rfl 1199 (by decide +kernel)
theorem fl_MO_502 : FL R_MO 502 8 94 := FL.of rfl (by decide) rfl 1200 (by decide +kernel)
theorem fl_MO_519 : FL R_MO 519 8 96 := FL.of rfl (by decide) rfl 1202 (by decide +kernel)
theorem lm_MO_485 : Cond.methodLink R_MO 485 (yM m_MO_see) ∈ gt := gt_at 1677 (by decide +kernel) rfl
theorem lm_MO_488 : Cond.methodLink R_MO 488 (yM m_MO_isDigit) ∈ gt := gt_at 1681 (by decide +kernel) rfl
theorem lm_MO_491 : Cond.methodLink R_MO 491 (yM m_MO_areWords) ∈ gt := gt_at 1602 (by decide +kernel) rfl
theorem lm_MO_505 : Cond.methodLink R_MO 505 (yM m_MO_fill) ∈ gt := gt_at 1607 (by decide +kernel) rfl
theorem lm_MO_508 : Cond.methodLink R_MO 508 (yM m_MO_toHand) ∈ gt := gt_at 1673 (by decide +kernel) rfl
theorem lm_MO_511 : Cond.methodLink R_MO 511 (yM m_MO_setPlain) ∈ gt := gt_at 1693 (by decide +kernel) rfl
theorem lm_MO_522 : Cond.methodLink R_MO 522 (yM m_MO_claimedAs) ∈ gt := gt_at 1745 (by decide +kernel) rfl
theorem lm_MO_525 : Cond.methodLink R_MO 525 (yM m_MO_isOf) ∈ gt := gt_at 1749 (by decide +kernel) rfl
theorem mk_MO_areWords : MKV m_MO_areWords 8 2 := ⟨⟨gt_at 1605 (by decide +kernel) rfl, gt_at 82 (by decide +kernel) rfl, by decide +kernel, by decide +kernel, by decide +kernel⟩, gt_at 1604 (by decide +kernel) rfl, gt_at 44 (by decide +kernel) rfl, _, _, rfl⟩
theorem mk_MO_claimedAs : MKV m_MO_claimedAs 8 3 := ⟨⟨gt_at 1748 (by decide +kernel) rfl, gt_at 82 (by decide +kernel) rfl, by decide +kernel, by decide +kernel, by decide +kernel⟩, gt_at 1747 (by decide +kernel) rfl, gt_at 65 (by decide +kernel) rfl, _, _, rfl⟩
theorem mk_MO_fill : MKV m_MO_fill 8 3 := ⟨⟨gt_at 1610 (by decide +kernel) rfl, gt_at 82 (by decide +kernel) rfl, by decide +kernel, by decide +kernel, by decide +kernel⟩, gt_at 1609 (by decide +kernel) rfl, gt_at 45 (by decide +kernel) rfl, _, _, rfl⟩
theorem mk_MO_isDigit : MKV m_MO_isDigit 8 1 := ⟨⟨gt_at 1684 (by decide +kernel) rfl, gt_at 82 (by decide +kernel) rfl, by decide +kernel, by decide +kernel, by decide +kernel⟩, gt_at 1683 (by decide +kernel) rfl, gt_at 61 (by decide +kernel) rfl, _, _, rfl⟩
theorem mk_MO_isOf : MKV m_MO_isOf 8 3 := ⟨⟨gt_at 1752 (by decide +kernel) rfl, gt_at 82 (by decide +kernel) rfl, by decide +kernel, by decide +kernel, by decide +kernel⟩, gt_at 1751 (by decide +kernel) rfl, gt_at 66 (by decide +kernel) rfl, _, _, rfl⟩
theorem mk_MO_see : MKV m_MO_see 8 0 := ⟨⟨gt_at 1680 (by decide +kernel) rfl, gt_at 82 (by decide +kernel) rfl, by decide +kernel, by decide +kernel, by decide +kernel⟩, gt_at 1679 (by decide +kernel) rfl, gt_at 60 (by decide +kernel) rfl, _, _, rfl⟩
theorem mk_MO_setPlain : MKV m_MO_setPlain 8 2 := ⟨⟨gt_at 1696 (by decide +kernel) rfl, gt_at 82 (by decide +kernel) rfl, by decide +kernel, by decide +kernel, by decide +kernel⟩, gt_at 1695 (by decide +kernel) rfl, gt_at 62 (by decide +kernel) rfl, _, _, rfl⟩
theorem mk_MO_toHand : MKV m_MO_toHand 8 0 := ⟨⟨gt_at 1676 (by decide +kernel) rfl, gt_at 82 (by decide +kernel) rfl, by decide +kernel, by decide +kernel, by decide +kernel⟩, gt_at 1675 (by decide +kernel) rfl, gt_at 59 (by decide +kernel) rfl, _, _, rfl⟩
theorem pf_8_69 : ∀ C T N, classes[8]? = some (C, T, N) → (T 69).2.2.2 = false := fun _ _ _ h => by cases h; rfl
theorem pf_8_77 : ∀ C T N, classes[8]? = some (C, T, N) → (T 77).2.2.2 = false := fun _ _ _ h => by cases h; rfl
theorem pf_8_78 : ∀ C T N, classes[8]? = some (C, T, N) → (T 78).2.2.2 = false := fun _ _ _ h => by cases h; rfl
theorem pf_8_79 : ∀ C T N, classes[8]? = some (C, T, N) → (T 79).2.2.2 = false := fun _ _ _ h => by cases h; rfl
theorem pf_8_86 : ∀ C T N, classes[8]? = some (C, T, N) → (T 86).2.2.2 = false := fun _ _ _ h => by cases h; rfl
theorem pf_8_87 : ∀ C T N, classes[8]? = some (C, T, N) → (T 87).2.2.2 = false := fun _ _ _ h => by cases h; rfl
theorem pf_8_88 : ∀ C T N, classes[8]? = some (C, T, N) → (T 88).2.2.2 = false := fun _ _ _ h => by cases h; rfl
theorem pf_8_89 : ∀ C T N, classes[8]? = some (C, T, N) → (T 89).2.2.2 = false := fun _ _ _ h => by cases h; rfl
theorem pf_8_92 : ∀ C T N, classes[8]? = some (C, T, N) → (T 92).2.2.2 = false := fun _ _ _ h => by cases h; rfl
theorem pf_8_93 : ∀ C T N, classes[8]? = some (C, T, N) → (T 93).2.2.2 = false := fun _ _ _ h => by cases h; rfl
theorem pf_8_94 : ∀ C T N, classes[8]? = some (C, T, N) → (T 94).2.2.2 = false := fun _ _ _ h => by cases h; rfl
theorem pf_8_96 : ∀ C T N, classes[8]? = some (C, T, N) → (T 96).2.2.2 = false := fun _ _ _ h => by cases h; rfl
def tb_MO_isDigit : List (Nat × Instr × Nat) := [(0, .iload_n 1, 1), (1, .aload_n 0, 1), (2, .getfield 479, 3), (5, .if_icmp .lt 22, 3), (8, .aload_n 0, 1), (9, .getfield 7, 3), (12, .aload_n 0, 1), (13, .getfield 62, 3), (16, .iload_n 1, 1), (17, .iaload, 1), (18, .iaload, 1), (19, .iconst 5, 1), (20, .if_icmp .ne 7, 3), (23, .iconst 1, 1), (24, .goto 4, 3), (27, .iconst 0, 1), (28, .ireturn, 1)]
theorem dt_MO_isDigit : DT (cM m_MO_isDigit) tb_MO_isDigit := by unfold DT; decide +kernel
abbrev a_MO_isDigit_0 (G : GT)  (v1 : Int) (σ : St) (P : Int → St → Prop) : Prop := A G m_MO_isDigit 0 [(0, O 8), (1, I v1)] [] σ P
set_option maxRecDepth 20000 in
theorem k_MO_isDigit_0 {G : GT} {σ : St} {P : Int → St → Prop}  {v1 : Int}  
    (h : rng v1 ∧ ((σ.2.1 8 88 ≤ v1 → (0 ≤ v1 ∧ v1 < 80) ∧ 0 ≤ σ.1 106 v1.toNat ∧ σ.1 106 v1.toNat < 60)) ∧ P (if σ.2.1 8 88 ≤ v1 ∧ σ.1 89 ((σ.1 106 v1.toNat).toNat) = 5 then 1 else 0) σ) :
    a_MO_isDigit_0 G v1 σ P := by
  refine r_iload_n (q := 1) (dc dt_MO_isDigit 0 rfl) rfl rfl 1 rfl ?_
  refine r_aload_n (q := 2) (dc dt_MO_isDigit 1 rfl) rfl rfl 0 rfl ?_
  refine r_getI (q := 5) (v := σ.2.1 8 88) fl_MO_479 (dc dt_MO_isDigit 2 rfl) rfl ly8 rfl rfl (fun g1 => ?_)
  obtain ⟨o2, h⟩ := h
  obtain ⟨ho, h⟩ := h
  have hJ : ∀ (w_0 : Int), w_0 = (if σ.2.1 8 88 ≤ v1 ∧ σ.1 89 ((σ.1 106 v1.toNat).toNat) = 5 then 1 else 0) → A G m_MO_isDigit 28 [(0, O 8), (1, I v1)] [I w_0] σ P := by
    intro w_0 z_0
    subst z_0
    exact r_zret rfl (dc dt_MO_isDigit 16 rfl) b01_or h
  clear h
  refine r_icmp_lt (q := 8) (t := 27) (dc dt_MO_isDigit 3 rfl) rfl (by decide) o2 g1 (fun q_ => ?_) (fun q_ => ?_)
  · have q7 := q_
    refine r_iconst (q := 28) (dc dt_MO_isDigit 15 rfl) rfl rfl ?_
    exact (hJ 0 ((if_neg (by first | omega | grind)).symm))
  · have q7 := q_
    have ho := ho q_
    refine r_aload_n (q := 9) (dc dt_MO_isDigit 4 rfl) rfl rfl 0 rfl ?_
    refine r_getO (q := 12) (v := 89) fl_MO_7 (dc dt_MO_isDigit 5 rfl) rfl ly8 rfl ?_
    refine r_aload_n (q := 13) (dc dt_MO_isDigit 6 rfl) rfl rfl 0 rfl ?_
    refine r_getO (q := 16) (v := 106) fl_MO_62 (dc dt_MO_isDigit 7 rfl) rfl ly8 rfl ?_
    refine r_iload_n (q := 17) (dc dt_MO_isDigit 8 rfl) rfl rfl 1 rfl ?_
    obtain ⟨o3, ho⟩ := ho
    refine r_iald (q := 18) (v := σ.1 106 v1.toNat) (dc dt_MO_isDigit 9 rfl) rfl ly106 o3 rfl (fun g4 => ?_)
    have o5 := ho
    refine r_iald (q := 19) (v := σ.1 89 ((σ.1 106 v1.toNat).toNat)) (dc dt_MO_isDigit 10 rfl) rfl ly89 o5 rfl (fun g6 => ?_)
    refine r_iconst (q := 20) (dc dt_MO_isDigit 11 rfl) rfl rfl ?_
    refine r_icmp_ne (q := 23) (t := 27) (dc dt_MO_isDigit 12 rfl) rfl (by decide) g6 (⟨by decide, by decide⟩ : rng 5) (fun q_ => ?_) (fun q_ => ?_)
    · have q8 := q_
      refine r_iconst (q := 28) (dc dt_MO_isDigit 15 rfl) rfl rfl ?_
      exact (hJ 0 ((if_neg (by first | omega | grind)).symm))
    · have q8 := q_
      refine r_iconst (q := 24) (dc dt_MO_isDigit 13 rfl) rfl rfl ?_
      refine r_goto (q := 28) (dc dt_MO_isDigit 14 rfl) (by decide) ?_
      exact (hJ 1 ((if_pos (by first | omega | grind)).symm))
set_option maxRecDepth 20000 in
theorem sp_MO_isDigit {G : GT} {σ : St} {v1 : Int}  (j0 : rng v1) (j1 : (σ.2.1 8 88 ≤ v1 → (0 ≤ v1 ∧ v1 < 80) ∧ 0 ≤ σ.1 106 v1.toNat ∧ σ.1 106 v1.toNat < 60)) : CJ G m_MO_isDigit [O 8, I v1] σ (fun r u => r = (if σ.2.1 8 88 ≤ v1 ∧ σ.1 89 ((σ.1 106 v1.toNat).toNat) = 5 then 1 else 0) ∧ u = σ) := by
  refine CJ.intro (by decide) (by simp [catA]; decide) (fun _ => k_MO_isDigit_0  ?_)
  refine ⟨by first | assumption | omega | grind, ?_⟩
  refine ⟨by first | assumption | omega | grind, ?_⟩
  exact ⟨rfl, rfl⟩
def tb_MO_see : List (Nat × Instr × Nat) := [(0, .iconst 0, 1), (1, .istore_n 1, 1), (2, .aload_n 0, 1), (3, .getfield 482, 3), (6, .istore_n 2, 1), (7, .iload_n 2, 1), (8, .aload_n 0, 1), (9, .getfield 479, 3), (12, .if_icmp .lt 62, 3), (15, .iload_n 2, 1), (16, .istore_n 3, 1), (17, .aload_n 0, 1), (18, .iload_n 2, 1), (19, .invokevirtual 488, 3), (22, .ifCond .eq 19, 3), (25, .aload_n 0, 1), (26, .iload_n 3, 1), (27, .iconst 1, 1), (28, .isub, 1), (29, .invokevirtual 488, 3), (32, .ifCond .eq 9, 3), (35, .iinc 3 (-1), 3), (38, .goto (-21), 3), (41, .iload_n 3, 1), (42, .istore 4, 2), (44, .iload 4, 2), (46, .iload_n 2, 1), (47, .if_icmp .gt 20, 3), (50, .aload_n 0, 1), (51, .getfield 201, 3), (54, .iload_n 1, 1), (55, .iload 4, 2), (57, .iastore, 1), (58, .iinc 1 1, 3), (61, .iinc 4 1, 3), (64, .goto (-20), 3), (67, .iload_n 3, 1), (68, .iconst 1, 1), (69, .isub, 1), (70, .istore_n 2, 1), (71, .goto (-64), 3), (74, .return_, 1)]
theorem dt_MO_see : DT (cM m_MO_see) tb_MO_see := by unfold DT; decide +kernel
abbrev a_MO_see_0 (G : GT)   (σ : St) (P : Int → St → Prop) : Prop := A G m_MO_see 0 [(0, O 8)] [] σ P
abbrev a_MO_see_7 (G : GT)  (v1 : Int) (v2 : Int) (σ : St) (P : Int → St → Prop) : Prop := A G m_MO_see 7 [(0, O 8), (1, I v1), (2, I v2)] [] σ P
abbrev a_MO_see_17 (G : GT)  (v1 : Int) (v2 : Int) (v3 : Int) (σ : St) (P : Int → St → Prop) : Prop := A G m_MO_see 17 [(0, O 8), (1, I v1), (2, I v2), (3, I v3)] [] σ P
abbrev a_MO_see_44 (G : GT)  (v1 : Int) (v2 : Int) (v3 : Int) (v4 : Int) (σ : St) (P : Int → St → Prop) : Prop := A G m_MO_see 44 [(0, O 8), (1, I v1), (2, I v2), (3, I v3), (4, I v4)] [] σ P
set_option maxRecDepth 20000 in
theorem k_MO_see_0 {G : GT} {σ : St} {P : Int → St → Prop}    
    (h : a_MO_see_7 G 0 (σ.2.1 8 89) σ P) :
    a_MO_see_0 G  σ P := by
  refine r_iconst (q := 1) (dc dt_MO_see 0 rfl) rfl rfl ?_
  refine r_istore_n (q := 2) (dc dt_MO_see 1 rfl) rfl rfl (by decide) rfl ?_
  refine r_aload_n (q := 3) (dc dt_MO_see 2 rfl) rfl rfl 1 rfl ?_
  refine r_getI (q := 6) (v := σ.2.1 8 89) fl_MO_482 (dc dt_MO_see 3 rfl) rfl ly8 rfl rfl (fun g1 => ?_)
  refine r_istore_n (q := 7) (dc dt_MO_see 4 rfl) rfl rfl (by decide) rfl ?_
  exact r_loc [2, 1, 0] rfl h
set_option maxRecDepth 20000 in
theorem k_MO_see_7 {G : GT} {σ : St} {P : Int → St → Prop}  {v1 : Int} {v2 : Int}  
    (h : rng v2 ∧ (v2 < σ.2.1 8 88 → P 0 σ) ∧ (σ.2.1 8 88 ≤ v2 → a_MO_see_17 G v1 v2 v2 σ P)) :
    a_MO_see_7 G v1 v2 σ P := by
  refine r_iload_n (q := 8) (dc dt_MO_see 5 rfl) rfl rfl 2 rfl ?_
  refine r_aload_n (q := 9) (dc dt_MO_see 6 rfl) rfl rfl 0 rfl ?_
  refine r_getI (q := 12) (v := σ.2.1 8 88) fl_MO_479 (dc dt_MO_see 7 rfl) rfl ly8 rfl rfl (fun g2 => ?_)
  obtain ⟨o3, h⟩ := h
  refine r_icmp_lt (q := 15) (t := 74) (dc dt_MO_see 8 rfl) rfl (by decide) o3 g2 (fun q_ => ?_) (fun q_ => ?_)
  · have h := h.1 q_
    exact r_vret rfl (dc dt_MO_see 41 rfl) h
  · have h := h.2 q_
    refine r_iload_n (q := 16) (dc dt_MO_see 9 rfl) rfl rfl 2 rfl ?_
    refine r_istore_n (q := 17) (dc dt_MO_see 10 rfl) rfl rfl (by decide) rfl ?_
    exact r_loc [1, 2, 3, 0] rfl h
set_option maxRecDepth 20000 in
theorem k_MO_see_17 {G : GT} {σ : St} {P : Int → St → Prop}  {v1 : Int} {v2 : Int} {v3 : Int}  
    (h : rng v2 ∧ (σ.2.1 8 88 ≤ v2 → (0 ≤ v2 ∧ v2 < 80) ∧ 0 ≤ σ.1 106 v2.toNat ∧ σ.1 106 v2.toNat < 60) ∧ (¬ (σ.2.1 8 88 ≤ v2 ∧ σ.1 89 ((σ.1 106 v2.toNat).toNat) = 5) → a_MO_see_44 G v1 v2 v3 v3 σ P) ∧ (σ.2.1 8 88 ≤ v2 ∧ σ.1 89 ((σ.1 106 v2.toNat).toNat) = 5 → rng (v3 - 1) ∧ (σ.2.1 8 88 ≤ (v3 - 1) → (0 ≤ (v3 - 1) ∧ (v3 - 1) < 80) ∧ 0 ≤ σ.1 106 (v3 - 1).toNat ∧ σ.1 106 (v3 - 1).toNat < 60) ∧ (¬ (σ.2.1 8 88 ≤ (v3 - 1) ∧ σ.1 89 ((σ.1 106 (v3 - 1).toNat).toNat) = 5) → a_MO_see_44 G v1 v2 v3 v3 σ P) ∧ (σ.2.1 8 88 ≤ (v3 - 1) ∧ σ.1 89 ((σ.1 106 (v3 - 1).toNat).toNat) = 5 → a_MO_see_17 G v1 v2 (v3 + (-1)) σ P))) :
    a_MO_see_17 G v1 v2 v3 σ P := by
  refine r_aload_n (q := 18) (dc dt_MO_see 11 rfl) rfl rfl 0 rfl ?_
  refine r_iload_n (q := 19) (dc dt_MO_see 12 rfl) rfl rfl 2 rfl ?_
  obtain ⟨o4, h⟩ := h
  obtain ⟨o5, h⟩ := h
  refine r_callVi (q := 22) mk_MO_isDigit lm_MO_488 (RMO.of rfl) rfl (dc dt_MO_see 13 rfl) rfl ly8 [I v2] [] rfl rfl (Nat.le_of_ble_eq_true rfl) (sp_MO_isDigit o4 o5) (fun _ _ g6 z => ?_)
  obtain ⟨z, w⟩ := z
  subst z
  replace w := w.symm
  subst w
  refine r_ifb_eq (q := 25) (t := 41) (dc dt_MO_see 14 rfl) rfl (by decide) (fun q_ => ?_) (fun q_ => ?_)
  · have h := h.1 q_
    refine r_iload_n (q := 42) (dc dt_MO_see 23 rfl) rfl rfl 3 rfl ?_
    refine r_istore (q := 44) (dc dt_MO_see 24 rfl) rfl (by decide) rfl ?_
    exact r_loc [1, 2, 3, 4, 0] rfl h
  · have h := h.2 q_
    refine r_aload_n (q := 26) (dc dt_MO_see 15 rfl) rfl rfl 0 rfl ?_
    refine r_iload_n (q := 27) (dc dt_MO_see 16 rfl) rfl rfl 3 rfl ?_
    refine r_iconst (q := 28) (dc dt_MO_see 17 rfl) rfl rfl ?_
    refine r_isub (q := 29) (dc dt_MO_see 18 rfl) rfl ?_
    obtain ⟨o10, h⟩ := h
    obtain ⟨o11, h⟩ := h
    refine r_callVi (q := 32) mk_MO_isDigit lm_MO_488 (RMO.of rfl) rfl (dc dt_MO_see 19 rfl) rfl ly8 [I (v3 - 1)] [] rfl rfl (Nat.le_of_ble_eq_true rfl) (sp_MO_isDigit o10 o11) (fun _ _ g12 z => ?_)
    obtain ⟨z, w⟩ := z
    subst z
    replace w := w.symm
    subst w
    refine r_ifb_eq (q := 35) (t := 41) (dc dt_MO_see 20 rfl) rfl (by decide) (fun q_ => ?_) (fun q_ => ?_)
    · have h := h.1 q_
      refine r_iload_n (q := 42) (dc dt_MO_see 23 rfl) rfl rfl 3 rfl ?_
      refine r_istore (q := 44) (dc dt_MO_see 24 rfl) rfl (by decide) rfl ?_
      exact r_loc [1, 2, 3, 4, 0] rfl h
    · have h := h.2 q_
      refine r_iinc (q := 38) (k := 3) (dc dt_MO_see 21 rfl) rfl rfl (by decide) rfl ?_
      refine r_goto (q := 17) (dc dt_MO_see 22 rfl) (by decide) ?_
      exact r_loc [1, 2, 3, 0] rfl h
set_option maxRecDepth 20000 in
theorem k_MO_see_44 {G : GT} {σ : St} {P : Int → St → Prop}  {v1 : Int} {v2 : Int} {v3 : Int} {v4 : Int}  
    (h : rng v4 ∧ rng v2 ∧ (v2 < v4 → a_MO_see_7 G v1 (v3 - 1) σ P) ∧ (v4 ≤ v2 → (0 ≤ v1 ∧ v1 < 80) ∧ (∀ σ16, σ16 = sa σ 152 v1.toNat v4 → a_MO_see_44 G (v1 + 1) v2 v3 (v4 + 1) σ16 P))) :
    a_MO_see_44 G v1 v2 v3 v4 σ P := by
  refine r_iload (q := 46) (dc dt_MO_see 25 rfl) rfl 4 rfl ?_
  refine r_iload_n (q := 47) (dc dt_MO_see 26 rfl) rfl rfl 2 rfl ?_
  obtain ⟨o13, h⟩ := h
  obtain ⟨o14, h⟩ := h
  refine r_icmp_gt (q := 50) (t := 67) (dc dt_MO_see 27 rfl) rfl (by decide) o13 o14 (fun q_ => ?_) (fun q_ => ?_)
  · have h := h.1 q_
    refine r_iload_n (q := 68) (dc dt_MO_see 36 rfl) rfl rfl 3 rfl ?_
    refine r_iconst (q := 69) (dc dt_MO_see 37 rfl) rfl rfl ?_
    refine r_isub (q := 70) (dc dt_MO_see 38 rfl) rfl ?_
    refine r_istore_n (q := 71) (dc dt_MO_see 39 rfl) rfl rfl (by decide) rfl ?_
    refine r_goto (q := 7) (dc dt_MO_see 40 rfl) (by decide) ?_
    exact r_loc [1, 2, 0] rfl h
  · have h := h.2 q_
    refine r_aload_n (q := 51) (dc dt_MO_see 28 rfl) rfl rfl 0 rfl ?_
    refine r_getO (q := 54) (v := 152) fl_MO_201 (dc dt_MO_see 29 rfl) rfl ly8 rfl ?_
    refine r_iload_n (q := 55) (dc dt_MO_see 30 rfl) rfl rfl 1 rfl ?_
    refine r_iload (q := 57) (dc dt_MO_see 31 rfl) rfl 4 rfl ?_
    obtain ⟨o15, h⟩ := h
    refine r_iast (q := 58) (dc dt_MO_see 32 rfl) rfl ly152 o15 o13 (fun σ16 e17 => ?_)
    have h := h σ16 e17
    refine r_iinc (q := 61) (k := 1) (dc dt_MO_see 33 rfl) rfl rfl (by decide) rfl ?_
    refine r_iinc (q := 64) (k := 4) (dc dt_MO_see 34 rfl) rfl rfl (by decide) rfl ?_
    refine r_goto (q := 44) (dc dt_MO_see 35 rfl) (by decide) ?_
    exact r_loc [2, 1, 3, 4, 0] rfl h
def tb_MO_toHand : List (Nat × Instr × Nat) := [(0, .aload_n 0, 1), (1, .iconst 1, 1), (2, .putfield 260, 3), (5, .aload_n 0, 1), (6, .aload_n 0, 1), (7, .getfield 395, 3), (10, .putfield 461, 3), (13, .iconst 0, 1), (14, .istore_n 1, 1), (15, .iload_n 1, 1), (16, .aload_n 0, 1), (17, .getfield 395, 3), (20, .if_icmp .ge 93, 3), (23, .aload_n 0, 1), (24, .getfield 162, 3), (27, .iload_n 1, 1), (28, .aload_n 0, 1), (29, .getfield 120, 3), (32, .iload_n 1, 1), (33, .iaload, 1), (34, .iastore, 1), (35, .aload_n 0, 1), (36, .getfield 165, 3), (39, .iload_n 1, 1), (40, .aload_n 0, 1), (41, .getfield 123, 3), (44, .iload_n 1, 1), (45, .iaload, 1), (46, .iastore, 1), (47, .aload_n 0, 1), (48, .getfield 168, 3), (51, .iload_n 1, 1), (52, .aload_n 0, 1), (53, .getfield 126, 3), (56, .iload_n 1, 1), (57, .iaload, 1), (58, .iastore, 1), (59, .aload_n 0, 1), (60, .getfield 171, 3), (63, .iload_n 1, 1), (64, .aload_n 0, 1), (65, .getfield 129, 3), (68, .iload_n 1, 1), (69, .iaload, 1), (70, .iastore, 1), (71, .aload_n 0, 1), (72, .getfield 174, 3), (75, .iload_n 1, 1), (76, .aload_n 0, 1), (77, .getfield 132, 3), (80, .iload_n 1, 1), (81, .iaload, 1), (82, .iastore, 1), (83, .aload_n 0, 1), (84, .getfield 177, 3), (87, .iload_n 1, 1), (88, .aload_n 0, 1), (89, .getfield 135, 3), (92, .iload_n 1, 1), (93, .iaload, 1), (94, .iastore, 1), (95, .aload_n 0, 1), (96, .getfield 180, 3), (99, .iload_n 1, 1), (100, .aload_n 0, 1), (101, .getfield 138, 3), (104, .iload_n 1, 1), (105, .iaload, 1), (106, .iastore, 1), (107, .iinc 1 1, 3), (110, .goto (-95), 3), (113, .aload_n 0, 1), (114, .aload_n 0, 1), (115, .getfield 398, 3), (118, .putfield 464, 3), (121, .aload_n 0, 1), (122, .aload_n 0, 1), (123, .getfield 401, 3), (126, .putfield 467, 3), (129, .aload_n 0, 1), (130, .aload_n 0, 1), (131, .getfield 446, 3), (134, .putfield 470, 3), (137, .iconst 0, 1), (138, .istore_n 1, 1), (139, .iload_n 1, 1), (140, .aload_n 0, 1), (141, .getfield 446, 3), (144, .if_icmp .ge 81, 3), (147, .aload_n 0, 1), (148, .getfield 183, 3), (151, .iload_n 1, 1), (152, .aload_n 0, 1), (153, .getfield 144, 3), (156, .iload_n 1, 1), (157, .iaload, 1), (158, .iastore, 1), (159, .aload_n 0, 1), (160, .getfield 186, 3), (163, .iload_n 1, 1), (164, .aload_n 0, 1), (165, .getfield 147, 3), (168, .iload_n 1, 1), (169, .iaload, 1), (170, .iastore, 1), (171, .aload_n 0, 1), (172, .getfield 189, 3), (175, .iload_n 1, 1), (176, .aload_n 0, 1), (177, .getfield 150, 3), (180, .iload_n 1, 1), (181, .iaload, 1), (182, .iastore, 1), (183, .aload_n 0, 1), (184, .getfield 192, 3), (187, .iload_n 1, 1), (188, .aload_n 0, 1), (189, .getfield 153, 3), (192, .iload_n 1, 1), (193, .iaload, 1), (194, .iastore, 1), (195, .aload_n 0, 1), (196, .getfield 195, 3), (199, .iload_n 1, 1), (200, .aload_n 0, 1), (201, .getfield 156, 3), (204, .iload_n 1, 1), (205, .iaload, 1), (206, .iastore, 1), (207, .aload_n 0, 1), (208, .getfield 198, 3), (211, .iload_n 1, 1), (212, .aload_n 0, 1), (213, .getfield 159, 3), (216, .iload_n 1, 1), (217, .iaload, 1), (218, .iastore, 1), (219, .iinc 1 1, 3), (222, .goto (-83), 3), (225, .aload_n 0, 1), (226, .aload_n 0, 1), (227, .getfield 449, 3), (230, .putfield 473, 3), (233, .aload_n 0, 1), (234, .aload_n 0, 1), (235, .getfield 452, 3), (238, .putfield 476, 3), (241, .aload_n 0, 1), (242, .aload_n 0, 1), (243, .getfield 404, 3), (246, .putfield 479, 3), (249, .aload_n 0, 1), (250, .aload_n 0, 1), (251, .getfield 407, 3), (254, .putfield 482, 3), (257, .aload_n 0, 1), (258, .invokevirtual 485, 3), (261, .return_, 1)]
theorem dt_MO_toHand : DT (cM m_MO_toHand) tb_MO_toHand := by unfold DT; decide +kernel
abbrev a_MO_toHand_0 (G : GT)   (σ : St) (P : Int → St → Prop) : Prop := A G m_MO_toHand 0 [(0, O 8)] [] σ P
abbrev a_MO_toHand_15 (G : GT)  (v1 : Int) (σ : St) (P : Int → St → Prop) : Prop := A G m_MO_toHand 15 [(0, O 8), (1, I v1)] [] σ P
abbrev a_MO_toHand_139 (G : GT)  (v1 : Int) (σ : St) (P : Int → St → Prop) : Prop := A G m_MO_toHand 139 [(0, O 8), (1, I v1)] [] σ P
set_option maxRecDepth 20000 in
theorem k_MO_toHand_0 {G : GT} {σ : St} {P : Int → St → Prop}    
    (h : (∀ σ1, σ1 = sf σ 8 68 1 → (∀ σ4, σ4 = sf σ1 8 69 (σ.2.1 8 44) → a_MO_toHand_15 G 0 σ4 P))) :
    a_MO_toHand_0 G  σ P := by
  refine r_aload_n (q := 1) (dc dt_MO_toHand 0 rfl) rfl rfl 0 rfl ?_
  refine r_iconst (q := 2) (dc dt_MO_toHand 1 rfl) rfl rfl ?_
  refine r_put (q := 5) fl_MO_260 (dc dt_MO_toHand 2 rfl) rfl ly8 (fun _ => rfl) (Or.inr ⟨rfl, (by decide)⟩) pf_8_68 (⟨by decide, by decide⟩ : rng 1) (fun σ1 e2 => ?_)
  have h := h σ1 e2
  refine r_aload_n (q := 6) (dc dt_MO_toHand 3 rfl) rfl rfl 0 rfl ?_
  refine r_aload_n (q := 7) (dc dt_MO_toHand 4 rfl) rfl rfl 0 rfl ?_
  refine r_getI (q := 10) (v := σ.2.1 8 44) fl_MO_395 (dc dt_MO_toHand 5 rfl) rfl ly8 rfl (by rw [e2]; rfl) (fun g3 => ?_)
  refine r_put (q := 13) fl_MO_461 (dc dt_MO_toHand 6 rfl) rfl ly8 (fun _ => rfl) (Or.inl rfl) pf_8_69 g3 (fun σ4 e5 => ?_)
  have h := h σ4 e5
  refine r_iconst (q := 14) (dc dt_MO_toHand 7 rfl) rfl rfl ?_
  refine r_istore_n (q := 15) (dc dt_MO_toHand 8 rfl) rfl rfl (by decide) rfl ?_
  exact r_loc [1, 0] rfl h
set_option maxRecDepth 20000 in
theorem k_MO_toHand_15 {G : GT} {σ : St} {P : Int → St → Prop}  {v1 : Int}  
    (h : rng v1 ∧ (σ.2.1 8 44 ≤ v1 → (∀ σ11, σ11 = sf σ 8 77 (σ.2.1 8 53) → (∀ σ14, σ14 = sf σ11 8 78 (σ.2.1 8 54) → (∀ σ17, σ17 = sf σ14 8 79 (σ.2.1 8 55) → a_MO_toHand_139 G 0 σ17 P)))) ∧ (v1 < σ.2.1 8 44 → (0 ≤ v1 ∧ v1 < 80) ∧ (∀ σ21, σ21 = sa σ 139 v1.toNat (σ.1 125 v1.toNat) → (∀ σ24, σ24 = sa σ21 140 v1.toNat (σ.1 126 v1.toNat) → (∀ σ27, σ27 = sa σ24 141 v1.toNat (σ.1 127 v1.toNat) → (∀ σ30, σ30 = sa σ27 142 v1.toNat (σ.1 128 v1.toNat) → (∀ σ33, σ33 = sa σ30 143 v1.toNat (σ.1 129 v1.toNat) → (∀ σ36, σ36 = sa σ33 144 v1.toNat (σ.1 130 v1.toNat) → (∀ σ39, σ39 = sa σ36 145 v1.toNat (σ.1 131 v1.toNat) → a_MO_toHand_15 G (v1 + 1) σ39 P))))))))) :
    a_MO_toHand_15 G v1 σ P := by
  refine r_iload_n (q := 16) (dc dt_MO_toHand 9 rfl) rfl rfl 1 rfl ?_
  refine r_aload_n (q := 17) (dc dt_MO_toHand 10 rfl) rfl rfl 0 rfl ?_
  refine r_getI (q := 20) (v := σ.2.1 8 44) fl_MO_395 (dc dt_MO_toHand 11 rfl) rfl ly8 rfl rfl (fun g6 => ?_)
  obtain ⟨o7, h⟩ := h
  refine r_icmp_ge (q := 23) (t := 113) (dc dt_MO_toHand 12 rfl) rfl (by decide) o7 g6 (fun q_ => ?_) (fun q_ => ?_)
  · have h := h.1 q_
    refine r_aload_n (q := 114) (dc dt_MO_toHand 71 rfl) rfl rfl 0 rfl ?_
    refine r_aload_n (q := 115) (dc dt_MO_toHand 72 rfl) rfl rfl 0 rfl ?_
    refine r_getI (q := 118) (v := σ.2.1 8 53) fl_MO_398 (dc dt_MO_toHand 73 rfl) rfl ly8 rfl rfl (fun g10 => ?_)
    refine r_put (q := 121) fl_MO_464 (dc dt_MO_toHand 74 rfl) rfl ly8 (fun _ => rfl) (Or.inl rfl) pf_8_77 g10 (fun σ11 e12 => ?_)
    have h := h σ11 e12
    refine r_aload_n (q := 122) (dc dt_MO_toHand 75 rfl) rfl rfl 0 rfl ?_
    refine r_aload_n (q := 123) (dc dt_MO_toHand 76 rfl) rfl rfl 0 rfl ?_
    refine r_getI (q := 126) (v := σ.2.1 8 54) fl_MO_401 (dc dt_MO_toHand 77 rfl) rfl ly8 rfl (by rw [e12]; rfl) (fun g13 => ?_)
    refine r_put (q := 129) fl_MO_467 (dc dt_MO_toHand 78 rfl) rfl ly8 (fun _ => rfl) (Or.inl rfl) pf_8_78 g13 (fun σ14 e15 => ?_)
    have h := h σ14 e15
    refine r_aload_n (q := 130) (dc dt_MO_toHand 79 rfl) rfl rfl 0 rfl ?_
    refine r_aload_n (q := 131) (dc dt_MO_toHand 80 rfl) rfl rfl 0 rfl ?_
    refine r_getI (q := 134) (v := σ.2.1 8 55) fl_MO_446 (dc dt_MO_toHand 81 rfl) rfl ly8 rfl (by rw [e15, e12]; rfl) (fun g16 => ?_)
    refine r_put (q := 137) fl_MO_470 (dc dt_MO_toHand 82 rfl) rfl ly8 (fun _ => rfl) (Or.inl rfl) pf_8_79 g16 (fun σ17 e18 => ?_)
    have h := h σ17 e18
    refine r_iconst (q := 138) (dc dt_MO_toHand 83 rfl) rfl rfl ?_
    refine r_istore_n (q := 139) (dc dt_MO_toHand 84 rfl) rfl rfl (by decide) rfl ?_
    exact r_loc [1, 0] rfl h
  · have h := h.2 q_
    refine r_aload_n (q := 24) (dc dt_MO_toHand 13 rfl) rfl rfl 0 rfl ?_
    refine r_getO (q := 27) (v := 139) fl_MO_162 (dc dt_MO_toHand 14 rfl) rfl ly8 rfl ?_
    refine r_iload_n (q := 28) (dc dt_MO_toHand 15 rfl) rfl rfl 1 rfl ?_
    refine r_aload_n (q := 29) (dc dt_MO_toHand 16 rfl) rfl rfl 0 rfl ?_
    refine r_getO (q := 32) (v := 125) fl_MO_120 (dc dt_MO_toHand 17 rfl) rfl ly8 rfl ?_
    refine r_iload_n (q := 33) (dc dt_MO_toHand 18 rfl) rfl rfl 1 rfl ?_
    obtain ⟨o19, h⟩ := h
    refine r_iald (q := 34) (v := σ.1 125 v1.toNat) (dc dt_MO_toHand 19 rfl) rfl ly125 o19 rfl (fun g20 => ?_)
    refine r_iast (q := 35) (dc dt_MO_toHand 20 rfl) rfl ly139 o19 g20 (fun σ21 e22 => ?_)
    have h := h σ21 e22
    refine r_aload_n (q := 36) (dc dt_MO_toHand 21 rfl) rfl rfl 0 rfl ?_
    refine r_getO (q := 39) (v := 140) fl_MO_165 (dc dt_MO_toHand 22 rfl) rfl ly8 rfl ?_
    refine r_iload_n (q := 40) (dc dt_MO_toHand 23 rfl) rfl rfl 1 rfl ?_
    refine r_aload_n (q := 41) (dc dt_MO_toHand 24 rfl) rfl rfl 0 rfl ?_
    refine r_getO (q := 44) (v := 126) fl_MO_123 (dc dt_MO_toHand 25 rfl) rfl ly8 rfl ?_
    refine r_iload_n (q := 45) (dc dt_MO_toHand 26 rfl) rfl rfl 1 rfl ?_
    refine r_iald (q := 46) (v := σ.1 126 v1.toNat) (dc dt_MO_toHand 27 rfl) rfl ly126 o19 (by rw [e22]; rfl) (fun g23 => ?_)
    refine r_iast (q := 47) (dc dt_MO_toHand 28 rfl) rfl ly140 o19 g23 (fun σ24 e25 => ?_)
    have h := h σ24 e25
    refine r_aload_n (q := 48) (dc dt_MO_toHand 29 rfl) rfl rfl 0 rfl ?_
    refine r_getO (q := 51) (v := 141) fl_MO_168 (dc dt_MO_toHand 30 rfl) rfl ly8 rfl ?_
    refine r_iload_n (q := 52) (dc dt_MO_toHand 31 rfl) rfl rfl 1 rfl ?_
    refine r_aload_n (q := 53) (dc dt_MO_toHand 32 rfl) rfl rfl 0 rfl ?_
    refine r_getO (q := 56) (v := 127) fl_MO_126 (dc dt_MO_toHand 33 rfl) rfl ly8 rfl ?_
    refine r_iload_n (q := 57) (dc dt_MO_toHand 34 rfl) rfl rfl 1 rfl ?_
    refine r_iald (q := 58) (v := σ.1 127 v1.toNat) (dc dt_MO_toHand 35 rfl) rfl ly127 o19 (by rw [e25, e22]; rfl) (fun g26 => ?_)
    refine r_iast (q := 59) (dc dt_MO_toHand 36 rfl) rfl ly141 o19 g26 (fun σ27 e28 => ?_)
    have h := h σ27 e28
    refine r_aload_n (q := 60) (dc dt_MO_toHand 37 rfl) rfl rfl 0 rfl ?_
    refine r_getO (q := 63) (v := 142) fl_MO_171 (dc dt_MO_toHand 38 rfl) rfl ly8 rfl ?_
    refine r_iload_n (q := 64) (dc dt_MO_toHand 39 rfl) rfl rfl 1 rfl ?_
    refine r_aload_n (q := 65) (dc dt_MO_toHand 40 rfl) rfl rfl 0 rfl ?_
    refine r_getO (q := 68) (v := 128) fl_MO_129 (dc dt_MO_toHand 41 rfl) rfl ly8 rfl ?_
    refine r_iload_n (q := 69) (dc dt_MO_toHand 42 rfl) rfl rfl 1 rfl ?_
    refine r_iald (q := 70) (v := σ.1 128 v1.toNat) (dc dt_MO_toHand 43 rfl) rfl ly128 o19 (by rw [e28, e25, e22]; rfl) (fun g29 => ?_)
    refine r_iast (q := 71) (dc dt_MO_toHand 44 rfl) rfl ly142 o19 g29 (fun σ30 e31 => ?_)
    have h := h σ30 e31
    refine r_aload_n (q := 72) (dc dt_MO_toHand 45 rfl) rfl rfl 0 rfl ?_
    refine r_getO (q := 75) (v := 143) fl_MO_174 (dc dt_MO_toHand 46 rfl) rfl ly8 rfl ?_
    refine r_iload_n (q := 76) (dc dt_MO_toHand 47 rfl) rfl rfl 1 rfl ?_
    refine r_aload_n (q := 77) (dc dt_MO_toHand 48 rfl) rfl rfl 0 rfl ?_
    refine r_getO (q := 80) (v := 129) fl_MO_132 (dc dt_MO_toHand 49 rfl) rfl ly8 rfl ?_
    refine r_iload_n (q := 81) (dc dt_MO_toHand 50 rfl) rfl rfl 1 rfl ?_
    refine r_iald (q := 82) (v := σ.1 129 v1.toNat) (dc dt_MO_toHand 51 rfl) rfl ly129 o19 (by rw [e31, e28, e25, e22]; rfl) (fun g32 => ?_)
    refine r_iast (q := 83) (dc dt_MO_toHand 52 rfl) rfl ly143 o19 g32 (fun σ33 e34 => ?_)
    have h := h σ33 e34
    refine r_aload_n (q := 84) (dc dt_MO_toHand 53 rfl) rfl rfl 0 rfl ?_
    refine r_getO (q := 87) (v := 144) fl_MO_177 (dc dt_MO_toHand 54 rfl) rfl ly8 rfl ?_
    refine r_iload_n (q := 88) (dc dt_MO_toHand 55 rfl) rfl rfl 1 rfl ?_
    refine r_aload_n (q := 89) (dc dt_MO_toHand 56 rfl) rfl rfl 0 rfl ?_
    refine r_getO (q := 92) (v := 130) fl_MO_135 (dc dt_MO_toHand 57 rfl) rfl ly8 rfl ?_
    refine r_iload_n (q := 93) (dc dt_MO_toHand 58 rfl) rfl rfl 1 rfl ?_
    refine r_iald (q := 94) (v := σ.1 130 v1.toNat) (dc dt_MO_toHand 59 rfl) rfl ly130 o19 (by rw [e34, e31, e28, e25, e22]; rfl) (fun g35 => ?_)
    refine r_iast (q := 95) (dc dt_MO_toHand 60 rfl) rfl ly144 o19 g35 (fun σ36 e37 => ?_)
    have h := h σ36 e37
    refine r_aload_n (q := 96) (dc dt_MO_toHand 61 rfl) rfl rfl 0 rfl ?_
    refine r_getO (q := 99) (v := 145) fl_MO_180 (dc dt_MO_toHand 62 rfl) rfl ly8 rfl ?_
    refine r_iload_n (q := 100) (dc dt_MO_toHand 63 rfl) rfl rfl 1 rfl ?_
    refine r_aload_n (q := 101) (dc dt_MO_toHand 64 rfl) rfl rfl 0 rfl ?_
    refine r_getO (q := 104) (v := 131) fl_MO_138 (dc dt_MO_toHand 65 rfl) rfl ly8 rfl ?_
    refine r_iload_n (q := 105) (dc dt_MO_toHand 66 rfl) rfl rfl 1 rfl ?_
    refine r_iald (q := 106) (v := σ.1 131 v1.toNat) (dc dt_MO_toHand 67 rfl) rfl ly131 o19 (by rw [e37, e34, e31, e28, e25, e22]; rfl) (fun g38 => ?_)
    refine r_iast (q := 107) (dc dt_MO_toHand 68 rfl) rfl ly145 o19 g38 (fun σ39 e40 => ?_)
    have h := h σ39 e40
    refine r_iinc (q := 110) (k := 1) (dc dt_MO_toHand 69 rfl) rfl rfl (by decide) rfl ?_
    refine r_goto (q := 15) (dc dt_MO_toHand 70 rfl) (by decide) ?_
    exact r_loc [1, 0] rfl h
set_option maxRecDepth 20000 in
theorem k_MO_toHand_139 {G : GT} {σ : St} {P : Int → St → Prop}  {v1 : Int}  
    (h : rng v1 ∧ (σ.2.1 8 55 ≤ v1 → (∀ σ46, σ46 = sf σ 8 86 (σ.2.1 8 62) → (∀ σ49, σ49 = sf σ46 8 87 (σ.2.1 8 63) → (∀ σ52, σ52 = sf σ49 8 88 (σ.2.1 8 64) → (∀ σ55, σ55 = sf σ52 8 89 (σ.2.1 8 65) → CJ G m_MO_see [O 8] σ55 (fun _ u57 => P 0 u57)))))) ∧ (v1 < σ.2.1 8 55 → (0 ≤ v1 ∧ v1 < 80) ∧ (∀ σ60, σ60 = sa σ 146 v1.toNat (σ.1 133 v1.toNat) → (∀ σ63, σ63 = sa σ60 147 v1.toNat (σ.1 134 v1.toNat) → (∀ σ66, σ66 = sa σ63 148 v1.toNat (σ.1 135 v1.toNat) → (∀ σ69, σ69 = sa σ66 149 v1.toNat (σ.1 136 v1.toNat) → (∀ σ72, σ72 = sa σ69 150 v1.toNat (σ.1 137 v1.toNat) → (∀ σ75, σ75 = sa σ72 151 v1.toNat (σ.1 138 v1.toNat) → a_MO_toHand_139 G (v1 + 1) σ75 P)))))))) :
    a_MO_toHand_139 G v1 σ P := by
  refine r_iload_n (q := 140) (dc dt_MO_toHand 85 rfl) rfl rfl 1 rfl ?_
  refine r_aload_n (q := 141) (dc dt_MO_toHand 86 rfl) rfl rfl 0 rfl ?_
  refine r_getI (q := 144) (v := σ.2.1 8 55) fl_MO_446 (dc dt_MO_toHand 87 rfl) rfl ly8 rfl rfl (fun g41 => ?_)
  obtain ⟨o42, h⟩ := h
  refine r_icmp_ge (q := 147) (t := 225) (dc dt_MO_toHand 88 rfl) rfl (by decide) o42 g41 (fun q_ => ?_) (fun q_ => ?_)
  · have h := h.1 q_
    refine r_aload_n (q := 226) (dc dt_MO_toHand 139 rfl) rfl rfl 0 rfl ?_
    refine r_aload_n (q := 227) (dc dt_MO_toHand 140 rfl) rfl rfl 0 rfl ?_
    refine r_getI (q := 230) (v := σ.2.1 8 62) fl_MO_449 (dc dt_MO_toHand 141 rfl) rfl ly8 rfl rfl (fun g45 => ?_)
    refine r_put (q := 233) fl_MO_473 (dc dt_MO_toHand 142 rfl) rfl ly8 (fun _ => rfl) (Or.inl rfl) pf_8_86 g45 (fun σ46 e47 => ?_)
    have h := h σ46 e47
    refine r_aload_n (q := 234) (dc dt_MO_toHand 143 rfl) rfl rfl 0 rfl ?_
    refine r_aload_n (q := 235) (dc dt_MO_toHand 144 rfl) rfl rfl 0 rfl ?_
    refine r_getI (q := 238) (v := σ.2.1 8 63) fl_MO_452 (dc dt_MO_toHand 145 rfl) rfl ly8 rfl (by rw [e47]; rfl) (fun g48 => ?_)
    refine r_put (q := 241) fl_MO_476 (dc dt_MO_toHand 146 rfl) rfl ly8 (fun _ => rfl) (Or.inl rfl) pf_8_87 g48 (fun σ49 e50 => ?_)
    have h := h σ49 e50
    refine r_aload_n (q := 242) (dc dt_MO_toHand 147 rfl) rfl rfl 0 rfl ?_
    refine r_aload_n (q := 243) (dc dt_MO_toHand 148 rfl) rfl rfl 0 rfl ?_
    refine r_getI (q := 246) (v := σ.2.1 8 64) fl_MO_404 (dc dt_MO_toHand 149 rfl) rfl ly8 rfl (by rw [e50, e47]; rfl) (fun g51 => ?_)
    refine r_put (q := 249) fl_MO_479 (dc dt_MO_toHand 150 rfl) rfl ly8 (fun _ => rfl) (Or.inl rfl) pf_8_88 g51 (fun σ52 e53 => ?_)
    have h := h σ52 e53
    refine r_aload_n (q := 250) (dc dt_MO_toHand 151 rfl) rfl rfl 0 rfl ?_
    refine r_aload_n (q := 251) (dc dt_MO_toHand 152 rfl) rfl rfl 0 rfl ?_
    refine r_getI (q := 254) (v := σ.2.1 8 65) fl_MO_407 (dc dt_MO_toHand 153 rfl) rfl ly8 rfl (by rw [e53, e50, e47]; rfl) (fun g54 => ?_)
    refine r_put (q := 257) fl_MO_482 (dc dt_MO_toHand 154 rfl) rfl ly8 (fun _ => rfl) (Or.inl rfl) pf_8_89 g54 (fun σ55 e56 => ?_)
    have h := h σ55 e56
    refine r_aload_n (q := 258) (dc dt_MO_toHand 155 rfl) rfl rfl 0 rfl ?_
    refine r_callVv (q := 261) mk_MO_see lm_MO_485 (RMO.of rfl) rfl (dc dt_MO_toHand 156 rfl) rfl ly8 [] [] rfl rfl (Nat.le_of_ble_eq_true rfl) h (fun u57 h => ?_)
    exact r_vret rfl (dc dt_MO_toHand 157 rfl) h
  · have h := h.2 q_
    refine r_aload_n (q := 148) (dc dt_MO_toHand 89 rfl) rfl rfl 0 rfl ?_
    refine r_getO (q := 151) (v := 146) fl_MO_183 (dc dt_MO_toHand 90 rfl) rfl ly8 rfl ?_
    refine r_iload_n (q := 152) (dc dt_MO_toHand 91 rfl) rfl rfl 1 rfl ?_
    refine r_aload_n (q := 153) (dc dt_MO_toHand 92 rfl) rfl rfl 0 rfl ?_
    refine r_getO (q := 156) (v := 133) fl_MO_144 (dc dt_MO_toHand 93 rfl) rfl ly8 rfl ?_
    refine r_iload_n (q := 157) (dc dt_MO_toHand 94 rfl) rfl rfl 1 rfl ?_
    obtain ⟨o58, h⟩ := h
    refine r_iald (q := 158) (v := σ.1 133 v1.toNat) (dc dt_MO_toHand 95 rfl) rfl ly133 o58 rfl (fun g59 => ?_)
    refine r_iast (q := 159) (dc dt_MO_toHand 96 rfl) rfl ly146 o58 g59 (fun σ60 e61 => ?_)
    have h := h σ60 e61
    refine r_aload_n (q := 160) (dc dt_MO_toHand 97 rfl) rfl rfl 0 rfl ?_
    refine r_getO (q := 163) (v := 147) fl_MO_186 (dc dt_MO_toHand 98 rfl) rfl ly8 rfl ?_
    refine r_iload_n (q := 164) (dc dt_MO_toHand 99 rfl) rfl rfl 1 rfl ?_
    refine r_aload_n (q := 165) (dc dt_MO_toHand 100 rfl) rfl rfl 0 rfl ?_
    refine r_getO (q := 168) (v := 134) fl_MO_147 (dc dt_MO_toHand 101 rfl) rfl ly8 rfl ?_
    refine r_iload_n (q := 169) (dc dt_MO_toHand 102 rfl) rfl rfl 1 rfl ?_
    refine r_iald (q := 170) (v := σ.1 134 v1.toNat) (dc dt_MO_toHand 103 rfl) rfl ly134 o58 (by rw [e61]; rfl) (fun g62 => ?_)
    refine r_iast (q := 171) (dc dt_MO_toHand 104 rfl) rfl ly147 o58 g62 (fun σ63 e64 => ?_)
    have h := h σ63 e64
    refine r_aload_n (q := 172) (dc dt_MO_toHand 105 rfl) rfl rfl 0 rfl ?_
    refine r_getO (q := 175) (v := 148) fl_MO_189 (dc dt_MO_toHand 106 rfl) rfl ly8 rfl ?_
    refine r_iload_n (q := 176) (dc dt_MO_toHand 107 rfl) rfl rfl 1 rfl ?_
    refine r_aload_n (q := 177) (dc dt_MO_toHand 108 rfl) rfl rfl 0 rfl ?_
    refine r_getO (q := 180) (v := 135) fl_MO_150 (dc dt_MO_toHand 109 rfl) rfl ly8 rfl ?_
    refine r_iload_n (q := 181) (dc dt_MO_toHand 110 rfl) rfl rfl 1 rfl ?_
    refine r_iald (q := 182) (v := σ.1 135 v1.toNat) (dc dt_MO_toHand 111 rfl) rfl ly135 o58 (by rw [e64, e61]; rfl) (fun g65 => ?_)
    refine r_iast (q := 183) (dc dt_MO_toHand 112 rfl) rfl ly148 o58 g65 (fun σ66 e67 => ?_)
    have h := h σ66 e67
    refine r_aload_n (q := 184) (dc dt_MO_toHand 113 rfl) rfl rfl 0 rfl ?_
    refine r_getO (q := 187) (v := 149) fl_MO_192 (dc dt_MO_toHand 114 rfl) rfl ly8 rfl ?_
    refine r_iload_n (q := 188) (dc dt_MO_toHand 115 rfl) rfl rfl 1 rfl ?_
    refine r_aload_n (q := 189) (dc dt_MO_toHand 116 rfl) rfl rfl 0 rfl ?_
    refine r_getO (q := 192) (v := 136) fl_MO_153 (dc dt_MO_toHand 117 rfl) rfl ly8 rfl ?_
    refine r_iload_n (q := 193) (dc dt_MO_toHand 118 rfl) rfl rfl 1 rfl ?_
    refine r_iald (q := 194) (v := σ.1 136 v1.toNat) (dc dt_MO_toHand 119 rfl) rfl ly136 o58 (by rw [e67, e64, e61]; rfl) (fun g68 => ?_)
    refine r_iast (q := 195) (dc dt_MO_toHand 120 rfl) rfl ly149 o58 g68 (fun σ69 e70 => ?_)
    have h := h σ69 e70
    refine r_aload_n (q := 196) (dc dt_MO_toHand 121 rfl) rfl rfl 0 rfl ?_
    refine r_getO (q := 199) (v := 150) fl_MO_195 (dc dt_MO_toHand 122 rfl) rfl ly8 rfl ?_
    refine r_iload_n (q := 200) (dc dt_MO_toHand 123 rfl) rfl rfl 1 rfl ?_
    refine r_aload_n (q := 201) (dc dt_MO_toHand 124 rfl) rfl rfl 0 rfl ?_
    refine r_getO (q := 204) (v := 137) fl_MO_156 (dc dt_MO_toHand 125 rfl) rfl ly8 rfl ?_
    refine r_iload_n (q := 205) (dc dt_MO_toHand 126 rfl) rfl rfl 1 rfl ?_
    refine r_iald (q := 206) (v := σ.1 137 v1.toNat) (dc dt_MO_toHand 127 rfl) rfl ly137 o58 (by rw [e70, e67, e64, e61]; rfl) (fun g71 => ?_)
    refine r_iast (q := 207) (dc dt_MO_toHand 128 rfl) rfl ly150 o58 g71 (fun σ72 e73 => ?_)
    have h := h σ72 e73
    refine r_aload_n (q := 208) (dc dt_MO_toHand 129 rfl) rfl rfl 0 rfl ?_
    refine r_getO (q := 211) (v := 151) fl_MO_198 (dc dt_MO_toHand 130 rfl) rfl ly8 rfl ?_
    refine r_iload_n (q := 212) (dc dt_MO_toHand 131 rfl) rfl rfl 1 rfl ?_
    refine r_aload_n (q := 213) (dc dt_MO_toHand 132 rfl) rfl rfl 0 rfl ?_
    refine r_getO (q := 216) (v := 138) fl_MO_159 (dc dt_MO_toHand 133 rfl) rfl ly8 rfl ?_
    refine r_iload_n (q := 217) (dc dt_MO_toHand 134 rfl) rfl rfl 1 rfl ?_
    refine r_iald (q := 218) (v := σ.1 138 v1.toNat) (dc dt_MO_toHand 135 rfl) rfl ly138 o58 (by rw [e73, e70, e67, e64, e61]; rfl) (fun g74 => ?_)
    refine r_iast (q := 219) (dc dt_MO_toHand 136 rfl) rfl ly151 o58 g74 (fun σ75 e76 => ?_)
    have h := h σ75 e76
    refine r_iinc (q := 222) (k := 1) (dc dt_MO_toHand 137 rfl) rfl rfl (by decide) rfl ?_
    refine r_goto (q := 139) (dc dt_MO_toHand 138 rfl) (by decide) ?_
    exact r_loc [1, 0] rfl h
def tb_MO_areWords : List (Nat × Instr × Nat) := [(0, .aload_n 0, 1), (1, .invokevirtual 363, 3), (4, .iload_n 1, 1), (5, .ifCond .lt 20, 3), (8, .iload_n 1, 1), (9, .iload_n 2, 1), (10, .if_icmp .gt 15, 3), (13, .iload_n 2, 1), (14, .aload_n 0, 1), (15, .getfield 344, 3), (18, .if_icmp .ge 7, 3), (21, .iconst 1, 1), (22, .goto 4, 3), (25, .iconst 0, 1), (26, .ireturn, 1)]
theorem dt_MO_areWords : DT (cM m_MO_areWords) tb_MO_areWords := by unfold DT; decide +kernel
abbrev a_MO_areWords_0 (G : GT)  (v1 : Int) (v2 : Int) (σ : St) (P : Int → St → Prop) : Prop := A G m_MO_areWords 0 [(0, O 8), (1, I v1), (2, I v2)] [] σ P
set_option maxRecDepth 20000 in
theorem k_MO_areWords_0 {G : GT} {σ : St} {P : Int → St → Prop}  {v1 : Int} {v2 : Int}  
    (h : CJ G m_MO_cut [O 8] σ (fun _ u1 => rng v1 ∧ ((0 ≤ v1 → rng v2)) ∧ P (if 0 ≤ v1 ∧ (v1 ≤ v2 ∧ v2 < u1.2.1 8 27) then 1 else 0) u1)) :
    a_MO_areWords_0 G v1 v2 σ P := by
  refine r_aload_n (q := 1) (dc dt_MO_areWords 0 rfl) rfl rfl 0 rfl ?_
  refine r_callVv (q := 4) mk_MO_cut lm_MO_363 (RMO.of rfl) rfl (dc dt_MO_areWords 1 rfl) rfl ly8 [] [] rfl rfl (Nat.le_of_ble_eq_true rfl) h (fun u1 h => ?_)
  refine r_iload_n (q := 5) (dc dt_MO_areWords 2 rfl) rfl rfl 1 rfl ?_
  obtain ⟨o2, h⟩ := h
  obtain ⟨ho, h⟩ := h
  have hJ : ∀ (w_0 : Int), w_0 = (if 0 ≤ v1 ∧ (v1 ≤ v2 ∧ v2 < u1.2.1 8 27) then 1 else 0) → A G m_MO_areWords 26 [(0, O 8), (1, I v1), (2, I v2)] [I w_0] u1 P := by
    intro w_0 z_0
    subst z_0
    exact r_zret rfl (dc dt_MO_areWords 14 rfl) b01_or h
  clear h
  refine r_if_lt (q := 8) (t := 25) (dc dt_MO_areWords 3 rfl) rfl (by decide) o2 (fun q_ => ?_) (fun q_ => ?_)
  · have q5 := q_
    refine r_iconst (q := 26) (dc dt_MO_areWords 13 rfl) rfl rfl ?_
    exact (hJ 0 ((if_neg (by first | omega | grind)).symm))
  · have q5 := q_
    have ho := ho q_
    refine r_iload_n (q := 9) (dc dt_MO_areWords 4 rfl) rfl rfl 1 rfl ?_
    refine r_iload_n (q := 10) (dc dt_MO_areWords 5 rfl) rfl rfl 2 rfl ?_
    have o3 := ho
    refine r_icmp_gt (q := 13) (t := 25) (dc dt_MO_areWords 6 rfl) rfl (by decide) o2 o3 (fun q_ => ?_) (fun q_ => ?_)
    · have q6 := q_
      refine r_iconst (q := 26) (dc dt_MO_areWords 13 rfl) rfl rfl ?_
      exact (hJ 0 ((if_neg (by first | omega | grind)).symm))
    · have q6 := q_
      refine r_iload_n (q := 14) (dc dt_MO_areWords 7 rfl) rfl rfl 2 rfl ?_
      refine r_aload_n (q := 15) (dc dt_MO_areWords 8 rfl) rfl rfl 0 rfl ?_
      refine r_getI (q := 18) (v := u1.2.1 8 27) fl_MO_344 (dc dt_MO_areWords 9 rfl) rfl ly8 rfl rfl (fun g4 => ?_)
      refine r_icmp_ge (q := 21) (t := 25) (dc dt_MO_areWords 10 rfl) rfl (by decide) o3 g4 (fun q_ => ?_) (fun q_ => ?_)
      · have q7 := q_
        refine r_iconst (q := 26) (dc dt_MO_areWords 13 rfl) rfl rfl ?_
        exact (hJ 0 ((if_neg (by first | omega | grind)).symm))
      · have q7 := q_
        refine r_iconst (q := 22) (dc dt_MO_areWords 11 rfl) rfl rfl ?_
        refine r_goto (q := 26) (dc dt_MO_areWords 12 rfl) (by decide) ?_
        exact (hJ 1 ((if_pos (by first | omega | grind)).symm))
def tb_MO_line : List (Nat × Instr × Nat) := [(0, .aload_n 0, 1), (1, .iload_n 1, 1), (2, .iload_n 2, 1), (3, .invokevirtual 491, 3), (6, .ifCond .ne 5, 3), (9, .iconst (-1), 1), (10, .ireturn, 1), (11, .iload_n 3, 1), (12, .i2l, 1), (13, .lconst 0, 1), (14, .ldc2_w 494, 3), (17, .invokestatic 253, 3), (20, .ifCond .ne 6, 3), (23, .bipush (-2), 2), (25, .ireturn, 1), (26, .aload_n 0, 1), (27, .iconst 1, 1), (28, .putfield 264, 3), (31, .aload_n 0, 1), (32, .iload_n 1, 1), (33, .putfield 496, 3), (36, .aload_n 0, 1), (37, .iload_n 2, 1), (38, .putfield 499, 3), (41, .aload_n 0, 1), (42, .iload_n 3, 1), (43, .putfield 502, 3), (46, .aload_n 0, 1), (47, .iload_n 1, 1), (48, .iload_n 2, 1), (49, .iload_n 3, 1), (50, .invokevirtual 505, 3), (53, .ifCond .ne 11, 3), (56, .aload_n 0, 1), (57, .iconst 0, 1), (58, .putfield 260, 3), (61, .bipush (-5), 2), (63, .ireturn, 1), (64, .aload_n 0, 1), (65, .invokevirtual 508, 3), (68, .aload_n 0, 1), (69, .getfield 467, 3), (72, .ireturn, 1)]
theorem dt_MO_line : DT (cM m_MO_line) tb_MO_line := by unfold DT; decide +kernel
abbrev a_MO_line_0 (G : GT)  (v1 : Int) (v2 : Int) (v3 : Int) (σ : St) (P : Int → St → Prop) : Prop := A G m_MO_line 0 [(0, O 8), (1, I v1), (2, I v2), (3, I v3)] [] σ P
set_option maxRecDepth 20000 in
theorem k_MO_line_0 {G : GT} {σ : St} {P : Int → St → Prop}  {v1 : Int} {v2 : Int} {v3 : Int}  
    (h : CJ G m_MO_areWords [O 8, I v1, I v2] σ (fun r2 u1 => (r2 ≠ 0 → rng v3 ∧ (0 ≤ v3 ∧ v3 ≤ 300 → (∀ σ6, σ6 = sf u1 8 91 1 → rng v1 ∧ (∀ σ8, σ8 = sf σ6 8 92 v1 → rng v2 ∧ (∀ σ11, σ11 = sf σ8 8 93 v2 → (∀ σ14, σ14 = sf σ11 8 94 v3 → CJ G m_MO_fill [O 8, I v1, I v2, I v3] σ14 (fun r17 u16 => (r17 ≠ 0 → CJ G m_MO_toHand [O 8] u16 (fun _ u19 => P (u19.2.1 8 78) u19)) ∧ (r17 = 0 → (∀ σ21, σ21 = sf u16 8 68 0 → P (-5) σ21)))))))) ∧ (¬ (0 ≤ v3 ∧ v3 ≤ 300) → P (-2) u1)) ∧ (r2 = 0 → P (-1) u1))) :
    a_MO_line_0 G v1 v2 v3 σ P := by
  refine r_aload_n (q := 1) (dc dt_MO_line 0 rfl) rfl rfl 0 rfl ?_
  refine r_iload_n (q := 2) (dc dt_MO_line 1 rfl) rfl rfl 1 rfl ?_
  refine r_iload_n (q := 3) (dc dt_MO_line 2 rfl) rfl rfl 2 rfl ?_
  refine r_callVi (q := 6) mk_MO_areWords lm_MO_491 (RMO.of rfl) rfl (dc dt_MO_line 3 rfl) rfl ly8 [I v1, I v2] [] rfl rfl (Nat.le_of_ble_eq_true rfl) h (fun r2 u1 g3 h => ?_)
  refine r_if_ne (q := 9) (t := 11) (dc dt_MO_line 4 rfl) rfl (by decide) g3 (fun q_ => ?_) (fun q_ => ?_)
  · have h := h.1 q_
    refine r_iload_n (q := 12) (dc dt_MO_line 7 rfl) rfl rfl 3 rfl ?_
    obtain ⟨o4, h⟩ := h
    refine r_i2l (q := 13) (dc dt_MO_line 8 rfl) rfl o4 ?_
    refine r_lconst (q := 14) (n := 0) (dc dt_MO_line 9 rfl) rfl rfl ?_
    refine r_ldc2 (q := 17) (n := 300) (dc dt_MO_line 10 rfl) rfl (gt_at 1606 (by decide +kernel) rfl) ?_
    refine r_callSi (q := 20) mk_MO_in lm_MO_253 (RMO.of rfl) rfl (dc dt_MO_line 11 rfl) rfl [J v3, J 0, J 300] [] rfl rfl (Nat.le_of_ble_eq_true rfl) (sp_MO_in o4 (⟨by decide, by decide⟩ : rng 0) (⟨by decide, by decide⟩ : rng 300)) (fun _ _ g5 z => ?_)
    obtain ⟨z, w⟩ := z
    subst z
    replace w := w.symm
    subst w
    refine r_ifb_ne (q := 23) (t := 26) (dc dt_MO_line 12 rfl) rfl (by decide) (fun q_ => ?_) (fun q_ => ?_)
    · have h := h.1 q_
      refine r_aload_n (q := 27) (dc dt_MO_line 15 rfl) rfl rfl 0 rfl ?_
      refine r_iconst (q := 28) (dc dt_MO_line 16 rfl) rfl rfl ?_
      refine r_put (q := 31) fl_MO_264 (dc dt_MO_line 17 rfl) rfl ly8 (fun _ => rfl) (Or.inr ⟨rfl, (by decide)⟩) pf_8_91 (⟨by decide, by decide⟩ : rng 1) (fun σ6 e7 => ?_)
      have h := h σ6 e7
      refine r_aload_n (q := 32) (dc dt_MO_line 18 rfl) rfl rfl 0 rfl ?_
      refine r_iload_n (q := 33) (dc dt_MO_line 19 rfl) rfl rfl 1 rfl ?_
      obtain ⟨o10, h⟩ := h
      refine r_put (q := 36) fl_MO_496 (dc dt_MO_line 20 rfl) rfl ly8 (fun _ => rfl) (Or.inl rfl) pf_8_92 o10 (fun σ8 e9 => ?_)
      have h := h σ8 e9
      refine r_aload_n (q := 37) (dc dt_MO_line 21 rfl) rfl rfl 0 rfl ?_
      refine r_iload_n (q := 38) (dc dt_MO_line 22 rfl) rfl rfl 2 rfl ?_
      obtain ⟨o13, h⟩ := h
      refine r_put (q := 41) fl_MO_499 (dc dt_MO_line 23 rfl) rfl ly8 (fun _ => rfl) (Or.inl rfl) pf_8_93 o13 (fun σ11 e12 => ?_)
      have h := h σ11 e12
      refine r_aload_n (q := 42) (dc dt_MO_line 24 rfl) rfl rfl 0 rfl ?_
      refine r_iload_n (q := 43) (dc dt_MO_line 25 rfl) rfl rfl 3 rfl ?_
      refine r_put (q := 46) fl_MO_502 (dc dt_MO_line 26 rfl) rfl ly8 (fun _ => rfl) (Or.inl rfl) pf_8_94 o4 (fun σ14 e15 => ?_)
      have h := h σ14 e15
      refine r_aload_n (q := 47) (dc dt_MO_line 27 rfl) rfl rfl 0 rfl ?_
      refine r_iload_n (q := 48) (dc dt_MO_line 28 rfl) rfl rfl 1 rfl ?_
      refine r_iload_n (q := 49) (dc dt_MO_line 29 rfl) rfl rfl 2 rfl ?_
      refine r_iload_n (q := 50) (dc dt_MO_line 30 rfl) rfl rfl 3 rfl ?_
      refine r_callVi (q := 53) mk_MO_fill lm_MO_505 (RMO.of rfl) rfl (dc dt_MO_line 31 rfl) rfl ly8 [I v1, I v2, I v3] [] rfl rfl (Nat.le_of_ble_eq_true rfl) h (fun r17 u16 g18 h => ?_)
      refine r_if_ne (q := 56) (t := 64) (dc dt_MO_line 32 rfl) rfl (by decide) g18 (fun q_ => ?_) (fun q_ => ?_)
      · have h := h.1 q_
        refine r_aload_n (q := 65) (dc dt_MO_line 38 rfl) rfl rfl 0 rfl ?_
        refine r_callVv (q := 68) mk_MO_toHand lm_MO_508 (RMO.of rfl) rfl (dc dt_MO_line 39 rfl) rfl ly8 [] [] rfl rfl (Nat.le_of_ble_eq_true rfl) h (fun u19 h => ?_)
        refine r_aload_n (q := 69) (dc dt_MO_line 40 rfl) rfl rfl 0 rfl ?_
        refine r_getI (q := 72) (v := u19.2.1 8 78) fl_MO_467 (dc dt_MO_line 41 rfl) rfl ly8 rfl rfl (fun g20 => ?_)
        exact r_iret rfl (dc dt_MO_line 42 rfl) g20 h
      · have h := h.2 q_
        refine r_aload_n (q := 57) (dc dt_MO_line 33 rfl) rfl rfl 0 rfl ?_
        refine r_iconst (q := 58) (dc dt_MO_line 34 rfl) rfl rfl ?_
        refine r_put (q := 61) fl_MO_260 (dc dt_MO_line 35 rfl) rfl ly8 (fun _ => rfl) (Or.inr ⟨rfl, (by decide)⟩) pf_8_68 (⟨by decide, by decide⟩ : rng 0) (fun σ21 e22 => ?_)
        have h := h σ21 e22
        refine r_bipush (q := 63) (dc dt_MO_line 36 rfl) rfl (by decide) ?_
        exact r_iret rfl (dc dt_MO_line 37 rfl) (⟨by decide, by decide⟩ : rng (-5)) h
    · have h := h.2 q_
      refine r_bipush (q := 25) (dc dt_MO_line 13 rfl) rfl (by decide) ?_
      exact r_iret rfl (dc dt_MO_line 14 rfl) (⟨by decide, by decide⟩ : rng (-2)) h
  · have h := h.2 q_
    refine r_iconst (q := 10) (dc dt_MO_line 5 rfl) rfl rfl ?_
    exact r_iret rfl (dc dt_MO_line 6 rfl) (⟨by decide, by decide⟩ : rng (-1)) h
def tb_MO_near : List (Nat × Instr × Nat) := [(0, .iload_n 1, 1), (1, .i2l, 1), (2, .lconst 0, 1), (3, .lconst 1, 1), (4, .invokestatic 253, 3), (7, .ifCond .ne 6, 3), (10, .bipush (-2), 2), (12, .ireturn, 1), (13, .aload_n 0, 1), (14, .getfield 264, 3), (17, .ifCond .ne 6, 3), (20, .bipush (-3), 2), (22, .ireturn, 1), (23, .aload_n 0, 1), (24, .aload_n 0, 1), (25, .getfield 496, 3), (28, .aload_n 0, 1), (29, .getfield 499, 3), (32, .invokevirtual 424, 3), (35, .ifCond .ne 6, 3), (38, .bipush (-6), 2), (40, .ireturn, 1), (41, .aload_n 0, 1), (42, .getfield 80, 3), (45, .aload_n 0, 1), (46, .getfield 496, 3), (49, .iaload, 1), (50, .istore_n 2, 1), (51, .aload_n 0, 1), (52, .iload_n 2, 1), (53, .aload_n 0, 1), (54, .getfield 83, 3), (57, .aload_n 0, 1), (58, .getfield 499, 3), (61, .iaload, 1), (62, .invokevirtual 427, 3), (65, .iload_n 1, 1), (66, .ifCond .ne 7, 3), (69, .iconst (-1), 1), (70, .goto 4, 3), (73, .iconst 1, 1), (74, .istore_n 3, 1), (75, .aload_n 0, 1), (76, .getfield 502, 3), (79, .iload_n 3, 1), (80, .iadd, 1), (81, .istore 4, 2), (83, .iload 4, 2), (85, .i2l, 1), (86, .lconst 0, 1), (87, .ldc2_w 494, 3), (90, .invokestatic 253, 3), (93, .ifCond .eq 30, 3), (96, .aload_n 0, 1), (97, .getfield 117, 3), (100, .iload_n 2, 1), (101, .iload 4, 2), (103, .iconst 0, 1), (104, .invokestatic 372, 3), (107, .iaload, 1), (108, .ldc_w 376, 3), (111, .if_icmp .lt 12, 3), (114, .iload 4, 2), (116, .iload_n 3, 1), (117, .iadd, 1), (118, .istore 4, 2), (120, .goto (-37), 3), (123, .iload 4, 2), (125, .i2l, 1), (126, .lconst 0, 1), (127, .ldc2_w 494, 3), (130, .invokestatic 253, 3), (133, .ifCond .eq 8, 3), (136, .iload 4, 2), (138, .goto 5, 3), (141, .bipush (-6), 2), (143, .ireturn, 1)]
theorem dt_MO_near : DT (cM m_MO_near) tb_MO_near := by unfold DT; decide +kernel
abbrev a_MO_near_0 (G : GT)  (v1 : Int) (σ : St) (P : Int → St → Prop) : Prop := A G m_MO_near 0 [(0, O 8), (1, I v1)] [] σ P
abbrev a_MO_near_83 (G : GT)  (v2 : Int) (v3 : Int) (v4 : Int) (σ : St) (P : Int → St → Prop) : Prop := A G m_MO_near 83 [(0, O 8), (2, I v2), (3, I v3), (4, I v4)] [] σ P
set_option maxRecDepth 20000 in
theorem k_MO_near_0 {G : GT} {σ : St} {P : Int → St → Prop}  {v1 : Int}  
    (h : rng v1 ∧ (0 ≤ v1 ∧ v1 ≤ 1 → (σ.2.1 8 91 ≠ 0 → CJ G m_MO_haveForms [O 8, I (σ.2.1 8 92), I (σ.2.1 8 93)] σ (fun r7 u6 => (r7 ≠ 0 → (0 ≤ u6.2.1 8 92 ∧ u6.2.1 8 92 < 80) ∧ (0 ≤ u6.2.1 8 93 ∧ u6.2.1 8 93 < 80) ∧ CJ G m_MO_findLeast [O 8, I (u6.1 112 ((u6.2.1 8 92).toNat)), I (u6.1 113 ((u6.2.1 8 93).toNat))] u6 (fun _ u15 => a_MO_near_83 G (u6.1 112 ((u6.2.1 8 92).toNat)) (if v1 ≠ 0 then (1 : Int) else (-1 : Int)) ((u15.2.1 8 94) + (if v1 ≠ 0 then (1 : Int) else (-1 : Int))) u15 P)) ∧ (r7 = 0 → P (-6) u6))) ∧ (σ.2.1 8 91 = 0 → P (-3) σ)) ∧ (¬ (0 ≤ v1 ∧ v1 ≤ 1) → P (-2) σ)) :
    a_MO_near_0 G v1 σ P := by
  refine r_iload_n (q := 1) (dc dt_MO_near 0 rfl) rfl rfl 1 rfl ?_
  obtain ⟨o1, h⟩ := h
  refine r_i2l (q := 2) (dc dt_MO_near 1 rfl) rfl o1 ?_
  refine r_lconst (q := 3) (n := 0) (dc dt_MO_near 2 rfl) rfl rfl ?_
  refine r_lconst (q := 4) (n := 1) (dc dt_MO_near 3 rfl) rfl rfl ?_
  refine r_callSi (q := 7) mk_MO_in lm_MO_253 (RMO.of rfl) rfl (dc dt_MO_near 4 rfl) rfl [J v1, J 0, J 1] [] rfl rfl (Nat.le_of_ble_eq_true rfl) (sp_MO_in o1 (⟨by decide, by decide⟩ : rng 0) (⟨by decide, by decide⟩ : rng 1)) (fun _ _ g2 z => ?_)
  obtain ⟨z, w⟩ := z
  subst z
  replace w := w.symm
  subst w
  refine r_ifb_ne (q := 10) (t := 13) (dc dt_MO_near 5 rfl) rfl (by decide) (fun q_ => ?_) (fun q_ => ?_)
  · have h := h.1 q_
    refine r_aload_n (q := 14) (dc dt_MO_near 8 rfl) rfl rfl 0 rfl ?_
    refine r_getI (q := 17) (v := σ.2.1 8 91) fl_MO_264 (dc dt_MO_near 9 rfl) rfl ly8 rfl rfl (fun g3 => ?_)
    refine r_if_ne (q := 20) (t := 23) (dc dt_MO_near 10 rfl) rfl (by decide) g3 (fun q_ => ?_) (fun q_ => ?_)
    · have h := h.1 q_
      refine r_aload_n (q := 24) (dc dt_MO_near 13 rfl) rfl rfl 0 rfl ?_
      refine r_aload_n (q := 25) (dc dt_MO_near 14 rfl) rfl rfl 0 rfl ?_
      refine r_getI (q := 28) (v := σ.2.1 8 92) fl_MO_496 (dc dt_MO_near 15 rfl) rfl ly8 rfl rfl (fun g4 => ?_)
      refine r_aload_n (q := 29) (dc dt_MO_near 16 rfl) rfl rfl 0 rfl ?_
      refine r_getI (q := 32) (v := σ.2.1 8 93) fl_MO_499 (dc dt_MO_near 17 rfl) rfl ly8 rfl rfl (fun g5 => ?_)
      refine r_callVi (q := 35) mk_MO_haveForms lm_MO_424 (RMO.of rfl) rfl (dc dt_MO_near 18 rfl) rfl ly8 [I (σ.2.1 8 92), I (σ.2.1 8 93)] [] rfl rfl (Nat.le_of_ble_eq_true rfl) h (fun r7 u6 g8 h => ?_)
      refine r_if_ne (q := 38) (t := 41) (dc dt_MO_near 19 rfl) rfl (by decide) g8 (fun q_ => ?_) (fun q_ => ?_)
      · have h := h.1 q_
        refine r_aload_n (q := 42) (dc dt_MO_near 22 rfl) rfl rfl 0 rfl ?_
        refine r_getO (q := 45) (v := 112) fl_MO_80 (dc dt_MO_near 23 rfl) rfl ly8 rfl ?_
        refine r_aload_n (q := 46) (dc dt_MO_near 24 rfl) rfl rfl 0 rfl ?_
        refine r_getI (q := 49) (v := u6.2.1 8 92) fl_MO_496 (dc dt_MO_near 25 rfl) rfl ly8 rfl rfl (fun g9 => ?_)
        obtain ⟨o10, h⟩ := h
        refine r_iald (q := 50) (v := u6.1 112 ((u6.2.1 8 92).toNat)) (dc dt_MO_near 26 rfl) rfl ly112 o10 rfl (fun g11 => ?_)
        refine r_istore_n (q := 51) (dc dt_MO_near 27 rfl) rfl rfl (by decide) rfl ?_
        refine r_aload_n (q := 52) (dc dt_MO_near 28 rfl) rfl rfl 1 rfl ?_
        refine r_iload_n (q := 53) (dc dt_MO_near 29 rfl) rfl rfl 0 rfl ?_
        refine r_aload_n (q := 54) (dc dt_MO_near 30 rfl) rfl rfl 1 rfl ?_
        refine r_getO (q := 57) (v := 113) fl_MO_83 (dc dt_MO_near 31 rfl) rfl ly8 rfl ?_
        refine r_aload_n (q := 58) (dc dt_MO_near 32 rfl) rfl rfl 1 rfl ?_
        refine r_getI (q := 61) (v := u6.2.1 8 93) fl_MO_499 (dc dt_MO_near 33 rfl) rfl ly8 rfl rfl (fun g12 => ?_)
        obtain ⟨o13, h⟩ := h
        refine r_iald (q := 62) (v := u6.1 113 ((u6.2.1 8 93).toNat)) (dc dt_MO_near 34 rfl) rfl ly113 o13 rfl (fun g14 => ?_)
        refine r_callVv (q := 65) mk_MO_findLeast lm_MO_427 (RMO.of rfl) rfl (dc dt_MO_near 35 rfl) rfl ly8 [I (u6.1 112 ((u6.2.1 8 92).toNat)), I (u6.1 113 ((u6.2.1 8 93).toNat))] [] rfl rfl (Nat.le_of_ble_eq_true rfl) h (fun u15 h => ?_)
        refine r_iload_n (q := 66) (dc dt_MO_near 36 rfl) rfl rfl 2 rfl ?_
        have hJ : ∀ (w_0 : Int), w_0 = (if v1 ≠ 0 then (1 : Int) else (-1 : Int)) → A G m_MO_near 74 [(2, I (u6.1 112 ((u6.2.1 8 92).toNat))), (0, O 8), (1, I v1)] [I w_0] u15 P := by
          intro w_0 z_0
          subst z_0
          refine r_istore_n (q := 75) (dc dt_MO_near 41 rfl) rfl rfl (by decide) rfl ?_
          refine r_aload_n (q := 76) (dc dt_MO_near 42 rfl) rfl rfl 2 rfl ?_
          refine r_getI (q := 79) (v := u15.2.1 8 94) fl_MO_502 (dc dt_MO_near 43 rfl) rfl ly8 rfl rfl (fun g16 => ?_)
          refine r_iload_n (q := 80) (dc dt_MO_near 44 rfl) rfl rfl 0 rfl ?_
          refine r_iadd (q := 81) (dc dt_MO_near 45 rfl) rfl ?_
          refine r_istore (q := 83) (dc dt_MO_near 46 rfl) rfl (by decide) rfl ?_
          exact r_loc [3, 2, 1, 0] rfl h
        clear h
        refine r_if_ne (q := 69) (t := 73) (dc dt_MO_near 37 rfl) rfl (by decide) o1 (fun q_ => ?_) (fun q_ => ?_)
        · have q31 := q_
          refine r_iconst (q := 74) (dc dt_MO_near 40 rfl) rfl rfl ?_
          exact (hJ 1 ((if_pos (by first | omega | grind)).symm))
        · have q31 := q_
          refine r_iconst (q := 70) (dc dt_MO_near 38 rfl) rfl rfl ?_
          refine r_goto (q := 74) (dc dt_MO_near 39 rfl) (by decide) ?_
          exact (hJ (-1) ((if_neg (by first | omega | grind)).symm))
      · have h := h.2 q_
        refine r_bipush (q := 40) (dc dt_MO_near 20 rfl) rfl (by decide) ?_
        exact r_iret rfl (dc dt_MO_near 21 rfl) (⟨by decide, by decide⟩ : rng (-6)) h
    · have h := h.2 q_
      refine r_bipush (q := 22) (dc dt_MO_near 11 rfl) rfl (by decide) ?_
      exact r_iret rfl (dc dt_MO_near 12 rfl) (⟨by decide, by decide⟩ : rng (-3)) h
  · have h := h.2 q_
    refine r_bipush (q := 12) (dc dt_MO_near 6 rfl) rfl (by decide) ?_
    exact r_iret rfl (dc dt_MO_near 7 rfl) (⟨by decide, by decide⟩ : rng (-2)) h
set_option maxRecDepth 20000 in
theorem k_MO_near_83 {G : GT} {σ : St} {P : Int → St → Prop}  {v2 : Int} {v3 : Int} {v4 : Int}  
    (h : rng v4 ∧ (¬ (0 ≤ v4 ∧ v4 ≤ 300) → (rng (if ¬ (0 ≤ v4 ∧ v4 ≤ 300) then (-6 : Int) else v4)) ∧ P (if ¬ (0 ≤ v4 ∧ v4 ≤ 300) then (-6 : Int) else v4) σ) ∧ (0 ≤ v4 ∧ v4 ≤ 300 → rng ((((v2 * 301) + v4) * 4) + 0) ∧ (0 ≤ (((v2 * 301) + v4) * 4) + 0 ∧ (((v2 * 301) + v4) * 4) + 0 < 97524) ∧ (σ.1 124 (((((v2 * 301) + v4) * 4) + 0).toNat) < 536870912 → (rng (if ¬ (0 ≤ v4 ∧ v4 ≤ 300) then (-6 : Int) else v4)) ∧ P (if ¬ (0 ≤ v4 ∧ v4 ≤ 300) then (-6 : Int) else v4) σ) ∧ (536870912 ≤ σ.1 124 (((((v2 * 301) + v4) * 4) + 0).toNat) → a_MO_near_83 G v2 v3 (v4 + v3) σ P))) :
    a_MO_near_83 G v2 v3 v4 σ P := by
  refine r_iload (q := 85) (dc dt_MO_near 47 rfl) rfl 3 rfl ?_
  obtain ⟨o17, h⟩ := h
  refine r_i2l (q := 86) (dc dt_MO_near 48 rfl) rfl o17 ?_
  refine r_lconst (q := 87) (n := 0) (dc dt_MO_near 49 rfl) rfl rfl ?_
  refine r_ldc2 (q := 90) (n := 300) (dc dt_MO_near 50 rfl) rfl (gt_at 1606 (by decide +kernel) rfl) ?_
  refine r_callSi (q := 93) mk_MO_in lm_MO_253 (RMO.of rfl) rfl (dc dt_MO_near 51 rfl) rfl [J v4, J 0, J 300] [] rfl rfl (Nat.le_of_ble_eq_true rfl) (sp_MO_in o17 (⟨by decide, by decide⟩ : rng 0) (⟨by decide, by decide⟩ : rng 300)) (fun _ _ g18 z => ?_)
  obtain ⟨z, w⟩ := z
  subst z
  replace w := w.symm
  subst w
  refine r_ifb_eq (q := 96) (t := 123) (dc dt_MO_near 52 rfl) rfl (by decide) (fun q_ => ?_) (fun q_ => ?_)
  · have h := h.1 q_
    refine r_iload (q := 125) (dc dt_MO_near 67 rfl) rfl 3 rfl ?_
    refine r_i2l (q := 126) (dc dt_MO_near 68 rfl) rfl o17 ?_
    refine r_lconst (q := 127) (n := 0) (dc dt_MO_near 69 rfl) rfl rfl ?_
    refine r_ldc2 (q := 130) (n := 300) (dc dt_MO_near 70 rfl) rfl (gt_at 1606 (by decide +kernel) rfl) ?_
    refine r_callSi (q := 133) mk_MO_in lm_MO_253 (RMO.of rfl) rfl (dc dt_MO_near 71 rfl) rfl [J v4, J 0, J 300] [] rfl rfl (Nat.le_of_ble_eq_true rfl) (sp_MO_in o17 (⟨by decide, by decide⟩ : rng 0) (⟨by decide, by decide⟩ : rng 300)) (fun _ _ g23 z => ?_)
    obtain ⟨z, w⟩ := z
    subst z
    replace w := w.symm
    subst w
    have hJ : ∀ (w_0 : Int), w_0 = (if ¬ (0 ≤ v4 ∧ v4 ≤ 300) then (-6 : Int) else v4) → A G m_MO_near 143 [(0, O 8), (2, I v2), (3, I v3), (4, I v4)] [I w_0] σ P := by
      intro w_0 z_0
      subst z_0
      obtain ⟨o24, h⟩ := h
      exact r_iret rfl (dc dt_MO_near 76 rfl) o24 h
    clear h
    refine r_ifb_eq (q := 136) (t := 141) (dc dt_MO_near 72 rfl) rfl (by decide) (fun q_ => ?_) (fun q_ => ?_)
    · have q32 := q_
      refine r_bipush (q := 143) (dc dt_MO_near 75 rfl) rfl (by decide) ?_
      exact (hJ (-6) ((if_pos (by first | omega | grind)).symm))
    · have q32 := q_
      refine r_iload (q := 138) (dc dt_MO_near 73 rfl) rfl 3 rfl ?_
      refine r_goto (q := 143) (dc dt_MO_near 74 rfl) (by decide) ?_
      exact (hJ v4 ((if_neg (by first | omega | grind)).symm))
  · have h := h.2 q_
    refine r_aload_n (q := 97) (dc dt_MO_near 53 rfl) rfl rfl 0 rfl ?_
    refine r_getO (q := 100) (v := 124) fl_MO_117 (dc dt_MO_near 54 rfl) rfl ly8 rfl ?_
    refine r_iload_n (q := 101) (dc dt_MO_near 55 rfl) rfl rfl 1 rfl ?_
    refine r_iload (q := 103) (dc dt_MO_near 56 rfl) rfl 3 rfl ?_
    refine r_iconst (q := 104) (dc dt_MO_near 57 rfl) rfl rfl ?_
    obtain ⟨o25, h⟩ := h
    refine r_callSi (q := 107) mk_MO_at lm_MO_372 (RMO.of rfl) rfl (dc dt_MO_near 58 rfl) rfl [I v2, I v4, I 0] [O 124] rfl rfl (Nat.le_of_ble_eq_true rfl) (sp_MO_at o25) (fun _ _ g26 z => ?_)
    obtain ⟨z, w⟩ := z
    subst z
    replace w := w.symm
    subst w
    obtain ⟨o27, h⟩ := h
    refine r_iald (q := 108) (v := σ.1 124 (((((v2 * 301) + v4) * 4) + 0).toNat)) (dc dt_MO_near 59 rfl) rfl ly124 o27 rfl (fun g28 => ?_)
    refine r_ldcw (q := 111) (n := 536870912) (dc dt_MO_near 60 rfl) rfl (gt_at 1622 (by decide +kernel) rfl) ?_
    refine r_icmp_lt (q := 114) (t := 123) (dc dt_MO_near 61 rfl) rfl (by decide) g28 (⟨by decide, by decide⟩ : rng 536870912) (fun q_ => ?_) (fun q_ => ?_)
    · have h := h.1 q_
      refine r_iload (q := 125) (dc dt_MO_near 67 rfl) rfl 3 rfl ?_
      refine r_i2l (q := 126) (dc dt_MO_near 68 rfl) rfl o17 ?_
      refine r_lconst (q := 127) (n := 0) (dc dt_MO_near 69 rfl) rfl rfl ?_
      refine r_ldc2 (q := 130) (n := 300) (dc dt_MO_near 70 rfl) rfl (gt_at 1606 (by decide +kernel) rfl) ?_
      refine r_callSi (q := 133) mk_MO_in lm_MO_253 (RMO.of rfl) rfl (dc dt_MO_near 71 rfl) rfl [J v4, J 0, J 300] [] rfl rfl (Nat.le_of_ble_eq_true rfl) (sp_MO_in o17 (⟨by decide, by decide⟩ : rng 0) (⟨by decide, by decide⟩ : rng 300)) (fun _ _ g29 z => ?_)
      obtain ⟨z, w⟩ := z
      subst z
      replace w := w.symm
      subst w
      have hJ : ∀ (w_0 : Int), w_0 = (if ¬ (0 ≤ v4 ∧ v4 ≤ 300) then (-6 : Int) else v4) → A G m_MO_near 143 [(0, O 8), (2, I v2), (3, I v3), (4, I v4)] [I w_0] σ P := by
        intro w_0 z_0
        subst z_0
        obtain ⟨o30, h⟩ := h
        exact r_iret rfl (dc dt_MO_near 76 rfl) o30 h
      clear h
      refine r_ifb_eq (q := 136) (t := 141) (dc dt_MO_near 72 rfl) rfl (by decide) (fun q_ => ?_) (fun q_ => ?_)
      · have q33 := q_
        refine r_bipush (q := 143) (dc dt_MO_near 75 rfl) rfl (by decide) ?_
        exact (hJ (-6) ((if_pos (by first | omega | grind)).symm))
      · have q33 := q_
        refine r_iload (q := 138) (dc dt_MO_near 73 rfl) rfl 3 rfl ?_
        refine r_goto (q := 143) (dc dt_MO_near 74 rfl) (by decide) ?_
        exact (hJ v4 ((if_neg (by first | omega | grind)).symm))
    · have h := h.2 q_
      refine r_iload (q := 116) (dc dt_MO_near 62 rfl) rfl 3 rfl ?_
      refine r_iload_n (q := 117) (dc dt_MO_near 63 rfl) rfl rfl 2 rfl ?_
      refine r_iadd (q := 118) (dc dt_MO_near 64 rfl) rfl ?_
      refine r_istore (q := 120) (dc dt_MO_near 65 rfl) rfl (by decide) rfl ?_
      refine r_goto (q := 83) (dc dt_MO_near 66 rfl) (by decide) ?_
      exact r_loc [1, 2, 3, 0] rfl h
def tb_MO_plain : List (Nat × Instr × Nat) := [(0, .aload_n 0, 1), (1, .iload_n 1, 1), (2, .iload_n 2, 1), (3, .invokevirtual 491, 3), (6, .ifCond .ne 5, 3), (9, .iconst (-1), 1), (10, .ireturn, 1), (11, .aload_n 0, 1), (12, .iload_n 1, 1), (13, .iload_n 2, 1), (14, .invokevirtual 511, 3), (17, .ifCond .ne 6, 3), (20, .bipush (-5), 2), (22, .ireturn, 1), (23, .aload_n 0, 1), (24, .invokevirtual 508, 3), (27, .aload_n 0, 1), (28, .getfield 464, 3), (31, .ireturn, 1)]
theorem dt_MO_plain : DT (cM m_MO_plain) tb_MO_plain := by unfold DT; decide +kernel
abbrev a_MO_plain_0 (G : GT)  (v1 : Int) (v2 : Int) (σ : St) (P : Int → St → Prop) : Prop := A G m_MO_plain 0 [(0, O 8), (1, I v1), (2, I v2)] [] σ P
set_option maxRecDepth 20000 in
theorem k_MO_plain_0 {G : GT} {σ : St} {P : Int → St → Prop}  {v1 : Int} {v2 : Int}  
    (h : CJ G m_MO_areWords [O 8, I v1, I v2] σ (fun r2 u1 => (r2 ≠ 0 → CJ G m_MO_setPlain [O 8, I v1, I v2] u1 (fun r5 u4 => (r5 ≠ 0 → CJ G m_MO_toHand [O 8] u4 (fun _ u7 => P (u7.2.1 8 77) u7)) ∧ (r5 = 0 → P (-5) u4))) ∧ (r2 = 0 → P (-1) u1))) :
    a_MO_plain_0 G v1 v2 σ P := by
  refine r_aload_n (q := 1) (dc dt_MO_plain 0 rfl) rfl rfl 0 rfl ?_
  refine r_iload_n (q := 2) (dc dt_MO_plain 1 rfl) rfl rfl 1 rfl ?_
  refine r_iload_n (q := 3) (dc dt_MO_plain 2 rfl) rfl rfl 2 rfl ?_
  refine r_callVi (q := 6) mk_MO_areWords lm_MO_491 (RMO.of rfl) rfl (dc dt_MO_plain 3 rfl) rfl ly8 [I v1, I v2] [] rfl rfl (Nat.le_of_ble_eq_true rfl) h (fun r2 u1 g3 h => ?_)
  refine r_if_ne (q := 9) (t := 11) (dc dt_MO_plain 4 rfl) rfl (by decide) g3 (fun q_ => ?_) (fun q_ => ?_)
  · have h := h.1 q_
    refine r_aload_n (q := 12) (dc dt_MO_plain 7 rfl) rfl rfl 0 rfl ?_
    refine r_iload_n (q := 13) (dc dt_MO_plain 8 rfl) rfl rfl 1 rfl ?_
    refine r_iload_n (q := 14) (dc dt_MO_plain 9 rfl) rfl rfl 2 rfl ?_
    refine r_callVi (q := 17) mk_MO_setPlain lm_MO_511 (RMO.of rfl) rfl (dc dt_MO_plain 10 rfl) rfl ly8 [I v1, I v2] [] rfl rfl (Nat.le_of_ble_eq_true rfl) h (fun r5 u4 g6 h => ?_)
    refine r_if_ne (q := 20) (t := 23) (dc dt_MO_plain 11 rfl) rfl (by decide) g6 (fun q_ => ?_) (fun q_ => ?_)
    · have h := h.1 q_
      refine r_aload_n (q := 24) (dc dt_MO_plain 14 rfl) rfl rfl 0 rfl ?_
      refine r_callVv (q := 27) mk_MO_toHand lm_MO_508 (RMO.of rfl) rfl (dc dt_MO_plain 15 rfl) rfl ly8 [] [] rfl rfl (Nat.le_of_ble_eq_true rfl) h (fun u7 h => ?_)
      refine r_aload_n (q := 28) (dc dt_MO_plain 16 rfl) rfl rfl 0 rfl ?_
      refine r_getI (q := 31) (v := u7.2.1 8 77) fl_MO_464 (dc dt_MO_plain 17 rfl) rfl ly8 rfl rfl (fun g8 => ?_)
      exact r_iret rfl (dc dt_MO_plain 18 rfl) g8 h
    · have h := h.2 q_
      refine r_bipush (q := 22) (dc dt_MO_plain 12 rfl) rfl (by decide) ?_
      exact r_iret rfl (dc dt_MO_plain 13 rfl) (⟨by decide, by decide⟩ : rng (-5)) h
  · have h := h.2 q_
    refine r_iconst (q := 10) (dc dt_MO_plain 5 rfl) rfl rfl ?_
    exact r_iret rfl (dc dt_MO_plain 6 rfl) (⟨by decide, by decide⟩ : rng (-1)) h
def tb_MO_atHand : List (Nat × Instr × Nat) := [(0, .iload_n 1, 1), (1, .i2l, 1), (2, .lconst 0, 1), (3, .ldc2_w 514, 3), (6, .invokestatic 253, 3), (9, .ifCond .ne 6, 3), (12, .bipush (-2), 2), (14, .ireturn, 1), (15, .aload_n 0, 1), (16, .getfield 260, 3), (19, .ifCond .ne 6, 3), (22, .bipush (-3), 2), (24, .ireturn, 1), (25, .iload_n 1, 1), (26, .tableswitch 77 0 6 #[42, 47, 52, 57, 62, 67, 72], 42), (68, .aload_n 0, 1), (69, .getfield 461, 3), (72, .ireturn, 1), (73, .aload_n 0, 1), (74, .getfield 464, 3), (77, .ireturn, 1), (78, .aload_n 0, 1), (79, .getfield 467, 3), (82, .ireturn, 1), (83, .aload_n 0, 1), (84, .getfield 470, 3), (87, .ireturn, 1), (88, .aload_n 0, 1), (89, .getfield 473, 3), (92, .ireturn, 1), (93, .aload_n 0, 1), (94, .getfield 476, 3), (97, .ireturn, 1), (98, .aload_n 0, 1), (99, .getfield 479, 3), (102, .ireturn, 1), (103, .aload_n 0, 1), (104, .getfield 482, 3), (107, .aload_n 0, 1), (108, .getfield 479, 3), (111, .isub, 1), (112, .iconst 1, 1), (113, .iadd, 1), (114, .ireturn, 1)]
theorem dt_MO_atHand : DT (cM m_MO_atHand) tb_MO_atHand := by unfold DT; decide +kernel
abbrev a_MO_atHand_0 (G : GT)  (v1 : Int) (σ : St) (P : Int → St → Prop) : Prop := A G m_MO_atHand 0 [(0, O 8), (1, I v1)] [] σ P
set_option maxRecDepth 20000 in
theorem k_MO_atHand_0 {G : GT} {σ : St} {P : Int → St → Prop}  {v1 : Int}  
    (h : rng v1 ∧ (0 ≤ v1 ∧ v1 ≤ 7 → (σ.2.1 8 68 ≠ 0 → (v1 = 0 → P (σ.2.1 8 69) σ) ∧ (v1 = 1 → P (σ.2.1 8 77) σ) ∧ (v1 = 2 → P (σ.2.1 8 78) σ) ∧ (v1 = 3 → P (σ.2.1 8 79) σ) ∧ (v1 = 4 → P (σ.2.1 8 86) σ) ∧ (v1 = 5 → P (σ.2.1 8 87) σ) ∧ (v1 = 6 → P (σ.2.1 8 88) σ) ∧ ((v1 < 0 ∨ 6 < v1) → rng (((σ.2.1 8 89) - (σ.2.1 8 88)) + 1) ∧ P (((σ.2.1 8 89) - (σ.2.1 8 88)) + 1) σ)) ∧ (σ.2.1 8 68 = 0 → P (-3) σ)) ∧ (¬ (0 ≤ v1 ∧ v1 ≤ 7) → P (-2) σ)) :
    a_MO_atHand_0 G v1 σ P := by
  refine r_iload_n (q := 1) (dc dt_MO_atHand 0 rfl) rfl rfl 1 rfl ?_
  obtain ⟨o1, h⟩ := h
  refine r_i2l (q := 2) (dc dt_MO_atHand 1 rfl) rfl o1 ?_
  refine r_lconst (q := 3) (n := 0) (dc dt_MO_atHand 2 rfl) rfl rfl ?_
  refine r_ldc2 (q := 6) (n := 7) (dc dt_MO_atHand 3 rfl) rfl (gt_at 1705 (by decide +kernel) rfl) ?_
  refine r_callSi (q := 9) mk_MO_in lm_MO_253 (RMO.of rfl) rfl (dc dt_MO_atHand 4 rfl) rfl [J v1, J 0, J 7] [] rfl rfl (Nat.le_of_ble_eq_true rfl) (sp_MO_in o1 (⟨by decide, by decide⟩ : rng 0) (⟨by decide, by decide⟩ : rng 7)) (fun _ _ g2 z => ?_)
  obtain ⟨z, w⟩ := z
  subst z
  replace w := w.symm
  subst w
  refine r_ifb_ne (q := 12) (t := 15) (dc dt_MO_atHand 5 rfl) rfl (by decide) (fun q_ => ?_) (fun q_ => ?_)
  · have h := h.1 q_
    refine r_aload_n (q := 16) (dc dt_MO_atHand 8 rfl) rfl rfl 0 rfl ?_
    refine r_getI (q := 19) (v := σ.2.1 8 68) fl_MO_260 (dc dt_MO_atHand 9 rfl) rfl ly8 rfl rfl (fun g3 => ?_)
    refine r_if_ne (q := 22) (t := 25) (dc dt_MO_atHand 10 rfl) rfl (by decide) g3 (fun q_ => ?_) (fun q_ => ?_)
    · have h := h.1 q_
      refine r_iload_n (q := 26) (dc dt_MO_atHand 13 rfl) rfl rfl 1 rfl ?_
      by_cases qo : (v1 < 0 ∨ 6 < v1)
      · have q_ := qo
        have h := h.2.2.2.2.2.2.2 q_
        refine r_swOut (t := 103) (dc dt_MO_atHand 14 rfl) (by decide) o1 q_ ?_
        refine r_aload_n (q := 104) (dc dt_MO_atHand 36 rfl) rfl rfl 0 rfl ?_
        refine r_getI (q := 107) (v := σ.2.1 8 89) fl_MO_482 (dc dt_MO_atHand 37 rfl) rfl ly8 rfl rfl (fun g11 => ?_)
        refine r_aload_n (q := 108) (dc dt_MO_atHand 38 rfl) rfl rfl 0 rfl ?_
        refine r_getI (q := 111) (v := σ.2.1 8 88) fl_MO_479 (dc dt_MO_atHand 39 rfl) rfl ly8 rfl rfl (fun g12 => ?_)
        refine r_isub (q := 112) (dc dt_MO_atHand 40 rfl) rfl ?_
        refine r_iconst (q := 113) (dc dt_MO_atHand 41 rfl) rfl rfl ?_
        refine r_iadd (q := 114) (dc dt_MO_atHand 42 rfl) rfl ?_
        obtain ⟨o13, h⟩ := h
        exact r_iret rfl (dc dt_MO_atHand 43 rfl) o13 h
      · by_cases q_ : v1 = 0
        · have h := h.1 q_
          refine r_swIn (t := 68) (dc dt_MO_atHand 14 rfl) o1 (by omega) (by omega) (by rw [q_]; rfl) (by decide) ?_
          refine r_aload_n (q := 69) (dc dt_MO_atHand 15 rfl) rfl rfl 0 rfl ?_
          refine r_getI (q := 72) (v := σ.2.1 8 69) fl_MO_461 (dc dt_MO_atHand 16 rfl) rfl ly8 rfl rfl (fun g4 => ?_)
          exact r_iret rfl (dc dt_MO_atHand 17 rfl) g4 h
        · by_cases q_ : v1 = 1
          · have h := h.2.1 q_
            refine r_swIn (t := 73) (dc dt_MO_atHand 14 rfl) o1 (by omega) (by omega) (by rw [q_]; rfl) (by decide) ?_
            refine r_aload_n (q := 74) (dc dt_MO_atHand 18 rfl) rfl rfl 0 rfl ?_
            refine r_getI (q := 77) (v := σ.2.1 8 77) fl_MO_464 (dc dt_MO_atHand 19 rfl) rfl ly8 rfl rfl (fun g5 => ?_)
            exact r_iret rfl (dc dt_MO_atHand 20 rfl) g5 h
          · by_cases q_ : v1 = 2
            · have h := h.2.2.1 q_
              refine r_swIn (t := 78) (dc dt_MO_atHand 14 rfl) o1 (by omega) (by omega) (by rw [q_]; rfl) (by decide) ?_
              refine r_aload_n (q := 79) (dc dt_MO_atHand 21 rfl) rfl rfl 0 rfl ?_
              refine r_getI (q := 82) (v := σ.2.1 8 78) fl_MO_467 (dc dt_MO_atHand 22 rfl) rfl ly8 rfl rfl (fun g6 => ?_)
              exact r_iret rfl (dc dt_MO_atHand 23 rfl) g6 h
            · by_cases q_ : v1 = 3
              · have h := h.2.2.2.1 q_
                refine r_swIn (t := 83) (dc dt_MO_atHand 14 rfl) o1 (by omega) (by omega) (by rw [q_]; rfl) (by decide) ?_
                refine r_aload_n (q := 84) (dc dt_MO_atHand 24 rfl) rfl rfl 0 rfl ?_
                refine r_getI (q := 87) (v := σ.2.1 8 79) fl_MO_470 (dc dt_MO_atHand 25 rfl) rfl ly8 rfl rfl (fun g7 => ?_)
                exact r_iret rfl (dc dt_MO_atHand 26 rfl) g7 h
              · by_cases q_ : v1 = 4
                · have h := h.2.2.2.2.1 q_
                  refine r_swIn (t := 88) (dc dt_MO_atHand 14 rfl) o1 (by omega) (by omega) (by rw [q_]; rfl) (by decide) ?_
                  refine r_aload_n (q := 89) (dc dt_MO_atHand 27 rfl) rfl rfl 0 rfl ?_
                  refine r_getI (q := 92) (v := σ.2.1 8 86) fl_MO_473 (dc dt_MO_atHand 28 rfl) rfl ly8 rfl rfl (fun g8 => ?_)
                  exact r_iret rfl (dc dt_MO_atHand 29 rfl) g8 h
                · by_cases q_ : v1 = 5
                  · have h := h.2.2.2.2.2.1 q_
                    refine r_swIn (t := 93) (dc dt_MO_atHand 14 rfl) o1 (by omega) (by omega) (by rw [q_]; rfl) (by decide) ?_
                    refine r_aload_n (q := 94) (dc dt_MO_atHand 30 rfl) rfl rfl 0 rfl ?_
                    refine r_getI (q := 97) (v := σ.2.1 8 87) fl_MO_476 (dc dt_MO_atHand 31 rfl) rfl ly8 rfl rfl (fun g9 => ?_)
                    exact r_iret rfl (dc dt_MO_atHand 32 rfl) g9 h
                  · have q_ : v1 = 6 := by omega
                    have h := h.2.2.2.2.2.2.1 q_
                    refine r_swIn (t := 98) (dc dt_MO_atHand 14 rfl) o1 (by omega) (by omega) (by rw [q_]; rfl) (by decide) ?_
                    refine r_aload_n (q := 99) (dc dt_MO_atHand 33 rfl) rfl rfl 0 rfl ?_
                    refine r_getI (q := 102) (v := σ.2.1 8 88) fl_MO_479 (dc dt_MO_atHand 34 rfl) rfl ly8 rfl rfl (fun g10 => ?_)
                    exact r_iret rfl (dc dt_MO_atHand 35 rfl) g10 h
    · have h := h.2 q_
      refine r_bipush (q := 24) (dc dt_MO_atHand 11 rfl) rfl (by decide) ?_
      exact r_iret rfl (dc dt_MO_atHand 12 rfl) (⟨by decide, by decide⟩ : rng (-3)) h
  · have h := h.2 q_
    refine r_bipush (q := 14) (dc dt_MO_atHand 6 rfl) rfl (by decide) ?_
    exact r_iret rfl (dc dt_MO_atHand 7 rfl) (⟨by decide, by decide⟩ : rng (-2)) h
def tb_MO_piece : List (Nat × Instr × Nat) := [(0, .aload_n 0, 1), (1, .getfield 260, 3), (4, .ifCond .ne 6, 3), (7, .bipush (-3), 2), (9, .ireturn, 1), (10, .iload_n 1, 1), (11, .i2l, 1), (12, .lconst 0, 1), (13, .aload_n 0, 1), (14, .getfield 461, 3), (17, .iconst 1, 1), (18, .isub, 1), (19, .i2l, 1), (20, .invokestatic 253, 3), (23, .ifCond .ne 5, 3), (26, .iconst (-1), 1), (27, .ireturn, 1), (28, .iload_n 2, 1), (29, .tableswitch 81 0 5 #[39, 46, 53, 60, 67, 74], 39), (68, .aload_n 0, 1), (69, .getfield 162, 3), (72, .iload_n 1, 1), (73, .iaload, 1), (74, .ireturn, 1), (75, .aload_n 0, 1), (76, .getfield 165, 3), (79, .iload_n 1, 1), (80, .iaload, 1), (81, .ireturn, 1), (82, .aload_n 0, 1), (83, .getfield 168, 3), (86, .iload_n 1, 1), (87, .iaload, 1), (88, .ireturn, 1), (89, .aload_n 0, 1), (90, .getfield 171, 3), (93, .iload_n 1, 1), (94, .iaload, 1), (95, .ireturn, 1), (96, .aload_n 0, 1), (97, .getfield 174, 3), (100, .iload_n 1, 1), (101, .iaload, 1), (102, .ireturn, 1), (103, .aload_n 0, 1), (104, .getfield 180, 3), (107, .iload_n 1, 1), (108, .iaload, 1), (109, .ireturn, 1), (110, .bipush (-2), 2), (112, .ireturn, 1)]
theorem dt_MO_piece : DT (cM m_MO_piece) tb_MO_piece := by unfold DT; decide +kernel
abbrev a_MO_piece_0 (G : GT)  (v1 : Int) (v2 : Int) (σ : St) (P : Int → St → Prop) : Prop := A G m_MO_piece 0 [(0, O 8), (1, I v1), (2, I v2)] [] σ P
set_option maxRecDepth 20000 in
theorem k_MO_piece_0 {G : GT} {σ : St} {P : Int → St → Prop}  {v1 : Int} {v2 : Int}  
    (h : (σ.2.1 8 68 ≠ 0 → rng v1 ∧ rng ((σ.2.1 8 69) - 1) ∧ (0 ≤ v1 ∧ v1 ≤ ((σ.2.1 8 69) - 1) → rng v2 ∧ (v2 = 0 → (0 ≤ v1 ∧ v1 < 80) ∧ P (σ.1 139 v1.toNat) σ) ∧ (v2 = 1 → (0 ≤ v1 ∧ v1 < 80) ∧ P (σ.1 140 v1.toNat) σ) ∧ (v2 = 2 → (0 ≤ v1 ∧ v1 < 80) ∧ P (σ.1 141 v1.toNat) σ) ∧ (v2 = 3 → (0 ≤ v1 ∧ v1 < 80) ∧ P (σ.1 142 v1.toNat) σ) ∧ (v2 = 4 → (0 ≤ v1 ∧ v1 < 80) ∧ P (σ.1 143 v1.toNat) σ) ∧ (v2 = 5 → (0 ≤ v1 ∧ v1 < 80) ∧ P (σ.1 145 v1.toNat) σ) ∧ ((v2 < 0 ∨ 5 < v2) → P (-2) σ)) ∧ (¬ (0 ≤ v1 ∧ v1 ≤ ((σ.2.1 8 69) - 1)) → P (-1) σ)) ∧ (σ.2.1 8 68 = 0 → P (-3) σ)) :
    a_MO_piece_0 G v1 v2 σ P := by
  refine r_aload_n (q := 1) (dc dt_MO_piece 0 rfl) rfl rfl 0 rfl ?_
  refine r_getI (q := 4) (v := σ.2.1 8 68) fl_MO_260 (dc dt_MO_piece 1 rfl) rfl ly8 rfl rfl (fun g1 => ?_)
  refine r_if_ne (q := 7) (t := 10) (dc dt_MO_piece 2 rfl) rfl (by decide) g1 (fun q_ => ?_) (fun q_ => ?_)
  · have h := h.1 q_
    refine r_iload_n (q := 11) (dc dt_MO_piece 5 rfl) rfl rfl 1 rfl ?_
    obtain ⟨o2, h⟩ := h
    refine r_i2l (q := 12) (dc dt_MO_piece 6 rfl) rfl o2 ?_
    refine r_lconst (q := 13) (n := 0) (dc dt_MO_piece 7 rfl) rfl rfl ?_
    refine r_aload_n (q := 14) (dc dt_MO_piece 8 rfl) rfl rfl 0 rfl ?_
    refine r_getI (q := 17) (v := σ.2.1 8 69) fl_MO_461 (dc dt_MO_piece 9 rfl) rfl ly8 rfl rfl (fun g3 => ?_)
    refine r_iconst (q := 18) (dc dt_MO_piece 10 rfl) rfl rfl ?_
    refine r_isub (q := 19) (dc dt_MO_piece 11 rfl) rfl ?_
    obtain ⟨o4, h⟩ := h
    refine r_i2l (q := 20) (dc dt_MO_piece 12 rfl) rfl o4 ?_
    refine r_callSi (q := 23) mk_MO_in lm_MO_253 (RMO.of rfl) rfl (dc dt_MO_piece 13 rfl) rfl [J v1, J 0, J ((σ.2.1 8 69) - 1)] [] rfl rfl (Nat.le_of_ble_eq_true rfl) (sp_MO_in o2 (⟨by decide, by decide⟩ : rng 0) o4) (fun _ _ g5 z => ?_)
    obtain ⟨z, w⟩ := z
    subst z
    replace w := w.symm
    subst w
    refine r_ifb_ne (q := 26) (t := 28) (dc dt_MO_piece 14 rfl) rfl (by decide) (fun q_ => ?_) (fun q_ => ?_)
    · have h := h.1 q_
      refine r_iload_n (q := 29) (dc dt_MO_piece 17 rfl) rfl rfl 2 rfl ?_
      obtain ⟨o6, h⟩ := h
      by_cases qo : (v2 < 0 ∨ 5 < v2)
      · have q_ := qo
        have h := h.2.2.2.2.2.2 q_
        refine r_swOut (t := 110) (dc dt_MO_piece 18 rfl) (by decide) o6 q_ ?_
        refine r_bipush (q := 112) (dc dt_MO_piece 49 rfl) rfl (by decide) ?_
        exact r_iret rfl (dc dt_MO_piece 50 rfl) (⟨by decide, by decide⟩ : rng (-2)) h
      · by_cases q_ : v2 = 0
        · have h := h.1 q_
          refine r_swIn (t := 68) (dc dt_MO_piece 18 rfl) o6 (by omega) (by omega) (by rw [q_]; rfl) (by decide) ?_
          refine r_aload_n (q := 69) (dc dt_MO_piece 19 rfl) rfl rfl 0 rfl ?_
          refine r_getO (q := 72) (v := 139) fl_MO_162 (dc dt_MO_piece 20 rfl) rfl ly8 rfl ?_
          refine r_iload_n (q := 73) (dc dt_MO_piece 21 rfl) rfl rfl 1 rfl ?_
          obtain ⟨o7, h⟩ := h
          refine r_iald (q := 74) (v := σ.1 139 v1.toNat) (dc dt_MO_piece 22 rfl) rfl ly139 o7 rfl (fun g8 => ?_)
          exact r_iret rfl (dc dt_MO_piece 23 rfl) g8 h
        · by_cases q_ : v2 = 1
          · have h := h.2.1 q_
            refine r_swIn (t := 75) (dc dt_MO_piece 18 rfl) o6 (by omega) (by omega) (by rw [q_]; rfl) (by decide) ?_
            refine r_aload_n (q := 76) (dc dt_MO_piece 24 rfl) rfl rfl 0 rfl ?_
            refine r_getO (q := 79) (v := 140) fl_MO_165 (dc dt_MO_piece 25 rfl) rfl ly8 rfl ?_
            refine r_iload_n (q := 80) (dc dt_MO_piece 26 rfl) rfl rfl 1 rfl ?_
            obtain ⟨o9, h⟩ := h
            refine r_iald (q := 81) (v := σ.1 140 v1.toNat) (dc dt_MO_piece 27 rfl) rfl ly140 o9 rfl (fun g10 => ?_)
            exact r_iret rfl (dc dt_MO_piece 28 rfl) g10 h
          · by_cases q_ : v2 = 2
            · have h := h.2.2.1 q_
              refine r_swIn (t := 82) (dc dt_MO_piece 18 rfl) o6 (by omega) (by omega) (by rw [q_]; rfl) (by decide) ?_
              refine r_aload_n (q := 83) (dc dt_MO_piece 29 rfl) rfl rfl 0 rfl ?_
              refine r_getO (q := 86) (v := 141) fl_MO_168 (dc dt_MO_piece 30 rfl) rfl ly8 rfl ?_
              refine r_iload_n (q := 87) (dc dt_MO_piece 31 rfl) rfl rfl 1 rfl ?_
              obtain ⟨o11, h⟩ := h
              refine r_iald (q := 88) (v := σ.1 141 v1.toNat) (dc dt_MO_piece 32 rfl) rfl ly141 o11 rfl (fun g12 => ?_)
              exact r_iret rfl (dc dt_MO_piece 33 rfl) g12 h
            · by_cases q_ : v2 = 3
              · have h := h.2.2.2.1 q_
                refine r_swIn (t := 89) (dc dt_MO_piece 18 rfl) o6 (by omega) (by omega) (by rw [q_]; rfl) (by decide) ?_
                refine r_aload_n (q := 90) (dc dt_MO_piece 34 rfl) rfl rfl 0 rfl ?_
                refine r_getO (q := 93) (v := 142) fl_MO_171 (dc dt_MO_piece 35 rfl) rfl ly8 rfl ?_
                refine r_iload_n (q := 94) (dc dt_MO_piece 36 rfl) rfl rfl 1 rfl ?_
                obtain ⟨o13, h⟩ := h
                refine r_iald (q := 95) (v := σ.1 142 v1.toNat) (dc dt_MO_piece 37 rfl) rfl ly142 o13 rfl (fun g14 => ?_)
                exact r_iret rfl (dc dt_MO_piece 38 rfl) g14 h
              · by_cases q_ : v2 = 4
                · have h := h.2.2.2.2.1 q_
                  refine r_swIn (t := 96) (dc dt_MO_piece 18 rfl) o6 (by omega) (by omega) (by rw [q_]; rfl) (by decide) ?_
                  refine r_aload_n (q := 97) (dc dt_MO_piece 39 rfl) rfl rfl 0 rfl ?_
                  refine r_getO (q := 100) (v := 143) fl_MO_174 (dc dt_MO_piece 40 rfl) rfl ly8 rfl ?_
                  refine r_iload_n (q := 101) (dc dt_MO_piece 41 rfl) rfl rfl 1 rfl ?_
                  obtain ⟨o15, h⟩ := h
                  refine r_iald (q := 102) (v := σ.1 143 v1.toNat) (dc dt_MO_piece 42 rfl) rfl ly143 o15 rfl (fun g16 => ?_)
                  exact r_iret rfl (dc dt_MO_piece 43 rfl) g16 h
                · have q_ : v2 = 5 := by omega
                  have h := h.2.2.2.2.2.1 q_
                  refine r_swIn (t := 103) (dc dt_MO_piece 18 rfl) o6 (by omega) (by omega) (by rw [q_]; rfl) (by decide) ?_
                  refine r_aload_n (q := 104) (dc dt_MO_piece 44 rfl) rfl rfl 0 rfl ?_
                  refine r_getO (q := 107) (v := 145) fl_MO_180 (dc dt_MO_piece 45 rfl) rfl ly8 rfl ?_
                  refine r_iload_n (q := 108) (dc dt_MO_piece 46 rfl) rfl rfl 1 rfl ?_
                  obtain ⟨o17, h⟩ := h
                  refine r_iald (q := 109) (v := σ.1 145 v1.toNat) (dc dt_MO_piece 47 rfl) rfl ly145 o17 rfl (fun g18 => ?_)
                  exact r_iret rfl (dc dt_MO_piece 48 rfl) g18 h
    · have h := h.2 q_
      refine r_iconst (q := 27) (dc dt_MO_piece 15 rfl) rfl rfl ?_
      exact r_iret rfl (dc dt_MO_piece 16 rfl) (⟨by decide, by decide⟩ : rng (-1)) h
  · have h := h.2 q_
    refine r_bipush (q := 9) (dc dt_MO_piece 3 rfl) rfl (by decide) ?_
    exact r_iret rfl (dc dt_MO_piece 4 rfl) (⟨by decide, by decide⟩ : rng (-3)) h
def tb_MO_mark : List (Nat × Instr × Nat) := [(0, .aload_n 0, 1), (1, .getfield 260, 3), (4, .ifCond .ne 7, 3), (7, .ldc_w 516, 3), (10, .ireturn, 1), (11, .iload_n 1, 1), (12, .i2l, 1), (13, .lconst 0, 1), (14, .aload_n 0, 1), (15, .getfield 470, 3), (18, .iconst 1, 1), (19, .isub, 1), (20, .i2l, 1), (21, .invokestatic 253, 3), (24, .ifCond .ne 7, 3), (27, .ldc_w 517, 3), (30, .ireturn, 1), (31, .iload_n 2, 1), (32, .tableswitch 82 0 5 #[40, 47, 54, 61, 68, 75], 40), (72, .aload_n 0, 1), (73, .getfield 183, 3), (76, .iload_n 1, 1), (77, .iaload, 1), (78, .ireturn, 1), (79, .aload_n 0, 1), (80, .getfield 186, 3), (83, .iload_n 1, 1), (84, .iaload, 1), (85, .ireturn, 1), (86, .aload_n 0, 1), (87, .getfield 189, 3), (90, .iload_n 1, 1), (91, .iaload, 1), (92, .ireturn, 1), (93, .aload_n 0, 1), (94, .getfield 192, 3), (97, .iload_n 1, 1), (98, .iaload, 1), (99, .ireturn, 1), (100, .aload_n 0, 1), (101, .getfield 195, 3), (104, .iload_n 1, 1), (105, .iaload, 1), (106, .ireturn, 1), (107, .aload_n 0, 1), (108, .getfield 198, 3), (111, .iload_n 1, 1), (112, .iaload, 1), (113, .ireturn, 1), (114, .ldc_w 518, 3), (117, .ireturn, 1)]
theorem dt_MO_mark : DT (cM m_MO_mark) tb_MO_mark := by unfold DT; decide +kernel
abbrev a_MO_mark_0 (G : GT)  (v1 : Int) (v2 : Int) (σ : St) (P : Int → St → Prop) : Prop := A G m_MO_mark 0 [(0, O 8), (1, I v1), (2, I v2)] [] σ P
set_option maxRecDepth 20000 in
theorem k_MO_mark_0 {G : GT} {σ : St} {P : Int → St → Prop}  {v1 : Int} {v2 : Int}  
    (h : (σ.2.1 8 68 ≠ 0 → rng v1 ∧ rng ((σ.2.1 8 79) - 1) ∧ (0 ≤ v1 ∧ v1 ≤ ((σ.2.1 8 79) - 1) → rng v2 ∧ (v2 = 0 → (0 ≤ v1 ∧ v1 < 80) ∧ P (σ.1 146 v1.toNat) σ) ∧ (v2 = 1 → (0 ≤ v1 ∧ v1 < 80) ∧ P (σ.1 147 v1.toNat) σ) ∧ (v2 = 2 → (0 ≤ v1 ∧ v1 < 80) ∧ P (σ.1 148 v1.toNat) σ) ∧ (v2 = 3 → (0 ≤ v1 ∧ v1 < 80) ∧ P (σ.1 149 v1.toNat) σ) ∧ (v2 = 4 → (0 ≤ v1 ∧ v1 < 80) ∧ P (σ.1 150 v1.toNat) σ) ∧ (v2 = 5 → (0 ≤ v1 ∧ v1 < 80) ∧ P (σ.1 151 v1.toNat) σ) ∧ ((v2 < 0 ∨ 5 < v2) → P (-100002) σ)) ∧ (¬ (0 ≤ v1 ∧ v1 ≤ ((σ.2.1 8 79) - 1)) → P (-100001) σ)) ∧ (σ.2.1 8 68 = 0 → P (-100003) σ)) :
    a_MO_mark_0 G v1 v2 σ P := by
  refine r_aload_n (q := 1) (dc dt_MO_mark 0 rfl) rfl rfl 0 rfl ?_
  refine r_getI (q := 4) (v := σ.2.1 8 68) fl_MO_260 (dc dt_MO_mark 1 rfl) rfl ly8 rfl rfl (fun g1 => ?_)
  refine r_if_ne (q := 7) (t := 11) (dc dt_MO_mark 2 rfl) rfl (by decide) g1 (fun q_ => ?_) (fun q_ => ?_)
  · have h := h.1 q_
    refine r_iload_n (q := 12) (dc dt_MO_mark 5 rfl) rfl rfl 1 rfl ?_
    obtain ⟨o2, h⟩ := h
    refine r_i2l (q := 13) (dc dt_MO_mark 6 rfl) rfl o2 ?_
    refine r_lconst (q := 14) (n := 0) (dc dt_MO_mark 7 rfl) rfl rfl ?_
    refine r_aload_n (q := 15) (dc dt_MO_mark 8 rfl) rfl rfl 0 rfl ?_
    refine r_getI (q := 18) (v := σ.2.1 8 79) fl_MO_470 (dc dt_MO_mark 9 rfl) rfl ly8 rfl rfl (fun g3 => ?_)
    refine r_iconst (q := 19) (dc dt_MO_mark 10 rfl) rfl rfl ?_
    refine r_isub (q := 20) (dc dt_MO_mark 11 rfl) rfl ?_
    obtain ⟨o4, h⟩ := h
    refine r_i2l (q := 21) (dc dt_MO_mark 12 rfl) rfl o4 ?_
    refine r_callSi (q := 24) mk_MO_in lm_MO_253 (RMO.of rfl) rfl (dc dt_MO_mark 13 rfl) rfl [J v1, J 0, J ((σ.2.1 8 79) - 1)] [] rfl rfl (Nat.le_of_ble_eq_true rfl) (sp_MO_in o2 (⟨by decide, by decide⟩ : rng 0) o4) (fun _ _ g5 z => ?_)
    obtain ⟨z, w⟩ := z
    subst z
    replace w := w.symm
    subst w
    refine r_ifb_ne (q := 27) (t := 31) (dc dt_MO_mark 14 rfl) rfl (by decide) (fun q_ => ?_) (fun q_ => ?_)
    · have h := h.1 q_
      refine r_iload_n (q := 32) (dc dt_MO_mark 17 rfl) rfl rfl 2 rfl ?_
      obtain ⟨o6, h⟩ := h
      by_cases qo : (v2 < 0 ∨ 5 < v2)
      · have q_ := qo
        have h := h.2.2.2.2.2.2 q_
        refine r_swOut (t := 114) (dc dt_MO_mark 18 rfl) (by decide) o6 q_ ?_
        refine r_ldcw (q := 117) (n := -100002) (dc dt_MO_mark 49 rfl) rfl (gt_at 1716 (by decide +kernel) rfl) ?_
        exact r_iret rfl (dc dt_MO_mark 50 rfl) (⟨by decide, by decide⟩ : rng (-100002)) h
      · by_cases q_ : v2 = 0
        · have h := h.1 q_
          refine r_swIn (t := 72) (dc dt_MO_mark 18 rfl) o6 (by omega) (by omega) (by rw [q_]; rfl) (by decide) ?_
          refine r_aload_n (q := 73) (dc dt_MO_mark 19 rfl) rfl rfl 0 rfl ?_
          refine r_getO (q := 76) (v := 146) fl_MO_183 (dc dt_MO_mark 20 rfl) rfl ly8 rfl ?_
          refine r_iload_n (q := 77) (dc dt_MO_mark 21 rfl) rfl rfl 1 rfl ?_
          obtain ⟨o7, h⟩ := h
          refine r_iald (q := 78) (v := σ.1 146 v1.toNat) (dc dt_MO_mark 22 rfl) rfl ly146 o7 rfl (fun g8 => ?_)
          exact r_iret rfl (dc dt_MO_mark 23 rfl) g8 h
        · by_cases q_ : v2 = 1
          · have h := h.2.1 q_
            refine r_swIn (t := 79) (dc dt_MO_mark 18 rfl) o6 (by omega) (by omega) (by rw [q_]; rfl) (by decide) ?_
            refine r_aload_n (q := 80) (dc dt_MO_mark 24 rfl) rfl rfl 0 rfl ?_
            refine r_getO (q := 83) (v := 147) fl_MO_186 (dc dt_MO_mark 25 rfl) rfl ly8 rfl ?_
            refine r_iload_n (q := 84) (dc dt_MO_mark 26 rfl) rfl rfl 1 rfl ?_
            obtain ⟨o9, h⟩ := h
            refine r_iald (q := 85) (v := σ.1 147 v1.toNat) (dc dt_MO_mark 27 rfl) rfl ly147 o9 rfl (fun g10 => ?_)
            exact r_iret rfl (dc dt_MO_mark 28 rfl) g10 h
          · by_cases q_ : v2 = 2
            · have h := h.2.2.1 q_
              refine r_swIn (t := 86) (dc dt_MO_mark 18 rfl) o6 (by omega) (by omega) (by rw [q_]; rfl) (by decide) ?_
              refine r_aload_n (q := 87) (dc dt_MO_mark 29 rfl) rfl rfl 0 rfl ?_
              refine r_getO (q := 90) (v := 148) fl_MO_189 (dc dt_MO_mark 30 rfl) rfl ly8 rfl ?_
              refine r_iload_n (q := 91) (dc dt_MO_mark 31 rfl) rfl rfl 1 rfl ?_
              obtain ⟨o11, h⟩ := h
              refine r_iald (q := 92) (v := σ.1 148 v1.toNat) (dc dt_MO_mark 32 rfl) rfl ly148 o11 rfl (fun g12 => ?_)
              exact r_iret rfl (dc dt_MO_mark 33 rfl) g12 h
            · by_cases q_ : v2 = 3
              · have h := h.2.2.2.1 q_
                refine r_swIn (t := 93) (dc dt_MO_mark 18 rfl) o6 (by omega) (by omega) (by rw [q_]; rfl) (by decide) ?_
                refine r_aload_n (q := 94) (dc dt_MO_mark 34 rfl) rfl rfl 0 rfl ?_
                refine r_getO (q := 97) (v := 149) fl_MO_192 (dc dt_MO_mark 35 rfl) rfl ly8 rfl ?_
                refine r_iload_n (q := 98) (dc dt_MO_mark 36 rfl) rfl rfl 1 rfl ?_
                obtain ⟨o13, h⟩ := h
                refine r_iald (q := 99) (v := σ.1 149 v1.toNat) (dc dt_MO_mark 37 rfl) rfl ly149 o13 rfl (fun g14 => ?_)
                exact r_iret rfl (dc dt_MO_mark 38 rfl) g14 h
              · by_cases q_ : v2 = 4
                · have h := h.2.2.2.2.1 q_
                  refine r_swIn (t := 100) (dc dt_MO_mark 18 rfl) o6 (by omega) (by omega) (by rw [q_]; rfl) (by decide) ?_
                  refine r_aload_n (q := 101) (dc dt_MO_mark 39 rfl) rfl rfl 0 rfl ?_
                  refine r_getO (q := 104) (v := 150) fl_MO_195 (dc dt_MO_mark 40 rfl) rfl ly8 rfl ?_
                  refine r_iload_n (q := 105) (dc dt_MO_mark 41 rfl) rfl rfl 1 rfl ?_
                  obtain ⟨o15, h⟩ := h
                  refine r_iald (q := 106) (v := σ.1 150 v1.toNat) (dc dt_MO_mark 42 rfl) rfl ly150 o15 rfl (fun g16 => ?_)
                  exact r_iret rfl (dc dt_MO_mark 43 rfl) g16 h
                · have q_ : v2 = 5 := by omega
                  have h := h.2.2.2.2.2.1 q_
                  refine r_swIn (t := 107) (dc dt_MO_mark 18 rfl) o6 (by omega) (by omega) (by rw [q_]; rfl) (by decide) ?_
                  refine r_aload_n (q := 108) (dc dt_MO_mark 44 rfl) rfl rfl 0 rfl ?_
                  refine r_getO (q := 111) (v := 151) fl_MO_198 (dc dt_MO_mark 45 rfl) rfl ly8 rfl ?_
                  refine r_iload_n (q := 112) (dc dt_MO_mark 46 rfl) rfl rfl 1 rfl ?_
                  obtain ⟨o17, h⟩ := h
                  refine r_iald (q := 113) (v := σ.1 151 v1.toNat) (dc dt_MO_mark 47 rfl) rfl ly151 o17 rfl (fun g18 => ?_)
                  exact r_iret rfl (dc dt_MO_mark 48 rfl) g18 h
    · have h := h.2 q_
      refine r_ldcw (q := 30) (n := -100001) (dc dt_MO_mark 15 rfl) rfl (gt_at 1715 (by decide +kernel) rfl) ?_
      exact r_iret rfl (dc dt_MO_mark 16 rfl) (⟨by decide, by decide⟩ : rng (-100001)) h
  · have h := h.2 q_
    refine r_ldcw (q := 10) (n := -100003) (dc dt_MO_mark 3 rfl) rfl (gt_at 1714 (by decide +kernel) rfl) ?_
    exact r_iret rfl (dc dt_MO_mark 4 rfl) (⟨by decide, by decide⟩ : rng (-100003)) h
def tb_MO_seen : List (Nat × Instr × Nat) := [(0, .aload_n 0, 1), (1, .getfield 260, 3), (4, .ifCond .ne 6, 3), (7, .bipush (-3), 2), (9, .ireturn, 1), (10, .iload_n 1, 1), (11, .i2l, 1), (12, .lconst 0, 1), (13, .aload_n 0, 1), (14, .getfield 482, 3), (17, .aload_n 0, 1), (18, .getfield 479, 3), (21, .isub, 1), (22, .i2l, 1), (23, .invokestatic 253, 3), (26, .ifCond .eq 12, 3), (29, .aload_n 0, 1), (30, .getfield 201, 3), (33, .iload_n 1, 1), (34, .iaload, 1), (35, .goto 4, 3), (38, .iconst (-1), 1), (39, .ireturn, 1)]
theorem dt_MO_seen : DT (cM m_MO_seen) tb_MO_seen := by unfold DT; decide +kernel
abbrev a_MO_seen_0 (G : GT)  (v1 : Int) (σ : St) (P : Int → St → Prop) : Prop := A G m_MO_seen 0 [(0, O 8), (1, I v1)] [] σ P
set_option maxRecDepth 20000 in
theorem k_MO_seen_0 {G : GT} {σ : St} {P : Int → St → Prop}  {v1 : Int}  
    (h : (σ.2.1 8 68 ≠ 0 → rng v1 ∧ rng ((σ.2.1 8 89) - (σ.2.1 8 88)) ∧ ((0 ≤ v1 ∧ v1 ≤ ((σ.2.1 8 89) - (σ.2.1 8 88)) → 0 ≤ v1 ∧ v1 < 80)) ∧ (rng (if ¬ (0 ≤ v1 ∧ v1 ≤ ((σ.2.1 8 89) - (σ.2.1 8 88))) then (-1 : Int) else σ.1 152 v1.toNat)) ∧ P (if ¬ (0 ≤ v1 ∧ v1 ≤ ((σ.2.1 8 89) - (σ.2.1 8 88))) then (-1 : Int) else σ.1 152 v1.toNat) σ) ∧ (σ.2.1 8 68 = 0 → P (-3) σ)) :
    a_MO_seen_0 G v1 σ P := by
  refine r_aload_n (q := 1) (dc dt_MO_seen 0 rfl) rfl rfl 0 rfl ?_
  refine r_getI (q := 4) (v := σ.2.1 8 68) fl_MO_260 (dc dt_MO_seen 1 rfl) rfl ly8 rfl rfl (fun g1 => ?_)
  refine r_if_ne (q := 7) (t := 10) (dc dt_MO_seen 2 rfl) rfl (by decide) g1 (fun q_ => ?_) (fun q_ => ?_)
  · have h := h.1 q_
    refine r_iload_n (q := 11) (dc dt_MO_seen 5 rfl) rfl rfl 1 rfl ?_
    obtain ⟨o2, h⟩ := h
    refine r_i2l (q := 12) (dc dt_MO_seen 6 rfl) rfl o2 ?_
    refine r_lconst (q := 13) (n := 0) (dc dt_MO_seen 7 rfl) rfl rfl ?_
    refine r_aload_n (q := 14) (dc dt_MO_seen 8 rfl) rfl rfl 0 rfl ?_
    refine r_getI (q := 17) (v := σ.2.1 8 89) fl_MO_482 (dc dt_MO_seen 9 rfl) rfl ly8 rfl rfl (fun g3 => ?_)
    refine r_aload_n (q := 18) (dc dt_MO_seen 10 rfl) rfl rfl 0 rfl ?_
    refine r_getI (q := 21) (v := σ.2.1 8 88) fl_MO_479 (dc dt_MO_seen 11 rfl) rfl ly8 rfl rfl (fun g4 => ?_)
    refine r_isub (q := 22) (dc dt_MO_seen 12 rfl) rfl ?_
    obtain ⟨o5, h⟩ := h
    refine r_i2l (q := 23) (dc dt_MO_seen 13 rfl) rfl o5 ?_
    refine r_callSi (q := 26) mk_MO_in lm_MO_253 (RMO.of rfl) rfl (dc dt_MO_seen 14 rfl) rfl [J v1, J 0, J ((σ.2.1 8 89) - (σ.2.1 8 88))] [] rfl rfl (Nat.le_of_ble_eq_true rfl) (sp_MO_in o2 (⟨by decide, by decide⟩ : rng 0) o5) (fun _ _ g6 z => ?_)
    obtain ⟨z, w⟩ := z
    subst z
    replace w := w.symm
    subst w
    obtain ⟨ho, h⟩ := h
    have hJ : ∀ (w_0 : Int), w_0 = (if ¬ (0 ≤ v1 ∧ v1 ≤ ((σ.2.1 8 89) - (σ.2.1 8 88))) then (-1 : Int) else σ.1 152 v1.toNat) → A G m_MO_seen 39 [(0, O 8), (1, I v1)] [I w_0] σ P := by
      intro w_0 z_0
      subst z_0
      obtain ⟨o9, h⟩ := h
      exact r_iret rfl (dc dt_MO_seen 22 rfl) o9 h
    clear h
    refine r_ifb_eq (q := 29) (t := 38) (dc dt_MO_seen 15 rfl) rfl (by decide) (fun q_ => ?_) (fun q_ => ?_)
    · have q10 := q_
      refine r_iconst (q := 39) (dc dt_MO_seen 21 rfl) rfl rfl ?_
      exact (hJ (-1) ((if_pos (by first | omega | grind)).symm))
    · have q10 := q_
      have ho := ho q_
      refine r_aload_n (q := 30) (dc dt_MO_seen 16 rfl) rfl rfl 0 rfl ?_
      refine r_getO (q := 33) (v := 152) fl_MO_201 (dc dt_MO_seen 17 rfl) rfl ly8 rfl ?_
      refine r_iload_n (q := 34) (dc dt_MO_seen 18 rfl) rfl rfl 1 rfl ?_
      have o7 := ho
      refine r_iald (q := 35) (v := σ.1 152 v1.toNat) (dc dt_MO_seen 19 rfl) rfl ly152 o7 rfl (fun g8 => ?_)
      refine r_goto (q := 39) (dc dt_MO_seen 20 rfl) (by decide) ?_
      exact (hJ (σ.1 152 v1.toNat) ((if_neg (by first | omega | grind)).symm))
  · have h := h.2 q_
    refine r_bipush (q := 9) (dc dt_MO_seen 3 rfl) rfl (by decide) ?_
    exact r_iret rfl (dc dt_MO_seen 4 rfl) (⟨by decide, by decide⟩ : rng (-3)) h
set_option maxRecDepth 20000 in
theorem sp0_MO_seen {G : GT} {σ : St} {v1 : Int}  (j0 : (σ.2.1 8 68 ≠ 0 → rng v1 ∧ rng ((σ.2.1 8 89) - (σ.2.1 8 88)) ∧ ((0 ≤ v1 ∧ v1 ≤ ((σ.2.1 8 89) - (σ.2.1 8 88)) → 0 ≤ v1 ∧ v1 < 80)) ∧ rng (if ¬ (0 ≤ v1 ∧ v1 ≤ ((σ.2.1 8 89) - (σ.2.1 8 88))) then (-1 : Int) else σ.1 152 v1.toNat))) : CJ G m_MO_seen [O 8, I v1] σ (fun r u => r = (if σ.2.1 8 68 ≠ 0 then (if ¬ (0 ≤ v1 ∧ v1 ≤ ((σ.2.1 8 89) - (σ.2.1 8 88))) then (-1 : Int) else σ.1 152 v1.toNat) else (-3 : Int)) ∧ u = σ) := by
  refine CJ.intro (by decide) (by simp [catA]; decide) (fun _ => k_MO_seen_0  ?_)
  refine ⟨fun q_ => ?_, fun q_ => ?_⟩
  ·
    refine ⟨by first | assumption | omega | grind, ?_⟩
    refine ⟨by first | assumption | omega | grind, ?_⟩
    refine ⟨by first | assumption | omega | grind, ?_⟩
    refine ⟨by first | assumption | omega | grind, ?_⟩
    exact ⟨by first | rfl | grind, rfl⟩
  ·
    exact ⟨by first | rfl | grind, rfl⟩
def p_MO_seen (σ : St) (v1 : Int) : Prop := (σ.2.1 8 68 ≠ 0 → rng v1 ∧ rng ((σ.2.1 8 89) - (σ.2.1 8 88)) ∧ ((0 ≤ v1 ∧ v1 ≤ ((σ.2.1 8 89) - (σ.2.1 8 88)) → 0 ≤ v1 ∧ v1 < 80)) ∧ rng (if ¬ (0 ≤ v1 ∧ v1 ≤ ((σ.2.1 8 89) - (σ.2.1 8 88))) then (-1 : Int) else σ.1 152 v1.toNat))
def f_MO_seen (σ : St) (v1 : Int) : Int := if σ.2.1 8 68 ≠ 0 then (if ¬ (0 ≤ v1 ∧ v1 ≤ ((σ.2.1 8 89) - (σ.2.1 8 88))) then (-1 : Int) else σ.1 152 v1.toNat) else (-3 : Int)
theorem sp_MO_seen {G : GT} {σ : St} {v1 : Int}  (j : p_MO_seen σ v1) : CJ G m_MO_seen [O 8, I v1] σ (fun r u => r = (f_MO_seen σ v1) ∧ u = σ) := sp0_MO_seen  j
def tb_MO_place : List (Nat × Instr × Nat) := [(0, .aload_n 0, 1), (1, .getfield 260, 3), (4, .ifCond .ne 6, 3), (7, .bipush (-3), 2), (9, .ireturn, 1), (10, .iload_n 1, 1), (11, .i2l, 1), (12, .aload_n 0, 1), (13, .getfield 479, 3), (16, .i2l, 1), (17, .aload_n 0, 1), (18, .getfield 482, 3), (21, .i2l, 1), (22, .invokestatic 253, 3), (25, .ifCond .ne 5, 3), (28, .iconst (-1), 1), (29, .ireturn, 1), (30, .iconst 0, 1), (31, .istore_n 2, 1), (32, .aload_n 0, 1), (33, .getfield 201, 3), (36, .iload_n 2, 1), (37, .iaload, 1), (38, .iload_n 1, 1), (39, .if_icmp .eq 9, 3), (42, .iinc 2 1, 3), (45, .goto (-13), 3), (48, .iload_n 2, 1), (49, .ireturn, 1)]
theorem dt_MO_place : DT (cM m_MO_place) tb_MO_place := by unfold DT; decide +kernel
abbrev a_MO_place_0 (G : GT)  (v1 : Int) (σ : St) (P : Int → St → Prop) : Prop := A G m_MO_place 0 [(0, O 8), (1, I v1)] [] σ P
abbrev a_MO_place_32 (G : GT)  (v1 : Int) (v2 : Int) (σ : St) (P : Int → St → Prop) : Prop := A G m_MO_place 32 [(0, O 8), (1, I v1), (2, I v2)] [] σ P
set_option maxRecDepth 20000 in
theorem k_MO_place_0 {G : GT} {σ : St} {P : Int → St → Prop}  {v1 : Int}  
    (h : (σ.2.1 8 68 ≠ 0 → rng v1 ∧ ((σ.2.1 8 88) ≤ v1 ∧ v1 ≤ (σ.2.1 8 89) → a_MO_place_32 G v1 0 σ P) ∧ (¬ ((σ.2.1 8 88) ≤ v1 ∧ v1 ≤ (σ.2.1 8 89)) → P (-1) σ)) ∧ (σ.2.1 8 68 = 0 → P (-3) σ)) :
    a_MO_place_0 G v1 σ P := by
  refine r_aload_n (q := 1) (dc dt_MO_place 0 rfl) rfl rfl 0 rfl ?_
  refine r_getI (q := 4) (v := σ.2.1 8 68) fl_MO_260 (dc dt_MO_place 1 rfl) rfl ly8 rfl rfl (fun g1 => ?_)
  refine r_if_ne (q := 7) (t := 10) (dc dt_MO_place 2 rfl) rfl (by decide) g1 (fun q_ => ?_) (fun q_ => ?_)
  · have h := h.1 q_
    refine r_iload_n (q := 11) (dc dt_MO_place 5 rfl) rfl rfl 1 rfl ?_
    obtain ⟨o2, h⟩ := h
    refine r_i2l (q := 12) (dc dt_MO_place 6 rfl) rfl o2 ?_
    refine r_aload_n (q := 13) (dc dt_MO_place 7 rfl) rfl rfl 0 rfl ?_
    refine r_getI (q := 16) (v := σ.2.1 8 88) fl_MO_479 (dc dt_MO_place 8 rfl) rfl ly8 rfl rfl (fun g3 => ?_)
    refine r_i2l (q := 17) (dc dt_MO_place 9 rfl) rfl g3 ?_
    refine r_aload_n (q := 18) (dc dt_MO_place 10 rfl) rfl rfl 0 rfl ?_
    refine r_getI (q := 21) (v := σ.2.1 8 89) fl_MO_482 (dc dt_MO_place 11 rfl) rfl ly8 rfl rfl (fun g4 => ?_)
    refine r_i2l (q := 22) (dc dt_MO_place 12 rfl) rfl g4 ?_
    refine r_callSi (q := 25) mk_MO_in lm_MO_253 (RMO.of rfl) rfl (dc dt_MO_place 13 rfl) rfl [J v1, J (σ.2.1 8 88), J (σ.2.1 8 89)] [] rfl rfl (Nat.le_of_ble_eq_true rfl) (sp_MO_in o2 g3 g4) (fun _ _ g5 z => ?_)
    obtain ⟨z, w⟩ := z
    subst z
    replace w := w.symm
    subst w
    refine r_ifb_ne (q := 28) (t := 30) (dc dt_MO_place 14 rfl) rfl (by decide) (fun q_ => ?_) (fun q_ => ?_)
    · have h := h.1 q_
      refine r_iconst (q := 31) (dc dt_MO_place 17 rfl) rfl rfl ?_
      refine r_istore_n (q := 32) (dc dt_MO_place 18 rfl) rfl rfl (by decide) rfl ?_
      exact r_loc [1, 2, 0] rfl h
    · have h := h.2 q_
      refine r_iconst (q := 29) (dc dt_MO_place 15 rfl) rfl rfl ?_
      exact r_iret rfl (dc dt_MO_place 16 rfl) (⟨by decide, by decide⟩ : rng (-1)) h
  · have h := h.2 q_
    refine r_bipush (q := 9) (dc dt_MO_place 3 rfl) rfl (by decide) ?_
    exact r_iret rfl (dc dt_MO_place 4 rfl) (⟨by decide, by decide⟩ : rng (-3)) h
set_option maxRecDepth 20000 in
theorem k_MO_place_32 {G : GT} {σ : St} {P : Int → St → Prop}  {v1 : Int} {v2 : Int}  
    (h : (0 ≤ v2 ∧ v2 < 80) ∧ rng v1 ∧ (σ.1 152 v2.toNat = v1 → rng v2 ∧ P v2 σ) ∧ (σ.1 152 v2.toNat ≠ v1 → a_MO_place_32 G v1 (v2 + 1) σ P)) :
    a_MO_place_32 G v1 v2 σ P := by
  refine r_aload_n (q := 33) (dc dt_MO_place 19 rfl) rfl rfl 0 rfl ?_
  refine r_getO (q := 36) (v := 152) fl_MO_201 (dc dt_MO_place 20 rfl) rfl ly8 rfl ?_
  refine r_iload_n (q := 37) (dc dt_MO_place 21 rfl) rfl rfl 2 rfl ?_
  obtain ⟨o6, h⟩ := h
  refine r_iald (q := 38) (v := σ.1 152 v2.toNat) (dc dt_MO_place 22 rfl) rfl ly152 o6 rfl (fun g7 => ?_)
  refine r_iload_n (q := 39) (dc dt_MO_place 23 rfl) rfl rfl 1 rfl ?_
  obtain ⟨o8, h⟩ := h
  refine r_icmp_eq (q := 42) (t := 48) (dc dt_MO_place 24 rfl) rfl (by decide) g7 o8 (fun q_ => ?_) (fun q_ => ?_)
  · have h := h.1 q_
    refine r_iload_n (q := 49) (dc dt_MO_place 27 rfl) rfl rfl 2 rfl ?_
    obtain ⟨o9, h⟩ := h
    exact r_iret rfl (dc dt_MO_place 28 rfl) o9 h
  · have h := h.2 q_
    refine r_iinc (q := 45) (k := 2) (dc dt_MO_place 25 rfl) rfl rfl (by decide) rfl ?_
    refine r_goto (q := 32) (dc dt_MO_place 26 rfl) (by decide) ?_
    exact r_loc [1, 2, 0] rfl h
def tb_MO_witness : List (Nat × Instr × Nat) := [(0, .aload_n 0, 1), (1, .getfield 260, 3), (4, .ifCond .ne 6, 3), (7, .bipush (-3), 2), (9, .ireturn, 1), (10, .iload_n 1, 1), (11, .i2l, 1), (12, .lconst 0, 1), (13, .iconst 3, 1), (14, .aload_n 0, 1), (15, .getfield 461, 3), (18, .imul, 1), (19, .iconst 1, 1), (20, .iadd, 1), (21, .i2l, 1), (22, .invokestatic 253, 3), (25, .ifCond .ne 6, 3), (28, .bipush (-6), 2), (30, .ireturn, 1), (31, .iload_n 1, 1), (32, .iconst 3, 1), (33, .aload_n 0, 1), (34, .getfield 461, 3), (37, .imul, 1), (38, .if_icmp .lt 25, 3), (41, .iload_n 1, 1), (42, .iconst 3, 1), (43, .aload_n 0, 1), (44, .getfield 461, 3), (47, .imul, 1), (48, .if_icmp .ne 10, 3), (51, .aload_n 0, 1), (52, .getfield 464, 3), (55, .goto 7, 3), (58, .aload_n 0, 1), (59, .getfield 467, 3), (62, .ireturn, 1), (63, .iload_n 1, 1), (64, .iconst 3, 1), (65, .idiv, 1), (66, .istore_n 2, 1), (67, .iload_n 1, 1), (68, .iconst 3, 1), (69, .irem, 1), (70, .ifCond .ne 12, 3), (73, .aload_n 0, 1), (74, .getfield 177, 3), (77, .iload_n 2, 1), (78, .iaload, 1), (79, .goto 25, 3), (82, .iload_n 1, 1), (83, .iconst 3, 1), (84, .irem, 1), (85, .iconst 1, 1), (86, .if_icmp .ne 12, 3), (89, .aload_n 0, 1), (90, .getfield 171, 3), (93, .iload_n 2, 1), (94, .iaload, 1), (95, .goto 9, 3), (98, .aload_n 0, 1), (99, .getfield 174, 3), (102, .iload_n 2, 1), (103, .iaload, 1), (104, .ireturn, 1)]
theorem dt_MO_witness : DT (cM m_MO_witness) tb_MO_witness := by unfold DT; decide +kernel
abbrev a_MO_witness_0 (G : GT)  (v1 : Int) (σ : St) (P : Int → St → Prop) : Prop := A G m_MO_witness 0 [(0, O 8), (1, I v1)] [] σ P
set_option maxRecDepth 20000 in
theorem k_MO_witness_0 {G : GT} {σ : St} {P : Int → St → Prop}  {v1 : Int}  
    (h : (σ.2.1 8 68 ≠ 0 → rng v1 ∧ rng ((3 * (σ.2.1 8 69)) + 1) ∧ (0 ≤ v1 ∧ v1 ≤ ((3 * (σ.2.1 8 69)) + 1) → rng (3 * (σ.2.1 8 69)) ∧ (v1 < 3 * (σ.2.1 8 69) → 0 ≤ v1 ∧ rng (v1 % 3) ∧ ((v1 % 3 ≠ 0 → (v1 % 3 ≠ 1 → 0 ≤ v1 / 3 ∧ v1 / 3 < 80) ∧ (v1 % 3 = 1 → 0 ≤ v1 / 3 ∧ v1 / 3 < 80)) ∧ (v1 % 3 = 0 → 0 ≤ v1 / 3 ∧ v1 / 3 < 80)) ∧ rng (if v1 % 3 ≠ 0 then (if v1 % 3 ≠ 1 then σ.1 143 ((v1 / 3).toNat) else σ.1 142 ((v1 / 3).toNat)) else σ.1 144 ((v1 / 3).toNat)) ∧ P (if v1 % 3 ≠ 0 then (if v1 % 3 ≠ 1 then σ.1 143 ((v1 / 3).toNat) else σ.1 142 ((v1 / 3).toNat)) else σ.1 144 ((v1 / 3).toNat)) σ) ∧ (3 * (σ.2.1 8 69) ≤ v1 → rng (if v1 ≠ 3 * (σ.2.1 8 69) then σ.2.1 8 78 else σ.2.1 8 77) ∧ P (if v1 ≠ 3 * (σ.2.1 8 69) then σ.2.1 8 78 else σ.2.1 8 77) σ)) ∧ (¬ (0 ≤ v1 ∧ v1 ≤ ((3 * (σ.2.1 8 69)) + 1)) → P (-6) σ)) ∧ (σ.2.1 8 68 = 0 → P (-3) σ)) :
    a_MO_witness_0 G v1 σ P := by
  refine r_aload_n (q := 1) (dc dt_MO_witness 0 rfl) rfl rfl 0 rfl ?_
  refine r_getI (q := 4) (v := σ.2.1 8 68) fl_MO_260 (dc dt_MO_witness 1 rfl) rfl ly8 rfl rfl (fun g1 => ?_)
  refine r_if_ne (q := 7) (t := 10) (dc dt_MO_witness 2 rfl) rfl (by decide) g1 (fun q_ => ?_) (fun q_ => ?_)
  · have h := h.1 q_
    refine r_iload_n (q := 11) (dc dt_MO_witness 5 rfl) rfl rfl 1 rfl ?_
    obtain ⟨o2, h⟩ := h
    refine r_i2l (q := 12) (dc dt_MO_witness 6 rfl) rfl o2 ?_
    refine r_lconst (q := 13) (n := 0) (dc dt_MO_witness 7 rfl) rfl rfl ?_
    refine r_iconst (q := 14) (dc dt_MO_witness 8 rfl) rfl rfl ?_
    refine r_aload_n (q := 15) (dc dt_MO_witness 9 rfl) rfl rfl 0 rfl ?_
    refine r_getI (q := 18) (v := σ.2.1 8 69) fl_MO_461 (dc dt_MO_witness 10 rfl) rfl ly8 rfl rfl (fun g3 => ?_)
    refine r_imul (q := 19) (dc dt_MO_witness 11 rfl) rfl ?_
    refine r_iconst (q := 20) (dc dt_MO_witness 12 rfl) rfl rfl ?_
    refine r_iadd (q := 21) (dc dt_MO_witness 13 rfl) rfl ?_
    obtain ⟨o4, h⟩ := h
    refine r_i2l (q := 22) (dc dt_MO_witness 14 rfl) rfl o4 ?_
    refine r_callSi (q := 25) mk_MO_in lm_MO_253 (RMO.of rfl) rfl (dc dt_MO_witness 15 rfl) rfl [J v1, J 0, J ((3 * (σ.2.1 8 69)) + 1)] [] rfl rfl (Nat.le_of_ble_eq_true rfl) (sp_MO_in o2 (⟨by decide, by decide⟩ : rng 0) o4) (fun _ _ g5 z => ?_)
    obtain ⟨z, w⟩ := z
    subst z
    replace w := w.symm
    subst w
    refine r_ifb_ne (q := 28) (t := 31) (dc dt_MO_witness 16 rfl) rfl (by decide) (fun q_ => ?_) (fun q_ => ?_)
    · have h := h.1 q_
      refine r_iload_n (q := 32) (dc dt_MO_witness 19 rfl) rfl rfl 1 rfl ?_
      refine r_iconst (q := 33) (dc dt_MO_witness 20 rfl) rfl rfl ?_
      refine r_aload_n (q := 34) (dc dt_MO_witness 21 rfl) rfl rfl 0 rfl ?_
      refine r_getI (q := 37) (v := σ.2.1 8 69) fl_MO_461 (dc dt_MO_witness 22 rfl) rfl ly8 rfl rfl (fun g6 => ?_)
      refine r_imul (q := 38) (dc dt_MO_witness 23 rfl) rfl ?_
      obtain ⟨o7, h⟩ := h
      refine r_icmp_lt (q := 41) (t := 63) (dc dt_MO_witness 24 rfl) rfl (by decide) o2 o7 (fun q_ => ?_) (fun q_ => ?_)
      · have h := h.1 q_
        refine r_iload_n (q := 64) (dc dt_MO_witness 37 rfl) rfl rfl 1 rfl ?_
        refine r_iconst (q := 65) (dc dt_MO_witness 38 rfl) rfl rfl ?_
        obtain ⟨o8, h⟩ := h
        refine r_idiv (q := 66) (dc dt_MO_witness 39 rfl) rfl o8 o2 (by decide) (by decide) ?_
        refine r_istore_n (q := 67) (dc dt_MO_witness 40 rfl) rfl rfl (by decide) rfl ?_
        refine r_iload_n (q := 68) (dc dt_MO_witness 41 rfl) rfl rfl 2 rfl ?_
        refine r_iconst (q := 69) (dc dt_MO_witness 42 rfl) rfl rfl ?_
        refine r_irem (q := 70) (dc dt_MO_witness 43 rfl) rfl o8 o2 (by decide) (by decide) ?_
        obtain ⟨o9, h⟩ := h
        obtain ⟨ho, h⟩ := h
        have hJ : ∀ (w_0 : Int), w_0 = (if v1 % 3 ≠ 0 then (if v1 % 3 ≠ 1 then σ.1 143 ((v1 / 3).toNat) else σ.1 142 ((v1 / 3).toNat)) else σ.1 144 ((v1 / 3).toNat)) → A G m_MO_witness 104 [(2, I (v1 / 3)), (0, O 8), (1, I v1)] [I w_0] σ P := by
          intro w_0 z_0
          subst z_0
          obtain ⟨o16, h⟩ := h
          exact r_iret rfl (dc dt_MO_witness 64 rfl) o16 h
        clear h
        refine r_if_ne (q := 73) (t := 82) (dc dt_MO_witness 44 rfl) rfl (by decide) o9 (fun q_ => ?_) (fun q_ => ?_)
        · have q21 := q_
          have ho := ho.1 q_
          refine r_iload_n (q := 83) (dc dt_MO_witness 50 rfl) rfl rfl 2 rfl ?_
          refine r_iconst (q := 84) (dc dt_MO_witness 51 rfl) rfl rfl ?_
          refine r_irem (q := 85) (dc dt_MO_witness 52 rfl) rfl o8 o2 (by decide) (by decide) ?_
          refine r_iconst (q := 86) (dc dt_MO_witness 53 rfl) rfl rfl ?_
          refine r_icmp_ne (q := 89) (t := 98) (dc dt_MO_witness 54 rfl) rfl (by decide) o9 (⟨by decide, by decide⟩ : rng 1) (fun q_ => ?_) (fun q_ => ?_)
          · have q22 := q_
            have ho := ho.1 q_
            refine r_aload_n (q := 99) (dc dt_MO_witness 60 rfl) rfl rfl 1 rfl ?_
            refine r_getO (q := 102) (v := 143) fl_MO_174 (dc dt_MO_witness 61 rfl) rfl ly8 rfl ?_
            refine r_iload_n (q := 103) (dc dt_MO_witness 62 rfl) rfl rfl 0 rfl ?_
            have o10 := ho
            refine r_iald (q := 104) (v := σ.1 143 ((v1 / 3).toNat)) (dc dt_MO_witness 63 rfl) rfl ly143 o10 rfl (fun g11 => ?_)
            exact (hJ (σ.1 143 ((v1 / 3).toNat)) (((if_pos (by first | omega | grind)).trans (if_pos (by first | omega | grind))).symm))
          · have q22 := q_
            have ho := ho.2 q_
            refine r_aload_n (q := 90) (dc dt_MO_witness 55 rfl) rfl rfl 1 rfl ?_
            refine r_getO (q := 93) (v := 142) fl_MO_171 (dc dt_MO_witness 56 rfl) rfl ly8 rfl ?_
            refine r_iload_n (q := 94) (dc dt_MO_witness 57 rfl) rfl rfl 0 rfl ?_
            have o12 := ho
            refine r_iald (q := 95) (v := σ.1 142 ((v1 / 3).toNat)) (dc dt_MO_witness 58 rfl) rfl ly142 o12 rfl (fun g13 => ?_)
            refine r_goto (q := 104) (dc dt_MO_witness 59 rfl) (by decide) ?_
            exact (hJ (σ.1 142 ((v1 / 3).toNat)) (((if_pos (by first | omega | grind)).trans (if_neg (by first | omega | grind))).symm))
        · have q21 := q_
          have ho := ho.2 q_
          refine r_aload_n (q := 74) (dc dt_MO_witness 45 rfl) rfl rfl 1 rfl ?_
          refine r_getO (q := 77) (v := 144) fl_MO_177 (dc dt_MO_witness 46 rfl) rfl ly8 rfl ?_
          refine r_iload_n (q := 78) (dc dt_MO_witness 47 rfl) rfl rfl 0 rfl ?_
          have o14 := ho
          refine r_iald (q := 79) (v := σ.1 144 ((v1 / 3).toNat)) (dc dt_MO_witness 48 rfl) rfl ly144 o14 rfl (fun g15 => ?_)
          refine r_goto (q := 104) (dc dt_MO_witness 49 rfl) (by decide) ?_
          exact (hJ (σ.1 144 ((v1 / 3).toNat)) ((if_neg (by first | omega | grind)).symm))
      · have h := h.2 q_
        refine r_iload_n (q := 42) (dc dt_MO_witness 25 rfl) rfl rfl 1 rfl ?_
        refine r_iconst (q := 43) (dc dt_MO_witness 26 rfl) rfl rfl ?_
        refine r_aload_n (q := 44) (dc dt_MO_witness 27 rfl) rfl rfl 0 rfl ?_
        refine r_getI (q := 47) (v := σ.2.1 8 69) fl_MO_461 (dc dt_MO_witness 28 rfl) rfl ly8 rfl rfl (fun g17 => ?_)
        refine r_imul (q := 48) (dc dt_MO_witness 29 rfl) rfl ?_
        have hJ : ∀ (w_0 : Int), w_0 = (if v1 ≠ 3 * (σ.2.1 8 69) then σ.2.1 8 78 else σ.2.1 8 77) → A G m_MO_witness 62 [(0, O 8), (1, I v1)] [I w_0] σ P := by
          intro w_0 z_0
          subst z_0
          obtain ⟨o20, h⟩ := h
          exact r_iret rfl (dc dt_MO_witness 36 rfl) o20 h
        clear h
        refine r_icmp_ne (q := 51) (t := 58) (dc dt_MO_witness 30 rfl) rfl (by decide) o2 o7 (fun q_ => ?_) (fun q_ => ?_)
        · have q23 := q_
          refine r_aload_n (q := 59) (dc dt_MO_witness 34 rfl) rfl rfl 0 rfl ?_
          refine r_getI (q := 62) (v := σ.2.1 8 78) fl_MO_467 (dc dt_MO_witness 35 rfl) rfl ly8 rfl rfl (fun g18 => ?_)
          exact (hJ (σ.2.1 8 78) ((if_pos (by first | omega | grind)).symm))
        · have q23 := q_
          refine r_aload_n (q := 52) (dc dt_MO_witness 31 rfl) rfl rfl 0 rfl ?_
          refine r_getI (q := 55) (v := σ.2.1 8 77) fl_MO_464 (dc dt_MO_witness 32 rfl) rfl ly8 rfl rfl (fun g19 => ?_)
          refine r_goto (q := 62) (dc dt_MO_witness 33 rfl) (by decide) ?_
          exact (hJ (σ.2.1 8 77) ((if_neg (by first | omega | grind)).symm))
    · have h := h.2 q_
      refine r_bipush (q := 30) (dc dt_MO_witness 17 rfl) rfl (by decide) ?_
      exact r_iret rfl (dc dt_MO_witness 18 rfl) (⟨by decide, by decide⟩ : rng (-6)) h
  · have h := h.2 q_
    refine r_bipush (q := 9) (dc dt_MO_witness 3 rfl) rfl (by decide) ?_
    exact r_iret rfl (dc dt_MO_witness 4 rfl) (⟨by decide, by decide⟩ : rng (-3)) h
set_option maxRecDepth 20000 in
theorem sp0_MO_witness {G : GT} {σ : St} {v1 : Int}  (j0 : (σ.2.1 8 68 ≠ 0 → rng v1 ∧ rng ((3 * (σ.2.1 8 69)) + 1) ∧ (0 ≤ v1 ∧ v1 ≤ ((3 * (σ.2.1 8 69)) + 1) → rng (3 * (σ.2.1 8 69)) ∧ (v1 < 3 * (σ.2.1 8 69) → 0 ≤ v1 ∧ rng (v1 % 3) ∧ ((v1 % 3 ≠ 0 → (v1 % 3 ≠ 1 → 0 ≤ v1 / 3 ∧ v1 / 3 < 80) ∧ (v1 % 3 = 1 → 0 ≤ v1 / 3 ∧ v1 / 3 < 80)) ∧ (v1 % 3 = 0 → 0 ≤ v1 / 3 ∧ v1 / 3 < 80)) ∧ rng (if v1 % 3 ≠ 0 then (if v1 % 3 ≠ 1 then σ.1 143 ((v1 / 3).toNat) else σ.1 142 ((v1 / 3).toNat)) else σ.1 144 ((v1 / 3).toNat))) ∧ (3 * (σ.2.1 8 69) ≤ v1 → rng (if v1 ≠ 3 * (σ.2.1 8 69) then σ.2.1 8 78 else σ.2.1 8 77))))) : CJ G m_MO_witness [O 8, I v1] σ (fun r u => r = (if σ.2.1 8 68 ≠ 0 then (if 0 ≤ v1 ∧ v1 ≤ ((3 * (σ.2.1 8 69)) + 1) then (if v1 < 3 * (σ.2.1 8 69) then (if v1 % 3 ≠ 0 then (if v1 % 3 ≠ 1 then σ.1 143 ((v1 / 3).toNat) else σ.1 142 ((v1 / 3).toNat)) else σ.1 144 ((v1 / 3).toNat)) else if v1 ≠ 3 * (σ.2.1 8 69) then σ.2.1 8 78 else σ.2.1 8 77) else (-6 : Int)) else (-3 : Int)) ∧ u = σ) := by
  refine CJ.intro (by decide) (by simp [catA]; decide) (fun _ => k_MO_witness_0  ?_)
  refine ⟨fun q_ => ?_, fun q_ => ?_⟩
  ·
    refine ⟨by first | assumption | omega | grind, ?_⟩
    refine ⟨by first | assumption | omega | grind, ?_⟩
    refine ⟨fun q_ => ?_, fun q_ => ?_⟩
    ·
      refine ⟨by first | assumption | omega | grind, ?_⟩
      refine ⟨fun q_ => ?_, fun q_ => ?_⟩
      ·
        refine ⟨by first | assumption | omega | grind, ?_⟩
        refine ⟨by first | assumption | omega | grind, ?_⟩
        refine ⟨by first | assumption | omega | grind, ?_⟩
        refine ⟨by first | assumption | omega | grind, ?_⟩
        exact ⟨by first | rfl | grind, rfl⟩
      ·
        refine ⟨by first | assumption | omega | grind, ?_⟩
        exact ⟨by first | rfl | grind, rfl⟩
    ·
      exact ⟨by first | rfl | grind, rfl⟩
  ·
    exact ⟨by first | rfl | grind, rfl⟩
def p_MO_witness (σ : St) (v1 : Int) : Prop := (σ.2.1 8 68 ≠ 0 → rng v1 ∧ rng ((3 * (σ.2.1 8 69)) + 1) ∧ (0 ≤ v1 ∧ v1 ≤ ((3 * (σ.2.1 8 69)) + 1) → rng (3 * (σ.2.1 8 69)) ∧ (v1 < 3 * (σ.2.1 8 69) → 0 ≤ v1 ∧ rng (v1 % 3) ∧ ((v1 % 3 ≠ 0 → (v1 % 3 ≠ 1 → 0 ≤ v1 / 3 ∧ v1 / 3 < 80) ∧ (v1 % 3 = 1 → 0 ≤ v1 / 3 ∧ v1 / 3 < 80)) ∧ (v1 % 3 = 0 → 0 ≤ v1 / 3 ∧ v1 / 3 < 80)) ∧ rng (if v1 % 3 ≠ 0 then (if v1 % 3 ≠ 1 then σ.1 143 ((v1 / 3).toNat) else σ.1 142 ((v1 / 3).toNat)) else σ.1 144 ((v1 / 3).toNat))) ∧ (3 * (σ.2.1 8 69) ≤ v1 → rng (if v1 ≠ 3 * (σ.2.1 8 69) then σ.2.1 8 78 else σ.2.1 8 77))))
def f_MO_witness (σ : St) (v1 : Int) : Int := if σ.2.1 8 68 ≠ 0 then (if 0 ≤ v1 ∧ v1 ≤ ((3 * (σ.2.1 8 69)) + 1) then (if v1 < 3 * (σ.2.1 8 69) then (if v1 % 3 ≠ 0 then (if v1 % 3 ≠ 1 then σ.1 143 ((v1 / 3).toNat) else σ.1 142 ((v1 / 3).toNat)) else σ.1 144 ((v1 / 3).toNat)) else if v1 ≠ 3 * (σ.2.1 8 69) then σ.2.1 8 78 else σ.2.1 8 77) else (-6 : Int)) else (-3 : Int)
theorem sp_MO_witness {G : GT} {σ : St} {v1 : Int}  (j : p_MO_witness σ v1) : CJ G m_MO_witness [O 8, I v1] σ (fun r u => r = (f_MO_witness σ v1) ∧ u = σ) := sp0_MO_witness  j
def tb_MO_claim : List (Nat × Instr × Nat) := [(0, .aload_n 0, 1), (1, .getfield 519, 3), (4, .sipush 260, 3), (7, .if_icmp .ne 6, 3), (10, .bipush (-4), 2), (12, .ireturn, 1), (13, .aload_n 0, 1), (14, .getfield 204, 3), (17, .aload_n 0, 1), (18, .getfield 519, 3), (21, .iload_n 1, 1), (22, .iastore, 1), (23, .aload_n 0, 1), (24, .dup, 1), (25, .getfield 519, 3), (28, .iconst 1, 1), (29, .iadd, 1), (30, .putfield 519, 3), (33, .aload_n 0, 1), (34, .getfield 519, 3), (37, .ireturn, 1)]
theorem dt_MO_claim : DT (cM m_MO_claim) tb_MO_claim := by unfold DT; decide +kernel
abbrev a_MO_claim_0 (G : GT)  (v1 : Int) (σ : St) (P : Int → St → Prop) : Prop := A G m_MO_claim 0 [(0, O 8), (1, I v1)] [] σ P
set_option maxRecDepth 20000 in
theorem k_MO_claim_0 {G : GT} {σ : St} {P : Int → St → Prop}  {v1 : Int}  
    (h : (σ.2.1 8 96 ≠ 260 → (0 ≤ σ.2.1 8 96 ∧ σ.2.1 8 96 < 260) ∧ rng v1 ∧ (∀ σ5, σ5 = sa σ 153 ((σ.2.1 8 96).toNat) v1 → rng ((σ.2.1 8 96) + 1) ∧ (∀ σ8, σ8 = sf σ5 8 96 ((σ.2.1 8 96) + 1) → P ((σ.2.1 8 96) + 1) σ8))) ∧ (σ.2.1 8 96 = 260 → P (-4) σ)) :
    a_MO_claim_0 G v1 σ P := by
  refine r_aload_n (q := 1) (dc dt_MO_claim 0 rfl) rfl rfl 0 rfl ?_
  refine r_getI (q := 4) (v := σ.2.1 8 96) fl_MO_519 (dc dt_MO_claim 1 rfl) rfl ly8 rfl rfl (fun g1 => ?_)
  refine r_sipush (q := 7) (dc dt_MO_claim 2 rfl) rfl (by decide) ?_
  refine r_icmp_ne (q := 10) (t := 13) (dc dt_MO_claim 3 rfl) rfl (by decide) g1 (⟨by decide, by decide⟩ : rng 260) (fun q_ => ?_) (fun q_ => ?_)
  · have h := h.1 q_
    refine r_aload_n (q := 14) (dc dt_MO_claim 6 rfl) rfl rfl 0 rfl ?_
    refine r_getO (q := 17) (v := 153) fl_MO_204 (dc dt_MO_claim 7 rfl) rfl ly8 rfl ?_
    refine r_aload_n (q := 18) (dc dt_MO_claim 8 rfl) rfl rfl 0 rfl ?_
    refine r_getI (q := 21) (v := σ.2.1 8 96) fl_MO_519 (dc dt_MO_claim 9 rfl) rfl ly8 rfl rfl (fun g2 => ?_)
    refine r_iload_n (q := 22) (dc dt_MO_claim 10 rfl) rfl rfl 1 rfl ?_
    obtain ⟨o3, h⟩ := h
    obtain ⟨o4, h⟩ := h
    refine r_iast (q := 23) (dc dt_MO_claim 11 rfl) rfl ly153 o3 o4 (fun σ5 e6 => ?_)
    have h := h σ5 e6
    refine r_aload_n (q := 24) (dc dt_MO_claim 12 rfl) rfl rfl 0 rfl ?_
    refine r_dupo (q := 25) (dc dt_MO_claim 13 rfl) rfl ?_
    refine r_getI (q := 28) (v := σ.2.1 8 96) fl_MO_519 (dc dt_MO_claim 14 rfl) rfl ly8 rfl (by rw [e6]; rfl) (fun g7 => ?_)
    refine r_iconst (q := 29) (dc dt_MO_claim 15 rfl) rfl rfl ?_
    refine r_iadd (q := 30) (dc dt_MO_claim 16 rfl) rfl ?_
    obtain ⟨o10, h⟩ := h
    refine r_put (q := 33) fl_MO_519 (dc dt_MO_claim 17 rfl) rfl ly8 (fun _ => rfl) (Or.inl rfl) pf_8_96 o10 (fun σ8 e9 => ?_)
    have h := h σ8 e9
    refine r_aload_n (q := 34) (dc dt_MO_claim 18 rfl) rfl rfl 0 rfl ?_
    refine r_getI (q := 37) (v := (σ.2.1 8 96) + 1) fl_MO_519 (dc dt_MO_claim 19 rfl) rfl ly8 rfl (by rw [e9]; first | rfl | exact up2_at) (fun _ => ?_)
    exact r_iret rfl (dc dt_MO_claim 20 rfl) o10 h
  · have h := h.2 q_
    refine r_bipush (q := 12) (dc dt_MO_claim 4 rfl) rfl (by decide) ?_
    exact r_iret rfl (dc dt_MO_claim 5 rfl) (⟨by decide, by decide⟩ : rng (-4)) h
def tb_MO_drop : List (Nat × Instr × Nat) := [(0, .aload_n 0, 1), (1, .getfield 519, 3), (4, .istore_n 1, 1), (5, .aload_n 0, 1), (6, .iconst 0, 1), (7, .putfield 519, 3), (10, .iload_n 1, 1), (11, .ireturn, 1)]
theorem dt_MO_drop : DT (cM m_MO_drop) tb_MO_drop := by unfold DT; decide +kernel
abbrev a_MO_drop_0 (G : GT)   (σ : St) (P : Int → St → Prop) : Prop := A G m_MO_drop 0 [(0, O 8)] [] σ P
set_option maxRecDepth 20000 in
theorem k_MO_drop_0 {G : GT} {σ : St} {P : Int → St → Prop}    
    (h : (∀ σ2, σ2 = sf σ 8 96 0 → P (σ.2.1 8 96) σ2)) :
    a_MO_drop_0 G  σ P := by
  refine r_aload_n (q := 1) (dc dt_MO_drop 0 rfl) rfl rfl 0 rfl ?_
  refine r_getI (q := 4) (v := σ.2.1 8 96) fl_MO_519 (dc dt_MO_drop 1 rfl) rfl ly8 rfl rfl (fun g1 => ?_)
  refine r_istore_n (q := 5) (dc dt_MO_drop 2 rfl) rfl rfl (by decide) rfl ?_
  refine r_aload_n (q := 6) (dc dt_MO_drop 3 rfl) rfl rfl 1 rfl ?_
  refine r_iconst (q := 7) (dc dt_MO_drop 4 rfl) rfl rfl ?_
  refine r_put (q := 10) fl_MO_519 (dc dt_MO_drop 5 rfl) rfl ly8 (fun _ => rfl) (Or.inl rfl) pf_8_96 (⟨by decide, by decide⟩ : rng 0) (fun σ2 e3 => ?_)
  have h := h σ2 e3
  refine r_iload_n (q := 11) (dc dt_MO_drop 6 rfl) rfl rfl 0 rfl ?_
  exact r_iret rfl (dc dt_MO_drop 7 rfl) g1 h
def tb_MO_claimedAs : List (Nat × Instr × Nat) := [(0, .iload_n 3, 1), (1, .aload_n 0, 1), (2, .getfield 104, 3), (5, .iload_n 1, 1), (6, .iaload, 1), (7, .if_icmp .ne 10, 3), (10, .aload_n 0, 1), (11, .getfield 98, 3), (14, .iload_n 1, 1), (15, .iaload, 1), (16, .ireturn, 1), (17, .iconst (-1), 1), (18, .istore 4, 2), (20, .iconst 0, 1), (21, .istore 5, 2), (23, .iload 5, 2), (25, .aload_n 0, 1), (26, .getfield 249, 3), (29, .if_icmp .ge 51, 3), (32, .aload_n 0, 1), (33, .getfield 7, 3), (36, .iload 5, 2), (38, .iaload, 1), (39, .bipush 7, 2), (41, .if_icmp .ne 29, 3), (44, .aload_n 0, 1), (45, .iload 5, 2), (47, .invokevirtual 357, 3), (50, .iload_n 3, 1), (51, .if_icmp .ne 19, 3), (54, .aload_n 0, 1), (55, .iload 5, 2), (57, .iload_n 1, 1), (58, .iload_n 2, 1), (59, .invokevirtual 381, 3), (62, .ifCond .eq 8, 3), (65, .iload 5, 2), (67, .goto 5, 3), (70, .iload 4, 2), (72, .istore 4, 2), (74, .iinc 5 1, 3), (77, .goto (-54), 3), (80, .iload 4, 2), (82, .ireturn, 1)]
theorem dt_MO_claimedAs : DT (cM m_MO_claimedAs) tb_MO_claimedAs := by unfold DT; decide +kernel
abbrev a_MO_claimedAs_0 (G : GT)  (v1 : Int) (v2 : Int) (v3 : Int) (σ : St) (P : Int → St → Prop) : Prop := A G m_MO_claimedAs 0 [(0, O 8), (1, I v1), (2, I v2), (3, I v3)] [] σ P
abbrev a_MO_claimedAs_23 (G : GT)  (v1 : Int) (v2 : Int) (v3 : Int) (v4 : Int) (v5 : Int) (σ : St) (P : Int → St → Prop) : Prop := A G m_MO_claimedAs 23 [(0, O 8), (1, I v1), (2, I v2), (3, I v3), (4, I v4), (5, I v5)] [] σ P
set_option maxRecDepth 20000 in
theorem k_MO_claimedAs_0 {G : GT} {σ : St} {P : Int → St → Prop}  {v1 : Int} {v2 : Int} {v3 : Int}  
    (h : (0 ≤ v1 ∧ v1 < 80) ∧ rng v3 ∧ (v3 ≠ σ.1 120 v1.toNat → a_MO_claimedAs_23 G v1 v2 v3 (-1) 0 σ P) ∧ (v3 = σ.1 120 v1.toNat → P (σ.1 118 v1.toNat) σ)) :
    a_MO_claimedAs_0 G v1 v2 v3 σ P := by
  refine r_iload_n (q := 1) (dc dt_MO_claimedAs 0 rfl) rfl rfl 3 rfl ?_
  refine r_aload_n (q := 2) (dc dt_MO_claimedAs 1 rfl) rfl rfl 0 rfl ?_
  refine r_getO (q := 5) (v := 120) fl_MO_104 (dc dt_MO_claimedAs 2 rfl) rfl ly8 rfl ?_
  refine r_iload_n (q := 6) (dc dt_MO_claimedAs 3 rfl) rfl rfl 1 rfl ?_
  obtain ⟨o1, h⟩ := h
  refine r_iald (q := 7) (v := σ.1 120 v1.toNat) (dc dt_MO_claimedAs 4 rfl) rfl ly120 o1 rfl (fun g2 => ?_)
  obtain ⟨o3, h⟩ := h
  refine r_icmp_ne (q := 10) (t := 17) (dc dt_MO_claimedAs 5 rfl) rfl (by decide) o3 g2 (fun q_ => ?_) (fun q_ => ?_)
  · have h := h.1 q_
    refine r_iconst (q := 18) (dc dt_MO_claimedAs 11 rfl) rfl rfl ?_
    refine r_istore (q := 20) (dc dt_MO_claimedAs 12 rfl) rfl (by decide) rfl ?_
    refine r_iconst (q := 21) (dc dt_MO_claimedAs 13 rfl) rfl rfl ?_
    refine r_istore (q := 23) (dc dt_MO_claimedAs 14 rfl) rfl (by decide) rfl ?_
    exact r_loc [2, 3, 4, 5, 1, 0] rfl h
  · have h := h.2 q_
    refine r_aload_n (q := 11) (dc dt_MO_claimedAs 6 rfl) rfl rfl 0 rfl ?_
    refine r_getO (q := 14) (v := 118) fl_MO_98 (dc dt_MO_claimedAs 7 rfl) rfl ly8 rfl ?_
    refine r_iload_n (q := 15) (dc dt_MO_claimedAs 8 rfl) rfl rfl 1 rfl ?_
    refine r_iald (q := 16) (v := σ.1 118 v1.toNat) (dc dt_MO_claimedAs 9 rfl) rfl ly118 o1 rfl (fun g4 => ?_)
    exact r_iret rfl (dc dt_MO_claimedAs 10 rfl) g4 h
set_option maxRecDepth 20000 in
theorem k_MO_claimedAs_23 {G : GT} {σ : St} {P : Int → St → Prop}  {v1 : Int} {v2 : Int} {v3 : Int} {v4 : Int} {v5 : Int}  
    (h : rng v5 ∧ (σ.2.1 8 6 ≤ v5 → rng v4 ∧ P v4 σ) ∧ (v5 < σ.2.1 8 6 → (0 ≤ v5 ∧ v5 < 60) ∧ (σ.1 89 v5.toNat ≠ 7 → a_MO_claimedAs_23 G v1 v2 v3 v4 (v5 + 1) σ P) ∧ (σ.1 89 v5.toNat = 7 → rng (if 0 ≤ σ.1 92 v5.toNat then (3 : Int) else (2 : Int)) ∧ rng v3 ∧ ((if 0 ≤ σ.1 92 v5.toNat then (3 : Int) else (2 : Int)) ≠ v3 → a_MO_claimedAs_23 G v1 v2 v3 v4 (v5 + 1) σ P) ∧ ((if 0 ≤ σ.1 92 v5.toNat then (3 : Int) else (2 : Int)) = v3 → CJ G m_MO_mayBe [O 8, I v5, I v1, I v2] σ (fun r22 u21 => a_MO_claimedAs_23 G v1 v2 v3 (if r22 = 0 then v4 else v5) (v5 + 1) u21 P))))) :
    a_MO_claimedAs_23 G v1 v2 v3 v4 v5 σ P := by
  refine r_iload (q := 25) (dc dt_MO_claimedAs 15 rfl) rfl 5 rfl ?_
  refine r_aload_n (q := 26) (dc dt_MO_claimedAs 16 rfl) rfl rfl 0 rfl ?_
  refine r_getI (q := 29) (v := σ.2.1 8 6) fl_MO_249 (dc dt_MO_claimedAs 17 rfl) rfl ly8 rfl rfl (fun g5 => ?_)
  obtain ⟨o6, h⟩ := h
  refine r_icmp_ge (q := 32) (t := 80) (dc dt_MO_claimedAs 18 rfl) rfl (by decide) o6 g5 (fun q_ => ?_) (fun q_ => ?_)
  · have h := h.1 q_
    refine r_iload (q := 82) (dc dt_MO_claimedAs 42 rfl) rfl 4 rfl ?_
    obtain ⟨o12, h⟩ := h
    exact r_iret rfl (dc dt_MO_claimedAs 43 rfl) o12 h
  · have h := h.2 q_
    refine r_aload_n (q := 33) (dc dt_MO_claimedAs 19 rfl) rfl rfl 0 rfl ?_
    refine r_getO (q := 36) (v := 89) fl_MO_7 (dc dt_MO_claimedAs 20 rfl) rfl ly8 rfl ?_
    refine r_iload (q := 38) (dc dt_MO_claimedAs 21 rfl) rfl 5 rfl ?_
    obtain ⟨o13, h⟩ := h
    refine r_iald (q := 39) (v := σ.1 89 v5.toNat) (dc dt_MO_claimedAs 22 rfl) rfl ly89 o13 rfl (fun g14 => ?_)
    refine r_bipush (q := 41) (dc dt_MO_claimedAs 23 rfl) rfl (by decide) ?_
    refine r_icmp_ne (q := 44) (t := 70) (dc dt_MO_claimedAs 24 rfl) rfl (by decide) g14 (⟨by decide, by decide⟩ : rng 7) (fun q_ => ?_) (fun q_ => ?_)
    · have h := h.1 q_
      refine r_iload (q := 72) (dc dt_MO_claimedAs 38 rfl) rfl 4 rfl ?_
      refine r_istore (q := 74) (dc dt_MO_claimedAs 39 rfl) rfl (by decide) rfl ?_
      refine r_iinc (q := 77) (k := 5) (dc dt_MO_claimedAs 40 rfl) rfl rfl (by decide) rfl ?_
      refine r_goto (q := 23) (dc dt_MO_claimedAs 41 rfl) (by decide) ?_
      exact r_loc [2, 3, 4, 5, 1, 0] rfl h
    · have h := h.2 q_
      refine r_aload_n (q := 45) (dc dt_MO_claimedAs 25 rfl) rfl rfl 0 rfl ?_
      refine r_iload (q := 47) (dc dt_MO_claimedAs 26 rfl) rfl 5 rfl ?_
      obtain ⟨o18, h⟩ := h
      refine r_callVi (q := 50) mk_MO_howManyOf lm_MO_357 (RMO.of rfl) rfl (dc dt_MO_claimedAs 27 rfl) rfl ly8 [I v5] [] rfl rfl (Nat.le_of_ble_eq_true rfl) (sp_MO_howManyOf o13 o18) (fun _ _ g19 z => ?_)
      obtain ⟨z, w⟩ := z
      subst z
      replace w := w.symm
      subst w
      refine r_iload_n (q := 51) (dc dt_MO_claimedAs 28 rfl) rfl rfl 3 rfl ?_
      obtain ⟨o20, h⟩ := h
      refine r_icmp_ne (q := 54) (t := 70) (dc dt_MO_claimedAs 29 rfl) rfl (by decide) g19 o20 (fun q_ => ?_) (fun q_ => ?_)
      · have h := h.1 q_
        refine r_iload (q := 72) (dc dt_MO_claimedAs 38 rfl) rfl 4 rfl ?_
        refine r_istore (q := 74) (dc dt_MO_claimedAs 39 rfl) rfl (by decide) rfl ?_
        refine r_iinc (q := 77) (k := 5) (dc dt_MO_claimedAs 40 rfl) rfl rfl (by decide) rfl ?_
        refine r_goto (q := 23) (dc dt_MO_claimedAs 41 rfl) (by decide) ?_
        exact r_loc [2, 3, 4, 5, 1, 0] rfl h
      · have h := h.2 q_
        refine r_aload_n (q := 55) (dc dt_MO_claimedAs 30 rfl) rfl rfl 0 rfl ?_
        refine r_iload (q := 57) (dc dt_MO_claimedAs 31 rfl) rfl 5 rfl ?_
        refine r_iload_n (q := 58) (dc dt_MO_claimedAs 32 rfl) rfl rfl 1 rfl ?_
        refine r_iload_n (q := 59) (dc dt_MO_claimedAs 33 rfl) rfl rfl 2 rfl ?_
        refine r_callVi (q := 62) mk_MO_mayBe lm_MO_381 (RMO.of rfl) rfl (dc dt_MO_claimedAs 34 rfl) rfl ly8 [I v5, I v1, I v2] [] rfl rfl (Nat.le_of_ble_eq_true rfl) h (fun r22 u21 g23 h => ?_)
        have hJ : ∀ (w_0 : Int), w_0 = (if r22 = 0 then v4 else v5) → A G m_MO_claimedAs 72 [(0, O 8), (1, I v1), (2, I v2), (3, I v3), (4, I v4), (5, I v5)] [I w_0] u21 P := by
          intro w_0 z_0
          subst z_0
          refine r_istore (q := 74) (dc dt_MO_claimedAs 39 rfl) rfl (by decide) rfl ?_
          refine r_iinc (q := 77) (k := 5) (dc dt_MO_claimedAs 40 rfl) rfl rfl (by decide) rfl ?_
          refine r_goto (q := 23) (dc dt_MO_claimedAs 41 rfl) (by decide) ?_
          exact r_loc [2, 3, 4, 5, 1, 0] rfl h
        clear h
        refine r_if_eq (q := 65) (t := 70) (dc dt_MO_claimedAs 35 rfl) rfl (by decide) g23 (fun q_ => ?_) (fun q_ => ?_)
        · have q24 := q_
          refine r_iload (q := 72) (dc dt_MO_claimedAs 38 rfl) rfl 4 rfl ?_
          exact (hJ v4 ((if_pos (by first | omega | grind)).symm))
        · have q24 := q_
          refine r_iload (q := 67) (dc dt_MO_claimedAs 36 rfl) rfl 5 rfl ?_
          refine r_goto (q := 72) (dc dt_MO_claimedAs 37 rfl) (by decide) ?_
          exact (hJ v5 ((if_neg (by first | omega | grind)).symm))
def tb_MO_isOf : List (Nat × Instr × Nat) := [(0, .aload_n 0, 1), (1, .iload_n 1, 1), (2, .invokevirtual 310, 3), (5, .ifCond .eq 27, 3), (8, .aload_n 0, 1), (9, .getfield 29, 3), (12, .iload_n 1, 1), (13, .iaload, 1), (14, .iload_n 2, 1), (15, .if_icmp .ne 17, 3), (18, .aload_n 0, 1), (19, .getfield 32, 3), (22, .iload_n 1, 1), (23, .iaload, 1), (24, .iload_n 3, 1), (25, .if_icmp .ne 7, 3), (28, .iconst 1, 1), (29, .goto 4, 3), (32, .iconst 0, 1), (33, .ireturn, 1)]
theorem dt_MO_isOf : DT (cM m_MO_isOf) tb_MO_isOf := by unfold DT; decide +kernel
abbrev a_MO_isOf_0 (G : GT)  (v1 : Int) (v2 : Int) (v3 : Int) (σ : St) (P : Int → St → Prop) : Prop := A G m_MO_isOf 0 [(0, O 8), (1, I v1), (2, I v2), (3, I v3)] [] σ P
set_option maxRecDepth 20000 in
theorem k_MO_isOf_0 {G : GT} {σ : St} {P : Int → St → Prop}  {v1 : Int} {v2 : Int} {v3 : Int}  
    (h : rng v1 ∧ rng ((σ.2.1 8 17) - 1) ∧ ((0 ≤ v1 ∧ v1 ≤ ((σ.2.1 8 17) - 1) → (0 ≤ v1 ∧ v1 < 200) ∧ rng v2 ∧ (σ.1 95 v1.toNat = v2 → rng v3))) ∧ P (if (0 ≤ v1 ∧ v1 ≤ ((σ.2.1 8 17) - 1)) ∧ (σ.1 95 v1.toNat = v2 ∧ σ.1 96 v1.toNat = v3) then 1 else 0) σ) :
    a_MO_isOf_0 G v1 v2 v3 σ P := by
  refine r_aload_n (q := 1) (dc dt_MO_isOf 0 rfl) rfl rfl 0 rfl ?_
  refine r_iload_n (q := 2) (dc dt_MO_isOf 1 rfl) rfl rfl 1 rfl ?_
  obtain ⟨o1, h⟩ := h
  obtain ⟨o2, h⟩ := h
  refine r_callVi (q := 5) mk_MO_isForm lm_MO_310 (RMO.of rfl) rfl (dc dt_MO_isOf 2 rfl) rfl ly8 [I v1] [] rfl rfl (Nat.le_of_ble_eq_true rfl) (sp_MO_isForm o1 o2) (fun _ _ g3 z => ?_)
  obtain ⟨z, w⟩ := z
  subst z
  replace w := w.symm
  subst w
  obtain ⟨ho, h⟩ := h
  have hJ : ∀ (w_0 : Int), w_0 = (if (0 ≤ v1 ∧ v1 ≤ ((σ.2.1 8 17) - 1)) ∧ (σ.1 95 v1.toNat = v2 ∧ σ.1 96 v1.toNat = v3) then 1 else 0) → A G m_MO_isOf 33 [(0, O 8), (1, I v1), (2, I v2), (3, I v3)] [I w_0] σ P := by
    intro w_0 z_0
    subst z_0
    exact r_zret rfl (dc dt_MO_isOf 19 rfl) b01_or h
  clear h
  refine r_ifb_eq (q := 8) (t := 32) (dc dt_MO_isOf 3 rfl) rfl (by decide) (fun q_ => ?_) (fun q_ => ?_)
  · have q9 := q_
    refine r_iconst (q := 33) (dc dt_MO_isOf 18 rfl) rfl rfl ?_
    exact (hJ 0 ((if_neg (by first | omega | grind)).symm))
  · have q9 := q_
    have ho := ho q_
    refine r_aload_n (q := 9) (dc dt_MO_isOf 4 rfl) rfl rfl 0 rfl ?_
    refine r_getO (q := 12) (v := 95) fl_MO_29 (dc dt_MO_isOf 5 rfl) rfl ly8 rfl ?_
    refine r_iload_n (q := 13) (dc dt_MO_isOf 6 rfl) rfl rfl 1 rfl ?_
    obtain ⟨o4, ho⟩ := ho
    refine r_iald (q := 14) (v := σ.1 95 v1.toNat) (dc dt_MO_isOf 7 rfl) rfl ly95 o4 rfl (fun g5 => ?_)
    refine r_iload_n (q := 15) (dc dt_MO_isOf 8 rfl) rfl rfl 2 rfl ?_
    obtain ⟨o6, ho⟩ := ho
    refine r_icmp_ne (q := 18) (t := 32) (dc dt_MO_isOf 9 rfl) rfl (by decide) g5 o6 (fun q_ => ?_) (fun q_ => ?_)
    · have q10 := q_
      refine r_iconst (q := 33) (dc dt_MO_isOf 18 rfl) rfl rfl ?_
      exact (hJ 0 ((if_neg (by first | omega | grind)).symm))
    · have q10 := q_
      have ho := ho q_
      refine r_aload_n (q := 19) (dc dt_MO_isOf 10 rfl) rfl rfl 0 rfl ?_
      refine r_getO (q := 22) (v := 96) fl_MO_32 (dc dt_MO_isOf 11 rfl) rfl ly8 rfl ?_
      refine r_iload_n (q := 23) (dc dt_MO_isOf 12 rfl) rfl rfl 1 rfl ?_
      refine r_iald (q := 24) (v := σ.1 96 v1.toNat) (dc dt_MO_isOf 13 rfl) rfl ly96 o4 rfl (fun g7 => ?_)
      refine r_iload_n (q := 25) (dc dt_MO_isOf 14 rfl) rfl rfl 3 rfl ?_
      have o8 := ho
      refine r_icmp_ne (q := 28) (t := 32) (dc dt_MO_isOf 15 rfl) rfl (by decide) g7 o8 (fun q_ => ?_) (fun q_ => ?_)
      · have q11 := q_
        refine r_iconst (q := 33) (dc dt_MO_isOf 18 rfl) rfl rfl ?_
        exact (hJ 0 ((if_neg (by first | omega | grind)).symm))
      · have q11 := q_
        refine r_iconst (q := 29) (dc dt_MO_isOf 16 rfl) rfl rfl ?_
        refine r_goto (q := 33) (dc dt_MO_isOf 17 rfl) (by decide) ?_
        exact (hJ 1 ((if_pos (by first | omega | grind)).symm))
set_option maxRecDepth 20000 in
theorem sp0_MO_isOf {G : GT} {σ : St} {v1 : Int} {v2 : Int} {v3 : Int}  (j0 : rng v1) (j1 : rng ((σ.2.1 8 17) - 1)) (j2 : (0 ≤ v1 ∧ v1 ≤ ((σ.2.1 8 17) - 1) → (0 ≤ v1 ∧ v1 < 200) ∧ rng v2 ∧ (σ.1 95 v1.toNat = v2 → rng v3))) : CJ G m_MO_isOf [O 8, I v1, I v2, I v3] σ (fun r u => r = (if (0 ≤ v1 ∧ v1 ≤ ((σ.2.1 8 17) - 1)) ∧ (σ.1 95 v1.toNat = v2 ∧ σ.1 96 v1.toNat = v3) then 1 else 0) ∧ u = σ) := by
  refine CJ.intro (by decide) (by simp [catA]; decide) (fun _ => k_MO_isOf_0  ?_)
  refine ⟨by first | assumption | omega | grind, ?_⟩
  refine ⟨by first | assumption | omega | grind, ?_⟩
  refine ⟨by first | assumption | omega | grind, ?_⟩
  exact ⟨rfl, rfl⟩
def p_MO_isOf (σ : St) (v1 : Int) (v2 : Int) (v3 : Int) : Prop := rng v1 ∧ rng ((σ.2.1 8 17) - 1) ∧ (0 ≤ v1 ∧ v1 ≤ ((σ.2.1 8 17) - 1) → (0 ≤ v1 ∧ v1 < 200) ∧ rng v2 ∧ (σ.1 95 v1.toNat = v2 → rng v3))
abbrev b_MO_isOf (σ : St) (v1 : Int) (v2 : Int) (v3 : Int) : Prop := (0 ≤ v1 ∧ v1 ≤ ((σ.2.1 8 17) - 1)) ∧ (σ.1 95 v1.toNat = v2 ∧ σ.1 96 v1.toNat = v3)
theorem sp_MO_isOf {G : GT} {σ : St} {v1 : Int} {v2 : Int} {v3 : Int}  (j : p_MO_isOf σ v1 v2 v3) : CJ G m_MO_isOf [O 8, I v1, I v2, I v3] σ (fun r u => r = (if b_MO_isOf σ v1 v2 v3 then 1 else 0) ∧ u = σ) := sp0_MO_isOf  j.1 j.2.1 j.2.2
def tb_MO_setClaimed : List (Nat × Instr × Nat) := [(0, .aload_n 0, 1), (1, .iload_n 1, 1), (2, .iload_n 2, 1), (3, .invokevirtual 430, 3), (6, .aload_n 0, 1), (7, .getfield 83, 3), (10, .iload_n 2, 1), (11, .iaload, 1), (12, .istore_n 3, 1), (13, .iconst 0, 1), (14, .istore 4, 2), (16, .aload_n 0, 1), (17, .getfield 80, 3), (20, .iload_n 1, 1), (21, .iaload, 1), (22, .istore 5, 2), (24, .iconst 0, 1), (25, .istore 6, 2), (27, .iload 5, 2), (29, .iload_n 3, 1), (30, .if_icmp .ge 235, 3), (33, .iload 4, 2), (35, .aload_n 0, 1), (36, .getfield 519, 3), (39, .if_icmp .ge 20, 3), (42, .aload_n 0, 1), (43, .iload 5, 2), (45, .iload_n 3, 1), (46, .aload_n 0, 1), (47, .getfield 204, 3), (50, .iload 4, 2), (52, .iaload, 1), (53, .invokevirtual 522, 3), (56, .goto 4, 3), (59, .iconst (-1), 1), (60, .istore 7, 2), (62, .iload 7, 2), (64, .ifCond .ge 9, 3), (67, .iload 4, 2), (69, .ineg, 1), (70, .iconst 1, 1), (71, .isub, 1), (72, .ireturn, 1), (73, .iload 7, 2), (75, .aload_n 0, 1), (76, .getfield 98, 3), (79, .iload 5, 2), (81, .iaload, 1), (82, .if_icmp .ne 10, 3), (85, .iload 5, 2), (87, .iconst 1, 1), (88, .iadd, 1), (89, .goto 12, 3), (92, .iload 5, 2), (94, .aload_n 0, 1), (95, .iload 7, 2), (97, .invokevirtual 357, 3), (100, .iadd, 1), (101, .istore 8, 2), (103, .iinc 4 1, 3), (106, .iload 4, 2), (108, .aload_n 0, 1), (109, .getfield 519, 3), (112, .if_icmp .ge 29, 3), (115, .aload_n 0, 1), (116, .aload_n 0, 1), (117, .getfield 204, 3), (120, .iload 4, 2), (122, .iaload, 1), (123, .iload 7, 2), (125, .aload_n 0, 1), (126, .iload 5, 2), (128, .iload 8, 2), (130, .iconst 1, 1), (131, .isub, 1), (132, .invokevirtual 366, 3), (135, .invokevirtual 525, 3), (138, .ifCond .ne 9, 3), (141, .iload 4, 2), (143, .ineg, 1), (144, .iconst 1, 1), (145, .isub, 1), (146, .ireturn, 1), (147, .aload_n 0, 1), (148, .getfield 204, 3), (151, .iload 4, 2), (153, .iaload, 1), (154, .istore 9, 2), (156, .iinc 4 1, 3), (159, .iload 4, 2), (161, .aload_n 0, 1), (162, .getfield 519, 3), (165, .if_icmp .ge 46, 3), (168, .aload_n 0, 1), (169, .getfield 204, 3), (172, .iload 4, 2), (174, .iaload, 1), (175, .i2l, 1), (176, .lconst 0, 1), (177, .aload_n 0, 1), (178, .getfield 50, 3), (181, .iload 9, 2), (183, .iaload, 1), (184, .i2l, 1), (185, .invokestatic 253, 3), (188, .ifCond .eq 23, 3), (191, .aload_n 0, 1), (192, .iload 5, 2), (194, .iload 6, 2), (196, .iload 7, 2), (198, .aload_n 0, 1), (199, .getfield 204, 3), (202, .iload 4, 2), (204, .iaload, 1), (205, .invokevirtual 391, 3), (208, .ifCond .ge 9, 3), (211, .iload 4, 2), (213, .ineg, 1), (214, .iconst 1, 1), (215, .isub, 1), (216, .ireturn, 1), (217, .aload_n 0, 1), (218, .iload 5, 2), (220, .iload 8, 2), (222, .iload 7, 2), (224, .iload 9, 2), (226, .aload_n 0, 1), (227, .getfield 204, 3), (230, .iload 4, 2), (232, .iaload, 1), (233, .invokevirtual 414, 3), (236, .aload_n 0, 1), (237, .iload 5, 2), (239, .iload 6, 2), (241, .iload 7, 2), (243, .aload_n 0, 1), (244, .getfield 204, 3), (247, .iload 4, 2), (249, .iaload, 1), (250, .invokevirtual 391, 3), (253, .istore 6, 2), (255, .iinc 4 1, 3), (258, .iload 8, 2), (260, .istore 5, 2), (262, .goto (-235), 3), (265, .iload 4, 2), (267, .aload_n 0, 1), (268, .getfield 519, 3), (271, .if_icmp .ge 17, 3), (274, .aload_n 0, 1), (275, .getfield 204, 3), (278, .iload 4, 2), (280, .iaload, 1), (281, .aload_n 0, 1), (282, .getfield 398, 3), (285, .if_icmp .eq 9, 3), (288, .iload 4, 2), (290, .ineg, 1), (291, .iconst 1, 1), (292, .isub, 1), (293, .ireturn, 1), (294, .iinc 4 1, 3), (297, .iload 4, 2), (299, .aload_n 0, 1), (300, .getfield 519, 3), (303, .if_icmp .ge 17, 3), (306, .aload_n 0, 1), (307, .getfield 204, 3), (310, .iload 4, 2), (312, .iaload, 1), (313, .aload_n 0, 1), (314, .getfield 401, 3), (317, .if_icmp .eq 9, 3), (320, .iload 4, 2), (322, .ineg, 1), (323, .iconst 1, 1), (324, .isub, 1), (325, .ireturn, 1), (326, .iinc 4 1, 3), (329, .iload 4, 2), (331, .aload_n 0, 1), (332, .getfield 519, 3), (335, .if_icmp .ge 11, 3), (338, .iload 4, 2), (340, .ineg, 1), (341, .iconst 1, 1), (342, .isub, 1), (343, .goto 5, 3), (346, .iload 4, 2), (348, .ireturn, 1)]
theorem dt_MO_setClaimed : DT (cM m_MO_setClaimed) tb_MO_setClaimed := by unfold DT; decide +kernel
abbrev a_MO_setClaimed_0 (G : GT)  (v1 : Int) (v2 : Int) (σ : St) (P : Int → St → Prop) : Prop := A G m_MO_setClaimed 0 [(0, O 8), (1, I v1), (2, I v2)] [] σ P
abbrev a_MO_setClaimed_27 (G : GT)  (v3 : Int) (v4 : Int) (v5 : Int) (v6 : Int) (σ : St) (P : Int → St → Prop) : Prop := A G m_MO_setClaimed 27 [(0, O 8), (3, I v3), (4, I v4), (5, I v5), (6, I v6)] [] σ P
set_option maxRecDepth 20000 in
theorem k_MO_setClaimed_0 {G : GT} {σ : St} {P : Int → St → Prop}  {v1 : Int} {v2 : Int}  
    (h : CJ G m_MO_beginSet [O 8, I v1, I v2] σ (fun _ u1 => (0 ≤ v2 ∧ v2 < 80) ∧ (0 ≤ v1 ∧ v1 < 80) ∧ a_MO_setClaimed_27 G (u1.1 113 v2.toNat) 0 (u1.1 112 v1.toNat) 0 u1 P)) :
    a_MO_setClaimed_0 G v1 v2 σ P := by
  refine r_aload_n (q := 1) (dc dt_MO_setClaimed 0 rfl) rfl rfl 0 rfl ?_
  refine r_iload_n (q := 2) (dc dt_MO_setClaimed 1 rfl) rfl rfl 1 rfl ?_
  refine r_iload_n (q := 3) (dc dt_MO_setClaimed 2 rfl) rfl rfl 2 rfl ?_
  refine r_callVv (q := 6) mk_MO_beginSet lm_MO_430 (RMO.of rfl) rfl (dc dt_MO_setClaimed 3 rfl) rfl ly8 [I v1, I v2] [] rfl rfl (Nat.le_of_ble_eq_true rfl) h (fun u1 h => ?_)
  refine r_aload_n (q := 7) (dc dt_MO_setClaimed 4 rfl) rfl rfl 0 rfl ?_
  refine r_getO (q := 10) (v := 113) fl_MO_83 (dc dt_MO_setClaimed 5 rfl) rfl ly8 rfl ?_
  refine r_iload_n (q := 11) (dc dt_MO_setClaimed 6 rfl) rfl rfl 2 rfl ?_
  obtain ⟨o2, h⟩ := h
  refine r_iald (q := 12) (v := u1.1 113 v2.toNat) (dc dt_MO_setClaimed 7 rfl) rfl ly113 o2 rfl (fun g3 => ?_)
  refine r_istore_n (q := 13) (dc dt_MO_setClaimed 8 rfl) rfl rfl (by decide) rfl ?_
  refine r_iconst (q := 14) (dc dt_MO_setClaimed 9 rfl) rfl rfl ?_
  refine r_istore (q := 16) (dc dt_MO_setClaimed 10 rfl) rfl (by decide) rfl ?_
  refine r_aload_n (q := 17) (dc dt_MO_setClaimed 11 rfl) rfl rfl 2 rfl ?_
  refine r_getO (q := 20) (v := 112) fl_MO_80 (dc dt_MO_setClaimed 12 rfl) rfl ly8 rfl ?_
  refine r_iload_n (q := 21) (dc dt_MO_setClaimed 13 rfl) rfl rfl 3 rfl ?_
  obtain ⟨o4, h⟩ := h
  refine r_iald (q := 22) (v := u1.1 112 v1.toNat) (dc dt_MO_setClaimed 14 rfl) rfl ly112 o4 rfl (fun g5 => ?_)
  refine r_istore (q := 24) (dc dt_MO_setClaimed 15 rfl) rfl (by decide) rfl ?_
  refine r_iconst (q := 25) (dc dt_MO_setClaimed 16 rfl) rfl rfl ?_
  refine r_istore (q := 27) (dc dt_MO_setClaimed 17 rfl) rfl (by decide) rfl ?_
  exact r_loc [4, 3, 2, 1, 0] rfl h
set_option maxRecDepth 20000 in
theorem k_MO_setClaimed_27 {G : GT} {σ : St} {P : Int → St → Prop}  {v3 : Int} {v4 : Int} {v5 : Int} {v6 : Int}  
    (h : rng v5 ∧ rng v3 ∧ (v3 ≤ v5 → rng v4 ∧ (σ.2.1 8 96 ≤ v4 → rng ((-v4) - 1) ∧ P ((-v4) - 1) σ) ∧ (v4 < σ.2.1 8 96 → (0 ≤ v4 ∧ v4 < 260) ∧ (σ.1 153 v4.toNat = σ.2.1 8 53 → rng (v4 + 1) ∧ (σ.2.1 8 96 ≤ v4 + 1 → rng ((-(v4 + 1)) - 1) ∧ P ((-(v4 + 1)) - 1) σ) ∧ (v4 + 1 < σ.2.1 8 96 → (0 ≤ v4 + 1 ∧ v4 + 1 < 260) ∧ (σ.1 153 ((v4 + 1).toNat) = σ.2.1 8 54 → rng ((v4 + 1) + 1) ∧ rng (if σ.2.1 8 96 ≤ (v4 + 1) + 1 then (v4 + 1) + 1 else (-((v4 + 1) + 1)) - 1) ∧ P (if σ.2.1 8 96 ≤ (v4 + 1) + 1 then (v4 + 1) + 1 else (-((v4 + 1) + 1)) - 1) σ) ∧ (σ.1 153 ((v4 + 1).toNat) ≠ σ.2.1 8 54 → rng ((-(v4 + 1)) - 1) ∧ P ((-(v4 + 1)) - 1) σ))) ∧ (σ.1 153 v4.toNat ≠ σ.2.1 8 53 → rng ((-v4) - 1) ∧ P ((-v4) - 1) σ))) ∧ (v5 < v3 → rng v4 ∧ (σ.2.1 8 96 ≤ v4 → rng ((-v4) - 1) ∧ P ((-v4) - 1) σ) ∧ (v4 < σ.2.1 8 96 → (0 ≤ v4 ∧ v4 < 260) ∧ CJ G m_MO_claimedAs [O 8, I v5, I v3, I (σ.1 153 v4.toNat)] σ (fun r33 u32 => (0 ≤ r33 → (0 ≤ v5 ∧ v5 < 80) ∧ ((r33 ≠ u32.1 118 v5.toNat → (0 ≤ r33 ∧ r33 < 60) ∧ rng (if 0 ≤ u32.1 92 r33.toNat then (3 : Int) else (2 : Int)))) ∧ rng (v4 + 1) ∧ (u32.2.1 8 96 ≤ v4 + 1 → rng ((-(v4 + 1)) - 1) ∧ P ((-(v4 + 1)) - 1) u32) ∧ (v4 + 1 < u32.2.1 8 96 → (0 ≤ v4 + 1 ∧ v4 + 1 < 260) ∧ p_MO_placeOf u32 v5 ((if r33 ≠ u32.1 118 v5.toNat then v5 + (if 0 ≤ u32.1 92 r33.toNat then (3 : Int) else (2 : Int)) else v5 + 1) - 1) ∧ p_MO_isOf u32 (u32.1 153 ((v4 + 1).toNat)) r33 (f_MO_placeOf u32 v5 ((if r33 ≠ u32.1 118 v5.toNat then v5 + (if 0 ≤ u32.1 92 r33.toNat then (3 : Int) else (2 : Int)) else v5 + 1) - 1)) ∧ (b_MO_isOf u32 (u32.1 153 ((v4 + 1).toNat)) r33 (f_MO_placeOf u32 v5 ((if r33 ≠ u32.1 118 v5.toNat then v5 + (if 0 ≤ u32.1 92 r33.toNat then (3 : Int) else (2 : Int)) else v5 + 1) - 1)) → rng ((v4 + 1) + 1) ∧ (u32.2.1 8 96 ≤ (v4 + 1) + 1 → rng ((-((v4 + 1) + 1)) - 1) ∧ P ((-((v4 + 1) + 1)) - 1) u32) ∧ ((v4 + 1) + 1 < u32.2.1 8 96 → (0 ≤ (v4 + 1) + 1 ∧ (v4 + 1) + 1 < 260) ∧ (0 ≤ u32.1 153 ((v4 + 1).toNat) ∧ u32.1 153 ((v4 + 1).toNat) < 200) ∧ (¬ (0 ≤ (u32.1 153 (((v4 + 1) + 1).toNat)) ∧ (u32.1 153 (((v4 + 1) + 1).toNat)) ≤ (u32.1 102 ((u32.1 153 ((v4 + 1).toNat)).toNat))) → rng ((-((v4 + 1) + 1)) - 1) ∧ P ((-((v4 + 1) + 1)) - 1) u32) ∧ (0 ≤ (u32.1 153 (((v4 + 1) + 1).toNat)) ∧ (u32.1 153 (((v4 + 1) + 1).toNat)) ≤ (u32.1 102 ((u32.1 153 ((v4 + 1).toNat)).toNat)) → p_MO_stateBehind u32 v5 v6 r33 (u32.1 153 (((v4 + 1) + 1).toNat)) ∧ (0 ≤ f_MO_stateBehind u32 v5 v6 r33 (u32.1 153 (((v4 + 1) + 1).toNat)) → CJ G m_MO_addPiece [O 8, I v5, I (if r33 ≠ u32.1 118 v5.toNat then v5 + (if 0 ≤ u32.1 92 r33.toNat then (3 : Int) else (2 : Int)) else v5 + 1), I r33, I (u32.1 153 ((v4 + 1).toNat)), I (u32.1 153 (((v4 + 1) + 1).toNat))] u32 (fun _ u63 => p_MO_stateBehind u63 v5 v6 r33 (u63.1 153 (((v4 + 1) + 1).toNat)) ∧ a_MO_setClaimed_27 G v3 (((v4 + 1) + 1) + 1) (if r33 ≠ u32.1 118 v5.toNat then v5 + (if 0 ≤ u32.1 92 r33.toNat then (3 : Int) else (2 : Int)) else v5 + 1) (f_MO_stateBehind u63 v5 v6 r33 (u63.1 153 (((v4 + 1) + 1).toNat))) u63 P)) ∧ (f_MO_stateBehind u32 v5 v6 r33 (u32.1 153 (((v4 + 1) + 1).toNat)) < 0 → rng ((-((v4 + 1) + 1)) - 1) ∧ P ((-((v4 + 1) + 1)) - 1) u32)))) ∧ (¬ (b_MO_isOf u32 (u32.1 153 ((v4 + 1).toNat)) r33 (f_MO_placeOf u32 v5 ((if r33 ≠ u32.1 118 v5.toNat then v5 + (if 0 ≤ u32.1 92 r33.toNat then (3 : Int) else (2 : Int)) else v5 + 1) - 1))) → rng ((-(v4 + 1)) - 1) ∧ P ((-(v4 + 1)) - 1) u32))) ∧ (r33 < 0 → rng ((-v4) - 1) ∧ P ((-v4) - 1) u32))))) :
    a_MO_setClaimed_27 G v3 v4 v5 v6 σ P := by
  refine r_iload (q := 29) (dc dt_MO_setClaimed 18 rfl) rfl 3 rfl ?_
  refine r_iload_n (q := 30) (dc dt_MO_setClaimed 19 rfl) rfl rfl 1 rfl ?_
  obtain ⟨o6, h⟩ := h
  obtain ⟨o7, h⟩ := h
  refine r_icmp_ge (q := 33) (t := 265) (dc dt_MO_setClaimed 20 rfl) rfl (by decide) o6 o7 (fun q_ => ?_) (fun q_ => ?_)
  · have h := h.1 q_
    refine r_iload (q := 267) (dc dt_MO_setClaimed 145 rfl) rfl 2 rfl ?_
    refine r_aload_n (q := 268) (dc dt_MO_setClaimed 146 rfl) rfl rfl 0 rfl ?_
    refine r_getI (q := 271) (v := σ.2.1 8 96) fl_MO_519 (dc dt_MO_setClaimed 147 rfl) rfl ly8 rfl rfl (fun g8 => ?_)
    obtain ⟨o9, h⟩ := h
    refine r_icmp_ge (q := 274) (t := 288) (dc dt_MO_setClaimed 148 rfl) rfl (by decide) o9 g8 (fun q_ => ?_) (fun q_ => ?_)
    · have h := h.1 q_
      refine r_iload (q := 290) (dc dt_MO_setClaimed 156 rfl) rfl 2 rfl ?_
      refine r_ineg (q := 291) (dc dt_MO_setClaimed 157 rfl) rfl ?_
      refine r_iconst (q := 292) (dc dt_MO_setClaimed 158 rfl) rfl rfl ?_
      refine r_isub (q := 293) (dc dt_MO_setClaimed 159 rfl) rfl ?_
      obtain ⟨o10, h⟩ := h
      exact r_iret rfl (dc dt_MO_setClaimed 160 rfl) o10 h
    · have h := h.2 q_
      refine r_aload_n (q := 275) (dc dt_MO_setClaimed 149 rfl) rfl rfl 0 rfl ?_
      refine r_getO (q := 278) (v := 153) fl_MO_204 (dc dt_MO_setClaimed 150 rfl) rfl ly8 rfl ?_
      refine r_iload (q := 280) (dc dt_MO_setClaimed 151 rfl) rfl 2 rfl ?_
      obtain ⟨o11, h⟩ := h
      refine r_iald (q := 281) (v := σ.1 153 v4.toNat) (dc dt_MO_setClaimed 152 rfl) rfl ly153 o11 rfl (fun g12 => ?_)
      refine r_aload_n (q := 282) (dc dt_MO_setClaimed 153 rfl) rfl rfl 0 rfl ?_
      refine r_getI (q := 285) (v := σ.2.1 8 53) fl_MO_398 (dc dt_MO_setClaimed 154 rfl) rfl ly8 rfl rfl (fun g13 => ?_)
      refine r_icmp_eq (q := 288) (t := 294) (dc dt_MO_setClaimed 155 rfl) rfl (by decide) g12 g13 (fun q_ => ?_) (fun q_ => ?_)
      · have h := h.1 q_
        refine r_iinc (q := 297) (k := 2) (dc dt_MO_setClaimed 161 rfl) rfl rfl (by decide) rfl ?_
        refine r_iload (q := 299) (dc dt_MO_setClaimed 162 rfl) rfl 0 rfl ?_
        refine r_aload_n (q := 300) (dc dt_MO_setClaimed 163 rfl) rfl rfl 1 rfl ?_
        refine r_getI (q := 303) (v := σ.2.1 8 96) fl_MO_519 (dc dt_MO_setClaimed 164 rfl) rfl ly8 rfl rfl (fun g14 => ?_)
        obtain ⟨o15, h⟩ := h
        refine r_icmp_ge (q := 306) (t := 320) (dc dt_MO_setClaimed 165 rfl) rfl (by decide) o15 g14 (fun q_ => ?_) (fun q_ => ?_)
        · have h := h.1 q_
          refine r_iload (q := 322) (dc dt_MO_setClaimed 173 rfl) rfl 0 rfl ?_
          refine r_ineg (q := 323) (dc dt_MO_setClaimed 174 rfl) rfl ?_
          refine r_iconst (q := 324) (dc dt_MO_setClaimed 175 rfl) rfl rfl ?_
          refine r_isub (q := 325) (dc dt_MO_setClaimed 176 rfl) rfl ?_
          obtain ⟨o16, h⟩ := h
          exact r_iret rfl (dc dt_MO_setClaimed 177 rfl) o16 h
        · have h := h.2 q_
          refine r_aload_n (q := 307) (dc dt_MO_setClaimed 166 rfl) rfl rfl 1 rfl ?_
          refine r_getO (q := 310) (v := 153) fl_MO_204 (dc dt_MO_setClaimed 167 rfl) rfl ly8 rfl ?_
          refine r_iload (q := 312) (dc dt_MO_setClaimed 168 rfl) rfl 0 rfl ?_
          obtain ⟨o17, h⟩ := h
          refine r_iald (q := 313) (v := σ.1 153 ((v4 + 1).toNat)) (dc dt_MO_setClaimed 169 rfl) rfl ly153 o17 rfl (fun g18 => ?_)
          refine r_aload_n (q := 314) (dc dt_MO_setClaimed 170 rfl) rfl rfl 1 rfl ?_
          refine r_getI (q := 317) (v := σ.2.1 8 54) fl_MO_401 (dc dt_MO_setClaimed 171 rfl) rfl ly8 rfl rfl (fun g19 => ?_)
          refine r_icmp_eq (q := 320) (t := 326) (dc dt_MO_setClaimed 172 rfl) rfl (by decide) g18 g19 (fun q_ => ?_) (fun q_ => ?_)
          · have h := h.1 q_
            refine r_iinc (q := 329) (k := 0) (dc dt_MO_setClaimed 178 rfl) rfl rfl (by decide) rfl ?_
            refine r_iload (q := 331) (dc dt_MO_setClaimed 179 rfl) rfl 0 rfl ?_
            refine r_aload_n (q := 332) (dc dt_MO_setClaimed 180 rfl) rfl rfl 1 rfl ?_
            refine r_getI (q := 335) (v := σ.2.1 8 96) fl_MO_519 (dc dt_MO_setClaimed 181 rfl) rfl ly8 rfl rfl (fun g20 => ?_)
            obtain ⟨o21, h⟩ := h
            have hJ : ∀ (w_0 : Int), w_0 = (if σ.2.1 8 96 ≤ (v4 + 1) + 1 then (v4 + 1) + 1 else (-((v4 + 1) + 1)) - 1) → A G m_MO_setClaimed 348 [(4, I ((v4 + 1) + 1)), (0, O 8), (3, I v3), (5, I v5), (6, I v6)] [I w_0] σ P := by
              intro w_0 z_0
              subst z_0
              obtain ⟨o22, h⟩ := h
              exact r_iret rfl (dc dt_MO_setClaimed 189 rfl) o22 h
            clear h
            refine r_icmp_ge (q := 338) (t := 346) (dc dt_MO_setClaimed 182 rfl) rfl (by decide) o21 g20 (fun q_ => ?_) (fun q_ => ?_)
            · have q70 := q_
              refine r_iload (q := 348) (dc dt_MO_setClaimed 188 rfl) rfl 0 rfl ?_
              exact (hJ ((v4 + 1) + 1) ((if_pos (by first | omega | grind)).symm))
            · have q70 := q_
              refine r_iload (q := 340) (dc dt_MO_setClaimed 183 rfl) rfl 0 rfl ?_
              refine r_ineg (q := 341) (dc dt_MO_setClaimed 184 rfl) rfl ?_
              refine r_iconst (q := 342) (dc dt_MO_setClaimed 185 rfl) rfl rfl ?_
              refine r_isub (q := 343) (dc dt_MO_setClaimed 186 rfl) rfl ?_
              refine r_goto (q := 348) (dc dt_MO_setClaimed 187 rfl) (by decide) ?_
              exact (hJ ((-((v4 + 1) + 1)) - 1) ((if_neg (by first | omega | grind)).symm))
          · have h := h.2 q_
            refine r_iload (q := 322) (dc dt_MO_setClaimed 173 rfl) rfl 0 rfl ?_
            refine r_ineg (q := 323) (dc dt_MO_setClaimed 174 rfl) rfl ?_
            refine r_iconst (q := 324) (dc dt_MO_setClaimed 175 rfl) rfl rfl ?_
            refine r_isub (q := 325) (dc dt_MO_setClaimed 176 rfl) rfl ?_
            obtain ⟨o23, h⟩ := h
            exact r_iret rfl (dc dt_MO_setClaimed 177 rfl) o23 h
      · have h := h.2 q_
        refine r_iload (q := 290) (dc dt_MO_setClaimed 156 rfl) rfl 2 rfl ?_
        refine r_ineg (q := 291) (dc dt_MO_setClaimed 157 rfl) rfl ?_
        refine r_iconst (q := 292) (dc dt_MO_setClaimed 158 rfl) rfl rfl ?_
        refine r_isub (q := 293) (dc dt_MO_setClaimed 159 rfl) rfl ?_
        obtain ⟨o24, h⟩ := h
        exact r_iret rfl (dc dt_MO_setClaimed 160 rfl) o24 h
  · have h := h.2 q_
    refine r_iload (q := 35) (dc dt_MO_setClaimed 21 rfl) rfl 2 rfl ?_
    refine r_aload_n (q := 36) (dc dt_MO_setClaimed 22 rfl) rfl rfl 0 rfl ?_
    refine r_getI (q := 39) (v := σ.2.1 8 96) fl_MO_519 (dc dt_MO_setClaimed 23 rfl) rfl ly8 rfl rfl (fun g25 => ?_)
    obtain ⟨o26, h⟩ := h
    refine r_icmp_ge (q := 42) (t := 59) (dc dt_MO_setClaimed 24 rfl) rfl (by decide) o26 g25 (fun q_ => ?_) (fun q_ => ?_)
    · have h := h.1 q_
      refine r_iconst (q := 60) (dc dt_MO_setClaimed 34 rfl) rfl rfl ?_
      refine r_istore (q := 62) (dc dt_MO_setClaimed 35 rfl) rfl (by decide) rfl ?_
      refine r_iload (q := 64) (dc dt_MO_setClaimed 36 rfl) rfl 0 rfl ?_
      refine r_if_ge (q := 67) (t := 73) (dc dt_MO_setClaimed 37 rfl) rfl (by decide) (⟨by decide, by decide⟩ : rng (-1)) (fun q_ => absurd q_ (by decide)) (fun _ => ?_)
      refine r_iload (q := 69) (dc dt_MO_setClaimed 38 rfl) rfl 3 rfl ?_
      refine r_ineg (q := 70) (dc dt_MO_setClaimed 39 rfl) rfl ?_
      refine r_iconst (q := 71) (dc dt_MO_setClaimed 40 rfl) rfl rfl ?_
      refine r_isub (q := 72) (dc dt_MO_setClaimed 41 rfl) rfl ?_
      obtain ⟨o29, h⟩ := h
      exact r_iret rfl (dc dt_MO_setClaimed 42 rfl) o29 h
    · have h := h.2 q_
      refine r_aload_n (q := 43) (dc dt_MO_setClaimed 25 rfl) rfl rfl 0 rfl ?_
      refine r_iload (q := 45) (dc dt_MO_setClaimed 26 rfl) rfl 3 rfl ?_
      refine r_iload_n (q := 46) (dc dt_MO_setClaimed 27 rfl) rfl rfl 1 rfl ?_
      refine r_aload_n (q := 47) (dc dt_MO_setClaimed 28 rfl) rfl rfl 0 rfl ?_
      refine r_getO (q := 50) (v := 153) fl_MO_204 (dc dt_MO_setClaimed 29 rfl) rfl ly8 rfl ?_
      refine r_iload (q := 52) (dc dt_MO_setClaimed 30 rfl) rfl 2 rfl ?_
      obtain ⟨o30, h⟩ := h
      refine r_iald (q := 53) (v := σ.1 153 v4.toNat) (dc dt_MO_setClaimed 31 rfl) rfl ly153 o30 rfl (fun g31 => ?_)
      refine r_callVi (q := 56) mk_MO_claimedAs lm_MO_522 (RMO.of rfl) rfl (dc dt_MO_setClaimed 32 rfl) rfl ly8 [I v5, I v3, I (σ.1 153 v4.toNat)] [] rfl rfl (Nat.le_of_ble_eq_true rfl) h (fun r33 u32 g34 h => ?_)
      refine r_goto (q := 60) (dc dt_MO_setClaimed 33 rfl) (by decide) ?_
      refine r_istore (q := 62) (dc dt_MO_setClaimed 35 rfl) rfl (by decide) rfl ?_
      refine r_iload (q := 64) (dc dt_MO_setClaimed 36 rfl) rfl 0 rfl ?_
      refine r_if_ge (q := 67) (t := 73) (dc dt_MO_setClaimed 37 rfl) rfl (by decide) g34 (fun q_ => ?_) (fun q_ => ?_)
      · have h := h.1 q_
        refine r_iload (q := 75) (dc dt_MO_setClaimed 43 rfl) rfl 0 rfl ?_
        refine r_aload_n (q := 76) (dc dt_MO_setClaimed 44 rfl) rfl rfl 1 rfl ?_
        refine r_getO (q := 79) (v := 118) fl_MO_98 (dc dt_MO_setClaimed 45 rfl) rfl ly8 rfl ?_
        refine r_iload (q := 81) (dc dt_MO_setClaimed 46 rfl) rfl 4 rfl ?_
        obtain ⟨o35, h⟩ := h
        refine r_iald (q := 82) (v := u32.1 118 v5.toNat) (dc dt_MO_setClaimed 47 rfl) rfl ly118 o35 rfl (fun g36 => ?_)
        obtain ⟨ho, h⟩ := h
        have hJ : ∀ (w_0 : Int), w_0 = (if r33 ≠ u32.1 118 v5.toNat then v5 + (if 0 ≤ u32.1 92 r33.toNat then (3 : Int) else (2 : Int)) else v5 + 1) → A G m_MO_setClaimed 101 [(7, I r33), (0, O 8), (3, I v3), (4, I v4), (5, I v5), (6, I v6)] [I w_0] u32 P := by
          intro w_0 z_0
          subst z_0
          refine r_istore (q := 103) (dc dt_MO_setClaimed 58 rfl) rfl (by decide) rfl ?_
          refine r_iinc (q := 106) (k := 4) (dc dt_MO_setClaimed 59 rfl) rfl rfl (by decide) rfl ?_
          refine r_iload (q := 108) (dc dt_MO_setClaimed 60 rfl) rfl 0 rfl ?_
          refine r_aload_n (q := 109) (dc dt_MO_setClaimed 61 rfl) rfl rfl 3 rfl ?_
          refine r_getI (q := 112) (v := u32.2.1 8 96) fl_MO_519 (dc dt_MO_setClaimed 62 rfl) rfl ly8 rfl rfl (fun g40 => ?_)
          obtain ⟨o41, h⟩ := h
          refine r_icmp_ge (q := 115) (t := 141) (dc dt_MO_setClaimed 63 rfl) rfl (by decide) o41 g40 (fun q_ => ?_) (fun q_ => ?_)
          · have h := h.1 q_
            refine r_iload (q := 143) (dc dt_MO_setClaimed 78 rfl) rfl 0 rfl ?_
            refine r_ineg (q := 144) (dc dt_MO_setClaimed 79 rfl) rfl ?_
            refine r_iconst (q := 145) (dc dt_MO_setClaimed 80 rfl) rfl rfl ?_
            refine r_isub (q := 146) (dc dt_MO_setClaimed 81 rfl) rfl ?_
            obtain ⟨o42, h⟩ := h
            exact r_iret rfl (dc dt_MO_setClaimed 82 rfl) o42 h
          · have h := h.2 q_
            refine r_aload_n (q := 116) (dc dt_MO_setClaimed 64 rfl) rfl rfl 3 rfl ?_
            refine r_aload_n (q := 117) (dc dt_MO_setClaimed 65 rfl) rfl rfl 3 rfl ?_
            refine r_getO (q := 120) (v := 153) fl_MO_204 (dc dt_MO_setClaimed 66 rfl) rfl ly8 rfl ?_
            refine r_iload (q := 122) (dc dt_MO_setClaimed 67 rfl) rfl 0 rfl ?_
            obtain ⟨o43, h⟩ := h
            refine r_iald (q := 123) (v := u32.1 153 ((v4 + 1).toNat)) (dc dt_MO_setClaimed 68 rfl) rfl ly153 o43 rfl (fun g44 => ?_)
            refine r_iload (q := 125) (dc dt_MO_setClaimed 69 rfl) rfl 2 rfl ?_
            refine r_aload_n (q := 126) (dc dt_MO_setClaimed 70 rfl) rfl rfl 3 rfl ?_
            refine r_iload (q := 128) (dc dt_MO_setClaimed 71 rfl) rfl 5 rfl ?_
            refine r_iload (q := 130) (dc dt_MO_setClaimed 72 rfl) rfl 1 rfl ?_
            refine r_iconst (q := 131) (dc dt_MO_setClaimed 73 rfl) rfl rfl ?_
            refine r_isub (q := 132) (dc dt_MO_setClaimed 74 rfl) rfl ?_
            obtain ⟨o45, h⟩ := h
            refine r_callVi (q := 135) mk_MO_placeOf lm_MO_366 (RMO.of rfl) rfl (dc dt_MO_setClaimed 75 rfl) rfl ly8 [I v5, I ((if r33 ≠ u32.1 118 v5.toNat then v5 + (if 0 ≤ u32.1 92 r33.toNat then (3 : Int) else (2 : Int)) else v5 + 1) - 1)] [I r33, I (u32.1 153 ((v4 + 1).toNat)), O 8] rfl rfl (Nat.le_of_ble_eq_true rfl) (sp_MO_placeOf o45) (fun _ _ g46 z => ?_)
            obtain ⟨z, w⟩ := z
            subst z
            replace w := w.symm
            subst w
            obtain ⟨o47, h⟩ := h
            refine r_callVi (q := 138) mk_MO_isOf lm_MO_525 (RMO.of rfl) rfl (dc dt_MO_setClaimed 76 rfl) rfl ly8 [I (u32.1 153 ((v4 + 1).toNat)), I r33, I (f_MO_placeOf u32 v5 ((if r33 ≠ u32.1 118 v5.toNat then v5 + (if 0 ≤ u32.1 92 r33.toNat then (3 : Int) else (2 : Int)) else v5 + 1) - 1))] [] rfl rfl (Nat.le_of_ble_eq_true rfl) (sp_MO_isOf o47) (fun _ _ g48 z => ?_)
            obtain ⟨z, w⟩ := z
            subst z
            replace w := w.symm
            subst w
            refine r_ifb_ne (q := 141) (t := 147) (dc dt_MO_setClaimed 77 rfl) rfl (by decide) (fun q_ => ?_) (fun q_ => ?_)
            · have h := h.1 q_
              refine r_aload_n (q := 148) (dc dt_MO_setClaimed 83 rfl) rfl rfl 3 rfl ?_
              refine r_getO (q := 151) (v := 153) fl_MO_204 (dc dt_MO_setClaimed 84 rfl) rfl ly8 rfl ?_
              refine r_iload (q := 153) (dc dt_MO_setClaimed 85 rfl) rfl 0 rfl ?_
              refine r_iald (q := 154) (v := u32.1 153 ((v4 + 1).toNat)) (dc dt_MO_setClaimed 86 rfl) rfl ly153 o43 rfl (fun g49 => ?_)
              refine r_istore (q := 156) (dc dt_MO_setClaimed 87 rfl) rfl (by decide) rfl ?_
              refine r_iinc (q := 159) (k := 1) (dc dt_MO_setClaimed 88 rfl) rfl rfl (by decide) rfl ?_
              refine r_iload (q := 161) (dc dt_MO_setClaimed 89 rfl) rfl 0 rfl ?_
              refine r_aload_n (q := 162) (dc dt_MO_setClaimed 90 rfl) rfl rfl 4 rfl ?_
              refine r_getI (q := 165) (v := u32.2.1 8 96) fl_MO_519 (dc dt_MO_setClaimed 91 rfl) rfl ly8 rfl rfl (fun g50 => ?_)
              obtain ⟨o51, h⟩ := h
              refine r_icmp_ge (q := 168) (t := 211) (dc dt_MO_setClaimed 92 rfl) rfl (by decide) o51 g50 (fun q_ => ?_) (fun q_ => ?_)
              · have h := h.1 q_
                refine r_iload (q := 213) (dc dt_MO_setClaimed 116 rfl) rfl 0 rfl ?_
                refine r_ineg (q := 214) (dc dt_MO_setClaimed 117 rfl) rfl ?_
                refine r_iconst (q := 215) (dc dt_MO_setClaimed 118 rfl) rfl rfl ?_
                refine r_isub (q := 216) (dc dt_MO_setClaimed 119 rfl) rfl ?_
                obtain ⟨o52, h⟩ := h
                exact r_iret rfl (dc dt_MO_setClaimed 120 rfl) o52 h
              · have h := h.2 q_
                refine r_aload_n (q := 169) (dc dt_MO_setClaimed 93 rfl) rfl rfl 4 rfl ?_
                refine r_getO (q := 172) (v := 153) fl_MO_204 (dc dt_MO_setClaimed 94 rfl) rfl ly8 rfl ?_
                refine r_iload (q := 174) (dc dt_MO_setClaimed 95 rfl) rfl 0 rfl ?_
                obtain ⟨o53, h⟩ := h
                refine r_iald (q := 175) (v := u32.1 153 (((v4 + 1) + 1).toNat)) (dc dt_MO_setClaimed 96 rfl) rfl ly153 o53 rfl (fun g54 => ?_)
                refine r_i2l (q := 176) (dc dt_MO_setClaimed 97 rfl) rfl g54 ?_
                refine r_lconst (q := 177) (n := 0) (dc dt_MO_setClaimed 98 rfl) rfl rfl ?_
                refine r_aload_n (q := 178) (dc dt_MO_setClaimed 99 rfl) rfl rfl 4 rfl ?_
                refine r_getO (q := 181) (v := 102) fl_MO_50 (dc dt_MO_setClaimed 100 rfl) rfl ly8 rfl ?_
                refine r_iload (q := 183) (dc dt_MO_setClaimed 101 rfl) rfl 1 rfl ?_
                obtain ⟨o55, h⟩ := h
                refine r_iald (q := 184) (v := u32.1 102 ((u32.1 153 ((v4 + 1).toNat)).toNat)) (dc dt_MO_setClaimed 102 rfl) rfl ly102 o55 rfl (fun g56 => ?_)
                refine r_i2l (q := 185) (dc dt_MO_setClaimed 103 rfl) rfl g56 ?_
                refine r_callSi (q := 188) mk_MO_in lm_MO_253 (RMO.of rfl) rfl (dc dt_MO_setClaimed 104 rfl) rfl [J (u32.1 153 (((v4 + 1) + 1).toNat)), J 0, J (u32.1 102 ((u32.1 153 ((v4 + 1).toNat)).toNat))] [] rfl rfl (Nat.le_of_ble_eq_true rfl) (sp_MO_in g54 (⟨by decide, by decide⟩ : rng 0) g56) (fun _ _ g57 z => ?_)
                obtain ⟨z, w⟩ := z
                subst z
                replace w := w.symm
                subst w
                refine r_ifb_eq (q := 191) (t := 211) (dc dt_MO_setClaimed 105 rfl) rfl (by decide) (fun q_ => ?_) (fun q_ => ?_)
                · have h := h.1 q_
                  refine r_iload (q := 213) (dc dt_MO_setClaimed 116 rfl) rfl 0 rfl ?_
                  refine r_ineg (q := 214) (dc dt_MO_setClaimed 117 rfl) rfl ?_
                  refine r_iconst (q := 215) (dc dt_MO_setClaimed 118 rfl) rfl rfl ?_
                  refine r_isub (q := 216) (dc dt_MO_setClaimed 119 rfl) rfl ?_
                  obtain ⟨o58, h⟩ := h
                  exact r_iret rfl (dc dt_MO_setClaimed 120 rfl) o58 h
                · have h := h.2 q_
                  refine r_aload_n (q := 192) (dc dt_MO_setClaimed 106 rfl) rfl rfl 4 rfl ?_
                  refine r_iload (q := 194) (dc dt_MO_setClaimed 107 rfl) rfl 6 rfl ?_
                  refine r_iload (q := 196) (dc dt_MO_setClaimed 108 rfl) rfl 7 rfl ?_
                  refine r_iload (q := 198) (dc dt_MO_setClaimed 109 rfl) rfl 3 rfl ?_
                  refine r_aload_n (q := 199) (dc dt_MO_setClaimed 110 rfl) rfl rfl 4 rfl ?_
                  refine r_getO (q := 202) (v := 153) fl_MO_204 (dc dt_MO_setClaimed 111 rfl) rfl ly8 rfl ?_
                  refine r_iload (q := 204) (dc dt_MO_setClaimed 112 rfl) rfl 0 rfl ?_
                  refine r_iald (q := 205) (v := u32.1 153 (((v4 + 1) + 1).toNat)) (dc dt_MO_setClaimed 113 rfl) rfl ly153 o53 rfl (fun g59 => ?_)
                  obtain ⟨o60, h⟩ := h
                  refine r_callVi (q := 208) mk_MO_stateBehind lm_MO_391 (RMO.of rfl) rfl (dc dt_MO_setClaimed 114 rfl) rfl ly8 [I v5, I v6, I r33, I (u32.1 153 (((v4 + 1) + 1).toNat))] [] rfl rfl (Nat.le_of_ble_eq_true rfl) (sp_MO_stateBehind o60) (fun _ _ g61 z => ?_)
                  obtain ⟨z, w⟩ := z
                  subst z
                  replace w := w.symm
                  subst w
                  refine r_if_ge (q := 211) (t := 217) (dc dt_MO_setClaimed 115 rfl) rfl (by decide) g61 (fun q_ => ?_) (fun q_ => ?_)
                  · have h := h.1 q_
                    refine r_aload_n (q := 218) (dc dt_MO_setClaimed 121 rfl) rfl rfl 4 rfl ?_
                    refine r_iload (q := 220) (dc dt_MO_setClaimed 122 rfl) rfl 6 rfl ?_
                    refine r_iload (q := 222) (dc dt_MO_setClaimed 123 rfl) rfl 2 rfl ?_
                    refine r_iload (q := 224) (dc dt_MO_setClaimed 124 rfl) rfl 3 rfl ?_
                    refine r_iload (q := 226) (dc dt_MO_setClaimed 125 rfl) rfl 1 rfl ?_
                    refine r_aload_n (q := 227) (dc dt_MO_setClaimed 126 rfl) rfl rfl 4 rfl ?_
                    refine r_getO (q := 230) (v := 153) fl_MO_204 (dc dt_MO_setClaimed 127 rfl) rfl ly8 rfl ?_
                    refine r_iload (q := 232) (dc dt_MO_setClaimed 128 rfl) rfl 0 rfl ?_
                    refine r_iald (q := 233) (v := u32.1 153 (((v4 + 1) + 1).toNat)) (dc dt_MO_setClaimed 129 rfl) rfl ly153 o53 rfl (fun g62 => ?_)
                    refine r_callVv (q := 236) mk_MO_addPiece lm_MO_414 (RMO.of rfl) rfl (dc dt_MO_setClaimed 130 rfl) rfl ly8 [I v5, I (if r33 ≠ u32.1 118 v5.toNat then v5 + (if 0 ≤ u32.1 92 r33.toNat then (3 : Int) else (2 : Int)) else v5 + 1), I r33, I (u32.1 153 ((v4 + 1).toNat)), I (u32.1 153 (((v4 + 1) + 1).toNat))] [] rfl rfl (Nat.le_of_ble_eq_true rfl) h (fun u63 h => ?_)
                    refine r_aload_n (q := 237) (dc dt_MO_setClaimed 131 rfl) rfl rfl 4 rfl ?_
                    refine r_iload (q := 239) (dc dt_MO_setClaimed 132 rfl) rfl 6 rfl ?_
                    refine r_iload (q := 241) (dc dt_MO_setClaimed 133 rfl) rfl 7 rfl ?_
                    refine r_iload (q := 243) (dc dt_MO_setClaimed 134 rfl) rfl 3 rfl ?_
                    refine r_aload_n (q := 244) (dc dt_MO_setClaimed 135 rfl) rfl rfl 4 rfl ?_
                    refine r_getO (q := 247) (v := 153) fl_MO_204 (dc dt_MO_setClaimed 136 rfl) rfl ly8 rfl ?_
                    refine r_iload (q := 249) (dc dt_MO_setClaimed 137 rfl) rfl 0 rfl ?_
                    refine r_iald (q := 250) (v := u63.1 153 (((v4 + 1) + 1).toNat)) (dc dt_MO_setClaimed 138 rfl) rfl ly153 o53 rfl (fun g64 => ?_)
                    obtain ⟨o65, h⟩ := h
                    refine r_callVi (q := 253) mk_MO_stateBehind lm_MO_391 (RMO.of rfl) rfl (dc dt_MO_setClaimed 139 rfl) rfl ly8 [I v5, I v6, I r33, I (u63.1 153 (((v4 + 1) + 1).toNat))] [] rfl rfl (Nat.le_of_ble_eq_true rfl) (sp_MO_stateBehind o65) (fun _ _ g66 z => ?_)
                    obtain ⟨z, w⟩ := z
                    subst z
                    replace w := w.symm
                    subst w
                    refine r_istore (q := 255) (dc dt_MO_setClaimed 140 rfl) rfl (by decide) rfl ?_
                    refine r_iinc (q := 258) (k := 1) (dc dt_MO_setClaimed 141 rfl) rfl rfl (by decide) rfl ?_
                    refine r_iload (q := 260) (dc dt_MO_setClaimed 142 rfl) rfl 3 rfl ?_
                    refine r_istore (q := 262) (dc dt_MO_setClaimed 143 rfl) rfl (by decide) rfl ?_
                    refine r_goto (q := 27) (dc dt_MO_setClaimed 144 rfl) (by decide) ?_
                    exact r_loc [6, 7, 1, 0, 2] rfl h
                  · have h := h.2 q_
                    refine r_iload (q := 213) (dc dt_MO_setClaimed 116 rfl) rfl 0 rfl ?_
                    refine r_ineg (q := 214) (dc dt_MO_setClaimed 117 rfl) rfl ?_
                    refine r_iconst (q := 215) (dc dt_MO_setClaimed 118 rfl) rfl rfl ?_
                    refine r_isub (q := 216) (dc dt_MO_setClaimed 119 rfl) rfl ?_
                    obtain ⟨o67, h⟩ := h
                    exact r_iret rfl (dc dt_MO_setClaimed 120 rfl) o67 h
            · have h := h.2 q_
              refine r_iload (q := 143) (dc dt_MO_setClaimed 78 rfl) rfl 0 rfl ?_
              refine r_ineg (q := 144) (dc dt_MO_setClaimed 79 rfl) rfl ?_
              refine r_iconst (q := 145) (dc dt_MO_setClaimed 80 rfl) rfl rfl ?_
              refine r_isub (q := 146) (dc dt_MO_setClaimed 81 rfl) rfl ?_
              obtain ⟨o68, h⟩ := h
              exact r_iret rfl (dc dt_MO_setClaimed 82 rfl) o68 h
        clear h
        refine r_icmp_ne (q := 85) (t := 92) (dc dt_MO_setClaimed 48 rfl) rfl (by decide) g34 g36 (fun q_ => ?_) (fun q_ => ?_)
        · have q71 := q_
          have ho := ho q_
          refine r_iload (q := 94) (dc dt_MO_setClaimed 53 rfl) rfl 4 rfl ?_
          refine r_aload_n (q := 95) (dc dt_MO_setClaimed 54 rfl) rfl rfl 1 rfl ?_
          refine r_iload (q := 97) (dc dt_MO_setClaimed 55 rfl) rfl 0 rfl ?_
          obtain ⟨o37, ho⟩ := ho
          have o38 := ho
          refine r_callVi (q := 100) mk_MO_howManyOf lm_MO_357 (RMO.of rfl) rfl (dc dt_MO_setClaimed 56 rfl) rfl ly8 [I r33] [I v5] rfl rfl (Nat.le_of_ble_eq_true rfl) (sp_MO_howManyOf o37 o38) (fun _ _ g39 z => ?_)
          obtain ⟨z, w⟩ := z
          subst z
          replace w := w.symm
          subst w
          refine r_iadd (q := 101) (dc dt_MO_setClaimed 57 rfl) rfl ?_
          exact (hJ (v5 + (if 0 ≤ u32.1 92 r33.toNat then (3 : Int) else (2 : Int))) ((if_pos (by first | omega | grind)).symm))
        · have q71 := q_
          refine r_iload (q := 87) (dc dt_MO_setClaimed 49 rfl) rfl 4 rfl ?_
          refine r_iconst (q := 88) (dc dt_MO_setClaimed 50 rfl) rfl rfl ?_
          refine r_iadd (q := 89) (dc dt_MO_setClaimed 51 rfl) rfl ?_
          refine r_goto (q := 101) (dc dt_MO_setClaimed 52 rfl) (by decide) ?_
          exact (hJ (v5 + 1) ((if_neg (by first | omega | grind)).symm))
      · have h := h.2 q_
        refine r_iload (q := 69) (dc dt_MO_setClaimed 38 rfl) rfl 3 rfl ?_
        refine r_ineg (q := 70) (dc dt_MO_setClaimed 39 rfl) rfl ?_
        refine r_iconst (q := 71) (dc dt_MO_setClaimed 40 rfl) rfl rfl ?_
        refine r_isub (q := 72) (dc dt_MO_setClaimed 41 rfl) rfl ?_
        obtain ⟨o69, h⟩ := h
        exact r_iret rfl (dc dt_MO_setClaimed 42 rfl) o69 h
