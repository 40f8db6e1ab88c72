theorem fl_MO_207 : FL R_MO 207 8 97 := FL.of rfl (by decide) rfl 1203 (by decide +kernel)
theorem fl_MO_210 : FL R_MO 210 8 98 := FL.of rfl (by decide) rfl 1204 (by decide +kernel)
theorem fl_MO_213 : FL R_MO 213 8 99 := FL.of rfl (by decide) rfl 1205 (by decide +kernel)
theorem fl_MO_216 : FL R_MO 216 8 102 := FL.of rfl (by decide) rfl 1208 (by decide +kernel)
theorem fl_MO_219 : FL R_MO 219 8 103 := FL.of rfl (by decide) rfl 1209 (by decide +kernel)
theorem fl_MO_222 : FL R_MO 222 8 104 := FL.of rfl (by decide) rfl 1210 (by decide +kernel)
theorem fl_MO_225 : FL R_MO 225 8 105 := FL.of rfl (by decide) rfl 1211 (by decide +kernel)
theorem fl_MO_228 : FL R_MO 228 8 106 := FL.of rfl (by decide) rfl 1212 (by decide +kernel)
theorem fl_MO_231 : FL R_MO 231 8 107 := FL.of rfl (by decide) rfl 1213 (by decide +kernel)
theorem fl_MO_234 : FL R_MO 234 8 111 := FL.of rfl (by decide) rfl 1217 (by decide +kernel)
theorem fl_MO_237 : FL R_MO 237 8 112 := FL.of rfl (by decide) rfl 1218 (by decide +kernel)
theorem fl_MO_240 : FL R_MO 240 8 113 := FL.of rfl (by decide) rfl 1219 (by decide +kernel)
theorem fl_MO_243 : FL R_MO 243 8 114 := FL.of rfl (by decide) rfl 1220 (by decide +kernel)
theorem fl_MO_246 : FL R_MO 246 8 115 := FL.of rfl (by decide) rfl 1221 (by decide +kernel)
theorem fl_MO_538 : FL R_MO 538 8 108 := FL.of rfl (by decide) rfl 1214 (by decide +kernel)
theorem fl_MO_541 : FL R_MO 541 8 101 := FL.of rfl (by decide) rfl 1207 (by decide +kernel)
theorem fl_MO_549 : FL R_MO 549 8 110 := FL.of rfl (by decide) rfl 1216 (by decide +kernel)
theorem lm_MO_528 : Cond.methodLink R_MO 528 (yM m_MO_setClaimed) ∈ gt := gt_at 1741 (by decide +kernel) rfl
theorem lm_MO_531 : Cond.methodLink R_MO 531 (yM m_MO_isPlainEnd) ∈ gt := gt_at 1757 (by decide +kernel) rfl
theorem lm_MO_534 : Cond.methodLink R_MO 534 (yM m_MO_noteLines) ∈ gt := gt_at 1761 (by decide +kernel) rfl
theorem lm_MO_544 : Cond.methodLink R_MO 544 (yM m_MO_setLine) ∈ gt := gt_at 1765 (by decide +kernel) rfl
theorem mk_MO_isPlainEnd : MKV m_MO_isPlainEnd 8 2 := ⟨⟨gt_at 1760 (by decide +kernel) rfl, gt_at 82 (by decide +kernel) rfl, by decide +kernel, by decide +kernel, by decide +kernel⟩, gt_at 1759 (by decide +kernel) rfl, gt_at 67 (by decide +kernel) rfl, _, _, rfl⟩
theorem mk_MO_noteLines : MKV m_MO_noteLines 8 1 := ⟨⟨gt_at 1764 (by decide +kernel) rfl, gt_at 82 (by decide +kernel) rfl, by decide +kernel, by decide +kernel, by decide +kernel⟩, gt_at 1763 (by decide +kernel) rfl, gt_at 68 (by decide +kernel) rfl, _, _, rfl⟩
theorem mk_MO_setClaimed : MKV m_MO_setClaimed 8 2 := ⟨⟨gt_at 1744 (by decide +kernel) rfl, gt_at 82 (by decide +kernel) rfl, by decide +kernel, by decide +kernel, by decide +kernel⟩, gt_at 1743 (by decide +kernel) rfl, gt_at 64 (by decide +kernel) rfl, _, _, rfl⟩
theorem mk_MO_setLine : MKV m_MO_setLine 8 1 := ⟨⟨gt_at 1768 (by decide +kernel) rfl, gt_at 82 (by decide +kernel) rfl, by decide +kernel, by decide +kernel, by decide +kernel⟩, gt_at 1767 (by decide +kernel) rfl, gt_at 69 (by decide +kernel) rfl, _, _, rfl⟩
theorem pf_8_101 : ∀ C T N, classes[8]? = some (C, T, N) → (T 101).2.2.2 = false := fun _ _ _ h => by cases h; rfl
theorem pf_8_108 : ∀ C T N, classes[8]? = some (C, T, N) → (T 108).2.2.2 = false := fun _ _ _ h => by cases h; rfl
theorem pf_8_110 : ∀ C T N, classes[8]? = some (C, T, N) → (T 110).2.2.2 = false := fun _ _ _ h => by cases h; rfl
def tb_MO_check : List (Nat × Instr × Nat) := [(0, .aload_n 0, 1), (1, .iload_n 1, 1), (2, .iload_n 2, 1), (3, .invokevirtual 491, 3), (6, .ifCond .ne 5, 3), (9, .iconst (-1), 1), (10, .ireturn, 1), (11, .aload_n 0, 1), (12, .iload_n 1, 1), (13, .iload_n 2, 1), (14, .invokevirtual 424, 3), (17, .ifCond .ne 6, 3), (20, .bipush (-5), 2), (22, .ireturn, 1), (23, .aload_n 0, 1), (24, .iload_n 1, 1), (25, .iload_n 2, 1), (26, .invokevirtual 528, 3), (29, .istore_n 3, 1), (30, .iload_n 3, 1), (31, .ifCond .ge 11, 3), (34, .bipush (-100), 2), (36, .iload_n 3, 1), (37, .ineg, 1), (38, .iconst 1, 1), (39, .isub, 1), (40, .isub, 1), (41, .ireturn, 1), (42, .aload_n 0, 1), (43, .invokevirtual 436, 3), (46, .aload_n 0, 1), (47, .invokevirtual 508, 3), (50, .iconst 1, 1), (51, .ireturn, 1)]
theorem dt_MO_check : DT (cM m_MO_check) tb_MO_check := by unfold DT; decide +kernel
abbrev a_MO_check_0 (G : GT)  (v1 : Int) (v2 : Int) (σ : St) (P : Int → St → Prop) : Prop := A G m_MO_check 0 [(0, O 8), (1, I v1), (2, I v2)] [] σ P
set_option maxRecDepth 20000 in
theorem k_MO_check_0 {G : GT} {σ : St} {P : Int → St → Prop}  {v1 : Int} {v2 : Int}  
    (h : CJ G m_MO_areWords [O 8, I v1, I v2] σ (fun r2 u1 => (r2 ≠ 0 → CJ G m_MO_haveForms [O 8, I v1, I v2] u1 (fun r5 u4 => (r5 ≠ 0 → CJ G m_MO_setClaimed [O 8, I v1, I v2] u4 (fun r8 u7 => (0 ≤ r8 → CJ G m_MO_layMarks [O 8] u7 (fun _ u10 => CJ G m_MO_toHand [O 8] u10 (fun _ u11 => P 1 u11))) ∧ (r8 < 0 → rng ((-100) - ((-r8) - 1)) ∧ P ((-100) - ((-r8) - 1)) u7))) ∧ (r5 = 0 → P (-5) u4))) ∧ (r2 = 0 → P (-1) u1))) :
    a_MO_check_0 G v1 v2 σ P := by
  refine r_aload_n (q := 1) (dc dt_MO_check 0 rfl) rfl rfl 0 rfl ?_
  refine r_iload_n (q := 2) (dc dt_MO_check 1 rfl) rfl rfl 1 rfl ?_
  refine r_iload_n (q := 3) (dc dt_MO_check 2 rfl) rfl rfl 2 rfl ?_
  refine r_callVi (q := 6) mk_MO_areWords lm_MO_491 (RMO.of rfl) rfl (dc dt_MO_check 3 rfl) rfl ly8 [I v1, I v2] [] rfl rfl (Nat.le_of_ble_eq_true rfl) h (fun r2 u1 g3 h => ?_)
  refine r_if_ne (q := 9) (t := 11) (dc dt_MO_check 4 rfl) rfl (by decide) g3 (fun q_ => ?_) (fun q_ => ?_)
  · have h := h.1 q_
    refine r_aload_n (q := 12) (dc dt_MO_check 7 rfl) rfl rfl 0 rfl ?_
    refine r_iload_n (q := 13) (dc dt_MO_check 8 rfl) rfl rfl 1 rfl ?_
    refine r_iload_n (q := 14) (dc dt_MO_check 9 rfl) rfl rfl 2 rfl ?_
    refine r_callVi (q := 17) mk_MO_haveForms lm_MO_424 (RMO.of rfl) rfl (dc dt_MO_check 10 rfl) rfl ly8 [I v1, I v2] [] rfl rfl (Nat.le_of_ble_eq_true rfl) h (fun r5 u4 g6 h => ?_)
    refine r_if_ne (q := 20) (t := 23) (dc dt_MO_check 11 rfl) rfl (by decide) g6 (fun q_ => ?_) (fun q_ => ?_)
    · have h := h.1 q_
      refine r_aload_n (q := 24) (dc dt_MO_check 14 rfl) rfl rfl 0 rfl ?_
      refine r_iload_n (q := 25) (dc dt_MO_check 15 rfl) rfl rfl 1 rfl ?_
      refine r_iload_n (q := 26) (dc dt_MO_check 16 rfl) rfl rfl 2 rfl ?_
      refine r_callVi (q := 29) mk_MO_setClaimed lm_MO_528 (RMO.of rfl) rfl (dc dt_MO_check 17 rfl) rfl ly8 [I v1, I v2] [] rfl rfl (Nat.le_of_ble_eq_true rfl) h (fun r8 u7 g9 h => ?_)
      refine r_istore_n (q := 30) (dc dt_MO_check 18 rfl) rfl rfl (by decide) rfl ?_
      refine r_iload_n (q := 31) (dc dt_MO_check 19 rfl) rfl rfl 0 rfl ?_
      refine r_if_ge (q := 34) (t := 42) (dc dt_MO_check 20 rfl) rfl (by decide) g9 (fun q_ => ?_) (fun q_ => ?_)
      · have h := h.1 q_
        refine r_aload_n (q := 43) (dc dt_MO_check 28 rfl) rfl rfl 1 rfl ?_
        refine r_callVv (q := 46) mk_MO_layMarks lm_MO_436 (RMO.of rfl) rfl (dc dt_MO_check 29 rfl) rfl ly8 [] [] rfl rfl (Nat.le_of_ble_eq_true rfl) h (fun u10 h => ?_)
        refine r_aload_n (q := 47) (dc dt_MO_check 30 rfl) rfl rfl 1 rfl ?_
        refine r_callVv (q := 50) mk_MO_toHand lm_MO_508 (RMO.of rfl) rfl (dc dt_MO_check 31 rfl) rfl ly8 [] [] rfl rfl (Nat.le_of_ble_eq_true rfl) h (fun u11 h => ?_)
        refine r_iconst (q := 51) (dc dt_MO_check 32 rfl) rfl rfl ?_
        exact r_iret rfl (dc dt_MO_check 33 rfl) (⟨by decide, by decide⟩ : rng 1) h
      · have h := h.2 q_
        refine r_bipush (q := 36) (dc dt_MO_check 21 rfl) rfl (by decide) ?_
        refine r_iload_n (q := 37) (dc dt_MO_check 22 rfl) rfl rfl 0 rfl ?_
        refine r_ineg (q := 38) (dc dt_MO_check 23 rfl) rfl ?_
        refine r_iconst (q := 39) (dc dt_MO_check 24 rfl) rfl rfl ?_
        refine r_isub (q := 40) (dc dt_MO_check 25 rfl) rfl ?_
        refine r_isub (q := 41) (dc dt_MO_check 26 rfl) rfl ?_
        obtain ⟨o12, h⟩ := h
        exact r_iret rfl (dc dt_MO_check 27 rfl) o12 h
    · have h := h.2 q_
      refine r_bipush (q := 22) (dc dt_MO_check 12 rfl) rfl (by decide) ?_
      exact r_iret rfl (dc dt_MO_check 13 rfl) (⟨by decide, by decide⟩ : rng (-5)) h
  · have h := h.2 q_
    refine r_iconst (q := 10) (dc dt_MO_check 5 rfl) rfl rfl ?_
    exact r_iret rfl (dc dt_MO_check 6 rfl) (⟨by decide, by decide⟩ : rng (-1)) h
def tb_MO_isPlainEnd : List (Nat × Instr × Nat) := [(0, .aload_n 0, 1), (1, .iload_n 1, 1), (2, .aload_n 0, 1), (3, .getfield 344, 3), (6, .iconst 1, 1), (7, .isub, 1), (8, .invokevirtual 439, 3), (11, .ifCond .ne 5, 3), (14, .iconst 0, 1), (15, .ireturn, 1), (16, .iconst 0, 1), (17, .istore_n 3, 1), (18, .aload_n 0, 1), (19, .getfield 80, 3), (22, .iload_n 1, 1), (23, .iaload, 1), (24, .istore 4, 2), (26, .iload 4, 2), (28, .aload_n 0, 1), (29, .getfield 83, 3), (32, .aload_n 0, 1), (33, .getfield 344, 3), (36, .iconst 1, 1), (37, .isub, 1), (38, .iaload, 1), (39, .if_icmp .ge 36, 3), (42, .iload_n 3, 1), (43, .aload_n 0, 1), (44, .getfield 35, 3), (47, .aload_n 0, 1), (48, .aload_n 0, 1), (49, .getfield 98, 3), (52, .iload 4, 2), (54, .iaload, 1), (55, .aload_n 0, 1), (56, .iload 4, 2), (58, .iload 4, 2), (60, .invokevirtual 366, 3), (63, .invokevirtual 369, 3), (66, .iaload, 1), (67, .iadd, 1), (68, .istore_n 3, 1), (69, .iinc 4 1, 3), (72, .goto (-46), 3), (75, .iload_n 3, 1), (76, .iload_n 2, 1), (77, .if_icmp .gt 7, 3), (80, .iconst 1, 1), (81, .goto 4, 3), (84, .iconst 0, 1), (85, .ireturn, 1)]
theorem dt_MO_isPlainEnd : DT (cM m_MO_isPlainEnd) tb_MO_isPlainEnd := by unfold DT; decide +kernel
abbrev a_MO_isPlainEnd_0 (G : GT)  (v1 : Int) (v2 : Int) (σ : St) (P : Int → St → Prop) : Prop := A G m_MO_isPlainEnd 0 [(0, O 8), (1, I v1), (2, I v2)] [] σ P
abbrev a_MO_isPlainEnd_26 (G : GT)  (v2 : Int) (v3 : Int) (v4 : Int) (σ : St) (P : Int → St → Prop) : Prop := A G m_MO_isPlainEnd 26 [(0, O 8), (2, I v2), (3, I v3), (4, I v4)] [] σ P
set_option maxRecDepth 20000 in
theorem k_MO_isPlainEnd_0 {G : GT} {σ : St} {P : Int → St → Prop}  {v1 : Int} {v2 : Int}  
    (h : CJ G m_MO_canBePlain [O 8, I v1, I ((σ.2.1 8 27) - 1)] σ (fun r3 u2 => (r3 ≠ 0 → (0 ≤ v1 ∧ v1 < 80) ∧ a_MO_isPlainEnd_26 G v2 0 (u2.1 112 v1.toNat) u2 P) ∧ (r3 = 0 → P 0 u2))) :
    a_MO_isPlainEnd_0 G v1 v2 σ P := by
  refine r_aload_n (q := 1) (dc dt_MO_isPlainEnd 0 rfl) rfl rfl 0 rfl ?_
  refine r_iload_n (q := 2) (dc dt_MO_isPlainEnd 1 rfl) rfl rfl 1 rfl ?_
  refine r_aload_n (q := 3) (dc dt_MO_isPlainEnd 2 rfl) rfl rfl 0 rfl ?_
  refine r_getI (q := 6) (v := σ.2.1 8 27) fl_MO_344 (dc dt_MO_isPlainEnd 3 rfl) rfl ly8 rfl rfl (fun g1 => ?_)
  refine r_iconst (q := 7) (dc dt_MO_isPlainEnd 4 rfl) rfl rfl ?_
  refine r_isub (q := 8) (dc dt_MO_isPlainEnd 5 rfl) rfl ?_
  refine r_callVi (q := 11) mk_MO_canBePlain lm_MO_439 (RMO.of rfl) rfl (dc dt_MO_isPlainEnd 6 rfl) rfl ly8 [I v1, I ((σ.2.1 8 27) - 1)] [] rfl rfl (Nat.le_of_ble_eq_true rfl) h (fun r3 u2 g4 h => ?_)
  refine r_if_ne (q := 14) (t := 16) (dc dt_MO_isPlainEnd 7 rfl) rfl (by decide) g4 (fun q_ => ?_) (fun q_ => ?_)
  · have h := h.1 q_
    refine r_iconst (q := 17) (dc dt_MO_isPlainEnd 10 rfl) rfl rfl ?_
    refine r_istore_n (q := 18) (dc dt_MO_isPlainEnd 11 rfl) rfl rfl (by decide) rfl ?_
    refine r_aload_n (q := 19) (dc dt_MO_isPlainEnd 12 rfl) rfl rfl 1 rfl ?_
    refine r_getO (q := 22) (v := 112) fl_MO_80 (dc dt_MO_isPlainEnd 13 rfl) rfl ly8 rfl ?_
    refine r_iload_n (q := 23) (dc dt_MO_isPlainEnd 14 rfl) rfl rfl 2 rfl ?_
    obtain ⟨o5, h⟩ := h
    refine r_iald (q := 24) (v := u2.1 112 v1.toNat) (dc dt_MO_isPlainEnd 15 rfl) rfl ly112 o5 rfl (fun g6 => ?_)
    refine r_istore (q := 26) (dc dt_MO_isPlainEnd 16 rfl) rfl (by decide) rfl ?_
    exact r_loc [2, 4, 1, 0] rfl h
  · have h := h.2 q_
    refine r_iconst (q := 15) (dc dt_MO_isPlainEnd 8 rfl) rfl rfl ?_
    exact r_zret rfl (dc dt_MO_isPlainEnd 9 rfl) (by decide) h
set_option maxRecDepth 20000 in
theorem k_MO_isPlainEnd_26 {G : GT} {σ : St} {P : Int → St → Prop}  {v2 : Int} {v3 : Int} {v4 : Int}  
    (h : (0 ≤ (σ.2.1 8 27) - 1 ∧ (σ.2.1 8 27) - 1 < 80) ∧ rng v4 ∧ (σ.1 113 (((σ.2.1 8 27) - 1).toNat) ≤ v4 → rng v3 ∧ rng v2 ∧ P (if v3 ≤ v2 then 1 else 0) σ) ∧ (v4 < σ.1 113 (((σ.2.1 8 27) - 1).toNat) → (0 ≤ v4 ∧ v4 < 80) ∧ p_MO_placeOf σ v4 v4 ∧ p_MO_plainOf σ (σ.1 118 v4.toNat) (f_MO_placeOf σ v4 v4) ∧ (0 ≤ f_MO_plainOf σ (σ.1 118 v4.toNat) (f_MO_placeOf σ v4 v4) ∧ f_MO_plainOf σ (σ.1 118 v4.toNat) (f_MO_placeOf σ v4 v4) < 200) ∧ a_MO_isPlainEnd_26 G v2 (v3 + (σ.1 97 ((f_MO_plainOf σ (σ.1 118 v4.toNat) (f_MO_placeOf σ v4 v4)).toNat))) (v4 + 1) σ P)) :
    a_MO_isPlainEnd_26 G v2 v3 v4 σ P := by
  refine r_iload (q := 28) (dc dt_MO_isPlainEnd 17 rfl) rfl 3 rfl ?_
  refine r_aload_n (q := 29) (dc dt_MO_isPlainEnd 18 rfl) rfl rfl 0 rfl ?_
  refine r_getO (q := 32) (v := 113) fl_MO_83 (dc dt_MO_isPlainEnd 19 rfl) rfl ly8 rfl ?_
  refine r_aload_n (q := 33) (dc dt_MO_isPlainEnd 20 rfl) rfl rfl 0 rfl ?_
  refine r_getI (q := 36) (v := σ.2.1 8 27) fl_MO_344 (dc dt_MO_isPlainEnd 21 rfl) rfl ly8 rfl rfl (fun g7 => ?_)
  refine r_iconst (q := 37) (dc dt_MO_isPlainEnd 22 rfl) rfl rfl ?_
  refine r_isub (q := 38) (dc dt_MO_isPlainEnd 23 rfl) rfl ?_
  obtain ⟨o8, h⟩ := h
  refine r_iald (q := 39) (v := σ.1 113 (((σ.2.1 8 27) - 1).toNat)) (dc dt_MO_isPlainEnd 24 rfl) rfl ly113 o8 rfl (fun g9 => ?_)
  obtain ⟨o10, h⟩ := h
  refine r_icmp_ge (q := 42) (t := 75) (dc dt_MO_isPlainEnd 25 rfl) rfl (by decide) o10 g9 (fun q_ => ?_) (fun q_ => ?_)
  · have h := h.1 q_
    refine r_iload_n (q := 76) (dc dt_MO_isPlainEnd 44 rfl) rfl rfl 2 rfl ?_
    refine r_iload_n (q := 77) (dc dt_MO_isPlainEnd 45 rfl) rfl rfl 1 rfl ?_
    obtain ⟨o19, h⟩ := h
    obtain ⟨o20, h⟩ := h
    have hJ : ∀ (w_0 : Int), w_0 = (if v3 ≤ v2 then 1 else 0) → A G m_MO_isPlainEnd 85 [(0, O 8), (2, I v2), (3, I v3), (4, I v4)] [I w_0] σ P := by
      intro w_0 z_0
      subst z_0
      exact r_zret rfl (dc dt_MO_isPlainEnd 50 rfl) b01_or h
    clear h
    refine r_icmp_gt (q := 80) (t := 84) (dc dt_MO_isPlainEnd 46 rfl) rfl (by decide) o19 o20 (fun q_ => ?_) (fun q_ => ?_)
    · have q29 := q_
      refine r_iconst (q := 85) (dc dt_MO_isPlainEnd 49 rfl) rfl rfl ?_
      exact (hJ 0 ((if_neg (by first | omega | grind)).symm))
    · have q29 := q_
      refine r_iconst (q := 81) (dc dt_MO_isPlainEnd 47 rfl) rfl rfl ?_
      refine r_goto (q := 85) (dc dt_MO_isPlainEnd 48 rfl) (by decide) ?_
      exact (hJ 1 ((if_pos (by first | omega | grind)).symm))
  · have h := h.2 q_
    refine r_iload_n (q := 43) (dc dt_MO_isPlainEnd 26 rfl) rfl rfl 2 rfl ?_
    refine r_aload_n (q := 44) (dc dt_MO_isPlainEnd 27 rfl) rfl rfl 0 rfl ?_
    refine r_getO (q := 47) (v := 97) fl_MO_35 (dc dt_MO_isPlainEnd 28 rfl) rfl ly8 rfl ?_
    refine r_aload_n (q := 48) (dc dt_MO_isPlainEnd 29 rfl) rfl rfl 0 rfl ?_
    refine r_aload_n (q := 49) (dc dt_MO_isPlainEnd 30 rfl) rfl rfl 0 rfl ?_
    refine r_getO (q := 52) (v := 118) fl_MO_98 (dc dt_MO_isPlainEnd 31 rfl) rfl ly8 rfl ?_
    refine r_iload (q := 54) (dc dt_MO_isPlainEnd 32 rfl) rfl 3 rfl ?_
    obtain ⟨o21, h⟩ := h
    refine r_iald (q := 55) (v := σ.1 118 v4.toNat) (dc dt_MO_isPlainEnd 33 rfl) rfl ly118 o21 rfl (fun g22 => ?_)
    refine r_aload_n (q := 56) (dc dt_MO_isPlainEnd 34 rfl) rfl rfl 0 rfl ?_
    refine r_iload (q := 58) (dc dt_MO_isPlainEnd 35 rfl) rfl 3 rfl ?_
    refine r_iload (q := 60) (dc dt_MO_isPlainEnd 36 rfl) rfl 3 rfl ?_
    obtain ⟨o23, h⟩ := h
    refine r_callVi (q := 63) mk_MO_placeOf lm_MO_366 (RMO.of rfl) rfl (dc dt_MO_isPlainEnd 37 rfl) rfl ly8 [I v4, I v4] [I (σ.1 118 v4.toNat), O 8, O 97, I v3] rfl rfl (Nat.le_of_ble_eq_true rfl) (sp_MO_placeOf o23) (fun _ _ g24 z => ?_)
    obtain ⟨z, w⟩ := z
    subst z
    replace w := w.symm
    subst w
    obtain ⟨o25, h⟩ := h
    refine r_callVi (q := 66) mk_MO_plainOf lm_MO_369 (RMO.of rfl) rfl (dc dt_MO_isPlainEnd 38 rfl) rfl ly8 [I (σ.1 118 v4.toNat), I (f_MO_placeOf σ v4 v4)] [O 97, I v3] rfl rfl (Nat.le_of_ble_eq_true rfl) (sp_MO_plainOf o25) (fun _ _ g26 z => ?_)
    obtain ⟨z, w⟩ := z
    subst z
    replace w := w.symm
    subst w
    obtain ⟨o27, h⟩ := h
    refine r_iald (q := 67) (v := σ.1 97 ((f_MO_plainOf σ (σ.1 118 v4.toNat) (f_MO_placeOf σ v4 v4)).toNat)) (dc dt_MO_isPlainEnd 39 rfl) rfl ly97 o27 rfl (fun g28 => ?_)
    refine r_iadd (q := 68) (dc dt_MO_isPlainEnd 40 rfl) rfl ?_
    refine r_istore_n (q := 69) (dc dt_MO_isPlainEnd 41 rfl) rfl rfl (by decide) rfl ?_
    refine r_iinc (q := 72) (k := 3) (dc dt_MO_isPlainEnd 42 rfl) rfl rfl (by decide) rfl ?_
    refine r_goto (q := 26) (dc dt_MO_isPlainEnd 43 rfl) (by decide) ?_
    exact r_loc [2, 3, 1, 0] rfl h
def tb_MO_setLine : List (Nat × Instr × Nat) := [(0, .aload_n 0, 1), (1, .getfield 231, 3), (4, .iload_n 1, 1), (5, .baload, 1), (6, .ifCond .eq 22, 3), (9, .aload_n 0, 1), (10, .aload_n 0, 1), (11, .getfield 216, 3), (14, .iload_n 1, 1), (15, .iaload, 1), (16, .aload_n 0, 1), (17, .getfield 219, 3), (20, .iload_n 1, 1), (21, .iaload, 1), (22, .invokevirtual 511, 3), (25, .goto 23, 3), (28, .aload_n 0, 1), (29, .aload_n 0, 1), (30, .getfield 216, 3), (33, .iload_n 1, 1), (34, .iaload, 1), (35, .aload_n 0, 1), (36, .getfield 219, 3), (39, .iload_n 1, 1), (40, .iaload, 1), (41, .aload_n 0, 1), (42, .getfield 538, 3), (45, .invokevirtual 505, 3), (48, .ireturn, 1)]
theorem dt_MO_setLine : DT (cM m_MO_setLine) tb_MO_setLine := by unfold DT; decide +kernel
abbrev a_MO_setLine_0 (G : GT)  (v1 : Int) (σ : St) (P : Int → St → Prop) : Prop := A G m_MO_setLine 0 [(0, O 8), (1, I v1)] [] σ P
set_option maxRecDepth 20000 in
theorem k_MO_setLine_0 {G : GT} {σ : St} {P : Int → St → Prop}  {v1 : Int}  
    (h : (0 ≤ v1 ∧ v1 < 80) ∧ (σ.1 162 v1.toNat = 0 → CJ G m_MO_fill [O 8, I (σ.1 157 v1.toNat), I (σ.1 158 v1.toNat), I (σ.2.1 8 108)] σ (fun r10 u9 => (r10 = 0 ∨ r10 = 1) ∧ P r10 u9)) ∧ (σ.1 162 v1.toNat ≠ 0 → CJ G m_MO_setPlain [O 8, I (σ.1 157 v1.toNat), I (σ.1 158 v1.toNat)] σ (fun r16 u15 => (r16 = 0 ∨ r16 = 1) ∧ P r16 u15))) :
    a_MO_setLine_0 G v1 σ P := by
  refine r_aload_n (q := 1) (dc dt_MO_setLine 0 rfl) rfl rfl 0 rfl ?_
  refine r_getO (q := 4) (v := 162) fl_MO_231 (dc dt_MO_setLine 1 rfl) rfl ly8 rfl ?_
  refine r_iload_n (q := 5) (dc dt_MO_setLine 2 rfl) rfl rfl 1 rfl ?_
  obtain ⟨o1, h⟩ := h
  refine r_zald (q := 6) (v := σ.1 162 v1.toNat) (dc dt_MO_setLine 3 rfl) rfl ly162 o1 rfl (fun g2 => ?_)
  refine r_if_eq (q := 9) (t := 28) (dc dt_MO_setLine 4 rfl) rfl (by decide) g2 (fun q_ => ?_) (fun q_ => ?_)
  · have h := h.1 q_
    refine r_aload_n (q := 29) (dc dt_MO_setLine 16 rfl) rfl rfl 0 rfl ?_
    refine r_aload_n (q := 30) (dc dt_MO_setLine 17 rfl) rfl rfl 0 rfl ?_
    refine r_getO (q := 33) (v := 157) fl_MO_216 (dc dt_MO_setLine 18 rfl) rfl ly8 rfl ?_
    refine r_iload_n (q := 34) (dc dt_MO_setLine 19 rfl) rfl rfl 1 rfl ?_
    refine r_iald (q := 35) (v := σ.1 157 v1.toNat) (dc dt_MO_setLine 20 rfl) rfl ly157 o1 rfl (fun g6 => ?_)
    refine r_aload_n (q := 36) (dc dt_MO_setLine 21 rfl) rfl rfl 0 rfl ?_
    refine r_getO (q := 39) (v := 158) fl_MO_219 (dc dt_MO_setLine 22 rfl) rfl ly8 rfl ?_
    refine r_iload_n (q := 40) (dc dt_MO_setLine 23 rfl) rfl rfl 1 rfl ?_
    refine r_iald (q := 41) (v := σ.1 158 v1.toNat) (dc dt_MO_setLine 24 rfl) rfl ly158 o1 rfl (fun g7 => ?_)
    refine r_aload_n (q := 42) (dc dt_MO_setLine 25 rfl) rfl rfl 0 rfl ?_
    refine r_getI (q := 45) (v := σ.2.1 8 108) fl_MO_538 (dc dt_MO_setLine 26 rfl) rfl ly8 rfl rfl (fun g8 => ?_)
    refine r_callVi (q := 48) mk_MO_fill lm_MO_505 (RMO.of rfl) rfl (dc dt_MO_setLine 27 rfl) rfl ly8 [I (σ.1 157 v1.toNat), I (σ.1 158 v1.toNat), I (σ.2.1 8 108)] [] rfl rfl (Nat.le_of_ble_eq_true rfl) h (fun r10 u9 g11 h => ?_)
    obtain ⟨o12, h⟩ := h
    exact r_zret rfl (dc dt_MO_setLine 28 rfl) o12 h
  · have h := h.2 q_
    refine r_aload_n (q := 10) (dc dt_MO_setLine 5 rfl) rfl rfl 0 rfl ?_
    refine r_aload_n (q := 11) (dc dt_MO_setLine 6 rfl) rfl rfl 0 rfl ?_
    refine r_getO (q := 14) (v := 157) fl_MO_216 (dc dt_MO_setLine 7 rfl) rfl ly8 rfl ?_
    refine r_iload_n (q := 15) (dc dt_MO_setLine 8 rfl) rfl rfl 1 rfl ?_
    refine r_iald (q := 16) (v := σ.1 157 v1.toNat) (dc dt_MO_setLine 9 rfl) rfl ly157 o1 rfl (fun g13 => ?_)
    refine r_aload_n (q := 17) (dc dt_MO_setLine 10 rfl) rfl rfl 0 rfl ?_
    refine r_getO (q := 20) (v := 158) fl_MO_219 (dc dt_MO_setLine 11 rfl) rfl ly8 rfl ?_
    refine r_iload_n (q := 21) (dc dt_MO_setLine 12 rfl) rfl rfl 1 rfl ?_
    refine r_iald (q := 22) (v := σ.1 158 v1.toNat) (dc dt_MO_setLine 13 rfl) rfl ly158 o1 rfl (fun g14 => ?_)
    refine r_callVi (q := 25) mk_MO_setPlain lm_MO_511 (RMO.of rfl) rfl (dc dt_MO_setLine 14 rfl) rfl ly8 [I (σ.1 157 v1.toNat), I (σ.1 158 v1.toNat)] [] rfl rfl (Nat.le_of_ble_eq_true rfl) h (fun r16 u15 g17 h => ?_)
    refine r_goto (q := 48) (dc dt_MO_setLine 15 rfl) (by decide) ?_
    obtain ⟨o18, h⟩ := h
    exact r_zret rfl (dc dt_MO_setLine 28 rfl) o18 h
def tb_MO_noteLines : List (Nat × Instr × Nat) := [(0, .aload_n 0, 1), (1, .iconst 1, 1), (2, .putfield 267, 3), (5, .aload_n 0, 1), (6, .iconst 0, 1), (7, .putfield 270, 3), (10, .aload_n 0, 1), (11, .iload_n 1, 1), (12, .putfield 538, 3), (15, .aload_n 0, 1), (16, .iconst 0, 1), (17, .putfield 541, 3), (20, .iconst 0, 1), (21, .istore_n 2, 1), (22, .iload_n 2, 1), (23, .aload_n 0, 1), (24, .getfield 344, 3), (27, .if_icmp .ge 151, 3), (30, .aload_n 0, 1), (31, .getfield 541, 3), (34, .istore_n 3, 1), (35, .aload_n 0, 1), (36, .getfield 216, 3), (39, .iload_n 3, 1), (40, .iload_n 2, 1), (41, .iastore, 1), (42, .aload_n 0, 1), (43, .getfield 219, 3), (46, .iload_n 3, 1), (47, .aload_n 0, 1), (48, .getfield 213, 3), (51, .iload_n 2, 1), (52, .iaload, 1), (53, .iastore, 1), (54, .aload_n 0, 1), (55, .getfield 222, 3), (58, .iload_n 3, 1), (59, .aload_n 0, 1), (60, .getfield 207, 3), (63, .bipush 80, 2), (65, .iload_n 2, 1), (66, .imul, 1), (67, .aload_n 0, 1), (68, .getfield 213, 3), (71, .iload_n 2, 1), (72, .iaload, 1), (73, .iadd, 1), (74, .iaload, 1), (75, .iastore, 1), (76, .aload_n 0, 1), (77, .getfield 231, 3), (80, .iload_n 3, 1), (81, .aload_n 0, 1), (82, .getfield 213, 3), (85, .iload_n 2, 1), (86, .iaload, 1), (87, .aload_n 0, 1), (88, .getfield 344, 3), (91, .iconst 1, 1), (92, .isub, 1), (93, .if_icmp .ne 16, 3), (96, .aload_n 0, 1), (97, .iload_n 2, 1), (98, .iload_n 1, 1), (99, .invokevirtual 531, 3), (102, .ifCond .eq 7, 3), (105, .iconst 1, 1), (106, .goto 4, 3), (109, .iconst 0, 1), (110, .bastore, 1), (111, .aload_n 0, 1), (112, .iload_n 3, 1), (113, .invokevirtual 544, 3), (116, .istore 4, 2), (118, .aload_n 0, 1), (119, .getfield 225, 3), (122, .iload_n 3, 1), (123, .iload 4, 2), (125, .ifCond .eq 10, 3), (128, .aload_n 0, 1), (129, .getfield 449, 3), (132, .goto 4, 3), (135, .iconst 0, 1), (136, .iastore, 1), (137, .aload_n 0, 1), (138, .getfield 228, 3), (141, .iload_n 3, 1), (142, .iload 4, 2), (144, .ifCond .eq 10, 3), (147, .aload_n 0, 1), (148, .getfield 452, 3), (151, .goto 4, 3), (154, .iconst 0, 1), (155, .iastore, 1), (156, .aload_n 0, 1), (157, .dup, 1), (158, .getfield 541, 3), (161, .iconst 1, 1), (162, .iadd, 1), (163, .putfield 541, 3), (166, .aload_n 0, 1), (167, .getfield 213, 3), (170, .iload_n 2, 1), (171, .iaload, 1), (172, .iconst 1, 1), (173, .iadd, 1), (174, .istore_n 2, 1), (175, .goto (-153), 3), (178, .return_, 1)]
theorem dt_MO_noteLines : DT (cM m_MO_noteLines) tb_MO_noteLines := by unfold DT; decide +kernel
abbrev a_MO_noteLines_0 (G : GT)  (v1 : Int) (σ : St) (P : Int → St → Prop) : Prop := A G m_MO_noteLines 0 [(0, O 8), (1, I v1)] [] σ P
abbrev a_MO_noteLines_22 (G : GT)  (v1 : Int) (v2 : Int) (σ : St) (P : Int → St → Prop) : Prop := A G m_MO_noteLines 22 [(0, O 8), (1, I v1), (2, I v2)] [] σ P
set_option maxRecDepth 20000 in
theorem k_MO_noteLines_0 {G : GT} {σ : St} {P : Int → St → Prop}  {v1 : Int}  
    (h : (∀ σ1, σ1 = sf σ 8 100 1 → (∀ σ3, σ3 = sf σ1 8 109 0 → rng v1 ∧ (∀ σ5, σ5 = sf σ3 8 108 v1 → (∀ σ8, σ8 = sf σ5 8 101 0 → a_MO_noteLines_22 G v1 0 σ8 P))))) :
    a_MO_noteLines_0 G v1 σ P := by
  refine r_aload_n (q := 1) (dc dt_MO_noteLines 0 rfl) rfl rfl 0 rfl ?_
  refine r_iconst (q := 2) (dc dt_MO_noteLines 1 rfl) rfl rfl ?_
  refine r_put (q := 5) fl_MO_267 (dc dt_MO_noteLines 2 rfl) rfl ly8 (fun _ => rfl) (Or.inr ⟨rfl, (by decide)⟩) pf_8_100 (⟨by decide, by decide⟩ : rng 1) (fun σ1 e2 => ?_)
  have h := h σ1 e2
  refine r_aload_n (q := 6) (dc dt_MO_noteLines 3 rfl) rfl rfl 0 rfl ?_
  refine r_iconst (q := 7) (dc dt_MO_noteLines 4 rfl) rfl rfl ?_
  refine r_put (q := 10) fl_MO_270 (dc dt_MO_noteLines 5 rfl) rfl ly8 (fun _ => rfl) (Or.inr ⟨rfl, (by decide)⟩) pf_8_109 (⟨by decide, by decide⟩ : rng 0) (fun σ3 e4 => ?_)
  have h := h σ3 e4
  refine r_aload_n (q := 11) (dc dt_MO_noteLines 6 rfl) rfl rfl 0 rfl ?_
  refine r_iload_n (q := 12) (dc dt_MO_noteLines 7 rfl) rfl rfl 1 rfl ?_
  obtain ⟨o7, h⟩ := h
  refine r_put (q := 15) fl_MO_538 (dc dt_MO_noteLines 8 rfl) rfl ly8 (fun _ => rfl) (Or.inl rfl) pf_8_108 o7 (fun σ5 e6 => ?_)
  have h := h σ5 e6
  refine r_aload_n (q := 16) (dc dt_MO_noteLines 9 rfl) rfl rfl 0 rfl ?_
  refine r_iconst (q := 17) (dc dt_MO_noteLines 10 rfl) rfl rfl ?_
  refine r_put (q := 20) fl_MO_541 (dc dt_MO_noteLines 11 rfl) rfl ly8 (fun _ => rfl) (Or.inl rfl) pf_8_101 (⟨by decide, by decide⟩ : rng 0) (fun σ8 e9 => ?_)
  have h := h σ8 e9
  refine r_iconst (q := 21) (dc dt_MO_noteLines 12 rfl) rfl rfl ?_
  refine r_istore_n (q := 22) (dc dt_MO_noteLines 13 rfl) rfl rfl (by decide) rfl ?_
  exact r_loc [1, 2, 0] rfl h
set_option maxRecDepth 20000 in
theorem k_MO_noteLines_22 {G : GT} {σ : St} {P : Int → St → Prop}  {v1 : Int} {v2 : Int}  
    (h : rng v2 ∧ (σ.2.1 8 27 ≤ v2 → P 0 σ) ∧ (v2 < σ.2.1 8 27 → (0 ≤ σ.2.1 8 101 ∧ σ.2.1 8 101 < 80) ∧ (∀ σ15, σ15 = sa σ 157 ((σ.2.1 8 101).toNat) v2 → (0 ≤ v2 ∧ v2 < 81) ∧ (∀ σ19, σ19 = sa σ15 158 ((σ.2.1 8 101).toNat) (σ.1 156 v2.toNat) → (0 ≤ (80 * v2) + (σ.1 156 v2.toNat) ∧ (80 * v2) + (σ.1 156 v2.toNat) < 6400) ∧ (∀ σ24, σ24 = sa σ19 159 ((σ.2.1 8 101).toNat) (σ.1 154 (((80 * v2) + (σ.1 156 v2.toNat)).toNat)) → rng ((σ.2.1 8 27) - 1) ∧ (σ.1 156 v2.toNat ≠ (σ.2.1 8 27) - 1 → (∀ σ29, σ29 = sa σ24 162 ((σ.2.1 8 101).toNat) 0 → CJ G m_MO_setLine [O 8, I (σ.2.1 8 101)] σ29 (fun r32 u31 => rng (if r32 = 0 then (0 : Int) else u31.2.1 8 62) ∧ (∀ σ36, σ36 = sa u31 160 ((σ.2.1 8 101).toNat) (if r32 = 0 then (0 : Int) else u31.2.1 8 62) → rng (if r32 = 0 then (0 : Int) else u31.2.1 8 63) ∧ (∀ σ40, σ40 = sa σ36 161 ((σ.2.1 8 101).toNat) (if r32 = 0 then (0 : Int) else u31.2.1 8 63) → rng ((u31.2.1 8 101) + 1) ∧ (∀ σ43, σ43 = sf σ40 8 101 ((u31.2.1 8 101) + 1) → a_MO_noteLines_22 G v1 ((u31.1 156 v2.toNat) + 1) σ43 P)))))) ∧ (σ.1 156 v2.toNat = (σ.2.1 8 27) - 1 → CJ G m_MO_isPlainEnd [O 8, I v2, I v1] σ24 (fun r48 u47 => (∀ σ50, σ50 = sa u47 162 ((σ.2.1 8 101).toNat) (if r48 ≠ 0 then 1 else 0) → CJ G m_MO_setLine [O 8, I (σ.2.1 8 101)] σ50 (fun r53 u52 => rng (if r53 = 0 then (0 : Int) else u52.2.1 8 62) ∧ (∀ σ57, σ57 = sa u52 160 ((σ.2.1 8 101).toNat) (if r53 = 0 then (0 : Int) else u52.2.1 8 62) → rng (if r53 = 0 then (0 : Int) else u52.2.1 8 63) ∧ (∀ σ61, σ61 = sa σ57 161 ((σ.2.1 8 101).toNat) (if r53 = 0 then (0 : Int) else u52.2.1 8 63) → rng ((u52.2.1 8 101) + 1) ∧ (∀ σ64, σ64 = sf σ61 8 101 ((u52.2.1 8 101) + 1) → a_MO_noteLines_22 G v1 ((u52.1 156 v2.toNat) + 1) σ64 P)))))))))))) :
    a_MO_noteLines_22 G v1 v2 σ P := by
  refine r_iload_n (q := 23) (dc dt_MO_noteLines 14 rfl) rfl rfl 2 rfl ?_
  refine r_aload_n (q := 24) (dc dt_MO_noteLines 15 rfl) rfl rfl 0 rfl ?_
  refine r_getI (q := 27) (v := σ.2.1 8 27) fl_MO_344 (dc dt_MO_noteLines 16 rfl) rfl ly8 rfl rfl (fun g10 => ?_)
  obtain ⟨o11, h⟩ := h
  refine r_icmp_ge (q := 30) (t := 178) (dc dt_MO_noteLines 17 rfl) rfl (by decide) o11 g10 (fun q_ => ?_) (fun q_ => ?_)
  · have h := h.1 q_
    exact r_vret rfl (dc dt_MO_noteLines 108 rfl) h
  · have h := h.2 q_
    refine r_aload_n (q := 31) (dc dt_MO_noteLines 18 rfl) rfl rfl 0 rfl ?_
    refine r_getI (q := 34) (v := σ.2.1 8 101) fl_MO_541 (dc dt_MO_noteLines 19 rfl) rfl ly8 rfl rfl (fun g13 => ?_)
    refine r_istore_n (q := 35) (dc dt_MO_noteLines 20 rfl) rfl rfl (by decide) rfl ?_
    refine r_aload_n (q := 36) (dc dt_MO_noteLines 21 rfl) rfl rfl 1 rfl ?_
    refine r_getO (q := 39) (v := 157) fl_MO_216 (dc dt_MO_noteLines 22 rfl) rfl ly8 rfl ?_
    refine r_iload_n (q := 40) (dc dt_MO_noteLines 23 rfl) rfl rfl 0 rfl ?_
    refine r_iload_n (q := 41) (dc dt_MO_noteLines 24 rfl) rfl rfl 3 rfl ?_
    obtain ⟨o14, h⟩ := h
    refine r_iast (q := 42) (dc dt_MO_noteLines 25 rfl) rfl ly157 o14 o11 (fun σ15 e16 => ?_)
    have h := h σ15 e16
    refine r_aload_n (q := 43) (dc dt_MO_noteLines 26 rfl) rfl rfl 1 rfl ?_
    refine r_getO (q := 46) (v := 158) fl_MO_219 (dc dt_MO_noteLines 27 rfl) rfl ly8 rfl ?_
    refine r_iload_n (q := 47) (dc dt_MO_noteLines 28 rfl) rfl rfl 0 rfl ?_
    refine r_aload_n (q := 48) (dc dt_MO_noteLines 29 rfl) rfl rfl 1 rfl ?_
    refine r_getO (q := 51) (v := 156) fl_MO_213 (dc dt_MO_noteLines 30 rfl) rfl ly8 rfl ?_
    refine r_iload_n (q := 52) (dc dt_MO_noteLines 31 rfl) rfl rfl 3 rfl ?_
    obtain ⟨o17, h⟩ := h
    refine r_iald (q := 53) (v := σ.1 156 v2.toNat) (dc dt_MO_noteLines 32 rfl) rfl ly156 o17 (by rw [e16]; rfl) (fun g18 => ?_)
    refine r_iast (q := 54) (dc dt_MO_noteLines 33 rfl) rfl ly158 o14 g18 (fun σ19 e20 => ?_)
    have h := h σ19 e20
    refine r_aload_n (q := 55) (dc dt_MO_noteLines 34 rfl) rfl rfl 1 rfl ?_
    refine r_getO (q := 58) (v := 159) fl_MO_222 (dc dt_MO_noteLines 35 rfl) rfl ly8 rfl ?_
    refine r_iload_n (q := 59) (dc dt_MO_noteLines 36 rfl) rfl rfl 0 rfl ?_
    refine r_aload_n (q := 60) (dc dt_MO_noteLines 37 rfl) rfl rfl 1 rfl ?_
    refine r_getO (q := 63) (v := 154) fl_MO_207 (dc dt_MO_noteLines 38 rfl) rfl ly8 rfl ?_
    refine r_bipush (q := 65) (dc dt_MO_noteLines 39 rfl) rfl (by decide) ?_
    refine r_iload_n (q := 66) (dc dt_MO_noteLines 40 rfl) rfl rfl 3 rfl ?_
    refine r_imul (q := 67) (dc dt_MO_noteLines 41 rfl) rfl ?_
    refine r_aload_n (q := 68) (dc dt_MO_noteLines 42 rfl) rfl rfl 1 rfl ?_
    refine r_getO (q := 71) (v := 156) fl_MO_213 (dc dt_MO_noteLines 43 rfl) rfl ly8 rfl ?_
    refine r_iload_n (q := 72) (dc dt_MO_noteLines 44 rfl) rfl rfl 3 rfl ?_
    refine r_iald (q := 73) (v := σ.1 156 v2.toNat) (dc dt_MO_noteLines 45 rfl) rfl ly156 o17 (by rw [e20, e16]; rfl) (fun g21 => ?_)
    refine r_iadd (q := 74) (dc dt_MO_noteLines 46 rfl) rfl ?_
    obtain ⟨o22, h⟩ := h
    refine r_iald (q := 75) (v := σ.1 154 (((80 * v2) + (σ.1 156 v2.toNat)).toNat)) (dc dt_MO_noteLines 47 rfl) rfl ly154 o22 (by rw [e20, e16]; rfl) (fun g23 => ?_)
    refine r_iast (q := 76) (dc dt_MO_noteLines 48 rfl) rfl ly159 o14 g23 (fun σ24 e25 => ?_)
    have h := h σ24 e25
    refine r_aload_n (q := 77) (dc dt_MO_noteLines 49 rfl) rfl rfl 1 rfl ?_
    refine r_getO (q := 80) (v := 162) fl_MO_231 (dc dt_MO_noteLines 50 rfl) rfl ly8 rfl ?_
    refine r_iload_n (q := 81) (dc dt_MO_noteLines 51 rfl) rfl rfl 0 rfl ?_
    refine r_aload_n (q := 82) (dc dt_MO_noteLines 52 rfl) rfl rfl 1 rfl ?_
    refine r_getO (q := 85) (v := 156) fl_MO_213 (dc dt_MO_noteLines 53 rfl) rfl ly8 rfl ?_
    refine r_iload_n (q := 86) (dc dt_MO_noteLines 54 rfl) rfl rfl 3 rfl ?_
    refine r_iald (q := 87) (v := σ.1 156 v2.toNat) (dc dt_MO_noteLines 55 rfl) rfl ly156 o17 (by rw [e25, e20, e16]; rfl) (fun g26 => ?_)
    refine r_aload_n (q := 88) (dc dt_MO_noteLines 56 rfl) rfl rfl 1 rfl ?_
    refine r_getI (q := 91) (v := σ.2.1 8 27) fl_MO_344 (dc dt_MO_noteLines 57 rfl) rfl ly8 rfl (by rw [e25, e20, e16]; rfl) (fun g27 => ?_)
    refine r_iconst (q := 92) (dc dt_MO_noteLines 58 rfl) rfl rfl ?_
    refine r_isub (q := 93) (dc dt_MO_noteLines 59 rfl) rfl ?_
    obtain ⟨o28, h⟩ := h
    refine r_icmp_ne (q := 96) (t := 109) (dc dt_MO_noteLines 60 rfl) rfl (by decide) g26 o28 (fun q_ => ?_) (fun q_ => ?_)
    · have h := h.1 q_
      refine r_iconst (q := 110) (dc dt_MO_noteLines 68 rfl) rfl rfl ?_
      refine r_zast (q := 111) (dc dt_MO_noteLines 69 rfl) rfl ly162 o14 (by decide) (fun σ29 e30 => ?_)
      have h := h σ29 e30
      refine r_aload_n (q := 112) (dc dt_MO_noteLines 70 rfl) rfl rfl 1 rfl ?_
      refine r_iload_n (q := 113) (dc dt_MO_noteLines 71 rfl) rfl rfl 0 rfl ?_
      refine r_callVi (q := 116) mk_MO_setLine lm_MO_544 (RMO.of rfl) rfl (dc dt_MO_noteLines 72 rfl) rfl ly8 [I (σ.2.1 8 101)] [] rfl rfl (Nat.le_of_ble_eq_true rfl) h (fun r32 u31 g33 h => ?_)
      refine r_istore (q := 118) (dc dt_MO_noteLines 73 rfl) rfl (by decide) rfl ?_
      refine r_aload_n (q := 119) (dc dt_MO_noteLines 74 rfl) rfl rfl 2 rfl ?_
      refine r_getO (q := 122) (v := 160) fl_MO_225 (dc dt_MO_noteLines 75 rfl) rfl ly8 rfl ?_
      refine r_iload_n (q := 123) (dc dt_MO_noteLines 76 rfl) rfl rfl 1 rfl ?_
      refine r_iload (q := 125) (dc dt_MO_noteLines 77 rfl) rfl 0 rfl ?_
      have hJ : ∀ (w_0 : Int), w_0 = (if r32 = 0 then (0 : Int) else u31.2.1 8 62) → A G m_MO_noteLines 136 [(4, I r32), (3, I (σ.2.1 8 101)), (0, O 8), (1, I v1), (2, I v2)] [I w_0, I (σ.2.1 8 101), O 160] u31 P := by
        intro w_0 z_0
        subst z_0
        obtain ⟨o35, h⟩ := h
        refine r_iast (q := 137) (dc dt_MO_noteLines 83 rfl) rfl ly160 o14 o35 (fun σ36 e37 => ?_)
        have h := h σ36 e37
        refine r_aload_n (q := 138) (dc dt_MO_noteLines 84 rfl) rfl rfl 2 rfl ?_
        refine r_getO (q := 141) (v := 161) fl_MO_228 (dc dt_MO_noteLines 85 rfl) rfl ly8 rfl ?_
        refine r_iload_n (q := 142) (dc dt_MO_noteLines 86 rfl) rfl rfl 1 rfl ?_
        refine r_iload (q := 144) (dc dt_MO_noteLines 87 rfl) rfl 0 rfl ?_
        have hJ : ∀ (w_0 : Int), w_0 = (if r32 = 0 then (0 : Int) else u31.2.1 8 63) → A G m_MO_noteLines 155 [(4, I r32), (3, I (σ.2.1 8 101)), (0, O 8), (1, I v1), (2, I v2)] [I w_0, I (σ.2.1 8 101), O 161] σ36 P := by
          intro w_0 z_0
          subst z_0
          obtain ⟨o39, h⟩ := h
          refine r_iast (q := 156) (dc dt_MO_noteLines 93 rfl) rfl ly161 o14 o39 (fun σ40 e41 => ?_)
          have h := h σ40 e41
          refine r_aload_n (q := 157) (dc dt_MO_noteLines 94 rfl) rfl rfl 2 rfl ?_
          refine r_dupo (q := 158) (dc dt_MO_noteLines 95 rfl) rfl ?_
          refine r_getI (q := 161) (v := u31.2.1 8 101) fl_MO_541 (dc dt_MO_noteLines 96 rfl) rfl ly8 rfl (by rw [e41, e37]; rfl) (fun g42 => ?_)
          refine r_iconst (q := 162) (dc dt_MO_noteLines 97 rfl) rfl rfl ?_
          refine r_iadd (q := 163) (dc dt_MO_noteLines 98 rfl) rfl ?_
          obtain ⟨o45, h⟩ := h
          refine r_put (q := 166) fl_MO_541 (dc dt_MO_noteLines 99 rfl) rfl ly8 (fun _ => rfl) (Or.inl rfl) pf_8_101 o45 (fun σ43 e44 => ?_)
          have h := h σ43 e44
          refine r_aload_n (q := 167) (dc dt_MO_noteLines 100 rfl) rfl rfl 2 rfl ?_
          refine r_getO (q := 170) (v := 156) fl_MO_213 (dc dt_MO_noteLines 101 rfl) rfl ly8 rfl ?_
          refine r_iload_n (q := 171) (dc dt_MO_noteLines 102 rfl) rfl rfl 4 rfl ?_
          refine r_iald (q := 172) (v := u31.1 156 v2.toNat) (dc dt_MO_noteLines 103 rfl) rfl ly156 o17 (by rw [e44, e41, e37]; rfl) (fun g46 => ?_)
          refine r_iconst (q := 173) (dc dt_MO_noteLines 104 rfl) rfl rfl ?_
          refine r_iadd (q := 174) (dc dt_MO_noteLines 105 rfl) rfl ?_
          refine r_istore_n (q := 175) (dc dt_MO_noteLines 106 rfl) rfl rfl (by decide) rfl ?_
          refine r_goto (q := 22) (dc dt_MO_noteLines 107 rfl) (by decide) ?_
          exact r_loc [3, 4, 0] rfl h
        clear h
        refine r_if_eq (q := 147) (t := 154) (dc dt_MO_noteLines 88 rfl) rfl (by decide) g33 (fun q_ => ?_) (fun q_ => ?_)
        · have q68 := q_
          refine r_iconst (q := 155) (dc dt_MO_noteLines 92 rfl) rfl rfl ?_
          exact (hJ 0 ((if_pos (by first | omega | grind)).symm))
        · have q68 := q_
          refine r_aload_n (q := 148) (dc dt_MO_noteLines 89 rfl) rfl rfl 2 rfl ?_
          refine r_getI (q := 151) (v := u31.2.1 8 63) fl_MO_452 (dc dt_MO_noteLines 90 rfl) rfl ly8 rfl (by rw [e37]; rfl) (fun g38 => ?_)
          refine r_goto (q := 155) (dc dt_MO_noteLines 91 rfl) (by decide) ?_
          exact (hJ (u31.2.1 8 63) ((if_neg (by first | omega | grind)).symm))
      clear h
      refine r_if_eq (q := 128) (t := 135) (dc dt_MO_noteLines 78 rfl) rfl (by decide) g33 (fun q_ => ?_) (fun q_ => ?_)
      · have q69 := q_
        refine r_iconst (q := 136) (dc dt_MO_noteLines 82 rfl) rfl rfl ?_
        exact (hJ 0 ((if_pos (by first | omega | grind)).symm))
      · have q69 := q_
        refine r_aload_n (q := 129) (dc dt_MO_noteLines 79 rfl) rfl rfl 2 rfl ?_
        refine r_getI (q := 132) (v := u31.2.1 8 62) fl_MO_449 (dc dt_MO_noteLines 80 rfl) rfl ly8 rfl rfl (fun g34 => ?_)
        refine r_goto (q := 136) (dc dt_MO_noteLines 81 rfl) (by decide) ?_
        exact (hJ (u31.2.1 8 62) ((if_neg (by first | omega | grind)).symm))
    · have h := h.2 q_
      refine r_aload_n (q := 97) (dc dt_MO_noteLines 61 rfl) rfl rfl 1 rfl ?_
      refine r_iload_n (q := 98) (dc dt_MO_noteLines 62 rfl) rfl rfl 3 rfl ?_
      refine r_iload_n (q := 99) (dc dt_MO_noteLines 63 rfl) rfl rfl 2 rfl ?_
      refine r_callVi (q := 102) mk_MO_isPlainEnd lm_MO_531 (RMO.of rfl) rfl (dc dt_MO_noteLines 64 rfl) rfl ly8 [I v2, I v1] [I (σ.2.1 8 101), O 162] rfl rfl (Nat.le_of_ble_eq_true rfl) h (fun r48 u47 g49 h => ?_)
      have hJ : ∀ (w_0 : Int), w_0 = (if r48 ≠ 0 then 1 else 0) → A G m_MO_noteLines 110 [(3, I (σ.2.1 8 101)), (0, O 8), (1, I v1), (2, I v2)] [I w_0, I (σ.2.1 8 101), O 162] u47 P := by
        intro w_0 z_0
        subst z_0
        refine r_zast (q := 111) (dc dt_MO_noteLines 69 rfl) rfl ly162 o14 b01_or (fun σ50 e51 => ?_)
        have h := h σ50 e51
        refine r_aload_n (q := 112) (dc dt_MO_noteLines 70 rfl) rfl rfl 1 rfl ?_
        refine r_iload_n (q := 113) (dc dt_MO_noteLines 71 rfl) rfl rfl 0 rfl ?_
        refine r_callVi (q := 116) mk_MO_setLine lm_MO_544 (RMO.of rfl) rfl (dc dt_MO_noteLines 72 rfl) rfl ly8 [I (σ.2.1 8 101)] [] rfl rfl (Nat.le_of_ble_eq_true rfl) h (fun r53 u52 g54 h => ?_)
        refine r_istore (q := 118) (dc dt_MO_noteLines 73 rfl) rfl (by decide) rfl ?_
        refine r_aload_n (q := 119) (dc dt_MO_noteLines 74 rfl) rfl rfl 2 rfl ?_
        refine r_getO (q := 122) (v := 160) fl_MO_225 (dc dt_MO_noteLines 75 rfl) rfl ly8 rfl ?_
        refine r_iload_n (q := 123) (dc dt_MO_noteLines 76 rfl) rfl rfl 1 rfl ?_
        refine r_iload (q := 125) (dc dt_MO_noteLines 77 rfl) rfl 0 rfl ?_
        have hJ : ∀ (w_0 : Int), w_0 = (if r53 = 0 then (0 : Int) else u52.2.1 8 62) → A G m_MO_noteLines 136 [(4, I r53), (3, I (σ.2.1 8 101)), (0, O 8), (1, I v1), (2, I v2)] [I w_0, I (σ.2.1 8 101), O 160] u52 P := by
          intro w_0 z_0
          subst z_0
          obtain ⟨o56, h⟩ := h
          refine r_iast (q := 137) (dc dt_MO_noteLines 83 rfl) rfl ly160 o14 o56 (fun σ57 e58 => ?_)
          have h := h σ57 e58
          refine r_aload_n (q := 138) (dc dt_MO_noteLines 84 rfl) rfl rfl 2 rfl ?_
          refine r_getO (q := 141) (v := 161) fl_MO_228 (dc dt_MO_noteLines 85 rfl) rfl ly8 rfl ?_
          refine r_iload_n (q := 142) (dc dt_MO_noteLines 86 rfl) rfl rfl 1 rfl ?_
          refine r_iload (q := 144) (dc dt_MO_noteLines 87 rfl) rfl 0 rfl ?_
          have hJ : ∀ (w_0 : Int), w_0 = (if r53 = 0 then (0 : Int) else u52.2.1 8 63) → A G m_MO_noteLines 155 [(4, I r53), (3, I (σ.2.1 8 101)), (0, O 8), (1, I v1), (2, I v2)] [I w_0, I (σ.2.1 8 101), O 161] σ57 P := by
            intro w_0 z_0
            subst z_0
            obtain ⟨o60, h⟩ := h
            refine r_iast (q := 156) (dc dt_MO_noteLines 93 rfl) rfl ly161 o14 o60 (fun σ61 e62 => ?_)
            have h := h σ61 e62
            refine r_aload_n (q := 157) (dc dt_MO_noteLines 94 rfl) rfl rfl 2 rfl ?_
            refine r_dupo (q := 158) (dc dt_MO_noteLines 95 rfl) rfl ?_
            refine r_getI (q := 161) (v := u52.2.1 8 101) fl_MO_541 (dc dt_MO_noteLines 96 rfl) rfl ly8 rfl (by rw [e62, e58]; rfl) (fun g63 => ?_)
            refine r_iconst (q := 162) (dc dt_MO_noteLines 97 rfl) rfl rfl ?_
            refine r_iadd (q := 163) (dc dt_MO_noteLines 98 rfl) rfl ?_
            obtain ⟨o66, h⟩ := h
            refine r_put (q := 166) fl_MO_541 (dc dt_MO_noteLines 99 rfl) rfl ly8 (fun _ => rfl) (Or.inl rfl) pf_8_101 o66 (fun σ64 e65 => ?_)
            have h := h σ64 e65
            refine r_aload_n (q := 167) (dc dt_MO_noteLines 100 rfl) rfl rfl 2 rfl ?_
            refine r_getO (q := 170) (v := 156) fl_MO_213 (dc dt_MO_noteLines 101 rfl) rfl ly8 rfl ?_
            refine r_iload_n (q := 171) (dc dt_MO_noteLines 102 rfl) rfl rfl 4 rfl ?_
            refine r_iald (q := 172) (v := u52.1 156 v2.toNat) (dc dt_MO_noteLines 103 rfl) rfl ly156 o17 (by rw [e65, e62, e58]; rfl) (fun g67 => ?_)
            refine r_iconst (q := 173) (dc dt_MO_noteLines 104 rfl) rfl rfl ?_
            refine r_iadd (q := 174) (dc dt_MO_noteLines 105 rfl) rfl ?_
            refine r_istore_n (q := 175) (dc dt_MO_noteLines 106 rfl) rfl rfl (by decide) rfl ?_
            refine r_goto (q := 22) (dc dt_MO_noteLines 107 rfl) (by decide) ?_
            exact r_loc [3, 4, 0] rfl h
          clear h
          refine r_if_eq (q := 147) (t := 154) (dc dt_MO_noteLines 88 rfl) rfl (by decide) g54 (fun q_ => ?_) (fun q_ => ?_)
          · have q70 := q_
            refine r_iconst (q := 155) (dc dt_MO_noteLines 92 rfl) rfl rfl ?_
            exact (hJ 0 ((if_pos (by first | omega | grind)).symm))
          · have q70 := q_
            refine r_aload_n (q := 148) (dc dt_MO_noteLines 89 rfl) rfl rfl 2 rfl ?_
            refine r_getI (q := 151) (v := u52.2.1 8 63) fl_MO_452 (dc dt_MO_noteLines 90 rfl) rfl ly8 rfl (by rw [e58]; rfl) (fun g59 => ?_)
            refine r_goto (q := 155) (dc dt_MO_noteLines 91 rfl) (by decide) ?_
            exact (hJ (u52.2.1 8 63) ((if_neg (by first | omega | grind)).symm))
        clear h
        refine r_if_eq (q := 128) (t := 135) (dc dt_MO_noteLines 78 rfl) rfl (by decide) g54 (fun q_ => ?_) (fun q_ => ?_)
        · have q71 := q_
          refine r_iconst (q := 136) (dc dt_MO_noteLines 82 rfl) rfl rfl ?_
          exact (hJ 0 ((if_pos (by first | omega | grind)).symm))
        · have q71 := q_
          refine r_aload_n (q := 129) (dc dt_MO_noteLines 79 rfl) rfl rfl 2 rfl ?_
          refine r_getI (q := 132) (v := u52.2.1 8 62) fl_MO_449 (dc dt_MO_noteLines 80 rfl) rfl ly8 rfl rfl (fun g55 => ?_)
          refine r_goto (q := 136) (dc dt_MO_noteLines 81 rfl) (by decide) ?_
          exact (hJ (u52.2.1 8 62) ((if_neg (by first | omega | grind)).symm))
      clear h
      refine r_if_eq (q := 105) (t := 109) (dc dt_MO_noteLines 65 rfl) rfl (by decide) g49 (fun q_ => ?_) (fun q_ => ?_)
      · have q72 := q_
        refine r_iconst (q := 110) (dc dt_MO_noteLines 68 rfl) rfl rfl ?_
        exact (hJ 0 ((if_neg (by first | omega | grind)).symm))
      · have q72 := q_
        refine r_iconst (q := 106) (dc dt_MO_noteLines 66 rfl) rfl rfl ?_
        refine r_goto (q := 110) (dc dt_MO_noteLines 67 rfl) (by decide) ?_
        exact (hJ 1 ((if_pos (by first | omega | grind)).symm))
def tb_MO_best : List (Nat × Instr × Nat) := [(0, .iload_n 1, 1), (1, .i2l, 1), (2, .lconst 1, 1), (3, .ldc2_w 494, 3), (6, .invokestatic 253, 3), (9, .ifCond .ne 6, 3), (12, .bipush (-2), 2), (14, .ireturn, 1), (15, .aload_n 0, 1), (16, .invokevirtual 363, 3), (19, .aload_n 0, 1), (20, .getfield 344, 3), (23, .ifCond .ne 6, 3), (26, .bipush (-3), 2), (28, .ireturn, 1), (29, .iconst 0, 1), (30, .istore_n 2, 1), (31, .iload_n 2, 1), (32, .aload_n 0, 1), (33, .getfield 344, 3), (36, .if_icmp .ge 107, 3), (39, .aload_n 0, 1), (40, .aload_n 0, 1), (41, .getfield 80, 3), (44, .iconst 0, 1), (45, .iaload, 1), (46, .aload_n 0, 1), (47, .getfield 83, 3), (50, .iload_n 2, 1), (51, .iaload, 1), (52, .invokevirtual 427, 3), (55, .iconst 0, 1), (56, .istore_n 3, 1), (57, .iload_n 3, 1), (58, .iload_n 2, 1), (59, .if_icmp .gt 78, 3), (62, .aload_n 0, 1), (63, .iload_n 3, 1), (64, .iload_n 2, 1), (65, .invokevirtual 424, 3), (68, .ifCond .eq 22, 3), (71, .aload_n 0, 1), (72, .getfield 117, 3), (75, .aload_n 0, 1), (76, .getfield 80, 3), (79, .iload_n 3, 1), (80, .iaload, 1), (81, .iload_n 1, 1), (82, .iconst 0, 1), (83, .invokestatic 372, 3), (86, .iaload, 1), (87, .goto 6, 3), (90, .ldc_w 376, 3), (93, .istore 4, 2), (95, .aload_n 0, 1), (96, .getfield 207, 3), (99, .bipush 80, 2), (101, .iload_n 3, 1), (102, .imul, 1), (103, .iload_n 2, 1), (104, .iadd, 1), (105, .iload_n 2, 1), (106, .aload_n 0, 1), (107, .getfield 344, 3), (110, .iconst 1, 1), (111, .isub, 1), (112, .if_icmp .ne 16, 3), (115, .aload_n 0, 1), (116, .iload_n 3, 1), (117, .iload_n 1, 1), (118, .invokevirtual 531, 3), (121, .ifCond .eq 7, 3), (124, .iconst 0, 1), (125, .goto 5, 3), (128, .iload 4, 2), (130, .iastore, 1), (131, .iinc 3 1, 3), (134, .goto (-77), 3), (137, .iinc 2 1, 3), (140, .goto (-109), 3), (143, .aload_n 0, 1), (144, .getfield 210, 3), (147, .aload_n 0, 1), (148, .getfield 344, 3), (151, .iconst 0, 1), (152, .iastore, 1), (153, .aload_n 0, 1), (154, .getfield 344, 3), (157, .iconst 1, 1), (158, .isub, 1), (159, .istore_n 2, 1), (160, .iload_n 2, 1), (161, .ifCond .lt 134, 3), (164, .aload_n 0, 1), (165, .getfield 210, 3), (168, .iload_n 2, 1), (169, .ldc_w 376, 3), (172, .iastore, 1), (173, .aload_n 0, 1), (174, .getfield 213, 3), (177, .iload_n 2, 1), (178, .iload_n 2, 1), (179, .iastore, 1), (180, .iload_n 2, 1), (181, .istore_n 3, 1), (182, .iload_n 3, 1), (183, .aload_n 0, 1), (184, .getfield 344, 3), (187, .if_icmp .ge 102, 3), (190, .aload_n 0, 1), (191, .getfield 207, 3), (194, .bipush 80, 2), (196, .iload_n 2, 1), (197, .imul, 1), (198, .iload_n 3, 1), (199, .iadd, 1), (200, .iaload, 1), (201, .ldc_w 376, 3), (204, .if_icmp .ge 79, 3), (207, .aload_n 0, 1), (208, .getfield 210, 3), (211, .iload_n 3, 1), (212, .iconst 1, 1), (213, .iadd, 1), (214, .iaload, 1), (215, .ldc_w 376, 3), (218, .if_icmp .ge 65, 3), (221, .aload_n 0, 1), (222, .getfield 207, 3), (225, .bipush 80, 2), (227, .iload_n 2, 1), (228, .imul, 1), (229, .iload_n 3, 1), (230, .iadd, 1), (231, .iaload, 1), (232, .aload_n 0, 1), (233, .getfield 210, 3), (236, .iload_n 3, 1), (237, .iconst 1, 1), (238, .iadd, 1), (239, .iaload, 1), (240, .iadd, 1), (241, .aload_n 0, 1), (242, .getfield 210, 3), (245, .iload_n 2, 1), (246, .iaload, 1), (247, .if_icmp .gt 36, 3), (250, .aload_n 0, 1), (251, .getfield 210, 3), (254, .iload_n 2, 1), (255, .aload_n 0, 1), (256, .getfield 207, 3), (259, .bipush 80, 2), (261, .iload_n 2, 1), (262, .imul, 1), (263, .iload_n 3, 1), (264, .iadd, 1), (265, .iaload, 1), (266, .aload_n 0, 1), (267, .getfield 210, 3), (270, .iload_n 3, 1), (271, .iconst 1, 1), (272, .iadd, 1), (273, .iaload, 1), (274, .iadd, 1), (275, .iastore, 1), (276, .aload_n 0, 1), (277, .getfield 213, 3), (280, .iload_n 2, 1), (281, .iload_n 3, 1), (282, .iastore, 1), (283, .iinc 3 1, 3), (286, .goto (-104), 3), (289, .iinc 2 (-1), 3), (292, .goto (-132), 3), (295, .aload_n 0, 1), (296, .getfield 210, 3), (299, .iconst 0, 1), (300, .iaload, 1), (301, .ldc_w 376, 3), (304, .if_icmp .lt 6, 3), (307, .bipush (-5), 2), (309, .ireturn, 1), (310, .aload_n 0, 1), (311, .iload_n 1, 1), (312, .invokevirtual 534, 3), (315, .aload_n 0, 1), (316, .getfield 210, 3), (319, .iconst 0, 1), (320, .iaload, 1), (321, .ireturn, 1)]
theorem dt_MO_best : DT (cM m_MO_best) tb_MO_best := by unfold DT; decide +kernel
abbrev a_MO_best_0 (G : GT)  (v1 : Int) (σ : St) (P : Int → St → Prop) : Prop := A G m_MO_best 0 [(0, O 8), (1, I v1)] [] σ P
abbrev a_MO_best_31 (G : GT)  (v1 : Int) (v2 : Int) (σ : St) (P : Int → St → Prop) : Prop := A G m_MO_best 31 [(0, O 8), (1, I v1), (2, I v2)] [] σ P
abbrev a_MO_best_160 (G : GT)  (v1 : Int) (v2 : Int) (σ : St) (P : Int → St → Prop) : Prop := A G m_MO_best 160 [(0, O 8), (1, I v1), (2, I v2)] [] σ P
abbrev a_MO_best_57 (G : GT)  (v1 : Int) (v2 : Int) (v3 : Int) (σ : St) (P : Int → St → Prop) : Prop := A G m_MO_best 57 [(0, O 8), (1, I v1), (2, I v2), (3, I v3)] [] σ P
abbrev a_MO_best_182 (G : GT)  (v1 : Int) (v2 : Int) (v3 : Int) (σ : St) (P : Int → St → Prop) : Prop := A G m_MO_best 182 [(0, O 8), (1, I v1), (2, I v2), (3, I v3)] [] σ P
set_option maxRecDepth 20000 in
theorem k_MO_best_0 {G : GT} {σ : St} {P : Int → St → Prop}  {v1 : Int}  
    (h : rng v1 ∧ (1 ≤ v1 ∧ v1 ≤ 300 → CJ G m_MO_cut [O 8] σ (fun _ u3 => (u3.2.1 8 27 ≠ 0 → a_MO_best_31 G v1 0 u3 P) ∧ (u3.2.1 8 27 = 0 → P (-3) u3))) ∧ (¬ (1 ≤ v1 ∧ v1 ≤ 300) → P (-2) σ)) :
    a_MO_best_0 G v1 σ P := by
  refine r_iload_n (q := 1) (dc dt_MO_best 0 rfl) rfl rfl 1 rfl ?_
  obtain ⟨o1, h⟩ := h
  refine r_i2l (q := 2) (dc dt_MO_best 1 rfl) rfl o1 ?_
  refine r_lconst (q := 3) (n := 1) (dc dt_MO_best 2 rfl) rfl rfl ?_
  refine r_ldc2 (q := 6) (n := 300) (dc dt_MO_best 3 rfl) rfl (gt_at 1606 (by decide +kernel) rfl) ?_
  refine r_callSi (q := 9) mk_MO_in lm_MO_253 (RMO.of rfl) rfl (dc dt_MO_best 4 rfl) rfl [J v1, J 1, J 300] [] rfl rfl (Nat.le_of_ble_eq_true rfl) (sp_MO_in o1 (⟨by decide, by decide⟩ : rng 1) (⟨by decide, by decide⟩ : rng 300)) (fun _ _ g2 z => ?_)
  obtain ⟨z, w⟩ := z
  subst z
  replace w := w.symm
  subst w
  refine r_ifb_ne (q := 12) (t := 15) (dc dt_MO_best 5 rfl) rfl (by decide) (fun q_ => ?_) (fun q_ => ?_)
  · have h := h.1 q_
    refine r_aload_n (q := 16) (dc dt_MO_best 8 rfl) rfl rfl 0 rfl ?_
    refine r_callVv (q := 19) mk_MO_cut lm_MO_363 (RMO.of rfl) rfl (dc dt_MO_best 9 rfl) rfl ly8 [] [] rfl rfl (Nat.le_of_ble_eq_true rfl) h (fun u3 h => ?_)
    refine r_aload_n (q := 20) (dc dt_MO_best 10 rfl) rfl rfl 0 rfl ?_
    refine r_getI (q := 23) (v := u3.2.1 8 27) fl_MO_344 (dc dt_MO_best 11 rfl) rfl ly8 rfl rfl (fun g4 => ?_)
    refine r_if_ne (q := 26) (t := 29) (dc dt_MO_best 12 rfl) rfl (by decide) g4 (fun q_ => ?_) (fun q_ => ?_)
    · have h := h.1 q_
      refine r_iconst (q := 30) (dc dt_MO_best 15 rfl) rfl rfl ?_
      refine r_istore_n (q := 31) (dc dt_MO_best 16 rfl) rfl rfl (by decide) rfl ?_
      exact r_loc [1, 2, 0] rfl h
    · have h := h.2 q_
      refine r_bipush (q := 28) (dc dt_MO_best 13 rfl) rfl (by decide) ?_
      exact r_iret rfl (dc dt_MO_best 14 rfl) (⟨by decide, by decide⟩ : rng (-3)) h
  · have h := h.2 q_
    refine r_bipush (q := 14) (dc dt_MO_best 6 rfl) rfl (by decide) ?_
    exact r_iret rfl (dc dt_MO_best 7 rfl) (⟨by decide, by decide⟩ : rng (-2)) h
set_option maxRecDepth 20000 in
theorem k_MO_best_31 {G : GT} {σ : St} {P : Int → St → Prop}  {v1 : Int} {v2 : Int}  
    (h : rng v2 ∧ (σ.2.1 8 27 ≤ v2 → (0 ≤ σ.2.1 8 27 ∧ σ.2.1 8 27 < 81) ∧ (∀ σ12, σ12 = sa σ 155 ((σ.2.1 8 27).toNat) 0 → a_MO_best_160 G v1 ((σ.2.1 8 27) - 1) σ12 P)) ∧ (v2 < σ.2.1 8 27 → (0 ≤ v2 ∧ v2 < 80) ∧ CJ G m_MO_findLeast [O 8, I (σ.1 112 0), I (σ.1 113 v2.toNat)] σ (fun _ u18 => a_MO_best_57 G v1 v2 0 u18 P))) :
    a_MO_best_31 G v1 v2 σ P := by
  refine r_iload_n (q := 32) (dc dt_MO_best 17 rfl) rfl rfl 2 rfl ?_
  refine r_aload_n (q := 33) (dc dt_MO_best 18 rfl) rfl rfl 0 rfl ?_
  refine r_getI (q := 36) (v := σ.2.1 8 27) fl_MO_344 (dc dt_MO_best 19 rfl) rfl ly8 rfl rfl (fun g5 => ?_)
  obtain ⟨o6, h⟩ := h
  refine r_icmp_ge (q := 39) (t := 143) (dc dt_MO_best 20 rfl) rfl (by decide) o6 g5 (fun q_ => ?_) (fun q_ => ?_)
  · have h := h.1 q_
    refine r_aload_n (q := 144) (dc dt_MO_best 80 rfl) rfl rfl 0 rfl ?_
    refine r_getO (q := 147) (v := 155) fl_MO_210 (dc dt_MO_best 81 rfl) rfl ly8 rfl ?_
    refine r_aload_n (q := 148) (dc dt_MO_best 82 rfl) rfl rfl 0 rfl ?_
    refine r_getI (q := 151) (v := σ.2.1 8 27) fl_MO_344 (dc dt_MO_best 83 rfl) rfl ly8 rfl rfl (fun g10 => ?_)
    refine r_iconst (q := 152) (dc dt_MO_best 84 rfl) rfl rfl ?_
    obtain ⟨o11, h⟩ := h
    refine r_iast (q := 153) (dc dt_MO_best 85 rfl) rfl ly155 o11 (⟨by decide, by decide⟩ : rng 0) (fun σ12 e13 => ?_)
    have h := h σ12 e13
    refine r_aload_n (q := 154) (dc dt_MO_best 86 rfl) rfl rfl 0 rfl ?_
    refine r_getI (q := 157) (v := σ.2.1 8 27) fl_MO_344 (dc dt_MO_best 87 rfl) rfl ly8 rfl (by rw [e13]; rfl) (fun g14 => ?_)
    refine r_iconst (q := 158) (dc dt_MO_best 88 rfl) rfl rfl ?_
    refine r_isub (q := 159) (dc dt_MO_best 89 rfl) rfl ?_
    refine r_istore_n (q := 160) (dc dt_MO_best 90 rfl) rfl rfl (by decide) rfl ?_
    exact r_loc [1, 2, 0] rfl h
  · have h := h.2 q_
    refine r_aload_n (q := 40) (dc dt_MO_best 21 rfl) rfl rfl 0 rfl ?_
    refine r_aload_n (q := 41) (dc dt_MO_best 22 rfl) rfl rfl 0 rfl ?_
    refine r_getO (q := 44) (v := 112) fl_MO_80 (dc dt_MO_best 23 rfl) rfl ly8 rfl ?_
    refine r_iconst (q := 45) (dc dt_MO_best 24 rfl) rfl rfl ?_
    refine r_iald (q := 46) (v := σ.1 112 0) (dc dt_MO_best 25 rfl) rfl ly112 ⟨by decide, by decide⟩ rfl (fun g15 => ?_)
    refine r_aload_n (q := 47) (dc dt_MO_best 26 rfl) rfl rfl 0 rfl ?_
    refine r_getO (q := 50) (v := 113) fl_MO_83 (dc dt_MO_best 27 rfl) rfl ly8 rfl ?_
    refine r_iload_n (q := 51) (dc dt_MO_best 28 rfl) rfl rfl 2 rfl ?_
    obtain ⟨o16, h⟩ := h
    refine r_iald (q := 52) (v := σ.1 113 v2.toNat) (dc dt_MO_best 29 rfl) rfl ly113 o16 rfl (fun g17 => ?_)
    refine r_callVv (q := 55) mk_MO_findLeast lm_MO_427 (RMO.of rfl) rfl (dc dt_MO_best 30 rfl) rfl ly8 [I (σ.1 112 0), I (σ.1 113 v2.toNat)] [] rfl rfl (Nat.le_of_ble_eq_true rfl) h (fun u18 h => ?_)
    refine r_iconst (q := 56) (dc dt_MO_best 31 rfl) rfl rfl ?_
    refine r_istore_n (q := 57) (dc dt_MO_best 32 rfl) rfl rfl (by decide) rfl ?_
    exact r_loc [1, 2, 3, 0] rfl h
set_option maxRecDepth 20000 in
theorem k_MO_best_160 {G : GT} {σ : St} {P : Int → St → Prop}  {v1 : Int} {v2 : Int}  
    (h : rng v2 ∧ (v2 < 0 → (σ.1 155 0 < 536870912 → CJ G m_MO_noteLines [O 8, I v1] σ (fun _ u21 => P (u21.1 155 0) u21)) ∧ (536870912 ≤ σ.1 155 0 → P (-5) σ)) ∧ (0 ≤ v2 → (0 ≤ v2 ∧ v2 < 81) ∧ (∀ σ24, σ24 = sa σ 155 v2.toNat 536870912 → (∀ σ26, σ26 = sa σ24 156 v2.toNat v2 → a_MO_best_182 G v1 v2 v2 σ26 P)))) :
    a_MO_best_160 G v1 v2 σ P := by
  refine r_iload_n (q := 161) (dc dt_MO_best 91 rfl) rfl rfl 2 rfl ?_
  obtain ⟨o19, h⟩ := h
  refine r_if_lt (q := 164) (t := 295) (dc dt_MO_best 92 rfl) rfl (by decide) o19 (fun q_ => ?_) (fun q_ => ?_)
  · have h := h.1 q_
    refine r_aload_n (q := 296) (dc dt_MO_best 175 rfl) rfl rfl 0 rfl ?_
    refine r_getO (q := 299) (v := 155) fl_MO_210 (dc dt_MO_best 176 rfl) rfl ly8 rfl ?_
    refine r_iconst (q := 300) (dc dt_MO_best 177 rfl) rfl rfl ?_
    refine r_iald (q := 301) (v := σ.1 155 0) (dc dt_MO_best 178 rfl) rfl ly155 ⟨by decide, by decide⟩ rfl (fun g20 => ?_)
    refine r_ldcw (q := 304) (n := 536870912) (dc dt_MO_best 179 rfl) rfl (gt_at 1622 (by decide +kernel) rfl) ?_
    refine r_icmp_lt (q := 307) (t := 310) (dc dt_MO_best 180 rfl) rfl (by decide) g20 (⟨by decide, by decide⟩ : rng 536870912) (fun q_ => ?_) (fun q_ => ?_)
    · have h := h.1 q_
      refine r_aload_n (q := 311) (dc dt_MO_best 183 rfl) rfl rfl 0 rfl ?_
      refine r_iload_n (q := 312) (dc dt_MO_best 184 rfl) rfl rfl 1 rfl ?_
      refine r_callVv (q := 315) mk_MO_noteLines lm_MO_534 (RMO.of rfl) rfl (dc dt_MO_best 185 rfl) rfl ly8 [I v1] [] rfl rfl (Nat.le_of_ble_eq_true rfl) h (fun u21 h => ?_)
      refine r_aload_n (q := 316) (dc dt_MO_best 186 rfl) rfl rfl 0 rfl ?_
      refine r_getO (q := 319) (v := 155) fl_MO_210 (dc dt_MO_best 187 rfl) rfl ly8 rfl ?_
      refine r_iconst (q := 320) (dc dt_MO_best 188 rfl) rfl rfl ?_
      refine r_iald (q := 321) (v := u21.1 155 0) (dc dt_MO_best 189 rfl) rfl ly155 ⟨by decide, by decide⟩ rfl (fun g22 => ?_)
      exact r_iret rfl (dc dt_MO_best 190 rfl) g22 h
    · have h := h.2 q_
      refine r_bipush (q := 309) (dc dt_MO_best 181 rfl) rfl (by decide) ?_
      exact r_iret rfl (dc dt_MO_best 182 rfl) (⟨by decide, by decide⟩ : rng (-5)) h
  · have h := h.2 q_
    refine r_aload_n (q := 165) (dc dt_MO_best 93 rfl) rfl rfl 0 rfl ?_
    refine r_getO (q := 168) (v := 155) fl_MO_210 (dc dt_MO_best 94 rfl) rfl ly8 rfl ?_
    refine r_iload_n (q := 169) (dc dt_MO_best 95 rfl) rfl rfl 2 rfl ?_
    refine r_ldcw (q := 172) (n := 536870912) (dc dt_MO_best 96 rfl) rfl (gt_at 1622 (by decide +kernel) rfl) ?_
    obtain ⟨o23, h⟩ := h
    refine r_iast (q := 173) (dc dt_MO_best 97 rfl) rfl ly155 o23 (⟨by decide, by decide⟩ : rng 536870912) (fun σ24 e25 => ?_)
    have h := h σ24 e25
    refine r_aload_n (q := 174) (dc dt_MO_best 98 rfl) rfl rfl 0 rfl ?_
    refine r_getO (q := 177) (v := 156) fl_MO_213 (dc dt_MO_best 99 rfl) rfl ly8 rfl ?_
    refine r_iload_n (q := 178) (dc dt_MO_best 100 rfl) rfl rfl 2 rfl ?_
    refine r_iload_n (q := 179) (dc dt_MO_best 101 rfl) rfl rfl 2 rfl ?_
    refine r_iast (q := 180) (dc dt_MO_best 102 rfl) rfl ly156 o23 o19 (fun σ26 e27 => ?_)
    have h := h σ26 e27
    refine r_iload_n (q := 181) (dc dt_MO_best 103 rfl) rfl rfl 2 rfl ?_
    refine r_istore_n (q := 182) (dc dt_MO_best 104 rfl) rfl rfl (by decide) rfl ?_
    exact r_loc [1, 2, 3, 0] rfl h
set_option maxRecDepth 20000 in
theorem k_MO_best_57 {G : GT} {σ : St} {P : Int → St → Prop}  {v1 : Int} {v2 : Int} {v3 : Int}  
    (h : rng v3 ∧ rng v2 ∧ (v2 < v3 → a_MO_best_31 G v1 (v2 + 1) σ P) ∧ (v3 ≤ v2 → CJ G m_MO_haveForms [O 8, I v3, I v2] σ (fun r31 u30 => ((r31 ≠ 0 → (0 ≤ v3 ∧ v3 < 80) ∧ rng (((((u30.1 112 v3.toNat) * 301) + v1) * 4) + 0) ∧ 0 ≤ ((((u30.1 112 v3.toNat) * 301) + v1) * 4) + 0 ∧ ((((u30.1 112 v3.toNat) * 301) + v1) * 4) + 0 < 97524)) ∧ rng ((u30.2.1 8 27) - 1) ∧ (v2 ≠ (u30.2.1 8 27) - 1 → (0 ≤ (80 * v3) + v2 ∧ (80 * v3) + v2 < 6400) ∧ rng (if r31 = 0 then (536870912 : Int) else u30.1 124 ((((((u30.1 112 v3.toNat) * 301) + v1) * 4) + 0).toNat)) ∧ (∀ σ43, σ43 = sa u30 154 (((80 * v3) + v2).toNat) (if r31 = 0 then (536870912 : Int) else u30.1 124 ((((((u30.1 112 v3.toNat) * 301) + v1) * 4) + 0).toNat)) → a_MO_best_57 G v1 v2 (v3 + 1) σ43 P)) ∧ (v2 = (u30.2.1 8 27) - 1 → CJ G m_MO_isPlainEnd [O 8, I v3, I v1] u30 (fun r46 u45 => (0 ≤ (80 * v3) + v2 ∧ (80 * v3) + v2 < 6400) ∧ rng (if r46 = 0 then (if r31 = 0 then (536870912 : Int) else u30.1 124 ((((((u30.1 112 v3.toNat) * 301) + v1) * 4) + 0).toNat)) else (0 : Int)) ∧ (∀ σ50, σ50 = sa u45 154 (((80 * v3) + v2).toNat) (if r46 = 0 then (if r31 = 0 then (536870912 : Int) else u30.1 124 ((((((u30.1 112 v3.toNat) * 301) + v1) * 4) + 0).toNat)) else (0 : Int)) → a_MO_best_57 G v1 v2 (v3 + 1) σ50 P)))))) :
    a_MO_best_57 G v1 v2 v3 σ P := by
  refine r_iload_n (q := 58) (dc dt_MO_best 33 rfl) rfl rfl 3 rfl ?_
  refine r_iload_n (q := 59) (dc dt_MO_best 34 rfl) rfl rfl 2 rfl ?_
  obtain ⟨o28, h⟩ := h
  obtain ⟨o29, h⟩ := h
  refine r_icmp_gt (q := 62) (t := 137) (dc dt_MO_best 35 rfl) rfl (by decide) o28 o29 (fun q_ => ?_) (fun q_ => ?_)
  · have h := h.1 q_
    refine r_iinc (q := 140) (k := 2) (dc dt_MO_best 78 rfl) rfl rfl (by decide) rfl ?_
    refine r_goto (q := 31) (dc dt_MO_best 79 rfl) (by decide) ?_
    exact r_loc [1, 2, 0] rfl h
  · have h := h.2 q_
    refine r_aload_n (q := 63) (dc dt_MO_best 36 rfl) rfl rfl 0 rfl ?_
    refine r_iload_n (q := 64) (dc dt_MO_best 37 rfl) rfl rfl 3 rfl ?_
    refine r_iload_n (q := 65) (dc dt_MO_best 38 rfl) rfl rfl 2 rfl ?_
    refine r_callVi (q := 68) mk_MO_haveForms lm_MO_424 (RMO.of rfl) rfl (dc dt_MO_best 39 rfl) rfl ly8 [I v3, I v2] [] rfl rfl (Nat.le_of_ble_eq_true rfl) h (fun r31 u30 g32 h => ?_)
    obtain ⟨ho, h⟩ := h
    have hJ : ∀ (w_0 : Int), w_0 = (if r31 = 0 then (536870912 : Int) else u30.1 124 ((((((u30.1 112 v3.toNat) * 301) + v1) * 4) + 0).toNat)) → A G m_MO_best 93 [(0, O 8), (1, I v1), (2, I v2), (3, I v3)] [I w_0] u30 P := by
      intro w_0 z_0
      subst z_0
      refine r_istore (q := 95) (dc dt_MO_best 53 rfl) rfl (by decide) rfl ?_
      refine r_aload_n (q := 96) (dc dt_MO_best 54 rfl) rfl rfl 1 rfl ?_
      refine r_getO (q := 99) (v := 154) fl_MO_207 (dc dt_MO_best 55 rfl) rfl ly8 rfl ?_
      refine r_bipush (q := 101) (dc dt_MO_best 56 rfl) rfl (by decide) ?_
      refine r_iload_n (q := 102) (dc dt_MO_best 57 rfl) rfl rfl 4 rfl ?_
      refine r_imul (q := 103) (dc dt_MO_best 58 rfl) rfl ?_
      refine r_iload_n (q := 104) (dc dt_MO_best 59 rfl) rfl rfl 3 rfl ?_
      refine r_iadd (q := 105) (dc dt_MO_best 60 rfl) rfl ?_
      refine r_iload_n (q := 106) (dc dt_MO_best 61 rfl) rfl rfl 3 rfl ?_
      refine r_aload_n (q := 107) (dc dt_MO_best 62 rfl) rfl rfl 1 rfl ?_
      refine r_getI (q := 110) (v := u30.2.1 8 27) fl_MO_344 (dc dt_MO_best 63 rfl) rfl ly8 rfl rfl (fun g39 => ?_)
      refine r_iconst (q := 111) (dc dt_MO_best 64 rfl) rfl rfl ?_
      refine r_isub (q := 112) (dc dt_MO_best 65 rfl) rfl ?_
      obtain ⟨o40, h⟩ := h
      refine r_icmp_ne (q := 115) (t := 128) (dc dt_MO_best 66 rfl) rfl (by decide) o29 o40 (fun q_ => ?_) (fun q_ => ?_)
      · have h := h.1 q_
        refine r_iload (q := 130) (dc dt_MO_best 74 rfl) rfl 0 rfl ?_
        obtain ⟨o41, h⟩ := h
        obtain ⟨o42, h⟩ := h
        refine r_iast (q := 131) (dc dt_MO_best 75 rfl) rfl ly154 o41 o42 (fun σ43 e44 => ?_)
        have h := h σ43 e44
        refine r_iinc (q := 134) (k := 4) (dc dt_MO_best 76 rfl) rfl rfl (by decide) rfl ?_
        refine r_goto (q := 57) (dc dt_MO_best 77 rfl) (by decide) ?_
        exact r_loc [2, 3, 4, 0] rfl h
      · have h := h.2 q_
        refine r_aload_n (q := 116) (dc dt_MO_best 67 rfl) rfl rfl 1 rfl ?_
        refine r_iload_n (q := 117) (dc dt_MO_best 68 rfl) rfl rfl 4 rfl ?_
        refine r_iload_n (q := 118) (dc dt_MO_best 69 rfl) rfl rfl 2 rfl ?_
        refine r_callVi (q := 121) mk_MO_isPlainEnd lm_MO_531 (RMO.of rfl) rfl (dc dt_MO_best 70 rfl) rfl ly8 [I v3, I v1] [I ((80 * v3) + v2), O 154] rfl rfl (Nat.le_of_ble_eq_true rfl) h (fun r46 u45 g47 h => ?_)
        have hJ : ∀ (w_0 : Int), w_0 = (if r46 = 0 then (if r31 = 0 then (536870912 : Int) else u30.1 124 ((((((u30.1 112 v3.toNat) * 301) + v1) * 4) + 0).toNat)) else (0 : Int)) → A G m_MO_best 130 [(4, I (if r31 = 0 then (536870912 : Int) else u30.1 124 ((((((u30.1 112 v3.toNat) * 301) + v1) * 4) + 0).toNat))), (0, O 8), (1, I v1), (2, I v2), (3, I v3)] [I w_0, I ((80 * v3) + v2), O 154] u45 P := by
          intro w_0 z_0
          subst z_0
          obtain ⟨o48, h⟩ := h
          obtain ⟨o49, h⟩ := h
          refine r_iast (q := 131) (dc dt_MO_best 75 rfl) rfl ly154 o48 o49 (fun σ50 e51 => ?_)
          have h := h σ50 e51
          refine r_iinc (q := 134) (k := 4) (dc dt_MO_best 76 rfl) rfl rfl (by decide) rfl ?_
          refine r_goto (q := 57) (dc dt_MO_best 77 rfl) (by decide) ?_
          exact r_loc [2, 3, 4, 0] rfl h
        clear h
        refine r_if_eq (q := 124) (t := 128) (dc dt_MO_best 71 rfl) rfl (by decide) g47 (fun q_ => ?_) (fun q_ => ?_)
        · have q98 := q_
          refine r_iload (q := 130) (dc dt_MO_best 74 rfl) rfl 0 rfl ?_
          exact (hJ (if r31 = 0 then (536870912 : Int) else u30.1 124 ((((((u30.1 112 v3.toNat) * 301) + v1) * 4) + 0).toNat)) ((if_pos (by first | omega | grind)).symm))
        · have q98 := q_
          refine r_iconst (q := 125) (dc dt_MO_best 72 rfl) rfl rfl ?_
          refine r_goto (q := 130) (dc dt_MO_best 73 rfl) (by decide) ?_
          exact (hJ 0 ((if_neg (by first | omega | grind)).symm))
    clear h
    refine r_if_eq (q := 71) (t := 90) (dc dt_MO_best 40 rfl) rfl (by decide) g32 (fun q_ => ?_) (fun q_ => ?_)
    · have q99 := q_
      refine r_ldcw (q := 93) (n := 536870912) (dc dt_MO_best 52 rfl) rfl (gt_at 1622 (by decide +kernel) rfl) ?_
      exact (hJ 536870912 ((if_pos (by first | omega | grind)).symm))
    · have q99 := q_
      have ho := ho q_
      refine r_aload_n (q := 72) (dc dt_MO_best 41 rfl) rfl rfl 0 rfl ?_
      refine r_getO (q := 75) (v := 124) fl_MO_117 (dc dt_MO_best 42 rfl) rfl ly8 rfl ?_
      refine r_aload_n (q := 76) (dc dt_MO_best 43 rfl) rfl rfl 0 rfl ?_
      refine r_getO (q := 79) (v := 112) fl_MO_80 (dc dt_MO_best 44 rfl) rfl ly8 rfl ?_
      refine r_iload_n (q := 80) (dc dt_MO_best 45 rfl) rfl rfl 3 rfl ?_
      obtain ⟨o33, ho⟩ := ho
      refine r_iald (q := 81) (v := u30.1 112 v3.toNat) (dc dt_MO_best 46 rfl) rfl ly112 o33 rfl (fun g34 => ?_)
      refine r_iload_n (q := 82) (dc dt_MO_best 47 rfl) rfl rfl 1 rfl ?_
      refine r_iconst (q := 83) (dc dt_MO_best 48 rfl) rfl rfl ?_
      obtain ⟨o35, ho⟩ := ho
      refine r_callSi (q := 86) mk_MO_at lm_MO_372 (RMO.of rfl) rfl (dc dt_MO_best 49 rfl) rfl [I (u30.1 112 v3.toNat), I v1, I 0] [O 124] rfl rfl (Nat.le_of_ble_eq_true rfl) (sp_MO_at o35) (fun _ _ g36 z => ?_)
      obtain ⟨z, w⟩ := z
      subst z
      replace w := w.symm
      subst w
      have o37 := ho
      refine r_iald (q := 87) (v := u30.1 124 ((((((u30.1 112 v3.toNat) * 301) + v1) * 4) + 0).toNat)) (dc dt_MO_best 50 rfl) rfl ly124 o37 rfl (fun g38 => ?_)
      refine r_goto (q := 93) (dc dt_MO_best 51 rfl) (by decide) ?_
      exact (hJ (u30.1 124 ((((((u30.1 112 v3.toNat) * 301) + v1) * 4) + 0).toNat)) ((if_neg (by first | omega | grind)).symm))
set_option maxRecDepth 20000 in
theorem k_MO_best_182 {G : GT} {σ : St} {P : Int → St → Prop}  {v1 : Int} {v2 : Int} {v3 : Int}  
    (h : rng v3 ∧ (σ.2.1 8 27 ≤ v3 → a_MO_best_160 G v1 (v2 + (-1)) σ P) ∧ (v3 < σ.2.1 8 27 → (0 ≤ (80 * v2) + v3 ∧ (80 * v2) + v3 < 6400) ∧ (536870912 ≤ σ.1 154 (((80 * v2) + v3).toNat) → a_MO_best_182 G v1 v2 (v3 + 1) σ P) ∧ (σ.1 154 (((80 * v2) + v3).toNat) < 536870912 → (0 ≤ v3 + 1 ∧ v3 + 1 < 81) ∧ (536870912 ≤ σ.1 155 ((v3 + 1).toNat) → a_MO_best_182 G v1 v2 (v3 + 1) σ P) ∧ (σ.1 155 ((v3 + 1).toNat) < 536870912 → (0 ≤ v2 ∧ v2 < 81) ∧ rng ((σ.1 154 (((80 * v2) + v3).toNat)) + (σ.1 155 ((v3 + 1).toNat))) ∧ (σ.1 155 v2.toNat < (σ.1 154 (((80 * v2) + v3).toNat)) + (σ.1 155 ((v3 + 1).toNat)) → a_MO_best_182 G v1 v2 (v3 + 1) σ P) ∧ ((σ.1 154 (((80 * v2) + v3).toNat)) + (σ.1 155 ((v3 + 1).toNat)) ≤ σ.1 155 v2.toNat → (∀ σ94, σ94 = sa σ 155 v2.toNat ((σ.1 154 (((80 * v2) + v3).toNat)) + (σ.1 155 ((v3 + 1).toNat))) → (∀ σ96, σ96 = sa σ94 156 v2.toNat v3 → a_MO_best_182 G v1 v2 (v3 + 1) σ96 P))))))) :
    a_MO_best_182 G v1 v2 v3 σ P := by
  refine r_iload_n (q := 183) (dc dt_MO_best 105 rfl) rfl rfl 3 rfl ?_
  refine r_aload_n (q := 184) (dc dt_MO_best 106 rfl) rfl rfl 0 rfl ?_
  refine r_getI (q := 187) (v := σ.2.1 8 27) fl_MO_344 (dc dt_MO_best 107 rfl) rfl ly8 rfl rfl (fun g52 => ?_)
  obtain ⟨o53, h⟩ := h
  refine r_icmp_ge (q := 190) (t := 289) (dc dt_MO_best 108 rfl) rfl (by decide) o53 g52 (fun q_ => ?_) (fun q_ => ?_)
  · have h := h.1 q_
    refine r_iinc (q := 292) (k := 2) (dc dt_MO_best 173 rfl) rfl rfl (by decide) rfl ?_
    refine r_goto (q := 160) (dc dt_MO_best 174 rfl) (by decide) ?_
    exact r_loc [1, 2, 0] rfl h
  · have h := h.2 q_
    refine r_aload_n (q := 191) (dc dt_MO_best 109 rfl) rfl rfl 0 rfl ?_
    refine r_getO (q := 194) (v := 154) fl_MO_207 (dc dt_MO_best 110 rfl) rfl ly8 rfl ?_
    refine r_bipush (q := 196) (dc dt_MO_best 111 rfl) rfl (by decide) ?_
    refine r_iload_n (q := 197) (dc dt_MO_best 112 rfl) rfl rfl 2 rfl ?_
    refine r_imul (q := 198) (dc dt_MO_best 113 rfl) rfl ?_
    refine r_iload_n (q := 199) (dc dt_MO_best 114 rfl) rfl rfl 3 rfl ?_
    refine r_iadd (q := 200) (dc dt_MO_best 115 rfl) rfl ?_
    obtain ⟨o65, h⟩ := h
    refine r_iald (q := 201) (v := σ.1 154 (((80 * v2) + v3).toNat)) (dc dt_MO_best 116 rfl) rfl ly154 o65 rfl (fun g66 => ?_)
    refine r_ldcw (q := 204) (n := 536870912) (dc dt_MO_best 117 rfl) rfl (gt_at 1622 (by decide +kernel) rfl) ?_
    refine r_icmp_ge (q := 207) (t := 283) (dc dt_MO_best 118 rfl) rfl (by decide) g66 (⟨by decide, by decide⟩ : rng 536870912) (fun q_ => ?_) (fun q_ => ?_)
    · have h := h.1 q_
      refine r_iinc (q := 286) (k := 3) (dc dt_MO_best 171 rfl) rfl rfl (by decide) rfl ?_
      refine r_goto (q := 182) (dc dt_MO_best 172 rfl) (by decide) ?_
      exact r_loc [1, 2, 3, 0] rfl h
    · have h := h.2 q_
      refine r_aload_n (q := 208) (dc dt_MO_best 119 rfl) rfl rfl 0 rfl ?_
      refine r_getO (q := 211) (v := 155) fl_MO_210 (dc dt_MO_best 120 rfl) rfl ly8 rfl ?_
      refine r_iload_n (q := 212) (dc dt_MO_best 121 rfl) rfl rfl 3 rfl ?_
      refine r_iconst (q := 213) (dc dt_MO_best 122 rfl) rfl rfl ?_
      refine r_iadd (q := 214) (dc dt_MO_best 123 rfl) rfl ?_
      obtain ⟨o76, h⟩ := h
      refine r_iald (q := 215) (v := σ.1 155 ((v3 + 1).toNat)) (dc dt_MO_best 124 rfl) rfl ly155 o76 rfl (fun g77 => ?_)
      refine r_ldcw (q := 218) (n := 536870912) (dc dt_MO_best 125 rfl) rfl (gt_at 1622 (by decide +kernel) rfl) ?_
      refine r_icmp_ge (q := 221) (t := 283) (dc dt_MO_best 126 rfl) rfl (by decide) g77 (⟨by decide, by decide⟩ : rng 536870912) (fun q_ => ?_) (fun q_ => ?_)
      · have h := h.1 q_
        refine r_iinc (q := 286) (k := 3) (dc dt_MO_best 171 rfl) rfl rfl (by decide) rfl ?_
        refine r_goto (q := 182) (dc dt_MO_best 172 rfl) (by decide) ?_
        exact r_loc [1, 2, 3, 0] rfl h
      · have h := h.2 q_
        refine r_aload_n (q := 222) (dc dt_MO_best 127 rfl) rfl rfl 0 rfl ?_
        refine r_getO (q := 225) (v := 154) fl_MO_207 (dc dt_MO_best 128 rfl) rfl ly8 rfl ?_
        refine r_bipush (q := 227) (dc dt_MO_best 129 rfl) rfl (by decide) ?_
        refine r_iload_n (q := 228) (dc dt_MO_best 130 rfl) rfl rfl 2 rfl ?_
        refine r_imul (q := 229) (dc dt_MO_best 131 rfl) rfl ?_
        refine r_iload_n (q := 230) (dc dt_MO_best 132 rfl) rfl rfl 3 rfl ?_
        refine r_iadd (q := 231) (dc dt_MO_best 133 rfl) rfl ?_
        refine r_iald (q := 232) (v := σ.1 154 (((80 * v2) + v3).toNat)) (dc dt_MO_best 134 rfl) rfl ly154 o65 rfl (fun g85 => ?_)
        refine r_aload_n (q := 233) (dc dt_MO_best 135 rfl) rfl rfl 0 rfl ?_
        refine r_getO (q := 236) (v := 155) fl_MO_210 (dc dt_MO_best 136 rfl) rfl ly8 rfl ?_
        refine r_iload_n (q := 237) (dc dt_MO_best 137 rfl) rfl rfl 3 rfl ?_
        refine r_iconst (q := 238) (dc dt_MO_best 138 rfl) rfl rfl ?_
        refine r_iadd (q := 239) (dc dt_MO_best 139 rfl) rfl ?_
        refine r_iald (q := 240) (v := σ.1 155 ((v3 + 1).toNat)) (dc dt_MO_best 140 rfl) rfl ly155 o76 rfl (fun g86 => ?_)
        refine r_iadd (q := 241) (dc dt_MO_best 141 rfl) rfl ?_
        refine r_aload_n (q := 242) (dc dt_MO_best 142 rfl) rfl rfl 0 rfl ?_
        refine r_getO (q := 245) (v := 155) fl_MO_210 (dc dt_MO_best 143 rfl) rfl ly8 rfl ?_
        refine r_iload_n (q := 246) (dc dt_MO_best 144 rfl) rfl rfl 2 rfl ?_
        obtain ⟨o87, h⟩ := h
        refine r_iald (q := 247) (v := σ.1 155 v2.toNat) (dc dt_MO_best 145 rfl) rfl ly155 o87 rfl (fun g88 => ?_)
        obtain ⟨o89, h⟩ := h
        refine r_icmp_gt (q := 250) (t := 283) (dc dt_MO_best 146 rfl) rfl (by decide) o89 g88 (fun q_ => ?_) (fun q_ => ?_)
        · have h := h.1 q_
          refine r_iinc (q := 286) (k := 3) (dc dt_MO_best 171 rfl) rfl rfl (by decide) rfl ?_
          refine r_goto (q := 182) (dc dt_MO_best 172 rfl) (by decide) ?_
          exact r_loc [1, 2, 3, 0] rfl h
        · have h := h.2 q_
          refine r_aload_n (q := 251) (dc dt_MO_best 147 rfl) rfl rfl 0 rfl ?_
          refine r_getO (q := 254) (v := 155) fl_MO_210 (dc dt_MO_best 148 rfl) rfl ly8 rfl ?_
          refine r_iload_n (q := 255) (dc dt_MO_best 149 rfl) rfl rfl 2 rfl ?_
          refine r_aload_n (q := 256) (dc dt_MO_best 150 rfl) rfl rfl 0 rfl ?_
          refine r_getO (q := 259) (v := 154) fl_MO_207 (dc dt_MO_best 151 rfl) rfl ly8 rfl ?_
          refine r_bipush (q := 261) (dc dt_MO_best 152 rfl) rfl (by decide) ?_
          refine r_iload_n (q := 262) (dc dt_MO_best 153 rfl) rfl rfl 2 rfl ?_
          refine r_imul (q := 263) (dc dt_MO_best 154 rfl) rfl ?_
          refine r_iload_n (q := 264) (dc dt_MO_best 155 rfl) rfl rfl 3 rfl ?_
          refine r_iadd (q := 265) (dc dt_MO_best 156 rfl) rfl ?_
          refine r_iald (q := 266) (v := σ.1 154 (((80 * v2) + v3).toNat)) (dc dt_MO_best 157 rfl) rfl ly154 o65 rfl (fun g92 => ?_)
          refine r_aload_n (q := 267) (dc dt_MO_best 158 rfl) rfl rfl 0 rfl ?_
          refine r_getO (q := 270) (v := 155) fl_MO_210 (dc dt_MO_best 159 rfl) rfl ly8 rfl ?_
          refine r_iload_n (q := 271) (dc dt_MO_best 160 rfl) rfl rfl 3 rfl ?_
          refine r_iconst (q := 272) (dc dt_MO_best 161 rfl) rfl rfl ?_
          refine r_iadd (q := 273) (dc dt_MO_best 162 rfl) rfl ?_
          refine r_iald (q := 274) (v := σ.1 155 ((v3 + 1).toNat)) (dc dt_MO_best 163 rfl) rfl ly155 o76 rfl (fun g93 => ?_)
          refine r_iadd (q := 275) (dc dt_MO_best 164 rfl) rfl ?_
          refine r_iast (q := 276) (dc dt_MO_best 165 rfl) rfl ly155 o87 o89 (fun σ94 e95 => ?_)
          have h := h σ94 e95
          refine r_aload_n (q := 277) (dc dt_MO_best 166 rfl) rfl rfl 0 rfl ?_
          refine r_getO (q := 280) (v := 156) fl_MO_213 (dc dt_MO_best 167 rfl) rfl ly8 rfl ?_
          refine r_iload_n (q := 281) (dc dt_MO_best 168 rfl) rfl rfl 2 rfl ?_
          refine r_iload_n (q := 282) (dc dt_MO_best 169 rfl) rfl rfl 3 rfl ?_
          refine r_iast (q := 283) (dc dt_MO_best 170 rfl) rfl ly156 o87 o53 (fun σ96 e97 => ?_)
          have h := h σ96 e97
          refine r_iinc (q := 286) (k := 3) (dc dt_MO_best 171 rfl) rfl rfl (by decide) rfl ?_
          refine r_goto (q := 182) (dc dt_MO_best 172 rfl) (by decide) ?_
          exact r_loc [1, 2, 3, 0] rfl h
def tb_MO_lines : List (Nat × Instr × Nat) := [(0, .aload_n 0, 1), (1, .getfield 267, 3), (4, .ifCond .ne 6, 3), (7, .bipush (-3), 2), (9, .ireturn, 1), (10, .iload_n 1, 1), (11, .iconst (-1), 1), (12, .if_icmp .ne 8, 3), (15, .aload_n 0, 1), (16, .getfield 541, 3), (19, .ireturn, 1), (20, .iload_n 1, 1), (21, .i2l, 1), (22, .lconst 0, 1), (23, .aload_n 0, 1), (24, .getfield 541, 3), (27, .iconst 1, 1), (28, .isub, 1), (29, .i2l, 1), (30, .invokestatic 253, 3), (33, .ifCond .ne 5, 3), (36, .iconst (-1), 1), (37, .ireturn, 1), (38, .iload_n 2, 1), (39, .tableswitch 77 0 4 #[33, 40, 56, 63, 70], 33), (72, .aload_n 0, 1), (73, .getfield 216, 3), (76, .iload_n 1, 1), (77, .iaload, 1), (78, .ireturn, 1), (79, .aload_n 0, 1), (80, .getfield 219, 3), (83, .iload_n 1, 1), (84, .iaload, 1), (85, .aload_n 0, 1), (86, .getfield 216, 3), (89, .iload_n 1, 1), (90, .iaload, 1), (91, .isub, 1), (92, .iconst 1, 1), (93, .iadd, 1), (94, .ireturn, 1), (95, .aload_n 0, 1), (96, .getfield 222, 3), (99, .iload_n 1, 1), (100, .iaload, 1), (101, .ireturn, 1), (102, .aload_n 0, 1), (103, .getfield 225, 3), (106, .iload_n 1, 1), (107, .iaload, 1), (108, .ireturn, 1), (109, .aload_n 0, 1), (110, .getfield 228, 3), (113, .iload_n 1, 1), (114, .iaload, 1), (115, .ireturn, 1), (116, .bipush (-2), 2), (118, .ireturn, 1)]
theorem dt_MO_lines : DT (cM m_MO_lines) tb_MO_lines := by unfold DT; decide +kernel
abbrev a_MO_lines_0 (G : GT)  (v1 : Int) (v2 : Int) (σ : St) (P : Int → St → Prop) : Prop := A G m_MO_lines 0 [(0, O 8), (1, I v1), (2, I v2)] [] σ P
set_option maxRecDepth 20000 in
theorem k_MO_lines_0 {G : GT} {σ : St} {P : Int → St → Prop}  {v1 : Int} {v2 : Int}  
    (h : (σ.2.1 8 100 ≠ 0 → rng v1 ∧ (v1 ≠ (-1) → rng ((σ.2.1 8 101) - 1) ∧ (0 ≤ v1 ∧ v1 ≤ ((σ.2.1 8 101) - 1) → rng v2 ∧ (v2 = 0 → (0 ≤ v1 ∧ v1 < 80) ∧ P (σ.1 157 v1.toNat) σ) ∧ (v2 = 1 → (0 ≤ v1 ∧ v1 < 80) ∧ rng (((σ.1 158 v1.toNat) - (σ.1 157 v1.toNat)) + 1) ∧ P (((σ.1 158 v1.toNat) - (σ.1 157 v1.toNat)) + 1) σ) ∧ (v2 = 2 → (0 ≤ v1 ∧ v1 < 80) ∧ P (σ.1 159 v1.toNat) σ) ∧ (v2 = 3 → (0 ≤ v1 ∧ v1 < 80) ∧ P (σ.1 160 v1.toNat) σ) ∧ (v2 = 4 → (0 ≤ v1 ∧ v1 < 80) ∧ P (σ.1 161 v1.toNat) σ) ∧ ((v2 < 0 ∨ 4 < v2) → P (-2) σ)) ∧ (¬ (0 ≤ v1 ∧ v1 ≤ ((σ.2.1 8 101) - 1)) → P (-1) σ)) ∧ (v1 = (-1) → P (σ.2.1 8 101) σ)) ∧ (σ.2.1 8 100 = 0 → P (-3) σ)) :
    a_MO_lines_0 G v1 v2 σ P := by
  refine r_aload_n (q := 1) (dc dt_MO_lines 0 rfl) rfl rfl 0 rfl ?_
  refine r_getI (q := 4) (v := σ.2.1 8 100) fl_MO_267 (dc dt_MO_lines 1 rfl) rfl ly8 rfl rfl (fun g1 => ?_)
  refine r_if_ne (q := 7) (t := 10) (dc dt_MO_lines 2 rfl) rfl (by decide) g1 (fun q_ => ?_) (fun q_ => ?_)
  · have h := h.1 q_
    refine r_iload_n (q := 11) (dc dt_MO_lines 5 rfl) rfl rfl 1 rfl ?_
    refine r_iconst (q := 12) (dc dt_MO_lines 6 rfl) rfl rfl ?_
    obtain ⟨o2, h⟩ := h
    refine r_icmp_ne (q := 15) (t := 20) (dc dt_MO_lines 7 rfl) rfl (by decide) o2 (⟨by decide, by decide⟩ : rng (-1)) (fun q_ => ?_) (fun q_ => ?_)
    · have h := h.1 q_
      refine r_iload_n (q := 21) (dc dt_MO_lines 11 rfl) rfl rfl 1 rfl ?_
      refine r_i2l (q := 22) (dc dt_MO_lines 12 rfl) rfl o2 ?_
      refine r_lconst (q := 23) (n := 0) (dc dt_MO_lines 13 rfl) rfl rfl ?_
      refine r_aload_n (q := 24) (dc dt_MO_lines 14 rfl) rfl rfl 0 rfl ?_
      refine r_getI (q := 27) (v := σ.2.1 8 101) fl_MO_541 (dc dt_MO_lines 15 rfl) rfl ly8 rfl rfl (fun g3 => ?_)
      refine r_iconst (q := 28) (dc dt_MO_lines 16 rfl) rfl rfl ?_
      refine r_isub (q := 29) (dc dt_MO_lines 17 rfl) rfl ?_
      obtain ⟨o4, h⟩ := h
      refine r_i2l (q := 30) (dc dt_MO_lines 18 rfl) rfl o4 ?_
      refine r_callSi (q := 33) mk_MO_in lm_MO_253 (RMO.of rfl) rfl (dc dt_MO_lines 19 rfl) rfl [J v1, J 0, J ((σ.2.1 8 101) - 1)] [] rfl rfl (Nat.le_of_ble_eq_true rfl) (sp_MO_in o2 (⟨by decide, by decide⟩ : rng 0) o4) (fun _ _ g5 z => ?_)
      obtain ⟨z, w⟩ := z
      subst z
      replace w := w.symm
      subst w
      refine r_ifb_ne (q := 36) (t := 38) (dc dt_MO_lines 20 rfl) rfl (by decide) (fun q_ => ?_) (fun q_ => ?_)
      · have h := h.1 q_
        refine r_iload_n (q := 39) (dc dt_MO_lines 23 rfl) rfl rfl 2 rfl ?_
        obtain ⟨o6, h⟩ := h
        by_cases qo : (v2 < 0 ∨ 4 < v2)
        · have q_ := qo
          have h := h.2.2.2.2.2 q_
          refine r_swOut (t := 116) (dc dt_MO_lines 24 rfl) (by decide) o6 q_ ?_
          refine r_bipush (q := 118) (dc dt_MO_lines 57 rfl) rfl (by decide) ?_
          exact r_iret rfl (dc dt_MO_lines 58 rfl) (⟨by decide, by decide⟩ : rng (-2)) h
        · by_cases q_ : v2 = 0
          · have h := h.1 q_
            refine r_swIn (t := 72) (dc dt_MO_lines 24 rfl) o6 (by omega) (by omega) (by rw [q_]; rfl) (by decide) ?_
            refine r_aload_n (q := 73) (dc dt_MO_lines 25 rfl) rfl rfl 0 rfl ?_
            refine r_getO (q := 76) (v := 157) fl_MO_216 (dc dt_MO_lines 26 rfl) rfl ly8 rfl ?_
            refine r_iload_n (q := 77) (dc dt_MO_lines 27 rfl) rfl rfl 1 rfl ?_
            obtain ⟨o7, h⟩ := h
            refine r_iald (q := 78) (v := σ.1 157 v1.toNat) (dc dt_MO_lines 28 rfl) rfl ly157 o7 rfl (fun g8 => ?_)
            exact r_iret rfl (dc dt_MO_lines 29 rfl) g8 h
          · by_cases q_ : v2 = 1
            · have h := h.2.1 q_
              refine r_swIn (t := 79) (dc dt_MO_lines 24 rfl) o6 (by omega) (by omega) (by rw [q_]; rfl) (by decide) ?_
              refine r_aload_n (q := 80) (dc dt_MO_lines 30 rfl) rfl rfl 0 rfl ?_
              refine r_getO (q := 83) (v := 158) fl_MO_219 (dc dt_MO_lines 31 rfl) rfl ly8 rfl ?_
              refine r_iload_n (q := 84) (dc dt_MO_lines 32 rfl) rfl rfl 1 rfl ?_
              obtain ⟨o9, h⟩ := h
              refine r_iald (q := 85) (v := σ.1 158 v1.toNat) (dc dt_MO_lines 33 rfl) rfl ly158 o9 rfl (fun g10 => ?_)
              refine r_aload_n (q := 86) (dc dt_MO_lines 34 rfl) rfl rfl 0 rfl ?_
              refine r_getO (q := 89) (v := 157) fl_MO_216 (dc dt_MO_lines 35 rfl) rfl ly8 rfl ?_
              refine r_iload_n (q := 90) (dc dt_MO_lines 36 rfl) rfl rfl 1 rfl ?_
              refine r_iald (q := 91) (v := σ.1 157 v1.toNat) (dc dt_MO_lines 37 rfl) rfl ly157 o9 rfl (fun g11 => ?_)
              refine r_isub (q := 92) (dc dt_MO_lines 38 rfl) rfl ?_
              refine r_iconst (q := 93) (dc dt_MO_lines 39 rfl) rfl rfl ?_
              refine r_iadd (q := 94) (dc dt_MO_lines 40 rfl) rfl ?_
              obtain ⟨o12, h⟩ := h
              exact r_iret rfl (dc dt_MO_lines 41 rfl) o12 h
            · by_cases q_ : v2 = 2
              · have h := h.2.2.1 q_
                refine r_swIn (t := 95) (dc dt_MO_lines 24 rfl) o6 (by omega) (by omega) (by rw [q_]; rfl) (by decide) ?_
                refine r_aload_n (q := 96) (dc dt_MO_lines 42 rfl) rfl rfl 0 rfl ?_
                refine r_getO (q := 99) (v := 159) fl_MO_222 (dc dt_MO_lines 43 rfl) rfl ly8 rfl ?_
                refine r_iload_n (q := 100) (dc dt_MO_lines 44 rfl) rfl rfl 1 rfl ?_
                obtain ⟨o13, h⟩ := h
                refine r_iald (q := 101) (v := σ.1 159 v1.toNat) (dc dt_MO_lines 45 rfl) rfl ly159 o13 rfl (fun g14 => ?_)
                exact r_iret rfl (dc dt_MO_lines 46 rfl) g14 h
              · by_cases q_ : v2 = 3
                · have h := h.2.2.2.1 q_
                  refine r_swIn (t := 102) (dc dt_MO_lines 24 rfl) o6 (by omega) (by omega) (by rw [q_]; rfl) (by decide) ?_
                  refine r_aload_n (q := 103) (dc dt_MO_lines 47 rfl) rfl rfl 0 rfl ?_
                  refine r_getO (q := 106) (v := 160) fl_MO_225 (dc dt_MO_lines 48 rfl) rfl ly8 rfl ?_
                  refine r_iload_n (q := 107) (dc dt_MO_lines 49 rfl) rfl rfl 1 rfl ?_
                  obtain ⟨o15, h⟩ := h
                  refine r_iald (q := 108) (v := σ.1 160 v1.toNat) (dc dt_MO_lines 50 rfl) rfl ly160 o15 rfl (fun g16 => ?_)
                  exact r_iret rfl (dc dt_MO_lines 51 rfl) g16 h
                · have q_ : v2 = 4 := by omega
                  have h := h.2.2.2.2.1 q_
                  refine r_swIn (t := 109) (dc dt_MO_lines 24 rfl) o6 (by omega) (by omega) (by rw [q_]; rfl) (by decide) ?_
                  refine r_aload_n (q := 110) (dc dt_MO_lines 52 rfl) rfl rfl 0 rfl ?_
                  refine r_getO (q := 113) (v := 161) fl_MO_228 (dc dt_MO_lines 53 rfl) rfl ly8 rfl ?_
                  refine r_iload_n (q := 114) (dc dt_MO_lines 54 rfl) rfl rfl 1 rfl ?_
                  obtain ⟨o17, h⟩ := h
                  refine r_iald (q := 115) (v := σ.1 161 v1.toNat) (dc dt_MO_lines 55 rfl) rfl ly161 o17 rfl (fun g18 => ?_)
                  exact r_iret rfl (dc dt_MO_lines 56 rfl) g18 h
      · have h := h.2 q_
        refine r_iconst (q := 37) (dc dt_MO_lines 21 rfl) rfl rfl ?_
        exact r_iret rfl (dc dt_MO_lines 22 rfl) (⟨by decide, by decide⟩ : rng (-1)) h
    · have h := h.2 q_
      refine r_aload_n (q := 16) (dc dt_MO_lines 8 rfl) rfl rfl 0 rfl ?_
      refine r_getI (q := 19) (v := σ.2.1 8 101) fl_MO_541 (dc dt_MO_lines 9 rfl) rfl ly8 rfl rfl (fun g19 => ?_)
      exact r_iret rfl (dc dt_MO_lines 10 rfl) g19 h
  · have h := h.2 q_
    refine r_bipush (q := 9) (dc dt_MO_lines 3 rfl) rfl (by decide) ?_
    exact r_iret rfl (dc dt_MO_lines 4 rfl) (⟨by decide, by decide⟩ : rng (-3)) h
def tb_MO_take : List (Nat × Instr × Nat) := [(0, .aload_n 0, 1), (1, .getfield 267, 3), (4, .ifCond .ne 6, 3), (7, .bipush (-3), 2), (9, .ireturn, 1), (10, .iload_n 1, 1), (11, .i2l, 1), (12, .lconst 0, 1), (13, .aload_n 0, 1), (14, .getfield 541, 3), (17, .iconst 1, 1), (18, .isub, 1), (19, .i2l, 1), (20, .invokestatic 253, 3), (23, .ifCond .ne 5, 3), (26, .iconst (-1), 1), (27, .ireturn, 1), (28, .aload_n 0, 1), (29, .iload_n 1, 1), (30, .invokevirtual 544, 3), (33, .ifCond .eq 7, 3), (36, .aload_n 0, 1), (37, .invokevirtual 508, 3), (40, .aload_n 0, 1), (41, .getfield 464, 3), (44, .ireturn, 1)]
theorem dt_MO_take : DT (cM m_MO_take) tb_MO_take := by unfold DT; decide +kernel
abbrev a_MO_take_0 (G : GT)  (v1 : Int) (σ : St) (P : Int → St → Prop) : Prop := A G m_MO_take 0 [(0, O 8), (1, I v1)] [] σ P
set_option maxRecDepth 20000 in
theorem k_MO_take_0 {G : GT} {σ : St} {P : Int → St → Prop}  {v1 : Int}  
    (h : (σ.2.1 8 100 ≠ 0 → rng v1 ∧ rng ((σ.2.1 8 101) - 1) ∧ (0 ≤ v1 ∧ v1 ≤ ((σ.2.1 8 101) - 1) → CJ G m_MO_setLine [O 8, I v1] σ (fun r7 u6 => (r7 = 0 → P (u6.2.1 8 77) u6) ∧ (r7 ≠ 0 → CJ G m_MO_toHand [O 8] u6 (fun _ u10 => P (u10.2.1 8 77) u10)))) ∧ (¬ (0 ≤ v1 ∧ v1 ≤ ((σ.2.1 8 101) - 1)) → P (-1) σ)) ∧ (σ.2.1 8 100 = 0 → P (-3) σ)) :
    a_MO_take_0 G v1 σ P := by
  refine r_aload_n (q := 1) (dc dt_MO_take 0 rfl) rfl rfl 0 rfl ?_
  refine r_getI (q := 4) (v := σ.2.1 8 100) fl_MO_267 (dc dt_MO_take 1 rfl) rfl ly8 rfl rfl (fun g1 => ?_)
  refine r_if_ne (q := 7) (t := 10) (dc dt_MO_take 2 rfl) rfl (by decide) g1 (fun q_ => ?_) (fun q_ => ?_)
  · have h := h.1 q_
    refine r_iload_n (q := 11) (dc dt_MO_take 5 rfl) rfl rfl 1 rfl ?_
    obtain ⟨o2, h⟩ := h
    refine r_i2l (q := 12) (dc dt_MO_take 6 rfl) rfl o2 ?_
    refine r_lconst (q := 13) (n := 0) (dc dt_MO_take 7 rfl) rfl rfl ?_
    refine r_aload_n (q := 14) (dc dt_MO_take 8 rfl) rfl rfl 0 rfl ?_
    refine r_getI (q := 17) (v := σ.2.1 8 101) fl_MO_541 (dc dt_MO_take 9 rfl) rfl ly8 rfl rfl (fun g3 => ?_)
    refine r_iconst (q := 18) (dc dt_MO_take 10 rfl) rfl rfl ?_
    refine r_isub (q := 19) (dc dt_MO_take 11 rfl) rfl ?_
    obtain ⟨o4, h⟩ := h
    refine r_i2l (q := 20) (dc dt_MO_take 12 rfl) rfl o4 ?_
    refine r_callSi (q := 23) mk_MO_in lm_MO_253 (RMO.of rfl) rfl (dc dt_MO_take 13 rfl) rfl [J v1, J 0, J ((σ.2.1 8 101) - 1)] [] rfl rfl (Nat.le_of_ble_eq_true rfl) (sp_MO_in o2 (⟨by decide, by decide⟩ : rng 0) o4) (fun _ _ g5 z => ?_)
    obtain ⟨z, w⟩ := z
    subst z
    replace w := w.symm
    subst w
    refine r_ifb_ne (q := 26) (t := 28) (dc dt_MO_take 14 rfl) rfl (by decide) (fun q_ => ?_) (fun q_ => ?_)
    · have h := h.1 q_
      refine r_aload_n (q := 29) (dc dt_MO_take 17 rfl) rfl rfl 0 rfl ?_
      refine r_iload_n (q := 30) (dc dt_MO_take 18 rfl) rfl rfl 1 rfl ?_
      refine r_callVi (q := 33) mk_MO_setLine lm_MO_544 (RMO.of rfl) rfl (dc dt_MO_take 19 rfl) rfl ly8 [I v1] [] rfl rfl (Nat.le_of_ble_eq_true rfl) h (fun r7 u6 g8 h => ?_)
      refine r_if_eq (q := 36) (t := 40) (dc dt_MO_take 20 rfl) rfl (by decide) g8 (fun q_ => ?_) (fun q_ => ?_)
      · have h := h.1 q_
        refine r_aload_n (q := 41) (dc dt_MO_take 23 rfl) rfl rfl 0 rfl ?_
        refine r_getI (q := 44) (v := u6.2.1 8 77) fl_MO_464 (dc dt_MO_take 24 rfl) rfl ly8 rfl rfl (fun g9 => ?_)
        exact r_iret rfl (dc dt_MO_take 25 rfl) g9 h
      · have h := h.2 q_
        refine r_aload_n (q := 37) (dc dt_MO_take 21 rfl) rfl rfl 0 rfl ?_
        refine r_callVv (q := 40) mk_MO_toHand lm_MO_508 (RMO.of rfl) rfl (dc dt_MO_take 22 rfl) rfl ly8 [] [] rfl rfl (Nat.le_of_ble_eq_true rfl) h (fun u10 h => ?_)
        refine r_aload_n (q := 41) (dc dt_MO_take 23 rfl) rfl rfl 0 rfl ?_
        refine r_getI (q := 44) (v := u10.2.1 8 77) fl_MO_464 (dc dt_MO_take 24 rfl) rfl ly8 rfl rfl (fun g11 => ?_)
        exact r_iret rfl (dc dt_MO_take 25 rfl) g11 h
    · have h := h.2 q_
      refine r_iconst (q := 27) (dc dt_MO_take 15 rfl) rfl rfl ?_
      exact r_iret rfl (dc dt_MO_take 16 rfl) (⟨by decide, by decide⟩ : rng (-1)) h
  · have h := h.2 q_
    refine r_bipush (q := 9) (dc dt_MO_take 3 rfl) rfl (by decide) ?_
    exact r_iret rfl (dc dt_MO_take 4 rfl) (⟨by decide, by decide⟩ : rng (-3)) h
def tb_MO_pages : List (Nat × Instr × Nat) := [(0, .iload_n 1, 1), (1, .i2l, 1), (2, .lconst 1, 1), (3, .ldc2_w 547, 3), (6, .invokestatic 253, 3), (9, .ifCond .ne 6, 3), (12, .bipush (-2), 2), (14, .ireturn, 1), (15, .aload_n 0, 1), (16, .getfield 267, 3), (19, .ifCond .ne 6, 3), (22, .bipush (-3), 2), (24, .ireturn, 1), (25, .aload_n 0, 1), (26, .getfield 541, 3), (29, .istore_n 2, 1), (30, .aload_n 0, 1), (31, .getfield 243, 3), (34, .iload_n 2, 1), (35, .iconst 0, 1), (36, .iastore, 1), (37, .iload_n 2, 1), (38, .iconst 1, 1), (39, .isub, 1), (40, .istore_n 3, 1), (41, .iload_n 3, 1), (42, .ifCond .lt 175, 3), (45, .aload_n 0, 1), (46, .getfield 243, 3), (49, .iload_n 3, 1), (50, .ldc_w 376, 3), (53, .iastore, 1), (54, .aload_n 0, 1), (55, .getfield 246, 3), (58, .iload_n 3, 1), (59, .iload_n 3, 1), (60, .iastore, 1), (61, .iconst 0, 1), (62, .istore 4, 2), (64, .iload_n 3, 1), (65, .istore 5, 2), (67, .iload 5, 2), (69, .iload_n 2, 1), (70, .if_icmp .ge 141, 3), (73, .iload 4, 2), (75, .aload_n 0, 1), (76, .getfield 225, 3), (79, .iload 5, 2), (81, .iaload, 1), (82, .aload_n 0, 1), (83, .getfield 228, 3), (86, .iload 5, 2), (88, .iaload, 1), (89, .iadd, 1), (90, .iadd, 1), (91, .istore 4, 2), (93, .iload 4, 2), (95, .iload_n 1, 1), (96, .if_icmp .gt 39, 3), (99, .iload_n 2, 1), (100, .iconst 1, 1), (101, .if_icmp .eq 15, 3), (104, .iload_n 3, 1), (105, .iload_n 2, 1), (106, .iconst 1, 1), (107, .isub, 1), (108, .if_icmp .ge 27, 3), (111, .iload 5, 2), (113, .ifCond .le 22, 3), (116, .aload_n 0, 1), (117, .getfield 243, 3), (120, .iload 5, 2), (122, .iconst 1, 1), (123, .iadd, 1), (124, .iaload, 1), (125, .ldc_w 376, 3), (128, .if_icmp .ge 7, 3), (131, .iconst 1, 1), (132, .goto 4, 3), (135, .iconst 0, 1), (136, .istore 6, 2), (138, .iload 6, 2), (140, .ifCond .eq 65, 3), (143, .iload_n 1, 1), (144, .iload 4, 2), (146, .isub, 1), (147, .istore 7, 2), (149, .iload 5, 2), (151, .iload_n 2, 1), (152, .iconst 1, 1), (153, .isub, 1), (154, .if_icmp .ne 7, 3), (157, .iconst 0, 1), (158, .goto 8, 3), (161, .iload 7, 2), (163, .iload 7, 2), (165, .imul, 1), (166, .aload_n 0, 1), (167, .getfield 243, 3), (170, .iload 5, 2), (172, .iconst 1, 1), (173, .iadd, 1), (174, .iaload, 1), (175, .iadd, 1), (176, .istore 8, 2), (178, .iload 8, 2), (180, .aload_n 0, 1), (181, .getfield 243, 3), (184, .iload_n 3, 1), (185, .iaload, 1), (186, .if_icmp .gt 19, 3), (189, .aload_n 0, 1), (190, .getfield 243, 3), (193, .iload_n 3, 1), (194, .iload 8, 2), (196, .iastore, 1), (197, .aload_n 0, 1), (198, .getfield 246, 3), (201, .iload_n 3, 1), (202, .iload 5, 2), (204, .iastore, 1), (205, .iinc 5 1, 3), (208, .goto (-141), 3), (211, .iinc 3 (-1), 3), (214, .goto (-173), 3), (217, .aload_n 0, 1), (218, .getfield 243, 3), (221, .iconst 0, 1), (222, .iaload, 1), (223, .ldc_w 376, 3), (226, .if_icmp .lt 6, 3), (229, .bipush (-5), 2), (231, .ireturn, 1), (232, .aload_n 0, 1), (233, .iconst 1, 1), (234, .putfield 270, 3), (237, .aload_n 0, 1), (238, .iconst 0, 1), (239, .putfield 549, 3), (242, .iconst 0, 1), (243, .istore_n 3, 1), (244, .iload_n 3, 1), (245, .iload_n 2, 1), (246, .if_icmp .ge 106, 3), (249, .iconst 0, 1), (250, .istore 4, 2), (252, .iload_n 3, 1), (253, .istore 5, 2), (255, .iload 5, 2), (257, .aload_n 0, 1), (258, .getfield 246, 3), (261, .iload_n 3, 1), (262, .iaload, 1), (263, .if_icmp .gt 29, 3), (266, .iload 4, 2), (268, .aload_n 0, 1), (269, .getfield 225, 3), (272, .iload 5, 2), (274, .iaload, 1), (275, .aload_n 0, 1), (276, .getfield 228, 3), (279, .iload 5, 2), (281, .iaload, 1), (282, .iadd, 1), (283, .iadd, 1), (284, .istore 4, 2), (286, .iinc 5 1, 3), (289, .goto (-34), 3), (292, .aload_n 0, 1), (293, .getfield 234, 3), (296, .aload_n 0, 1), (297, .getfield 549, 3), (300, .iload_n 3, 1), (301, .iastore, 1), (302, .aload_n 0, 1), (303, .getfield 237, 3), (306, .aload_n 0, 1), (307, .getfield 549, 3), (310, .aload_n 0, 1), (311, .getfield 246, 3), (314, .iload_n 3, 1), (315, .iaload, 1), (316, .iastore, 1), (317, .aload_n 0, 1), (318, .getfield 240, 3), (321, .aload_n 0, 1), (322, .getfield 549, 3), (325, .iload_n 1, 1), (326, .iload 4, 2), (328, .isub, 1), (329, .iastore, 1), (330, .aload_n 0, 1), (331, .dup, 1), (332, .getfield 549, 3), (335, .iconst 1, 1), (336, .iadd, 1), (337, .putfield 549, 3), (340, .aload_n 0, 1), (341, .getfield 246, 3), (344, .iload_n 3, 1), (345, .iaload, 1), (346, .iconst 1, 1), (347, .iadd, 1), (348, .istore_n 3, 1), (349, .goto (-105), 3), (352, .aload_n 0, 1), (353, .getfield 243, 3), (356, .iconst 0, 1), (357, .iaload, 1), (358, .ireturn, 1)]
theorem dt_MO_pages : DT (cM m_MO_pages) tb_MO_pages := by unfold DT; decide +kernel
abbrev a_MO_pages_0 (G : GT)  (v1 : Int) (σ : St) (P : Int → St → Prop) : Prop := A G m_MO_pages 0 [(0, O 8), (1, I v1)] [] σ P
abbrev a_MO_pages_41 (G : GT)  (v1 : Int) (v2 : Int) (v3 : Int) (σ : St) (P : Int → St → Prop) : Prop := A G m_MO_pages 41 [(0, O 8), (1, I v1), (2, I v2), (3, I v3)] [] σ P
abbrev a_MO_pages_244 (G : GT)  (v1 : Int) (v2 : Int) (v3 : Int) (σ : St) (P : Int → St → Prop) : Prop := A G m_MO_pages 244 [(0, O 8), (1, I v1), (2, I v2), (3, I v3)] [] σ P
abbrev a_MO_pages_67 (G : GT)  (v1 : Int) (v2 : Int) (v3 : Int) (v4 : Int) (v5 : Int) (σ : St) (P : Int → St → Prop) : Prop := A G m_MO_pages 67 [(0, O 8), (1, I v1), (2, I v2), (3, I v3), (4, I v4), (5, I v5)] [] σ P
abbrev a_MO_pages_255 (G : GT)  (v1 : Int) (v2 : Int) (v3 : Int) (v4 : Int) (v5 : Int) (σ : St) (P : Int → St → Prop) : Prop := A G m_MO_pages 255 [(0, O 8), (1, I v1), (2, I v2), (3, I v3), (4, I v4), (5, I v5)] [] σ P
set_option maxRecDepth 20000 in
theorem k_MO_pages_0 {G : GT} {σ : St} {P : Int → St → Prop}  {v1 : Int}  
    (h : rng v1 ∧ (1 ≤ v1 ∧ v1 ≤ 2000 → (σ.2.1 8 100 ≠ 0 → (0 ≤ σ.2.1 8 101 ∧ σ.2.1 8 101 < 81) ∧ (∀ σ6, σ6 = sa σ 166 ((σ.2.1 8 101).toNat) 0 → a_MO_pages_41 G v1 (σ.2.1 8 101) ((σ.2.1 8 101) - 1) σ6 P)) ∧ (σ.2.1 8 100 = 0 → P (-3) σ)) ∧ (¬ (1 ≤ v1 ∧ v1 ≤ 2000) → P (-2) σ)) :
    a_MO_pages_0 G v1 σ P := by
  refine r_iload_n (q := 1) (dc dt_MO_pages 0 rfl) rfl rfl 1 rfl ?_
  obtain ⟨o1, h⟩ := h
  refine r_i2l (q := 2) (dc dt_MO_pages 1 rfl) rfl o1 ?_
  refine r_lconst (q := 3) (n := 1) (dc dt_MO_pages 2 rfl) rfl rfl ?_
  refine r_ldc2 (q := 6) (n := 2000) (dc dt_MO_pages 3 rfl) rfl (gt_at 1781 (by decide +kernel) rfl) ?_
  refine r_callSi (q := 9) mk_MO_in lm_MO_253 (RMO.of rfl) rfl (dc dt_MO_pages 4 rfl) rfl [J v1, J 1, J 2000] [] rfl rfl (Nat.le_of_ble_eq_true rfl) (sp_MO_in o1 (⟨by decide, by decide⟩ : rng 1) (⟨by decide, by decide⟩ : rng 2000)) (fun _ _ g2 z => ?_)
  obtain ⟨z, w⟩ := z
  subst z
  replace w := w.symm
  subst w
  refine r_ifb_ne (q := 12) (t := 15) (dc dt_MO_pages 5 rfl) rfl (by decide) (fun q_ => ?_) (fun q_ => ?_)
  · have h := h.1 q_
    refine r_aload_n (q := 16) (dc dt_MO_pages 8 rfl) rfl rfl 0 rfl ?_
    refine r_getI (q := 19) (v := σ.2.1 8 100) fl_MO_267 (dc dt_MO_pages 9 rfl) rfl ly8 rfl rfl (fun g3 => ?_)
    refine r_if_ne (q := 22) (t := 25) (dc dt_MO_pages 10 rfl) rfl (by decide) g3 (fun q_ => ?_) (fun q_ => ?_)
    · have h := h.1 q_
      refine r_aload_n (q := 26) (dc dt_MO_pages 13 rfl) rfl rfl 0 rfl ?_
      refine r_getI (q := 29) (v := σ.2.1 8 101) fl_MO_541 (dc dt_MO_pages 14 rfl) rfl ly8 rfl rfl (fun g4 => ?_)
      refine r_istore_n (q := 30) (dc dt_MO_pages 15 rfl) rfl rfl (by decide) rfl ?_
      refine r_aload_n (q := 31) (dc dt_MO_pages 16 rfl) rfl rfl 1 rfl ?_
      refine r_getO (q := 34) (v := 166) fl_MO_243 (dc dt_MO_pages 17 rfl) rfl ly8 rfl ?_
      refine r_iload_n (q := 35) (dc dt_MO_pages 18 rfl) rfl rfl 0 rfl ?_
      refine r_iconst (q := 36) (dc dt_MO_pages 19 rfl) rfl rfl ?_
      obtain ⟨o5, h⟩ := h
      refine r_iast (q := 37) (dc dt_MO_pages 20 rfl) rfl ly166 o5 (⟨by decide, by decide⟩ : rng 0) (fun σ6 e7 => ?_)
      have h := h σ6 e7
      refine r_iload_n (q := 38) (dc dt_MO_pages 21 rfl) rfl rfl 0 rfl ?_
      refine r_iconst (q := 39) (dc dt_MO_pages 22 rfl) rfl rfl ?_
      refine r_isub (q := 40) (dc dt_MO_pages 23 rfl) rfl ?_
      refine r_istore_n (q := 41) (dc dt_MO_pages 24 rfl) rfl rfl (by decide) rfl ?_
      exact r_loc [2, 3, 1, 0] rfl h
    · have h := h.2 q_
      refine r_bipush (q := 24) (dc dt_MO_pages 11 rfl) rfl (by decide) ?_
      exact r_iret rfl (dc dt_MO_pages 12 rfl) (⟨by decide, by decide⟩ : rng (-3)) h
  · have h := h.2 q_
    refine r_bipush (q := 14) (dc dt_MO_pages 6 rfl) rfl (by decide) ?_
    exact r_iret rfl (dc dt_MO_pages 7 rfl) (⟨by decide, by decide⟩ : rng (-2)) h
set_option maxRecDepth 20000 in
theorem k_MO_pages_41 {G : GT} {σ : St} {P : Int → St → Prop}  {v1 : Int} {v2 : Int} {v3 : Int}  
    (h : rng v3 ∧ (v3 < 0 → (σ.1 166 0 < 536870912 → (∀ σ10, σ10 = sf σ 8 109 1 → (∀ σ12, σ12 = sf σ10 8 110 0 → a_MO_pages_244 G v1 v2 0 σ12 P))) ∧ (536870912 ≤ σ.1 166 0 → P (-5) σ)) ∧ (0 ≤ v3 → (0 ≤ v3 ∧ v3 < 81) ∧ (∀ σ15, σ15 = sa σ 166 v3.toNat 536870912 → (∀ σ17, σ17 = sa σ15 167 v3.toNat v3 → a_MO_pages_67 G v1 v2 v3 0 v3 σ17 P)))) :
    a_MO_pages_41 G v1 v2 v3 σ P := by
  refine r_iload_n (q := 42) (dc dt_MO_pages 25 rfl) rfl rfl 3 rfl ?_
  obtain ⟨o8, h⟩ := h
  refine r_if_lt (q := 45) (t := 217) (dc dt_MO_pages 26 rfl) rfl (by decide) o8 (fun q_ => ?_) (fun q_ => ?_)
  · have h := h.1 q_
    refine r_aload_n (q := 218) (dc dt_MO_pages 125 rfl) rfl rfl 0 rfl ?_
    refine r_getO (q := 221) (v := 166) fl_MO_243 (dc dt_MO_pages 126 rfl) rfl ly8 rfl ?_
    refine r_iconst (q := 222) (dc dt_MO_pages 127 rfl) rfl rfl ?_
    refine r_iald (q := 223) (v := σ.1 166 0) (dc dt_MO_pages 128 rfl) rfl ly166 ⟨by decide, by decide⟩ rfl (fun g9 => ?_)
    refine r_ldcw (q := 226) (n := 536870912) (dc dt_MO_pages 129 rfl) rfl (gt_at 1622 (by decide +kernel) rfl) ?_
    refine r_icmp_lt (q := 229) (t := 232) (dc dt_MO_pages 130 rfl) rfl (by decide) g9 (⟨by decide, by decide⟩ : rng 536870912) (fun q_ => ?_) (fun q_ => ?_)
    · have h := h.1 q_
      refine r_aload_n (q := 233) (dc dt_MO_pages 133 rfl) rfl rfl 0 rfl ?_
      refine r_iconst (q := 234) (dc dt_MO_pages 134 rfl) rfl rfl ?_
      refine r_put (q := 237) fl_MO_270 (dc dt_MO_pages 135 rfl) rfl ly8 (fun _ => rfl) (Or.inr ⟨rfl, (by decide)⟩) pf_8_109 (⟨by decide, by decide⟩ : rng 1) (fun σ10 e11 => ?_)
      have h := h σ10 e11
      refine r_aload_n (q := 238) (dc dt_MO_pages 136 rfl) rfl rfl 0 rfl ?_
      refine r_iconst (q := 239) (dc dt_MO_pages 137 rfl) rfl rfl ?_
      refine r_put (q := 242) fl_MO_549 (dc dt_MO_pages 138 rfl) rfl ly8 (fun _ => rfl) (Or.inl rfl) pf_8_110 (⟨by decide, by decide⟩ : rng 0) (fun σ12 e13 => ?_)
      have h := h σ12 e13
      refine r_iconst (q := 243) (dc dt_MO_pages 139 rfl) rfl rfl ?_
      refine r_istore_n (q := 244) (dc dt_MO_pages 140 rfl) rfl rfl (by decide) rfl ?_
      exact r_loc [1, 2, 3, 0] rfl h
    · have h := h.2 q_
      refine r_bipush (q := 231) (dc dt_MO_pages 131 rfl) rfl (by decide) ?_
      exact r_iret rfl (dc dt_MO_pages 132 rfl) (⟨by decide, by decide⟩ : rng (-5)) h
  · have h := h.2 q_
    refine r_aload_n (q := 46) (dc dt_MO_pages 27 rfl) rfl rfl 0 rfl ?_
    refine r_getO (q := 49) (v := 166) fl_MO_243 (dc dt_MO_pages 28 rfl) rfl ly8 rfl ?_
    refine r_iload_n (q := 50) (dc dt_MO_pages 29 rfl) rfl rfl 3 rfl ?_
    refine r_ldcw (q := 53) (n := 536870912) (dc dt_MO_pages 30 rfl) rfl (gt_at 1622 (by decide +kernel) rfl) ?_
    obtain ⟨o14, h⟩ := h
    refine r_iast (q := 54) (dc dt_MO_pages 31 rfl) rfl ly166 o14 (⟨by decide, by decide⟩ : rng 536870912) (fun σ15 e16 => ?_)
    have h := h σ15 e16
    refine r_aload_n (q := 55) (dc dt_MO_pages 32 rfl) rfl rfl 0 rfl ?_
    refine r_getO (q := 58) (v := 167) fl_MO_246 (dc dt_MO_pages 33 rfl) rfl ly8 rfl ?_
    refine r_iload_n (q := 59) (dc dt_MO_pages 34 rfl) rfl rfl 3 rfl ?_
    refine r_iload_n (q := 60) (dc dt_MO_pages 35 rfl) rfl rfl 3 rfl ?_
    refine r_iast (q := 61) (dc dt_MO_pages 36 rfl) rfl ly167 o14 o8 (fun σ17 e18 => ?_)
    have h := h σ17 e18
    refine r_iconst (q := 62) (dc dt_MO_pages 37 rfl) rfl rfl ?_
    refine r_istore (q := 64) (dc dt_MO_pages 38 rfl) rfl (by decide) rfl ?_
    refine r_iload_n (q := 65) (dc dt_MO_pages 39 rfl) rfl rfl 4 rfl ?_
    refine r_istore (q := 67) (dc dt_MO_pages 40 rfl) rfl (by decide) rfl ?_
    exact r_loc [2, 3, 4, 5, 1, 0] rfl h
set_option maxRecDepth 20000 in
theorem k_MO_pages_244 {G : GT} {σ : St} {P : Int → St → Prop}  {v1 : Int} {v2 : Int} {v3 : Int}  
    (h : rng v3 ∧ rng v2 ∧ (v2 ≤ v3 → P (σ.1 166 0) σ) ∧ (v3 < v2 → a_MO_pages_255 G v1 v2 v3 0 v3 σ P)) :
    a_MO_pages_244 G v1 v2 v3 σ P := by
  refine r_iload_n (q := 245) (dc dt_MO_pages 141 rfl) rfl rfl 3 rfl ?_
  refine r_iload_n (q := 246) (dc dt_MO_pages 142 rfl) rfl rfl 2 rfl ?_
  obtain ⟨o19, h⟩ := h
  obtain ⟨o20, h⟩ := h
  refine r_icmp_ge (q := 249) (t := 352) (dc dt_MO_pages 143 rfl) rfl (by decide) o19 o20 (fun q_ => ?_) (fun q_ => ?_)
  · have h := h.1 q_
    refine r_aload_n (q := 353) (dc dt_MO_pages 205 rfl) rfl rfl 0 rfl ?_
    refine r_getO (q := 356) (v := 166) fl_MO_243 (dc dt_MO_pages 206 rfl) rfl ly8 rfl ?_
    refine r_iconst (q := 357) (dc dt_MO_pages 207 rfl) rfl rfl ?_
    refine r_iald (q := 358) (v := σ.1 166 0) (dc dt_MO_pages 208 rfl) rfl ly166 ⟨by decide, by decide⟩ rfl (fun g21 => ?_)
    exact r_iret rfl (dc dt_MO_pages 209 rfl) g21 h
  · have h := h.2 q_
    refine r_iconst (q := 250) (dc dt_MO_pages 144 rfl) rfl rfl ?_
    refine r_istore (q := 252) (dc dt_MO_pages 145 rfl) rfl (by decide) rfl ?_
    refine r_iload_n (q := 253) (dc dt_MO_pages 146 rfl) rfl rfl 4 rfl ?_
    refine r_istore (q := 255) (dc dt_MO_pages 147 rfl) rfl (by decide) rfl ?_
    exact r_loc [2, 3, 4, 5, 1, 0] rfl h
set_option maxRecDepth 20000 in
theorem k_MO_pages_67 {G : GT} {σ : St} {P : Int → St → Prop}  {v1 : Int} {v2 : Int} {v3 : Int} {v4 : Int} {v5 : Int}  
    (h : rng v5 ∧ rng v2 ∧ (v2 ≤ v5 → a_MO_pages_41 G v1 v2 (v3 + (-1)) σ P) ∧ (v5 < v2 → (0 ≤ v5 ∧ v5 < 80) ∧ rng (v4 + ((σ.1 160 v5.toNat) + (σ.1 161 v5.toNat))) ∧ rng v1 ∧ ((v4 + ((σ.1 160 v5.toNat) + (σ.1 161 v5.toNat)) ≤ v1 → (v2 = 1 → 0 ≤ v5 + 1 ∧ v5 + 1 < 81) ∧ (v2 ≠ 1 → rng v3 ∧ rng (v2 - 1) ∧ (v3 < v2 - 1 → (0 < v5 → 0 ≤ v5 + 1 ∧ v5 + 1 < 81))))) ∧ (¬ (v4 + ((σ.1 160 v5.toNat) + (σ.1 161 v5.toNat)) ≤ v1 ∧ ((v2 = 1 ∧ σ.1 166 ((v5 + 1).toNat) < 536870912) ∨ (v2 ≠ 1 ∧ (v3 < v2 - 1 ∧ (0 < v5 ∧ σ.1 166 ((v5 + 1).toNat) < 536870912))))) → a_MO_pages_67 G v1 v2 v3 (v4 + ((σ.1 160 v5.toNat) + (σ.1 161 v5.toNat))) (v5 + 1) σ P) ∧ (v4 + ((σ.1 160 v5.toNat) + (σ.1 161 v5.toNat)) ≤ v1 ∧ ((v2 = 1 ∧ σ.1 166 ((v5 + 1).toNat) < 536870912) ∨ (v2 ≠ 1 ∧ (v3 < v2 - 1 ∧ (0 < v5 ∧ σ.1 166 ((v5 + 1).toNat) < 536870912)))) → rng (v2 - 1) ∧ (0 ≤ v5 + 1 ∧ v5 + 1 < 81) ∧ (0 ≤ v3 ∧ v3 < 81) ∧ rng ((if v5 ≠ v2 - 1 then (v1 - (v4 + ((σ.1 160 v5.toNat) + (σ.1 161 v5.toNat)))) * (v1 - (v4 + ((σ.1 160 v5.toNat) + (σ.1 161 v5.toNat)))) else (0 : Int)) + (σ.1 166 ((v5 + 1).toNat))) ∧ (σ.1 166 v3.toNat < (if v5 ≠ v2 - 1 then (v1 - (v4 + ((σ.1 160 v5.toNat) + (σ.1 161 v5.toNat)))) * (v1 - (v4 + ((σ.1 160 v5.toNat) + (σ.1 161 v5.toNat)))) else (0 : Int)) + (σ.1 166 ((v5 + 1).toNat)) → a_MO_pages_67 G v1 v2 v3 (v4 + ((σ.1 160 v5.toNat) + (σ.1 161 v5.toNat))) (v5 + 1) σ P) ∧ ((if v5 ≠ v2 - 1 then (v1 - (v4 + ((σ.1 160 v5.toNat) + (σ.1 161 v5.toNat)))) * (v1 - (v4 + ((σ.1 160 v5.toNat) + (σ.1 161 v5.toNat)))) else (0 : Int)) + (σ.1 166 ((v5 + 1).toNat)) ≤ σ.1 166 v3.toNat → (∀ σ74, σ74 = sa σ 166 v3.toNat ((if v5 ≠ v2 - 1 then (v1 - (v4 + ((σ.1 160 v5.toNat) + (σ.1 161 v5.toNat)))) * (v1 - (v4 + ((σ.1 160 v5.toNat) + (σ.1 161 v5.toNat)))) else (0 : Int)) + (σ.1 166 ((v5 + 1).toNat))) → (∀ σ76, σ76 = sa σ74 167 v3.toNat v5 → a_MO_pages_67 G v1 v2 v3 (v4 + ((σ.1 160 v5.toNat) + (σ.1 161 v5.toNat))) (v5 + 1) σ76 P)))))) :
    a_MO_pages_67 G v1 v2 v3 v4 v5 σ P := by
  refine r_iload (q := 69) (dc dt_MO_pages 41 rfl) rfl 5 rfl ?_
  refine r_iload_n (q := 70) (dc dt_MO_pages 42 rfl) rfl rfl 2 rfl ?_
  obtain ⟨o22, h⟩ := h
  obtain ⟨o23, h⟩ := h
  refine r_icmp_ge (q := 73) (t := 211) (dc dt_MO_pages 43 rfl) rfl (by decide) o22 o23 (fun q_ => ?_) (fun q_ => ?_)
  · have h := h.1 q_
    refine r_iinc (q := 214) (k := 3) (dc dt_MO_pages 123 rfl) rfl rfl (by decide) rfl ?_
    refine r_goto (q := 41) (dc dt_MO_pages 124 rfl) (by decide) ?_
    exact r_loc [1, 2, 3, 0] rfl h
  · have h := h.2 q_
    refine r_iload (q := 75) (dc dt_MO_pages 44 rfl) rfl 4 rfl ?_
    refine r_aload_n (q := 76) (dc dt_MO_pages 45 rfl) rfl rfl 0 rfl ?_
    refine r_getO (q := 79) (v := 160) fl_MO_225 (dc dt_MO_pages 46 rfl) rfl ly8 rfl ?_
    refine r_iload (q := 81) (dc dt_MO_pages 47 rfl) rfl 5 rfl ?_
    obtain ⟨o46, h⟩ := h
    refine r_iald (q := 82) (v := σ.1 160 v5.toNat) (dc dt_MO_pages 48 rfl) rfl ly160 o46 rfl (fun g47 => ?_)
    refine r_aload_n (q := 83) (dc dt_MO_pages 49 rfl) rfl rfl 0 rfl ?_
    refine r_getO (q := 86) (v := 161) fl_MO_228 (dc dt_MO_pages 50 rfl) rfl ly8 rfl ?_
    refine r_iload (q := 88) (dc dt_MO_pages 51 rfl) rfl 5 rfl ?_
    refine r_iald (q := 89) (v := σ.1 161 v5.toNat) (dc dt_MO_pages 52 rfl) rfl ly161 o46 rfl (fun g48 => ?_)
    refine r_iadd (q := 90) (dc dt_MO_pages 53 rfl) rfl ?_
    refine r_iadd (q := 91) (dc dt_MO_pages 54 rfl) rfl ?_
    refine r_istore (q := 93) (dc dt_MO_pages 55 rfl) rfl (by decide) rfl ?_
    refine r_iload (q := 95) (dc dt_MO_pages 56 rfl) rfl 0 rfl ?_
    refine r_iload_n (q := 96) (dc dt_MO_pages 57 rfl) rfl rfl 2 rfl ?_
    obtain ⟨o49, h⟩ := h
    obtain ⟨o50, h⟩ := h
    obtain ⟨ho, h⟩ := h
    have hJ : ∀ (w_0 : Int), w_0 = (if v4 + ((σ.1 160 v5.toNat) + (σ.1 161 v5.toNat)) ≤ v1 ∧ ((v2 = 1 ∧ σ.1 166 ((v5 + 1).toNat) < 536870912) ∨ (v2 ≠ 1 ∧ (v3 < v2 - 1 ∧ (0 < v5 ∧ σ.1 166 ((v5 + 1).toNat) < 536870912)))) then 1 else 0) → A G m_MO_pages 136 [(4, I (v4 + ((σ.1 160 v5.toNat) + (σ.1 161 v5.toNat)))), (0, O 8), (1, I v1), (2, I v2), (3, I v3), (5, I v5)] [I w_0] σ P := by
      intro w_0 z_0
      subst z_0
      refine r_istore (q := 138) (dc dt_MO_pages 80 rfl) rfl (by decide) rfl ?_
      refine r_iload (q := 140) (dc dt_MO_pages 81 rfl) rfl 0 rfl ?_
      refine r_ifb_eq (q := 143) (t := 205) (dc dt_MO_pages 82 rfl) rfl (by decide) (fun q_ => ?_) (fun q_ => ?_)
      · have h := h.1 q_
        refine r_iinc (q := 208) (k := 6) (dc dt_MO_pages 121 rfl) rfl rfl (by decide) rfl ?_
        refine r_goto (q := 67) (dc dt_MO_pages 122 rfl) (by decide) ?_
        exact r_loc [3, 4, 5, 6, 2, 0] rfl h
      · have h := h.2 q_
        refine r_iload_n (q := 144) (dc dt_MO_pages 83 rfl) rfl rfl 3 rfl ?_
        refine r_iload (q := 146) (dc dt_MO_pages 84 rfl) rfl 1 rfl ?_
        refine r_isub (q := 147) (dc dt_MO_pages 85 rfl) rfl ?_
        refine r_istore (q := 149) (dc dt_MO_pages 86 rfl) rfl (by decide) rfl ?_
        refine r_iload (q := 151) (dc dt_MO_pages 87 rfl) rfl 7 rfl ?_
        refine r_iload_n (q := 152) (dc dt_MO_pages 88 rfl) rfl rfl 5 rfl ?_
        refine r_iconst (q := 153) (dc dt_MO_pages 89 rfl) rfl rfl ?_
        refine r_isub (q := 154) (dc dt_MO_pages 90 rfl) rfl ?_
        obtain ⟨o68, h⟩ := h
        have hJ : ∀ (w_0 : Int), w_0 = (if v5 ≠ v2 - 1 then (v1 - (v4 + ((σ.1 160 v5.toNat) + (σ.1 161 v5.toNat)))) * (v1 - (v4 + ((σ.1 160 v5.toNat) + (σ.1 161 v5.toNat)))) else (0 : Int)) → A G m_MO_pages 166 [(7, I (v1 - (v4 + ((σ.1 160 v5.toNat) + (σ.1 161 v5.toNat))))), (6, I (if v4 + ((σ.1 160 v5.toNat) + (σ.1 161 v5.toNat)) ≤ v1 ∧ ((v2 = 1 ∧ σ.1 166 ((v5 + 1).toNat) < 536870912) ∨ (v2 ≠ 1 ∧ (v3 < v2 - 1 ∧ (0 < v5 ∧ σ.1 166 ((v5 + 1).toNat) < 536870912)))) then 1 else 0)), (4, I (v4 + ((σ.1 160 v5.toNat) + (σ.1 161 v5.toNat)))), (0, O 8), (1, I v1), (2, I v2), (3, I v3), (5, I v5)] [I w_0] σ P := by
          intro w_0 z_0
          subst z_0
          refine r_aload_n (q := 167) (dc dt_MO_pages 97 rfl) rfl rfl 3 rfl ?_
          refine r_getO (q := 170) (v := 166) fl_MO_243 (dc dt_MO_pages 98 rfl) rfl ly8 rfl ?_
          refine r_iload (q := 172) (dc dt_MO_pages 99 rfl) rfl 7 rfl ?_
          refine r_iconst (q := 173) (dc dt_MO_pages 100 rfl) rfl rfl ?_
          refine r_iadd (q := 174) (dc dt_MO_pages 101 rfl) rfl ?_
          obtain ⟨o69, h⟩ := h
          refine r_iald (q := 175) (v := σ.1 166 ((v5 + 1).toNat)) (dc dt_MO_pages 102 rfl) rfl ly166 o69 rfl (fun g70 => ?_)
          refine r_iadd (q := 176) (dc dt_MO_pages 103 rfl) rfl ?_
          refine r_istore (q := 178) (dc dt_MO_pages 104 rfl) rfl (by decide) rfl ?_
          refine r_iload (q := 180) (dc dt_MO_pages 105 rfl) rfl 0 rfl ?_
          refine r_aload_n (q := 181) (dc dt_MO_pages 106 rfl) rfl rfl 4 rfl ?_
          refine r_getO (q := 184) (v := 166) fl_MO_243 (dc dt_MO_pages 107 rfl) rfl ly8 rfl ?_
          refine r_iload_n (q := 185) (dc dt_MO_pages 108 rfl) rfl rfl 7 rfl ?_
          obtain ⟨o71, h⟩ := h
          refine r_iald (q := 186) (v := σ.1 166 v3.toNat) (dc dt_MO_pages 109 rfl) rfl ly166 o71 rfl (fun g72 => ?_)
          obtain ⟨o73, h⟩ := h
          refine r_icmp_gt (q := 189) (t := 205) (dc dt_MO_pages 110 rfl) rfl (by decide) o73 g72 (fun q_ => ?_) (fun q_ => ?_)
          · have h := h.1 q_
            refine r_iinc (q := 208) (k := 8) (dc dt_MO_pages 121 rfl) rfl rfl (by decide) rfl ?_
            refine r_goto (q := 67) (dc dt_MO_pages 122 rfl) (by decide) ?_
            exact r_loc [5, 6, 7, 8, 4, 0] rfl h
          · have h := h.2 q_
            refine r_aload_n (q := 190) (dc dt_MO_pages 111 rfl) rfl rfl 4 rfl ?_
            refine r_getO (q := 193) (v := 166) fl_MO_243 (dc dt_MO_pages 112 rfl) rfl ly8 rfl ?_
            refine r_iload_n (q := 194) (dc dt_MO_pages 113 rfl) rfl rfl 7 rfl ?_
            refine r_iload (q := 196) (dc dt_MO_pages 114 rfl) rfl 0 rfl ?_
            refine r_iast (q := 197) (dc dt_MO_pages 115 rfl) rfl ly166 o71 o73 (fun σ74 e75 => ?_)
            have h := h σ74 e75
            refine r_aload_n (q := 198) (dc dt_MO_pages 116 rfl) rfl rfl 4 rfl ?_
            refine r_getO (q := 201) (v := 167) fl_MO_246 (dc dt_MO_pages 117 rfl) rfl ly8 rfl ?_
            refine r_iload_n (q := 202) (dc dt_MO_pages 118 rfl) rfl rfl 7 rfl ?_
            refine r_iload (q := 204) (dc dt_MO_pages 119 rfl) rfl 8 rfl ?_
            refine r_iast (q := 205) (dc dt_MO_pages 120 rfl) rfl ly167 o71 o22 (fun σ76 e77 => ?_)
            have h := h σ76 e77
            refine r_iinc (q := 208) (k := 8) (dc dt_MO_pages 121 rfl) rfl rfl (by decide) rfl ?_
            refine r_goto (q := 67) (dc dt_MO_pages 122 rfl) (by decide) ?_
            exact r_loc [5, 6, 7, 8, 4, 0] rfl h
        clear h
        refine r_icmp_ne (q := 157) (t := 161) (dc dt_MO_pages 91 rfl) rfl (by decide) o22 o68 (fun q_ => ?_) (fun q_ => ?_)
        · have q105 := q_
          refine r_iload (q := 163) (dc dt_MO_pages 94 rfl) rfl 0 rfl ?_
          refine r_iload (q := 165) (dc dt_MO_pages 95 rfl) rfl 0 rfl ?_
          refine r_imul (q := 166) (dc dt_MO_pages 96 rfl) rfl ?_
          exact (hJ ((v1 - (v4 + ((σ.1 160 v5.toNat) + (σ.1 161 v5.toNat)))) * (v1 - (v4 + ((σ.1 160 v5.toNat) + (σ.1 161 v5.toNat))))) ((if_pos (by first | omega | grind)).symm))
        · have q105 := q_
          refine r_iconst (q := 158) (dc dt_MO_pages 92 rfl) rfl rfl ?_
          refine r_goto (q := 166) (dc dt_MO_pages 93 rfl) (by decide) ?_
          exact (hJ 0 ((if_neg (by first | omega | grind)).symm))
    clear h
    refine r_icmp_gt (q := 99) (t := 135) (dc dt_MO_pages 58 rfl) rfl (by decide) o49 o50 (fun q_ => ?_) (fun q_ => ?_)
    · have q106 := q_
      refine r_iconst (q := 136) (dc dt_MO_pages 79 rfl) rfl rfl ?_
      exact (hJ 0 ((if_neg (by first | omega | grind)).symm))
    · have q106 := q_
      have ho := ho q_
      refine r_iload_n (q := 100) (dc dt_MO_pages 59 rfl) rfl rfl 3 rfl ?_
      refine r_iconst (q := 101) (dc dt_MO_pages 60 rfl) rfl rfl ?_
      refine r_icmp_eq (q := 104) (t := 116) (dc dt_MO_pages 61 rfl) rfl (by decide) o23 (⟨by decide, by decide⟩ : rng 1) (fun q_ => ?_) (fun q_ => ?_)
      · have q107 := q_
        have ho := ho.1 q_
        refine r_aload_n (q := 117) (dc dt_MO_pages 69 rfl) rfl rfl 1 rfl ?_
        refine r_getO (q := 120) (v := 166) fl_MO_243 (dc dt_MO_pages 70 rfl) rfl ly8 rfl ?_
        refine r_iload (q := 122) (dc dt_MO_pages 71 rfl) rfl 5 rfl ?_
        refine r_iconst (q := 123) (dc dt_MO_pages 72 rfl) rfl rfl ?_
        refine r_iadd (q := 124) (dc dt_MO_pages 73 rfl) rfl ?_
        have o51 := ho
        refine r_iald (q := 125) (v := σ.1 166 ((v5 + 1).toNat)) (dc dt_MO_pages 74 rfl) rfl ly166 o51 rfl (fun g52 => ?_)
        refine r_ldcw (q := 128) (n := 536870912) (dc dt_MO_pages 75 rfl) rfl (gt_at 1622 (by decide +kernel) rfl) ?_
        refine r_icmp_ge (q := 131) (t := 135) (dc dt_MO_pages 76 rfl) rfl (by decide) g52 (⟨by decide, by decide⟩ : rng 536870912) (fun q_ => ?_) (fun q_ => ?_)
        · have q108 := q_
          refine r_iconst (q := 136) (dc dt_MO_pages 79 rfl) rfl rfl ?_
          exact (hJ 0 ((if_neg (by first | omega | grind)).symm))
        · have q108 := q_
          refine r_iconst (q := 132) (dc dt_MO_pages 77 rfl) rfl rfl ?_
          refine r_goto (q := 136) (dc dt_MO_pages 78 rfl) (by decide) ?_
          exact (hJ 1 ((if_pos (by first | omega | grind)).symm))
      · have q107 := q_
        have ho := ho.2 q_
        refine r_iload_n (q := 105) (dc dt_MO_pages 62 rfl) rfl rfl 4 rfl ?_
        refine r_iload_n (q := 106) (dc dt_MO_pages 63 rfl) rfl rfl 3 rfl ?_
        refine r_iconst (q := 107) (dc dt_MO_pages 64 rfl) rfl rfl ?_
        refine r_isub (q := 108) (dc dt_MO_pages 65 rfl) rfl ?_
        obtain ⟨o53, ho⟩ := ho
        obtain ⟨o54, ho⟩ := ho
        refine r_icmp_ge (q := 111) (t := 135) (dc dt_MO_pages 66 rfl) rfl (by decide) o53 o54 (fun q_ => ?_) (fun q_ => ?_)
        · have q109 := q_
          refine r_iconst (q := 136) (dc dt_MO_pages 79 rfl) rfl rfl ?_
          exact (hJ 0 ((if_neg (by first | omega | grind)).symm))
        · have q109 := q_
          have ho := ho q_
          refine r_iload (q := 113) (dc dt_MO_pages 67 rfl) rfl 5 rfl ?_
          refine r_if_le (q := 116) (t := 135) (dc dt_MO_pages 68 rfl) rfl (by decide) o22 (fun q_ => ?_) (fun q_ => ?_)
          · have q110 := q_
            refine r_iconst (q := 136) (dc dt_MO_pages 79 rfl) rfl rfl ?_
            exact (hJ 0 ((if_neg (by first | omega | grind)).symm))
          · have q110 := q_
            have ho := ho q_
            refine r_aload_n (q := 117) (dc dt_MO_pages 69 rfl) rfl rfl 1 rfl ?_
            refine r_getO (q := 120) (v := 166) fl_MO_243 (dc dt_MO_pages 70 rfl) rfl ly8 rfl ?_
            refine r_iload (q := 122) (dc dt_MO_pages 71 rfl) rfl 5 rfl ?_
            refine r_iconst (q := 123) (dc dt_MO_pages 72 rfl) rfl rfl ?_
            refine r_iadd (q := 124) (dc dt_MO_pages 73 rfl) rfl ?_
            have o55 := ho
            refine r_iald (q := 125) (v := σ.1 166 ((v5 + 1).toNat)) (dc dt_MO_pages 74 rfl) rfl ly166 o55 rfl (fun g56 => ?_)
            refine r_ldcw (q := 128) (n := 536870912) (dc dt_MO_pages 75 rfl) rfl (gt_at 1622 (by decide +kernel) rfl) ?_
            refine r_icmp_ge (q := 131) (t := 135) (dc dt_MO_pages 76 rfl) rfl (by decide) g56 (⟨by decide, by decide⟩ : rng 536870912) (fun q_ => ?_) (fun q_ => ?_)
            · have q111 := q_
              refine r_iconst (q := 136) (dc dt_MO_pages 79 rfl) rfl rfl ?_
              exact (hJ 0 ((if_neg (by first | omega | grind)).symm))
            · have q111 := q_
              refine r_iconst (q := 132) (dc dt_MO_pages 77 rfl) rfl rfl ?_
              refine r_goto (q := 136) (dc dt_MO_pages 78 rfl) (by decide) ?_
              exact (hJ 1 ((if_pos (by first | omega | grind)).symm))
set_option maxRecDepth 20000 in
theorem k_MO_pages_255 {G : GT} {σ : St} {P : Int → St → Prop}  {v1 : Int} {v2 : Int} {v3 : Int} {v4 : Int} {v5 : Int}  
    (h : (0 ≤ v3 ∧ v3 < 81) ∧ rng v5 ∧ (σ.1 167 v3.toNat < v5 → (0 ≤ σ.2.1 8 110 ∧ σ.2.1 8 110 < 80) ∧ rng v3 ∧ (∀ σ87, σ87 = sa σ 163 ((σ.2.1 8 110).toNat) v3 → (∀ σ91, σ91 = sa σ87 164 ((σ.2.1 8 110).toNat) (σ.1 167 v3.toNat) → rng (v1 - v4) ∧ (∀ σ95, σ95 = sa σ91 165 ((σ.2.1 8 110).toNat) (v1 - v4) → rng ((σ.2.1 8 110) + 1) ∧ (∀ σ98, σ98 = sf σ95 8 110 ((σ.2.1 8 110) + 1) → a_MO_pages_244 G v1 v2 ((σ.1 167 v3.toNat) + 1) σ98 P))))) ∧ (v5 ≤ σ.1 167 v3.toNat → (0 ≤ v5 ∧ v5 < 80) ∧ a_MO_pages_255 G v1 v2 v3 (v4 + ((σ.1 160 v5.toNat) + (σ.1 161 v5.toNat))) (v5 + 1) σ P)) :
    a_MO_pages_255 G v1 v2 v3 v4 v5 σ P := by
  refine r_iload (q := 257) (dc dt_MO_pages 148 rfl) rfl 5 rfl ?_
  refine r_aload_n (q := 258) (dc dt_MO_pages 149 rfl) rfl rfl 0 rfl ?_
  refine r_getO (q := 261) (v := 167) fl_MO_246 (dc dt_MO_pages 150 rfl) rfl ly8 rfl ?_
  refine r_iload_n (q := 262) (dc dt_MO_pages 151 rfl) rfl rfl 3 rfl ?_
  obtain ⟨o78, h⟩ := h
  refine r_iald (q := 263) (v := σ.1 167 v3.toNat) (dc dt_MO_pages 152 rfl) rfl ly167 o78 rfl (fun g79 => ?_)
  obtain ⟨o80, h⟩ := h
  refine r_icmp_gt (q := 266) (t := 292) (dc dt_MO_pages 153 rfl) rfl (by decide) o80 g79 (fun q_ => ?_) (fun q_ => ?_)
  · have h := h.1 q_
    refine r_aload_n (q := 293) (dc dt_MO_pages 168 rfl) rfl rfl 0 rfl ?_
    refine r_getO (q := 296) (v := 163) fl_MO_234 (dc dt_MO_pages 169 rfl) rfl ly8 rfl ?_
    refine r_aload_n (q := 297) (dc dt_MO_pages 170 rfl) rfl rfl 0 rfl ?_
    refine r_getI (q := 300) (v := σ.2.1 8 110) fl_MO_549 (dc dt_MO_pages 171 rfl) rfl ly8 rfl rfl (fun g84 => ?_)
    refine r_iload_n (q := 301) (dc dt_MO_pages 172 rfl) rfl rfl 3 rfl ?_
    obtain ⟨o85, h⟩ := h
    obtain ⟨o86, h⟩ := h
    refine r_iast (q := 302) (dc dt_MO_pages 173 rfl) rfl ly163 o85 o86 (fun σ87 e88 => ?_)
    have h := h σ87 e88
    refine r_aload_n (q := 303) (dc dt_MO_pages 174 rfl) rfl rfl 0 rfl ?_
    refine r_getO (q := 306) (v := 164) fl_MO_237 (dc dt_MO_pages 175 rfl) rfl ly8 rfl ?_
    refine r_aload_n (q := 307) (dc dt_MO_pages 176 rfl) rfl rfl 0 rfl ?_
    refine r_getI (q := 310) (v := σ.2.1 8 110) fl_MO_549 (dc dt_MO_pages 177 rfl) rfl ly8 rfl (by rw [e88]; rfl) (fun g89 => ?_)
    refine r_aload_n (q := 311) (dc dt_MO_pages 178 rfl) rfl rfl 0 rfl ?_
    refine r_getO (q := 314) (v := 167) fl_MO_246 (dc dt_MO_pages 179 rfl) rfl ly8 rfl ?_
    refine r_iload_n (q := 315) (dc dt_MO_pages 180 rfl) rfl rfl 3 rfl ?_
    refine r_iald (q := 316) (v := σ.1 167 v3.toNat) (dc dt_MO_pages 181 rfl) rfl ly167 o78 (by rw [e88]; rfl) (fun g90 => ?_)
    refine r_iast (q := 317) (dc dt_MO_pages 182 rfl) rfl ly164 o85 g90 (fun σ91 e92 => ?_)
    have h := h σ91 e92
    refine r_aload_n (q := 318) (dc dt_MO_pages 183 rfl) rfl rfl 0 rfl ?_
    refine r_getO (q := 321) (v := 165) fl_MO_240 (dc dt_MO_pages 184 rfl) rfl ly8 rfl ?_
    refine r_aload_n (q := 322) (dc dt_MO_pages 185 rfl) rfl rfl 0 rfl ?_
    refine r_getI (q := 325) (v := σ.2.1 8 110) fl_MO_549 (dc dt_MO_pages 186 rfl) rfl ly8 rfl (by rw [e92, e88]; rfl) (fun g93 => ?_)
    refine r_iload_n (q := 326) (dc dt_MO_pages 187 rfl) rfl rfl 1 rfl ?_
    refine r_iload (q := 328) (dc dt_MO_pages 188 rfl) rfl 4 rfl ?_
    refine r_isub (q := 329) (dc dt_MO_pages 189 rfl) rfl ?_
    obtain ⟨o94, h⟩ := h
    refine r_iast (q := 330) (dc dt_MO_pages 190 rfl) rfl ly165 o85 o94 (fun σ95 e96 => ?_)
    have h := h σ95 e96
    refine r_aload_n (q := 331) (dc dt_MO_pages 191 rfl) rfl rfl 0 rfl ?_
    refine r_dupo (q := 332) (dc dt_MO_pages 192 rfl) rfl ?_
    refine r_getI (q := 335) (v := σ.2.1 8 110) fl_MO_549 (dc dt_MO_pages 193 rfl) rfl ly8 rfl (by rw [e96, e92, e88]; rfl) (fun g97 => ?_)
    refine r_iconst (q := 336) (dc dt_MO_pages 194 rfl) rfl rfl ?_
    refine r_iadd (q := 337) (dc dt_MO_pages 195 rfl) rfl ?_
    obtain ⟨o100, h⟩ := h
    refine r_put (q := 340) fl_MO_549 (dc dt_MO_pages 196 rfl) rfl ly8 (fun _ => rfl) (Or.inl rfl) pf_8_110 o100 (fun σ98 e99 => ?_)
    have h := h σ98 e99
    refine r_aload_n (q := 341) (dc dt_MO_pages 197 rfl) rfl rfl 0 rfl ?_
    refine r_getO (q := 344) (v := 167) fl_MO_246 (dc dt_MO_pages 198 rfl) rfl ly8 rfl ?_
    refine r_iload_n (q := 345) (dc dt_MO_pages 199 rfl) rfl rfl 3 rfl ?_
    refine r_iald (q := 346) (v := σ.1 167 v3.toNat) (dc dt_MO_pages 200 rfl) rfl ly167 o78 (by rw [e99, e96, e92, e88]; rfl) (fun g101 => ?_)
    refine r_iconst (q := 347) (dc dt_MO_pages 201 rfl) rfl rfl ?_
    refine r_iadd (q := 348) (dc dt_MO_pages 202 rfl) rfl ?_
    refine r_istore_n (q := 349) (dc dt_MO_pages 203 rfl) rfl rfl (by decide) rfl ?_
    refine r_goto (q := 244) (dc dt_MO_pages 204 rfl) (by decide) ?_
    exact r_loc [1, 2, 3, 0] rfl h
  · have h := h.2 q_
    refine r_iload (q := 268) (dc dt_MO_pages 154 rfl) rfl 4 rfl ?_
    refine r_aload_n (q := 269) (dc dt_MO_pages 155 rfl) rfl rfl 0 rfl ?_
    refine r_getO (q := 272) (v := 160) fl_MO_225 (dc dt_MO_pages 156 rfl) rfl ly8 rfl ?_
    refine r_iload (q := 274) (dc dt_MO_pages 157 rfl) rfl 5 rfl ?_
    obtain ⟨o102, h⟩ := h
    refine r_iald (q := 275) (v := σ.1 160 v5.toNat) (dc dt_MO_pages 158 rfl) rfl ly160 o102 rfl (fun g103 => ?_)
    refine r_aload_n (q := 276) (dc dt_MO_pages 159 rfl) rfl rfl 0 rfl ?_
    refine r_getO (q := 279) (v := 161) fl_MO_228 (dc dt_MO_pages 160 rfl) rfl ly8 rfl ?_
    refine r_iload (q := 281) (dc dt_MO_pages 161 rfl) rfl 5 rfl ?_
    refine r_iald (q := 282) (v := σ.1 161 v5.toNat) (dc dt_MO_pages 162 rfl) rfl ly161 o102 rfl (fun g104 => ?_)
    refine r_iadd (q := 283) (dc dt_MO_pages 163 rfl) rfl ?_
    refine r_iadd (q := 284) (dc dt_MO_pages 164 rfl) rfl ?_
    refine r_istore (q := 286) (dc dt_MO_pages 165 rfl) rfl (by decide) rfl ?_
    refine r_iinc (q := 289) (k := 5) (dc dt_MO_pages 166 rfl) rfl rfl (by decide) rfl ?_
    refine r_goto (q := 255) (dc dt_MO_pages 167 rfl) (by decide) ?_
    exact r_loc [2, 3, 4, 5, 1, 0] rfl h
def tb_MO_page : List (Nat × Instr × Nat) := [(0, .aload_n 0, 1), (1, .getfield 270, 3), (4, .ifCond .ne 6, 3), (7, .bipush (-3), 2), (9, .ireturn, 1), (10, .iload_n 1, 1), (11, .iconst (-1), 1), (12, .if_icmp .ne 8, 3), (15, .aload_n 0, 1), (16, .getfield 549, 3), (19, .ireturn, 1), (20, .iload_n 1, 1), (21, .i2l, 1), (22, .lconst 0, 1), (23, .aload_n 0, 1), (24, .getfield 549, 3), (27, .iconst 1, 1), (28, .isub, 1), (29, .i2l, 1), (30, .invokestatic 253, 3), (33, .ifCond .ne 5, 3), (36, .iconst (-1), 1), (37, .ireturn, 1), (38, .iload_n 2, 1), (39, .ifCond .ne 12, 3), (42, .aload_n 0, 1), (43, .getfield 234, 3), (46, .iload_n 1, 1), (47, .iaload, 1), (48, .goto 42, 3), (51, .iload_n 2, 1), (52, .iconst 1, 1), (53, .if_icmp .ne 21, 3), (56, .aload_n 0, 1), (57, .getfield 237, 3), (60, .iload_n 1, 1), (61, .iaload, 1), (62, .aload_n 0, 1), (63, .getfield 234, 3), (66, .iload_n 1, 1), (67, .iaload, 1), (68, .isub, 1), (69, .iconst 1, 1), (70, .iadd, 1), (71, .goto 19, 3), (74, .iload_n 2, 1), (75, .iconst 2, 1), (76, .if_icmp .ne 12, 3), (79, .aload_n 0, 1), (80, .getfield 240, 3), (83, .iload_n 1, 1), (84, .iaload, 1), (85, .goto 5, 3), (88, .bipush (-2), 2), (90, .ireturn, 1)]
theorem dt_MO_page : DT (cM m_MO_page) tb_MO_page := by unfold DT; decide +kernel
abbrev a_MO_page_0 (G : GT)  (v1 : Int) (v2 : Int) (σ : St) (P : Int → St → Prop) : Prop := A G m_MO_page 0 [(0, O 8), (1, I v1), (2, I v2)] [] σ P
set_option maxRecDepth 20000 in
theorem k_MO_page_0 {G : GT} {σ : St} {P : Int → St → Prop}  {v1 : Int} {v2 : Int}  
    (h : (σ.2.1 8 109 ≠ 0 → rng v1 ∧ (v1 ≠ (-1) → rng ((σ.2.1 8 110) - 1) ∧ (0 ≤ v1 ∧ v1 ≤ ((σ.2.1 8 110) - 1) → rng v2 ∧ ((v2 ≠ 0 → (v2 ≠ 1 → (v2 = 2 → 0 ≤ v1 ∧ v1 < 80)) ∧ (v2 = 1 → 0 ≤ v1 ∧ v1 < 80)) ∧ (v2 = 0 → 0 ≤ v1 ∧ v1 < 80)) ∧ rng (if v2 ≠ 0 then (if v2 ≠ 1 then (if v2 ≠ 2 then (-2 : Int) else σ.1 165 v1.toNat) else ((σ.1 164 v1.toNat) - (σ.1 163 v1.toNat)) + 1) else σ.1 163 v1.toNat) ∧ P (if v2 ≠ 0 then (if v2 ≠ 1 then (if v2 ≠ 2 then (-2 : Int) else σ.1 165 v1.toNat) else ((σ.1 164 v1.toNat) - (σ.1 163 v1.toNat)) + 1) else σ.1 163 v1.toNat) σ) ∧ (¬ (0 ≤ v1 ∧ v1 ≤ ((σ.2.1 8 110) - 1)) → P (-1) σ)) ∧ (v1 = (-1) → P (σ.2.1 8 110) σ)) ∧ (σ.2.1 8 109 = 0 → P (-3) σ)) :
    a_MO_page_0 G v1 v2 σ P := by
  refine r_aload_n (q := 1) (dc dt_MO_page 0 rfl) rfl rfl 0 rfl ?_
  refine r_getI (q := 4) (v := σ.2.1 8 109) fl_MO_270 (dc dt_MO_page 1 rfl) rfl ly8 rfl rfl (fun g1 => ?_)
  refine r_if_ne (q := 7) (t := 10) (dc dt_MO_page 2 rfl) rfl (by decide) g1 (fun q_ => ?_) (fun q_ => ?_)
  · have h := h.1 q_
    refine r_iload_n (q := 11) (dc dt_MO_page 5 rfl) rfl rfl 1 rfl ?_
    refine r_iconst (q := 12) (dc dt_MO_page 6 rfl) rfl rfl ?_
    obtain ⟨o2, h⟩ := h
    refine r_icmp_ne (q := 15) (t := 20) (dc dt_MO_page 7 rfl) rfl (by decide) o2 (⟨by decide, by decide⟩ : rng (-1)) (fun q_ => ?_) (fun q_ => ?_)
    · have h := h.1 q_
      refine r_iload_n (q := 21) (dc dt_MO_page 11 rfl) rfl rfl 1 rfl ?_
      refine r_i2l (q := 22) (dc dt_MO_page 12 rfl) rfl o2 ?_
      refine r_lconst (q := 23) (n := 0) (dc dt_MO_page 13 rfl) rfl rfl ?_
      refine r_aload_n (q := 24) (dc dt_MO_page 14 rfl) rfl rfl 0 rfl ?_
      refine r_getI (q := 27) (v := σ.2.1 8 110) fl_MO_549 (dc dt_MO_page 15 rfl) rfl ly8 rfl rfl (fun g3 => ?_)
      refine r_iconst (q := 28) (dc dt_MO_page 16 rfl) rfl rfl ?_
      refine r_isub (q := 29) (dc dt_MO_page 17 rfl) rfl ?_
      obtain ⟨o4, h⟩ := h
      refine r_i2l (q := 30) (dc dt_MO_page 18 rfl) rfl o4 ?_
      refine r_callSi (q := 33) mk_MO_in lm_MO_253 (RMO.of rfl) rfl (dc dt_MO_page 19 rfl) rfl [J v1, J 0, J ((σ.2.1 8 110) - 1)] [] rfl rfl (Nat.le_of_ble_eq_true rfl) (sp_MO_in o2 (⟨by decide, by decide⟩ : rng 0) o4) (fun _ _ g5 z => ?_)
      obtain ⟨z, w⟩ := z
      subst z
      replace w := w.symm
      subst w
      refine r_ifb_ne (q := 36) (t := 38) (dc dt_MO_page 20 rfl) rfl (by decide) (fun q_ => ?_) (fun q_ => ?_)
      · have h := h.1 q_
        refine r_iload_n (q := 39) (dc dt_MO_page 23 rfl) rfl rfl 2 rfl ?_
        obtain ⟨o6, h⟩ := h
        obtain ⟨ho, h⟩ := h
        have hJ : ∀ (w_0 : Int), w_0 = (if v2 ≠ 0 then (if v2 ≠ 1 then (if v2 ≠ 2 then (-2 : Int) else σ.1 165 v1.toNat) else ((σ.1 164 v1.toNat) - (σ.1 163 v1.toNat)) + 1) else σ.1 163 v1.toNat) → A G m_MO_page 90 [(0, O 8), (1, I v1), (2, I v2)] [I w_0] σ P := by
          intro w_0 z_0
          subst z_0
          obtain ⟨o14, h⟩ := h
          exact r_iret rfl (dc dt_MO_page 54 rfl) o14 h
        clear h
        refine r_if_ne (q := 42) (t := 51) (dc dt_MO_page 24 rfl) rfl (by decide) o6 (fun q_ => ?_) (fun q_ => ?_)
        · have q16 := q_
          have ho := ho.1 q_
          refine r_iload_n (q := 52) (dc dt_MO_page 30 rfl) rfl rfl 2 rfl ?_
          refine r_iconst (q := 53) (dc dt_MO_page 31 rfl) rfl rfl ?_
          refine r_icmp_ne (q := 56) (t := 74) (dc dt_MO_page 32 rfl) rfl (by decide) o6 (⟨by decide, by decide⟩ : rng 1) (fun q_ => ?_) (fun q_ => ?_)
          · have q17 := q_
            have ho := ho.1 q_
            refine r_iload_n (q := 75) (dc dt_MO_page 45 rfl) rfl rfl 2 rfl ?_
            refine r_iconst (q := 76) (dc dt_MO_page 46 rfl) rfl rfl ?_
            refine r_icmp_ne (q := 79) (t := 88) (dc dt_MO_page 47 rfl) rfl (by decide) o6 (⟨by decide, by decide⟩ : rng 2) (fun q_ => ?_) (fun q_ => ?_)
            · have q18 := q_
              refine r_bipush (q := 90) (dc dt_MO_page 53 rfl) rfl (by decide) ?_
              exact (hJ (-2) ((((if_pos (by first | omega | grind)).trans (if_pos (by first | omega | grind))).trans (if_pos (by first | omega | grind))).symm))
            · have q18 := q_
              have ho := ho q_
              refine r_aload_n (q := 80) (dc dt_MO_page 48 rfl) rfl rfl 0 rfl ?_
              refine r_getO (q := 83) (v := 165) fl_MO_240 (dc dt_MO_page 49 rfl) rfl ly8 rfl ?_
              refine r_iload_n (q := 84) (dc dt_MO_page 50 rfl) rfl rfl 1 rfl ?_
              have o7 := ho
              refine r_iald (q := 85) (v := σ.1 165 v1.toNat) (dc dt_MO_page 51 rfl) rfl ly165 o7 rfl (fun g8 => ?_)
              refine r_goto (q := 90) (dc dt_MO_page 52 rfl) (by decide) ?_
              exact (hJ (σ.1 165 v1.toNat) ((((if_pos (by first | omega | grind)).trans (if_pos (by first | omega | grind))).trans (if_neg (by first | omega | grind))).symm))
          · have q17 := q_
            have ho := ho.2 q_
            refine r_aload_n (q := 57) (dc dt_MO_page 33 rfl) rfl rfl 0 rfl ?_
            refine r_getO (q := 60) (v := 164) fl_MO_237 (dc dt_MO_page 34 rfl) rfl ly8 rfl ?_
            refine r_iload_n (q := 61) (dc dt_MO_page 35 rfl) rfl rfl 1 rfl ?_
            have o9 := ho
            refine r_iald (q := 62) (v := σ.1 164 v1.toNat) (dc dt_MO_page 36 rfl) rfl ly164 o9 rfl (fun g10 => ?_)
            refine r_aload_n (q := 63) (dc dt_MO_page 37 rfl) rfl rfl 0 rfl ?_
            refine r_getO (q := 66) (v := 163) fl_MO_234 (dc dt_MO_page 38 rfl) rfl ly8 rfl ?_
            refine r_iload_n (q := 67) (dc dt_MO_page 39 rfl) rfl rfl 1 rfl ?_
            refine r_iald (q := 68) (v := σ.1 163 v1.toNat) (dc dt_MO_page 40 rfl) rfl ly163 o9 rfl (fun g11 => ?_)
            refine r_isub (q := 69) (dc dt_MO_page 41 rfl) rfl ?_
            refine r_iconst (q := 70) (dc dt_MO_page 42 rfl) rfl rfl ?_
            refine r_iadd (q := 71) (dc dt_MO_page 43 rfl) rfl ?_
            refine r_goto (q := 90) (dc dt_MO_page 44 rfl) (by decide) ?_
            exact (hJ (((σ.1 164 v1.toNat) - (σ.1 163 v1.toNat)) + 1) (((if_pos (by first | omega | grind)).trans (if_neg (by first | omega | grind))).symm))
        · have q16 := q_
          have ho := ho.2 q_
          refine r_aload_n (q := 43) (dc dt_MO_page 25 rfl) rfl rfl 0 rfl ?_
          refine r_getO (q := 46) (v := 163) fl_MO_234 (dc dt_MO_page 26 rfl) rfl ly8 rfl ?_
          refine r_iload_n (q := 47) (dc dt_MO_page 27 rfl) rfl rfl 1 rfl ?_
          have o12 := ho
          refine r_iald (q := 48) (v := σ.1 163 v1.toNat) (dc dt_MO_page 28 rfl) rfl ly163 o12 rfl (fun g13 => ?_)
          refine r_goto (q := 90) (dc dt_MO_page 29 rfl) (by decide) ?_
          exact (hJ (σ.1 163 v1.toNat) ((if_neg (by first | omega | grind)).symm))
      · have h := h.2 q_
        refine r_iconst (q := 37) (dc dt_MO_page 21 rfl) rfl rfl ?_
        exact r_iret rfl (dc dt_MO_page 22 rfl) (⟨by decide, by decide⟩ : rng (-1)) h
    · have h := h.2 q_
      refine r_aload_n (q := 16) (dc dt_MO_page 8 rfl) rfl rfl 0 rfl ?_
      refine r_getI (q := 19) (v := σ.2.1 8 110) fl_MO_549 (dc dt_MO_page 9 rfl) rfl ly8 rfl rfl (fun g15 => ?_)
      exact r_iret rfl (dc dt_MO_page 10 rfl) g15 h
  · have h := h.2 q_
    refine r_bipush (q := 9) (dc dt_MO_page 3 rfl) rfl (by decide) ?_
    exact r_iret rfl (dc dt_MO_page 4 rfl) (⟨by decide, by decide⟩ : rng (-3)) h
set_option maxRecDepth 20000 in
theorem sp0_MO_page {G : GT} {σ : St} {v1 : Int} {v2 : Int}  (j0 : (σ.2.1 8 109 ≠ 0 → rng v1 ∧ (v1 ≠ (-1) → rng ((σ.2.1 8 110) - 1) ∧ (0 ≤ v1 ∧ v1 ≤ ((σ.2.1 8 110) - 1) → rng v2 ∧ ((v2 ≠ 0 → (v2 ≠ 1 → (v2 = 2 → 0 ≤ v1 ∧ v1 < 80)) ∧ (v2 = 1 → 0 ≤ v1 ∧ v1 < 80)) ∧ (v2 = 0 → 0 ≤ v1 ∧ v1 < 80)) ∧ rng (if v2 ≠ 0 then (if v2 ≠ 1 then (if v2 ≠ 2 then (-2 : Int) else σ.1 165 v1.toNat) else ((σ.1 164 v1.toNat) - (σ.1 163 v1.toNat)) + 1) else σ.1 163 v1.toNat))))) : CJ G m_MO_page [O 8, I v1, I v2] σ (fun r u => r = (if σ.2.1 8 109 ≠ 0 then (if v1 ≠ (-1) then (if 0 ≤ v1 ∧ v1 ≤ ((σ.2.1 8 110) - 1) then (if v2 ≠ 0 then (if v2 ≠ 1 then (if v2 ≠ 2 then (-2 : Int) else σ.1 165 v1.toNat) else ((σ.1 164 v1.toNat) - (σ.1 163 v1.toNat)) + 1) else σ.1 163 v1.toNat) else (-1 : Int)) else σ.2.1 8 110) else (-3 : Int)) ∧ u = σ) := by
  refine CJ.intro (by decide) (by simp [catA]; decide) (fun _ => k_MO_page_0  ?_)
  refine ⟨fun q_ => ?_, fun q_ => ?_⟩
  ·
    refine ⟨by first | assumption | omega | grind, ?_⟩
    refine ⟨fun q_ => ?_, fun q_ => ?_⟩
    ·
      refine ⟨by first | assumption | omega | grind, ?_⟩
      refine ⟨fun q_ => ?_, fun q_ => ?_⟩
      ·
        refine ⟨by first | assumption | omega | grind, ?_⟩
        refine ⟨by first | assumption | omega | grind, ?_⟩
        refine ⟨by first | assumption | omega | grind, ?_⟩
        exact ⟨by first | rfl | grind, rfl⟩
      ·
        exact ⟨by first | rfl | grind, rfl⟩
    ·
      exact ⟨by first | rfl | grind, rfl⟩
  ·
    exact ⟨by first | rfl | grind, rfl⟩
def p_MO_page (σ : St) (v1 : Int) (v2 : Int) : Prop := (σ.2.1 8 109 ≠ 0 → rng v1 ∧ (v1 ≠ (-1) → rng ((σ.2.1 8 110) - 1) ∧ (0 ≤ v1 ∧ v1 ≤ ((σ.2.1 8 110) - 1) → rng v2 ∧ ((v2 ≠ 0 → (v2 ≠ 1 → (v2 = 2 → 0 ≤ v1 ∧ v1 < 80)) ∧ (v2 = 1 → 0 ≤ v1 ∧ v1 < 80)) ∧ (v2 = 0 → 0 ≤ v1 ∧ v1 < 80)) ∧ rng (if v2 ≠ 0 then (if v2 ≠ 1 then (if v2 ≠ 2 then (-2 : Int) else σ.1 165 v1.toNat) else ((σ.1 164 v1.toNat) - (σ.1 163 v1.toNat)) + 1) else σ.1 163 v1.toNat))))
def f_MO_page (σ : St) (v1 : Int) (v2 : Int) : Int := if σ.2.1 8 109 ≠ 0 then (if v1 ≠ (-1) then (if 0 ≤ v1 ∧ v1 ≤ ((σ.2.1 8 110) - 1) then (if v2 ≠ 0 then (if v2 ≠ 1 then (if v2 ≠ 2 then (-2 : Int) else σ.1 165 v1.toNat) else ((σ.1 164 v1.toNat) - (σ.1 163 v1.toNat)) + 1) else σ.1 163 v1.toNat) else (-1 : Int)) else σ.2.1 8 110) else (-3 : Int)
theorem sp_MO_page {G : GT} {σ : St} {v1 : Int} {v2 : Int}  (j : p_MO_page σ v1 v2) : CJ G m_MO_page [O 8, I v1, I v2] σ (fun r u => r = (f_MO_page σ v1 v2) ∧ u = σ) := sp0_MO_page  j
def tb_MO_told : List (Nat × Instr × Nat) := [(0, .iload_n 1, 1), (1, .tableswitch 69 0 5 #[39, 44, 49, 54, 59, 64], 39), (40, .aload_n 0, 1), (41, .getfield 249, 3), (44, .ireturn, 1), (45, .aload_n 0, 1), (46, .getfield 257, 3), (49, .ireturn, 1), (50, .aload_n 0, 1), (51, .getfield 292, 3), (54, .ireturn, 1), (55, .aload_n 0, 1), (56, .getfield 320, 3), (59, .ireturn, 1), (60, .aload_n 0, 1), (61, .getfield 323, 3), (64, .ireturn, 1), (65, .aload_n 0, 1), (66, .getfield 519, 3), (69, .ireturn, 1), (70, .bipush (-2), 2), (72, .ireturn, 1)]
theorem dt_MO_told : DT (cM m_MO_told) tb_MO_told := by unfold DT; decide +kernel
abbrev a_MO_told_0 (G : GT)  (v1 : Int) (σ : St) (P : Int → St → Prop) : Prop := A G m_MO_told 0 [(0, O 8), (1, I v1)] [] σ P
set_option maxRecDepth 20000 in
theorem k_MO_told_0 {G : GT} {σ : St} {P : Int → St → Prop}  {v1 : Int}  
    (h : rng v1 ∧ (v1 = 0 → P (σ.2.1 8 6) σ) ∧ (v1 = 1 → P (σ.2.1 8 17) σ) ∧ (v1 = 2 → P (σ.2.1 8 7) σ) ∧ (v1 = 3 → P (σ.2.1 8 21) σ) ∧ (v1 = 4 → P (σ.2.1 8 25) σ) ∧ (v1 = 5 → P (σ.2.1 8 96) σ) ∧ ((v1 < 0 ∨ 5 < v1) → P (-2) σ)) :
    a_MO_told_0 G v1 σ P := by
  refine r_iload_n (q := 1) (dc dt_MO_told 0 rfl) rfl rfl 1 rfl ?_
  obtain ⟨o1, h⟩ := h
  by_cases qo : (v1 < 0 ∨ 5 < v1)
  · have q_ := qo
    have h := h.2.2.2.2.2.2 q_
    refine r_swOut (t := 70) (dc dt_MO_told 1 rfl) (by decide) o1 q_ ?_
    refine r_bipush (q := 72) (dc dt_MO_told 20 rfl) rfl (by decide) ?_
    exact r_iret rfl (dc dt_MO_told 21 rfl) (⟨by decide, by decide⟩ : rng (-2)) h
  · by_cases q_ : v1 = 0
    · have h := h.1 q_
      refine r_swIn (t := 40) (dc dt_MO_told 1 rfl) o1 (by omega) (by omega) (by rw [q_]; rfl) (by decide) ?_
      refine r_aload_n (q := 41) (dc dt_MO_told 2 rfl) rfl rfl 0 rfl ?_
      refine r_getI (q := 44) (v := σ.2.1 8 6) fl_MO_249 (dc dt_MO_told 3 rfl) rfl ly8 rfl rfl (fun g2 => ?_)
      exact r_iret rfl (dc dt_MO_told 4 rfl) g2 h
    · by_cases q_ : v1 = 1
      · have h := h.2.1 q_
        refine r_swIn (t := 45) (dc dt_MO_told 1 rfl) o1 (by omega) (by omega) (by rw [q_]; rfl) (by decide) ?_
        refine r_aload_n (q := 46) (dc dt_MO_told 5 rfl) rfl rfl 0 rfl ?_
        refine r_getI (q := 49) (v := σ.2.1 8 17) fl_MO_257 (dc dt_MO_told 6 rfl) rfl ly8 rfl rfl (fun g3 => ?_)
        exact r_iret rfl (dc dt_MO_told 7 rfl) g3 h
      · by_cases q_ : v1 = 2
        · have h := h.2.2.1 q_
          refine r_swIn (t := 50) (dc dt_MO_told 1 rfl) o1 (by omega) (by omega) (by rw [q_]; rfl) (by decide) ?_
          refine r_aload_n (q := 51) (dc dt_MO_told 8 rfl) rfl rfl 0 rfl ?_
          refine r_getI (q := 54) (v := σ.2.1 8 7) fl_MO_292 (dc dt_MO_told 9 rfl) rfl ly8 rfl rfl (fun g4 => ?_)
          exact r_iret rfl (dc dt_MO_told 10 rfl) g4 h
        · by_cases q_ : v1 = 3
          · have h := h.2.2.2.1 q_
            refine r_swIn (t := 55) (dc dt_MO_told 1 rfl) o1 (by omega) (by omega) (by rw [q_]; rfl) (by decide) ?_
            refine r_aload_n (q := 56) (dc dt_MO_told 11 rfl) rfl rfl 0 rfl ?_
            refine r_getI (q := 59) (v := σ.2.1 8 21) fl_MO_320 (dc dt_MO_told 12 rfl) rfl ly8 rfl rfl (fun g5 => ?_)
            exact r_iret rfl (dc dt_MO_told 13 rfl) g5 h
          · by_cases q_ : v1 = 4
            · have h := h.2.2.2.2.1 q_
              refine r_swIn (t := 60) (dc dt_MO_told 1 rfl) o1 (by omega) (by omega) (by rw [q_]; rfl) (by decide) ?_
              refine r_aload_n (q := 61) (dc dt_MO_told 14 rfl) rfl rfl 0 rfl ?_
              refine r_getI (q := 64) (v := σ.2.1 8 25) fl_MO_323 (dc dt_MO_told 15 rfl) rfl ly8 rfl rfl (fun g6 => ?_)
              exact r_iret rfl (dc dt_MO_told 16 rfl) g6 h
            · have q_ : v1 = 5 := by omega
              have h := h.2.2.2.2.2.1 q_
              refine r_swIn (t := 65) (dc dt_MO_told 1 rfl) o1 (by omega) (by omega) (by rw [q_]; rfl) (by decide) ?_
              refine r_aload_n (q := 66) (dc dt_MO_told 17 rfl) rfl rfl 0 rfl ?_
              refine r_getI (q := 69) (v := σ.2.1 8 96) fl_MO_519 (dc dt_MO_told 18 rfl) rfl ly8 rfl rfl (fun g7 => ?_)
              exact r_iret rfl (dc dt_MO_told 19 rfl) g7 h
