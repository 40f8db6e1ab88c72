theorem fl_SC_15 : FL R_SC 15 1 1 := FL.of rfl (by decide) rfl 103 (by decide +kernel)
theorem fl_SC_18 : FL R_SC 18 1 2 := FL.of rfl (by decide) rfl 106 (by decide +kernel)
theorem fl_SC_21 : FL R_SC 21 1 3 := FL.of rfl (by decide) rfl 108 (by decide +kernel)
theorem fl_SC_40 : FL R_SC 40 1 8 := FL.of rfl (by decide) rfl 125 (by decide +kernel)
theorem fl_SC_9 : FL R_SC 9 1 0 := FL.of rfl (by decide) rfl 101 (by decide +kernel)
theorem lm_SC_55 : Cond.methodLinkNest R_SC 55 (yM m_JS_within) "JoinSetter" ∈ nestW := by simp [nestW]
theorem mk_JS_within : MKS m_JS_within 3 := ⟨⟨gt_at 603 (by decide +kernel) rfl, gt_at 71 (by decide +kernel) rfl, by decide +kernel, by decide +kernel, by decide +kernel⟩, gt_at 602 (by decide +kernel) rfl⟩
def tb_JS_within : List (Nat × Instr × Nat) := [(0, .iload_n 0, 1), (1, .iload_n 1, 1), (2, .if_icmp .lt 12, 3), (5, .iload_n 0, 1), (6, .iload_n 2, 1), (7, .if_icmp .gt 7, 3), (10, .iconst 1, 1), (11, .goto 4, 3), (14, .iconst 0, 1), (15, .ireturn, 1)]
theorem dt_JS_within : DT (cM m_JS_within) tb_JS_within := by unfold DT; decide +kernel
abbrev a_JS_within_0 (G : GT)  (v0 : Int) (v1 : Int) (v2 : Int) (σ : St) (P : Int → St → Prop) : Prop := A G m_JS_within 0 [(0, I v0), (1, I v1), (2, I v2)] [] σ P
set_option maxRecDepth 20000 in
theorem k_JS_within_0 {G : GT} {σ : St} {P : Int → St → Prop}  {v0 : Int} {v1 : Int} {v2 : Int}  
    (h : rng v0 ∧ rng v1 ∧ ((v1 ≤ v0 → rng v2)) ∧ P (if v1 ≤ v0 ∧ v0 ≤ v2 then 1 else 0) σ) :
    a_JS_within_0 G v0 v1 v2 σ P := by
  refine r_iload_n (q := 1) (dc dt_JS_within 0 rfl) rfl rfl 0 rfl ?_
  refine r_iload_n (q := 2) (dc dt_JS_within 1 rfl) rfl rfl 1 rfl ?_
  obtain ⟨o1, h⟩ := h
  obtain ⟨o2, h⟩ := h
  obtain ⟨ho, h⟩ := h
  have hJ : A G m_JS_within 15 [(0, I v0), (1, I v1), (2, I v2)] [I (if v1 ≤ v0 ∧ v0 ≤ v2 then 1 else 0)] σ P := by
    exact r_zret rfl (dc dt_JS_within 9 rfl) b01_or h
  clear h
  refine r_icmp_lt (q := 5) (t := 14) (dc dt_JS_within 2 rfl) rfl (by decide) o1 o2 (fun q_ => ?_) (fun q_ => ?_)
  · have q4 := q_
    refine r_iconst (q := 15) (dc dt_JS_within 8 rfl) rfl rfl ?_
    rw [show (if v1 ≤ v0 ∧ v0 ≤ v2 then (1 : Int) else 0) = 0 from if_neg (by first | omega | grind)] at hJ
    exact hJ
  · have q4 := q_
    have ho := ho q_
    refine r_iload_n (q := 6) (dc dt_JS_within 3 rfl) rfl rfl 0 rfl ?_
    refine r_iload_n (q := 7) (dc dt_JS_within 4 rfl) rfl rfl 2 rfl ?_
    have o3 := ho
    refine r_icmp_gt (q := 10) (t := 14) (dc dt_JS_within 5 rfl) rfl (by decide) o1 o3 (fun q_ => ?_) (fun q_ => ?_)
    · have q5 := q_
      refine r_iconst (q := 15) (dc dt_JS_within 8 rfl) rfl rfl ?_
      rw [show (if v1 ≤ v0 ∧ v0 ≤ v2 then (1 : Int) else 0) = 0 from if_neg (by first | omega | grind)] at hJ
      exact hJ
    · have q5 := q_
      refine r_iconst (q := 11) (dc dt_JS_within 6 rfl) rfl rfl ?_
      refine r_goto (q := 15) (dc dt_JS_within 7 rfl) (by decide) ?_
      rw [show (if v1 ≤ v0 ∧ v0 ≤ v2 then (1 : Int) else 0) = 1 from if_pos (by first | omega | grind)] at hJ
      exact hJ
set_option maxRecDepth 20000 in
theorem sp_JS_within {G : GT} {σ : St} {v0 : Int} {v1 : Int} {v2 : Int}  (j0 : rng v0) (j1 : rng v1) (j2 : (v1 ≤ v0 → rng v2)) : CJ G m_JS_within [I v0, I v1, I v2] σ (fun r u => r = (if v1 ≤ v0 ∧ v0 ≤ v2 then 1 else 0) ∧ u = σ) := by
  refine CJ.intro (by decide) (by simp [catA]; decide) (fun _ => k_JS_within_0  ?_)
  refine ⟨by first | assumption | omega | grind, ?_⟩
  refine ⟨by first | assumption | omega | grind, ?_⟩
  refine ⟨by first | assumption | omega | grind, ?_⟩
  exact ⟨rfl, rfl⟩
def tb_MO_in : List (Nat × Instr × Nat) := [(0, .lload_n 0, 1), (1, .lload_n 2, 1), (2, .lcmp, 1), (3, .ifCond .lt 14, 3), (6, .lload_n 0, 1), (7, .lload 4, 2), (9, .lcmp, 1), (10, .ifCond .gt 7, 3), (13, .iconst 1, 1), (14, .goto 4, 3), (17, .iconst 0, 1), (18, .ireturn, 1)]
theorem dt_MO_in : DT (cM m_MO_in) tb_MO_in := by unfold DT; decide +kernel
abbrev a_MO_in_0 (G : GT)  (v0 : Int) (v2 : Int) (v4 : Int) (σ : St) (P : Int → St → Prop) : Prop := A G m_MO_in 0 [(0, J v0), (2, J v2), (4, J v4)] [] σ P
set_option maxRecDepth 20000 in
theorem k_MO_in_0 {G : GT} {σ : St} {P : Int → St → Prop}  {v0 : Int} {v2 : Int} {v4 : Int}  (h0 : rng v0) (h2 : rng v2) (h4 : rng v4)
    (h : P (if v2 ≤ v0 ∧ v0 ≤ v4 then 1 else 0) σ) :
    a_MO_in_0 G v0 v2 v4 σ P := by
  refine r_lload_n (q := 1) (dc dt_MO_in 0 rfl) rfl rfl 0 rfl ?_
  refine r_lload_n (q := 2) (dc dt_MO_in 1 rfl) rfl rfl 1 rfl ?_
  refine r_lcmp (q := 3) (dc dt_MO_in 2 rfl) rfl h0 h2 ?_
  have hJ : A G m_MO_in 18 [(0, J v0), (2, J v2), (4, J v4)] [I (if v2 ≤ v0 ∧ v0 ≤ v4 then 1 else 0)] σ P := by
    exact r_zret rfl (dc dt_MO_in 11 rfl) b01_or h
  clear h
  refine r_ifc_lt (q := 6) (t := 17) (dc dt_MO_in 3 rfl) rfl (by decide) (fun q_ => ?_) (fun q_ => ?_)
  · have q1 := q_
    refine r_iconst (q := 18) (dc dt_MO_in 10 rfl) rfl rfl ?_
    rw [show (if v2 ≤ v0 ∧ v0 ≤ v4 then (1 : Int) else 0) = 0 from if_neg (by first | omega | grind)] at hJ
    exact hJ
  · have q1 := q_
    refine r_lload_n (q := 7) (dc dt_MO_in 4 rfl) rfl rfl 0 rfl ?_
    refine r_lload (q := 9) (dc dt_MO_in 5 rfl) rfl 2 rfl ?_
    refine r_lcmp (q := 10) (dc dt_MO_in 6 rfl) rfl h0 h4 ?_
    refine r_ifc_gt (q := 13) (t := 17) (dc dt_MO_in 7 rfl) rfl (by decide) (fun q_ => ?_) (fun q_ => ?_)
    · have q2 := q_
      refine r_iconst (q := 18) (dc dt_MO_in 10 rfl) rfl rfl ?_
      rw [show (if v2 ≤ v0 ∧ v0 ≤ v4 then (1 : Int) else 0) = 0 from if_neg (by first | omega | grind)] at hJ
      exact hJ
    · have q2 := q_
      refine r_iconst (q := 14) (dc dt_MO_in 8 rfl) rfl rfl ?_
      refine r_goto (q := 18) (dc dt_MO_in 9 rfl) (by decide) ?_
      rw [show (if v2 ≤ v0 ∧ v0 ≤ v4 then (1 : Int) else 0) = 1 from if_pos (by first | omega | grind)] at hJ
      exact hJ
set_option maxRecDepth 20000 in
theorem sp_MO_in {G : GT} {σ : St} {v0 : Int} {v2 : Int} {v4 : Int} (h0 : rng v0) (h2 : rng v2) (h4 : rng v4)  : CJ G m_MO_in [J v0, J v2, J v4] σ (fun r u => r = (if v2 ≤ v0 ∧ v0 ≤ v4 then 1 else 0) ∧ u = σ) := by
  refine CJ.intro (by decide) (by simp [catA]; decide) (fun _ => k_MO_in_0 h0 h2 h4 ?_)
  exact ⟨rfl, rfl⟩
def tb_AR_fill : List (Nat × Instr × Nat) := [(0, .iconst 0, 1), (1, .istore_n 2, 1), (2, .aload_n 0, 1), (3, .arraylength, 1), (4, .istore_n 3, 1), (5, .iload_n 2, 1), (6, .iload_n 3, 1), (7, .if_icmp .ge 13, 3), (10, .aload_n 0, 1), (11, .iload_n 2, 1), (12, .iload_n 1, 1), (13, .iastore, 1), (14, .iinc 2 1, 3), (17, .goto (-12), 3), (20, .return_, 1)]
theorem dt_AR_fill : DT (cM m_AR_fill) tb_AR_fill := by unfold DT; decide +kernel
abbrev a_AR_fill_0 (G : GT)  (k0 : Nat) (n0 : Nat) (v1 : Int) (σ : St) (P : Int → St → Prop) : Prop := A G m_AR_fill 0 [(0, O k0), (1, I v1)] [] σ P
abbrev a_AR_fill_5 (G : GT)  (k0 : Nat) (n0 : Nat) (v1 : Int) (v2 : Int) (v3 : Int) (σ : St) (P : Int → St → Prop) : Prop := A G m_AR_fill 5 [(0, O k0), (1, I v1), (2, I v2), (3, I v3)] [] σ P
set_option maxRecDepth 20000 in
theorem k_AR_fill_0 {G : GT} {σ : St} {P : Int → St → Prop}  {k0 : Nat} {n0 : Nat} {v1 : Int}  (g0 : lyt k0 = (1, n0))
    (h : a_AR_fill_5 G k0 n0 v1 0 (n0 : Int) σ P) :
    a_AR_fill_0 G k0 n0 v1 σ P := by
  refine r_iconst (q := 1) (dc dt_AR_fill 0 rfl) rfl rfl ?_
  refine r_istore_n (q := 2) (dc dt_AR_fill 1 rfl) rfl rfl (by decide) rfl ?_
  refine r_aload_n (q := 3) (dc dt_AR_fill 2 rfl) rfl rfl 1 rfl ?_
  refine r_alen (q := 4) (dc dt_AR_fill 3 rfl) rfl g0 ?_
  refine r_istore_n (q := 5) (dc dt_AR_fill 4 rfl) rfl rfl (by decide) rfl ?_
  exact r_loc [2, 3, 1, 0] rfl h
set_option maxRecDepth 20000 in
theorem k_AR_fill_5 {G : GT} {σ : St} {P : Int → St → Prop}  {k0 : Nat} {n0 : Nat} {v1 : Int} {v2 : Int} {v3 : Int}  (g0 : lyt k0 = (1, n0))
    (h : rng v2 ∧ rng v3 ∧ (v3 ≤ v2 → P 0 σ) ∧ (v2 < v3 → (0 ≤ v2 ∧ v2 < (n0 : Int)) ∧ rng v1 ∧ (∀ σ5, σ5 = sa σ k0 v2.toNat v1 → a_AR_fill_5 G k0 n0 v1 (v2 + 1) v3 σ5 P))) :
    a_AR_fill_5 G k0 n0 v1 v2 v3 σ P := by
  refine r_iload_n (q := 6) (dc dt_AR_fill 5 rfl) rfl rfl 2 rfl ?_
  refine r_iload_n (q := 7) (dc dt_AR_fill 6 rfl) rfl rfl 3 rfl ?_
  obtain ⟨o1, h⟩ := h
  obtain ⟨o2, h⟩ := h
  refine r_icmp_ge (q := 10) (t := 20) (dc dt_AR_fill 7 rfl) rfl (by decide) o1 o2 (fun q_ => ?_) (fun q_ => ?_)
  · have h := h.1 q_
    exact r_vret rfl (dc dt_AR_fill 14 rfl) h
  · have h := h.2 q_
    refine r_aload_n (q := 11) (dc dt_AR_fill 8 rfl) rfl rfl 0 rfl ?_
    refine r_iload_n (q := 12) (dc dt_AR_fill 9 rfl) rfl rfl 2 rfl ?_
    refine r_iload_n (q := 13) (dc dt_AR_fill 10 rfl) rfl rfl 1 rfl ?_
    obtain ⟨o3, h⟩ := h
    obtain ⟨o4, h⟩ := h
    refine r_iast (q := 14) (dc dt_AR_fill 11 rfl) rfl g0 o3 o4 (fun σ5 e6 => ?_)
    have h := h σ5 e6
    refine r_iinc (q := 17) (k := 2) (dc dt_AR_fill 12 rfl) rfl rfl (by decide) rfl ?_
    refine r_goto (q := 5) (dc dt_AR_fill 13 rfl) (by decide) ?_
    exact r_loc [1, 2, 0, 3] rfl h
def tb_SC_knows : List (Nat × Instr × Nat) := [(0, .iload_n 1, 1), (1, .iconst 0, 1), (2, .aload_n 0, 1), (3, .getfield 9, 3), (6, .iconst 1, 1), (7, .isub, 1), (8, .invokestatic 55, 3), (11, .ireturn, 1)]
theorem dt_SC_knows : DT (cM m_SC_knows) tb_SC_knows := by unfold DT; decide +kernel
abbrev a_SC_knows_0 (G : GT)  (v1 : Int) (σ : St) (P : Int → St → Prop) : Prop := A G m_SC_knows 0 [(0, O 1), (1, I v1)] [] σ P
set_option maxRecDepth 20000 in
theorem k_SC_knows_0 {G : GT} {σ : St} {P : Int → St → Prop}  {v1 : Int}  
    (h : rng v1 ∧ (0 ≤ v1 → rng ((σ.2.1 1 0) - 1)) ∧ P (if 0 ≤ v1 ∧ v1 ≤ ((σ.2.1 1 0) - 1) then 1 else 0) σ) :
    a_SC_knows_0 G v1 σ P := by
  refine r_iload_n (q := 1) (dc dt_SC_knows 0 rfl) rfl rfl 1 rfl ?_
  refine r_iconst (q := 2) (dc dt_SC_knows 1 rfl) rfl rfl ?_
  refine r_aload_n (q := 3) (dc dt_SC_knows 2 rfl) rfl rfl 0 rfl ?_
  refine r_getI (q := 6) (v := σ.2.1 1 0) fl_SC_9 (dc dt_SC_knows 3 rfl) rfl ly1 rfl rfl (fun g1 => ?_)
  refine r_iconst (q := 7) (dc dt_SC_knows 4 rfl) rfl rfl ?_
  refine r_isub (q := 8) (dc dt_SC_knows 5 rfl) rfl ?_
  obtain ⟨o2, h⟩ := h
  obtain ⟨o3, h⟩ := h
  refine r_callNi (q := 11) mk_JS_within lm_SC_55 (RMO.of rfl) rfl (dc dt_SC_knows 6 rfl) rfl [I v1, I 0, I ((σ.2.1 1 0) - 1)] [] rfl rfl (Nat.le_of_ble_eq_true rfl) (sp_JS_within o2 (⟨by decide, by decide⟩ : rng 0) o3) (fun _ _ g4 z => ?_)
  obtain ⟨rfl, rfl⟩ := z
  exact r_zret rfl (dc dt_SC_knows 7 rfl) b01_or h
set_option maxRecDepth 20000 in
theorem sp_SC_knows {G : GT} {σ : St} {v1 : Int}  (j0 : rng v1) (j1 : (0 ≤ v1 → rng ((σ.2.1 1 0) - 1))) : CJ G m_SC_knows [O 1, I v1] σ (fun r u => r = (if 0 ≤ v1 ∧ v1 ≤ ((σ.2.1 1 0) - 1) then 1 else 0) ∧ u = σ) := by
  refine CJ.intro (by decide) (by simp [catA]; decide) (fun _ => k_SC_knows_0  ?_)
  refine ⟨by first | assumption | omega | grind, ?_⟩
  refine ⟨by first | assumption | omega | grind, ?_⟩
  exact ⟨rfl, rfl⟩
def tb_SC_knowsForm : List (Nat × Instr × Nat) := [(0, .iload_n 1, 1), (1, .iconst 0, 1), (2, .aload_n 0, 1), (3, .getfield 18, 3), (6, .iconst 1, 1), (7, .isub, 1), (8, .invokestatic 55, 3), (11, .ireturn, 1)]
theorem dt_SC_knowsForm : DT (cM m_SC_knowsForm) tb_SC_knowsForm := by unfold DT; decide +kernel
abbrev a_SC_knowsForm_0 (G : GT)  (v1 : Int) (σ : St) (P : Int → St → Prop) : Prop := A G m_SC_knowsForm 0 [(0, O 1), (1, I v1)] [] σ P
set_option maxRecDepth 20000 in
theorem k_SC_knowsForm_0 {G : GT} {σ : St} {P : Int → St → Prop}  {v1 : Int}  
    (h : rng v1 ∧ (0 ≤ v1 → rng ((σ.2.1 1 2) - 1)) ∧ P (if 0 ≤ v1 ∧ v1 ≤ ((σ.2.1 1 2) - 1) then 1 else 0) σ) :
    a_SC_knowsForm_0 G v1 σ P := by
  refine r_iload_n (q := 1) (dc dt_SC_knowsForm 0 rfl) rfl rfl 1 rfl ?_
  refine r_iconst (q := 2) (dc dt_SC_knowsForm 1 rfl) rfl rfl ?_
  refine r_aload_n (q := 3) (dc dt_SC_knowsForm 2 rfl) rfl rfl 0 rfl ?_
  refine r_getI (q := 6) (v := σ.2.1 1 2) fl_SC_18 (dc dt_SC_knowsForm 3 rfl) rfl ly1 rfl rfl (fun g1 => ?_)
  refine r_iconst (q := 7) (dc dt_SC_knowsForm 4 rfl) rfl rfl ?_
  refine r_isub (q := 8) (dc dt_SC_knowsForm 5 rfl) rfl ?_
  obtain ⟨o2, h⟩ := h
  obtain ⟨o3, h⟩ := h
  refine r_callNi (q := 11) mk_JS_within lm_SC_55 (RMO.of rfl) rfl (dc dt_SC_knowsForm 6 rfl) rfl [I v1, I 0, I ((σ.2.1 1 2) - 1)] [] rfl rfl (Nat.le_of_ble_eq_true rfl) (sp_JS_within o2 (⟨by decide, by decide⟩ : rng 0) o3) (fun _ _ g4 z => ?_)
  obtain ⟨rfl, rfl⟩ := z
  exact r_zret rfl (dc dt_SC_knowsForm 7 rfl) b01_or h
set_option maxRecDepth 20000 in
theorem sp_SC_knowsForm {G : GT} {σ : St} {v1 : Int}  (j0 : rng v1) (j1 : (0 ≤ v1 → rng ((σ.2.1 1 2) - 1))) : CJ G m_SC_knowsForm [O 1, I v1] σ (fun r u => r = (if 0 ≤ v1 ∧ v1 ≤ ((σ.2.1 1 2) - 1) then 1 else 0) ∧ u = σ) := by
  refine CJ.intro (by decide) (by simp [catA]; decide) (fun _ => k_SC_knowsForm_0  ?_)
  refine ⟨by first | assumption | omega | grind, ?_⟩
  refine ⟨by first | assumption | omega | grind, ?_⟩
  exact ⟨rfl, rfl⟩
def tb_SC_isMark : List (Nat × Instr × Nat) := [(0, .aload_n 0, 1), (1, .getfield 21, 3), (4, .iload_n 1, 1), (5, .iaload, 1), (6, .iconst 3, 1), (7, .if_icmp .eq 13, 3), (10, .aload_n 0, 1), (11, .getfield 21, 3), (14, .iload_n 1, 1), (15, .iaload, 1), (16, .iconst 4, 1), (17, .if_icmp .ne 7, 3), (20, .iconst 1, 1), (21, .goto 4, 3), (24, .iconst 0, 1), (25, .ireturn, 1)]
theorem dt_SC_isMark : DT (cM m_SC_isMark) tb_SC_isMark := by unfold DT; decide +kernel
abbrev a_SC_isMark_0 (G : GT)  (v1 : Int) (σ : St) (P : Int → St → Prop) : Prop := A G m_SC_isMark 0 [(0, O 1), (1, I v1)] [] σ P
set_option maxRecDepth 20000 in
theorem k_SC_isMark_0 {G : GT} {σ : St} {P : Int → St → Prop}  {v1 : Int}  
    (h : (0 ≤ v1 ∧ v1 < 60) ∧ P (if σ.1 47 v1.toNat = 3 ∨ σ.1 47 v1.toNat = 4 then 1 else 0) σ) :
    a_SC_isMark_0 G v1 σ P := by
  refine r_aload_n (q := 1) (dc dt_SC_isMark 0 rfl) rfl rfl 0 rfl ?_
  refine r_getO (q := 4) (v := 47) fl_SC_21 (dc dt_SC_isMark 1 rfl) rfl ly1 rfl ?_
  refine r_iload_n (q := 5) (dc dt_SC_isMark 2 rfl) rfl rfl 1 rfl ?_
  obtain ⟨o1, h⟩ := h
  refine r_iald (q := 6) (v := σ.1 47 v1.toNat) (dc dt_SC_isMark 3 rfl) rfl ly47 o1 rfl (fun g2 => ?_)
  refine r_iconst (q := 7) (dc dt_SC_isMark 4 rfl) rfl rfl ?_
  have hJ : A G m_SC_isMark 25 [(0, O 1), (1, I v1)] [I (if σ.1 47 v1.toNat = 3 ∨ σ.1 47 v1.toNat = 4 then 1 else 0)] σ P := by
    exact r_zret rfl (dc dt_SC_isMark 15 rfl) b01_or h
  clear h
  refine r_icmp_eq (q := 10) (t := 20) (dc dt_SC_isMark 5 rfl) rfl (by decide) g2 (⟨by decide, by decide⟩ : rng 3) (fun q_ => ?_) (fun q_ => ?_)
  · have q4 := q_
    refine r_iconst (q := 21) (dc dt_SC_isMark 12 rfl) rfl rfl ?_
    refine r_goto (q := 25) (dc dt_SC_isMark 13 rfl) (by decide) ?_
    rw [show (if σ.1 47 v1.toNat = 3 ∨ σ.1 47 v1.toNat = 4 then (1 : Int) else 0) = 1 from if_pos (by first | omega | grind)] at hJ
    exact hJ
  · have q4 := q_
    refine r_aload_n (q := 11) (dc dt_SC_isMark 6 rfl) rfl rfl 0 rfl ?_
    refine r_getO (q := 14) (v := 47) fl_SC_21 (dc dt_SC_isMark 7 rfl) rfl ly1 rfl ?_
    refine r_iload_n (q := 15) (dc dt_SC_isMark 8 rfl) rfl rfl 1 rfl ?_
    refine r_iald (q := 16) (v := σ.1 47 v1.toNat) (dc dt_SC_isMark 9 rfl) rfl ly47 o1 rfl (fun g3 => ?_)
    refine r_iconst (q := 17) (dc dt_SC_isMark 10 rfl) rfl rfl ?_
    refine r_icmp_ne (q := 20) (t := 24) (dc dt_SC_isMark 11 rfl) rfl (by decide) g3 (⟨by decide, by decide⟩ : rng 4) (fun q_ => ?_) (fun q_ => ?_)
    · have q5 := q_
      refine r_iconst (q := 25) (dc dt_SC_isMark 14 rfl) rfl rfl ?_
      rw [show (if σ.1 47 v1.toNat = 3 ∨ σ.1 47 v1.toNat = 4 then (1 : Int) else 0) = 0 from if_neg (by first | omega | grind)] at hJ
      exact hJ
    · have q5 := q_
      refine r_iconst (q := 21) (dc dt_SC_isMark 12 rfl) rfl rfl ?_
      refine r_goto (q := 25) (dc dt_SC_isMark 13 rfl) (by decide) ?_
      rw [show (if σ.1 47 v1.toNat = 3 ∨ σ.1 47 v1.toNat = 4 then (1 : Int) else 0) = 1 from if_pos (by first | omega | grind)] at hJ
      exact hJ
set_option maxRecDepth 20000 in
theorem sp_SC_isMark {G : GT} {σ : St} {v1 : Int}  (j0 : 0 ≤ v1 ∧ v1 < 60) : CJ G m_SC_isMark [O 1, I v1] σ (fun r u => r = (if σ.1 47 v1.toNat = 3 ∨ σ.1 47 v1.toNat = 4 then 1 else 0) ∧ u = σ) := by
  refine CJ.intro (by decide) (by simp [catA]; decide) (fun _ => k_SC_isMark_0  ?_)
  refine ⟨by first | assumption | omega | grind, ?_⟩
  exact ⟨rfl, rfl⟩
def tb_SC_joinsBack : List (Nat × Instr × Nat) := [(0, .aload_n 0, 1), (1, .getfield 21, 3), (4, .iload_n 1, 1), (5, .iaload, 1), (6, .ifCond .eq 13, 3), (9, .aload_n 0, 1), (10, .getfield 21, 3), (13, .iload_n 1, 1), (14, .iaload, 1), (15, .iconst 1, 1), (16, .if_icmp .ne 7, 3), (19, .iconst 1, 1), (20, .goto 4, 3), (23, .iconst 0, 1), (24, .ireturn, 1)]
theorem dt_SC_joinsBack : DT (cM m_SC_joinsBack) tb_SC_joinsBack := by unfold DT; decide +kernel
abbrev a_SC_joinsBack_0 (G : GT)  (v1 : Int) (σ : St) (P : Int → St → Prop) : Prop := A G m_SC_joinsBack 0 [(0, O 1), (1, I v1)] [] σ P
set_option maxRecDepth 20000 in
theorem k_SC_joinsBack_0 {G : GT} {σ : St} {P : Int → St → Prop}  {v1 : Int}  
    (h : (0 ≤ v1 ∧ v1 < 60) ∧ P (if σ.1 47 v1.toNat = 0 ∨ σ.1 47 v1.toNat = 1 then 1 else 0) σ) :
    a_SC_joinsBack_0 G v1 σ P := by
  refine r_aload_n (q := 1) (dc dt_SC_joinsBack 0 rfl) rfl rfl 0 rfl ?_
  refine r_getO (q := 4) (v := 47) fl_SC_21 (dc dt_SC_joinsBack 1 rfl) rfl ly1 rfl ?_
  refine r_iload_n (q := 5) (dc dt_SC_joinsBack 2 rfl) rfl rfl 1 rfl ?_
  obtain ⟨o1, h⟩ := h
  refine r_iald (q := 6) (v := σ.1 47 v1.toNat) (dc dt_SC_joinsBack 3 rfl) rfl ly47 o1 rfl (fun g2 => ?_)
  have hJ : A G m_SC_joinsBack 24 [(0, O 1), (1, I v1)] [I (if σ.1 47 v1.toNat = 0 ∨ σ.1 47 v1.toNat = 1 then 1 else 0)] σ P := by
    exact r_zret rfl (dc dt_SC_joinsBack 14 rfl) b01_or h
  clear h
  refine r_if_eq (q := 9) (t := 19) (dc dt_SC_joinsBack 4 rfl) rfl (by decide) g2 (fun q_ => ?_) (fun q_ => ?_)
  · have q4 := q_
    refine r_iconst (q := 20) (dc dt_SC_joinsBack 11 rfl) rfl rfl ?_
    refine r_goto (q := 24) (dc dt_SC_joinsBack 12 rfl) (by decide) ?_
    rw [show (if σ.1 47 v1.toNat = 0 ∨ σ.1 47 v1.toNat = 1 then (1 : Int) else 0) = 1 from if_pos (by first | omega | grind)] at hJ
    exact hJ
  · have q4 := q_
    refine r_aload_n (q := 10) (dc dt_SC_joinsBack 5 rfl) rfl rfl 0 rfl ?_
    refine r_getO (q := 13) (v := 47) fl_SC_21 (dc dt_SC_joinsBack 6 rfl) rfl ly1 rfl ?_
    refine r_iload_n (q := 14) (dc dt_SC_joinsBack 7 rfl) rfl rfl 1 rfl ?_
    refine r_iald (q := 15) (v := σ.1 47 v1.toNat) (dc dt_SC_joinsBack 8 rfl) rfl ly47 o1 rfl (fun g3 => ?_)
    refine r_iconst (q := 16) (dc dt_SC_joinsBack 9 rfl) rfl rfl ?_
    refine r_icmp_ne (q := 19) (t := 23) (dc dt_SC_joinsBack 10 rfl) rfl (by decide) g3 (⟨by decide, by decide⟩ : rng 1) (fun q_ => ?_) (fun q_ => ?_)
    · have q5 := q_
      refine r_iconst (q := 24) (dc dt_SC_joinsBack 13 rfl) rfl rfl ?_
      rw [show (if σ.1 47 v1.toNat = 0 ∨ σ.1 47 v1.toNat = 1 then (1 : Int) else 0) = 0 from if_neg (by first | omega | grind)] at hJ
      exact hJ
    · have q5 := q_
      refine r_iconst (q := 20) (dc dt_SC_joinsBack 11 rfl) rfl rfl ?_
      refine r_goto (q := 24) (dc dt_SC_joinsBack 12 rfl) (by decide) ?_
      rw [show (if σ.1 47 v1.toNat = 0 ∨ σ.1 47 v1.toNat = 1 then (1 : Int) else 0) = 1 from if_pos (by first | omega | grind)] at hJ
      exact hJ
set_option maxRecDepth 20000 in
theorem sp_SC_joinsBack {G : GT} {σ : St} {v1 : Int}  (j0 : 0 ≤ v1 ∧ v1 < 60) : CJ G m_SC_joinsBack [O 1, I v1] σ (fun r u => r = (if σ.1 47 v1.toNat = 0 ∨ σ.1 47 v1.toNat = 1 then 1 else 0) ∧ u = σ) := by
  refine CJ.intro (by decide) (by simp [catA]; decide) (fun _ => k_SC_joinsBack_0  ?_)
  refine ⟨by first | assumption | omega | grind, ?_⟩
  exact ⟨rfl, rfl⟩
def tb_SC_hasLigature : List (Nat × Instr × Nat) := [(0, .iconst 0, 1), (1, .istore 4, 2), (3, .iload 4, 2), (5, .aload_n 0, 1), (6, .getfield 15, 3), (9, .if_icmp .ge 44, 3), (12, .aload_n 0, 1), (13, .getfield 40, 3), (16, .iload 4, 2), (18, .aaload, 1), (19, .astore 5, 2), (21, .aload 5, 2), (23, .iconst 0, 1), (24, .iaload, 1), (25, .iload_n 1, 1), (26, .if_icmp .ne 21, 3), (29, .aload 5, 2), (31, .iconst 1, 1), (32, .iaload, 1), (33, .iload_n 2, 1), (34, .if_icmp .ne 13, 3), (37, .aload 5, 2), (39, .iconst 2, 1), (40, .iaload, 1), (41, .iload_n 3, 1), (42, .if_icmp .ne 5, 3), (45, .iconst 1, 1), (46, .ireturn, 1), (47, .iinc 4 1, 3), (50, .goto (-47), 3), (53, .iconst 0, 1), (54, .ireturn, 1)]
theorem dt_SC_hasLigature : DT (cM m_SC_hasLigature) tb_SC_hasLigature := by unfold DT; decide +kernel
abbrev a_SC_hasLigature_0 (G : GT)  (v1 : Int) (v2 : Int) (v3 : Int) (σ : St) (P : Int → St → Prop) : Prop := A G m_SC_hasLigature 0 [(0, O 1), (1, I v1), (2, I v2), (3, I v3)] [] σ P
abbrev a_SC_hasLigature_3 (G : GT)  (v1 : Int) (v2 : Int) (v3 : Int) (v4 : Int) (σ : St) (P : Int → St → Prop) : Prop := A G m_SC_hasLigature 3 [(0, O 1), (1, I v1), (2, I v2), (3, I v3), (4, I v4)] [] σ P
set_option maxRecDepth 20000 in
theorem k_SC_hasLigature_0 {G : GT} {σ : St} {P : Int → St → Prop}  {v1 : Int} {v2 : Int} {v3 : Int}  
    (h : a_SC_hasLigature_3 G v1 v2 v3 0 σ P) :
    a_SC_hasLigature_0 G v1 v2 v3 σ P := by
  refine r_iconst (q := 1) (dc dt_SC_hasLigature 0 rfl) rfl rfl ?_
  refine r_istore (q := 3) (dc dt_SC_hasLigature 1 rfl) rfl (by decide) rfl ?_
  exact r_loc [1, 2, 3, 4, 0] rfl h
set_option maxRecDepth 20000 in
theorem k_SC_hasLigature_3 {G : GT} {σ : St} {P : Int → St → Prop}  {v1 : Int} {v2 : Int} {v3 : Int} {v4 : Int}  
    (h : rng v4 ∧ (σ.2.1 1 1 ≤ v4 → P 0 σ) ∧ (v4 < σ.2.1 1 1 → (0 ≤ v4 ∧ v4 < 8) ∧ rng v1 ∧ (σ.1 (168 + v4.toNat) 0 ≠ v1 → a_SC_hasLigature_3 G v1 v2 v3 (v4 + 1) σ P) ∧ (σ.1 (168 + v4.toNat) 0 = v1 → rng v2 ∧ (σ.1 (168 + v4.toNat) 1 ≠ v2 → a_SC_hasLigature_3 G v1 v2 v3 (v4 + 1) σ P) ∧ (σ.1 (168 + v4.toNat) 1 = v2 → rng v3 ∧ (σ.1 (168 + v4.toNat) 2 ≠ v3 → a_SC_hasLigature_3 G v1 v2 v3 (v4 + 1) σ P) ∧ (σ.1 (168 + v4.toNat) 2 = v3 → P 1 σ))))) :
    a_SC_hasLigature_3 G v1 v2 v3 v4 σ P := by
  refine r_iload (q := 5) (dc dt_SC_hasLigature 2 rfl) rfl 4 rfl ?_
  refine r_aload_n (q := 6) (dc dt_SC_hasLigature 3 rfl) rfl rfl 0 rfl ?_
  refine r_getI (q := 9) (v := σ.2.1 1 1) fl_SC_15 (dc dt_SC_hasLigature 4 rfl) rfl ly1 rfl rfl (fun g1 => ?_)
  obtain ⟨o2, h⟩ := h
  refine r_icmp_ge (q := 12) (t := 53) (dc dt_SC_hasLigature 5 rfl) rfl (by decide) o2 g1 (fun q_ => ?_) (fun q_ => ?_)
  · have h := h.1 q_
    refine r_iconst (q := 54) (dc dt_SC_hasLigature 30 rfl) rfl rfl ?_
    exact r_zret rfl (dc dt_SC_hasLigature 31 rfl) (by decide) h
  · have h := h.2 q_
    refine r_aload_n (q := 13) (dc dt_SC_hasLigature 6 rfl) rfl rfl 0 rfl ?_
    refine r_getO (q := 16) (v := 52) fl_SC_40 (dc dt_SC_hasLigature 7 rfl) rfl ly1 rfl ?_
    refine r_iload (q := 18) (dc dt_SC_hasLigature 8 rfl) rfl 4 rfl ?_
    obtain ⟨o3, h⟩ := h
    refine r_aald (q := 19) (dc dt_SC_hasLigature 9 rfl) rfl ly52 o3 rfl ?_
    refine r_astore (q := 21) (dc dt_SC_hasLigature 10 rfl) rfl (by decide) rfl ?_
    refine r_aload (q := 23) (dc dt_SC_hasLigature 11 rfl) rfl 0 rfl ?_
    refine r_iconst (q := 24) (dc dt_SC_hasLigature 12 rfl) rfl rfl ?_
    refine r_iald (q := 25) (v := σ.1 (168 + v4.toNat) 0) (dc dt_SC_hasLigature 13 rfl) rfl (lyr_168 o3) ⟨by decide, by decide⟩ rfl (fun g4 => ?_)
    refine r_iload_n (q := 26) (dc dt_SC_hasLigature 14 rfl) rfl rfl 2 rfl ?_
    obtain ⟨o5, h⟩ := h
    refine r_icmp_ne (q := 29) (t := 47) (dc dt_SC_hasLigature 15 rfl) rfl (by decide) g4 o5 (fun q_ => ?_) (fun q_ => ?_)
    · have h := h.1 q_
      refine r_iinc (q := 50) (k := 5) (dc dt_SC_hasLigature 28 rfl) rfl rfl (by decide) rfl ?_
      refine r_goto (q := 3) (dc dt_SC_hasLigature 29 rfl) (by decide) ?_
      exact r_loc [2, 3, 4, 5, 0] rfl h
    · have h := h.2 q_
      refine r_aload (q := 31) (dc dt_SC_hasLigature 16 rfl) rfl 0 rfl ?_
      refine r_iconst (q := 32) (dc dt_SC_hasLigature 17 rfl) rfl rfl ?_
      refine r_iald (q := 33) (v := σ.1 (168 + v4.toNat) 1) (dc dt_SC_hasLigature 18 rfl) rfl (lyr_168 o3) ⟨by decide, by decide⟩ rfl (fun g6 => ?_)
      refine r_iload_n (q := 34) (dc dt_SC_hasLigature 19 rfl) rfl rfl 3 rfl ?_
      obtain ⟨o7, h⟩ := h
      refine r_icmp_ne (q := 37) (t := 47) (dc dt_SC_hasLigature 20 rfl) rfl (by decide) g6 o7 (fun q_ => ?_) (fun q_ => ?_)
      · have h := h.1 q_
        refine r_iinc (q := 50) (k := 5) (dc dt_SC_hasLigature 28 rfl) rfl rfl (by decide) rfl ?_
        refine r_goto (q := 3) (dc dt_SC_hasLigature 29 rfl) (by decide) ?_
        exact r_loc [2, 3, 4, 5, 0] rfl h
      · have h := h.2 q_
        refine r_aload (q := 39) (dc dt_SC_hasLigature 21 rfl) rfl 0 rfl ?_
        refine r_iconst (q := 40) (dc dt_SC_hasLigature 22 rfl) rfl rfl ?_
        refine r_iald (q := 41) (v := σ.1 (168 + v4.toNat) 2) (dc dt_SC_hasLigature 23 rfl) rfl (lyr_168 o3) ⟨by decide, by decide⟩ rfl (fun g8 => ?_)
        refine r_iload_n (q := 42) (dc dt_SC_hasLigature 24 rfl) rfl rfl 4 rfl ?_
        obtain ⟨o9, h⟩ := h
        refine r_icmp_ne (q := 45) (t := 47) (dc dt_SC_hasLigature 25 rfl) rfl (by decide) g8 o9 (fun q_ => ?_) (fun q_ => ?_)
        · have h := h.1 q_
          refine r_iinc (q := 50) (k := 5) (dc dt_SC_hasLigature 28 rfl) rfl rfl (by decide) rfl ?_
          refine r_goto (q := 3) (dc dt_SC_hasLigature 29 rfl) (by decide) ?_
          exact r_loc [2, 3, 4, 5, 0] rfl h
        · have h := h.2 q_
          refine r_iconst (q := 46) (dc dt_SC_hasLigature 26 rfl) rfl rfl ?_
          exact r_zret rfl (dc dt_SC_hasLigature 27 rfl) (by decide) h
