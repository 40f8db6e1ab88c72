/-! shape -/
theorem wdc_run {σ : St} {p : Nat} : ∀ d, (∀ j, p ≤ j → j < p + d → ts σ j ≠ 6) → wdc σ (p + d + 1) = wdc σ (p + 1)
  | 0, _ => rfl
  | d + 1, h => by
    rw [← wdc_run d (fun j j1 j2 => h j j1 (by omega))]
    have hi : iw (ts σ) (p + (d + 1)) = true := by
      show decide (ts σ (p + d) ≠ 6) = true
      rw [decide_eq_true_iff]
      exact h (p + d) (by omega) (by omega)
    exact cnt_f (wst_w hi)
theorem pos_base {σ : St} (hS : IS σ) (hT : IT σ) {a : Nat} (ha : a < tn σ) : ∃ u, uc σ (a + 1) = u + 1 ∧ u < nU σ ∧ bb σ u ≤ u ∧ bh σ (bb σ u) ≤ bb σ u ∧ bc σ (u + 1) = bc σ (bb σ u) + 1 ∧ uw σ (bb σ u) = (if ts σ a = 6 then -6 else (wdc σ (a + 1) : Int) - 1) := by
  have p := uc_pos (σ := σ) (i := a)
  have m : uc σ (a + 1) ≤ nU σ := uc_mono (by omega)
  obtain ⟨u, hu⟩ : ∃ u, uc σ (a + 1) = u + 1 := ⟨uc σ (a + 1) - 1, by omega⟩
  have hun : u < nU σ := by omega
  obtain ⟨s1, s2⟩ := bb_spec (σ := σ) u
  have s3 := bb_le (σ := σ) u
  have s4 := bh_gt (σ := σ) u
  have hbc := bc_in s1 (u + 1) (by omega) (by omega)
  refine ⟨u, hu, hun, s3, s1, hbc, ?_⟩
  obtain ⟨b0, hb0⟩ : ∃ b0, b0 = bb σ u := ⟨_, rfl⟩
  rw [← hb0] at s1 s2 s3 ⊢
  obtain ⟨x1, x2, x3⟩ := up_ex hun
  obtain ⟨y1, y2, y3⟩ := up_ex (show b0 < nU σ by omega)
  have hua : up σ u ≤ a := by
    rcases Nat.lt_or_ge a (up σ u) with q | q
    · have : uc σ (a + 1) ≤ uc σ (up σ u) := uc_mono q
      omega
    · exact q
  have hba : up σ b0 ≤ a := by
    rcases Nat.lt_or_ge (up σ u) (up σ b0) with q | q
    · have := uc_lt x2 q
      omega
    · omega
  have claim : ∀ j, up σ b0 < j → j ≤ a → ts σ j ≠ 6 := fun j j1 j2 h6 => by
    have hsd : sd (ts σ) j = false := by unfold sd; rw [h6]; rfl
    have e : up σ (uc σ j) = j := up_eq hsd (by omega)
    have l1 := uc_lt y2 j1
    have l2 := uc_u hsd
    have l3 : uc σ (j + 1) ≤ uc σ (a + 1) := uc_mono (by omega)
    have := lb_cross hS hT (u := b0) (E := uc σ j) (by omega) (by omega) (Or.inr (by unfold us; rw [e]; exact h6))
    omega
  unfold uw
  by_cases z : us σ b0 = 6
  · rw [if_pos z]
    have l1 := (lb_plain hS hT (show b0 < nU σ by omega) (by omega)).2
    have hub : u = b0 := by omega
    have hab : a = up σ b0 := by
      rcases Nat.eq_or_lt_of_le hba with q | q
      · exact q.symm
      · exfalso
        have hu1 := uc_u y2
        cases w : sd (ts σ) (up σ b0 + 1) with
        | false =>
          have h1 := uc_u w
          have h2 : uc σ (up σ b0 + 1 + 1) ≤ uc σ (a + 1) := uc_mono (by omega)
          omega
        | true =>
          have := (sd_mark w).2
          unfold cs at this
          rw [if_pos (show ts σ (up σ b0) = 6 from z)] at this
          exact absurd this (by decide)
    rw [if_pos (by rw [hab]; exact z)]
  · rw [if_neg z]
    have hne : ts σ a ≠ 6 := by
      rcases Nat.eq_or_lt_of_le hba with q | q
      · rw [← q]; exact z
      · exact claim a q (Nat.le_refl _)
    rw [if_neg hne]
    have := wdc_run (σ := σ) (p := up σ b0) (a - up σ b0) (fun j j1 j2 => by
      rcases Nat.eq_or_lt_of_le j1 with q | q
      · rw [← q]; exact z
      · exact claim j q (by omega))
    rw [show up σ b0 + (a - up σ b0) + 1 = a + 1 by omega] at this
    rw [this]
theorem so_shape (G : GT) : SO_shape G Inv := by
  intro k σ hk h a b hra hrb
  have hs := Inv_good.2.1 k σ h
  obtain ⟨⟨hS, hT, -⟩, -⟩ := id h
  obtain ⟨t1, t2, t3, -⟩ := id hT
  refine CJ.go (fun _ => k_JS_shape_0 ?_)
  rw [t1]
  refine ⟨hra, fun _ => ⟨by omega, by omega⟩, fun c => ⟨hrb, fun _ => ⟨by omega, by omega⟩, fun cb => ?_, fun cb => ?_⟩, fun c => ?_⟩
  · refine CJ.mono (t_look (Inv_w h)) (fun _ τ R hτ => ?_)
    obtain ⟨w, l, u, hU⟩ := hτ
    obtain ⟨hSτ, hTτ, -⟩ := id w.1
    have n := hSτ.1
    unfold NumOk at n
    have n8 := nU_le hTτ
    have e21 : τ.2.1 8 21 = σ.2.1 8 21 := by rw [l.2.1 8 (by omega) (by unfold WU; omega)]
    obtain ⟨i, rfl⟩ : ∃ i : Nat, a = i := ⟨a.toNat, by omega⟩
    have hi : i < tn τ := by unfold tn; show i < (τ.2.1 8 21).toNat; rw [e21]; omega
    obtain ⟨v, p1, p2, p3, p4, p5, p6⟩ := pos_base hSτ hTτ hi
    obtain ⟨b0, hb0⟩ : ∃ b0, b0 = bb τ v := ⟨_, rfl⟩
    have q68 : τ.1 68 i = (v : Int) := by rw [show τ.1 68 i = _ from hU.2.2.1 i hi, p1]; omega
    have q71 : τ.1 71 v = (b0 : Int) := by rw [hb0]; exact (hU.2.2.2.1 v p2).2.2.2.2.2.2.2.1
    rw [← hb0] at p3 p4 p5 p6
    have hb0n : b0 < nU τ := by omega
    obtain ⟨U1, U2, U3, U4, -⟩ := hU.2.2.2.1 b0 hb0n
    have q61 : τ.1 61 b0 = (up τ b0 : Int) := U1
    have q64 : τ.1 64 b0 = uw τ b0 := U4
    have q73 : τ.1 73 (3 * b0) = lb τ b0 := (un_base hU hb0n).2 p4
    obtain ⟨-, l0, hle, -, -⟩ := kl_mem hSτ hTτ hb0n (lb_kl p4)
    obtain ⟨pl1, pl2⟩ := place_J hSτ hTτ hU rfl hb0n l0 hle
    obtain ⟨pf1, pf2, -⟩ := pf_J hSτ rfl rfl R l0 (plc_b (σ := τ) (u := b0) (l := lb τ b0))
    have mo : ∀ x : Int, (b = 0 → x = uw τ b0) → (b = 1 → x = up τ b0) → (b = 2 → x = lb τ b0) → (b = 3 → x = plc τ b0 (lb τ b0)) → (b = 4 → x = plF τ b0) → CJ G m_MO_shape [O 8, I i, I b] τ (fun r2 σ2 => x = r2 ∧ Inv (k + 1) σ2) := fun x x0 x1 x2 x3 x4 => by
      refine CJ.go (fun _ => k_MO_shape_0 ?_)
      rw [e21]
      refine ⟨hra, ⟨by omega, by omega⟩, fun _ => CJ.mono (t_cutI w) (fun _ υ _ hυ => ?_), fun q => absurd c q⟩
      obtain ⟨vv, f, ic, hC⟩ := hυ
      have ab : Ab τ υ := ⟨fun k hk => f.1 k (by omega), by rw [show υ.2.1 8 6 = _ from f.2.2.1 _ (by decide) (by decide)]; rfl, by rw [show υ.2.1 8 21 = _ from f.2.2.1 _ (by decide) (by decide)]; rfl⟩
      have hv := Inv_good.2.1 k υ vv
      obtain ⟨hSυ, hTυ, -⟩ := id vv.1
      have hb0υ : b0 < nU υ := by rw [Ab_nU ab]; exact hb0n
      have hbhυ : bh υ b0 ≤ b0 := by rw [Ab_bh ab]; exact p4
      obtain ⟨m1, m2, m3, m4, m5, m6, m7⟩ := base_M hSυ hTυ hC rfl rfl rfl rfl rfl hb0υ hbhυ
      have hiυ : i < tn υ := by rw [Ab_tn ab]; exact hi
      have e115 : υ.1 115 i = (bc υ b0 : Int) := by
        rw [show υ.1 115 i = _ from hC.2.2.2.2.1 i hiυ trivial, Ab_uc ab, p1, Ab_bc ab, p5]
        omega
      have e114 : υ.1 114 i = uw τ b0 := by
        rw [show υ.1 114 i = _ from (hC.2.2.2.1 i hiυ).1, Ab_ts ab, Ab_wdc ab, p6]
      have e119 : υ.1 119 (bc υ b0) = (up υ b0 : Int) := (hC.2.2.2.2.2.1 b0 hb0υ hbhυ).2.2.1
      have b3 := bc_le (σ := υ) (u := b0)
      rw [Int.toNat_natCast i, e115, Int.toNat_natCast (bc υ b0), e114, e119, m1, m3, m5, Ab_up ab, Ab_lb ab, Ab_plc ab, Ab_plF ab]
      rw [Ab_lb ab, Ab_plc ab] at m4
      exact ⟨by omega, hrb, fun e => ⟨x0 e, hv⟩, fun e => ⟨by omega, x1 e, hv⟩, fun e => ⟨by omega, x2 e, hv⟩, fun e => ⟨m2, x3 e, hv⟩, fun e => ⟨by omega, m2, m4, x4 e, hv⟩, fun e => absurd e (by omega)⟩
    rw [Int.toNat_natCast i, q68, Int.toNat_natCast v, q71, Int.toNat_natCast b0, show ((b0 : Int) * 3).toNat = 3 * b0 by omega, q61, q64, q73, pl2, pf2]
    refine ⟨by omega, by omega, by omega, fun e => ⟨by omega, ?_⟩, fun e => ⟨by omega, ?_⟩, fun e => ?_, fun e => ⟨pl1, ?_⟩, fun e => ⟨pl1, pf1, ?_⟩⟩
    · exact mo _ (fun _ => rfl) (fun q => by omega) (fun q => by omega) (fun q => by omega) (fun q => by omega)
    · exact mo _ (fun q => by omega) (fun _ => rfl) (fun q => by omega) (fun q => by omega) (fun q => by omega)
    · exact mo _ (fun q => by omega) (fun q => by omega) (fun _ => rfl) (fun q => by omega) (fun q => by omega)
    · exact mo _ (fun q => by omega) (fun q => by omega) (fun q => by omega) (fun _ => rfl) (fun q => by omega)
    · exact mo _ (fun q => by omega) (fun q => by omega) (fun q => by omega) (fun q => by omega) (fun _ => rfl)
  · refine CJ.go (fun _ => k_MO_shape_0 ⟨hra, ⟨by omega, by omega⟩, fun _ => CJ.mono (t_cutI (Inv_w h)) (fun _ υ _ hυ => ?_), fun q => absurd c q⟩)
    have hv := Inv_good.2.1 k υ hυ.1
    have hC := hυ.2.2.2
    obtain ⟨hSυ, hTυ, -⟩ := id hυ.1.1
    exact ⟨by omega, hrb, fun e => absurd e (by omega), fun e => absurd e (by omega), fun e => absurd e (by omega), fun e => absurd e (by omega), fun e => absurd e (by omega), fun e => ⟨rfl, hv⟩⟩
  · exact CJ.go (fun _ => k_MO_shape_0 ⟨hra, ⟨by omega, by omega⟩, fun q => absurd q c, fun _ => ⟨rfl, hs⟩⟩)
