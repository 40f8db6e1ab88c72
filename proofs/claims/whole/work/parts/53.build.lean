/-! build of the class -/
def pt (σ : St) (g j : Nat) : Int := if j = 0 then σ.1 90 g else if j = 1 then σ.1 91 g else σ.1 92 g
theorem mtb_iff {σ : St} {g u : Nat} (h7 : σ.1 89 g = 7) : mtb σ g u = true ↔ u + ln3 σ g ≤ nU σ ∧ ∀ j, j < ln3 σ g → ul σ (u + j) = pt σ g j := by
  unfold mtb
  rw [decide_eq_true_iff]
  constructor
  · rintro ⟨a, b, c, d⟩
    refine ⟨a, fun j hj => ?_⟩
    unfold pt
    by_cases j0 : j = 0
    · rw [if_pos j0, b, j0]; rfl
    · rw [if_neg j0]
      by_cases j1 : j = 1
      · rw [if_pos j1, c, j1]
      · rw [if_neg j1]
        unfold ln3 at hj
        rw [if_pos h7] at hj
        by_cases z : σ.1 92 g < 0
        · rw [if_pos z] at hj; omega
        · rw [if_neg z] at hj
          rcases d with q | q
          · omega
          · rw [q, show j = 2 by omega]
  · rintro ⟨a, b⟩
    have l2 := ln3_lig h7
    have e0 := b 0 (by omega)
    have e1 := b 1 (by omega)
    unfold pt at e0 e1
    rw [if_pos rfl] at e0
    rw [if_neg (by decide), if_pos rfl] at e1
    refine ⟨a, e0.symm, e1.symm, ?_⟩
    by_cases z : σ.1 92 g < 0
    · exact Or.inl z
    · have e2 := b 2 (by unfold ln3; rw [if_pos h7, if_neg z]; omega)
      unfold pt at e2
      rw [if_neg (by decide), if_neg (by decide)] at e2
      exact Or.inr e2.symm
def UL (σ τ : St) : Prop := Fr WU σ τ ∧ τ.2.1 4 2 = nU σ ∧ ∀ u, u < nU σ → τ.1 63 u = ul σ u
theorem nU_le {σ : St} (hT : IT σ) : nU σ ≤ 80 := by
  have := uc_le (σ := σ) (i := tn σ)
  have := hT.2.1
  unfold nU tn at *
  omega
theorem lig_J {σ τ : St} (hS : IS σ) (hf : Fr WU σ τ) {m : Nat} (hm : (m : Int) < σ.2.1 8 7) : τ.1 51 m = (gN σ m : Int) ∧ τ.1 49 (gN σ m) = (ln3 σ (gN σ m) : Int) ∧ (∀ j, j < 3 → τ.1 (168 + m) j = pt σ (gN σ m) j) ∧ τ.1 53 m = σ.1 93 (gN σ m) ∧ (σ.1 93 (gN σ m) = 0 ∨ σ.1 93 (gN σ m) = 1) ∧ σ.1 89 (gN σ m) = 7 ∧ gN σ m < 60 := by
  have n := hS.1
  unfold NumOk at n
  obtain ⟨hg, hlt, -⟩ := gN_spec hS hm
  obtain ⟨g1, g2, g3, g4, g5, g6, g7, g8, -⟩ := hg
  rw [(hf.u 51 (by omega)).1, (hf.u 49 (by omega)).1, (hf.u 53 (by omega)).1, (hf.u (168 + m) (by omega)).1]
  refine ⟨g1, ln3_J hS g2, fun j hj => ?_, g7, g8, g3, by unfold nL at hlt; omega⟩
  unfold pt
  by_cases j0 : j = 0
  · rw [if_pos j0, j0]; exact g4
  · rw [if_neg j0]
    by_cases j1 : j = 1
    · rw [if_pos j1, j1]; exact g5
    · rw [if_neg j1, show j = 2 by omega]; exact g6
theorem t_standsAt {G : GT} {σ τ : St} (hS : IS σ) (hT : IT σ) (hU : UL σ τ) {m u : Nat} (hm : (m : Int) < σ.2.1 8 7) (hu : u < nU σ) : CJ G m_UN_standsAt [O 4, I m, I u] τ (fun r v => v = τ ∧ r = if mtb σ (gN σ m) u = true then 1 else 0) := by
  have n := hS.1
  unfold NumOk at n
  have n8 := nU_le hT
  obtain ⟨hf, hc, hl⟩ := hU
  obtain ⟨j1, j2, j3, j4, j5, j6, j7⟩ := lig_J hS hf hm
  have lp := ln3_pos (σ := σ) (g := gN σ m)
  have hiff := mtb_iff (σ := σ) (g := gN σ m) (u := u) j6
  refine CJ.go (fun _ => k_UN_standsAt_0 ?_)
  rw [Int.toNat_natCast, j1, Int.toNat_natCast, j2, hc]
  refine ⟨by omega, by omega, ⟨by omega, by omega⟩, fun q => ?_, fun q => ⟨rfl, ?_⟩⟩
  · have loop : ∀ d k : Nat, k + d = ln3 σ (gN σ m) → (∀ j, j < k → ul σ (u + j) = pt σ (gN σ m) j) → a_UN_standsAt_33 G m u (ln3 σ (gN σ m)) k τ (fun r v => v = τ ∧ r = if mtb σ (gN σ m) u = true then 1 else 0) := by
      intro d
      induction d with
      | zero =>
        intro k hk hj
        refine k_UN_standsAt_33 ⟨⟨by omega, by omega⟩, ⟨by omega, by omega⟩, fun _ => ⟨rfl, ?_⟩, fun z => absurd z (by omega)⟩
        rw [if_pos (hiff.mpr ⟨by omega, fun j h => hj j (by omega)⟩)]
      | succ d ih =>
        intro k hk hj
        have e : ((u : Int) + (k : Int)).toNat = u + k := by omega
        refine k_UN_standsAt_33 ⟨⟨by omega, by omega⟩, ⟨by omega, by omega⟩, fun z => absurd z (by omega), fun _ => ?_⟩
        rw [e, Int.toNat_natCast, Int.toNat_natCast, hl (u + k) (by omega), j3 k (by omega)]
        refine ⟨by omega, by omega, by omega, fun z => ?_, fun z => ⟨rfl, ?_⟩⟩
        · refine ih (k + 1) (by omega) (fun j h => ?_)
          by_cases ej : j = k
          · rw [ej]; exact z
          · exact hj j (by omega)
        · rw [if_neg (fun w => z ((hiff.mp w).2 k (by omega)))]
    exact loop (ln3 σ (gN σ m)) 0 (by omega) (fun j h => absurd h (by omega))
  · rw [if_neg (fun w => by have := (hiff.mp w).1; omega)]
theorem t_longestMust {G : GT} {σ τ : St} (hS : IS σ) (hT : IT σ) (hU : UL σ τ) {u : Nat} (hu : u < nU σ) : CJ G m_UN_longestMust [O 4, I u] τ (fun r v => v = τ ∧ r = lb σ u) := by
  have n := hS.1
  unfold NumOk at n
  have n8 := nU_le hT
  obtain ⟨hf, hc, hl⟩ := id hU
  have hul := ul_ok hT hu
  unfold LOk at hul
  have hK : τ.2.1 1 1 = σ.2.1 8 7 := by rw [(hf.u 1 (by omega)).2]; omega
  refine CJ.go (fun R => k_UN_longestMust_0 ⟨by omega, ?_⟩)
  rw [Int.toNat_natCast, hl u hu]
  have loop : ∀ d m : Nat, ((m + d : Nat) : Int) = σ.2.1 8 7 → a_UN_longestMust_9 G u (lbo σ u (gN σ m)) m τ (fun r v => v = τ ∧ r = lb σ u) := by
    intro d
    induction d with
    | zero =>
      intro m hm
      have e : gN σ m = nL σ := by unfold gN; rw [if_neg (by omega)]
      have hb := (lb_spec hS hT hu).1
      refine k_UN_longestMust_9 ⟨⟨by omega, by omega⟩, fun _ => ⟨?_, rfl, ?_⟩, fun z => absurd z (by omega)⟩
      · rw [e]; exact ⟨by unfold lb at hb; omega, by unfold lb at hb; omega⟩
      · rw [e]; rfl
    | succ d ih =>
      intro m hm
      have hm' : (m : Int) < σ.2.1 8 7 := by omega
      obtain ⟨j1, j2, j3, j4, j5, j6, j7⟩ := lig_J hS hf hm'
      obtain ⟨-, gs1, gs2, gs3, gs4⟩ := gN_spec hS hm'
      have ihm := ih (m + 1) (by omega)
      have ec : lmF σ u (gN σ (m + 1)) = lmF σ u (gN σ m + 1) := lmF_const _ gs2 gs4
      have es : lmF σ u (gN σ m + 1) = if σ.1 89 (gN σ m) = 7 ∧ σ.1 93 (gN σ m) = 1 ∧ (lmF σ u (gN σ m) < 0 ∨ ln3 σ (lmF σ u (gN σ m)).toNat < ln3 σ (gN σ m)) ∧ mtb σ (gN σ m) u = true then ((gN σ m : Nat) : Int) else lmF σ u (gN σ m) := rfl
      have hbo : 0 ≤ lbo σ u (gN σ m) ∧ lbo σ u (gN σ m) < σ.2.1 8 6 := by
        unfold lbo
        rcases lmF_spec (σ := σ) (u := u) (gN σ m) with q | ⟨l, q1, q2, -⟩
        · rw [if_pos (by omega)]; omega
        · rw [if_neg (by omega), q2]; unfold nL at gs1; omega
      have hlen : τ.1 49 (lbo σ u (gN σ m)).toNat = (ln3 σ (lbo σ u (gN σ m)).toNat : Int) := by
        rw [(hf.u 49 (by omega)).1]; exact ln3_J hS (by omega)
      have l1 : lmF σ u (gN σ m) < 0 → ln3 σ (lbo σ u (gN σ m)).toNat = 1 := fun q => by
        unfold lbo
        rw [if_pos q]
        exact ln3_one hul.2.2
      have l2 : ¬ lmF σ u (gN σ m) < 0 → lbo σ u (gN σ m) = lmF σ u (gN σ m) := fun q => by
        unfold lbo
        rw [if_neg q]
      have lig2 := ln3_lig j6
      refine k_UN_longestMust_9 ?_
      rw [hK, Int.toNat_natCast, j1, Int.toNat_natCast, j2, j4, hlen]
      have same : ¬ (σ.1 93 (gN σ m) = 1 ∧ (lmF σ u (gN σ m) < 0 ∨ ln3 σ (lmF σ u (gN σ m)).toNat < ln3 σ (gN σ m)) ∧ mtb σ (gN σ m) u = true) → lbo σ u (gN σ (m + 1)) = lbo σ u (gN σ m) := fun q => by
        have es2 : lmF σ u (gN σ m + 1) = lmF σ u (gN σ m) := by rw [es, if_neg (fun w => q w.2)]
        unfold lbo
        rw [ec, es2]
      refine ⟨⟨by omega, by omega⟩, fun z => absurd z (by omega), fun _ => ⟨by omega, fun z => ?_, fun z => ⟨by omega, by omega, fun z2 => ?_, fun z2 => ?_⟩⟩⟩
      · rw [same (fun w => by have := w.1; omega)] at ihm
        exact ihm
      · rw [same (fun w => by
          rcases w.2.1 with q | q
          · have := l1 q; omega
          · by_cases q2 : lmF σ u (gN σ m) < 0
            · have := l1 q2; omega
            · rw [← l2 q2] at q; omega)] at ihm
        exact ihm
      · refine CJ.mono (t_standsAt hS hT hU hm' hu) (fun r v _ hv => ?_)
        obtain ⟨rfl, rfl⟩ := hv
        have c2 : lmF σ u (gN σ m) < 0 ∨ ln3 σ (lmF σ u (gN σ m)).toNat < ln3 σ (gN σ m) := by
          by_cases q2 : lmF σ u (gN σ m) < 0
          · exact Or.inl q2
          · right
            rw [← l2 q2]
            omega
        by_cases q : mtb σ (gN σ m) u = true
        · rw [if_pos q, if_neg (by decide)]
          have e : lbo σ u (gN σ (m + 1)) = (gN σ m : Int) := by
            have es2 : lmF σ u (gN σ m + 1) = (gN σ m : Int) := by rw [es, if_pos ⟨j6, by omega, c2, q⟩]
            unfold lbo
            rw [ec, es2, if_neg (by omega)]
          rw [e] at ihm
          exact ihm
        · rw [if_neg q, if_pos rfl]
          rw [same (fun w => q w.2.2)] at ihm
          exact ihm
  have e0 : lbo σ u (gN σ 0) = ul σ u := by
    unfold lbo
    have : lmF σ u (gN σ 0) = lmF σ u 0 := lmF_const _ (by omega) (fun l _ h => gN_first hS l h)
    rw [this]
    rfl
  have := loop (σ.2.1 8 7).toNat 0 (by omega)
  rw [e0] at this
  exact this
/-! findBases -/
def FB (σ : St) (m : Nat) (τ : St) : Prop := (∀ u, u < m → τ.1 71 u = bb σ u ∧ τ.1 72 u = (if bh σ u ≤ u then 1 else 0) ∧ (bh σ u ≤ u → τ.1 73 (3 * u) = lb σ u))
theorem l_findBases {G : GT} {σ τ0 : St} {P : Int → St → Prop} (hS : IS σ) (hT : IT σ) (hU : UL σ τ0) (hP : ∀ τ, τ.2 = τ0.2 → (∀ k, k ≠ 71 → k ≠ 72 → k ≠ 73 → τ.1 k = τ0.1 k) → FB σ (nU σ) τ → P 0 τ) : ∀ (d m : Nat) (τ : St) (v1 : Int), m + d = nU σ → τ.2 = τ0.2 → (∀ k, k ≠ 71 → k ≠ 72 → k ≠ 73 → τ.1 k = τ0.1 k) → FB σ m τ → (v1 = if m = 0 then 0 else (bb σ (m - 1) : Int)) → a_UN_findBases_6 G v1 (bh σ m) m τ P := by
  have n := hS.1
  unfold NumOk at n
  have n8 := nU_le hT
  obtain ⟨hf, hc, hl⟩ := id hU
  intro d
  induction d with
  | zero =>
    intro m τ v1 hm h2 ho hb hv
    have em : m = nU σ := by omega
    refine k_UN_findBases_6 ?_
    rw [h2, hc]
    exact ⟨⟨by omega, by omega⟩, fun _ => hP τ h2 ho (by rw [← em]; exact hb), fun z => absurd z (by omega)⟩
  | succ d ih =>
    intro m τ v1 hm h2 ho hb hv
    have hbl := bh_le hS hT m (by omega)
    have hbb := bb_le (σ := σ) m
    refine k_UN_findBases_6 ?_
    rw [h2, hc, Int.toNat_natCast]
    have hr1 : rng v1 := by
      rw [hv]
      have := bb_le (σ := σ) (m - 1)
      split <;> exact ⟨by omega, by omega⟩
    have bs : bh σ (m + 1) = if bh σ m ≤ m then m + ln3 σ (lb σ m).toNat else bh σ m := rfl
    refine ⟨⟨by omega, by omega⟩, fun z => absurd z (by omega), fun _ => ⟨⟨by omega, by omega⟩, fun z => ⟨by omega, hr1, fun s7 e7 s9 e9 => ?_⟩, fun z => ?_⟩⟩
    · have hnb : ¬ bh σ m ≤ m := by omega
      rw [if_neg z] at e9
      rw [if_neg hnb] at bs
      have m0 : m ≠ 0 := fun q => hnb (by rw [q]; exact Nat.le_refl _)
      have ebb : bb σ m = bb σ (m - 1) := by
        obtain ⟨m', rfl⟩ : ∃ m', m = m' + 1 := ⟨m - 1, by omega⟩
        show (if _ then _ else _) = _
        rw [if_neg hnb]; rfl
      rw [if_neg m0, ← ebb] at hv
      have := ih (m + 1) s9 v1 (by omega) (by rw [e9, e7]; exact h2) (fun k a b c => by rw [e9, e7, sa_ne b, sa_ne a]; exact ho k a b c) (fun u hu => ?_) (by rw [if_neg (by omega)]; exact hv)
      · rw [bs] at this
        exact this
      · rw [e9, e7]
        by_cases eu : u = m
        · subst eu
          rw [sa_ne (by decide), sa_at, sa_at, if_neg hnb]
          exact ⟨hv, rfl, fun q => absurd q hnb⟩
        · rw [sa_nx eu, sa_nx eu, sa_nx eu, sa_nx eu, sa_ne (by decide), sa_ne (by decide)]
          exact hb u (by omega)
    · have hyb : bh σ m ≤ m := by omega
      have UL' : UL σ τ := ⟨⟨fun k hk => ⟨by rw [ho k (by unfold WU at hk; omega) (by unfold WU at hk; omega) (by unfold WU at hk; omega)]; exact (hf.1 k hk).1, by rw [h2]; exact (hf.1 k hk).2⟩, by rw [h2]; exact hf.2⟩, by rw [h2]; exact hc, fun u hu => by rw [ho 63 (by decide) (by decide) (by decide)]; exact hl u hu⟩
      refine CJ.mono (t_longestMust hS hT UL' (show m < nU σ by omega)) (fun r v _ hv2 => ?_)
      obtain ⟨rfl, rfl⟩ := hv2
      obtain ⟨hb1, hb2, -⟩ := lb_spec hS hT (show m < nU σ by omega)
      have hlen : v.1 49 (lb σ m).toNat = (ln3 σ (lb σ m).toNat : Int) := by
        rw [(UL'.1.u 49 (by omega)).1]; exact ln3_J hS (by omega)
      rw [hlen, if_pos z, show ((m : Int) * 3).toNat = 3 * m by omega]
      refine ⟨by omega, fun s15 e15 => ⟨by omega, by omega, fun s20 e20 s22 e22 => ?_⟩⟩
      rw [if_pos hyb] at bs
      have := ih (m + 1) s22 m (by omega) (by rw [e22, e20, e15]; exact h2) (fun k a b c => by rw [e22, e20, e15, sa_ne b, sa_ne a, sa_ne c]; exact ho k a b c) (fun u hu => ?_) (by rw [if_neg (by omega), show m + 1 - 1 = m by omega, bb_self hyb])
      · rw [bs, show ((m + ln3 σ (lb σ m).toNat : Nat) : Int) = (m : Int) + (ln3 σ (lb σ m).toNat : Int) by omega] at this
        exact this
      · rw [e22, e20, e15]
        by_cases eu : u = m
        · subst eu
          rw [sa_ne (by decide), sa_at, sa_at, sa_ne (by decide), sa_ne (by decide), sa_at, if_pos hyb, bb_self hyb]
          exact ⟨rfl, rfl, fun _ => rfl⟩
        · rw [sa_nx eu, sa_nx eu, sa_nx eu, sa_nx eu, sa_ne (show 71 ≠ 73 by decide), sa_ne (show 72 ≠ 73 by decide), sa_ne (show 73 ≠ 72 by decide), sa_ne (show 73 ≠ 71 by decide), sa_nx (show 3 * u ≠ 3 * m by omega)]
          exact hb u (by omega)
