/-! best, the step -/
theorem Inv_FrQ {k : Nat} {σ τ : St} (h : Inv k σ) (f : FrQ σ τ) : Inv k τ := by
  obtain ⟨hB, hF, hUB, hH, hN, hL, hP⟩ := h
  have hs := f.b.same
  obtain ⟨A, O8, f8, hh⟩ := f
  obtain ⟨ab, af⟩ := hs.ab
  have f0 : τ.2.1 0 = σ.2.1 0 := O8 0 (by omega)
  have hl : σ.2.2.1 = 9 ∨ σ.2.2.1 = 28 := by rcases hB.2.2.2 with q | q <;> rw [q] <;> simp
  refine ⟨Base_keep hB hs hh, ?_, ?_, ?_, ?_, ?_, ?_⟩
  · unfold Fl at hF ⊢
    rw [f0, f8 68 (by omega), f8 91 (by omega), f8 100 (by omega), f8 109 (by omega), f8 26 (by omega)]
    exact hF
  · exact UB_keep hUB ab (fun k hk => A k (by omega)) (O8 4 (by omega)) (by rw [f0]) (by rw [f0]) (f8 26 (by omega)) (f8 27 (by omega)) (f8 35 (by omega))
  · exact HB_keep hH ab af (by rw [hh]) (fun k k1 k2 => ⟨A k (by omega), O8 k (by omega)⟩) (fun k k1 k2 => A k (by omega)) (fun j j1 j2 => f8 j (by omega)) (by rw [f0]) (by rw [f0])
  · exact NB_keep hN ab (fun j j1 j2 => f8 j (by omega)) (by rw [f0]) (by rw [f0]) (by rw [f0]) (by rw [f0])
  · exact LB_keep hL ab (fun k hk => A k (by omega)) (by rw [O8 6 (by omega)]) (by rw [O8 6 (by omega)]) (f8 101 (by omega)) (f8 108 (by omega)) (by rw [f0]) (by rw [f0])
  · exact PB_keep hP (fun k hk => A k (by omega)) (by rw [O8 7 (by omega)]) (f8 110 (by omega)) (by rw [f0]) (by rw [f0])
theorem Inw_pa {k : Nat} {τ υ : St} (w : Inw k τ) (h : Fr WPa τ υ) : Inw k υ := by
  obtain ⟨hB, ⟨⟨a1, a2, a3, a4, a5, a6, a7⟩, ⟨b1, b2, b3, b4, b5⟩, c2, c3, c4, c5⟩, hUB, hH, hN, hL, hP⟩ := w
  have hh : υ.2.2 = τ.2.2 := h.2
  have hl : τ.2.2.1 = 9 ∨ τ.2.2.1 = 28 := by rcases hB.2.2.2 with q | q <;> rw [q] <;> simp
  have A : ∀ k, ¬ WPa k → υ.1 k = τ.1 k := fun k hk => (h.1 k hk).1
  have O8 : ∀ k, ¬ WPa k → υ.2.1 k = τ.2.1 k := fun k hk => (h.1 k hk).2
  have f0 : υ.2.1 0 = τ.2.1 0 := O8 0 (by unfold WPa; omega)
  have f8 : υ.2.1 8 = τ.2.1 8 := O8 8 (by unfold WPa; omega)
  have hs : Same τ υ := ⟨fun k hk => A k (by unfold SK at hk; unfold WPa; omega), fun j => by rw [O8 1 (by unfold WPa; omega)], fun j => by rw [O8 2 (by unfold WPa; omega)], fun j => by rw [O8 3 (by unfold WPa; omega)], by rw [f8], by rw [f8], by rw [f8], by rw [f8], by rw [f8], by rw [f8]⟩
  obtain ⟨ab, af⟩ := hs.ab
  refine ⟨Base_keep hB hs hh, ?_, ?_, ?_, ?_, ?_, ?_⟩
  · unfold Fm
    rw [f0, f8]
    exact ⟨⟨a1, a2, a3, a4, a5, a6, a7⟩, ⟨b1, b2, b3, b4, b5⟩, c2, c3, c4, c5⟩
  · exact UB_keep hUB ab (fun k hk => A k (by unfold WPa; omega)) (O8 4 (by unfold WPa; omega)) (by rw [f0]) (by rw [f0]) (by rw [f8]) (by rw [f8]) (by rw [f8])
  · exact HB_keep hH ab af (by rw [hh]) (fun k k1 k2 => h.1 k (by unfold WPa; omega)) (fun k k1 k2 => A k (by unfold WPa; omega)) (fun j j1 j2 => by rw [f8]) (by rw [f0]) (by rw [f0])
  · exact NB_keep hN ab (fun j j1 j2 => by rw [f8]) (by rw [f0]) (by rw [f0]) (by rw [f0]) (by rw [f0])
  · exact LB_keep hL ab (fun k hk => A k (by unfold WPa; omega)) (by rw [O8 6 (by unfold WPa; omega)]) (by rw [O8 6 (by unfold WPa; omega)]) (by rw [f8]) (by rw [f8]) (by rw [f0]) (by rw [f0])
  · exact PB_keep hP (fun k hk => A k (by unfold WPa; omega)) (by rw [O8 7 (by unfold WPa; omega)]) (by rw [f8]) (by rw [f0]) (by rw [f0])
theorem Inv_best {k : Nat} {τ ρ : St} (h : Inw k τ) (hu : τ.2.1 0 10 = τ.2.1 0 9) (A : ∀ k, (46 < k ∧ k < 74) ∨ (83 < k ∧ k < 110) ∨ (138 < k ∧ k < 154) ∨ (162 < k ∧ k < 376) → ρ.1 k = τ.1 k) (AH : ∀ k, τ.2.2.1 ≤ k → k ≤ τ.2.2.1 + 18 → ρ.1 k = τ.1 k ∧ ρ.2.1 k = τ.2.1 k) (O : ∀ k, (1 ≤ k ∧ k ≤ 4) ∨ k = 7 → ρ.2.1 k = τ.2.1 k) (F8 : ∀ j, j < 26 ∨ (67 < j ∧ j < 100) ∨ 109 < j → ρ.2.1 8 j = τ.2.1 8 j) (F0 : ∀ j, j ≠ 13 → j ≠ 14 → ρ.2.1 0 j = τ.2.1 0 j) (hp : ρ.2.2 = τ.2.2) (hc : ρ.2.1 8 26 = 1) (hC : CTx ρ ρ) (hb : ρ.2.1 0 13 = τ.2.1 0 9) (hpg : ρ.2.1 0 14 = -6) (hl : ρ.2.1 8 100 = 1) (hl2 : ρ.2.1 8 109 = 0) (hLB : LB ρ) : Inv (k + 1) ρ := by
  obtain ⟨hB, ⟨⟨a1, a2, a3, a4, a5, a6, a7⟩, ⟨b1, b2, b3, b4, b5⟩, c2, c3, c4, c5⟩, hUB, hH, hN, hL, hP⟩ := h
  have hs : Same τ ρ := ⟨fun k hk => A k (by unfold SK at hk; omega), fun j => by rw [O 1 (by omega)], fun j => by rw [O 2 (by omega)], fun j => by rw [O 3 (by omega)], F8 6 (by omega), F8 7 (by omega), F8 17 (by omega), F8 21 (by omega), F8 _ (by decide), F8 _ (by decide)⟩
  obtain ⟨ab, af⟩ := hs.ab
  have o9 := F0 9 (by omega) (by omega)
  have o10 := F0 10 (by omega) (by omega)
  have o11 := F0 11 (by omega) (by omega)
  have o12 := F0 12 (by omega) (by omega)
  have hu' : τ.2.1 0 10 = τ.2.1 0 9 := hu
  have a1' : 0 ≤ τ.2.1 0 9 := a1
  have e13 : ρ.2.1 0 13 = ρ.2.1 0 9 := by rw [hb, o9]
  have ne14 : ¬ ρ.2.1 0 14 = ρ.2.1 0 9 := by rw [hpg, o9]; omega
  have f68 : ρ.2.1 8 68 = τ.2.1 8 68 := F8 68 (by omega)
  have f91 : ρ.2.1 8 91 = τ.2.1 8 91 := F8 91 (by omega)
  have b1' : τ.2.1 8 68 = (if τ.2.1 0 11 = τ.2.1 0 9 then 1 else 0) := b1
  have b2' : τ.2.1 8 91 = (if τ.2.1 0 12 = τ.2.1 0 9 then 1 else 0) := b2
  refine Inw_v ⟨Base_keep hB hs hp, ?_, ⟨fun _ => ?_, fun _ => hC⟩, ?_, ?_, hLB, fun z => absurd z ne14⟩ (fun _ => hc)
  · refine ⟨⟨by rw [o9]; exact a1, by rw [o9]; omega, by rw [o9, o10]; exact a3, by rw [o9, o11]; exact a4, by rw [o9, o12]; exact a5, by rw [e13]; exact Int.le_refl _, by rw [hpg, o9]; omega⟩, ⟨?_, ?_, ?_, ?_, Or.inr hc⟩, fun _ => by rw [o9, o10]; exact hu', fun _ => by rw [o9, o10]; exact hu', fun _ => by rw [o9, o10]; exact hu', fun z => absurd z ne14⟩
    · show ρ.2.1 8 68 = (if ρ.2.1 0 11 = ρ.2.1 0 9 then 1 else 0)
      rw [f68, o9, o11]; exact b1'
    · show ρ.2.1 8 91 = (if ρ.2.1 0 12 = ρ.2.1 0 9 then 1 else 0)
      rw [f91, o9, o12]; exact b2'
    · show ρ.2.1 8 100 = (if ρ.2.1 0 13 = ρ.2.1 0 9 then 1 else 0)
      rw [if_pos e13]; exact hl
    · show ρ.2.1 8 109 = (if ρ.2.1 0 14 = ρ.2.1 0 9 then 1 else 0)
      rw [if_neg ne14]; exact hl2
  · exact UNx_ab ab (UNx_keep (hUB.1 hu) (fun k k1 k2 => A k (by omega)) (O 4 (by omega)))
  · exact HB_keep hH ab af (by rw [hp]) AH (fun k k1 k2 => A k (by omega)) (fun j j1 j2 => F8 j (by omega)) o9 o11
  · exact NB_keep hN ab (fun j j1 j2 => F8 j (by omega)) o9 o12 (F0 15 (by omega) (by omega)) (F0 16 (by omega) (by omega))
theorem lnl_same {c : Nat → Nat → Int} {n : Nat} {B T : Nat → Int} (h : Spc c n B T) {t t' : Nat → Nat} (ht : ∀ i, t i = (T i).toNat) (htt : ∀ i, i < n → B i < NV → t i = t' i) : ∀ f i, i ≤ n → B i < NV → lnl t n f i = lnl t' n f i := by
  intro f
  induction f with
  | zero => intro i _ _; rfl
  | succ f ih =>
    intro i hi hb
    unfold lnl
    by_cases q : i < n
    · rw [if_pos q, if_pos q, ← htt i q hb]
      obtain ⟨k, k1, k2, k3, k4, k5, k6⟩ := Spc_T h q hb
      have e : t i = k := by rw [ht, k1, Int.toNat_natCast]
      rw [ih (t i + 1) (by omega) (by rw [e]; exact k5)]
    · rw [if_neg q, if_neg q]
theorem lnl_ok {c : Nat → Nat → Int} {n : Nat} {B T : Nat → Int} (h : Spc c n B T) {t : Nat → Nat} (ht : ∀ i, t i = (T i).toNat) : ∀ f i, i ≤ n → B i < NV → (lnl t n f i).length ≤ f ∧ ∀ p ∈ lnl t n f i, p.1 ≤ p.2 ∧ p.2 < n ∧ c p.1 p.2 < NV := by
  intro f
  induction f with
  | zero => intro i _ _; exact ⟨Nat.le_refl _, fun p hp => absurd hp (by unfold lnl; simp)⟩
  | succ f ih =>
    intro i hi hb
    unfold lnl
    by_cases q : i < n
    · rw [if_pos q]
      obtain ⟨k, k1, k2, k3, k4, k5, k6⟩ := Spc_T h q hb
      have e : t i = k := by rw [ht, k1, Int.toNat_natCast]
      obtain ⟨g1, g2⟩ := ih (t i + 1) (by omega) (by rw [e]; exact k5)
      refine ⟨by simp; exact g1, fun p hp => ?_⟩
      rcases List.mem_cons.mp hp with z | z
      · rw [z, e]; exact ⟨k2, k3, k4⟩
      · exact g2 p z
    · rw [if_neg q]
      exact ⟨Nat.zero_le _, fun p hp => absurd hp (by simp)⟩
theorem so_best (G : GT) : SO_best G Inv := by
  intro k σ hk h v hrv
  refine CJ.go (fun _ => k_JS_best_0 ⟨hrv, fun _ => ⟨by decide, by decide⟩, fun c => CJ.mono (t_look (Inv_w h)) (fun _ τ _ hτ => ?_), fun c => ?_⟩)
  · obtain ⟨W, rfl⟩ : ∃ W : Nat, v = W := ⟨v.toNat, by omega⟩
    have hW : W ≤ 300 := by omega
    obtain ⟨w, l, u, hU⟩ := hτ
    obtain ⟨hS, hT, -, hH⟩ := id w.1
    have nw8 := nW_le hT
    have NVe : NV = 536870912 := rfl
    have e43 : τ.2.1 4 3 = (nW τ : Int) := hU.2.1
    have hL : isL τ.2.2.2 ∧ τ.2.2.1 ≠ τ.2.2.2 := by
      rcases hH with q | q <;> rw [q] <;> exact ⟨by unfold isL; omega, by omega⟩
    have hL2 : τ.2.2.2 = 9 ∨ τ.2.2.2 = 28 := hL.1
    have hL1 : (τ.2.2.1 = 9 ∧ τ.2.2.2 = 28) ∨ (τ.2.2.1 = 28 ∧ τ.2.2.2 = 9) := by
      rcases hH with q | q
      · left; rw [q]; exact ⟨rfl, rfl⟩
      · right; rw [q]; exact ⟨rfl, rfl⟩
    rw [e43]
    refine ⟨fun hn0 => CJ.mono (t_search hS hT hU Fr.refl hW) (fun r υ1 _ h1 => ?_), fun hn0 => ?_⟩
    · obtain ⟨g1, g2, g3, g4⟩ := h1
      have hn1 : 0 < nW τ := by omega
      rw [g4]
      refine ⟨fun z => ?_, fun z => ?_⟩
      · have hlt : υ1.1 82 0 < NV := by
          rcases Int.lt_or_le (υ1.1 82 0) NV with q | q
          · exact q
          · rw [if_neg (by omega)] at z; exact absurd rfl z
        have hp1 : υ1.2.2 = τ.2.2 := g1.2
        rw [hp1]
        have fw1 : Fr WF τ υ1 := g1.mono (fun k hk => WPa_WF hk)
        refine CJ.mono (t_keep hS hT hU fw1 hL.1 hW g2 g3 hlt (T := fun i => (υ1.1 83 i).toNat) (fun i => rfl)) (fun _ υ2 _ h2 s11 e11 s13 e13 => ?_)
        obtain ⟨k1, k2, k3, k4⟩ := h2
        obtain ⟨ls, hls⟩ : ∃ ls, ls = lnl (fun i => (υ1.1 83 i).toNat) (nW τ) 80 0 := ⟨_, rfl⟩
        rw [← hls] at k3 k4
        have e13' : s13 = sf (sf υ2 0 13 (υ2.2.1 0 9)) 0 14 (-6) := by rw [e13, e11]
        have A13 : ∀ k, (46 < k ∧ k < 74) ∨ (83 < k ∧ k < 376) ∨ (τ.2.2.1 ≤ k ∧ k ≤ τ.2.2.1 + 18) → s13.1 k = τ.1 k := fun k hk => by
          rw [e13']
          show υ2.1 k = _
          rw [(k1.1 k (by unfold WKp WLn; omega)).1]
          exact (g1.1 k (by unfold WPa; omega)).1
        have a82 : υ2.1 82 = υ1.1 82 := (k1.1 82 (by unfold WKp WLn; omega)).1
        have B13 : ∀ k, (1 ≤ k ∧ k ≤ 4) ∨ (7 ≤ k ∧ k ≤ 8) ∨ (τ.2.2.1 ≤ k ∧ k ≤ τ.2.2.1 + 18) → s13.2.1 k = τ.2.1 k := fun k hk => by
          rw [e13', sf_ne (by omega), sf_ne (by omega), (k1.1 k (by unfold WKp WLn; omega)).2]
          exact (g1.1 k (by unfold WPa; omega)).2
        have z0 : υ2.2.1 0 = τ.2.1 0 := by rw [(k1.1 0 (by unfold WKp WLn; omega)).2]; exact (g1.1 0 (by unfold WPa; omega)).2
        have C13 : ∀ j, j ≠ 13 → j ≠ 14 → s13.2.1 0 j = τ.2.1 0 j := fun j j1 j2 => by rw [e13', sf_nx j2, sf_nx j1, z0]
        have d13 : s13.2.1 0 13 = τ.2.1 0 9 := by rw [e13', sf_nx (by decide), sf_at, z0]
        have d14 : s13.2.1 0 14 = -6 := by rw [e13', sf_at]
        have p13 : s13.2.2 = τ.2.2 := by rw [e13']; exact k1.2.trans g1.2
        have f8 : s13.2.1 8 = τ.2.1 8 := B13 8 (by omega)
        have sm : Same τ s13 := ⟨fun k hk => A13 k (by unfold SK at hk; omega), fun j => by rw [B13 1 (by omega)], fun j => by rw [B13 2 (by omega)], fun j => by rw [B13 3 (by omega)], by rw [f8], by rw [f8], by rw [f8], by rw [f8], by rw [f8], by rw [f8]⟩
        obtain ⟨mS, mT⟩ := sm.st hS hT
        have ab1 := sm.ab.1
        have m5 : s13.2.1 8 26 = 0 ∨ s13.2.1 8 26 = 1 := by rw [f8]; exact w.2.1.2.1.2.2.2.2
        have mC : s13.2.1 8 26 = 1 → CTx s13 s13 := fun z => by
          rw [f8] at z
          exact CTx_ab ab1 (CTx_keep (w.2.2.1.2 z) (fun k k1 k2 => A13 k (by omega)) (by rw [f8]) (by rw [f8]))
        rw [a82]
        refine CJ.go (fun _ => k_MO_best_0 ⟨hrv, fun _ => CJ.mono (t_cut mS mT m5 mC) (fun _ υ3 _ hυ3 => ?_), fun q => absurd c q⟩)
        obtain ⟨x1, x2⟩ := hυ3
        have r2 := rp_C x1
        have ab2 := r2.same.ab.1
        have abt : Ab τ υ3 := ab1.trans ab2
        have x3 : CTx υ3 υ3 := CTx_ab ab2 x2
        obtain ⟨nS, nT⟩ := r2.same.st mS mT
        have c26 : υ3.2.1 8 26 = 1 := by
          have := x1.2.2.1 26 (by decide) (by decide)
          rw [this]
          exact sf_at
        have e27 : υ3.2.1 8 27 = (nW τ : Int) := by rw [show υ3.2.1 8 27 = _ from x3.1, Ab_nW abt]
        rw [e27]
        refine ⟨fun _ => ?_, fun q => absurd q hn0⟩
        refine t_bestM nS nT x3 hW (by rw [Ab_nW abt]; exact hn1) (fun υ4 q1 q2 q3 q4 => ?_)
        have q3' := q3
        rw [Ab_cF abt, Ab_nW abt] at q3'
        have uq := Spc_uniq g2 q3'
        have e0 : υ4.1 155 0 = υ1.1 82 0 := (uq (nW τ) 0 (by omega)).1.symm
        refine ⟨fun _ => ?_, fun q => absurd q (by omega)⟩
        refine CJ.mono (t_noteLines nS nT x3 q1 hW q2 q3 (by omega) (T := fun i => (υ4.1 156 i).toNat) (fun i => rfl)) (fun _ ρ _ hρ => ?_)
        obtain ⟨y1, y2, y3, y4, y5, y6, y7⟩ := hρ
        have els : lnl (fun i => (υ4.1 156 i).toNat) (nW τ) 80 0 = ls := by
          rw [hls]
          exact (lnl_same g2 (t := fun i => (υ1.1 83 i).toNat) (fun i => rfl) (fun i hi hb => by
            have := (uq (nW τ - i) i (by omega)).2 hi hb
            show (υ1.1 83 i).toNat = (υ4.1 156 i).toNat
            rw [this]) 80 0 (by omega) hlt).symm
        rw [Ab_nW abt, els] at y6 y7
        obtain ⟨lk1, lk2⟩ := lnl_ok g2 (t := fun i => (υ1.1 83 i).toNat) (fun i => rfl) 80 0 (by omega) hlt
        rw [← hls] at lk1 lk2
        have abr := y1.same.ab.1
        have abA : Ab τ ρ := abt.trans abr
        have a34 : ∀ k, k < 110 ∨ (138 < k ∧ k < 154) ∨ 162 < k → ρ.1 k = s13.1 k := fun k hk => by rw [y1.1 k (by omega)]; exact x1.1 k (by omega)
        have b34 : ∀ k, k ≠ 8 → ρ.2.1 k = s13.2.1 k := fun k hk => by rw [y1.2.1 k hk, r2.2.1 k hk]
        refine ⟨by rw [y2]; exact e0.symm, ?_⟩
        refine Inv_best w u (fun k hk => ?_) (fun k k1 k2 => ⟨?_, ?_⟩) (fun k hk => ?_) (fun j hj => ?_) (fun j j1 j2 => ?_) ?_ ?_ ?_ ?_ ?_ y3 y4 (fun _ => ?_)
        · rw [a34 k (by omega)]; exact A13 k (by omega)
        · rw [a34 k (by omega)]; exact A13 k (by omega)
        · rw [b34 k (by omega)]; exact B13 k (by omega)
        · rw [b34 k (by omega)]; exact B13 k (by omega)
        · rw [y1.2.2.1 j (by omega)]
          have := x1.2.2.1 j (show j ≠ 27 by omega) (show j ≠ 35 by omega)
          rw [this, sf_nx (show j ≠ 26 by omega), f8]
        · rw [b34 0 (by omega)]; exact C13 j j1 j2
        · rw [y1.2.2.2, r2.2.2.2]; exact p13
        · show ρ.2.1 8 26 = 1
          rw [y1.2.2.1 26 (by omega)]; exact c26
        · exact (y1.ok nS nT x3).2.2.1
        · rw [b34 0 (by omega)]; exact d13
        · rw [b34 0 (by omega)]; exact d14
        · have r6 : ∀ j, ρ.2.1 6 j = υ2.2.1 6 j := fun j => by rw [b34 6 (by omega), e13', sf_ne (by omega), sf_ne (by omega)]
          refine ⟨W, ls, by omega, hW, lk1, by rw [r6]; exact k2, y5, by rw [r6]; exact k3, y6, fun t p hp => ?_⟩
          obtain ⟨v1, v2, v3⟩ := lk2 p (List.mem_of_getElem? hp)
          obtain ⟨d1, d2, d3, d4, d5, d6, d7⟩ := k4 t p hp
          obtain ⟨m1, m2, m3, m4, m5', m6⟩ := y7 t p hp
          rw [Ab_cF abt] at m3
          rw [Ab_hgF abt] at m4
          rw [Ab_dpF abt] at m5'
          rw [Ab_pln abt] at m6
          have s77 : ∀ k, 77 ≤ k → k ≤ 81 → ρ.1 k = υ2.1 k := fun k j1 j2 => by rw [a34 k (by omega), e13']; rfl
          rw [s77 77 (by omega) (by omega), s77 78 (by omega) (by omega), s77 79 (by omega) (by omega), s77 80 (by omega) (by omega), s77 81 (by omega) (by omega), Ab_nW abA, Ab_pln abA, Ab_lkR abA, Ab_wfu abA, Ab_wE abA, Ab_LL abA]
          exact ⟨v1, v2, cF_set v3, d1, d2, m1, m2, by rw [m3, d3], by rw [m4, d4], by rw [m5', d5], by rw [d4]; exact d6, by rw [d5]; exact d7, m6⟩
      · have hge : NV ≤ υ1.1 82 0 := by
          rcases Int.lt_or_le (υ1.1 82 0) NV with q | q
          · rw [if_pos q] at z; exact absurd z (by decide)
          · exact q
        have w2 : Inw k υ1 := Inw_pa w g1
        refine CJ.go (fun _ => k_MO_best_0 ⟨hrv, fun _ => CJ.mono (t_cutI w2) (fun _ υ _ hυ => ?_), fun q => absurd c q⟩)
        obtain ⟨v, f, ic, hC⟩ := hυ
        have fw1 : Fr WF τ υ1 := g1.mono (fun k hk => WPa_WF hk)
        have abt : Ab τ υ := Ab.trans (σ := τ) (τ := υ1) ⟨fun k hk => (fw1.1 k (by unfold WF; omega)).1, by rw [(fw1.1 8 (by unfold WF; omega)).2], by rw [(fw1.1 8 (by unfold WF; omega)).2]⟩ (rp_C f).same.ab.1
        have e27 : υ.2.1 8 27 = (nW τ : Int) := by rw [show υ.2.1 8 27 = _ from hC.1, Ab_nW abt]
        rw [e27]
        refine ⟨fun _ => ?_, fun q => absurd q hn0⟩
        refine t_bestM v.1.1 v.1.2.1 hC hW (by rw [Ab_nW abt]; exact hn1) (fun υ4 q1 q2 q3 q4 => ?_)
        rw [Ab_cF abt, Ab_nW abt] at q3
        have e0 : υ4.1 155 0 = υ1.1 82 0 := ((Spc_uniq g2 q3) (nW τ) 0 (by omega)).1.symm
        refine ⟨fun q => absurd q (by omega), fun _ => ⟨rfl, Inv_FrQ (Inv_good.2.1 k υ v) q1⟩⟩
    · refine CJ.go (fun _ => k_MO_best_0 ⟨hrv, fun _ => CJ.mono (t_cutI w) (fun _ υ _ hυ => ?_), fun q => absurd c q⟩)
      obtain ⟨v, f, ic, hC⟩ := hυ
      have ab := (rp_C f).same.ab.1
      have e27 : υ.2.1 8 27 = (nW τ : Int) := by rw [show υ.2.1 8 27 = _ from hC.1, Ab_nW ab]
      rw [e27]
      exact ⟨fun q => absurd hn0 q, fun _ => ⟨rfl, Inv_good.2.1 k υ v⟩⟩
  · exact CJ.go (fun _ => k_MO_best_0 ⟨hrv, fun q => absurd q c, fun _ => ⟨rfl, Inv_good.2.1 k σ h⟩⟩)
