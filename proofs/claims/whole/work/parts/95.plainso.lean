/-! plain, the step -/
theorem so_plain (G : GT) : SO_plain G Inv := by
  intro k σ hk h a b hra hrb
  refine CJ.go (fun _ => k_JS_plain_0 (CJ.mono (t_look (Inv_w h)) (fun _ τ _ hτ => ?_)))
  obtain ⟨w, l, u, hU⟩ := hτ
  obtain ⟨hS, hT, -, hH⟩ := id w.1
  have n8 := nU_le hT
  have nw8 := nW_le hT
  have e43 : τ.2.1 4 3 = (nW τ : Int) := hU.2.1
  have hL : isL τ.2.2.2 ∧ τ.2.2.1 ≠ τ.2.2.2 := by
    rcases hH with q | q <;> rw [q] <;> exact ⟨by unfold isL; omega, by omega⟩
  have hL2 : τ.2.2.2 = 9 ∨ τ.2.2.2 = 28 := hL.1
  rw [e43]
  refine ⟨hra, fun _ => hrb, fun c => ?_, fun c => ?_⟩
  · obtain ⟨x, rfl⟩ : ∃ x : Nat, a = x := ⟨a.toNat, by omega⟩
    obtain ⟨y, rfl⟩ : ∃ y : Nat, b = y := ⟨b.toNat, by omega⟩
    have hxy : x ≤ y := by omega
    have hy : y < nW τ := by omega
    obtain ⟨f1, f2, f3, f4, f5, f6, f7, f8, f9⟩ := word_rng hS hT hxy hy
    have E8 := f2.1
    have q66 : τ.1 66 x = (wfu τ x : Int) := (hU.2.2.2.2 x (by omega)).1
    have q67 : τ.1 67 y = (wE τ y : Int) - 1 := by
      rw [show τ.1 67 y = (wtu τ y : Int) from (hU.2.2.2.2 y hy).2]
      have e : wtu τ y = wE τ y - 1 := rfl
      rw [e]
      omega
    rw [Int.toNat_natCast x, Int.toNat_natCast y, q66, q67]
    refine ⟨by omega, by omega, CJ.mono (t_plainWidth hS hT hU rfl rfl rfl (fun _ _ => rfl) (by omega) f2.1) (fun r υ _ hυ => ?_)⟩
    rw [hυ.1, hυ.2, q66, q67]
    by_cases hk2 : lkR τ (wfu τ x) (wE τ y) = true ∨ plk τ (wfu τ x) (wE τ y - wfu τ x) = false
    · rw [if_pos hk2]
      refine ⟨fun q => absurd rfl q, fun _ => ?_⟩
      refine CJ.go (fun _ => k_MO_plain_0 (CJ.go (fun _ => k_MO_areWords_0 (CJ.mono (t_cutI w) (fun _ υ _ hυ => ?_)))))
      obtain ⟨v, f, ic, hC⟩ := hυ
      have ab := (rp_C f).same.ab.1
      have e27 : υ.2.1 8 27 = (nW τ : Int) := by rw [show υ.2.1 8 27 = _ from hC.1, Ab_nW ab]
      rw [e27, if_pos c]
      refine ⟨hra, fun _ => hrb, fun _ => ?_, fun q => absurd q (by decide)⟩
      refine CJ.mono (t_setPlainM v.1.1 v.1.2.1 hC hxy (by rw [Ab_nW ab]; exact hy)) (fun r ρ _ hρ => ?_)
      rw [Ab_lkR ab, Ab_wfu ab, Ab_wE ab, Ab_plk ab] at hρ
      rcases hρ.2 with q | q
      · rw [q.2]
        exact ⟨fun q => absurd rfl q, fun _ => ⟨rfl, Inv_FrS (Inv_good.2.1 k υ v) hρ.1⟩⟩
      · exfalso
        rcases hk2 with y1 | y1
        · rw [q.1] at y1; exact absurd y1 (by decide)
        · rw [q.2.1] at y1; exact absurd y1 (by decide)
    · have hno : lkR τ (wfu τ x) (wE τ y) = false := by
        cases q : lkR τ (wfu τ x) (wE τ y) with
        | false => rfl
        | true => exact absurd (Or.inl q) hk2
      have hkk : plk τ (wfu τ x) (wE τ y - wfu τ x) = true := by
        cases q : plk τ (wfu τ x) (wE τ y - wfu τ x) with
        | true => rfl
        | false => exact absurd (Or.inr q) hk2
      rw [if_neg hk2]
      refine ⟨fun _ => ⟨hL.1, ?_⟩, fun q => absurd q (by omega)⟩
      have lup := (la_up (show wE τ y - 1 < nU τ by omega)).1
      rw [show wE τ y - 1 + 1 = wE τ y by omega, f6] at lup
      have hch : Chn τ (wfu τ x) (pls τ (wfu τ x) (wE τ y - wfu τ x)) (wE τ y) := pls_chn hS hT (bnd_bh hS hT f2) E8 (wE τ y - wfu τ x) (wfu τ x) (wfu τ x) (by omega) (Nat.le_refl _) (by omega) f3 (fun x x1 x2 => absurd x1 (by omega)) hkk
      have hll := pls_len (σ := τ) (u := wfu τ x) (c := wE τ y - wfu τ x)
      refine CJ.mono (t_lnPlain hS hT hL.1 hU Fr.refl f1 f2.1 hkk) (fun _ υ1 _ h1 => ?_)
      obtain ⟨p1, p2, p3, p4⟩ := h1
      have hp22 : υ1.2.2 = τ.2.2 := p2.2
      have hFr : Fr WF τ υ1 := ⟨fun k hk => p2.1 k (fun q => hk (WLn_WF hL.1 q)), hp22⟩
      refine CJ.mono (t_takeSpare hS hT hU (by rw [hp22]; exact hL.1) (by rw [hp22]; exact hL.2) hFr hch f2.1 hno (by rw [hp22]; exact p1)) (fun _ s _ hs => ?_)
      rw [hp22] at hs
      obtain ⟨z1, z2, z3, z4, z5, z6, z7, z8, z9⟩ := hs
      have wln : ∀ k, ¬ WLn τ.2.2.2 k → υ1.1 k = τ.1 k ∧ υ1.2.1 k = τ.2.1 k := fun k hk => p2.1 k hk
      have w0 : υ1.2.1 0 = τ.2.1 0 := (wln 0 (by unfold WLn; omega)).2
      have sL : s.2.1 τ.2.2.2 = υ1.2.1 τ.2.2.2 := z4 _ (by omega) (by omega)
      have cp : CP τ s τ.2.2.2 (pls τ (wfu τ x) (wE τ y - wfu τ x)) (wa τ x) (we τ y) := by
        refine ⟨fun k hk => ?_, fun k hk => ?_, fun j hj => ?_, z7, ?_, z2, z1, ?_, ?_, pls_G hS hT (by omega) hkk, by omega, z8, z9, f7, f8⟩
        · rw [z3 k (by omega)]; exact (wln k (by unfold WLn; omega)).1
        · rw [z4 k (by omega) (by omega)]; exact (wln k (by unfold WLn; omega)).2
        · rw [z5 j (show j ≠ 11 by omega), w0]
        · rw [z6, w0]
        · rw [sL]
          have e4 : υ1.2.1 τ.2.2.2 4 = (up τ (wfu τ x) : Int) := p3
          rw [e4, f4]
        · rw [sL]
          have e5 : υ1.2.1 τ.2.2.2 5 = (la τ (wE τ y - 1) : Int) := p4
          rw [e5]
          omega
      have e1 : s.2.2.1 = τ.2.2.2 := by rw [z7]
      rw [e1]
      refine ⟨hL.1, ?_⟩
      have ev : s.2.1 τ.2.2.2 2 = (tw τ (pls τ (wfu τ x) (wE τ y - wfu τ x)) : Int) := cp.j.2.1
      rw [ev]
      obtain ⟨mS, mT, m5, mC⟩ := cp.mid w
      have ab1 := cp.same.ab.1
      refine CJ.go (fun _ => k_MO_plain_0 (CJ.go (fun _ => k_MO_areWords_0 (CJ.mono (t_cut mS mT m5 mC) (fun _ υ2 _ hυ2 => ?_)))))
      obtain ⟨g1, g2⟩ := hυ2
      have r2 := rp_C g1
      have ab2 := r2.same.ab.1
      have g3 : CTx υ2 υ2 := CTx_ab ab2 g2
      obtain ⟨nS, nT⟩ := r2.same.st mS mT
      have c26 : υ2.2.1 8 26 = 1 := by
        have := g1.2.2.1 26 (by decide) (by decide)
        rw [this]
        exact sf_at
      have e27 : υ2.2.1 8 27 = (nW τ : Int) := by rw [show υ2.2.1 8 27 = _ from g3.1, Ab_nW ab2, Ab_nW ab1]
      rw [e27, if_pos c]
      refine ⟨hra, fun _ => hrb, fun _ => ?_, fun q => absurd q (by decide)⟩
      refine CJ.mono (t_setPlainM nS nT g3 hxy (by rw [Ab_nW ab2, Ab_nW ab1]; exact hy)) (fun r υ3 _ hυ3 => ?_)
      rw [Ab_lkR ab2, Ab_wfu ab2, Ab_wE ab2, Ab_plk ab2, Ab_pls ab2, Ab_wa ab2, Ab_we ab2, Ab_lkR ab1, Ab_wfu ab1, Ab_wE ab1, Ab_plk ab1, Ab_pls ab1, Ab_wa ab1, Ab_we ab1] at hυ3
      obtain ⟨fS, hor⟩ := hυ3
      rcases hor with q | q
      · exfalso
        rcases q.1 with y1 | y1
        · rw [hno] at y1; exact absurd y1 (by decide)
        · rw [hkk] at y1; exact absurd y1 (by decide)
      · obtain ⟨-, -, q3, q4⟩ := q
        rw [q3]
        refine ⟨fun _ => ?_, fun q => absurd q (by decide)⟩
        refine CJ.mono (t_toHand nS nT fS q4 (by omega) f7 (by rw [Ab_tn ab2, Ab_tn ab1]; exact f8)) (fun _ ρ _ hρ => ?_)
        obtain ⟨hM, hI, fT⟩ := hρ
        have hM2 := HMx_ab (Ab.symm ab1) (HMx_ab (Ab.symm ab2) hM)
        rw [Ab_MS ab2, Ab_MS ab1] at hM2
        have ew : ρ.2.1 8 77 = (tw τ (pls τ (wfu τ x) (wE τ y - wfu τ x)) : Int) := hM2.2.1
        have rr : RP s ρ := (r2.trans (rp_S fS)).trans (rp_T fT)
        have abT := (rp_T fT).same.ab.1
        have abS := (rp_S fS).same.ab.1
        have hC4 : CTx ρ ρ := CTx_ab abT (CTx_ab abS (CTx_keep (CTx_keep g3 (fun k k1 k2 => fS.1 k (by omega)) (fS.2.2.1 27 (by omega)) (fS.2.2.1 35 (by omega))) (fun k k1 k2 => fT.1 k (by omega)) (fT.2.2.1 27 (by omega)) (fT.2.2.1 35 (by omega))))
        have hc4 : ρ.2.1 8 26 = 1 := by rw [fT.2.2.1 26 (by omega), fS.2.2.1 26 (by omega)]; exact c26
        have o8 : ∀ j, j < 26 ∨ 94 < j ∨ (91 ≤ j ∧ j ≤ 94) → ρ.2.1 8 j = τ.2.1 8 j := fun j hj => by
          rw [fT.2.2.1 j (by omega), fS.2.2.1 j (by omega)]
          have := g1.2.2.1 j (show j ≠ 27 by omega) (show j ≠ 35 by omega)
          rw [this, sf_nx (show j ≠ 26 by omega), cp.o 8 (by omega)]
        have o0 : ∀ j, j ≠ 11 → ρ.2.1 0 j = τ.2.1 0 j := fun j hj => by
          rw [rr.2.1 0 (by omega), z5 j hj, w0]
        have abA : Ab τ ρ := ⟨fun k hk => (abT.1 k hk).trans ((abS.1 k hk).trans ((ab2.1 k hk).trans (ab1.1 k hk))), abT.2.1.trans (abS.2.1.trans (ab2.2.1.trans ab1.2.1)), abT.2.2.trans (abS.2.2.trans (ab2.2.2.trans ab1.2.2))⟩
        refine ⟨by rw [ew], fin_hand w u hL.1 rfl cp rr hc4 hC4 hI hM2 ?_ ?_ ?_⟩
        · show ρ.2.1 0 12 ≤ ρ.2.1 0 9
          rw [o0 12 (by omega), o0 9 (by omega)]
          exact w.2.1.1.2.2.2.2.1
        · show ρ.2.1 8 91 = (if ρ.2.1 0 12 = ρ.2.1 0 9 then 1 else 0)
          rw [o8 91 (by omega), o0 12 (by omega), o0 9 (by omega)]
          exact w.2.1.2.1.2.1
        · exact NB_keep w.2.2.2.2.1 abA (fun j j1 j2 => o8 j (by omega)) (o0 9 (by omega)) (o0 12 (by omega)) (o0 15 (by omega)) (o0 16 (by omega))
  · refine CJ.go (fun _ => k_MO_plain_0 (CJ.go (fun _ => k_MO_areWords_0 (CJ.mono (t_cutI w) (fun _ υ _ hυ => ?_)))))
    obtain ⟨v, f, ic, hC⟩ := hυ
    have ab := (rp_C f).same.ab.1
    have e27 : υ.2.1 8 27 = (nW τ : Int) := by rw [show υ.2.1 8 27 = _ from hC.1, Ab_nW ab]
    rw [e27, if_neg c]
    exact ⟨hra, fun _ => hrb, fun q => absurd rfl q, fun _ => ⟨rfl, Inv_good.2.1 k υ v⟩⟩
