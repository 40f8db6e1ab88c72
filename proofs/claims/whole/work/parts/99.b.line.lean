/-! line, the step -/
/-- what the class's side leaves -/
def Cs (τ s : St) : Prop := (∀ k, (46 < k ∧ k < 74) ∨ (76 < k ∧ k < 376) → s.1 k = τ.1 k) ∧ (∀ k, (1 ≤ k ∧ k ≤ 4) ∨ (6 ≤ k ∧ k ≤ 8) → s.2.1 k = τ.2.1 k) ∧ (∀ j, j = 9 ∨ j = 10 ∨ j = 13 ∨ j = 14 → s.2.1 0 j = τ.2.1 0 j)
theorem CP.cs {τ s : St} {L : Nat} {ps : List Pc} {f t : Nat} (c : CP τ s L ps f t) : Cs τ s := ⟨c.1, c.2.1, c.2.2.1⟩
theorem Cs.same {τ s : St} (c : Cs τ s) : Same τ s := by
  have f8 : s.2.1 8 = τ.2.1 8 := c.2.1 8 (by omega)
  exact ⟨fun k hk => c.1 k (by unfold SK at hk; omega), fun j => by rw [c.2.1 1 (by omega)], fun j => by rw [c.2.1 2 (by omega)], fun j => by rw [c.2.1 3 (by omega)], by rw [f8], by rw [f8], by rw [f8], by rw [f8], by rw [f8], by rw [f8]⟩
theorem Cs.mid {k : Nat} {τ s : St} (c : Cs τ s) (w : Inw k τ) : IS s ∧ IT s ∧ (s.2.1 8 26 = 0 ∨ s.2.1 8 26 = 1) ∧ (s.2.1 8 26 = 1 → CTx s s) := by
  obtain ⟨hS, hT⟩ := c.same.st w.1.1 w.1.2.1
  have f8 : s.2.1 8 = τ.2.1 8 := c.2.1 8 (by omega)
  refine ⟨hS, hT, by rw [f8]; exact w.2.1.2.1.2.2.2.2, fun z => ?_⟩
  rw [f8] at z
  exact CTx_ab c.same.ab.1 (CTx_keep (w.2.2.1.2 z) (fun k k1 k2 => c.1 k (by omega)) (by rw [f8]) (by rw [f8]))
/-- the reference's second half, for a line that comes to hand -/
theorem fin2 {k : Nat} {τ s m υ ρ : St} {L : Nat} {ps : List Pc} {f t : Nat} (w : Inw k τ) (hu : τ.2.1 0 10 = τ.2.1 0 9) (hL : isL L) (hLe : L = τ.2.2.2) (c : CP τ s L ps f t) (r : RP s m) (hc : m.2.1 8 26 = 1) (hC : CTx m m) (fS : FrS m υ) (fT : FrT υ ρ) (hi : ρ.2.1 8 68 = 1) (hM : HMx m ps (MS m ps) f t ρ) (hn : m.2.1 0 12 ≤ m.2.1 0 9) (hni : m.2.1 8 91 = (if m.2.1 0 12 = m.2.1 0 9 then 1 else 0)) (hNB : NB m) : Inv (k + 1) ρ := by
  have ab1 := c.same.ab.1
  have abm := r.same.ab.1
  have abS := (rp_S fS).same.ab.1
  have abT := (rp_T fT).same.ab.1
  have hM2 := HMx_ab (Ab.symm ab1) (HMx_ab (Ab.symm abm) hM)
  rw [Ab_MS abm, Ab_MS ab1] at hM2
  have rr : RP s ρ := (r.trans (rp_S fS)).trans (rp_T fT)
  have hC4 : CTx ρ ρ := CTx_ab abT (CTx_ab abS (CTx_keep (CTx_keep hC (fun k k1 k2 => fS.1 k (by omega)) (fS.2.2.1 27 (by omega)) (fS.2.2.1 35 (by omega))) (fun k k1 k2 => fT.1 k (by omega)) (fT.2.2.1 27 (by omega)) (fT.2.2.1 35 (by omega))))
  have hc4 : ρ.2.1 8 26 = 1 := by rw [fT.2.2.1 26 (by omega), fS.2.2.1 26 (by omega)]; exact hc
  have q8 : ∀ j, 91 ≤ j → j ≤ 94 → ρ.2.1 8 j = m.2.1 8 j := fun j j1 j2 => by rw [fT.2.2.1 j (by omega), fS.2.2.1 j (by omega)]
  have q0 : ρ.2.1 0 = m.2.1 0 := by rw [fT.2.1 0 (by omega), fS.2.1 0 (by omega)]
  have hni2 : m.2.1 8 91 = (if m.2.1 0 12 = m.2.1 0 9 then 1 else 0) := hni
  refine fin_hand w hu hL hLe c rr hc4 hC4 hi hM2 (by rw [q0]; exact hn) ?_ (NB_keep hNB (abS.trans abT) (fun j j1 j2 => q8 j (by omega) (by omega)) (by rw [q0]) (by rw [q0]) (by rw [q0]) (by rw [q0]))
  show ρ.2.1 8 91 = (if ρ.2.1 0 12 = ρ.2.1 0 9 then 1 else 0)
  rw [q0, q8 91 (by omega) (by omega)]
  exact hni2
theorem line_ref {G : GT} {k : Nat} {τ s : St} {P : Int → St → Prop} (w : Inw k τ) (cs : Cs τ s) {x y W : Nat} (hxy : x ≤ y) (hy : y < nW τ) (hW : W ≤ 300) (h12 : s.2.1 0 12 = τ.2.1 0 9) (h15 : s.2.1 0 15 = nxD (pW τ (wE τ y) (wfu τ x)) W) (h16 : s.2.1 0 16 = nxU (pW τ (wE τ y) (wfu τ x)) (300 - W) (W + 1)) (hP : ∀ (m υ : St) (r : Int), RP s m → m.2.1 8 26 = 1 → CTx m m → m.2.1 0 12 ≤ m.2.1 0 9 → m.2.1 8 91 = (if m.2.1 0 12 = m.2.1 0 9 then 1 else 0) → NB m → FrS m υ → ((lkR τ (wfu τ x) (wE τ y) = true ∨ NV ≤ LL τ (wE τ y) (wfu τ x) W 0) ∧ r = 0 ∨ lkR τ (wfu τ x) (wE τ y) = false ∧ LL τ (wE τ y) (wfu τ x) W 0 < NV ∧ r = 1 ∧ FLx m (trc τ (wE τ y) 81 (wfu τ x) W 0) (wa τ x) (we τ y) υ) → (r ≠ 0 → CJ G m_MO_toHand [O 8] υ (fun _ u => P (u.2.1 8 78) u)) ∧ (r = 0 → ∀ s21, s21 = sf υ 8 68 0 → P (-5) s21)) : CJ G m_MO_line [O 8, I x, I y, I W] s P := by
  have nw8 := nW_le w.1.2.1
  obtain ⟨mS, mT, m5, mC⟩ := cs.mid w
  have ab1 := cs.same.ab.1
  refine CJ.go (fun _ => k_MO_line_0 (CJ.go (fun _ => k_MO_areWords_0 (CJ.mono (t_cut mS mT m5 mC) (fun _ υ2 _ hυ2 => ?_)))))
  obtain ⟨g1, g2⟩ := hυ2
  have r2 := rp_C g1
  have ab2 := r2.same.ab.1
  have g3 : CTx υ2 υ2 := CTx_ab ab2 g2
  have c26 : υ2.2.1 8 26 = 1 := by
    have := g1.2.2.1 26 (by decide) (by decide)
    rw [this]
    exact sf_at
  have e27 : υ2.2.1 8 27 = (nW τ : Int) := by rw [show υ2.2.1 8 27 = _ from g3.1, Ab_nW ab2, Ab_nW ab1]
  have e0 : υ2.2.1 0 = s.2.1 0 := r2.2.1 0 (by omega)
  have o9 : s.2.1 0 9 = τ.2.1 0 9 := cs.2.2 9 (by omega)
  rw [e27, if_pos (show 0 ≤ (x : Int) ∧ ((x : Int) ≤ y ∧ (y : Int) < nW τ) by omega)]
  refine ⟨⟨by omega, by omega⟩, fun _ => ⟨by omega, by omega⟩, fun _ => ⟨⟨by omega, by omega⟩, fun _ => ?_, fun z => absurd z (by omega)⟩, fun q => absurd q (by decide)⟩
  intro m1 e1
  refine ⟨⟨by omega, by omega⟩, fun m2 e2 => ⟨⟨by omega, by omega⟩, fun m3 e3 m e4 => ?_⟩⟩
  have em : m = sf (sf (sf (sf υ2 8 91 1) 8 92 x) 8 93 y) 8 94 W := by rw [e4, e3, e2, e1]
  have a8 : m.1 = υ2.1 := by rw [em]; rfl
  have a0 : ∀ k, k ≠ 8 → m.2.1 k = υ2.2.1 k := fun k hk => by rw [em, sf_ne hk, sf_ne hk, sf_ne hk, sf_ne hk]
  have aj : ∀ j, j < 91 ∨ 94 < j → m.2.1 8 j = υ2.2.1 8 j := fun j hj => by rw [em, sf_nx (by omega), sf_nx (by omega), sf_nx (by omega), sf_nx (by omega)]
  have ap : m.2.2 = υ2.2.2 := by rw [em]; rfl
  have b94 : m.2.1 8 94 = W := by rw [em, sf_at]
  have b93 : m.2.1 8 93 = y := by rw [em, sf_nx (by decide), sf_at]
  have b92 : m.2.1 8 92 = x := by rw [em, sf_nx (by decide), sf_nx (by decide), sf_at]
  have b91 : m.2.1 8 91 = 1 := by rw [em, sf_nx (by decide), sf_nx (by decide), sf_nx (by decide), sf_at]
  have rm : RP υ2 m := ⟨fun k _ => by rw [a8], a0, fun j hj => aj j (by omega), ap⟩
  have rs : RP s m := r2.trans rm
  have abm := rm.same.ab.1
  have abt : Ab τ m := ab1.trans (ab2.trans abm)
  have hCm : CTx m m := CTx_ab abm (CTx_keep g3 (fun k _ _ => by rw [a8]) (aj 27 (by omega)) (aj 35 (by omega)))
  have hcm : m.2.1 8 26 = 1 := by rw [aj 26 (by omega)]; exact c26
  have m0 : m.2.1 0 = s.2.1 0 := rs.2.1 0 (by omega)
  have hn12 : m.2.1 0 12 = m.2.1 0 9 := by rw [m0, h12, o9]
  obtain ⟨nS, nT⟩ := rs.same.st mS mT
  refine CJ.mono (t_fill nS nT hCm hxy (by rw [Ab_nW abt]; exact hy) hW) (fun r υ3 _ hυ3 => ?_)
  obtain ⟨fS, hor⟩ := hυ3
  rw [Ab_lkR abt, Ab_wfu abt, Ab_wE abt, Ab_LL abt, Ab_trc abt, Ab_wa abt, Ab_we abt] at hor
  refine hP m υ3 r rs hcm hCm (by show m.2.1 0 12 ≤ m.2.1 0 9; omega) (by show m.2.1 8 91 = (if m.2.1 0 12 = m.2.1 0 9 then 1 else 0); rw [if_pos hn12]; exact b91) (fun _ => ⟨x, y, W, hxy, by rw [Ab_nW abt]; exact hy, hW, b92, b93, b94, ?_, ?_⟩) fS hor
  · rw [m0, h15, Ab_pW abt, Ab_wE abt, Ab_wfu abt]
  · rw [m0, h16, Ab_pW abt, Ab_wE abt, Ab_wfu abt]
theorem so_line (G : GT) : SO_line G Inv := by
  intro k σ hk h a b v hra hrb hrv
  refine CJ.go (fun _ => k_JS_line_0 (CJ.mono (t_look (Inv_w h)) (fun _ τ _ hτ => ?_)))
  obtain ⟨w, l, u, hU⟩ := hτ
  obtain ⟨hS, hT, -, hH⟩ := id w.1
  have n8 := nU_le hT
  have nw8 := nW_le hT
  have e43 : τ.2.1 4 3 = (nW τ : Int) := hU.2.1
  have hL : isL τ.2.2.2 ∧ τ.2.2.1 ≠ τ.2.2.2 := by
    rcases hH with q | q <;> rw [q] <;> exact ⟨by unfold isL; omega, by omega⟩
  have hL2 : τ.2.2.2 = 9 ∨ τ.2.2.2 = 28 := hL.1
  rw [e43]
  refine ⟨hra, fun _ => hrb, fun c => ⟨hrv, fun _ => ⟨by decide, by decide⟩, fun cv => ?_, fun cv => ?_⟩, fun c => ?_⟩
  · obtain ⟨x, rfl⟩ : ∃ x : Nat, a = x := ⟨a.toNat, by omega⟩
    obtain ⟨y, rfl⟩ : ∃ y : Nat, b = y := ⟨b.toNat, by omega⟩
    obtain ⟨W, rfl⟩ : ∃ W : Nat, v = W := ⟨v.toNat, by omega⟩
    have hxy : x ≤ y := by omega
    have hy : y < nW τ := by omega
    have hW : W ≤ 300 := by omega
    obtain ⟨f1, f2, f3, f4, f5, f6, f7, f8, f9⟩ := word_rng hS hT hxy hy
    have E8 := f2.1
    have q66 : τ.1 66 x = (wfu τ x : Int) := (hU.2.2.2.2 x (by omega)).1
    have q67 : τ.1 67 y = (wE τ y : Int) - 1 := by
      rw [show τ.1 67 y = (wtu τ y : Int) from (hU.2.2.2.2 y hy).2]
      have e : wtu τ y = wE τ y - 1 := rfl
      rw [e]
      omega
    have e3F : ((wfu τ x : Int) * 3).toNat = 3 * wfu τ x := by omega
    rw [Int.toNat_natCast x, Int.toNat_natCast y, Int.toNat_natCast W, q66, q67, e3F]
    refine ⟨by omega, by omega, CJ.mono (t_beginBehind (lim := 300) hS hT Fr.refl f2 (Nat.le_refl 300)) (fun _ s1 _ h1 => ?_)⟩
    rw [show s1.1 67 y = (wE τ y : Int) - 1 by rw [(h1.2.1 67 (by unfold WFi; omega)).1]; exact q67]
    refine CJ.mono (t_goBack hS hT hU f2 (Nat.le_refl 300) (Nat.le_of_lt f1) (Nat.le_refl _) h1.1) (fun _ s2 _ h2 s3 e3 => ?_)
    have fr2 : Fr WFi τ s2 := h1.2.trans h2.2
    have fr0 : s2.2.1 0 = τ.2.1 0 := (fr2.1 0 (by unfold WFi; omega)).2
    have R2 := FS_row h2.1 (Nat.le_of_lt f1) f3
    refine CJ.mono (t_nextWidth (by omega) (by rw [e3]; exact R2) hW).1 (fun r4 s4 _ h4 s5 e5 => ?_)
    rw [h4.1, h4.2] at e5
    refine CJ.mono (t_nextWidth (by omega) (by rw [e5, e3]; exact R2) hW).2 (fun r6 s6 _ h6 s7 e7 => ?_)
    rw [h6.1, h6.2] at e7
    have a7 : s7.1 = s2.1 := by rw [e7, e5, e3]; rfl
    have b7 : ∀ k, k ≠ 0 → s7.2.1 k = s2.2.1 k := fun k hk => by rw [e7, sf_ne hk, e5, sf_ne hk, e3, sf_ne hk]
    have c7 : ∀ j, j ≠ 12 → j ≠ 15 → j ≠ 16 → s7.2.1 0 j = τ.2.1 0 j := fun j j1 j2 j3 => by rw [e7, sf_nx j3, e5, sf_nx j2, e3, sf_nx j1, fr0]
    have d12 : s7.2.1 0 12 = τ.2.1 0 9 := by rw [e7, sf_nx (by decide), e5, sf_nx (by decide), e3, sf_at, fr0]
    have d15 : s7.2.1 0 15 = nxD (pW τ (wE τ y) (wfu τ x)) W := by rw [e7, sf_nx (by decide), e5, sf_at]
    have d16 : s7.2.1 0 16 = nxU (pW τ (wE τ y) (wfu τ x)) (300 - W) (W + 1) := by rw [e7, sf_at]
    have p7 : s7.2.2 = τ.2.2 := by rw [e7, e5, e3]; exact fr2.2
    have A7 : ∀ k, (k < 74 ∨ 76 < k) → k < 376 → k ≠ 5 → s7.1 k = τ.1 k := fun k k1 k2 k3 => by rw [a7]; exact (fr2.1 k (by unfold WFi; omega)).1
    have B7 : ∀ k, k ≠ 0 → k ≠ 5 → k < 74 → s7.2.1 k = τ.2.1 k := fun k k1 k2 k3 => by rw [b7 k k1]; exact (fr2.1 k (by unfold WFi; omega)).2
    have FR7 : Fr WF τ s7 := ⟨fun k hk => ⟨A7 k (by unfold WF at hk; omega) (by unfold WF at hk; omega) (by unfold WF at hk; omega), by
      by_cases q : k < 74
      · exact B7 k (by unfold WF at hk; omega) (by unfold WF at hk; omega) q
      · rw [b7 k (by omega)]
        exact (fr2.1 k (by unfold WF at hk; unfold WFi; omega)).2⟩, p7⟩
    have FS7 : FS τ (wE τ y) 300 (wfu τ x) s7 := FS_keep h2.1 FR7 (by rw [b7 5 (by omega)]) (by rw [b7 5 (by omega)]) (by rw [b7 5 (by omega)]) (fun k _ => by rw [a7])
    have v7 : s7.1 (376 + 3 * wfu τ x) W = CL τ (wE τ y) (wfu τ x) 0 W := by rw [a7]; exact R2 W hW
    have v7' : s7.1 (376 + 3 * wfu τ x) W = if lkR τ (wfu τ x) (wE τ y) = true then NV else LL τ (wE τ y) (wfu τ x) W 0 := v7
    have NVe : NV = 536870912 := rfl
    have ep : s6.2.2.2 = τ.2.2.2 := by rw [h6.1, e5, e3]; exact congrArg Prod.snd fr2.2
    rw [ep]
    refine ⟨by omega, by omega, fun z => ?_, fun z s8 e8 => ?_⟩
    · have hno : lkR τ (wfu τ x) (wE τ y) = false := by
        cases q : lkR τ (wfu τ x) (wE τ y) with
        | false => rfl
        | true => rw [v7', q, if_pos rfl] at z; omega
      have ev : s7.1 (376 + 3 * wfu τ x) W = LL τ (wE τ y) (wfu τ x) W 0 := by rw [v7', hno, if_neg (by decide)]
      have hfin : LL τ (wE τ y) (wfu τ x) W 0 < NV := by rw [← ev, NVe]; exact z
      rw [ev]
      refine CJ.mono (t_trace hS hT hU hL.1 FS7 f1 f3 f2 (Nat.le_refl 300) hW hno hfin) (fun _ υ1 _ h9 => ?_)
      obtain ⟨p1, hch, ptw, ptp, hFr, pfr, hp22, p3, p4⟩ := h9
      rw [p7] at hp22
      have hll : (trc τ (wE τ y) 81 (wfu τ x) W 0).length ≤ 80 := by have := Chn_len hch; omega
      refine CJ.mono (t_takeSpare hS hT hU (by rw [hp22]; exact hL.1) (by rw [hp22]; exact hL.2) hFr hch f2.1 hno (by rw [hp22]; exact p1)) (fun _ s _ hs => ?_)
      rw [hp22] at hs
      obtain ⟨z1, z2, z3, z4, z5, z6, z7, z8, z9⟩ := hs
      have w0 : υ1.2.1 0 = s7.2.1 0 := (pfr 0 (by omega) (by unfold WLn; omega)).2
      have sL : s.2.1 τ.2.2.2 = υ1.2.1 τ.2.2.2 := z4 _ (by omega) (by omega)
      have lup := (la_up (show wE τ y - 1 < nU τ by omega)).1
      rw [show wE τ y - 1 + 1 = wE τ y by omega, f6] at lup
      have cp : CP τ s τ.2.2.2 (trc τ (wE τ y) 81 (wfu τ x) W 0) (wa τ x) (we τ y) := by
        refine ⟨fun k hk => ?_, fun k hk => ?_, fun j hj => ?_, z7, ?_, z2, z1, ?_, ?_, fun q hq => (Chn_G hch q hq).1, hll, z8, z9, f7, f8⟩
        · rw [z3 k (by omega), (pfr k (by omega) (by unfold WLn; omega)).1]
          exact A7 k (by omega) (by omega) (by omega)
        · rw [z4 k (by omega) (by omega), (pfr k (by omega) (by unfold WLn; omega)).2]
          exact B7 k (by omega) (by omega) (by omega)
        · rw [z5 j (show j ≠ 11 by omega), w0]
          exact c7 j (by omega) (by omega) (by omega)
        · rw [z6, w0]
          exact c7 9 (by omega) (by omega) (by omega)
        · rw [sL]
          have e4 : υ1.2.1 τ.2.2.2 4 = (up τ (wfu τ x) : Int) := p3
          rw [e4, f4]
        · rw [sL]
          have e5 : υ1.2.1 τ.2.2.2 5 = (la τ (wE τ y - 1) : Int) := p4
          rw [e5]
          omega
      have o0 : ∀ j, j ≠ 11 → s.2.1 0 j = s7.2.1 0 j := fun j hj => by rw [z5 j hj, w0]
      refine line_ref w cp.cs hxy hy hW (by rw [o0 12 (by omega)]; exact d12) (by rw [o0 15 (by omega)]; exact d15) (by rw [o0 16 (by omega)]; exact d16) (fun m υ r rs hcm hCm hn hni hNB fS hor => ?_)
      obtain ⟨mS, mT, -, -⟩ := cp.cs.mid w
      obtain ⟨nS, nT⟩ := rs.same.st mS mT
      have abt : Ab τ m := cp.same.ab.1.trans rs.same.ab.1
      rcases hor with q | ⟨-, -, q3, q4⟩
      · exfalso
        rcases q.1 with y1 | y1
        · rw [hno] at y1; exact absurd y1 (by decide)
        · omega
      · rw [q3]
        refine ⟨fun _ => ?_, fun q => absurd q (by decide)⟩
        refine CJ.mono (t_toHand nS nT fS q4 hll f7 (by rw [Ab_tn abt]; exact f8)) (fun _ ρ _ hρ => ?_)
        obtain ⟨hM, hI, fT⟩ := hρ
        have ew : ρ.2.1 8 78 = (tp m (trc τ (wE τ y) 81 (wfu τ x) W 0) : Int) := hM.2.2.1
        refine ⟨by rw [ew, Ab_tp abt, ptp], fin2 w u hL.1 rfl cp rs hcm hCm fS fT hI hM hn hni hNB⟩
    · have cs : Cs τ s8 := ⟨fun k hk => by rw [e8]; exact A7 k (by omega) (by omega) (by omega), fun k hk => by rw [e8, sf_ne (by omega)]; exact B7 k (by omega) (by omega) (by omega), fun j hj => by rw [e8, sf_nx (by omega)]; exact c7 j (by omega) (by omega) (by omega)⟩
      have o0 : ∀ j, j ≠ 11 → s8.2.1 0 j = s7.2.1 0 j := fun j hj => by rw [e8, sf_nx hj]
      refine line_ref w cs hxy hy hW (by rw [o0 12 (by omega)]; exact d12) (by rw [o0 15 (by omega)]; exact d15) (by rw [o0 16 (by omega)]; exact d16) (fun m υ r rs hcm hCm hn hni hNB fS hor => ?_)
      rcases hor with q | ⟨q1, q2, -, -⟩
      · rw [q.2]
        refine ⟨fun q => absurd rfl q, fun _ ρ e9 => ⟨rfl, ?_⟩⟩
        have abS := (rp_S fS).same.ab.1
        have r9 : ρ.1 = υ.1 := by rw [e9]; rfl
        have r90 : ρ.2.1 0 = m.2.1 0 := by rw [e9, sf_ne (by omega)]; exact fS.2.1 0 (by omega)
        have r98 : ∀ j, j < 44 ∨ (68 < j) → ρ.2.1 8 j = m.2.1 8 j := fun j hj => by rw [e9, sf_nx (by omega)]; exact fS.2.2.1 j (by omega)
        have abρ : Ab m ρ := abS.trans ⟨fun k _ => by rw [r9], by rw [e9]; exact sf_nx (by decide), by rw [e9]; exact sf_nx (by decide)⟩
        have m0 : m.2.1 0 = s8.2.1 0 := rs.2.1 0 (by omega)
        have hni2 : m.2.1 8 91 = (if m.2.1 0 12 = m.2.1 0 9 then 1 else 0) := hni
        refine Inv_nohand w u (fun k hk => ?_) (fun k hk => ?_) (fun j hj => ?_) (fun j hj => ?_) ?_ ?_ ?_ ?_ ?_ (by rw [r90]; exact hn) ?_ ?_
        · unfold HT at hk
          rw [r9, fS.1 k (by omega), rs.1 k (by omega)]
          exact cs.1 k (by omega)
        · rw [e9, sf_ne (by omega), fS.2.1 k (by omega), rs.2.1 k (by omega)]
          exact cs.2.1 k (by omega)
        · rw [r98 j (by omega), rs.2.2.1 j hj]
          rw [cs.2.1 8 (by omega)]
        · rw [r90, m0]
          exact cs.2.2 j hj
        · rw [e9]
          show υ.2.2 = _
          rw [fS.2.2.2, rs.2.2.2, e8]
          exact p7
        · show ρ.2.1 8 26 = 1
          rw [r98 26 (by omega)]
          exact hcm
        · refine CTx_ab abρ (CTx_keep hCm (fun k k1 k2 => ?_) (r98 27 (by omega)) (r98 35 (by omega)))
          rw [r9]
          exact fS.1 k (by omega)
        · show ρ.2.1 0 11 = -6
          rw [r90, m0, e8, sf_at]
        · show ρ.2.1 8 68 = 0
          rw [e9, sf_at]
        · show ρ.2.1 8 91 = (if ρ.2.1 0 12 = ρ.2.1 0 9 then 1 else 0)
          rw [r90, r98 91 (by omega)]
          exact hni2
        · exact NB_keep hNB abρ (fun j j1 j2 => r98 j (by omega)) (by rw [r90]) (by rw [r90]) (by rw [r90]) (by rw [r90])
      · exfalso
        rw [v7', q1, if_neg (by decide)] at z
        omega
  · refine CJ.go (fun _ => k_MO_line_0 (CJ.go (fun _ => k_MO_areWords_0 (CJ.mono (t_cutI w) (fun _ υ _ hυ => ?_)))))
    obtain ⟨v', f, ic, hC⟩ := hυ
    have ab := (rp_C f).same.ab.1
    have e27 : υ.2.1 8 27 = (nW τ : Int) := by rw [show υ.2.1 8 27 = _ from hC.1, Ab_nW ab]
    rw [e27, if_pos c]
    exact ⟨hra, fun _ => hrb, fun _ => ⟨hrv, fun q => absurd q cv, fun _ => ⟨rfl, Inv_good.2.1 k υ v'⟩⟩, fun q => absurd q (by decide)⟩
  · refine CJ.go (fun _ => k_MO_line_0 (CJ.go (fun _ => k_MO_areWords_0 (CJ.mono (t_cutI w) (fun _ υ _ hυ => ?_)))))
    obtain ⟨v', f, ic, hC⟩ := hυ
    have ab := (rp_C f).same.ab.1
    have e27 : υ.2.1 8 27 = (nW τ : Int) := by rw [show υ.2.1 8 27 = _ from hC.1, Ab_nW ab]
    rw [e27, if_neg c]
    exact ⟨hra, fun _ => hrb, fun q => absurd rfl q, fun _ => ⟨rfl, Inv_good.2.1 k υ v'⟩⟩
