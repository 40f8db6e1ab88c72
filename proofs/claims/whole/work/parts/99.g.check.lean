/-! check, the step -/
theorem Ab_klen {σ τ : St} (h : Ab σ τ) : klen τ = klen σ := by funext u v; unfold klen; rw [Ab_kl h, Ab_ln3 h]
theorem Ab_isF {σ τ : St} (h : Ab σ τ) (af : τ.2.1 8 17 = σ.2.1 8 17) : isF τ = isF σ := by funext u l f; unfold isF; rw [h.1 95 (by omega), h.1 96 (by omega), af, Ab_plc h]
theorem Ab_isS {σ τ : St} (h : Ab σ τ) : isS τ = isS σ := by funext u st l f s; unfold isS; rw [h.1 102 (by omega), Ab_sbA h]
theorem Ab_clo {σ τ : St} (h : Ab σ τ) : clo τ = clo σ := by funext N c k ps; unfold clo; rw [Ab_tw h, Ab_tp h]
theorem Ab_ck {σ τ : St} (h : Ab σ τ) (af : τ.2.1 8 17 = σ.2.1 8 17) : ck τ = ck σ := by
  funext N c E n k u st ps
  induction n generalizing k u st ps with
  | zero => show (clo τ N c k ps, ps) = (clo σ N c k ps, ps); rw [Ab_clo h]
  | succ n ih =>
    unfold ck
    rw [Ab_clo h, Ab_klen h, Ab_isF h af, Ab_isS h, Ab_ln3 h, Ab_sbA h]
    simp only [ih]
theorem Inw_spare {k : Nat} {τ υ : St} (w : Inw k τ) (h : Fr (WLn τ.2.2.2) τ υ) : Inw k υ := by
  obtain ⟨hB, ⟨⟨a1, a2, a3, a4, a5, a6, a7⟩, ⟨b1, b2, b3, b4, b5⟩, c2, c3, c4, c5⟩, hUB, hH, hN, hL, hP⟩ := w
  have hh : υ.2.2 = τ.2.2 := h.2
  have hl : (τ.2.2.1 = 9 ∧ τ.2.2.2 = 28) ∨ (τ.2.2.1 = 28 ∧ τ.2.2.2 = 9) := by
    rcases hB.2.2.2 with q | q
    · left; rw [q]; exact ⟨rfl, rfl⟩
    · right; rw [q]; exact ⟨rfl, rfl⟩
  have A : ∀ k, k < 9 ∨ 46 < k → υ.1 k = τ.1 k := fun k hk => (h.1 k (by unfold WLn; omega)).1
  have O8 : ∀ k, k < 9 ∨ 46 < k → υ.2.1 k = τ.2.1 k := fun k hk => (h.1 k (by unfold WLn; omega)).2
  have f0 : υ.2.1 0 = τ.2.1 0 := O8 0 (by omega)
  have f8 : υ.2.1 8 = τ.2.1 8 := O8 8 (by omega)
  have hs : Same τ υ := ⟨fun k hk => A k (by unfold SK at hk; omega), fun j => by rw [O8 1 (by omega)], fun j => by rw [O8 2 (by omega)], fun j => by rw [O8 3 (by omega)], by rw [f8], by rw [f8], by rw [f8], by rw [f8], by rw [f8], by rw [f8]⟩
  obtain ⟨ab, af⟩ := hs.ab
  refine ⟨Base_keep hB hs hh, ?_, ?_, ?_, ?_, ?_, ?_⟩
  · unfold Fm
    rw [f0, f8]
    exact ⟨⟨a1, a2, a3, a4, a5, a6, a7⟩, ⟨b1, b2, b3, b4, b5⟩, c2, c3, c4, c5⟩
  · exact UB_keep hUB ab (fun k hk => A k (by omega)) (O8 4 (by omega)) (by rw [f0]) (by rw [f0]) (by rw [f8]) (by rw [f8]) (by rw [f8])
  · exact HB_keep hH ab af (by rw [hh]) (fun k k1 k2 => h.1 k (by unfold WLn; omega)) (fun k k1 k2 => A k (by omega)) (fun j j1 j2 => by rw [f8]) (by rw [f0]) (by rw [f0])
  · exact NB_keep hN ab (fun j j1 j2 => by rw [f8]) (by rw [f0]) (by rw [f0]) (by rw [f0]) (by rw [f0])
  · exact LB_keep hL ab (fun k hk => A k (by omega)) (by rw [O8 6 (by omega)]) (by rw [O8 6 (by omega)]) (by rw [f8]) (by rw [f8]) (by rw [f0]) (by rw [f0])
  · exact PB_keep hP (fun k hk => A k (by omega)) (by rw [O8 7 (by omega)]) (by rw [f8]) (by rw [f0]) (by rw [f0])
theorem so_check (G : GT) : SO_check G Inv := by
  intro k σ hk h a b hra hrb
  refine CJ.go (fun _ => k_JS_check_0 (CJ.mono (t_look (Inv_w h)) (fun _ τ hRg hτ => ?_)))
  obtain ⟨w, l, u, hU⟩ := hτ
  obtain ⟨hS, hT, hRC, hH⟩ := id w.1
  have n8 := nU_le hT
  have nw8 := nW_le hT
  have e43 : τ.2.1 4 3 = (nW τ : Int) := hU.2.1
  have hL : isL τ.2.2.2 ∧ τ.2.2.1 ≠ τ.2.2.2 := by
    rcases hH with q | q <;> rw [q] <;> exact ⟨by unfold isL; omega, by omega⟩
  have hL2 : τ.2.2.2 = 9 ∨ τ.2.2.2 = 28 := hL.1
  rw [e43]
  refine ⟨hra, fun _ => hrb, fun c => ?_, fun c => ?_⟩
  · obtain ⟨x, rfl⟩ : ∃ x : Nat, a = x := ⟨a.toNat, by omega⟩
    obtain ⟨y, rfl⟩ : ∃ y : Nat, b = y := ⟨b.toNat, by omega⟩
    have hxy : x ≤ y := by omega
    have hy : y < nW τ := by omega
    obtain ⟨f1, f2, f3, f4, f5, f6, f7, f8, f9⟩ := word_rng hS hT hxy hy
    have E8 := f2.1
    have q66 : τ.1 66 x = (wfu τ x : Int) := (hU.2.2.2.2 x (by omega)).1
    have q67 : τ.1 67 y = (wE τ y : Int) - 1 := by
      rw [show τ.1 67 y = (wtu τ y : Int) from (hU.2.2.2.2 y hy).2]
      have e : wtu τ y = wE τ y - 1 := rfl
      rw [e]
      omega
    rw [Int.toNat_natCast x, Int.toNat_natCast y, q66, q67]
    refine ⟨by omega, by omega, CJ.mono (t_lackMarks hU f2.1 (by omega) (Nat.le_of_lt f1)) (fun r υ _ hυ => ?_)⟩
    rw [hυ.1, hυ.2]
    cases hno : lkR τ (wfu τ x) (wE τ y) with
    | true =>
      rw [if_pos rfl]
      refine ⟨fun q => absurd q (by decide), fun _ => ?_⟩
      refine CJ.go (fun _ => k_MO_check_0 (CJ.go (fun _ => k_MO_areWords_0 (CJ.mono (t_cutI w) (fun _ υ _ hυ => ?_)))))
      obtain ⟨v, f, ic, hC⟩ := hυ
      have ab := (rp_C f).same.ab.1
      have e27 : υ.2.1 8 27 = (nW τ : Int) := by rw [show υ.2.1 8 27 = _ from hC.1, Ab_nW ab]
      rw [e27, if_pos c]
      refine ⟨hra, fun _ => hrb, fun _ => ?_, fun q => absurd q (by decide)⟩
      refine CJ.mono (t_haveForms v.1.1 v.1.2.1 hC rfl rfl hxy (by rw [Ab_nW ab]; exact hy)) (fun r ρ _ hρ => ?_)
      rw [hρ.1, hρ.2, Ab_lkR ab, Ab_wfu ab, Ab_wE ab, hno, if_pos rfl]
      exact ⟨fun q => absurd rfl q, fun _ => ⟨rfl, Inv_good.2.1 k υ v⟩⟩
    | false =>
      rw [if_neg (by decide)]
      obtain ⟨rc1, rc2, rc3, rc4⟩ := hRC
      have rc1' : τ.2.1 3 0 = τ.2.1 8 96 := rc1
      have rc2' : 0 ≤ τ.2.1 3 0 := rc2
      have rc3' : τ.2.1 3 0 ≤ 260 := rc3
      obtain ⟨N, hN⟩ : ∃ N : Nat, τ.2.1 3 0 = N := ⟨(τ.2.1 3 0).toNat, by omega⟩
      have hN2 : N ≤ 260 := by omega
      have rc4' : ∀ i, i < N → τ.1 153 i = τ.1 60 i := fun i hi => (rc4 i (by show (i : Int) < τ.2.1 3 0; omega)).symm
      obtain ⟨R, hR⟩ : ∃ R, ck τ N (τ.1 60) (wE τ y) 80 0 (wfu τ x) 0 [] = R := ⟨_, rfl⟩
      have hRb := ck_b (σ := τ) (N := N) (c := τ.1 60) (E := wE τ y) 80 0 (wfu τ x) 0 []
      rw [hR] at hRb
      refine ⟨fun _ => CJ.mono (t_setBy hS hT hU Fr.refl hL.1 hN hN2 (fun i => hRg.1 60 i) f1 f2 f3 hR) (fun r υ1 _ h1 => ?_), fun q => absurd rfl q⟩
      obtain ⟨p2, hr, p3⟩ := h1
      have hp22 : υ1.2.2 = τ.2.2 := p2.2
      rw [hr]
      by_cases hR6 : R.1 = -6
      · refine ⟨fun _ => ?_, fun q => absurd hR6 q⟩
        obtain ⟨p1, hch, p4, p5⟩ := p3 hR6
        have hFr : Fr WF τ υ1 := p2.mono (fun k hk => WLn_WF hL.1 hk)
        have hll : R.2.length ≤ 80 := by have := Chn_len hch; omega
        refine CJ.mono (t_takeSpare hS hT hU (by rw [hp22]; exact hL.1) (by rw [hp22]; exact hL.2) hFr hch f2.1 hno (by rw [hp22]; exact p1)) (fun _ s _ hs => ?_)
        rw [hp22] at hs
        obtain ⟨z1, z2, z3, z4, z5, z6, z7, z8, z9⟩ := hs
        have wln : ∀ k, ¬ WLn τ.2.2.2 k → υ1.1 k = τ.1 k ∧ υ1.2.1 k = τ.2.1 k := fun k hk => p2.1 k hk
        have w0 : υ1.2.1 0 = τ.2.1 0 := (wln 0 (by unfold WLn; omega)).2
        have sL : s.2.1 τ.2.2.2 = υ1.2.1 τ.2.2.2 := z4 _ (by omega) (by omega)
        have lup := (la_up (show wE τ y - 1 < nU τ by omega)).1
        rw [show wE τ y - 1 + 1 = wE τ y by omega, f6] at lup
        have cp : CP τ s τ.2.2.2 R.2 (wa τ x) (we τ y) := by
          refine ⟨fun k hk => ?_, fun k hk => ?_, fun j hj => ?_, z7, ?_, z2, z1, ?_, ?_, fun q hq => (Chn_G hch q hq).1, hll, z8, z9, f7, f8⟩
          · rw [z3 k (by omega)]; exact (wln k (by unfold WLn; omega)).1
          · rw [z4 k (by omega) (by omega)]; exact (wln k (by unfold WLn; omega)).2
          · rw [z5 j (show j ≠ 11 by omega), w0]
          · rw [z6, w0]
          · rw [sL, p4, f4]
          · rw [sL, p5]
            omega
        obtain ⟨mS, mT, m5, mC⟩ := cp.cs.mid w
        have ab1 := cp.same.ab.1
        refine CJ.go (fun _ => k_MO_check_0 (CJ.go (fun _ => k_MO_areWords_0 (CJ.mono (t_cut mS mT m5 mC) (fun _ υ2 _ hυ2 => ?_)))))
        obtain ⟨g1, g2⟩ := hυ2
        have r2 := rp_C g1
        have ab2 := r2.same.ab.1
        have abt : Ab τ υ2 := ab1.trans ab2
        have aft : υ2.2.1 8 17 = τ.2.1 8 17 := r2.same.ab.2.trans cp.same.ab.2
        have g3 : CTx υ2 υ2 := CTx_ab ab2 g2
        obtain ⟨nS, nT⟩ := r2.same.st mS mT
        have c26 : υ2.2.1 8 26 = 1 := by
          have := g1.2.2.1 26 (by decide) (by decide)
          rw [this]
          exact sf_at
        have hy2 : y < nW υ2 := by rw [Ab_nW abt]; exact hy
        have e27 : υ2.2.1 8 27 = (nW τ : Int) := by rw [show υ2.2.1 8 27 = _ from g3.1, Ab_nW abt]
        rw [e27, if_pos c]
        refine ⟨hra, fun _ => hrb, fun _ => ?_, fun q => absurd q (by decide)⟩
        refine CJ.mono (t_haveForms nS nT g3 rfl rfl hxy hy2) (fun r4 υ4 _ hυ4 => ?_)
        have hno2 : lkR υ2 (wfu υ2 x) (wE υ2 y) = false := by rw [Ab_lkR abt, Ab_wfu abt, Ab_wE abt]; exact hno
        rw [hυ4.1, hυ4.2, hno2, if_neg (by decide)]
        refine ⟨fun _ => ?_, fun q => absurd q (by decide)⟩
        have hNs : υ2.2.1 8 96 = (N : Int) := by rw [r2.2.2.1 96 (by omega), cp.o 8 (by omega), ← rc1']; exact hN
        have h153 : ∀ i, i < N → υ2.1 153 i = τ.1 60 i := fun i hi => by rw [r2.1 153 (by omega), cp.a 153 (by omega)]; exact rc4' i hi
        refine CJ.mono (t_setClaimed (R := R) nS nT g3 hNs hN2 h153 (fun i => hRg.1 60 i) hxy hy2 (by rw [Ab_ck abt aft, Ab_wE abt, Ab_wfu abt]; exact hR)) (fun r8 υ5 _ hυ5 => ?_)
        obtain ⟨fS, hor⟩ := hυ5
        rcases hor with ⟨-, o2, o3, o4, o5, o6⟩ | ⟨o1, -⟩
        · refine ⟨fun _ => ?_, fun q => absurd q (by omega)⟩
          obtain ⟨k1, k2, k3, k4, k5, k6, k7, k8, k9⟩ := word_rng nS nT hxy hy2
          refine CJ.mono (t_layMarks nS nT g3 fS o4 k2.1 hno2 o3 (by rw [o5, k5]) (by rw [o6, k6]; omega)) (fun _ υ6 _ hυ6 => ?_)
          obtain ⟨m1, m2, m3, m4, m5', m6⟩ := hυ6
          have fS2 : FrS υ2 υ6 := fS.trans m3.s
          have q4 : FLx υ2 R.2 (wa υ2 x) (we υ2 y) υ6 := ⟨m3.sm o3, m1, m2, by rw [m3.2.2.1 64 (by omega) (by omega) (by omega)]; exact o5, by rw [m3.2.2.1 65 (by omega) (by omega) (by omega)]; exact o6, m4, m5', m6⟩
          refine CJ.mono (t_toHand nS nT fS2 q4 hll k7 k8) (fun _ ρ _ hρ => ?_)
          obtain ⟨hM, hI, fT⟩ := hρ
          rw [Ab_wa abt, Ab_we abt] at hM
          have o0 : ∀ j, j ≠ 11 → υ2.2.1 0 j = τ.2.1 0 j := fun j hj => by rw [r2.2.1 0 (by omega), z5 j hj, w0]
          have o8 : ∀ j, 91 ≤ j → j ≤ 94 → υ2.2.1 8 j = τ.2.1 8 j := fun j j1 j2 => by
            have := g1.2.2.1 j (show j ≠ 27 by omega) (show j ≠ 35 by omega)
            rw [this, sf_nx (show j ≠ 26 by omega), cp.o 8 (by omega)]
          refine ⟨rfl, fin2 w u hL.1 rfl cp r2 c26 g3 fS2 fT hI hM ?_ ?_ ?_⟩
          · show υ2.2.1 0 12 ≤ υ2.2.1 0 9
            rw [o0 12 (by omega), o0 9 (by omega)]
            exact w.2.1.1.2.2.2.2.1
          · show υ2.2.1 8 91 = (if υ2.2.1 0 12 = υ2.2.1 0 9 then 1 else 0)
            rw [o8 91 (by omega) (by omega), o0 12 (by omega), o0 9 (by omega)]
            exact w.2.1.2.1.2.1
          · exact NB_keep w.2.2.2.2.1 abt (fun j j1 j2 => o8 j (by omega) (by omega)) (o0 9 (by omega)) (o0 12 (by omega)) (o0 15 (by omega)) (o0 16 (by omega))
        · exfalso
          omega
      · have hRb2 : 0 ≤ R.1 ∧ R.1 ≤ 242 := by
          rcases hRb with q | q
          · exact absurd q hR6
          · omega
        refine ⟨fun q => absurd q hR6, fun _ => ⟨⟨by omega, by omega⟩, ?_⟩⟩
        have w2 : Inw k υ1 := Inw_spare w p2
        have A1 : ∀ k, k < 9 ∨ 46 < k → υ1.1 k = τ.1 k := fun k hk => (p2.1 k (by unfold WLn; omega)).1
        have O1 : ∀ k, k < 9 ∨ 46 < k → υ1.2.1 k = τ.2.1 k := fun k hk => (p2.1 k (by unfold WLn; omega)).2
        refine CJ.go (fun _ => k_MO_check_0 (CJ.go (fun _ => k_MO_areWords_0 (CJ.mono (t_cutI w2) (fun _ υ _ hυ => ?_)))))
        obtain ⟨v, f, ic, hC⟩ := hυ
        have r2 := rp_C f
        have abt : Ab τ υ := Ab.trans (σ := τ) (τ := υ1) ⟨fun k hk => A1 k (by omega), by rw [O1 8 (by omega)], by rw [O1 8 (by omega)]⟩ r2.same.ab.1
        have aft : υ.2.1 8 17 = τ.2.1 8 17 := r2.same.ab.2.trans (by rw [O1 8 (by omega)])
        have hy2 : y < nW υ := by rw [Ab_nW abt]; exact hy
        have e27 : υ.2.1 8 27 = (nW τ : Int) := by rw [show υ.2.1 8 27 = _ from hC.1, Ab_nW abt]
        rw [e27, if_pos c]
        refine ⟨hra, fun _ => hrb, fun _ => ?_, fun q => absurd q (by decide)⟩
        refine CJ.mono (t_haveForms v.1.1 v.1.2.1 hC rfl rfl hxy hy2) (fun r4 υ4 _ hυ4 => ?_)
        have hno2 : lkR υ (wfu υ x) (wE υ y) = false := by rw [Ab_lkR abt, Ab_wfu abt, Ab_wE abt]; exact hno
        rw [hυ4.1, hυ4.2, hno2, if_neg (by decide)]
        refine ⟨fun _ => ?_, fun q => absurd q (by decide)⟩
        have hNs : υ.2.1 8 96 = (N : Int) := by rw [r2.2.2.1 96 (by omega), O1 8 (by omega), ← rc1']; exact hN
        have h153 : ∀ i, i < N → υ.1 153 i = τ.1 60 i := fun i hi => by rw [r2.1 153 (by omega), A1 153 (by omega)]; exact rc4' i hi
        refine CJ.mono (t_setClaimed (R := R) v.1.1 v.1.2.1 hC hNs hN2 h153 (fun i => hRg.1 60 i) hxy hy2 (by rw [Ab_ck abt aft, Ab_wE abt, Ab_wfu abt]; exact hR)) (fun r8 ρ _ hρ => ?_)
        obtain ⟨fS, hor⟩ := hρ
        rcases hor with ⟨o1, -⟩ | ⟨-, o2⟩
        · exact absurd o1 hR6
        · rw [o2]
          refine ⟨fun z => absurd z (by omega), fun _ => ⟨⟨by omega, by omega⟩, by omega, Inv_FrS (Inv_good.2.1 k υ v) fS⟩⟩
  · refine CJ.go (fun _ => k_MO_check_0 (CJ.go (fun _ => k_MO_areWords_0 (CJ.mono (t_cutI w) (fun _ υ _ hυ => ?_)))))
    obtain ⟨v, f, ic, hC⟩ := hυ
    have ab := (rp_C f).same.ab.1
    have e27 : υ.2.1 8 27 = (nW τ : Int) := by rw [show υ.2.1 8 27 = _ from hC.1, Ab_nW ab]
    rw [e27, if_neg c]
    exact ⟨hra, fun _ => hrb, fun q => absurd rfl q, fun _ => ⟨rfl, Inv_good.2.1 k υ v⟩⟩
