/-! best: the class's search -/
def WPa (k : Nat) : Prop := k = 5 ∨ (74 ≤ k ∧ k ≤ 76) ∨ k = 82 ∨ k = 83 ∨ 376 ≤ k
theorem WPa_WF {k : Nat} (h : WPa k) : WF k := by unfold WPa at h; unfold WF; omega
theorem WFi_WPa {k : Nat} (h : WFi k) : WPa k := by unfold WFi at h; unfold WPa; omega
theorem wfu_val {σ τ : St} (hU : UNx σ τ) {x : Nat} (hx : x < nW σ) : τ.1 66 x = (wfu σ x : Int) := (hU.2.2.2.2 x hx).1
theorem wE_val {σ τ : St} (hS : IS σ) (hT : IT σ) (hU : UNx σ τ) {y : Nat} (hy : y < nW σ) : τ.1 67 y = (wE σ y : Int) - 1 := by
  obtain ⟨f1, -⟩ := word_rng hS hT (Nat.le_refl y) hy
  rw [show τ.1 67 y = (wtu σ y : Int) from (hU.2.2.2.2 y hy).2]
  have e : wtu σ y = wE σ y - 1 := rfl
  rw [e]
  omega
def OLp (σ : St) (W y : Nat) (τ υ : St) : Prop := (∀ i, i ≤ y → (cF σ W i y + τ.1 82 (y + 1) < τ.1 82 i → υ.1 82 i = cF σ W i y + τ.1 82 (y + 1) ∧ υ.1 83 i = y) ∧ (¬ cF σ W i y + τ.1 82 (y + 1) < τ.1 82 i → υ.1 82 i = τ.1 82 i ∧ υ.1 83 i = τ.1 83 i)) ∧ (∀ i, y < i → υ.1 82 i = τ.1 82 i ∧ υ.1 83 i = τ.1 83 i)
theorem t_offerLines {G : GT} {σ τ : St} (hS : IS σ) (hT : IT σ) (hU : UNx σ σ) (hF : Fr WF σ τ) {y W : Nat} (hy : y < nW σ) (hW : W ≤ 300) (hb : ∀ i, i ≤ nW σ → 0 ≤ τ.1 82 i ∧ τ.1 82 i ≤ NV) : CJ G m_PA_offerLinesTo [O 6, I y, I W] τ (fun _ υ => Fr WPa τ υ ∧ OLp σ W y τ υ) := by
  have n8 := nU_le hT
  have nw8 := nW_le hT
  have NVe : NV = 536870912 := rfl
  obtain ⟨f1, f2, f3, f4, f5, f6, f7, f8, f9⟩ := word_rng hS hT (Nat.le_refl y) hy
  have E8 := f2.1
  have hUτ := WF_U hU hF
  have hby := hb (y + 1) (by omega)
  refine CJ.go (fun _ => k_PA_offerLinesTo_0 ?_)
  rw [Int.toNat_natCast y, wE_val hS hT hUτ hy]
  refine ⟨by omega, CJ.mono (t_beginBehind hS hT hF f2 hW) (fun _ s1 _ h1 => ?_)⟩
  have loop : ∀ (d : Nat) (υ : St), d ≤ y + 1 → FS σ (wE σ y) W (if d = y + 1 then wE σ y else wfu σ d) υ → Fr WPa τ υ → (∀ i, d ≤ i → i ≤ y → (cF σ W i y + τ.1 82 (y + 1) < τ.1 82 i → υ.1 82 i = cF σ W i y + τ.1 82 (y + 1) ∧ υ.1 83 i = y) ∧ (¬ cF σ W i y + τ.1 82 (y + 1) < τ.1 82 i → υ.1 82 i = τ.1 82 i ∧ υ.1 83 i = τ.1 83 i)) → (∀ i, i < d ∨ y < i → υ.1 82 i = τ.1 82 i ∧ υ.1 83 i = τ.1 83 i) → a_PA_offerLinesTo_22 G y W ((wE σ y : Int) - 1) ((d : Int) - 1) υ (fun _ υ => Fr WPa τ υ ∧ OLp σ W y τ υ) := by
    intro d
    induction d with
    | zero =>
      intro υ _ _ hFr hin hout
      exact k_PA_offerLinesTo_22 ⟨⟨by omega, by omega⟩, fun _ => ⟨hFr, fun i hi => hin i (by omega) hi, fun i hi => hout i (Or.inr hi)⟩, fun z => absurd z (by omega)⟩
    | succ w ih =>
      intro υ hd hFS hFr hin hout
      have hFW : Fr WF σ υ := hF.trans (hFr.mono (fun k hk => WPa_WF hk))
      have hU' := WF_U hU hFW
      obtain ⟨g1, g2, g3, g4, g5, g6, g7, g8, g9⟩ := word_rng hS hT (show w ≤ y by omega) hy
      have e82y := (hout (y + 1) (Or.inr (by omega))).1
      have e82w := hout w (Or.inl (by omega))
      have hbw := hb w (by omega)
      have cb := cF_b hS hT (W := W) (show w ≤ y by omega) hy
      rw [show (((w + 1 : Nat) : Int) - 1) = (w : Int) by omega]
      refine k_PA_offerLinesTo_22 ?_
      have e3 : ((wfu σ w : Int) * 3).toNat = 3 * wfu σ w := by omega
      have ei : ((w : Int) + 1).toNat = w + 1 := by omega
      have ey : ((y : Int) + 1).toNat = y + 1 := by omega
      rw [Int.toNat_natCast w, ei, wfu_val hU' (show w < nW σ by omega), e3, Int.toNat_natCast W, ey]
      obtain ⟨B, hB⟩ : ∃ B, B = (if w + 1 = y + 1 then wE σ y else wfu σ (w + 1)) := ⟨_, rfl⟩
      have hBa : (if (w : Int) ≠ (y : Int) then υ.1 66 (w + 1) - 1 else (wE σ y : Int) - 1) = (B : Int) - 1 ∧ wfu σ w ≤ B ∧ B ≤ wE σ y := by
        by_cases q : w = y
        · rw [if_neg (show ¬ (w : Int) ≠ (y : Int) by omega), hB, if_pos (by omega)]
          exact ⟨rfl, by omega, Nat.le_refl _⟩
        · rw [if_pos (show (w : Int) ≠ (y : Int) by omega), hB, if_neg (by omega), wfu_val hU' (show w + 1 < nW σ by omega)]
          refine ⟨rfl, Nat.le_of_lt (wfu_lt (by omega) (by omega)), ?_⟩
          obtain ⟨k1, -⟩ := word_rng hS hT (show w + 1 ≤ y by omega) hy
          omega
      rw [← hB] at hFS
      rw [hBa.1]
      refine ⟨⟨by omega, by omega⟩, fun z => absurd z (by omega), fun _ => ⟨by omega, ⟨by omega, by omega⟩, fun _ => by omega, CJ.mono (t_goBack hS hT hU f2 hW hBa.2.1 hBa.2.2 hFS) (fun _ s2 _ h2 => ?_)⟩⟩
      obtain ⟨hFS2, hFi⟩ := h2
      have hF2 : Fr WPa τ s2 := hFr.trans (hFi.mono (fun k hk => WFi_WPa hk))
      have hFW2 : Fr WF σ s2 := hF.trans (hF2.mono (fun k hk => WPa_WF hk))
      have a82 : s2.1 82 = υ.1 82 := (hFi.1 82 (by unfold WFi; omega)).1
      have a83 : s2.1 83 = υ.1 83 := (hFi.1 83 (by unfold WFi; omega)).1
      refine ⟨by omega, fun hcan => ?_, fun hcan => ?_⟩
      · refine CJ.mono (t_isPlain hS hT hU hFW2 (show w ≤ y by omega) hy hW) (fun r s3 _ h3 => ?_)
        rw [h3.1, h3.2]
        have hval : (if (if pln σ W w y = true then (1 : Int) else 0) = 0 then s2.1 (376 + 3 * wfu σ w) W else (0 : Int)) = cF σ W w y := by
          have hrow := FS_row hFS2 (Nat.le_of_lt g1) g3 W (Nat.le_refl _)
          rw [hrow]
          unfold cF
          cases q : pln σ W w y with
          | true => rfl
          | false => rfl
        rw [hval, a82, e82y, e82w.1]
        refine ⟨fun _ => by omega, by omega, by omega, ⟨by omega, by omega⟩, fun z => ?_, fun z s4 e4 s5 e5 => ?_⟩
        · rw [show (w : Int) + (-1) = (w : Int) - 1 by omega]
          refine ih s2 (by omega) (by rw [if_neg (by omega)]; exact hFS2) hF2 (fun i i1 i2 => ?_) (fun i hi => ?_)
          · rw [a82, a83]
            by_cases q : i = w
            · rw [q]
              exact ⟨fun q2 => absurd q2 (by omega), fun _ => e82w⟩
            · exact hin i (by omega) i2
          · rw [a82, a83]
            exact hout i (by omega)
        · rw [show (w : Int) + (-1) = (w : Int) - 1 by omega]
          have e5' : s5 = sa (sa s2 82 w (cF σ W w y + τ.1 82 (y + 1))) 83 w y := by rw [e5, e4]
          have b2 : s5.2 = s2.2 := by rw [e5']; rfl
          have b1 : ∀ k, k ≠ 82 → k ≠ 83 → s5.1 k = s2.1 k := fun k k1 k2 => by rw [e5', sa_ne k2, sa_ne k1]
          have hF5 : Fr WPa τ s5 := hF2.trans ⟨fun k hk => ⟨b1 k (by unfold WPa at hk; omega) (by unfold WPa at hk; omega), by rw [b2]⟩, by rw [b2]⟩
          have c82 : ∀ i, i ≠ w → s5.1 82 i = s2.1 82 i := fun i hi => by rw [e5', sa_ne (by decide), sa_nx hi]
          have c83 : ∀ i, i ≠ w → s5.1 83 i = s2.1 83 i := fun i hi => by rw [e5', sa_nx hi, sa_ne (by decide)]
          refine ih s5 (by omega) ?_ hF5 (fun i i1 i2 => ?_) (fun i hi => ?_)
          · rw [if_neg (by omega)]
            exact FS_keep hFS2 (hF.trans (hF5.mono (fun k hk => WPa_WF hk))) (by rw [b2]) (by rw [b2]) (by rw [b2]) (fun k hk => b1 k (by omega) (by omega))
          · by_cases q : i = w
            · rw [q]
              refine ⟨fun _ => ⟨?_, ?_⟩, fun q2 => absurd z q2⟩
              · rw [e5', sa_ne (by decide), sa_at]
              · rw [e5', sa_at]
            · rw [c82 i q, c83 i q, a82, a83]
              exact hin i (by omega) i2
          · rw [c82 i (by omega), c83 i (by omega), a82, a83]
            exact hout i (by omega)
      · have hdead : ∀ v, v ≤ W → CL σ (wE σ y) (wfu σ w) 0 v = NV := fun v hv => by
          have hSC : 0 < SCn σ (wE σ y) (wfu σ w) := by
            unfold SCn
            split
            · omega
            · split
              · omega
              · split <;> omega
          obtain ⟨-, -, -, p4⟩ := hFS2.2.2.2.2 (wfu σ w) (Nat.le_refl _) (Nat.le_of_lt g1) g3 0 hSC
          refine p4 v hv (Or.inr ?_)
          have : s2.1 76 (3 * wfu σ w + 0) = s2.1 76 (3 * wfu σ w) := rfl
          omega
        have dead := cF_dead hS hT (show w ≤ y by omega) hy hdead
        refine ⟨hF2, fun i hi => ?_, fun i hi => ?_⟩
        · rw [a82, a83]
          by_cases q : w < i
          · exact hin i (by omega) hi
          · have hbi := hb i (by omega)
            rw [dead i (by omega)]
            exact ⟨fun q2 => absurd q2 (by omega), fun _ => hout i (Or.inl (by omega))⟩
        · rw [a82, a83]
          exact hout i (Or.inr hi)
  have e82 : s1.1 82 = τ.1 82 := (h1.2.1 82 (by unfold WFi; omega)).1
  have e83 : s1.1 83 = τ.1 83 := (h1.2.1 83 (by unfold WFi; omega)).1
  have := loop (y + 1) s1 (Nat.le_refl _) (by rw [if_pos rfl]; exact h1.1) (h1.2.mono (fun k hk => WFi_WPa hk)) (fun i i1 i2 => absurd i1 (by omega)) (fun i _ => by rw [e82, e83]; exact ⟨rfl, rfl⟩)
  rw [show (((y + 1 : Nat) : Int) - 1) = (y : Int) by omega] at this
  exact this
/-- sums are small -/
def Sml (n : Nat) (B : Nat → Int) : Prop := ∀ i, i ≤ n → 0 ≤ B i ∧ B i ≤ NV ∧ (B i < NV → B i ≤ 656000 * ((n : Int) - i))
theorem Sml_sum {σ : St} (hS : IS σ) (hT : IT σ) {W n : Nat} {B : Nat → Int} (hn : n = nW σ) (h : Sml n B) {i j : Nat} (hij : i ≤ j) (hj : j < n) (hf : Ft (cF σ W) B i j) : cF σ W i j + B (j + 1) < NV ∧ cF σ W i j + B (j + 1) ≤ 656000 * ((n : Int) - i) ∧ 0 ≤ cF σ W i j + B (j + 1) := by
  have nw8 := nW_le hT
  have a := cF_b hS hT (W := W) hij (by omega)
  have b := h (j + 1) (by omega)
  have c1 := a.2.2 hf.1
  have c2 := b.2.2 hf.2
  have NVe : NV = 536870912 := rfl
  omega
theorem t_search {G : GT} {σ τ : St} (hS : IS σ) (hT : IT σ) (hU : UNx σ σ) (hF : Fr WF σ τ) {W : Nat} (hW : W ≤ 300) : CJ G m_PA_search [O 6, I W] τ (fun r υ => Fr WPa τ υ ∧ Spc (cF σ W) (nW σ) (υ.1 82) (υ.1 83) ∧ Sml (nW σ) (υ.1 82) ∧ r = if υ.1 82 0 < NV then 1 else 0) := by
  have nw8 := nW_le hT
  have NVe : NV = 536870912 := rfl
  obtain ⟨n, hn⟩ : ∃ n, n = nW σ := ⟨_, rfl⟩
  rw [← hn]
  have e43 : ∀ υ, Fr WPa τ υ → υ.2.1 4 3 = (n : Int) := fun υ h => by
    have := WF_U hU (hF.trans (h.mono (fun k hk => WPa_WF hk)))
    rw [hn]
    exact this.2.1
  refine CJ.go (fun _ => k_PA_search_0 ?_)
  have phase2 : ∀ (d : Nat) (υ : St), d ≤ n → Fr WPa τ υ → υ.1 82 n = 0 → (∀ i, i < n → Prt (cF σ W) (υ.1 82) i (max i d) n (υ.1 82 i) (υ.1 83 i)) → Sml n (υ.1 82) → a_PA_search_50 G W ((d : Int) - 1) υ (fun r υ => Fr WPa τ υ ∧ Spc (cF σ W) n (υ.1 82) (υ.1 83) ∧ Sml n (υ.1 82) ∧ r = if υ.1 82 0 < NV then 1 else 0) := by
    intro d
    induction d with
    | zero =>
      intro υ _ h1 h2 h3 h4
      refine k_PA_search_50 ⟨⟨by omega, by omega⟩, fun _ => ⟨h1, ⟨h2, fun i hi => ?_⟩, h4, rfl⟩, fun z => absurd z (by omega)⟩
      have := h3 i hi
      rw [show max i 0 = i by omega] at this
      exact this
    | succ m ih =>
      intro υ hd h1 h2 h3 h4
      rw [show (((m + 1 : Nat) : Int) - 1) = (m : Int) by omega]
      have em : ((m : Int) + 1).toNat = m + 1 := by omega
      refine k_PA_search_50 ?_
      rw [em, show (m : Int) + (-1) = (m : Int) - 1 by omega]
      refine ⟨⟨by omega, by omega⟩, fun z => absurd z (by omega), fun _ => ⟨by omega, fun z => ?_, fun z => ?_⟩⟩
      · refine ih υ (by omega) h1 h2 (fun i hi => ?_) h4
        have a := h3 i hi
        by_cases q : i ≤ m
        · rw [show max i (m + 1) = m + 1 by omega] at a
          rw [show max i m = m by omega]
          have nf : ¬ Ft (cF σ W) (υ.1 82) i m := fun y => by have := y.2; omega
          exact Prt_down a (by omega) (fun y => absurd y nf) (fun y => absurd y nf) (fun _ => ⟨rfl, rfl⟩)
        · rw [show max i (m + 1) = i by omega] at a
          rw [show max i m = i by omega]
          exact a
      · refine CJ.mono (t_offerLines hS hT hU (hF.trans (h1.mono (fun k hk => WPa_WF hk))) (show m < nW σ by omega) hW (fun i hi => ⟨(h4 i (by omega)).1, (h4 i (by omega)).2.1⟩)) (fun _ υ2 _ hυ2 => ?_)
        obtain ⟨g1, g2, g3⟩ := hυ2
        have sm : ∀ i, i ≤ m → Ft (cF σ W) (υ.1 82) i m → cF σ W i m + υ.1 82 (m + 1) < NV ∧ cF σ W i m + υ.1 82 (m + 1) ≤ 656000 * ((n : Int) - i) ∧ 0 ≤ cF σ W i m + υ.1 82 (m + 1) := fun i hi hf => Sml_sum hS hT hn h4 hi (by omega) hf
        have ftl : ∀ i, i ≤ m → cF σ W i m + υ.1 82 (m + 1) < υ.1 82 i → Ft (cF σ W) (υ.1 82) i m := fun i hi y => by
          have b1 := h4 i (by omega)
          have b2 := h4 (m + 1) (by omega)
          exact ⟨by omega, by omega⟩
        refine ih υ2 (by omega) (h1.trans g1) ?_ (fun i hi => ?_) (fun i hi => ?_)
        · rw [(g3 n (by omega)).1]; exact h2
        · have a := h3 i hi
          by_cases q : i ≤ m
          · rw [show max i (m + 1) = m + 1 by omega] at a
            rw [show max i m = m by omega]
            have a2 := Prt_congr (B' := υ2.1 82) a (fun j j1 j2 => (g3 (j + 1) (by omega)).1)
            have eB : υ2.1 82 (m + 1) = υ.1 82 (m + 1) := (g3 (m + 1) (by omega)).1
            have fti : Ft (cF σ W) (υ2.1 82) i m ↔ Ft (cF σ W) (υ.1 82) i m := by unfold Ft; rw [eB]
            refine Prt_down a2 (by omega) (fun y => ?_) (fun y1 y2 => ?_) (fun y => ?_)
            · rw [eB]; exact (sm i q (fti.mp y)).1
            · rw [eB] at y2 ⊢
              exact (g2 i q).1 y2
            · refine (g2 i q).2 (fun y2 => y ⟨fti.mpr (ftl i q y2), by rw [eB]; exact y2⟩)
          · rw [show max i (m + 1) = i by omega] at a
            rw [show max i m = i by omega, (g3 i (by omega)).1, (g3 i (by omega)).2]
            exact Prt_congr a (fun j j1 j2 => (g3 (j + 1) (by omega)).1)
        · by_cases q : i ≤ m
          · by_cases y : cF σ W i m + υ.1 82 (m + 1) < υ.1 82 i
            · rw [((g2 i q).1 y).1]
              obtain ⟨s1, s2, s3⟩ := sm i q (ftl i q y)
              exact ⟨s3, by omega, fun _ => s2⟩
            · rw [((g2 i q).2 y).1]
              exact h4 i hi
          · rw [(g3 i (by omega)).1]
            exact h4 i hi
  have phase1 : ∀ (d i : Nat) (υ : St), i + d = n → Fr WPa τ υ → (∀ j, j < i → υ.1 82 j = NV) → a_PA_search_2 G W i υ (fun r υ => Fr WPa τ υ ∧ Spc (cF σ W) n (υ.1 82) (υ.1 83) ∧ Sml n (υ.1 82) ∧ r = if υ.1 82 0 < NV then 1 else 0) := by
    intro d
    induction d with
    | zero =>
      intro i υ hi h1 h2
      refine k_PA_search_2 ?_
      rw [e43 υ h1, Int.toNat_natCast n]
      refine ⟨⟨by omega, by omega⟩, fun _ => ⟨by omega, fun s5 e5 => ?_⟩, fun z => absurd z (by omega)⟩
      have v82 : ∀ j, j < n → s5.1 82 j = NV := fun j hj => by rw [e5, sa_nx (by omega)]; exact h2 j (by omega)
      have vn : s5.1 82 n = 0 := by rw [e5, sa_at]
      refine phase2 n s5 (Nat.le_refl _) (by rw [e5]; exact h1.sa (by unfold WPa; omega)) vn (fun i hi => ?_) (fun i hi => ?_)
      · left
        exact ⟨v82 i hi, fun j j1 j2 => absurd j1 (by omega)⟩
      · by_cases q : i = n
        · rw [q, vn]; omega
        · rw [v82 i (by omega)]; omega
    | succ d ih =>
      intro i υ hi h1 h2
      refine k_PA_search_2 ?_
      rw [e43 υ h1, Int.toNat_natCast i]
      refine ⟨⟨by omega, by omega⟩, fun z => absurd z (by omega), fun _ => ⟨by omega, fun s9 e9 => ?_⟩⟩
      rw [show (i : Int) + 1 = ((i + 1 : Nat) : Int) by omega]
      refine ih (i + 1) s9 (by omega) (by rw [e9]; exact h1.sa (by unfold WPa; omega)) (fun j hj => ?_)
      by_cases q : j = i
      · rw [q, e9, sa_at]; rfl
      · rw [e9, sa_nx q]; exact h2 j (by omega)
  exact phase1 n 0 τ (by omega) Fr.refl (fun j hj => absurd hj (by omega))
