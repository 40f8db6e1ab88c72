/-! calls that change the script: letter, stretch, point, bar -/
theorem chg_o {σ : St} {k : Nat} (h : k ≠ 8) : (chg σ).2.1 k = σ.2.1 k := by
  unfold chg
  rw [sf_ne h, sf_ne h, sf_ne h, sf_ne h, sf_ne h]
theorem chg_3 {σ : St} : (chg σ).2.2 = σ.2.2 := rfl
theorem chg_f {σ : St} : (chg σ).2.1 8 68 = 0 ∧ (chg σ).2.1 8 91 = 0 ∧ (chg σ).2.1 8 100 = 0 ∧ (chg σ).2.1 8 109 = 0 ∧ (chg σ).2.1 8 26 = 0 := by
  refine ⟨?_, ?_, ?_, ?_, ?_⟩ <;> simp [chg, sf_2]
theorem close_chg {Inv : Nat → St → Prop} {k : Nat} {σ υ : St} (hI : GoodI Inv) (hF : Fl k σ) (h9 : υ.2.1 0 9 = σ.2.1 0 9 + 1) (ho : ∀ j, 10 ≤ j → j ≤ 14 → υ.2.1 0 j = σ.2.1 0 j) (hB : Base (chg υ)) : Inv (k + 1) (chg υ) := by
  obtain ⟨f1, f2, f3, f4, f5⟩ := @chg_f υ
  refine hI.2.2 _ _ hB (Cl.step hF ?_ (fun j a b => ?_) f1 f2 f3 f4 f5)
  · rw [chg_o (by decide)]; exact h9
  · rw [chg_o (by decide)]; exact ho j a b
theorem LOk_keep {σ τ : St} (a89 : τ.1 89 = σ.1 89) (e1 : τ.2.1 8 6 = σ.2.1 8 6) (l : Int) (h : LOk σ l) : LOk τ l := by
  unfold LOk at h ⊢
  rw [a89, e1]
  exact h
theorem IS_lig {σ τ : St} (h : IS σ) (hA : ∀ k, k = 48 ∨ k = 49 ∨ k = 51 ∨ k = 53 ∨ (89 ≤ k ∧ k ≤ 93) ∨ (168 ≤ k ∧ k < 176) → τ.1 k = σ.1 k) (e1 : τ.2.1 8 6 = σ.2.1 8 6) (e2 : τ.2.1 8 7 = σ.2.1 8 7) (hn : NumOk τ) (h1 : ∀ l : Nat, (l : Int) < σ.2.1 8 6 → LetOk τ l) (h2 : ∀ l : Nat, σ.2.1 8 6 ≤ l → τ.1 50 l = 0) (h7 : ∀ f : Nat, (f : Int) < τ.2.1 8 17 → FormOk τ f) (h8 : ∀ f : Nat, τ.2.1 8 17 ≤ f → f < 200 → τ.1 (176 + f) 7 = 0 ∧ τ.1 (176 + f) 8 = 0) (h9 : ∀ a : Nat, (a : Int) < 4 * σ.2.1 8 6 → SlotOk τ a) (h10 : ∀ a : Nat, 4 * σ.2.1 8 6 ≤ a → τ.1 55 a = 0) : IS τ := by
  have a48 := hA 48 (by omega)
  have a49 := hA 49 (by omega)
  have a51 := hA 51 (by omega)
  have a53 := hA 53 (by omega)
  have a89 := hA 89 (by omega)
  have a90 := hA 90 (by omega)
  have a91 := hA 91 (by omega)
  have a92 := hA 92 (by omega)
  have a93 := hA 93 (by omega)
  have hp : ∀ i : Nat, i < 8 → τ.1 (168 + i) = σ.1 (168 + i) := fun i hi => hA _ (by omega)
  obtain ⟨n, c1, c2, c3, c4, c5, c6, c7, c8, c9, c10⟩ := h
  have n2 := n
  unfold NumOk at n2
  refine ⟨hn, ?_, ?_, fun i hi => ?_, ?_, ?_, fun i j hi hj => ?_, h7, h8, ?_, ?_⟩
  · rw [e1]; exact h1
  · rw [e1]; exact h2
  · rw [e2] at hi
    obtain ⟨g, hg⟩ := c3 i hi
    refine ⟨g, ?_⟩
    unfold LigOk at hg ⊢
    rw [hp i (by omega)]
    simp only [a48, a49, a51, a53, a89, a90, a91, a92, a93, e1]
    exact hg
  · rw [e1, e2, a89, a51]; exact c4
  · rw [e2, a51]; exact c5
  · rw [e2] at hi hj
    rw [hp i (by omega), hp j (by omega)]
    exact c6 i j hi hj
  · rw [e1]; exact h9
  · rw [e1]; exact h10
theorem LetOk_keep {σ τ : St} (a47 : τ.1 47 = σ.1 47) (a48 : τ.1 48 = σ.1 48) (a49 : τ.1 49 = σ.1 49) (a50 : τ.1 50 = σ.1 50) (a89 : τ.1 89 = σ.1 89) (a94 : τ.1 94 = σ.1 94) {l : Nat} (h : LetOk σ l) : LetOk τ l := by
  unfold LetOk at h ⊢
  rw [a47, a48, a49, a50, a89, a94]
  exact h
theorem SlotOk_keep {σ τ : St} (a55 : τ.1 55 = σ.1 55) (a56 : τ.1 56 = σ.1 56) (a95 : τ.1 95 = σ.1 95) (a96 : τ.1 96 = σ.1 96) (a104 : τ.1 104 = σ.1 104) (a105 : τ.1 105 = σ.1 105) (e3 : τ.2.1 8 17 = σ.2.1 8 17) {a : Nat} (h : SlotOk σ a) : SlotOk τ a := by
  unfold SlotOk at h ⊢
  simp only [a55, a56, a95, a96, a104, a105, e3]
  exact h
theorem so_letter {Inv : Nat → St → Prop} (hI : GoodI Inv) (G : GT) : SO_letter G Inv := by
  intro k σ hk h a hr
  obtain ⟨⟨hS, hT, hC, hH⟩, hF⟩ := hI.1 k σ h
  have hs := hI.2.1 k σ h
  have n := hS.1
  unfold NumOk at n
  have hf := hF
  unfold Fl at hf
  refine CJ.go (fun _ => k_JS_letter_0 ⟨hr, fun z => ?_, fun z => ⟨fun z2 => ⟨fun z3 => ⟨⟨by omega, by omega⟩, fun σ4 e4 => ?_⟩, fun z3 => ?_⟩, fun z2 => ?_⟩⟩)
  · exact CJ.go (fun _ => k_MO_letter_0 ⟨hr, fun q => absurd q (by omega), fun _ => ⟨rfl, hs⟩⟩)
  · have g1 : σ4.2.1 1 0 = σ.2.1 1 0 := by rw [e4]; rfl
    refine CJ.mono (t_addLetter (by rw [g1]; omega) hr hr ⟨by decide, by decide⟩) (fun r u _ hu => ?_)
    obtain ⟨hr1, hu⟩ := hu
    have g8 : u.2.1 8 6 = σ.2.1 8 6 := by rw [hu, e4]; rfl
    refine CJ.go (fun _ => k_MO_letter_0 ⟨hr, fun _ => ⟨fun _ => ?_, fun q => absurd q (by omega)⟩, fun q => absurd q (by omega)⟩)
    refine CJ.mono (t_newLetter (by rw [g8]; omega) hr) (fun r2 v _ hv => ?_)
    obtain ⟨hr2, hv⟩ := hv
    have hS4 : IS σ4 := keep_IS (Fr.same ((Fr.refl (W := QJ0)).sf (Or.inl rfl) |> fun z => by rw [e4]; exact z)) hS
    have hv2 : v = nlM (nlJ σ4 a a 1) a := by rw [hv, hu]
    have hSv : IS v := IS_letter hS4 (by rw [e4]; show σ.2.1 8 6 < 60; omega) ⟨by omega, by omega⟩ hv2
    have R := nl_rd (σ := σ4) (s := a) (N := (σ.2.1 8 6).toNat) (by rw [e4]; show σ.2.1 8 6 = _; omega) (by rw [g1]; omega)
    have Ro : ∀ k, k ≠ 105 → k ≠ 94 → k ≠ 89 → k ≠ 49 → k ≠ 48 → k ≠ 47 → v.1 k = σ.1 k := by
      intro k a1 a2 a3 a4 a5 a6
      funext i
      rw [hv2, R, if_neg (fun z => a1 z.1), if_neg (fun z => a2 z.1), if_neg (fun z => a3 z.1), if_neg (fun z => a4 z.1), if_neg (fun z => a5 z.1), if_neg (fun z => a6 z.1), e4]
      rfl
    refine ⟨by rw [hr1, hr2, g1, g8]; omega, ?_⟩
    have hb : Base v := by
      refine ⟨hSv, IT_keep hT (fun k hk => Ro k (by omega) (by omega) (by omega) (by omega) (by omega) (by omega)) (fun j => ?_) ?_ ?_ (fun l hl => ?_), RC_keep hC (Ro _ (by decide) (by decide) (by decide) (by decide) (by decide) (by decide)) (Ro _ (by decide) (by decide) (by decide) (by decide) (by decide) (by decide)) ?_ ?_, ?_⟩
      · rw [hv2, e4]; simp [nlM, nlJ, chg, sa_2, sf_2]
      · rw [hv2, e4]; simp [nlM, nlJ, chg, sa_2, sf_2]
      · rw [hv2, e4]; simp [nlM, nlJ, chg, sa_2, sf_2]
      · unfold LOk at hl ⊢
        have e : v.2.1 8 6 = σ.2.1 8 6 + 1 := by rw [hv2, e4]; simp [nlM, nlJ, chg, sa_2, sf_2]
        have e89 : v.1 89 l.toNat = σ.1 89 l.toNat := by
          rw [hv2, R, if_neg (by omega), if_neg (by omega), if_neg (by omega), if_neg (by omega), if_neg (by omega), if_neg (by omega), e4]
          rfl
        rw [e, e89]
        exact ⟨hl.1, by omega, hl.2.2⟩
      · rw [hv2, e4]; simp [nlM, nlJ, chg, sa_2, sf_2]
      · rw [hv2, e4]; simp [nlM, nlJ, chg, sa_2, sf_2]
      · rw [hv2, e4]; exact hH
    rw [hv] at hb ⊢
    refine close_chg hI hF ?_ (fun j _ _ => ?_) hb
    · rw [hu, e4]; simp [nlJ, sa_2, sf_2]
    · rw [hu, e4]; simp [nlJ, sa_2, sf_2]; omega
  · exact CJ.go (fun _ => k_MO_letter_0 ⟨hr, fun _ => ⟨fun q => absurd q (by omega), fun _ => ⟨rfl, hs⟩⟩, fun q => absurd q (by omega)⟩)
  · exact CJ.go (fun _ => k_MO_letter_0 ⟨hr, fun q => absurd q (by omega), fun _ => ⟨rfl, hs⟩⟩)
theorem so_bar {Inv : Nat → St → Prop} (hI : GoodI Inv) (G : GT) : SO_bar G Inv := by
  intro k σ hk h a b hr hb
  obtain ⟨⟨hS, hT, hC, hH⟩, hF⟩ := hI.1 k σ h
  have hs := hI.2.1 k σ h
  have n := hS.1
  unfold NumOk at n
  have hf := hF
  unfold Fl at hf
  refine CJ.go (fun _ => k_JS_bar_0 ⟨hr, fun _ => ⟨by omega, by omega⟩, fun c => ⟨⟨by omega, by omega⟩, fun σ5 e5 => ⟨by omega, hb, fun σ11 e11 => ?_⟩⟩, fun c => ?_⟩)
  · have g1 : σ11.2.1 8 6 = σ.2.1 8 6 := by rw [e11, e5]; rfl
    refine CJ.go (fun _ => k_MO_bar_0 ⟨hr, ⟨by omega, by omega⟩, fun _ => ⟨by omega, hb, fun σ7 e7 => ?_⟩, fun z => absurd z (by omega)⟩)
    have L := hS.2.1 a.toNat (by omega)
    have e94 : σ11.1 94 a.toNat = σ.1 50 a.toNat := by rw [e11, e5]; exact L.2.2.1.symm
    refine CJ.mono t_changed (fun _ u _ hu => ⟨by rw [e94], ?_⟩)
    have R : ∀ k i, u.1 k i = if k = 94 ∧ i = a.toNat then b else if k = 50 ∧ i = a.toNat then b else σ.1 k i := fun k i => by rw [hu, e7, e11, e5]; rfl
    have Ro : ∀ k, k ≠ 94 → k ≠ 50 → u.1 k = σ.1 k := fun k h1 h2 => funext fun i => by rw [R, if_neg (fun z => h1 z.1), if_neg (fun z => h2 z.1)]
    have F2 : ∀ j, (j ≠ 0) → u.2.1 j = (chg σ).2.1 j := fun j hj => by rw [hu, e7, e11, e5]; by_cases q : j = 8 <;> first | (subst q; rfl) | (rw [chg_o q, chg_o q, sa_2, sa_2]; exact sf_ne hj)
    have F8 : ∀ j, j ≠ 68 → j ≠ 91 → j ≠ 100 → j ≠ 109 → j ≠ 26 → u.2.1 8 j = σ.2.1 8 j := fun j a1 a2 a3 a4 a5 => by rw [F2 8 (by decide)]; exact chg_2 j a1 a2 a3 a4 a5
    have F1 : ∀ q, q ≠ 0 → q ≠ 8 → u.2.1 q = σ.2.1 q := fun q h1 h2 => by rw [F2 q h1, chg_o h2]
    have eL := F8 6 (by decide) (by decide) (by decide) (by decide) (by decide)
    have eG := F8 7 (by decide) (by decide) (by decide) (by decide) (by decide)
    have eF := F8 17 (by decide) (by decide) (by decide) (by decide) (by decide)
    have hb2 : Base u := by
      refine ⟨?_, IT_keep hT (fun k hk => Ro k (by omega) (by omega)) (fun j => by rw [F1 2 (by decide) (by decide)]) (F8 _ (by decide) (by decide) (by decide) (by decide) (by decide)) (F8 _ (by decide) (by decide) (by decide) (by decide) (by decide)) (LOk_keep (Ro _ (by decide) (by decide)) eL), RC_keep hC (Ro _ (by decide) (by decide)) (Ro _ (by decide) (by decide)) (by rw [F1 3 (by decide) (by decide)]) (F8 _ (by decide) (by decide) (by decide) (by decide) (by decide)), by rw [hu, e7, e11, e5]; exact hH⟩
      refine IS_lig hS (fun k hk => Ro k (by omega) (by omega)) eL eG ?_ (fun l hl => ?_) (fun l hl => ?_) (fun f hf => ?_) (fun f hf1 hf2 => ?_) (fun q hq => ?_) (fun q hq => ?_)
      · unfold NumOk
        rw [F1 1 (by decide) (by decide), eL, eG, eF]
        exact hS.1
      · have L := hS.2.1 l hl
        unfold LetOk at L ⊢
        have r47 := congrFun (Ro 47 (by decide) (by decide)) l
        have r48 := congrFun (Ro 48 (by decide) (by decide)) l
        have r49 := congrFun (Ro 49 (by decide) (by decide)) l
        have r89 := congrFun (Ro 89 (by decide) (by decide)) l
        rw [r47, r48, r49, r89, R, R]
        by_cases e : l = a.toNat
        · simp only [e, and_true, if_true, show ((50 : Nat) = 94) = False by decide, if_false]
          rw [e] at L
          exact ⟨L.1, L.2.1, trivial, by omega, L.2.2.2.2⟩
        · rw [if_neg (fun z => e z.2), if_neg (fun z => e z.2), if_neg (fun z => e z.2), if_neg (fun z => e z.2)]
          exact L
      · rw [R, if_neg (by omega), if_neg (by omega)]
        exact hS.2.2.1 l hl
      · rw [eF] at hf
        have F := hS.2.2.2.2.2.2.2.1 f hf
        unfold FormOk at F ⊢
        rw [Ro (176 + f) (by omega) (by omega)]
        simp only [Ro 95 (by decide) (by decide), Ro 96 (by decide) (by decide), Ro 97 (by decide) (by decide), Ro 98 (by decide) (by decide), Ro 99 (by decide) (by decide), Ro 100 (by decide) (by decide), Ro 101 (by decide) (by decide), Ro 102 (by decide) (by decide), Ro 103 (by decide) (by decide), eL]
        exact F
      · rw [eF] at hf1
        rw [Ro (176 + f) (by omega) (by omega)]
        exact hS.2.2.2.2.2.2.2.2.1 f hf1 hf2
      · exact SlotOk_keep (Ro _ (by decide) (by decide)) (Ro _ (by decide) (by decide)) (Ro _ (by decide) (by decide)) (Ro _ (by decide) (by decide)) (Ro _ (by decide) (by decide)) (Ro _ (by decide) (by decide)) eF (hS.2.2.2.2.2.2.2.2.2.1 q hq)
      · rw [Ro 55 (by decide) (by decide)]
        exact hS.2.2.2.2.2.2.2.2.2.2 q hq
    rw [hu] at hb2 ⊢
    refine close_chg hI hF ?_ (fun j _ _ => ?_) hb2
    · rw [e7, e11, e5]; simp [sa_2, sf_2]
    · rw [e7, e11, e5]; simp [sa_2, sf_2]; omega
  · exact CJ.go (fun _ => k_MO_bar_0 ⟨hr, ⟨by omega, by omega⟩, fun z => absurd z (by omega), fun _ => ⟨rfl, hs⟩⟩)
