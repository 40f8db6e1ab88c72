/-! stretch, point: one form's facts -/
theorem chg_F {σ υ : St} {c : Int} (h : υ.2 = (sf σ 0 9 c).2) : (∀ q, q ≠ 0 → q ≠ 8 → (chg υ).2.1 q = σ.2.1 q) ∧ (∀ j, j ≠ 68 → j ≠ 91 → j ≠ 100 → j ≠ 109 → j ≠ 26 → (chg υ).2.1 8 j = σ.2.1 8 j) ∧ (chg υ).2.2 = σ.2.2 ∧ υ.2.1 0 9 = c ∧ (∀ j, 10 ≤ j → υ.2.1 0 j = σ.2.1 0 j) := by
  refine ⟨fun q h1 h2 => ?_, fun j a1 a2 a3 a4 a5 => ?_, ?_, ?_, fun j hj => ?_⟩
  · rw [chg_o h2, h]; exact sf_ne h1
  · rw [chg_2 j a1 a2 a3 a4 a5, h]; rfl
  · rw [chg_3, h]; rfl
  · rw [h]; exact sf_at
  · rw [h]; exact sf_nx (by omega)
theorem Base_facts {σ u : St} (h : Base σ) (v : Nat) (row : ∀ f, f ≠ v → u.1 (176 + f) = σ.1 (176 + f)) (col : ∀ k, 97 ≤ k → k ≤ 103 → ∀ f, f ≠ v → u.1 k f = σ.1 k f) (oth : ∀ k, k < 97 ∨ (103 < k ∧ k < 176) → u.1 k = σ.1 k) (F1 : ∀ q, q ≠ 0 → q ≠ 8 → u.2.1 q = σ.2.1 q) (F8 : ∀ j, j ≠ 68 → j ≠ 91 → j ≠ 100 → j ≠ 109 → j ≠ 26 → u.2.1 8 j = σ.2.1 8 j) (hh : u.2.2 = σ.2.2) (hv : (v : Int) < σ.2.1 8 17) (hfo : FormOk u v) : Base u := by
  obtain ⟨hS, hT, hC, hH⟩ := h
  have eL := F8 6 (by decide) (by decide) (by decide) (by decide) (by decide)
  have eG := F8 7 (by decide) (by decide) (by decide) (by decide) (by decide)
  have eF := F8 17 (by decide) (by decide) (by decide) (by decide) (by decide)
  refine ⟨?_, IT_keep hT (fun k hk => oth k (by omega)) (fun j => by rw [F1 2 (by decide) (by decide)]) (F8 _ (by decide) (by decide) (by decide) (by decide) (by decide)) (F8 _ (by decide) (by decide) (by decide) (by decide) (by decide)) (LOk_keep (oth _ (by decide)) eL), RC_keep hC (oth _ (by decide)) (oth _ (by decide)) (by rw [F1 3 (by decide) (by decide)]) (F8 _ (by decide) (by decide) (by decide) (by decide) (by decide)), by unfold HS; rw [hh]; exact hH⟩
  refine IS_facts hS (fun k hk => oth k (by omega)) (fun j => by rw [F1 1 (by decide) (by decide)]) eL eG eF (fun f hf => ?_) (fun f hf1 hf2 => ?_)
  · by_cases e : f = v
    · rw [e]; exact hfo
    · have F := hS.2.2.2.2.2.2.2.1 f hf
      unfold FormOk at F ⊢
      rw [row f e]
      simp only [oth 95 (by decide), oth 96 (by decide), col 97 (by decide) (by decide) f e, col 98 (by decide) (by decide) f e, col 99 (by decide) (by decide) f e, col 100 (by decide) (by decide) f e, col 101 (by decide) (by decide) f e, col 102 (by decide) (by decide) f e, col 103 (by decide) (by decide) f e, eL]
      exact F
  · rw [row f (by omega)]
    exact hS.2.2.2.2.2.2.2.2.1 f hf1 hf2
theorem so_stretch {Inv : Nat → St → Prop} (hI : GoodI Inv) (G : GT) : SO_stretch G Inv := by
  intro k σ hk h a b c ha hb hc
  obtain ⟨hB, hF⟩ := hI.1 k σ h
  obtain ⟨hS, hT, hC, hH⟩ := id hB
  have hs := hI.2.1 k σ h
  have n := hS.1
  unfold NumOk at n
  have hf := hF
  unfold Fl at hf
  by_cases ca : 0 ≤ a ∧ a ≤ σ.2.1 8 17 - 1
  · have F := hS.2.2.2.2.2.2.2.1 a.toNat (by omega)
    unfold FormOk at F
    obtain ⟨q0, q1, q2, q3, q4, q5, q6, q7, q8, ⟨l, l1, l2⟩, r1, r2, r3, r4, r5, r6, r7, r8⟩ := F
    have hL := (hS.2.1 l l2).1
    have e47 : σ.1 47 (σ.1 (176 + a.toNat) 0).toNat = σ.1 89 (σ.1 95 a.toNat).toNat := by rw [q0, l1]; exact hL
    have bl : 0 ≤ σ.1 95 a.toNat ∧ σ.1 95 a.toNat < 60 := by omega
    refine CJ.go (fun _ => k_JS_stretch_0 ⟨ha, fun _ => ⟨by omega, by omega⟩, fun z1 => ⟨hb, fun _ => ⟨by decide, by decide⟩, fun z2 => ?_, fun z2 => ⟨hc, fun _ => ⟨by decide, by decide⟩, fun z3 => ⟨by omega, by rw [q0]; exact bl, fun z4 => ⟨⟨by omega, by omega⟩, fun σ15 e15 σ18 e18 σ20 e20 => ?_⟩, fun z4 => ?_⟩, fun z3 => ?_⟩⟩, fun z1 => absurd z1 (by omega)⟩)
    · exact CJ.go (fun _ => k_MO_stretch_0 ⟨ha, ⟨by omega, by omega⟩, fun _ => ⟨hb, fun _ => ⟨rfl, hs⟩, fun z => absurd z (by omega)⟩, fun z => absurd z (by omega)⟩)
    · rw [e47] at z4
      have o1 : ∀ k, k < 176 → σ20.1 k = σ.1 k := fun k hk => by rw [e20, e18, e15, sa_ne (by omega), sa_ne (by omega)]; rfl
      have o2 : σ20.2.1 8 = σ.2.1 8 := by rw [e20, e18, e15]; rfl
      refine CJ.go (fun _ => k_MO_stretch_0 ?_)
      rw [o1 95 (by decide), o1 89 (by decide), o2]
      refine ⟨ha, ⟨by omega, by omega⟩, fun _ => ⟨hb, fun z => absurd z (by omega), fun _ => ⟨hc, fun _ => ⟨by omega, bl, fun _ σ12 e12 σ14 e14 => ?_, fun z => absurd z z4⟩, fun z => absurd z (by omega)⟩⟩, fun z => absurd z (by omega)⟩
      refine CJ.mono t_changed (fun _ u _ hu => ⟨rfl, ?_⟩)
      have R : ∀ k i, u.1 k i = if k = 103 ∧ i = a.toNat then c else if k = 102 ∧ i = a.toNat then b else if k = 176 + a.toNat ∧ i = 8 then c else if k = 176 + a.toNat ∧ i = 7 then b else σ.1 k i := fun k i => by rw [hu, e14, e12, e20, e18, e15]; rfl
      obtain ⟨F1, F8, hh, f9, fo⟩ := chg_F (σ := σ) (υ := σ14) (c := σ.2.1 0 9 + 1) (by rw [e14, e12, e20, e18, e15]; rfl)
      rw [hu]
      refine close_chg hI hF f9 (fun j h1 _ => fo j h1) ?_
      rw [← hu] at F1 F8 hh ⊢
      refine Base_facts hB a.toNat (fun f hf => funext fun i => ?_) (fun k h1 h2 f hf => ?_) (fun k hk => funext fun i => ?_) F1 F8 hh (by omega) ?_
      · rw [R, if_neg (by omega), if_neg (by omega), if_neg (by omega), if_neg (by omega)]
      · rw [R, if_neg (by omega), if_neg (by omega), if_neg (by omega), if_neg (by omega)]
      · rw [R, if_neg (by omega), if_neg (by omega), if_neg (by omega), if_neg (by omega)]
      · have rw1 : ∀ j, j ≠ 7 → j ≠ 8 → u.1 (176 + a.toNat) j = σ.1 (176 + a.toNat) j := fun j h1 h2 => by rw [R, if_neg (by omega), if_neg (by omega), if_neg (by omega), if_neg (by omega)]
        have rw2 : ∀ k, k < 102 → ∀ i, u.1 k i = σ.1 k i := fun k h1 i => by rw [R, if_neg (by omega), if_neg (by omega), if_neg (by omega), if_neg (by omega)]
        have x7 : u.1 (176 + a.toNat) 7 = b := by rw [R, if_neg (by omega), if_neg (by omega), if_neg (by omega), if_pos (by omega)]
        have x8 : u.1 (176 + a.toNat) 8 = c := by rw [R, if_neg (by omega), if_neg (by omega), if_pos (by omega)]
        have y7 : u.1 102 a.toNat = b := by rw [R, if_neg (by omega), if_pos (by omega)]
        have y8 : u.1 103 a.toNat = c := by rw [R, if_pos (by omega)]
        unfold FormOk
        rw [rw1 0 (by decide) (by decide), rw1 1 (by decide) (by decide), rw1 2 (by decide) (by decide), rw1 3 (by decide) (by decide), rw1 4 (by decide) (by decide), rw1 5 (by decide) (by decide), rw1 6 (by decide) (by decide), x7, x8, y7, y8, rw2 95 (by decide), rw2 96 (by decide), rw2 97 (by decide), rw2 98 (by decide), rw2 99 (by decide), rw2 100 (by decide), rw2 101 (by decide), F8 6 (by decide) (by decide) (by decide) (by decide) (by decide)]
        exact ⟨q0, q1, q2, q3, q4, q5, q6, rfl, rfl, ⟨l, l1, l2⟩, r1, r2, r3, r4, r5, r6, by omega, by omega⟩
    · rw [e47] at z4
      exact CJ.go (fun _ => k_MO_stretch_0 ⟨ha, ⟨by omega, by omega⟩, fun _ => ⟨hb, fun z => absurd z (by omega), fun _ => ⟨hc, fun _ => ⟨by omega, bl, fun z => absurd z4 z, fun _ => ⟨rfl, hs⟩⟩, fun z => absurd z (by omega)⟩⟩, fun z => absurd z (by omega)⟩)
    · exact CJ.go (fun _ => k_MO_stretch_0 ⟨ha, ⟨by omega, by omega⟩, fun _ => ⟨hb, fun z => absurd z (by omega), fun _ => ⟨hc, fun z => absurd z (by omega), fun _ => ⟨rfl, hs⟩⟩⟩, fun z => absurd z (by omega)⟩)
  · refine CJ.go (fun _ => k_JS_stretch_0 ⟨ha, fun _ => ⟨by omega, by omega⟩, fun z => absurd z (by omega), fun _ => ?_⟩)
    exact CJ.go (fun _ => k_MO_stretch_0 ⟨ha, ⟨by omega, by omega⟩, fun z => absurd z (by omega), fun _ => ⟨rfl, hs⟩⟩)
theorem so_point {Inv : Nat → St → Prop} (hI : GoodI Inv) (G : GT) : SO_point G Inv := by
  intro k σ hk h a b ha hb
  obtain ⟨hB, hF⟩ := hI.1 k σ h
  obtain ⟨hS, hT, hC, hH⟩ := id hB
  have hs := hI.2.1 k σ h
  have n := hS.1
  unfold NumOk at n
  have hf := hF
  unfold Fl at hf
  by_cases ca : 0 ≤ a ∧ a ≤ σ.2.1 8 17 - 1
  · have F := hS.2.2.2.2.2.2.2.1 a.toNat (by omega)
    unfold FormOk at F
    obtain ⟨q0, q1, q2, q3, q4, q5, q6, q7, q8, ⟨l, l1, l2⟩, r1, r2, r3, r4, r5, r6, r7, r8⟩ := F
    refine CJ.go (fun _ => k_JS_point_0 ⟨ha, fun _ => ⟨by omega, by omega⟩, fun z1 => ⟨by omega, hb, fun _ => ⟨by omega, by omega⟩, fun z2 => ⟨⟨by omega, by omega⟩, fun σ10 e10 σ13 e13 => ?_⟩, fun z2 => ?_⟩, fun z1 => absurd z1 (by omega)⟩)
    · have o1 : ∀ k, k < 176 → σ13.1 k = σ.1 k := fun k hk => by rw [e13, e10, sa_ne (by omega)]; rfl
      have o2 : σ13.2.1 8 = σ.2.1 8 := by rw [e13, e10]; rfl
      refine CJ.go (fun _ => k_MO_point_0 ?_)
      rw [o1 97 (by decide), o2]
      refine ⟨ha, ⟨by omega, by omega⟩, fun _ => ⟨hb, by omega, fun _ σ8 e8 => ?_, fun z => absurd z (by omega)⟩, fun z => absurd z (by omega)⟩
      refine CJ.mono t_changed (fun _ u _ hu => ⟨rfl, ?_⟩)
      have R : ∀ k i, u.1 k i = if k = 101 ∧ i = a.toNat then b else if k = 176 + a.toNat ∧ i = 6 then b else σ.1 k i := fun k i => by rw [hu, e8, e13, e10]; rfl
      obtain ⟨F1, F8, hh, f9, fo⟩ := chg_F (σ := σ) (υ := σ8) (c := σ.2.1 0 9 + 1) (by rw [e8, e13, e10]; rfl)
      rw [hu]
      refine close_chg hI hF f9 (fun j h1 _ => fo j h1) ?_
      rw [← hu] at F1 F8 hh ⊢
      refine Base_facts hB a.toNat (fun f hf => funext fun i => ?_) (fun k h1 h2 f hf => ?_) (fun k hk => funext fun i => ?_) F1 F8 hh (by omega) ?_
      · rw [R, if_neg (by omega), if_neg (by omega)]
      · rw [R, if_neg (by omega), if_neg (by omega)]
      · rw [R, if_neg (by omega), if_neg (by omega)]
      · have rw1 : ∀ j, j ≠ 6 → u.1 (176 + a.toNat) j = σ.1 (176 + a.toNat) j := fun j h1 => by rw [R, if_neg (by omega), if_neg (by omega)]
        have rw2 : ∀ k, k < 104 → k ≠ 101 → ∀ i, u.1 k i = σ.1 k i := fun k h1 h2 i => by rw [R, if_neg (by omega), if_neg (by omega)]
        have x7 : u.1 (176 + a.toNat) 6 = b := by rw [R, if_neg (by omega), if_pos (by omega)]
        have y7 : u.1 101 a.toNat = b := by rw [R, if_pos (by omega)]
        unfold FormOk
        rw [rw1 0 (by decide), rw1 1 (by decide), rw1 2 (by decide), rw1 3 (by decide), rw1 4 (by decide), rw1 5 (by decide), x7, rw1 7 (by decide), rw1 8 (by decide), y7, rw2 95 (by decide) (by decide), rw2 96 (by decide) (by decide), rw2 97 (by decide) (by decide), rw2 98 (by decide) (by decide), rw2 99 (by decide) (by decide), rw2 100 (by decide) (by decide), rw2 102 (by decide) (by decide), rw2 103 (by decide) (by decide), F8 6 (by decide) (by decide) (by decide) (by decide) (by decide)]
        exact ⟨q0, q1, q2, q3, q4, q5, rfl, q7, q8, ⟨l, l1, l2⟩, r1, r2, r3, r4, r5, by omega, r7, r8⟩
    · rw [q2] at z2
      exact CJ.go (fun _ => k_MO_point_0 ⟨ha, ⟨by omega, by omega⟩, fun _ => ⟨hb, by omega, fun z => absurd z z2, fun _ => ⟨rfl, hs⟩⟩, fun z => absurd z (by omega)⟩)
  · refine CJ.go (fun _ => k_JS_point_0 ⟨ha, fun _ => ⟨by omega, by omega⟩, fun z => absurd z (by omega), fun _ => ?_⟩)
    exact CJ.go (fun _ => k_MO_point_0 ⟨ha, ⟨by omega, by omega⟩, fun z => absurd z (by omega), fun _ => ⟨rfl, hs⟩⟩)
