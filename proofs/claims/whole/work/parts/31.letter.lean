/-! letters -/
/-- a new letter, in the class -/
def nlJ (σ : St) (s e l : Int) : St := sf (sa (sa (sa σ 47 (σ.2.1 1 0).toNat s) 48 (σ.2.1 1 0).toNat e) 49 (σ.2.1 1 0).toNat l) 1 0 (σ.2.1 1 0 + 1)
theorem t_addLetter {G : GT} {σ : St} {s e l : Int} (h : 0 ≤ σ.2.1 1 0 ∧ σ.2.1 1 0 < 60) (hs : rng s) (he : rng e) (hl : rng l) : CJ G m_SC_addLetter [O 1, I s, I e, I l] σ (fun r u => r = σ.2.1 1 0 ∧ u = nlJ σ s e l) := by
  refine CJ.go (fun _ => k_SC_addLetter_0 ?_)
  refine ⟨h, hs, fun σ4 e4 => ⟨he, fun σ7 e7 => ⟨hl, fun σ10 e10 => ⟨⟨by omega, by omega⟩, fun σ13 e13 => ⟨rfl, ?_⟩⟩⟩⟩⟩
  rw [e13, e10, e7, e4]
  rfl
/-- a new letter, in the reference -/
def nlM (σ : St) (s : Int) : St := chg (sf (sa (sa (sa (sa (sa (sa σ 89 (σ.2.1 8 6).toNat s) 94 (σ.2.1 8 6).toNat 0) 105 (4 * σ.2.1 8 6 + 0).toNat 0) 105 (4 * σ.2.1 8 6 + 1).toNat 0) 105 (4 * σ.2.1 8 6 + 2).toNat 0) 105 (4 * σ.2.1 8 6 + 3).toNat 0) 8 6 (σ.2.1 8 6 + 1))
theorem t_newLetter {G : GT} {σ : St} {s : Int} (h : 0 ≤ σ.2.1 8 6 ∧ σ.2.1 8 6 < 60) (hs : rng s) : CJ G m_MO_newLetter [O 8, I s] σ (fun r u => r = σ.2.1 8 6 ∧ u = nlM σ s) := by
  refine CJ.go (fun _ => k_MO_newLetter_0 ⟨h, hs, fun σ4 e4 σ7 e7 => ?_⟩)
  have g7 : σ7.2.1 8 6 = σ.2.1 8 6 := by rw [e7, e4]; rfl
  refine k_MO_newLetter_22 ⟨⟨by decide, by decide⟩, fun z => absurd z (by decide), fun _ => ⟨by rw [g7]; omega, fun σa ea => ?_⟩⟩
  have ga : σa.2.1 8 6 = σ.2.1 8 6 := by rw [ea]; exact g7
  refine k_MO_newLetter_22 ⟨⟨by decide, by decide⟩, fun z => absurd z (by decide), fun _ => ⟨by rw [ga]; omega, fun σb eb => ?_⟩⟩
  have gb : σb.2.1 8 6 = σ.2.1 8 6 := by rw [eb]; exact ga
  refine k_MO_newLetter_22 ⟨⟨by decide, by decide⟩, fun z => absurd z (by decide), fun _ => ⟨by rw [gb]; omega, fun σc ec => ?_⟩⟩
  have gc : σc.2.1 8 6 = σ.2.1 8 6 := by rw [ec]; exact gb
  refine k_MO_newLetter_22 ⟨⟨by decide, by decide⟩, fun z => absurd z (by decide), fun _ => ⟨by rw [gc]; omega, fun σd ed => ?_⟩⟩
  have gd : σd.2.1 8 6 = σ.2.1 8 6 := by rw [ed]; exact gc
  refine k_MO_newLetter_22 ⟨⟨by decide, by decide⟩, fun _ => ⟨by rw [gd]; exact ⟨by omega, by omega⟩, fun σe ee => ?_⟩, fun z => absurd z (by decide)⟩
  refine CJ.mono t_changed (fun _ u _ hu => ?_)
  have hu2 : u.2.1 8 6 = σ.2.1 8 6 + 1 := by
    rw [hu, chg_2 _ (by decide) (by decide) (by decide) (by decide) (by decide), ee, sf_2, if_pos ⟨rfl, rfl⟩, gd]
  refine ⟨by rw [hu2]; exact ⟨by omega, by omega⟩, by rw [hu2]; omega, ?_⟩
  rw [hu, ee, gd, ed, gc, ec, gb, eb, ga, ea, g7, e7, e4]
  rfl
