/-! what is asked and changes nothing -/
theorem nW_le {σ : St} (hT : IT σ) : nW σ ≤ 80 := by
  obtain ⟨t1, t2, t3, -⟩ := id hT
  have tn8 : tn σ ≤ 80 := by unfold tn; omega
  exact Nat.le_trans (cnt_le _ _) tn8
theorem so_lines (G : GT) : SO_lines G Inv := by
  intro k σ hk h a b hra hrb
  have hs := Inv_good.2.1 k σ h
  obtain ⟨hB, hF, hU, hH, hN, hL, hP⟩ := id h
  obtain ⟨i1, i2, i3, i4⟩ := Fl_is hF
  have nw8 := nW_le hB.2.1
  by_cases z : σ.2.1 0 13 = σ.2.1 0 9
  · obtain ⟨W, ls, b1, b2, b3, b4, b5, b6, b7, b8⟩ := hL z
    have y := i3.mpr z
    by_cases hr : 0 ≤ a ∧ a ≤ (ls.length : Int) - 1
    · obtain ⟨p, hp⟩ : ∃ p, ls[a.toNat]? = some p := ⟨_, List.getElem?_eq_getElem (by omega)⟩
      obtain ⟨c1, c2, c3, c4, c5, c6, c7, c8, c9, c10, c11, c12, c13⟩ := b8 a.toNat p hp
      refine CJ.go (fun R => k_JS_lines_0 ?_)
      rw [b6]
      (repeat' (first | with_reducible intro _ | with_reducible apply And.intro)) <;> first | assumption | omega | exact ⟨by omega, by omega⟩ | (exfalso; omega) | (refine CJ.go (fun _ => k_MO_lines_0 ?_); rw [b7]; (repeat' (first | with_reducible intro _ | with_reducible apply And.intro)) <;> first | assumption | omega | exact ⟨by omega, by omega⟩ | (exfalso; omega))
    · refine CJ.go (fun R => k_JS_lines_0 ?_)
      rw [b6]
      (repeat' (first | with_reducible intro _ | with_reducible apply And.intro)) <;> first | assumption | omega | exact ⟨by omega, by omega⟩ | (exfalso; omega) | (refine CJ.go (fun _ => k_MO_lines_0 ?_); rw [b7]; (repeat' (first | with_reducible intro _ | with_reducible apply And.intro)) <;> first | assumption | omega | exact ⟨by omega, by omega⟩ | (exfalso; omega))
  · have y : ¬ σ.2.1 8 100 ≠ 0 := fun q => z (i3.mp q)
    refine CJ.go (fun R => k_JS_lines_0 ⟨fun q => absurd q z, fun _ => CJ.go (fun _ => k_MO_lines_0 ⟨fun q => absurd q y, fun _ => ⟨rfl, hs⟩⟩)⟩)
theorem so_page (G : GT) : SO_page G Inv := by
  intro k σ hk h a b hra hrb
  have hs := Inv_good.2.1 k σ h
  obtain ⟨hB, hF, hU, hH, hN, hL, hP⟩ := id h
  obtain ⟨i1, i2, i3, i4⟩ := Fl_is hF
  by_cases z : σ.2.1 0 14 = σ.2.1 0 9
  · obtain ⟨n, b1, b2, b3, b4⟩ := hP z
    have y := i4.mpr z
    refine CJ.go (fun R => k_JS_page_0 ?_)
    have hrow : ∀ j i, rng (σ.1 j i) := fun j i => R.1 j i
    rw [b2]
    by_cases hr : 0 ≤ a ∧ a ≤ (n : Int) - 1
    · obtain ⟨c1, c2, c3⟩ := b4 a.toNat (by omega)
      have r1 := hrow 84 a.toNat
      have r2 := hrow 85 a.toNat
      have r3 := hrow 86 a.toNat
      have rr : rng (if b ≠ 0 then (if b ≠ 1 then (if b ≠ 2 then (-2 : Int) else σ.1 86 a.toNat) else σ.1 85 a.toNat) else σ.1 84 a.toNat) := by
        split
        · split
          · split
            · exact ⟨by omega, by omega⟩
            · exact r3
          · exact r2
        · exact r1
      (repeat' (first | with_reducible intro _ | with_reducible apply And.intro)) <;> first | assumption | omega | exact ⟨by omega, by omega⟩ | (exfalso; omega) | (refine CJ.go (fun _ => k_MO_page_0 ?_); rw [b3, ← c1, ← c3, show (σ.1 164 a.toNat) - (σ.1 84 a.toNat) + 1 = σ.1 85 a.toNat by omega]; (repeat' (first | with_reducible intro _ | with_reducible apply And.intro)) <;> first | assumption | omega | exact ⟨by omega, by omega⟩ | (exfalso; omega) | (split <;> first | omega | (split <;> first | omega | (split <;> omega))))
    · (repeat' (first | with_reducible intro _ | with_reducible apply And.intro)) <;> first | assumption | omega | exact ⟨by omega, by omega⟩ | (exfalso; omega) | (refine CJ.go (fun _ => k_MO_page_0 ?_); rw [b3]; (repeat' (first | with_reducible intro _ | with_reducible apply And.intro)) <;> first | assumption | omega | exact ⟨by omega, by omega⟩ | (exfalso; omega))
  · have y : ¬ σ.2.1 8 109 ≠ 0 := fun q => z (i4.mp q)
    refine CJ.go (fun R => k_JS_page_0 ⟨fun q => absurd q z, fun _ => CJ.go (fun _ => k_MO_page_0 ⟨fun q => absurd q y, fun _ => ⟨rfl, hs⟩⟩)⟩)
