/-! witness and atHand; near -/
theorem so_witness (G : GT) : SO_witness G Inv := by
  intro k σ hk h a hra
  have hs := Inv_good.2.1 k σ h
  obtain ⟨⟨l1, l2, l3⟩, g1, g2⟩ := hand_f h
  obtain ⟨⟨hS, hT, -⟩, -⟩ := id h
  have n := hS.1
  unfold NumOk at n
  by_cases z : σ.2.1 0 11 = σ.2.1 0 9
  · obtain ⟨y, u1, u2, ps, ms, f, t, a1, a2, a3, a4, a5, a6, a7, a8, a9, a10, a11⟩ := g1 z
    obtain ⟨m1, m2, m3, m4, m5, m6, m7, m8, m9, m10, m11⟩ := a11
    refine CJ.go (fun R => k_JS_witness_0 ⟨fun _ => ?_, fun q => absurd z q⟩)
    have r3 := R.2 σ.2.2.1 3
    have r2 := R.2 σ.2.2.1 2
    have e2 : σ.2.1 8 77 = σ.2.1 σ.2.2.1 2 := by rw [m2]; exact a1.2.1.symm
    have e3 : σ.2.1 8 78 = σ.2.1 σ.2.2.1 3 := by rw [m3]; exact a1.2.2.1.symm
    rw [a1.1]
    have rr : rng (if a ≠ 3 * (ps.length : Int) then σ.2.1 σ.2.2.1 3 else σ.2.1 σ.2.2.1 2) := by
      split
      · exact r3
      · exact r2
    by_cases hr : 0 ≤ a ∧ a < 3 * (ps.length : Int)
    · obtain ⟨q, hq⟩ : ∃ q, ps[(a / 3).toNat]? = some q := ⟨_, List.getElem?_eq_getElem (by omega)⟩
      obtain ⟨z1, z2, z3, z4, -⟩ := a1.2.2.2 (a / 3).toNat q hq
      obtain ⟨x1, x2, x3, x4, x5, x6, x7⟩ := m9 (a / 3).toNat q (by omega) hq
      obtain ⟨G1, G2, G3, G4, G5, G6⟩ := a7 q (List.mem_of_getElem? hq)
      obtain ⟨-, l0, hle, -, -⟩ := kl_mem hS hT G1 G2
      have r49 : σ.1 49 q.2.1.toNat = (ln3 σ q.2.1.toNat : Int) := ln3_J hS (by omega)
      have lp := ln3_pos (σ := σ) (g := q.2.1.toNat)
      have fb := (form_b hS G3)
      have rm : rng (if a % 3 ≠ 0 then (if a % 3 ≠ 1 then (q.2.2.2 : Int) else (q.2.2.1 : Int)) else (ln3 σ q.2.1.toNat : Int)) := by
        split
        · split <;> exact ⟨by omega, by omega⟩
        · exact ⟨by omega, by omega⟩
      rw [z1, z3, z4, r49]
      refine ⟨l1, hra, fun _ => ⟨by omega, by omega⟩, fun _ => ⟨⟨by omega, by omega⟩, fun _ => ⟨by omega, ⟨by omega, by omega⟩, fun c => ⟨by omega, by omega, ?_⟩, fun c => ⟨by omega, ?_⟩, fun c => ⟨by omega, ?_⟩⟩, fun c => absurd c (by omega)⟩, fun c => absurd c (by omega)⟩
      all_goals
        refine CJ.go (fun _ => k_MO_witness_0 ⟨fun _ => ?_, fun q => absurd q y⟩)
        rw [m1, x4, x5, x6]
        refine ⟨hra, ⟨by omega, by omega⟩, fun _ => ⟨⟨by omega, by omega⟩, fun _ => ⟨by omega, ⟨by omega, by omega⟩, ⟨fun _ => ⟨fun _ => by omega, fun _ => by omega⟩, fun _ => by omega⟩, rm, ?_, hs⟩, fun c => absurd c (by omega)⟩, fun c => absurd c (by omega)⟩
      · rw [if_neg (by omega)]
      · rw [if_pos (by omega), if_neg (by omega)]
      · rw [if_pos (by omega), if_pos (by omega)]
    · refine ⟨l1, hra, fun _ => ⟨by omega, by omega⟩, fun _ => ⟨⟨by omega, by omega⟩, fun c => absurd c (by omega), fun c => ⟨rr, ?_⟩⟩, fun c => ?_⟩
      · refine CJ.go (fun _ => k_MO_witness_0 ⟨fun _ => ?_, fun q => absurd q y⟩)
        rw [m1, e2, e3]
        exact ⟨hra, ⟨by omega, by omega⟩, fun _ => ⟨⟨by omega, by omega⟩, fun c => absurd c (by omega), fun c => ⟨rr, rfl, hs⟩⟩, fun c => absurd c (by omega)⟩
      · refine CJ.go (fun _ => k_MO_witness_0 ⟨fun _ => ?_, fun q => absurd q y⟩)
        rw [m1]
        exact ⟨hra, ⟨by omega, by omega⟩, fun q => absurd q c, fun _ => ⟨rfl, hs⟩⟩
  · have y := g2 z
    refine CJ.go (fun R => k_JS_witness_0 ⟨fun q => absurd q z, fun _ => CJ.go (fun _ => k_MO_witness_0 ⟨fun q => absurd y q, fun _ => ⟨rfl, hs⟩⟩)⟩)
theorem so_atHand (G : GT) : SO_atHand G Inv := by
  intro k σ hk h a hra
  have hs := Inv_good.2.1 k σ h
  obtain ⟨⟨l1, l2, l3⟩, g1, g2⟩ := hand_f h
  obtain ⟨⟨hS, hT, -⟩, -⟩ := id h
  obtain ⟨t1, t2, t3, -⟩ := id hT
  have tn8 : tn σ ≤ 80 := by unfold tn; omega
  by_cases z : σ.2.1 0 11 = σ.2.1 0 9
  · obtain ⟨y, u1, u2, ps, ms, f, t, a1, a2, a3, a4, a5, a6, a7, a8, a9, a10, a11⟩ := g1 z
    obtain ⟨m1, m2, m3, m4, m5, m6, m7, m8, m9, m10, m11⟩ := a11
    have c0 : σ.2.1 (σ.2.2.1 + 7) 0 = (ms.length : Int) := by have := a2.1.1; rw [show (mbl ms).length = ms.length by unfold mbl; rw [List.length_map]] at this; exact this
    have hb := t_height (G := G) l1 (LJ_bx a1) a2.1 (pbl_bb hS a7 a8) (MBd_bb a10 a9) (by rw [pbl_len]; exact a8) (by unfold mbl; rw [List.length_map]; exact a9)
    have w2 : σ.2.1 σ.2.2.1 2 = (tw σ ps : Int) := a1.2.1
    have w3 : σ.2.1 σ.2.2.1 3 = tp σ ps := a1.2.2.1
    refine CJ.go (fun R => k_JS_atHand_0 ?_)
    rw [a1.1, w2, w3, c0, a3, a4]
    have mo : ∀ (v : Int), (0 ≤ a ∧ a ≤ 7) → (a = 0 → v = ps.length) → (a = 1 → v = tw σ ps) → (a = 2 → v = tp σ ps) → (a = 3 → v = ms.length) → (a = 4 → v = hgM (pbl σ 0 ps ++ mbl ms)) → (a = 5 → v = dpM (pbl σ 0 ps ++ mbl ms)) → (a = 6 → v = f) → (6 < a → v = (t : Int) - f + 1) → CJ G m_MO_atHand [O 8, I a] σ (fun r2 σ2 => v = r2 ∧ Inv (k + 1) σ2) := fun v c v0 v1 v2 v3 v4 v5 v6 v7 => by
      refine CJ.go (fun _ => k_MO_atHand_0 ?_)
      rw [m1, m2, m3, m4, m5, m6, m7, m8]
      exact ⟨hra, fun _ => ⟨fun _ => ⟨fun e => ⟨v0 e, hs⟩, fun e => ⟨v1 e, hs⟩, fun e => ⟨v2 e, hs⟩, fun e => ⟨v3 e, hs⟩, fun e => ⟨v4 e, hs⟩, fun e => ⟨v5 e, hs⟩, fun e => ⟨v6 e, hs⟩, fun e => ⟨⟨by omega, by omega⟩, v7 (by omega), hs⟩⟩, fun q => absurd q y⟩, fun q => absurd c q⟩
    refine ⟨hra, fun _ => ⟨by omega, by omega⟩, fun c => ⟨fun _ => ⟨fun e => ⟨l1, mo _ c (fun _ => rfl) (fun q => by omega) (fun q => by omega) (fun q => by omega) (fun q => by omega) (fun q => by omega) (fun q => by omega) (fun q => by omega)⟩, fun e => ⟨l1, mo _ c (fun q => by omega) (fun _ => rfl) (fun q => by omega) (fun q => by omega) (fun q => by omega) (fun q => by omega) (fun q => by omega) (fun q => by omega)⟩, fun e => ⟨l1, mo _ c (fun q => by omega) (fun q => by omega) (fun _ => rfl) (fun q => by omega) (fun q => by omega) (fun q => by omega) (fun q => by omega) (fun q => by omega)⟩, fun e => ⟨l1, mo _ c (fun q => by omega) (fun q => by omega) (fun q => by omega) (fun _ => rfl) (fun q => by omega) (fun q => by omega) (fun q => by omega) (fun q => by omega)⟩, fun e => ⟨l1, CJ.mono hb.1 (fun r υ _ hυ => ?_)⟩, fun e => ⟨l1, CJ.mono hb.2 (fun r υ _ hυ => ?_)⟩, fun e => ⟨l1, mo _ c (fun q => by omega) (fun q => by omega) (fun q => by omega) (fun q => by omega) (fun q => by omega) (fun q => by omega) (fun _ => rfl) (fun q => by omega)⟩, fun e => ⟨l1, ⟨by omega, by omega⟩, mo _ c (fun q => by omega) (fun q => by omega) (fun q => by omega) (fun q => by omega) (fun q => by omega) (fun q => by omega) (fun q => by omega) (fun _ => rfl)⟩⟩, fun q => absurd z q⟩, fun c => ?_⟩
    · rw [hυ.1, hυ.2]
      exact mo _ c (fun q => by omega) (fun q => by omega) (fun q => by omega) (fun q => by omega) (fun _ => rfl) (fun q => by omega) (fun q => by omega) (fun q => by omega)
    · rw [hυ.1, hυ.2]
      exact mo _ c (fun q => by omega) (fun q => by omega) (fun q => by omega) (fun q => by omega) (fun q => by omega) (fun _ => rfl) (fun q => by omega) (fun q => by omega)
    · exact CJ.go (fun _ => k_MO_atHand_0 ⟨hra, fun q => absurd q c, fun _ => ⟨rfl, hs⟩⟩)
  · have y := g2 z
    refine CJ.go (fun R => k_JS_atHand_0 ⟨hra, fun _ => ⟨by omega, by omega⟩, fun c => ⟨fun q => absurd q z, fun _ => ?_⟩, fun c => ?_⟩)
    · exact CJ.go (fun _ => k_MO_atHand_0 ⟨hra, fun _ => ⟨fun q => absurd y q, fun _ => ⟨rfl, hs⟩⟩, fun q => absurd c q⟩)
    · exact CJ.go (fun _ => k_MO_atHand_0 ⟨hra, fun q => absurd q c, fun _ => ⟨rfl, hs⟩⟩)
