/-! what is asked of the line at hand -/
theorem hand_f {k : Nat} {σ : St} (h : Inv k σ) : (isL σ.2.2.1 ∧ isL σ.2.2.2 ∧ σ.2.2.1 ≠ σ.2.2.2) ∧ (σ.2.1 0 11 = σ.2.1 0 9 → σ.2.1 8 68 ≠ 0 ∧ UNx σ σ ∧ CTx σ σ ∧ ∃ ps ms f t, HB1 σ σ.2.2.1 ps ms f t σ) ∧ (σ.2.1 0 11 ≠ σ.2.1 0 9 → σ.2.1 8 68 = 0) := by
  obtain ⟨hB, hF, hU, hH, hN, hL, hP⟩ := h
  obtain ⟨i1, -⟩ := Fl_is hF
  refine ⟨?_, fun z => ?_, fun z => ?_⟩
  · rcases hB.2.2.2 with q | q <;> rw [q] <;> exact ⟨by unfold isL; omega, by unfold isL; omega, by omega⟩
  · obtain ⟨-, -, -, -, -, -, -, -, -, -, -, -, c1, c2, -⟩ := hF
    have u := c2 z
    exact ⟨i1.mpr z, hU.1 u, hU.2 (c1 u), hH z⟩
  · rcases Int.lt_trichotomy (σ.2.1 8 68) 0 with y | y | y
    · exact absurd (i1.mp (by omega)) z
    · exact y
    · exact absurd (i1.mp (by omega)) z
theorem so_piece (G : GT) : SO_piece G Inv := by
  intro k σ hk h a b hra hrb
  have hs := Inv_good.2.1 k σ h
  obtain ⟨⟨l1, l2, l3⟩, g1, g2⟩ := hand_f h
  obtain ⟨⟨hS, hT, -⟩, -⟩ := id h
  have n := hS.1
  unfold NumOk at n
  have n8 := nU_le hT
  by_cases z : σ.2.1 0 11 = σ.2.1 0 9
  · obtain ⟨y, u1, u2, ps, ms, f, t, a1, a2, a3, a4, a5, a6, a7, a8, a9, a10, a11⟩ := g1 z
    obtain ⟨m1, m2, m3, m4, m5, m6, m7, m8, m9, m10, m11⟩ := a11
    refine CJ.go (fun R => k_JS_piece_0 ?_)
    rw [a1.1]
    by_cases hr : 0 ≤ a ∧ a ≤ (ps.length : Int) - 1
    · obtain ⟨q, hq⟩ : ∃ q, ps[a.toNat]? = some q := ⟨_, List.getElem?_eq_getElem (by omega)⟩
      obtain ⟨z1, z2, z3, z4, z5, z6, z7, z8⟩ := a1.2.2.2 a.toNat q hq
      obtain ⟨x1, x2, x3, x4, x5, x6, x7⟩ := m9 a.toNat q (by omega) hq
      obtain ⟨G1, G2, G3, G4, G5, G6⟩ := a7 q (List.mem_of_getElem? hq)
      obtain ⟨-, l0, hle, -, -⟩ := kl_mem hS hT G1 G2
      obtain ⟨p1, p2⟩ := place_J hS hT u1 rfl G1 l0 hle
      have r61 : σ.1 61 q.1 = up σ q.1 := (u1.2.2.2.1 q.1 G1).1
      rw [z1, z2, z3, z4, z5, Int.toNat_natCast q.1, r61, p2]
      (repeat' (first | with_reducible intro _ | with_reducible apply And.intro)) <;> first | assumption | omega | exact ⟨by omega, by omega⟩ | (exfalso; omega) | (refine CJ.go (fun _ => k_MO_piece_0 ?_); rw [m1, x1, x2, x3, x4, x5, x7]; (repeat' (first | with_reducible intro _ | with_reducible apply And.intro)) <;> first | assumption | omega | exact ⟨by omega, by omega⟩ | (exfalso; omega))
    · (repeat' (first | with_reducible intro _ | with_reducible apply And.intro)) <;> first | assumption | omega | exact ⟨by omega, by omega⟩ | (exfalso; omega) | (refine CJ.go (fun _ => k_MO_piece_0 ?_); rw [m1]; (repeat' (first | with_reducible intro _ | with_reducible apply And.intro)) <;> first | assumption | omega | exact ⟨by omega, by omega⟩ | (exfalso; omega))
  · have y := g2 z
    refine CJ.go (fun R => k_JS_piece_0 ⟨fun q => absurd q z, fun _ => CJ.go (fun _ => k_MO_piece_0 ⟨fun q => absurd y q, fun _ => ⟨rfl, hs⟩⟩)⟩)
theorem so_mark (G : GT) : SO_mark G Inv := by
  intro k σ hk h a b hra hrb
  have hs := Inv_good.2.1 k σ h
  obtain ⟨⟨l1, l2, l3⟩, g1, g2⟩ := hand_f h
  by_cases z : σ.2.1 0 11 = σ.2.1 0 9
  · obtain ⟨y, u1, u2, ps, ms, f, t, a1, a2, a3, a4, a5, a6, a7, a8, a9, a10, a11⟩ := g1 z
    obtain ⟨m1, m2, m3, m4, m5, m6, m7, m8, m9, m10, m11⟩ := a11
    have c0 : σ.2.1 (σ.2.2.1 + 7) 0 = (ms.length : Int) := by have := a2.1.1; rw [show (mbl ms).length = ms.length by unfold mbl; rw [List.length_map]] at this; exact this
    refine CJ.go (fun R => k_JS_mark_0 ?_)
    rw [c0]
    by_cases hr : 0 ≤ a ∧ a ≤ (ms.length : Int) - 1
    · obtain ⟨m, hm⟩ : ∃ m, ms[a.toNat]? = some m := ⟨_, List.getElem?_eq_getElem (by omega)⟩
      obtain ⟨z1, z2, z3⟩ := a2.2 a.toNat m hm
      obtain ⟨w1, w2, w3, w4⟩ := a2.1.2 a.toNat m.2.2.1 (by unfold mbl; rw [List.getElem?_map, hm]; rfl)
      obtain ⟨x1, x2, x3, x4, x5, x6⟩ := m10 a.toNat m (by omega) hm
      have v1 : σ.1 (σ.2.2.1 + 12) a.toNat = m.1 := z1
      have v2 : σ.1 (σ.2.2.1 + 13) a.toNat = m.2.1 := z2
      have v3 : σ.1 (σ.2.2.1 + 14) a.toNat = m.2.2.2 := z3
      have v4 : σ.1 (σ.2.2.1 + 8) a.toNat = m.2.2.1.1 := w1
      have v5 : σ.1 (σ.2.2.1 + 10) a.toNat = m.2.2.1.2.2.1 := w3
      have v6 : σ.1 (σ.2.2.1 + 11) a.toNat = m.2.2.1.2.2.2 := w4
      rw [v1, v2, v3, v4, v5, v6]
      (repeat' (first | with_reducible intro _ | with_reducible apply And.intro)) <;> first | assumption | omega | exact ⟨by omega, by omega⟩ | (exfalso; omega) | (refine CJ.go (fun _ => k_MO_mark_0 ?_); rw [m4, x1, x2, x3, x4, x5, x6]; (repeat' (first | with_reducible intro _ | with_reducible apply And.intro)) <;> first | assumption | omega | exact ⟨by omega, by omega⟩ | (exfalso; omega))
    · (repeat' (first | with_reducible intro _ | with_reducible apply And.intro)) <;> first | assumption | omega | exact ⟨by omega, by omega⟩ | (exfalso; omega) | (refine CJ.go (fun _ => k_MO_mark_0 ?_); rw [m4]; (repeat' (first | with_reducible intro _ | with_reducible apply And.intro)) <;> first | assumption | omega | exact ⟨by omega, by omega⟩ | (exfalso; omega))
  · have y := g2 z
    refine CJ.go (fun R => k_JS_mark_0 ⟨fun q => absurd q z, fun _ => CJ.go (fun _ => k_MO_mark_0 ⟨fun q => absurd y q, fun _ => ⟨rfl, hs⟩⟩)⟩)
theorem dgx {σ : St} (hS : IS σ) (hT : IT σ) {f t : Nat} (ht : t < tn σ) : DGx (dg σ) f t σ := by
  have n := hS.1
  unfold NumOk at n
  intro i i1 i2
  obtain ⟨x1, x2, x3, x4⟩ := hT.2.2.1 i (by unfold tn at ht; omega)
  have e : σ.1 57 i = tx σ i := x1
  have x2' : 0 ≤ tx σ i := x2
  have x3' : tx σ i < σ.2.1 8 6 := x3
  have e2 : σ.1 47 (tx σ i).toNat = ts σ i := (hS.2.1 (tx σ i).toNat (by omega)).1
  rw [e, e2]
  refine ⟨⟨x2', by omega⟩, ?_⟩
  unfold dg
  rw [decide_eq_true_iff]
theorem so_seen (G : GT) : SO_seen G Inv := by
  intro k σ hk h a hra
  have hs := Inv_good.2.1 k σ h
  obtain ⟨⟨l1, l2, l3⟩, g1, g2⟩ := hand_f h
  obtain ⟨⟨hS, hT, -⟩, -⟩ := id h
  obtain ⟨t1, t2, t3, -⟩ := id hT
  have tn8 : tn σ ≤ 80 := by unfold tn; omega
  by_cases z : σ.2.1 0 11 = σ.2.1 0 9
  · obtain ⟨y, u1, u2, ps, ms, f, t, a1, a2, a3, a4, a5, a6, a7, a8, a9, a10, a11⟩ := g1 z
    obtain ⟨m1, m2, m3, m4, m5, m6, m7, m8, m9, m10, m11⟩ := a11
    refine CJ.go (fun R => k_JS_seen_0 ⟨fun _ => ?_, fun q => absurd z q⟩)
    rw [a3, a4]
    refine ⟨l1, hra, fun _ => ⟨by omega, by omega⟩, fun c => ?_, fun c => ?_⟩
    · obtain ⟨b, rfl⟩ : ∃ b : Nat, a = b := ⟨a.toNat, by omega⟩
      rw [show (t : Int) - (b : Int) = ((t - b : Nat) : Int) by omega]
      refine CJ.mono (t_mirrored (dgx hS hT a6) (by omega) l1 a3 a4 (show f ≤ t - b by omega) (by omega)) (fun r υ _ hυ => ?_)
      rw [hυ.1]
      have hm := m11 b (by omega)
      refine CJ.go (fun R => k_MO_seen_0 ⟨fun _ => ?_, fun q => absurd q y⟩)
      rw [m7, m8, Int.toNat_natCast b, hm, if_neg (show ¬ ¬ (0 ≤ (b : Int) ∧ (b : Int) ≤ (t : Int) - (f : Int)) by omega)]
      have := mir_b (d := dg σ) (f := f) (t := t) (p := t - b) (by omega) (by omega)
      exact ⟨hra, ⟨by omega, by omega⟩, fun _ => by omega, ⟨by omega, by omega⟩, hυ.2, hs⟩
    · refine CJ.go (fun R => k_MO_seen_0 ⟨fun _ => ?_, fun q => absurd q y⟩)
      rw [m7, m8, if_pos (show ¬ (0 ≤ a ∧ a ≤ (t : Int) - (f : Int)) from c)]
      exact ⟨hra, ⟨by omega, by omega⟩, fun q => absurd q c, ⟨by omega, by omega⟩, rfl, hs⟩
  · have y := g2 z
    refine CJ.go (fun R => k_JS_seen_0 ⟨fun q => absurd q z, fun _ => CJ.go (fun _ => k_MO_seen_0 ⟨fun q => absurd y q, fun _ => ⟨rfl, hs⟩⟩)⟩)
theorem so_place (G : GT) : SO_place G Inv := by
  intro k σ hk h a hra
  have hs := Inv_good.2.1 k σ h
  obtain ⟨⟨l1, l2, l3⟩, g1, g2⟩ := hand_f h
  obtain ⟨⟨hS, hT, -⟩, -⟩ := id h
  obtain ⟨t1, t2, t3, -⟩ := id hT
  have tn8 : tn σ ≤ 80 := by unfold tn; omega
  by_cases z : σ.2.1 0 11 = σ.2.1 0 9
  · obtain ⟨y, u1, u2, ps, ms, f, t, a1, a2, a3, a4, a5, a6, a7, a8, a9, a10, a11⟩ := g1 z
    obtain ⟨m1, m2, m3, m4, m5, m6, m7, m8, m9, m10, m11⟩ := a11
    refine CJ.go (fun R => k_JS_place_0 ⟨fun _ => ?_, fun q => absurd z q⟩)
    rw [a3, a4]
    refine ⟨l1, hra, fun _ => ⟨by omega, by omega⟩, fun c => ?_, fun c => ?_⟩
    · obtain ⟨p, rfl⟩ : ∃ p : Nat, a = p := ⟨a.toNat, by omega⟩
      refine CJ.mono (t_mirrored (dgx hS hT a6) (by omega) l1 a3 a4 (show f ≤ p by omega) (by omega)) (fun r υ _ hυ => ?_)
      rw [hυ.1, hυ.2]
      obtain ⟨b1, b2, b3⟩ := mir_b (d := dg σ) (f := f) (t := t) (p := p) (by omega) (by omega)
      refine ⟨⟨by omega, by omega⟩, CJ.go (fun R => k_MO_place_0 ⟨fun _ => ?_, fun q => absurd q y⟩)⟩
      rw [m7, m8]
      refine ⟨hra, fun _ => ?_, fun q => absurd c q⟩
      have loop : ∀ (d i : Nat), i + d = t - mir (dg σ) f t p → a_MO_place_32 G p i σ (fun r2 σ2 => (t : Int) - (mir (dg σ) f t p : Int) = r2 ∧ Inv (k + 1) σ2) := by
        intro d
        induction d with
        | zero =>
          intro i hi
          have hm := m11 i (by omega)
          rw [show t - i = mir (dg σ) f t p by omega, b3] at hm
          refine k_MO_place_32 ?_
          rw [Int.toNat_natCast i, hm]
          exact ⟨by omega, hra, fun _ => ⟨⟨by omega, by omega⟩, by omega, hs⟩, fun q => absurd rfl q⟩
        | succ d ih =>
          intro i hi
          have hm := m11 i (by omega)
          refine k_MO_place_32 ?_
          rw [Int.toNat_natCast i, hm]
          refine ⟨by omega, hra, fun q => ?_, fun _ => ih (i + 1) (by omega)⟩
          exfalso
          have e : mir (dg σ) f t (t - i) = p := by omega
          have := (mir_b (d := dg σ) (f := f) (t := t) (p := t - i) (by omega) (by omega)).2.2
          rw [e] at this
          omega
      exact loop (t - mir (dg σ) f t p) 0 (by omega)
    · refine CJ.go (fun R => k_MO_place_0 ⟨fun _ => ?_, fun q => absurd q y⟩)
      rw [m7, m8]
      exact ⟨hra, fun q => absurd q c, fun _ => ⟨rfl, hs⟩⟩
  · have y := g2 z
    refine CJ.go (fun R => k_JS_place_0 ⟨fun q => absurd q z, fun _ => CJ.go (fun _ => k_MO_place_0 ⟨fun q => absurd y q, fun _ => ⟨rfl, hs⟩⟩)⟩)
