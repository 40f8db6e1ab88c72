/-! the reference's set line -/
def FrS (σ τ : St) : Prop := (∀ k, (k < 124 ∨ 138 < k) → τ.1 k = σ.1 k) ∧ (∀ k, k ≠ 8 → τ.2.1 k = σ.2.1 k) ∧ (∀ j, (j < 44 ∨ 67 < j) → τ.2.1 8 j = σ.2.1 8 j) ∧ τ.2.2 = σ.2.2
theorem FrS.refl {σ : St} : FrS σ σ := ⟨fun _ _ => rfl, fun _ _ => rfl, fun _ _ => rfl, rfl⟩
theorem FrS.trans {σ τ υ : St} (h : FrS σ τ) (g : FrS τ υ) : FrS σ υ := ⟨fun k hk => (g.1 k hk).trans (h.1 k hk), fun k hk => (g.2.1 k hk).trans (h.2.1 k hk), fun j hj => (g.2.2.1 j hj).trans (h.2.2.1 j hj), g.2.2.2.trans h.2.2.2⟩
theorem FrS.sa {σ τ : St} (h : FrS σ τ) {k i : Nat} {v : Int} (hk : 124 ≤ k ∧ k ≤ 138) : FrS σ (sa τ k i v) := ⟨fun j hj => by rw [sa_ne (by omega)]; exact h.1 j hj, h.2.1, h.2.2.1, h.2.2.2⟩
theorem FrS.sf {σ τ : St} (h : FrS σ τ) {j : Nat} {v : Int} (hj : 44 ≤ j ∧ j ≤ 67) : FrS σ (sf τ 8 j v) := ⟨h.1, fun k hk => by rw [sf_ne hk]; exact h.2.1 k hk, fun i hi => by rw [sf_nx (by omega)]; exact h.2.2.1 i hi, h.2.2.2⟩
theorem FLs.s {σ τ : St} (h : FLs σ τ) : FrS σ τ := ⟨fun k hk => h.2 k (by omega), fun _ _ => by rw [h.1], fun _ _ => by rw [h.1], by rw [h.1]⟩
def SMx (σ : St) (ps : List Pc) (τ : St) : Prop := τ.2.1 8 44 = ps.length ∧ τ.2.1 8 53 = tw σ ps ∧ τ.2.1 8 54 = tp σ ps ∧ ∀ k q, ps[k]? = some q → τ.1 125 k = q.2.1 ∧ τ.1 126 k = up σ q.1 ∧ τ.1 127 k = plc σ q.1 q.2.1 ∧ τ.1 128 k = q.2.2.1 ∧ τ.1 129 k = q.2.2.2 ∧ τ.1 130 k = ln3 σ q.2.1.toNat ∧ τ.1 131 k = tw σ (ps.take k) ∧ ∀ v, q.1 ≤ v → v < q.1 + ln3 σ q.2.1.toNat → bh σ v ≤ v → τ.1 132 (bc σ v) = k
theorem t_addM {G : GT} {σ τ : St} (hS : IS σ) (hT : IT σ) (hC : CTx σ σ) (hF : FrS σ τ) {ps : List Pc} {q : Pc} {F : Nat} (hps : Chn σ F ps q.1) (hq : GPc σ q) (h : SMx σ ps τ) : CJ G m_MO_addPiece [O 8, I (bc σ q.1), I (bc σ (q.1 + ln3 σ q.2.1.toNat)), I q.2.1, I q.2.2.1, I q.2.2.2] τ (fun _ υ => SMx σ (ps ++ [q]) υ ∧ FrS τ υ ∧ υ.1 124 = τ.1 124 ∧ (∀ k, 132 < k → υ.1 k = τ.1 k) ∧ ∀ j, j ≠ 44 → j ≠ 53 → j ≠ 54 → υ.2.1 8 j = τ.2.1 8 j) := by
  have n := hS.1
  unfold NumOk at n
  have n8 := nU_le hT
  obtain ⟨u, l, f, s⟩ := q
  obtain ⟨g1, g2, g3, g4, g5, g6⟩ := id hq
  simp only at g1 g2 g3 g4 g5 g6 hps
  obtain ⟨b0, b1, b2, b3, b4, b5, b6, b7⟩ := form_b hS g3
  obtain ⟨p1, p2, p3, p4⟩ := piece_b hS hq
  obtain ⟨q1, q2, q3⟩ := line_b hS (fun p hp => (Chn_G hps p hp).1)
  have hlen := Chn_len hps
  obtain ⟨a1, a2, a3, a4⟩ := h
  have hBS := hC.2.2.2.2.2.1
  obtain ⟨hb, hl0, hle, hor, cr⟩ := kl_mem hS hT g1 g2
  obtain ⟨k1, k2, k3, -, -⟩ := kl_bc hS hT hBS g1 g2
  have lp := ln3_pos (σ := σ) (g := l.toNat)
  have m1 := bc_le (σ := σ) (u := u + ln3 σ l.toNat)
  simp only
  refine CJ.go (fun _ => k_MO_addPiece_0 ?_)
  have loop : ∀ (d v : Nat) (υ : St), v + d = u + ln3 σ l.toNat → u ≤ v → bh σ v ≤ v → FrS τ υ → υ.2 = τ.2 → (∀ k, k ≠ 132 → υ.1 k = τ.1 k) → (∀ x, x < u → bh σ x ≤ x → υ.1 132 (bc σ x) = τ.1 132 (bc σ x)) → (∀ x, u ≤ x → x < v → bh σ x ≤ x → υ.1 132 (bc σ x) = ps.length) → a_MO_addPiece_6 G (bc σ u) (bc σ (u + ln3 σ l.toNat)) l f s ((v : Int) - (u : Int)) (bc σ v) υ (fun _ υ => SMx σ (ps ++ [(u, l, f, s)]) υ ∧ FrS τ υ ∧ υ.1 124 = τ.1 124 ∧ (∀ k, 132 < k → υ.1 k = τ.1 k) ∧ ∀ j, j ≠ 44 → j ≠ 53 → j ≠ 54 → υ.2.1 8 j = τ.2.1 8 j) := by
    intro d
    induction d using Nat.strongRecOn with
    | _ d ihd =>
      intro v υ hv huv hbv r0 r2 r3 r4 r5
      have hbv2 := bc_le (σ := σ) (u := v)
      by_cases hve : v = u + ln3 σ l.toNat
      · have hF2 : ∀ k, (k < 124 ∨ (124 < k ∧ k < 132)) → υ.1 k = τ.1 k := fun k hk => r3 k (by omega)
        have e97 : υ.1 97 = σ.1 97 := by rw [r3 97 (by decide)]; exact hF.1 97 (by omega)
        have e100 : υ.1 100 = σ.1 100 := by rw [r3 100 (by decide)]; exact hF.1 100 (by omega)
        have e103 : υ.1 103 = σ.1 103 := by rw [r3 103 (by decide)]; exact hF.1 103 (by omega)
        have e119 : υ.1 119 (bc σ u) = up σ u := by rw [r3 119 (by decide), hF.1 119 (by omega)]; exact (hBS u g1 hb).2.2.1
        have eW : υ.2.1 8 53 = tw σ ps := by rw [r2]; exact a2
        have eP : υ.2.1 8 54 = tp σ ps := by rw [r2]; exact a3
        have eN : υ.2.1 8 44 = ps.length := by rw [r2]; exact a1
        have hbu := bc_le (σ := σ) (u := u)
        refine k_MO_addPiece_6 ?_
        rw [eN, eW, eP, Int.toNat_natCast, Int.toNat_natCast, Int.toNat_natCast, e97, e100, e103, e119]
        have hwd : (tw σ ps : Int) + (σ.1 97 f + (s : Int)) = (tw σ ps : Int) + (wdp σ (u, l, f, s) : Int) := by unfold wdp wd; simp only; omega
        have hcs : σ.1 100 f + σ.1 103 f * s * s = csp σ (u, l, f, s) := rfl
        rw [hwd, hcs]
        have hupu := (up_ex g1).1
        have htn8 : tn σ ≤ 80 := by have := hT.2.1; unfold tn; omega
        refine ⟨⟨by omega, by omega⟩, ⟨by omega, by omega⟩, fun _ => ⟨by omega, ⟨by omega, by omega⟩, fun s7 e7 => ⟨by omega, fun s12 e12 => ?_⟩⟩, fun z => absurd z (by rw [hve]; omega)⟩
        have A12 : ∀ k, k ≠ 125 → k ≠ 126 → s12.1 k = υ.1 k := fun k h1 h2 => by rw [e12, e7, sa_ne h2, sa_ne h1]
        obtain ⟨pl1, pl2⟩ := place_M (τ := s12) hS hT hBS (by rw [A12 121 (by decide) (by decide), r3 121 (by decide)]; exact hF.1 121 (by omega)) (by rw [A12 122 (by decide) (by decide), r3 122 (by decide)]; exact hF.1 122 (by omega)) g1 g2
        rw [pl2]
        refine ⟨pl1, fun s17 e17 => ⟨⟨by omega, by omega⟩, fun s21 e21 => ⟨⟨by omega, by omega⟩, fun s25 e25 => ⟨⟨by omega, by omega⟩, fun s29 e29 s33 e33 => ⟨by omega, ⟨by omega, by omega⟩, fun s38 e38 => ⟨⟨by omega, by omega⟩, ⟨by omega, by omega⟩, fun s46 e46 => ⟨⟨by omega, by omega⟩, fun s50 e50 => ?_⟩⟩⟩⟩⟩⟩⟩
        have A : ∀ k i, s50.1 k i = if k = 131 ∧ i = ps.length then (tw σ ps : Int) else if k = 130 ∧ i = ps.length then (v : Int) - (u : Int) else if k = 129 ∧ i = ps.length then (s : Int) else if k = 128 ∧ i = ps.length then (f : Int) else if k = 127 ∧ i = ps.length then plc σ u l else if k = 126 ∧ i = ps.length then (up σ u : Int) else if k = 125 ∧ i = ps.length then l else υ.1 k i := fun k i => by
          rw [e50, e46, e38, e33, e29, e25, e21, e17, e12, e7]; rfl
        have Ef : s50.2 = (sf (sf (sf τ 8 53 ((tw σ ps : Int) + (wdp σ (u, l, f, s) : Int))) 8 54 (tp σ ps + csp σ (u, l, f, s))) 8 44 ((ps.length : Int) + 1)).2 := by
          rw [e50, e46, e38, e33, e29, e25, e21, e17, e12, e7]
          exact sf_c (sf_c (sf_c r2))
        refine ⟨⟨?_, ?_, ?_, fun k p hp => ?_⟩, ?_, ?_, fun k hk => ?_, fun j h1 h2 h3 => ?_⟩
        · rw [Ef, sf_at]; simp
        · rw [Ef, sf_nx (by decide), sf_nx (by decide), sf_at, tw_app]; simp [tw]
        · rw [Ef, sf_nx (by decide), sf_at, tp_app]; simp [tp]
        · by_cases hk : k < ps.length
          · rw [List.getElem?_append_left hk] at hp
            have hne : k ≠ ps.length := by omega
            have R : ∀ a, a ≠ 132 → s50.1 a k = τ.1 a k := fun a ha => by rw [A]; simp [hne]; rw [r3 a ha]
            obtain ⟨z1, z2, z3, z4, z5, z6, z7, z8⟩ := a4 k p hp
            rw [R _ (by decide), R _ (by decide), R _ (by decide), R _ (by decide), R _ (by decide), R _ (by decide), R _ (by decide), List.take_append_of_le_length (by omega)]
            refine ⟨z1, z2, z3, z4, z5, z6, z7, fun x x1 x2 x3 => ?_⟩
            have hxu : x < u := by
              have := (Chn_G hps p (List.mem_of_getElem? hp)).2.2
              omega
            rw [A]
            simp
            rw [r4 x hxu x3]
            exact z8 x x1 x2 x3
          · have hk2 : k = ps.length := by
              have := (List.getElem?_eq_some_iff.mp hp).1
              simp at this
              omega
            subst hk2
            rw [List.getElem?_concat_length] at hp
            have hp2 := Option.some.inj hp
            subst hp2
            rw [List.take_left' rfl]
            refine ⟨by rw [A]; simp, by rw [A]; simp, by rw [A]; simp, by rw [A]; simp, by rw [A]; simp, ?_, by rw [A]; simp, fun x x1 x2 x3 => ?_⟩
            · rw [A]; simp; omega
            · rw [A]
              simp
              exact r5 x x1 (by simp only at x2; omega) x3
        · rw [e50, e46, e38, e33, e29, e25, e21, e17, e12, e7]
          exact ((((((((((r0.sa (by decide)).sa (by decide)).sa (by decide)).sa (by decide)).sa (by decide)).sa (by decide)).sa (by decide)).sf (by decide)).sf (by decide)).sf (by decide))
        · funext i
          rw [A]; simp
          rw [r3 124 (by decide)]
        · funext i
          rw [A, if_neg (by omega), if_neg (by omega), if_neg (by omega), if_neg (by omega), if_neg (by omega), if_neg (by omega), if_neg (by omega), r3 k (by omega)]
        · rw [Ef, sf_nx h1, sf_nx h3, sf_nx h2]
      · have hvlt : v < u + ln3 σ l.toNat := by omega
        have hvn : v < nU σ := by omega
        have lv := (ln3_pos (σ := σ) (g := (lb σ v).toNat)).1
        have hbc1 := bc_in hbv (v + ln3 σ (lb σ v).toNat) (by omega) (Nat.le_refl _)
        have hbh1 := bh_in hbv (v + ln3 σ (lb σ v).toNat) (by omega) (Nat.le_refl _)
        have hlt := bc_lt hbv hvlt
        have hstep : v + ln3 σ (lb σ v).toNat ≤ u + ln3 σ l.toNat := by
          rcases Nat.lt_or_ge (u + ln3 σ l.toNat) (v + ln3 σ (lb σ v).toNat) with z | z
          · have := bh_in hbv (u + ln3 σ l.toNat) (by omega) (by omega)
            omega
          · exact z
        have hcnt : υ.1 120 (bc σ v) = ln3 σ (lb σ v).toNat := by
          rw [r3 120 (by decide), hF.1 120 (by omega)]
          exact (hBS v hvn hbv).2.2.2.1
        have eN : υ.2.1 8 44 = ps.length := by rw [r2]; exact a1
        refine k_MO_addPiece_6 ?_
        rw [eN, Int.toNat_natCast (bc σ v), hcnt]
        refine ⟨⟨by omega, by omega⟩, ⟨by omega, by omega⟩, fun z => absurd z (by omega), fun _ => ⟨by omega, fun s55 e55 => ?_⟩⟩
        have := ihd (u + ln3 σ l.toNat - (v + ln3 σ (lb σ v).toNat)) (by omega) (v + ln3 σ (lb σ v).toNat) s55 (by omega) (by omega) (by omega) (by rw [e55]; exact r0.sa (by decide)) (by rw [e55]; exact r2) (fun k hk => by rw [e55, sa_ne hk]; exact r3 k hk) (fun x x1 x2 => ?_) (fun x x1 x2 x3 => ?_)
        · rw [hbc1, show (((v + ln3 σ (lb σ v).toNat : Nat) : Int) - (u : Int)) = (v : Int) - (u : Int) + (ln3 σ (lb σ v).toNat : Int) by omega, show ((bc σ v + 1 : Nat) : Int) = (bc σ v : Int) + 1 by omega] at this
          exact this
        · have := bc_lt x2 (show x < v by omega)
          rw [e55, sa_nx (by omega)]
          exact r4 x x1 x2
        · rw [e55]
          by_cases y : x = v
          · rw [y, sa_at]
          · have hxv : x < v := by
              rcases Nat.lt_or_ge x v with z | z
              · exact z
              · exfalso
                have := bh_in hbv x (by omega) (by omega)
                omega
            have := bc_lt x3 hxv
            rw [sa_nx (by omega)]
            exact r5 x x1 hxv x3
  have := loop (ln3 σ l.toNat) u τ (by omega) (Nat.le_refl _) hb FrS.refl rfl (fun _ _ => rfl) (fun _ _ _ => rfl) (fun x h1 h2 => absurd h1 (by omega))
  rw [show ((u : Int) - (u : Int)) = 0 by omega] at this
  exact this
