/-! ligature keeps the bond -/
theorem so_ligature {Inv : Nat → St → Prop} (hI : GoodI Inv) (G : GT) : SO_ligature G Inv := by
  intro k σ hk hi x y z b hx hy hz hb
  obtain ⟨hB, hF⟩ := hI.1 k σ hi
  obtain ⟨hS, hT, hC, hH⟩ := id hB
  have hs := hI.2.1 k σ hi
  have n := hS.1
  unfold NumOk at n
  have hf := hF
  unfold Fl at hf
  obtain ⟨N, hN⟩ : ∃ N : Nat, σ.2.1 8 6 = N := ⟨(σ.2.1 8 6).toNat, by omega⟩
  obtain ⟨K, hK⟩ : ∃ K : Nat, σ.2.1 8 7 = K := ⟨(σ.2.1 8 7).toNat, by omega⟩
  refine js_lig hS hx hy hz (fun q => ?_) (fun q1 q2 => ?_) (fun q1 q2 q3 => ?_) (fun q1 q2 q3 q4 q5 => ?_) (fun kn gd q3 q4 q5 => ⟨⟨by omega, by omega⟩, ?_⟩)
  · exact mo_lig hx hy hz (by omega) (fun _ => ⟨rfl, hs⟩) (fun w => absurd w q) (fun w => absurd w q) (fun w => absurd w q)
  · exact mo_lig hx hy hz (by omega) (fun w => absurd q1 w) (fun _ _ => ⟨rfl, hs⟩) (fun _ w => absurd w q2) (fun _ w => absurd w q2)
  · exact mo_lig hx hy hz (by omega) (fun w => absurd q1 w) (fun _ w => absurd q2 w) (fun _ _ _ => ⟨rfl, hs⟩) (fun _ _ w1 w2 => absurd q3 (by omega))
  · refine mo_lig hx hy hz (by omega) (fun w => absurd q1 w) (fun _ w => absurd q2 w) (fun _ _ w => absurd w (by omega)) (fun _ _ _ _ => ?_)
    refine l_moLig hx hy hz hN (by omega) (fun _ => ⟨rfl, hs⟩) (fun w => ?_) N 0 (by omega) (fun i hi => absurd hi (by omega))
    obtain ⟨l, l1, l2⟩ := (lig_same hS).mp q5
    exact absurd l2 (w l (by omega))
  · obtain ⟨kx, ky, kz⟩ := id kn
    have s47 : ∀ v : Int, 0 ≤ v ∧ v ≤ σ.2.1 8 6 - 1 → σ.1 47 v.toNat = σ.1 89 v.toNat := fun v hv => (hS.2.1 v.toNat (by omega)).1
    have hyz : 0 ≤ (if ¬ (z = (-1)) then z else y) ∧ (if ¬ (z = (-1)) then z else y) ≤ σ.2.1 8 6 - 1 := by split <;> omega
    refine CJ.go (fun R => k_SC_addLigature_0 ⟨hz, by omega, ?_⟩)
    have hlen : rng (if ¬ (z = (-1)) then (3 : Int) else (2 : Int)) := by split <;> exact ⟨by decide, by decide⟩
    refine CJ.mono (t_addLetter (by show 0 ≤ σ.2.1 1 0 ∧ σ.2.1 1 0 < 60; omega) ⟨by decide, by decide⟩ (R.1 _ _) hlen) (fun r5 u4 _ hu => ?_)
    obtain ⟨hr5, hu⟩ := hu
    have hr5 : r5 = N := by rw [hr5]; show σ.2.1 1 0 = N; omega
    subst hr5
    have u11 : u4.2.1 1 1 = K := by rw [hu]; show σ.2.1 1 1 = K; omega
    rw [u11]
    refine ⟨by omega, fun σ9 e9 => ⟨hb, fun σ13 e13 => ⟨hx, fun σ17 e17 => ⟨hy, fun σ21 e21 σ24 e24 => ⟨⟨by omega, by omega⟩, fun σ27 e27 => ?_⟩⟩⟩⟩⟩
    have tN : (σ.2.1 1 0).toNat = N := by omega
    rw [Int.toNat_natCast] at e9 e13 e17 e21 e24
    have RJ : ∀ k i, σ27.1 k i = if k = 168 + K ∧ i = 2 then z else if k = 168 + K ∧ i = 1 then y else if k = 168 + K ∧ i = 0 then x else if k = 53 ∧ i = K then b else if k = 51 ∧ i = K then (N : Int) else if k = 49 ∧ i = N then (if ¬ (z = (-1)) then (3 : Int) else (2 : Int)) else if k = 48 ∧ i = N then σ.1 47 (if ¬ (z = (-1)) then z else y).toNat else if k = 47 ∧ i = N then 7 else σ.1 k i := fun k i => by
      have e0 : ((sf σ 0 9 (σ.2.1 0 9 + 1)).2.1 1 0).toNat = N := tN
      rw [e27, e24, e21, e17, e13, e9, hu]
      unfold nlJ
      rw [e0]
      rfl
    have FJ : σ27.2 = (sf (sf (sf σ 0 9 (σ.2.1 0 9 + 1)) 1 0 (N + 1)) 1 1 (K + 1)).2 := by
      rw [e27, e24, e21, e17, e13, e9, hu]
      have : σ.2.1 1 0 = N := by omega
      rw [← this]
      rfl
    have lowJ : ∀ k, 54 ≤ k → k < 168 → σ27.1 k = σ.1 k := fun k h1 h2 => funext fun i => by
      rw [RJ, if_neg (by omega), if_neg (by omega), if_neg (by omega), if_neg (by omega), if_neg (by omega), if_neg (by omega), if_neg (by omega), if_neg (by omega)]
    have m6 : σ27.2.1 8 6 = N := by rw [FJ]; simp [sf_2, hN]
    have m7 : σ27.2.1 8 7 = K := by rw [FJ]; simp [sf_2, hK]
    have kn2 : knL σ27 x y z := by unfold knL at kn ⊢; rw [m6, ← hN]; exact kn
    have gd2 : gdL σ27 x y z := by unfold gdL at gd ⊢; rw [lowJ 89 (by decide) (by decide)]; exact gd
    refine mo_lig hx hy hz (by omega) (fun w => absurd kn2 w) (fun _ w => absurd gd2 w) (fun _ _ w => absurd w (by omega)) (fun _ _ _ _ => ?_)
    refine l_moLig hx hy hz m6 (by omega) (fun w => ?_) (fun w => ?_) N 0 (by omega) (fun i hi => absurd hi (by omega))
    · obtain ⟨l, l1, l2⟩ := w
      unfold isLm at l2
      rw [lowJ 89 (by decide) (by decide), lowJ 90 (by decide) (by decide), lowJ 91 (by decide) (by decide), lowJ 92 (by decide) (by decide)] at l2
      exact absurd ((lig_same hS).mpr ⟨l, by omega, l2⟩) q5
    refine k_MO_ligature_112 ?_
    rw [m6, m7, Int.toNat_natCast]
    refine ⟨⟨by omega, by omega⟩, fun _ => ⟨by omega, hx, fun t1 g1 => ⟨hy, fun t2 g2 => ⟨hz, fun t3 g3 => ⟨hb, fun t4 g4 => ⟨⟨by omega, by omega⟩, fun t5 g5 => ?_⟩⟩⟩⟩⟩, fun w => absurd w (by omega)⟩
    have p6 : t5.2.1 8 6 = N := by rw [g5, g4, g3, g2, g1]; exact m6
    refine CJ.mono (t_newLetter (by omega) ⟨by decide, by decide⟩) (fun r2 u _ hu2 => ?_)
    obtain ⟨hr2, hu2⟩ := hu2
    refine ⟨by omega, ?_⟩
    have RU : ∀ k i, u.1 k i = if k = 105 ∧ 4 * N ≤ i ∧ i < 4 * N + 4 then 0 else if k = 94 ∧ i = N then 0 else if k = 89 ∧ i = N then 7 else if k = 93 ∧ i = N then b else if k = 92 ∧ i = N then z else if k = 91 ∧ i = N then y else if k = 90 ∧ i = N then x else σ27.1 k i := fun k i => by
      rw [hu2, nlM_rd p6, g5, g4, g3, g2, g1]; rfl
    have FU : u.2 = (chg (sf (sf (sf (sf (sf σ 0 9 (σ.2.1 0 9 + 1)) 1 0 (N + 1)) 1 1 (K + 1)) 8 7 (K + 1)) 8 6 (N + 1))).2 := by
      rw [hu2]
      unfold nlM
      rw [p6]
      refine chg_c ?_
      rw [g5, g4, g3, g2, g1]
      exact sf_c (sf_c FJ)
    have x6 : u.2.1 8 6 = N + 1 := by rw [FU]; simp [chg, sf_2]
    have x7 : u.2.1 8 7 = K + 1 := by rw [FU]; simp [chg, sf_2]
    have x17 : u.2.1 8 17 = σ.2.1 8 17 := by rw [FU]; simp [chg, sf_2]
    have x1 : u.2.1 1 2 = σ.2.1 1 2 := by rw [FU]; simp [chg, sf_2]
    have x2 : u.2.1 1 0 = N + 1 := by rw [FU]; simp [chg, sf_2]
    have x3 : u.2.1 1 1 = K + 1 := by rw [FU]; simp [chg, sf_2]
    have oM : ∀ k, (k < 89 ∨ 94 < k) → k ≠ 105 → ∀ i, u.1 k i = σ27.1 k i := fun k h1 h2 i => by
      rw [RU, if_neg (by omega), if_neg (by omega), if_neg (by omega), if_neg (by omega), if_neg (by omega), if_neg (by omega), if_neg (by omega)]
    have oth : ∀ k, k = 50 ∨ (54 ≤ k ∧ k < 89) ∨ (94 < k ∧ k < 168 ∧ k ≠ 105) ∨ 176 ≤ k → u.1 k = σ.1 k := fun k h1 => funext fun i => by
      rw [oM k (by omega) (by omega), RJ, if_neg (by omega), if_neg (by omega), if_neg (by omega), if_neg (by omega), if_neg (by omega), if_neg (by omega), if_neg (by omega), if_neg (by omega)]
    have col : ∀ k, (47 ≤ k ∧ k ≤ 49) ∨ (89 ≤ k ∧ k ≤ 94) → ∀ i, i ≠ N → u.1 k i = σ.1 k i := fun k h1 i h2 => by
      rw [RU, if_neg (by omega), if_neg (by omega), if_neg (by omega), if_neg (by omega), if_neg (by omega), if_neg (by omega), if_neg (by omega), RJ, if_neg (by omega), if_neg (by omega), if_neg (by omega), if_neg (by omega), if_neg (by omega), if_neg (by omega), if_neg (by omega), if_neg (by omega)]
    have y51 : ∀ i, u.1 51 i = if i = K then (N : Int) else σ.1 51 i := fun i => by
      rw [oM 51 (by omega) (by omega), RJ, if_neg (by omega), if_neg (by omega), if_neg (by omega), if_neg (by omega)]
      by_cases q : i = K
      · rw [if_pos ⟨rfl, q⟩, if_pos q]
      · rw [if_neg (fun w => q w.2), if_neg (by omega), if_neg (by omega), if_neg (by omega), if_neg q]
    have y53 : ∀ i, u.1 53 i = if i = K then b else σ.1 53 i := fun i => by
      rw [oM 53 (by omega) (by omega), RJ, if_neg (by omega), if_neg (by omega), if_neg (by omega)]
      by_cases q : i = K
      · rw [if_pos ⟨rfl, q⟩, if_pos q]
      · rw [if_neg (fun w => q w.2), if_neg (by omega), if_neg (by omega), if_neg (by omega), if_neg (by omega), if_neg q]
    have row : ∀ i, i < 8 → i ≠ K → u.1 (168 + i) = σ.1 (168 + i) := fun i h1 h2 => funext fun j => by
      rw [oM _ (by omega) (by omega), RJ, if_neg (by omega), if_neg (by omega), if_neg (by omega), if_neg (by omega), if_neg (by omega), if_neg (by omega), if_neg (by omega), if_neg (by omega)]
    have rK0 : u.1 (168 + K) 0 = x := by rw [oM _ (by omega) (by omega), RJ]; simp
    have rK1 : u.1 (168 + K) 1 = y := by rw [oM _ (by omega) (by omega), RJ]; simp
    have rK2 : u.1 (168 + K) 2 = z := by rw [oM _ (by omega) (by omega), RJ]; simp
    have n47 : u.1 47 N = 7 := by rw [oM _ (by omega) (by omega), RJ]; simp; omega
    have n48 : u.1 48 N = σ.1 47 (if ¬ (z = (-1)) then z else y).toNat := by rw [oM _ (by omega) (by omega), RJ, if_neg (by omega), if_neg (by omega), if_neg (by omega), if_neg (by omega), if_neg (by omega), if_neg (by omega), if_pos ⟨rfl, rfl⟩]
    have n49 : u.1 49 N = (if ¬ (z = (-1)) then (3 : Int) else (2 : Int)) := by rw [oM _ (by omega) (by omega), RJ, if_neg (by omega), if_neg (by omega), if_neg (by omega), if_neg (by omega), if_neg (by omega), if_pos ⟨rfl, rfl⟩]
    have n89 : u.1 89 N = 7 := by rw [RU]; simp
    have n90 : u.1 90 N = x := by rw [RU]; simp
    have n91 : u.1 91 N = y := by rw [RU]; simp
    have n92 : u.1 92 N = z := by rw [RU]; simp
    have n93 : u.1 93 N = b := by rw [RU]; simp
    have n94 : u.1 94 N = 0 := by rw [RU]; simp
    obtain ⟨xN, hxN⟩ : ∃ v : Nat, x = v := ⟨x.toNat, by omega⟩
    obtain ⟨yN, hyN⟩ : ∃ v : Nat, y = v := ⟨y.toNat, by omega⟩
    obtain ⟨-, c1, c2, c3, c4, c5, c6, c7, c8, c9, c10⟩ := id hS
    have hIS : IS u := by
      refine ⟨by unfold NumOk; omega, fun l hl => ?_, fun l hl => ?_, fun i hi => ?_, fun l hl h7 => ?_, fun i j hij hj => ?_, fun i j hi hj => ?_, fun f hf => ?_, fun f hf1 hf2 => ?_, fun a ha => ?_, fun a ha => ?_⟩
      · by_cases e : l = N
        · rw [e]
          unfold LetOk
          rw [n47, n89, n94, oth 50 (by omega)]
          exact ⟨rfl, by decide, c2 N (by omega), Or.inl rfl, fun w => absurd rfl w⟩
        · have := c1 l (by omega)
          unfold LetOk at this ⊢
          rw [col 47 (by omega) l e, col 48 (by omega) l e, col 49 (by omega) l e, oth 50 (by omega), col 89 (by omega) l e, col 94 (by omega) l e]
          exact this
      · rw [oth 50 (by omega)]
        exact c2 l (by omega)
      · by_cases e : i = K
        · rw [e]
          refine ⟨N, ?_⟩
          unfold LigOk
          rw [y51, if_pos rfl, x6, n89, rK0, rK1, rK2, y53, if_pos rfl, n90, n91, n92, n93, n48, n49]
          refine ⟨rfl, by omega, rfl, rfl, rfl, rfl, rfl, hb, xN, yN, hxN, by omega, ?_, hyN, by omega, ?_⟩
          · rw [col 89 (by omega) xN (by omega)]
            unfold gdL at gd
            rw [hxN, Int.toNat_natCast] at gd
            exact gd.1
          · unfold gdL at gd
            rw [hxN, hyN, Int.toNat_natCast, Int.toNat_natCast] at gd
            rw [col 89 (by omega) yN (by omega)]
            by_cases ez : z = -1
            · rw [if_neg (by omega), if_neg (by omega), hyN, Int.toNat_natCast]
              have e47 := (c1 yN (by omega)).1
              exact Or.inl ⟨ez, by omega, rfl, e47⟩
            · obtain ⟨zN, hzN⟩ : ∃ v : Nat, z = v := ⟨z.toNat, by omega⟩
              have e47 := (c1 zN (by omega)).1
              rw [hzN, Int.toNat_natCast] at gd
              rw [if_pos ez, if_pos ez]
              refine Or.inr ⟨zN, hzN, by omega, by omega, ?_, rfl, ?_⟩
              · rw [col 89 (by omega) zN (by omega)]
                omega
              · rw [col 89 (by omega) zN (by omega), hzN, Int.toNat_natCast]
                exact e47
        · obtain ⟨g, hg⟩ := c3 i (by omega)
          refine ⟨g, ?_⟩
          unfold LigOk at hg ⊢
          obtain ⟨g1, g2, g3, g4, g5, g6, g7, g8, x', y', x1, x2, x3, y1, y2, rest⟩ := hg
          have gN : g ≠ N := by omega
          rw [y51, if_neg e, x6, col 89 (by omega) g gN, row i (by omega) e, col 90 (by omega) g gN, col 91 (by omega) g gN, col 92 (by omega) g gN, y53, if_neg e, col 93 (by omega) g gN]
          refine ⟨g1, by omega, g3, g4, g5, g6, g7, g8, x', y', x1, x2, by rw [col 89 (by omega) x' (by omega)]; exact x3, y1, y2, ?_⟩
          rw [col 89 (by omega) y' (by omega), col 49 (by omega) g gN, col 48 (by omega) g gN]
          rcases rest with r | ⟨z', z1, z2, z3, z4, z5, z6⟩
          · exact Or.inl r
          · refine Or.inr ⟨z', z1, z2, z3, ?_, z5, ?_⟩
            · rw [col 89 (by omega) z' (by omega)]; exact z4
            · rw [col 89 (by omega) z' (by omega)]; exact z6
      · by_cases e : l = N
        · exact ⟨K, by omega, by rw [y51, if_pos rfl, e]⟩
        · rw [col 89 (by omega) l e] at h7
          obtain ⟨i, i1, i2⟩ := c4 l (by omega) h7
          exact ⟨i, by omega, by rw [y51, if_neg (by omega)]; exact i2⟩
      · rw [y51, y51, if_neg (by omega)]
        by_cases e : j = K
        · rw [if_pos e]
          obtain ⟨g, g1, g2, -⟩ := c3 i (by omega)
          omega
        · rw [if_neg e]
          exact c5 i j hij (by omega)
      · rw [x7] at hi hj
        by_cases ei : i = K
        · by_cases ej : j = K
          · intros; omega
          · rw [ei, rK0, rK1, rK2, row j (by omega) ej]
            intro w1 w2 w3
            exact absurd ⟨j, by omega, w1.symm, w2.symm, w3.symm⟩ q5
        · by_cases ej : j = K
          · rw [ej, rK0, rK1, rK2, row i (by omega) ei]
            intro w1 w2 w3
            exact absurd ⟨i, by omega, w1, w2, w3⟩ q5
          · rw [row i (by omega) ei, row j (by omega) ej]
            exact c6 i j (by omega) (by omega)
      · have F0 := c7 f (by omega)
        unfold FormOk at F0 ⊢
        rw [oth (176 + f) (by omega)]
        simp only [oth 95 (by omega), oth 96 (by omega), oth 97 (by omega), oth 98 (by omega), oth 99 (by omega), oth 100 (by omega), oth 101 (by omega), oth 102 (by omega), oth 103 (by omega), x6]
        obtain ⟨d1, d2, d3, d4, d5, d6, d7, d8, d9, ⟨l, l1, l2⟩, rest⟩ := F0
        exact ⟨d1, d2, d3, d4, d5, d6, d7, d8, d9, ⟨l, l1, by omega⟩, rest⟩
      · rw [oth (176 + f) (by omega)]
        exact c8 f (by omega) hf2
      · unfold SlotOk
        rw [oth 55 (by omega), oth 56 (by omega), oth 95 (by omega), oth 96 (by omega), oth 104 (by omega), x17]
        by_cases e : 4 * N ≤ a
        · have b1 : u.1 105 a = 0 := by rw [RU, if_pos ⟨rfl, e, by omega⟩]
          rw [b1, c10 a (by omega)]
          exact ⟨rfl, by decide, fun k hk => absurd hk (by omega)⟩
        · have b1 : u.1 105 a = σ.1 105 a := by
            rw [RU, if_neg (by omega), if_neg (by omega), if_neg (by omega), if_neg (by omega), if_neg (by omega), if_neg (by omega), if_neg (by omega), lowJ 105 (by decide) (by decide)]
          rw [b1]
          exact c9 a (by omega)
      · rw [oth 55 (by omega)]
        exact c10 a (by omega)
    refine hI.2.2 _ _ ⟨hIS, IT_keep hT (fun k hk => oth k (by omega)) (fun j => by rw [FU]; simp [chg, sf_2]) (by rw [FU]; simp [chg, sf_2]) (by rw [FU]; simp [chg, sf_2]) (fun l hl => ?_), RC_keep hC (oth _ (by decide)) (oth _ (by decide)) (by rw [FU]; simp [chg, sf_2]) (by rw [FU]; simp [chg, sf_2]), by unfold HS; rw [FU]; exact hH⟩ (Cl.step hF (by rw [FU]; simp [chg, sf_2]) (fun j h1 _ => by rw [FU]; simp [chg, sf_2]; omega) (by rw [FU]; simp [chg, sf_2]) (by rw [FU]; simp [chg, sf_2]) (by rw [FU]; simp [chg, sf_2]) (by rw [FU]; simp [chg, sf_2]) (by rw [FU]; simp [chg, sf_2]))
    unfold LOk at hl ⊢
    rw [x6, col 89 (by omega) l.toNat (by omega)]
    exact ⟨hl.1, by omega, hl.2.2⟩
