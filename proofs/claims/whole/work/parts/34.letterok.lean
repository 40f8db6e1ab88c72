/-! letter() keeps the script's bond -/
theorem nl_rd {σ : St} {s : Int} {N : Nat} (hN : σ.2.1 8 6 = N) (hJ : σ.2.1 1 0 = N) (k i : Nat) : (nlM (nlJ σ s s 1) s).1 k i = if k = 105 ∧ 4 * N ≤ i ∧ i < 4 * N + 4 then 0 else if k = 94 ∧ i = N then 0 else if k = 89 ∧ i = N then s else if k = 49 ∧ i = N then 1 else if k = 48 ∧ i = N then s else if k = 47 ∧ i = N then s else σ.1 k i := by
  have t1 : (N : Int).toNat = N := Int.toNat_natCast N
  have q0 : (4 * (N : Int) + 0).toNat = 4 * N := by omega
  have q1 : (4 * (N : Int) + 1).toNat = 4 * N + 1 := by omega
  have q2 : (4 * (N : Int) + 2).toNat = 4 * N + 2 := by omega
  have q3 : (4 * (N : Int) + 3).toNat = 4 * N + 3 := by omega
  simp only [nlM, nlJ, chg, sa_1, sa_2, sf_1, sf_2, hN, hJ, t1, q0, q1, q2, q3]
  simp only [show ¬ ((8 : Nat) = 1) by decide, false_and, if_false, hN, t1, q0, q1, q2, q3]
  by_cases h105 : k = 105
  · subst h105
    simp
    by_cases c3 : i = 4 * N + 3
    · simp [c3]
    · by_cases c2 : i = 4 * N + 2
      · simp [c2]
      · by_cases c1 : i = 4 * N + 1
        · simp [c1]
        · by_cases c0 : i = 4 * N
          · simp [c0]
          · simp [c0, c1, c2, c3]
            omega
  · simp [h105]
theorem IS_letter {σ τ : St} {s : Int} (h : IS σ) (hn : σ.2.1 8 6 < 60) (hs : 0 ≤ s ∧ s ≤ 6) (hτ : τ = nlM (nlJ σ s s 1) s) : IS τ := by
  obtain ⟨n, c1, c2, c3, c4, c5, c6, c7, c8, c9, c10⟩ := h
  have n2 := n
  unfold NumOk at n2
  obtain ⟨N, hN⟩ : ∃ N : Nat, σ.2.1 8 6 = N := ⟨(σ.2.1 8 6).toNat, by omega⟩
  have hJ : σ.2.1 1 0 = N := by omega
  have t1 : (N : Int).toNat = N := Int.toNat_natCast N
  have q0 : (4 * (N : Int) + 0).toNat = 4 * N := by omega
  have q1 : (4 * (N : Int) + 1).toNat = 4 * N + 1 := by omega
  have q2 : (4 * (N : Int) + 2).toNat = 4 * N + 2 := by omega
  have q3 : (4 * (N : Int) + 3).toNat = 4 * N + 3 := by omega
  have R : ∀ k i, τ.1 k i = if k = 105 ∧ 4 * N ≤ i ∧ i < 4 * N + 4 then 0 else if k = 94 ∧ i = N then 0 else if k = 89 ∧ i = N then s else if k = 49 ∧ i = N then 1 else if k = 48 ∧ i = N then s else if k = 47 ∧ i = N then s else σ.1 k i := by
    intro k i
    rw [hτ]
    exact nl_rd hN hJ k i
  have f10 : τ.2.1 1 0 = N + 1 := by rw [hτ]; simp [nlM, nlJ, chg, sa_2, sf_2, hJ]
  have f86 : τ.2.1 8 6 = N + 1 := by rw [hτ]; simp [nlM, nlJ, chg, sa_2, sf_2, hN]
  have f11 : τ.2.1 1 1 = σ.2.1 1 1 := by rw [hτ]; simp [nlM, nlJ, chg, sa_2, sf_2]
  have f87 : τ.2.1 8 7 = σ.2.1 8 7 := by rw [hτ]; simp [nlM, nlJ, chg, sa_2, sf_2]
  have f12 : τ.2.1 1 2 = σ.2.1 1 2 := by rw [hτ]; simp [nlM, nlJ, chg, sa_2, sf_2]
  have f88 : τ.2.1 8 17 = σ.2.1 8 17 := by rw [hτ]; simp [nlM, nlJ, chg, sa_2, sf_2]
  have Ro : ∀ k, k ≠ 105 → k ≠ 94 → k ≠ 89 → k ≠ 49 → k ≠ 48 → k ≠ 47 → ∀ i, τ.1 k i = σ.1 k i := by
    intro k a1 a2 a3 a4 a5 a6 i
    rw [R, if_neg (fun z => a1 z.1), if_neg (fun z => a2 z.1), if_neg (fun z => a3 z.1), if_neg (fun z => a4 z.1), if_neg (fun z => a5 z.1), if_neg (fun z => a6 z.1)]
  have Rl : ∀ k, k ≠ 105 → ∀ i, i ≠ N → τ.1 k i = σ.1 k i := by
    intro k a1 i hi
    rw [R, if_neg (fun z => a1 z.1), if_neg (fun z => hi z.2), if_neg (fun z => hi z.2), if_neg (fun z => hi z.2), if_neg (fun z => hi z.2), if_neg (fun z => hi z.2)]
  refine ⟨?_, fun l hl => ?_, fun l hl => ?_, fun i hi => ?_, fun l hl h7 => ?_, fun i j hij hj => ?_, fun i j hi hj => ?_, fun f hf => ?_, fun f hf1 hf2 => ?_, fun a ha => ?_, fun a ha => ?_⟩
  · unfold NumOk
    omega
  · by_cases e : l = N
    · subst e
      unfold LetOk
      have b47 : τ.1 47 l = s := by rw [R]; simp
      have b48 : τ.1 48 l = s := by rw [R]; simp
      have b49 : τ.1 49 l = 1 := by rw [R]; simp
      have b89 : τ.1 89 l = s := by rw [R]; simp
      have b94 : τ.1 94 l = 0 := by rw [R]; simp
      have b50 : τ.1 50 l = 0 := by rw [Ro 50 (by decide) (by decide) (by decide) (by decide) (by decide) (by decide)]; exact c2 l (by omega)
      rw [b47, b48, b49, b89, b94, b50]
      exact ⟨rfl, by omega, rfl, Or.inl rfl, fun _ => ⟨rfl, rfl⟩⟩
    · have := c1 l (by omega)
      unfold LetOk at this ⊢
      rw [Rl 47 (by decide) l e, Rl 48 (by decide) l e, Rl 49 (by decide) l e, Rl 50 (by decide) l e, Rl 89 (by decide) l e, Rl 94 (by decide) l e]
      exact this
  · rw [Ro 50 (by decide) (by decide) (by decide) (by decide) (by decide) (by decide)]
    exact c2 l (by omega)
  · rw [f87] at hi
    obtain ⟨g, hg⟩ := c3 i hi
    refine ⟨g, ?_⟩
    unfold LigOk at hg ⊢
    obtain ⟨g1, g2, g3, g4, g5, g6, g7, g8, x, y, x1, x2, x3, y1, y2, rest⟩ := hg
    have gN : g ≠ N := by omega
    have xN : x ≠ N := by omega
    have yN : y ≠ N := by omega
    have hr := Ro (168 + i) (by omega) (by omega) (by omega) (by omega) (by omega) (by omega)
    rw [Ro 51 (by decide) (by decide) (by decide) (by decide) (by decide) (by decide) i, f86, Rl 89 (by decide) g gN, hr, hr, hr, Rl 90 (by decide) g gN, Rl 91 (by decide) g gN, Rl 92 (by decide) g gN, Ro 53 (by decide) (by decide) (by decide) (by decide) (by decide) (by decide) i, Rl 93 (by decide) g gN]
    refine ⟨g1, by omega, g3, g4, g5, g6, g7, g8, x, y, x1, x2, by rw [Rl 89 (by decide) x xN]; exact x3, y1, y2, ?_⟩
    rw [Rl 89 (by decide) y yN, Rl 49 (by decide) g gN, Rl 48 (by decide) g gN]
    rcases rest with r | ⟨z, z1, z2, z3, z4, z5, z6⟩
    · exact Or.inl r
    · refine Or.inr ⟨z, z1, z2, z3, ?_, z5, ?_⟩
      · rw [Rl 89 (by decide) z (by omega)]; exact z4
      · rw [Rl 89 (by decide) z (by omega)]; exact z6
  · by_cases e : l = N
    · subst e
      rw [R] at h7
      simp at h7
      omega
    · rw [Rl 89 (by decide) l e] at h7
      obtain ⟨i, i1, i2⟩ := c4 l (by omega) h7
      refine ⟨i, by omega, ?_⟩
      rw [Ro 51 (by decide) (by decide) (by decide) (by decide) (by decide) (by decide)]
      exact i2
  · rw [Ro 51 (by decide) (by decide) (by decide) (by decide) (by decide) (by decide), Ro 51 (by decide) (by decide) (by decide) (by decide) (by decide) (by decide)]
    exact c5 i j hij (by omega)
  · have hr := Ro (168 + i) (by omega) (by omega) (by omega) (by omega) (by omega) (by omega)
    have hr2 := Ro (168 + j) (by omega) (by omega) (by omega) (by omega) (by omega) (by omega)
    rw [hr, hr, hr, hr2, hr2, hr2]
    exact c6 i j (by omega) (by omega)
  · have := c7 f (by omega)
    unfold FormOk at this ⊢
    have hr := Ro (176 + f) (by omega) (by omega) (by omega) (by omega) (by omega) (by omega)
    have o := fun k (a1 : k ≠ 105) (a2 : k ≠ 94) (a3 : k ≠ 89) (a4 : k ≠ 49) (a5 : k ≠ 48) (a6 : k ≠ 47) => Ro k a1 a2 a3 a4 a5 a6 f
    simp only [hr, o 95 (by decide) (by decide) (by decide) (by decide) (by decide) (by decide), o 96 (by decide) (by decide) (by decide) (by decide) (by decide) (by decide), o 97 (by decide) (by decide) (by decide) (by decide) (by decide) (by decide), o 98 (by decide) (by decide) (by decide) (by decide) (by decide) (by decide), o 99 (by decide) (by decide) (by decide) (by decide) (by decide) (by decide), o 100 (by decide) (by decide) (by decide) (by decide) (by decide) (by decide), o 101 (by decide) (by decide) (by decide) (by decide) (by decide) (by decide), o 102 (by decide) (by decide) (by decide) (by decide) (by decide) (by decide), o 103 (by decide) (by decide) (by decide) (by decide) (by decide) (by decide), f86]
    obtain ⟨d1, d2, d3, d4, d5, d6, d7, d8, d9, ⟨l, l1, l2⟩, rest⟩ := this
    exact ⟨d1, d2, d3, d4, d5, d6, d7, d8, d9, ⟨l, l1, by omega⟩, rest⟩
  · have hr := Ro (176 + f) (by omega) (by omega) (by omega) (by omega) (by omega) (by omega)
    rw [hr, hr]
    exact c8 f (by omega) hf2
  · unfold SlotOk
    rw [Ro 55 (by decide) (by decide) (by decide) (by decide) (by decide) (by decide)]
    by_cases e : 4 * N ≤ a
    · have b : τ.1 105 a = 0 := by rw [R, if_pos ⟨rfl, e, by omega⟩]
      rw [b, c10 a (by omega)]
      exact ⟨rfl, by decide, fun k hk => absurd hk (by omega)⟩
    · have b : τ.1 105 a = σ.1 105 a := by rw [R]; simp [e]
      have := c9 a (by omega)
      unfold SlotOk at this
      obtain ⟨d1, d2, d3⟩ := this
      rw [b]
      refine ⟨d1, d2, fun k hk => ?_⟩
      obtain ⟨d4, f, d5, d6, d7⟩ := d3 k hk
      rw [Ro 56 (by decide) (by decide) (by decide) (by decide) (by decide) (by decide), Ro 104 (by decide) (by decide) (by decide) (by decide) (by decide) (by decide)]
      refine ⟨d4, f, d5, by omega, ?_⟩
      rw [Ro 95 (by decide) (by decide) (by decide) (by decide) (by decide) (by decide), Ro 96 (by decide) (by decide) (by decide) (by decide) (by decide) (by decide)]
      exact d7
  · rw [Ro 55 (by decide) (by decide) (by decide) (by decide) (by decide) (by decide)]
    exact c10 a (by omega)
