/-! letter() keeps the script's bond -/
theorem IS_letter {σ : St} {s : Int} (h : IS σ) (hn : σ.2.1 8 6 < 60) (hs : 0 ≤ s ∧ s ≤ 6) : IS (nlM (nlJ σ s s 1) s) := by
  obtain ⟨n, c1, c2, c3, c4, c5, c6, c7, c8, c9, c10⟩ := h
  have n2 := n
  unfold NumOk at n2
  obtain ⟨N, hN⟩ : ∃ N : Nat, σ.2.1 8 6 = N := ⟨(σ.2.1 8 6).toNat, by omega⟩
  have hJ : σ.2.1 1 0 = N := by omega
  have t1 : (N : Int).toNat = N := Int.toNat_natCast N
  have q0 : (4 * (N : Int) + 0).toNat = 4 * N := by omega
  have q1 : (4 * (N : Int) + 1).toNat = 4 * N + 1 := by omega
  have q2 : (4 * (N : Int) + 2).toNat = 4 * N + 2 := by omega
  have q3 : (4 * (N : Int) + 3).toNat = 4 * N + 3 := by omega
  have E : nlM (nlJ σ s s 1) s = nlM (nlJ σ s s 1) s := rfl
  unfold IS NumOk LetOk LigOk FormOk SlotOk
  simp only [nlM, nlJ, chg, sa_1, sa_2, sf_1, sf_2, hN, hJ, t1, q0, q1, q2, q3]
  simp
  sorry
