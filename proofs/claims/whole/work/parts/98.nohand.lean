/-! no line is at hand any more -/
theorem Inv_nohand {k : Nat} {τ ρ : St} (h : Inw k τ) (hu : τ.2.1 0 10 = τ.2.1 0 9) (A : ∀ k, HT k → ρ.1 k = τ.1 k) (O : ∀ k, (1 ≤ k ∧ k ≤ 4) ∨ k = 6 ∨ k = 7 → ρ.2.1 k = τ.2.1 k) (F8 : ∀ j, j < 26 ∨ 94 < j → ρ.2.1 8 j = τ.2.1 8 j) (F0 : ∀ j, j = 9 ∨ j = 10 ∨ j = 13 ∨ j = 14 → ρ.2.1 0 j = τ.2.1 0 j) (hp : ρ.2.2 = τ.2.2) (hc : ρ.2.1 8 26 = 1) (hC : CTx ρ ρ) (hh : ρ.2.1 0 11 = -6) (hi : ρ.2.1 8 68 = 0) (hn : ρ.2.1 0 12 ≤ ρ.2.1 0 9) (hni : ρ.2.1 8 91 = (if ρ.2.1 0 12 = ρ.2.1 0 9 then 1 else 0)) (hNB : NB ρ) : Inv (k + 1) ρ := by
  obtain ⟨hB, ⟨⟨a1, a2, a3, a4, a5, a6, a7⟩, ⟨b1, b2, b3, b4, b5⟩, c2, c3, c4, c5⟩, hUB, hH, hN, hL, hP⟩ := h
  have hs : Same τ ρ := ⟨fun k hk => A k (by unfold SK at hk; unfold HT; omega), fun j => by rw [O 1 (by omega)], fun j => by rw [O 2 (by omega)], fun j => by rw [O 3 (by omega)], F8 6 (by omega), F8 7 (by omega), F8 17 (by omega), F8 21 (by omega), F8 _ (by decide), F8 _ (by decide)⟩
  obtain ⟨ab, af⟩ := hs.ab
  have o9 := F0 9 (by omega)
  have o10 := F0 10 (by omega)
  have o13 := F0 13 (by omega)
  have o14 := F0 14 (by omega)
  have hu' : τ.2.1 0 10 = τ.2.1 0 9 := hu
  have a1' : 0 ≤ τ.2.1 0 9 := a1
  have hh' : ρ.2.1 0 11 = -6 := hh
  have hne : ¬ ρ.2.1 0 11 = ρ.2.1 0 9 := by rw [hh', o9]; omega
  refine Inw_v ⟨Base_keep hB hs hp, ?_, ⟨fun _ => ?_, fun _ => hC⟩, fun z => absurd z hne, hNB, ?_, ?_⟩ (fun _ => hc)
  · refine ⟨⟨by rw [o9]; exact a1, by rw [o9]; omega, by rw [o9, o10]; exact a3, by rw [hh', o9]; omega, hn, by rw [o9, o13]; exact a6, by rw [o9, o14]; exact a7⟩, ⟨by rw [if_neg hne]; exact hi, hni, by rw [o9, o13, show ρ.2.1 8 100 = τ.2.1 8 100 from F8 100 (by omega)]; exact b3, by rw [o9, o14, show ρ.2.1 8 109 = τ.2.1 8 109 from F8 109 (by omega)]; exact b4, Or.inr hc⟩, fun _ => by rw [o9, o10]; exact hu', fun _ => by rw [o9, o10]; exact hu', fun _ => by rw [o9, o10]; exact hu', by rw [o9, o13, o14]; exact c5⟩
  · exact UNx_ab ab (UNx_keep (hUB.1 hu) (fun k k1 k2 => A k (by unfold HT; omega)) (O 4 (by omega)))
  · exact LB_keep hL ab (fun k hk => A k (by unfold HT; omega)) (by rw [O 6 (by omega)]) (by rw [O 6 (by omega)]) (F8 101 (by omega)) (F8 108 (by omega)) o9 o13
  · exact PB_keep hP (fun k hk => A k (by unfold HT; omega)) (by rw [O 7 (by omega)]) (F8 110 (by omega)) o9 o14
