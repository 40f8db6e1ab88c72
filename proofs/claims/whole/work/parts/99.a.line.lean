/-! line, the class's side -/
def LNf (τ s : St) : Prop := Fr WF τ s ∧ (∀ k, (9 ≤ k ∧ k ≤ 46) ∨ (77 ≤ k ∧ k ≤ 88) → s.1 k = τ.1 k) ∧ (∀ k, k = 6 ∨ k = 7 ∨ (9 ≤ k ∧ k ≤ 46) → s.2.1 k = τ.2.1 k) ∧ (∀ j, s.2.1 0 j = τ.2.1 0 j)
theorem FS_row {σ τ : St} {E lim F : Nat} (h : FS σ E lim F τ) (hF : F ≤ E) (hb : bh σ F ≤ F) : ∀ v, v ≤ lim → τ.1 (376 + 3 * F) v = CL σ E F 0 v := by
  have hSC : 0 < SCn σ E F := by
    unfold SCn
    split
    · omega
    · split
      · omega
      · split <;> omega
  have := h.2.2.2.2 F (Nat.le_refl _) hF hb 0 hSC
  intro v hv
  exact this.1 v hv
