/-! what script and text are read from; calls that leave it alone -/
def SK (k : Nat) : Prop := (47 ≤ k ∧ k ≤ 60) ∨ (89 ≤ k ∧ k ≤ 109) ∨ k = 153 ∨ (168 ≤ k ∧ k < 376)
def Same (σ τ : St) : Prop := (∀ k, SK k → τ.1 k = σ.1 k) ∧ (∀ j, τ.2.1 1 j = σ.2.1 1 j) ∧ (∀ j, τ.2.1 2 j = σ.2.1 2 j) ∧ (∀ j, τ.2.1 3 j = σ.2.1 3 j) ∧ τ.2.1 8 6 = σ.2.1 8 6 ∧ τ.2.1 8 7 = σ.2.1 8 7 ∧ τ.2.1 8 17 = σ.2.1 8 17 ∧ τ.2.1 8 21 = σ.2.1 8 21 ∧ τ.2.1 8 25 = σ.2.1 8 25 ∧ τ.2.1 8 96 = σ.2.1 8 96
theorem Same.refl {σ : St} : Same σ σ := ⟨fun _ _ => rfl, fun _ => rfl, fun _ => rfl, fun _ => rfl, rfl, rfl, rfl, rfl, rfl, rfl⟩
theorem Same.symm {σ τ : St} (h : Same σ τ) : Same τ σ := ⟨fun k z => (h.1 k z).symm, fun j => (h.2.1 j).symm, fun j => (h.2.2.1 j).symm, fun j => (h.2.2.2.1 j).symm, h.2.2.2.2.1.symm, h.2.2.2.2.2.1.symm, h.2.2.2.2.2.2.1.symm, h.2.2.2.2.2.2.2.1.symm, h.2.2.2.2.2.2.2.2.1.symm, h.2.2.2.2.2.2.2.2.2.symm⟩
theorem Same.trans {σ τ υ : St} (h : Same σ τ) (g : Same τ υ) : Same σ υ := by
  obtain ⟨a, b, c, d, e1, e2, e3, e4, e5, e6⟩ := h
  obtain ⟨a', b', c', d', f1, f2, f3, f4, f5, f6⟩ := g
  exact ⟨fun k z => (a' k z).trans (a k z), fun j => (b' j).trans (b j), fun j => (c' j).trans (c j), fun j => (d' j).trans (d j), f1.trans e1, f2.trans e2, f3.trans e3, f4.trans e4, f5.trans e5, f6.trans e6⟩
/-- the class's quiet calls -/
def QJ0 (k : Nat) : Prop := k = 0 ∨ (4 ≤ k ∧ k ≤ 7) ∨ (9 ≤ k ∧ k ≤ 46) ∨ (61 ≤ k ∧ k ≤ 88) ∨ 376 ≤ k
theorem Fr.same {σ τ : St} (h : Fr QJ0 σ τ) : Same σ τ := by
  have g8 : τ.2.1 8 = σ.2.1 8 := (h.1 8 (by unfold QJ0; omega)).2
  refine ⟨fun k z => (h.1 k (by unfold SK at z; unfold QJ0; omega)).1, fun j => ?_, fun j => ?_, fun j => ?_, by rw [g8], by rw [g8], by rw [g8], by rw [g8], by rw [g8], by rw [g8]⟩
  · rw [(h.1 1 (by unfold QJ0; omega)).2]
  · rw [(h.1 2 (by unfold QJ0; omega)).2]
  · rw [(h.1 3 (by unfold QJ0; omega)).2]
theorem keep_IS {σ τ : St} (hs : Same σ τ) (h : IS σ) : IS τ := by
  obtain ⟨ha, h1, -, -, e1, e2, e3, -, -, -⟩ := hs
  have A : ∀ k, SK k → τ.1 k = σ.1 k := ha
  have a47 := A 47 (by unfold SK; omega)
  have a48 := A 48 (by unfold SK; omega)
  have a49 := A 49 (by unfold SK; omega)
  have a50 := A 50 (by unfold SK; omega)
  have a51 := A 51 (by unfold SK; omega)
  have a53 := A 53 (by unfold SK; omega)
  have a55 := A 55 (by unfold SK; omega)
  have a56 := A 56 (by unfold SK; omega)
  have a89 := A 89 (by unfold SK; omega)
  have a90 := A 90 (by unfold SK; omega)
  have a91 := A 91 (by unfold SK; omega)
  have a92 := A 92 (by unfold SK; omega)
  have a93 := A 93 (by unfold SK; omega)
  have a94 := A 94 (by unfold SK; omega)
  have a95 := A 95 (by unfold SK; omega)
  have a96 := A 96 (by unfold SK; omega)
  have a97 := A 97 (by unfold SK; omega)
  have a98 := A 98 (by unfold SK; omega)
  have a99 := A 99 (by unfold SK; omega)
  have a100 := A 100 (by unfold SK; omega)
  have a101 := A 101 (by unfold SK; omega)
  have a102 := A 102 (by unfold SK; omega)
  have a103 := A 103 (by unfold SK; omega)
  have a104 := A 104 (by unfold SK; omega)
  have a105 := A 105 (by unfold SK; omega)
  have hp : ∀ i : Nat, i < 8 → τ.1 (168 + i) = σ.1 (168 + i) := fun i hi => A _ (by unfold SK; omega)
  have hf : ∀ i : Nat, i < 200 → τ.1 (176 + i) = σ.1 (176 + i) := fun i hi => A _ (by unfold SK; omega)
  obtain ⟨n, c1, c2, c3, c4, c5, c6, c7, c8, c9, c10⟩ := h
  have n2 := n
  unfold NumOk at n2
  unfold IS
  simp only [a47, a48, a49, a50, a51, a53, a55, a56, a89, a90, a91, a92, a93, a94, a95, a96, a97, a98, a99, a100, a101, a102, a103, a104, a105, e1, e2, e3]
  refine ⟨?_, fun l hl => ?_, c2, fun i hi => ?_, c4, c5, fun i j hi hj => ?_, fun f hf1 => ?_, fun f hf1 hf2 => ?_, fun a ha1 => ?_, c10⟩
  · unfold NumOk
    rw [h1, h1, h1, e1, e2, e3]
    exact n
  · have := c1 l hl
    unfold LetOk at this ⊢
    rw [a47, a48, a49, a50, a89, a94]
    exact this
  · obtain ⟨g, hg⟩ := c3 i hi
    refine ⟨g, ?_⟩
    unfold LigOk at hg ⊢
    rw [hp i (by omega)]
    simp only [a47, a48, a49, a51, a53, a89, a90, a91, a92, a93, e1]
    exact hg
  · rw [hp i (by omega), hp j (by omega)]
    exact c6 i j hi hj
  · have := c7 f hf1
    unfold FormOk at this ⊢
    rw [hf f (by omega)]
    simp only [a95, a96, a97, a98, a99, a100, a101, a102, a103, e1]
    exact this
  · rw [hf f hf2]
    exact c8 f hf1 hf2
  · have := c9 a ha1
    unfold SlotOk at this ⊢
    simp only [a55, a56, a95, a96, a104, a105, e3]
    exact this
