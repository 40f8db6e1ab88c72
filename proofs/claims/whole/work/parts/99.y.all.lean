/-! the start, and all calls -/
theorem z0f {k j : Nat} (hk : k ≠ 0) : σ0.2.1 k j = 0 := by
  show (if k = 0 ∧ 10 ≤ j ∧ j ≤ 16 then (-6 : Int) else 0) = 0
  rw [if_neg (fun q => hk q.1)]
theorem z0a {k j : Nat} : σ0.1 k j = 0 := rfl
theorem Inv0 : Inv 0 σ0 := by
  refine Inv_good.2.2 0 σ0 ⟨⟨?_, ?_, ?_, ?_, ?_, ?_, ?_, ?_, ?_, ?_, ?_⟩, ⟨?_, ?_, ?_, ?_⟩, ⟨?_, ?_, ?_, ?_⟩, Or.inl rfl⟩ ?_
  · unfold NumOk
    rw [z0f (by decide), z0f (by decide), z0f (by decide), z0f (by decide), z0f (by decide), z0f (by decide)]
    omega
  · intro l hl
    rw [z0f (by decide)] at hl
    omega
  · intro l _
    exact z0a
  · intro i hi
    rw [z0f (by decide)] at hi
    omega
  · intro l hl
    rw [z0f (by decide)] at hl
    omega
  · intro i j hij hj
    rw [z0f (by decide)] at hj
    omega
  · intro i j hi
    rw [z0f (by decide)] at hi
    omega
  · intro f hf
    rw [z0f (by decide)] at hf
    omega
  · intro f _ _
    exact ⟨z0a, z0a⟩
  · intro a ha
    rw [z0f (by decide)] at ha
    omega
  · intro a _
    exact z0a
  · rw [z0f (by decide), z0f (by decide)]
  · rw [z0f (by decide)]
    omega
  · intro i hi
    rw [z0f (by decide)] at hi
    omega
  · refine ⟨0, 0, by rw [z0f (by decide)]; rfl, by omega, by rw [z0f (by decide)]; rfl, by omega, by rw [z0f (by decide)]; rfl, fun k hk => absurd hk (by omega), trivial⟩
  · rw [z0f (by decide), z0f (by decide)]
  · rw [z0f (by decide)]
    omega
  · rw [z0f (by decide)]
    omega
  · intro i hi
    rw [z0f (by decide)] at hi
    omega
  · have a9 : σ0.2.1 0 9 = 0 := rfl
    have a10 : σ0.2.1 0 10 = -6 := rfl
    have a11 : σ0.2.1 0 11 = -6 := rfl
    have a12 : σ0.2.1 0 12 = -6 := rfl
    have a13 : σ0.2.1 0 13 = -6 := rfl
    have a14 : σ0.2.1 0 14 = -6 := rfl
    unfold Cl
    rw [a9, a10, a11, a12, a13, a14]
    exact ⟨by omega, by omega, by omega, by omega, by omega, by omega, by omega, z0f (by decide), z0f (by decide), z0f (by decide), z0f (by decide), z0f (by decide)⟩
theorem all_so (G : GT) : SOA G Inv := ⟨so_letter Inv_good G, so_ligature Inv_good G, so_form Inv_good G, so_stretch Inv_good G, so_point Inv_good G, so_bar Inv_good G, so_about Inv_good G, so_type Inv_good G, so_insert Inv_good G, so_remove Inv_good G, so_undo Inv_good G, so_text Inv_good G, so_shape G, so_words G, so_line G, so_near G, so_plain G, so_atHand G, so_piece G, so_mark G, so_seen G, so_place G, so_witness G, so_claim G, so_drop G, so_check G, so_best G, so_lines G, so_take G, so_pages G, so_page G, so_told Inv_good G⟩
