/-! nextWidth of the class -/
theorem t_nextWidth {G : GT} {σ τ : St} {E F : Nat} (h80 : F ≤ 80) (hR : ∀ v, v ≤ 300 → τ.1 (376 + 3 * F) v = CL σ E F 0 v) {w : Nat} (hw : w ≤ 300) : CJ G m_FI_nextWidth [O 5, I F, I w, I (-1)] τ (fun r υ => υ = τ ∧ r = nxD (pW σ E F) w) ∧ CJ G m_FI_nextWidth [O 5, I F, I w, I 1] τ (fun r υ => υ = τ ∧ r = nxU (pW σ E F) (300 - w) (w + 1)) := by
  have hg : lyt (376 + 3 * F) = (1, 301) := by have := lyr_376 (i := ((3 * F : Nat) : Int)) (by omega); rw [Int.toNat_natCast] at this; exact this
  have hp : ∀ v, v ≤ 300 → (τ.1 (376 + 3 * F) v < 536870912 ↔ pW σ E F v = true) := fun v hv => by
    rw [hR v hv]
    unfold CL TJ pW
    rw [decide_eq_true_iff]
    have e0 : stc 0 = 0 := rfl
    rw [e0]
    cases q : lkR σ F E with
    | true =>
      rw [if_pos rfl]
      exact ⟨fun y => absurd y (by unfold NV; omega), fun y => absurd y.1 (by decide)⟩
    | false =>
      rw [if_neg (by decide)]
      exact ⟨fun y => ⟨rfl, y⟩, fun y => y.2⟩
  have ei : ((F : Int) * 3).toNat = 3 * F := by omega
  constructor
  · refine CJ.go (fun _ => k_FI_nextWidth_0 ?_)
    rw [ei]
    refine ⟨by omega, ?_⟩
    have dn : ∀ v : Nat, v ≤ 300 → a_FI_nextWidth_15 G (-1) (376 + 3 * F) ((v : Int) - 1) τ (fun r υ => υ = τ ∧ r = nxD (pW σ E F) v) := by
      intro v
      induction v with
      | zero =>
        intro _
        exact k_FI_nextWidth_15 hg ⟨⟨by omega, by omega⟩, fun _ => ⟨rfl, rfl⟩, fun e => absurd e (by omega)⟩
      | succ v ih =>
        intro hv3
        refine k_FI_nextWidth_15 hg ?_
        rw [show ((v + 1 : Nat) : Int) - 1 = (v : Int) by omega, Int.toNat_natCast v]
        refine ⟨⟨by omega, by omega⟩, fun e => absurd e (by omega), fun _ => ⟨fun e => absurd e (by omega), fun _ => ⟨by omega, fun d => ?_, fun d => ⟨rfl, ?_⟩⟩⟩⟩
        · show a_FI_nextWidth_15 G (-1) (376 + 3 * F) _ τ (fun r υ => υ = τ ∧ r = if pW σ E F v = true then (v : Int) else nxD (pW σ E F) v)
          rw [if_neg (fun q => by have := (hp v (by omega)).mpr q; omega)]
          exact ih (by omega)
        · show (v : Int) = if pW σ E F v = true then (v : Int) else nxD (pW σ E F) v
          rw [if_pos ((hp v (by omega)).mp d)]
    exact dn w hw
  · refine CJ.go (fun _ => k_FI_nextWidth_0 ?_)
    rw [ei]
    refine ⟨by omega, ?_⟩
    have upw : ∀ (m v : Nat), v + m = 301 → a_FI_nextWidth_15 G 1 (376 + 3 * F) v τ (fun r υ => υ = τ ∧ r = nxU (pW σ E F) m v) := by
      intro m
      induction m with
      | zero =>
        intro v hv
        exact k_FI_nextWidth_15 hg ⟨⟨by omega, by omega⟩, fun e => absurd e (by omega), fun _ => ⟨fun _ => ⟨rfl, rfl⟩, fun e => absurd e (by omega)⟩⟩
      | succ m ih =>
        intro v hv
        refine k_FI_nextWidth_15 hg ?_
        rw [Int.toNat_natCast v]
        refine ⟨⟨by omega, by omega⟩, fun e => absurd e (by omega), fun _ => ⟨fun e => absurd e (by omega), fun _ => ⟨by omega, fun d => ?_, fun d => ⟨rfl, ?_⟩⟩⟩⟩
        · show a_FI_nextWidth_15 G 1 (376 + 3 * F) _ τ (fun r υ => υ = τ ∧ r = if pW σ E F v = true then (v : Int) else nxU (pW σ E F) m (v + 1))
          rw [if_neg (fun q => by have := (hp v (by omega)).mpr q; omega)]
          exact ih (v + 1) (by omega)
        · show (v : Int) = if pW σ E F v = true then (v : Int) else nxU (pW σ E F) m (v + 1)
          rw [if_pos ((hp v (by omega)).mp d)]
    have := upw (300 - w) (w + 1) (by omega)
    rw [show (w : Int) + 1 = ((w + 1 : Nat) : Int) by omega]
    exact this
