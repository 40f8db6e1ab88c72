/-! near -/
theorem Inv_FrS {k : Nat} {σ τ : St} (h : Inv k σ) (f : FrS σ τ) : Inv k τ := by
  obtain ⟨hB, hF, hUB, hH, hN, hL, hP⟩ := h
  obtain ⟨A, O8, f8, hh⟩ := f
  have hs : Same σ τ := ⟨fun k hk => A k (by unfold SK at hk; omega), fun j => by rw [O8 1 (by omega)], fun j => by rw [O8 2 (by omega)], fun j => by rw [O8 3 (by omega)], f8 6 (by omega), f8 7 (by omega), f8 17 (by omega), f8 21 (by omega), f8 _ (by decide), f8 _ (by decide)⟩
  obtain ⟨ab, af⟩ := hs.ab
  have f0 : τ.2.1 0 = σ.2.1 0 := O8 0 (by omega)
  have hl : σ.2.2.1 = 9 ∨ σ.2.2.1 = 28 := by rcases hB.2.2.2 with q | q <;> rw [q] <;> simp
  refine ⟨Base_keep hB hs hh, ?_, ?_, ?_, ?_, ?_, ?_⟩
  · unfold Fl at hF ⊢
    rw [f0, f8 68 (by omega), f8 91 (by omega), f8 100 (by omega), f8 109 (by omega), f8 26 (by omega)]
    exact hF
  · exact UB_keep hUB ab (fun k hk => A k (by omega)) (O8 4 (by omega)) (by rw [f0]) (by rw [f0]) (f8 26 (by omega)) (f8 27 (by omega)) (f8 35 (by omega))
  · exact HB_keep hH ab af (by rw [hh]) (fun k k1 k2 => ⟨A k (by omega), O8 k (by omega)⟩) (fun k k1 k2 => A k (by omega)) (fun j j1 j2 => f8 j (by omega)) (by rw [f0]) (by rw [f0])
  · exact NB_keep hN ab (fun j j1 j2 => f8 j (by omega)) (by rw [f0]) (by rw [f0]) (by rw [f0]) (by rw [f0])
  · exact LB_keep hL ab (fun k hk => A k (by omega)) (by rw [O8 6 (by omega)]) (by rw [O8 6 (by omega)]) (f8 101 (by omega)) (f8 108 (by omega)) (by rw [f0]) (by rw [f0])
  · exact PB_keep hP (fun k hk => A k (by omega)) (by rw [O8 7 (by omega)]) (f8 110 (by omega)) (by rw [f0]) (by rw [f0])
theorem nxD_no {p : Nat → Bool} (h : ∀ x, p x = false) : ∀ w, nxD p w = -6
  | 0 => rfl
  | w + 1 => by
    unfold nxD
    rw [h w, if_neg (by decide)]
    exact nxD_no h w
theorem nxU_no {p : Nat → Bool} (h : ∀ x, p x = false) : ∀ n w, nxU p n w = -6
  | 0, _ => rfl
  | n + 1, w => by
    unfold nxU
    rw [h w, if_neg (by decide)]
    exact nxU_no h n (w + 1)
theorem so_near (G : GT) : SO_near G Inv := by
  intro k σ hk h a hra
  have hs := Inv_good.2.1 k σ h
  obtain ⟨hB, hF, hUB, hH, hN, hL, hP⟩ := id h
  obtain ⟨hS, hT, -⟩ := id hB
  obtain ⟨i1, i2, i3, i4⟩ := Fl_is hF
  have n8 := nU_le hT
  have nw8 := nW_le hT
  by_cases c : 0 ≤ a ∧ a ≤ 1
  · by_cases z : σ.2.1 0 12 = σ.2.1 0 9
    · obtain ⟨x, y, w, b1, b2, b3, b4, b5, b6, b7, b8⟩ := hN z
      have hy := i2.mpr z
      obtain ⟨-, -, -, -, -, -, -, -, -, -, -, -, c1, c2, c3, -⟩ := id hF
      have hC := hUB.2 (c1 (c3 z))
      obtain ⟨f1, f2, f3, f4, f5, f6, f7, f8, f9⟩ := word_rng hS hT b1 b2
      have cx := (hC.2.2.2.2.2.2 x (by omega)).2.2.1
      have cy : σ.1 113 y = bc σ (wE σ y) := (hC.2.2.2.2.2.2 y b2).2.2.2
      have bF := bc_le (σ := σ) (u := wfu σ x)
      have E8 := f2.1
      refine CJ.go (fun R => k_JS_near_0 ?_)
      have rr : rng (if a ≠ 0 then σ.2.1 0 16 else σ.2.1 0 15) := by
        split
        · exact R.2 0 16
        · exact R.2 0 15
      refine ⟨hra, fun _ => ⟨by omega, by omega⟩, fun _ => ⟨fun _ => ⟨rr, ?_⟩, fun q => absurd z q⟩, fun q => absurd c q⟩
      rw [b7, b8]
      refine CJ.go (fun _ => k_MO_near_0 ?_)
      rw [b4, b5]
      refine ⟨hra, fun _ => ⟨fun _ => CJ.mono (t_haveForms hS hT hC rfl rfl b1 b2) (fun r υ _ hυ => ?_), fun q => absurd q hy⟩, fun q => absurd c q⟩
      rw [hυ.1, hυ.2, b4, b5, Int.toNat_natCast x, Int.toNat_natCast y, cx, cy]
      refine ⟨fun q => ⟨by omega, by omega, ?_⟩, fun q => ?_⟩
      · have hno : lkR σ (wfu σ x) (wE σ y) = false := by
          cases v : lkR σ (wfu σ x) (wE σ y) with
          | false => rfl
          | true => rw [v] at q; exact absurd rfl q
        refine CJ.mono (t_findLeast hS hT hC (by omega) f2 f3) (fun _ τ _ hτ => ?_)
        obtain ⟨l1, l2⟩ := hτ
        have hv := Inv_good.2.1 k τ (Inv_FrS h l1.s)
        have e94 : τ.2.1 8 94 = (w : Int) := by rw [l1.1]; exact b6
        have row : ∀ v, v ≤ 300 → τ.1 124 (ix (bc σ (wfu σ x)) v 0) = LL σ (wE σ y) (wfu σ x) v 0 := fun v hv3 => l2 (wfu σ x) (Nat.le_refl _) (by omega) f3 v 0 hv3 (by omega)
        have hp : ∀ v, (pW σ (wE σ y) (wfu σ x) v = true ↔ LL σ (wE σ y) (wfu σ x) v 0 < 536870912) := fun v => by
          unfold pW
          rw [decide_eq_true_iff]
          exact ⟨fun q => q.2, fun q => ⟨hno, q⟩⟩
        have hix : ∀ v : Nat, ((((bc σ (wfu σ x) : Nat) : Int) * 301 + (v : Int)) * 4 + 0).toNat = ix (bc σ (wfu σ x)) v 0 := fun v => by unfold ix; omega
        have dn : ∀ v : Nat, v ≤ 301 → a_MO_near_83 G (bc σ (wfu σ x)) (-1) ((v : Int) - 1) τ (fun r2 σ2 => nxD (pW σ (wE σ y) (wfu σ x)) v = r2 ∧ Inv (k + 1) σ2) := by
          intro v
          induction v with
          | zero =>
            intro _
            refine k_MO_near_83 ⟨⟨by omega, by omega⟩, fun e => ?_, fun e => absurd e (by omega)⟩
            rw [if_pos e]
            exact ⟨⟨by omega, by omega⟩, rfl, hv⟩
          | succ v ih =>
            intro hv3
            refine k_MO_near_83 ?_
            rw [show ((v + 1 : Nat) : Int) - 1 = (v : Int) by omega, hix v, row v (by omega)]
            refine ⟨⟨by omega, by omega⟩, fun e => absurd e (by omega), fun e => ⟨⟨by omega, by omega⟩, by omega, fun d => ?_, fun d => ?_⟩⟩
            · rw [if_neg (fun q => q e)]
              refine ⟨⟨by omega, by omega⟩, ?_, hv⟩
              show (if pW σ (wE σ y) (wfu σ x) v = true then (v : Int) else _) = _
              rw [if_pos ((hp v).mpr d)]
            · have := ih (by omega)
              show a_MO_near_83 G _ _ _ τ (fun r2 σ2 => (if pW σ (wE σ y) (wfu σ x) v = true then (v : Int) else nxD (pW σ (wE σ y) (wfu σ x)) v) = r2 ∧ Inv (k + 1) σ2)
              rw [if_neg (fun q => by have := (hp v).mp q; omega)]
              exact this
        have upw : ∀ (m v : Nat), v + m = 301 → a_MO_near_83 G (bc σ (wfu σ x)) 1 v τ (fun r2 σ2 => nxU (pW σ (wE σ y) (wfu σ x)) m v = r2 ∧ Inv (k + 1) σ2) := by
          intro m
          induction m with
          | zero =>
            intro v hv3
            refine k_MO_near_83 ⟨⟨by omega, by omega⟩, fun e => ?_, fun e => absurd e (by omega)⟩
            rw [if_pos e]
            exact ⟨⟨by omega, by omega⟩, rfl, hv⟩
          | succ m ih =>
            intro v hv3
            refine k_MO_near_83 ?_
            rw [hix v, row v (by omega)]
            refine ⟨⟨by omega, by omega⟩, fun e => absurd e (by omega), fun e => ⟨⟨by omega, by omega⟩, by omega, fun d => ?_, fun d => ?_⟩⟩
            · rw [if_neg (fun q => q e)]
              refine ⟨⟨by omega, by omega⟩, ?_, hv⟩
              show (if pW σ (wE σ y) (wfu σ x) v = true then (v : Int) else _) = _
              rw [if_pos ((hp v).mpr d)]
            · have := ih (v + 1) (by omega)
              show a_MO_near_83 G _ _ _ τ (fun r2 σ2 => (if pW σ (wE σ y) (wfu σ x) v = true then (v : Int) else nxU (pW σ (wE σ y) (wfu σ x)) m (v + 1)) = r2 ∧ Inv (k + 1) σ2)
              rw [if_neg (fun q => by have := (hp v).mp q; omega)]
              exact this
        rw [e94]
        by_cases a0 : a = 0
        · rw [if_neg (fun q => q a0), if_neg (fun q => q a0)]
          exact dn w (by omega)
        · rw [if_pos a0, if_pos a0]
          have := upw (300 - w) (w + 1) (by omega)
          rw [show (w : Int) + 1 = ((w + 1 : Nat) : Int) by omega]
          exact this
      · have hyes : lkR σ (wfu σ x) (wE σ y) = true := by
          cases v : lkR σ (wfu σ x) (wE σ y) with
          | true => rfl
          | false => rw [v] at q; exact absurd q (by decide)
        have np : ∀ v, pW σ (wE σ y) (wfu σ x) v = false := fun v => by unfold pW; rw [hyes]; rfl
        rw [nxD_no np, nxU_no np]
        exact ⟨by split <;> rfl, hs⟩
    · have y : ¬ σ.2.1 8 91 ≠ 0 := fun q => z (i2.mp q)
      refine CJ.go (fun R => k_JS_near_0 ⟨hra, fun _ => ⟨by omega, by omega⟩, fun _ => ⟨fun q => absurd q z, fun _ => ?_⟩, fun q => absurd c q⟩)
      exact CJ.go (fun _ => k_MO_near_0 ⟨hra, fun _ => ⟨fun q => absurd q y, fun _ => ⟨rfl, hs⟩⟩, fun q => absurd c q⟩)
  · refine CJ.go (fun R => k_JS_near_0 ⟨hra, fun _ => ⟨by omega, by omega⟩, fun q => absurd q c, fun _ => ?_⟩)
    exact CJ.go (fun _ => k_MO_near_0 ⟨hra, fun q => absurd q c, fun _ => ⟨rfl, hs⟩⟩)
