/-! claim and drop -/
theorem keep_IS2 {σ τ : St} (A : ∀ k, SK k → k ≠ 60 → k ≠ 153 → τ.1 k = σ.1 k) (h1 : ∀ j, τ.2.1 1 j = σ.2.1 1 j) (e1 : τ.2.1 8 6 = σ.2.1 8 6) (e2 : τ.2.1 8 7 = σ.2.1 8 7) (e3 : τ.2.1 8 17 = σ.2.1 8 17) (h : IS σ) : IS τ := by
  have a47 := A 47 (by unfold SK; omega) (by omega) (by omega)
  have a48 := A 48 (by unfold SK; omega) (by omega) (by omega)
  have a49 := A 49 (by unfold SK; omega) (by omega) (by omega)
  have a50 := A 50 (by unfold SK; omega) (by omega) (by omega)
  have a51 := A 51 (by unfold SK; omega) (by omega) (by omega)
  have a53 := A 53 (by unfold SK; omega) (by omega) (by omega)
  have a55 := A 55 (by unfold SK; omega) (by omega) (by omega)
  have a56 := A 56 (by unfold SK; omega) (by omega) (by omega)
  have a89 := A 89 (by unfold SK; omega) (by omega) (by omega)
  have a90 := A 90 (by unfold SK; omega) (by omega) (by omega)
  have a91 := A 91 (by unfold SK; omega) (by omega) (by omega)
  have a92 := A 92 (by unfold SK; omega) (by omega) (by omega)
  have a93 := A 93 (by unfold SK; omega) (by omega) (by omega)
  have a94 := A 94 (by unfold SK; omega) (by omega) (by omega)
  have a95 := A 95 (by unfold SK; omega) (by omega) (by omega)
  have a96 := A 96 (by unfold SK; omega) (by omega) (by omega)
  have a97 := A 97 (by unfold SK; omega) (by omega) (by omega)
  have a98 := A 98 (by unfold SK; omega) (by omega) (by omega)
  have a99 := A 99 (by unfold SK; omega) (by omega) (by omega)
  have a100 := A 100 (by unfold SK; omega) (by omega) (by omega)
  have a101 := A 101 (by unfold SK; omega) (by omega) (by omega)
  have a102 := A 102 (by unfold SK; omega) (by omega) (by omega)
  have a103 := A 103 (by unfold SK; omega) (by omega) (by omega)
  have a104 := A 104 (by unfold SK; omega) (by omega) (by omega)
  have a105 := A 105 (by unfold SK; omega) (by omega) (by omega)
  have hp : ∀ i : Nat, i < 8 → τ.1 (168 + i) = σ.1 (168 + i) := fun i hi => A _ (by unfold SK; omega) (by omega) (by omega)
  have hf : ∀ i : Nat, i < 200 → τ.1 (176 + i) = σ.1 (176 + i) := fun i hi => A _ (by unfold SK; omega) (by omega) (by omega)
  obtain ⟨n, c1, c2, c3, c4, c5, c6, c7, c8, c9, c10⟩ := h
  have n2 := n
  unfold NumOk at n2
  unfold IS
  simp only [a47, a48, a49, a50, a51, a53, a55, a56, a89, a90, a91, a92, a93, a94, a95, a96, a97, a98, a99, a100, a101, a102, a103, a104, a105, e1, e2, e3]
  refine ⟨?_, fun l hl => ?_, c2, fun i hi => ?_, c4, c5, fun i j hi hj => ?_, fun f hf1 => ?_, fun f hf1 hf2 => ?_, fun a ha1 => ?_, c10⟩
  · unfold NumOk
    rw [h1, h1, h1, e1, e2, e3]
    exact n
  · have := c1 l hl
    unfold LetOk at this ⊢
    rw [a47, a48, a49, a50, a89, a94]
    exact this
  · obtain ⟨g, hg⟩ := c3 i hi
    refine ⟨g, ?_⟩
    unfold LigOk at hg ⊢
    rw [hp i (by omega)]
    simp only [a47, a48, a49, a51, a53, a89, a90, a91, a92, a93, e1]
    exact hg
  · rw [hp i (by omega), hp j (by omega)]
    exact c6 i j hi hj
  · have := c7 f hf1
    unfold FormOk at this ⊢
    rw [hf f (by omega)]
    simp only [a95, a96, a97, a98, a99, a100, a101, a102, a103, e1]
    exact this
  · rw [hf f hf2]
    exact c8 f hf1 hf2
  · have := c9 a ha1
    unfold SlotOk at this ⊢
    simp only [a55, a56, a95, a96, a104, a105, e3]
    exact this

theorem Inv_claims {k : Nat} {σ τ : St} (h : Inv k σ) (A : ∀ k, k ≠ 60 → k ≠ 153 → τ.1 k = σ.1 k) (O : ∀ k, k ≠ 3 → k ≠ 8 → τ.2.1 k = σ.2.1 k) (F8 : ∀ j, j ≠ 96 → τ.2.1 8 j = σ.2.1 8 j) (hh : τ.2.2 = σ.2.2) (hR : RC τ) : Inv k τ := by
  obtain ⟨⟨hS, hT, -, hHS⟩, hF, hUB, hH, hN, hL, hP⟩ := h
  have f8 : ∀ j, j ≠ 96 → τ.2.1 8 j = σ.2.1 8 j := F8
  have ab : Ab σ τ := ⟨fun k hk => A k (by omega) (by omega), f8 6 (by omega), f8 21 (by omega)⟩
  have af : τ.2.1 8 17 = σ.2.1 8 17 := f8 17 (by omega)
  have f0 : τ.2.1 0 = σ.2.1 0 := O 0 (by omega) (by omega)
  have hl : σ.2.2.1 = 9 ∨ σ.2.2.1 = 28 := by rcases hHS with q | q <;> rw [q] <;> simp
  refine ⟨⟨keep_IS2 (fun k _ k1 k2 => A k k1 k2) (fun j => by rw [O 1 (by omega) (by omega)]) (f8 6 (by omega)) (f8 7 (by omega)) af hS, IT_keep hT (fun k hk => A k (by omega) (by omega)) (fun j => by rw [O 2 (by omega) (by omega)]) (f8 21 (by omega)) (f8 _ (by decide)) (fun l hl => ?_), hR, by unfold HS at hHS ⊢; rw [hh]; exact hHS⟩, ?_, ?_, ?_, ?_, ?_, ?_⟩
  · unfold LOk at hl ⊢
    rw [f8 6 (by omega), A 89 (by omega) (by omega)]
    exact hl
  · unfold Fl at hF ⊢
    rw [f0, f8 68 (by omega), f8 91 (by omega), f8 100 (by omega), f8 109 (by omega), f8 26 (by omega)]
    exact hF
  · exact UB_keep hUB ab (fun k hk => A k (by omega) (by omega)) (O 4 (by omega) (by omega)) (by rw [f0]) (by rw [f0]) (f8 26 (by omega)) (f8 27 (by omega)) (f8 35 (by omega))
  · exact HB_keep hH ab af (by rw [hh]) (fun k k1 k2 => ⟨A k (by omega) (by omega), O k (by omega) (by omega)⟩) (fun k k1 k2 => A k (by omega) (by omega)) (fun j j1 j2 => f8 j (by omega)) (by rw [f0]) (by rw [f0])
  · exact NB_keep hN ab (fun j j1 j2 => f8 j (by omega)) (by rw [f0]) (by rw [f0]) (by rw [f0]) (by rw [f0])
  · exact LB_keep hL ab (fun k hk => A k (by omega) (by omega)) (by rw [O 6 (by omega) (by omega)]) (by rw [O 6 (by omega) (by omega)]) (f8 101 (by omega)) (f8 108 (by omega)) (by rw [f0]) (by rw [f0])
  · exact PB_keep hP (fun k hk => A k (by omega) (by omega)) (by rw [O 7 (by omega) (by omega)]) (f8 110 (by omega)) (by rw [f0]) (by rw [f0])
theorem so_drop (G : GT) : SO_drop G Inv := by
  intro k σ hk h
  obtain ⟨r1, r2, r3, r4⟩ := h.1.2.2.1
  refine CJ.go (fun _ => k_JS_drop_0 (fun s e => CJ.go (fun _ => k_MO_drop_0 (fun s2 e2 => ?_))))
  have e96 : s.2.1 8 96 = σ.2.1 8 96 := by rw [e, sf_ne (by omega)]
  refine ⟨by rw [e96]; exact r1, Inv_good.2.1 k s2 (Inv_claims h (fun k _ _ => by rw [e2, e]; rfl) (fun k k1 k2 => by rw [e2, sf_ne k2, e, sf_ne k1]) (fun j hj => by rw [e2, sf_nx (show j ≠ 96 from hj), e, sf_ne (by omega)]) (by rw [e2, e]; rfl) ?_)⟩
  have c1 : s2.2.1 3 0 = 0 := by rw [e2, sf_ne (by omega), e, sf_at]
  have c2 : s2.2.1 8 96 = 0 := by rw [e2, sf_at]
  exact ⟨by show s2.2.1 3 0 = s2.2.1 8 96; rw [c1, c2], by show 0 ≤ s2.2.1 3 0; omega, by show s2.2.1 3 0 ≤ 260; omega, fun i hi => absurd (show (i : Int) < s2.2.1 3 0 from hi) (by omega)⟩
theorem so_claim (G : GT) : SO_claim G Inv := by
  intro k σ hk h a hra
  have hs := Inv_good.2.1 k σ h
  obtain ⟨r1, r2, r3, r4⟩ := h.1.2.2.1
  refine CJ.mono (t_JS_claim hra ⟨r2, r3⟩) (fun r s _ hr => ?_)
  have r1' : σ.2.1 3 0 = σ.2.1 8 96 := r1
  have r2' : 0 ≤ σ.2.1 3 0 := r2
  have r3' : σ.2.1 3 0 ≤ 260 := r3
  by_cases z : σ.2.1 3 0 < 260
  · obtain ⟨g1, e⟩ := hr.1 z
    have e96 : s.2.1 8 96 = σ.2.1 8 96 := by rw [e, sf_ne (by omega)]; rfl
    refine CJ.mono (t_MO_claim hra ⟨by show 0 ≤ s.2.1 8 96; omega, by show s.2.1 8 96 ≤ 260; omega⟩) (fun r5 s2 _ hr5 => ?_)
    obtain ⟨g2, e2⟩ := hr5.1 (by show s.2.1 8 96 < 260; omega)
    have g1' : r = σ.2.1 3 0 + 1 := g1
    have g2' : r5 = s.2.1 8 96 + 1 := g2
    have e2' : s2 = sf (sa s 153 (s.2.1 8 96).toNat a) 8 96 (s.2.1 8 96 + 1) := e2
    have e' : s = sf (sa σ 60 (σ.2.1 3 0).toNat a) 3 0 (σ.2.1 3 0 + 1) := e
    refine ⟨by omega, Inv_good.2.1 k s2 (Inv_claims h (fun k k1 k2 => ?_) (fun k k1 k2 => ?_) (fun j hj => ?_) (by rw [e2', e']; rfl) ?_)⟩
    · rw [e2']
      show (sa s 153 (s.2.1 8 96).toNat a).1 k = _
      rw [sa_ne k2, e']
      show (sa σ 60 (σ.2.1 3 0).toNat a).1 k = _
      rw [sa_ne k1]
    · rw [e2', sf_ne k2]
      show s.2.1 k = _
      rw [e', sf_ne k1]
      rfl
    · rw [e2', sf_nx (show j ≠ 96 from hj)]
      show s.2.1 8 j = _
      rw [e', sf_ne (by omega)]
      rfl
    · have c1 : s2.2.1 3 0 = σ.2.1 3 0 + 1 := by rw [e2', sf_ne (by omega)]; show s.2.1 3 0 = _; rw [e', sf_at]
      have c2 : s2.2.1 8 96 = σ.2.1 8 96 + 1 := by rw [e2', sf_at, e96]
      refine ⟨by show s2.2.1 3 0 = s2.2.1 8 96; omega, by show 0 ≤ s2.2.1 3 0; omega, by show s2.2.1 3 0 ≤ 260; omega, fun i hi => ?_⟩
      have hi' : (i : Int) < σ.2.1 3 0 + 1 := by rw [← c1]; exact hi
      show s2.1 60 i = s2.1 153 i
      have l1 : s2.1 60 = s.1 60 := by rw [e2']; show (sa s 153 (s.2.1 8 96).toNat a).1 60 = _; rw [sa_ne (by omega)]
      have l2 : s.1 153 = σ.1 153 := by rw [e']; show (sa σ 60 (σ.2.1 3 0).toNat a).1 153 = _; rw [sa_ne (by omega)]
      rw [l1]
      by_cases q : i = (σ.2.1 3 0).toNat
      · have d1 : s.1 60 i = a := by rw [e', q]; exact sa_at
        have d2 : s2.1 153 i = a := by rw [e2', e96, ← r1', q]; exact sa_at
        rw [d1, d2]
      · have d1 : s.1 60 i = σ.1 60 i := by rw [e']; exact sa_nx q
        have d2 : s2.1 153 i = s.1 153 i := by rw [e2', e96, ← r1']; exact sa_nx q
        rw [d1, d2, l2]
        exact r4 i (by show (i : Int) < σ.2.1 3 0; omega)
  · obtain ⟨g1, e⟩ := hr.2 (by show σ.2.1 3 0 = 260; omega)
    rw [e, g1]
    refine CJ.mono (t_MO_claim hra ⟨by show 0 ≤ σ.2.1 8 96; omega, by show σ.2.1 8 96 ≤ 260; omega⟩) (fun r5 s2 _ hr5 => ?_)
    obtain ⟨g2, e2⟩ := hr5.2 (by show σ.2.1 8 96 = 260; omega)
    rw [g2, e2]
    exact ⟨rfl, hs⟩
