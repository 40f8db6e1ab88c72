/-! best: the reference's search -/
theorem t_isPlainEnd {G : GT} {σ : St} (hS : IS σ) (hT : IT σ) (hC : CTx σ σ) {x y W : Nat} (hxy : x ≤ y) (hy : y + 1 = nW σ) (hW : W ≤ 300) : CJ G m_MO_isPlainEnd [O 8, I x, I W] σ (fun r υ => υ = σ ∧ r = if pln σ W x y = true then 1 else 0) := by
  have n8 := nU_le hT
  have nw8 := nW_le hT
  have hyn : y < nW σ := by omega
  obtain ⟨f1, f2, f3, f4, f5, f6, f7, f8, f9⟩ := word_rng hS hT hxy hyn
  obtain ⟨c1, c2, c3, c4, c5, c6, c7⟩ := id hC
  have ca := (c7 x (by omega)).2.2.1
  have cb : σ.1 113 y = bc σ (wE σ y) := (c7 y hyn).2.2.2
  have c1' : σ.2.1 8 27 = (nW σ : Int) := c1
  have E8 := f2.1
  have cp := t_canBePlain (G := G) hS hT hC hxy hyn
  have ew : (nW σ : Int) - 1 = (y : Int) := by omega
  refine CJ.go (fun _ => k_MO_isPlainEnd_0 ?_)
  rw [c1', ew]
  refine CJ.mono cp (fun r υ _ hυ => ?_)
  rw [hυ.1, hυ.2, Int.toNat_natCast x, ca]
  obtain ⟨F, hF⟩ : ∃ F, F = wfu σ x := ⟨_, rfl⟩
  obtain ⟨E, hEe⟩ : ∃ E, E = wE σ y := ⟨_, rfl⟩
  have hpl : pln σ W x y = true ↔ (plk σ F (E - F) = true ∧ lkR σ F E = false ∧ tw σ (pls σ F (E - F)) ≤ W) := by
    rw [pln_is, ← hF, ← hEe]
    exact ⟨fun q => q.2, fun q => ⟨hy, q⟩⟩
  rw [← hF] at f1 f3 f4 f5 f9 ⊢
  rw [← hEe] at f1 f2 f6 cb E8 ⊢
  have b2 := bc_le (σ := σ) (u := E)
  by_cases hn : lkR σ F E = true ∨ plk σ F (E - F) = false
  · rw [if_pos hn]
    refine ⟨fun z => absurd rfl z, fun _ => ⟨rfl, ?_⟩⟩
    rw [if_neg (fun q => ?_)]
    obtain ⟨q1, q2, -⟩ := hpl.mp q
    rcases hn with z | z
    · rw [q2] at z; exact absurd z (by decide)
    · rw [q1] at z; exact absurd z (by decide)
  · rw [if_neg hn]
    have hno : lkR σ F E = false := by
      cases q : lkR σ F E with
      | false => rfl
      | true => exact absurd (Or.inl q) hn
    have hk : plk σ F (E - F) = true := by
      cases q : plk σ F (E - F) with
      | true => rfl
      | false => exact absurd (Or.inr q) hn
    refine ⟨fun _ => ⟨by omega, ?_⟩, fun z => absurd z (by decide)⟩
    have hlen : ∀ c, (pls σ F c).length ≤ c := fun c => by unfold pls; rw [List.length_map]; exact plL_len
    have pre : ∀ c, c ≤ E - F → plk σ F c = true := fun c hc => by
      unfold plk
      rw [List.all_eq_true]
      intro v hv
      obtain ⟨m1, m2, m3⟩ := plL_mem hv
      exact List.all_eq_true.mp hk v (plL_in m1 (by omega) m3)
    have twb : ∀ c, c ≤ E - F → tw σ (pls σ F c) ≤ 112 * 80 := fun c hc => by
      have a := (line_b hS (pls_G hS hT (by omega) (pre c hc))).1
      have b := hlen c
      omega
    have loop : ∀ (d c : Nat), F + c + d = E → a_MO_isPlainEnd_26 G W (tw σ (pls σ F c)) (bc σ (F + c)) σ (fun r υ => υ = σ ∧ r = if pln σ W x y = true then 1 else 0) := by
      intro d
      induction d with
      | zero =>
        intro c hc
        have b3 := bc_le (σ := σ) (u := F + c)
        have hce : E - F = c := by omega
        have hE2 : F + c = E := by omega
        have tb := twb c (by omega)
        refine k_MO_isPlainEnd_26 ?_
        rw [c1', ew, Int.toNat_natCast y, cb, hE2]
        refine ⟨by omega, ⟨by omega, by omega⟩, fun _ => ⟨⟨by omega, by omega⟩, ⟨by omega, by omega⟩, rfl, ?_⟩, fun z => absurd z (by omega)⟩
        refine ite_iff ?_
        rw [hpl, hce]
        rw [hce] at hk
        exact ⟨fun q => ⟨hk, hno, by omega⟩, fun q => by have := q.2.2; omega⟩
      | succ d ih =>
        intro c hc
        have hv : F + c < nU σ := by omega
        by_cases hbb : bh σ (F + c) ≤ F + c
        · obtain ⟨m1, m2, m3, m4, m5, m6, m7⟩ := base_M (τ := σ) hS hT hC rfl rfl rfl rfl rfl hv hbb
          have hlt := bc_lt hbb (show F + c < E by omega)
          have b3 := bc_le (σ := σ) (u := F + c)
          have e : plL σ F (c + 1) = plL σ F c ++ [F + c] := plL_snoc hbb
          have hx0 : 0 ≤ plF σ (F + c) := by
            have := List.all_eq_true.mp hk (F + c) (plL_in (by omega) (by omega) hbb)
            rwa [decide_eq_true_iff] at this
          have hG : GPc σ (plp σ (F + c)) := by
            rcases pl_fact hS hT hv hbb with x | x
            · omega
            · exact x.2
          have fb := form_b hS hG.2.2.1
          have fb1 : (plF σ (F + c)).toNat < 200 := fb.1
          have fb2 : 1 ≤ σ.1 97 (plF σ (F + c)).toNat ∧ σ.1 97 (plF σ (F + c)).toNat ≤ 100 := fb.2.1
          have tb := twb c (by omega)
          have etw : tw σ (pls σ F (c + 1)) = tw σ (pls σ F c) + (σ.1 97 (plF σ (F + c)).toNat).toNat := by
            unfold pls
            rw [e, List.map_append, tw_app]
            show tw σ _ + (wd σ (plF σ (F + c)).toNat 0 + 0) = _
            rfl
          refine k_MO_isPlainEnd_26 ?_
          rw [c1', ew, Int.toNat_natCast y, cb, Int.toNat_natCast (bc σ (F + c)), m1, m3, m5]
          refine ⟨by omega, ⟨by omega, by omega⟩, fun z => absurd z (by omega), fun _ => ⟨by omega, m2, m4, by omega, ?_⟩⟩
          have := ih (c + 1) (by omega)
          rw [show F + (c + 1) = F + c + 1 by omega, m7, etw] at this
          rw [show (tw σ (pls σ F c) : Int) + σ.1 97 (plF σ (F + c)).toNat = ((tw σ (pls σ F c) + (σ.1 97 (plF σ (F + c)).toNat).toNat : Nat) : Int) by omega, show (bc σ (F + c) : Int) + 1 = ((bc σ (F + c) + 1 : Nat) : Int) by omega]
          exact this
        · have eb : bc σ (F + (c + 1)) = bc σ (F + c) := cnt_f (bq_f hbb)
          have e : plL σ F (c + 1) = plL σ F c := plL_same hbb
          have := ih (c + 1) (by omega)
          rw [eb] at this
          unfold pls at this ⊢
          rw [e] at this
          exact this
    exact loop (E - F) 0 (by omega)
/-- what the search of the reference may change -/
def FrQ (σ υ : St) : Prop := (∀ k, (k < 124 ∨ (138 < k ∧ k < 154) ∨ 156 < k) → υ.1 k = σ.1 k) ∧ (∀ k, k ≠ 8 → υ.2.1 k = σ.2.1 k) ∧ (∀ j, (j < 44 ∨ 67 < j) → υ.2.1 8 j = σ.2.1 8 j) ∧ υ.2.2 = σ.2.2
/-- and what it may change when it notes its lines -/
def FrB (σ υ : St) : Prop := (∀ k, (k < 124 ∨ (138 < k ∧ k < 154) ∨ 162 < k) → υ.1 k = σ.1 k) ∧ (∀ k, k ≠ 8 → υ.2.1 k = σ.2.1 k) ∧ (∀ j, (j < 44 ∨ (67 < j ∧ j < 100) ∨ 109 < j) → υ.2.1 8 j = σ.2.1 8 j) ∧ υ.2.2 = σ.2.2
theorem FrQ.refl {σ : St} : FrQ σ σ := ⟨fun _ _ => rfl, fun _ _ => rfl, fun _ _ => rfl, rfl⟩
theorem FrQ.trans {σ τ υ : St} (h : FrQ σ τ) (g : FrQ τ υ) : FrQ σ υ := ⟨fun k hk => (g.1 k hk).trans (h.1 k hk), fun k hk => (g.2.1 k hk).trans (h.2.1 k hk), fun j hj => (g.2.2.1 j hj).trans (h.2.2.1 j hj), g.2.2.2.trans h.2.2.2⟩
theorem FrB.trans {σ τ υ : St} (h : FrB σ τ) (g : FrB τ υ) : FrB σ υ := ⟨fun k hk => (g.1 k hk).trans (h.1 k hk), fun k hk => (g.2.1 k hk).trans (h.2.1 k hk), fun j hj => (g.2.2.1 j hj).trans (h.2.2.1 j hj), g.2.2.2.trans h.2.2.2⟩
theorem FrQ.b {σ υ : St} (h : FrQ σ υ) : FrB σ υ := ⟨fun k hk => h.1 k (by omega), h.2.1, fun j hj => h.2.2.1 j (by omega), h.2.2.2⟩
theorem FrS.q {σ υ : St} (h : FrS σ υ) : FrQ σ υ := ⟨fun k hk => h.1 k (by omega), h.2.1, fun j hj => h.2.2.1 j (by omega), h.2.2.2⟩
theorem FrQ.st154 {σ τ : St} (h : FrQ σ τ) {k i : Nat} {v : Int} (hk : 154 ≤ k ∧ k ≤ 156) : FrQ σ (sa τ k i v) := ⟨fun j hj => by rw [sa_ne (by omega)]; exact h.1 j hj, h.2.1, h.2.2.1, h.2.2.2⟩
theorem FrB.st157 {σ τ : St} (h : FrB σ τ) {k i : Nat} {v : Int} (hk : 154 ≤ k ∧ k ≤ 162) : FrB σ (sa τ k i v) := ⟨fun j hj => by rw [sa_ne (by omega)]; exact h.1 j hj, h.2.1, h.2.2.1, h.2.2.2⟩
theorem FrB.fd {σ τ : St} (h : FrB σ τ) {j : Nat} {v : Int} (hj : 100 ≤ j ∧ j ≤ 109) : FrB σ (sf τ 8 j v) := ⟨h.1, fun k hk => by rw [sf_ne hk]; exact h.2.1 k hk, fun i hi => by rw [sf_nx (by omega)]; exact h.2.2.1 i hi, h.2.2.2⟩
theorem FrB.same {σ υ : St} (h : FrB σ υ) : Same σ υ := ⟨fun k hk => h.1 k (by unfold SK at hk; omega), fun j => by rw [h.2.1 1 (by omega)], fun j => by rw [h.2.1 2 (by omega)], fun j => by rw [h.2.1 3 (by omega)], h.2.2.1 6 (by omega), h.2.2.1 7 (by omega), h.2.2.1 17 (by omega), h.2.2.1 21 (by omega), h.2.2.1 _ (by decide), h.2.2.1 _ (by decide)⟩
theorem FrB.ok {σ υ : St} (h : FrB σ υ) (hS : IS σ) (hT : IT σ) (hC : CTx σ σ) : IS υ ∧ IT υ ∧ CTx υ υ ∧ Ab σ υ := by
  obtain ⟨a, b⟩ := h.same.st hS hT
  have ab := h.same.ab.1
  exact ⟨a, b, CTx_ab ab (CTx_keep hC (fun k k1 k2 => h.1 k (by omega)) (h.2.2.1 27 (by omega)) (h.2.2.1 35 (by omega))), ab⟩
theorem Ab_cF {σ τ : St} (h : Ab σ τ) : cF τ = cF σ := by funext W x y; unfold cF; rw [Ab_pln h, Ab_lkR h, Ab_wfu h, Ab_wE h, Ab_LL h]
def LCx (σ : St) (W : Nat) (υ : St) : Prop := ∀ i j, i ≤ j → j < nW σ → υ.1 154 (80 * i + j) = cF σ W i j
theorem t_bestM {G : GT} {σ : St} {P : Int → St → Prop} (hS : IS σ) (hT : IT σ) (hC : CTx σ σ) {W : Nat} (hW : W ≤ 300) (hn0 : 0 < nW σ) (hP : ∀ υ, FrQ σ υ → LCx σ W υ → Spc (cF σ W) (nW σ) (υ.1 155) (υ.1 156) → Sml (nW σ) (υ.1 155) → (υ.1 155 0 < NV → CJ G m_MO_noteLines [O 8, I W] υ (fun _ u => P (u.1 155 0) u)) ∧ (NV ≤ υ.1 155 0 → P (-5) υ)) : a_MO_best_31 G W 0 σ P := by
  have n8 := nU_le hT
  have nw8 := nW_le hT
  have NVe : NV = 536870912 := rfl
  obtain ⟨n, hn⟩ : ∃ n, n = nW σ := ⟨_, rfl⟩
  rw [← hn] at hP hn0
  have e27 : ∀ υ, FrQ σ υ → υ.2.1 8 27 = (n : Int) := fun υ h => by
    rw [h.2.2.1 27 (by omega), hn]
    exact hC.1
  have sm : ∀ (B : Nat → Int), Sml n B → ∀ i j, i ≤ j → j < n → Ft (cF σ W) B i j → cF σ W i j + B (j + 1) < NV ∧ cF σ W i j + B (j + 1) ≤ 656000 * ((n : Int) - i) ∧ 0 ≤ cF σ W i j + B (j + 1) := fun B hB i j hij hj hf => Sml_sum hS hT hn hB hij hj hf
  -- the second phase
  have ph2 : ∀ (d : Nat) (υ : St), d ≤ n → FrQ σ υ → LCx σ W υ → υ.1 155 n = 0 → (∀ i, d ≤ i → i < n → Prt (cF σ W) (υ.1 155) i i n (υ.1 155 i) (υ.1 156 i)) → (∀ i, d ≤ i → i ≤ n → 0 ≤ υ.1 155 i ∧ υ.1 155 i ≤ NV ∧ (υ.1 155 i < NV → υ.1 155 i ≤ 656000 * ((n : Int) - i))) → a_MO_best_160 G W ((d : Int) - 1) υ P := by
    intro d
    induction d with
    | zero =>
      intro υ _ h1 h2 h3 h4 h5
      exact k_MO_best_160 ⟨⟨by omega, by omega⟩, fun _ => hP υ h1 h2 ⟨h3, fun i hi => h4 i (by omega) hi⟩ (fun i hi => h5 i (by omega) hi), fun z => absurd z (by omega)⟩
    | succ m ih =>
      intro υ hd h1 h2 h3 h4 h5
      rw [show (((m + 1 : Nat) : Int) - 1) = (m : Int) by omega]
      refine k_MO_best_160 ?_
      rw [Int.toNat_natCast m]
      refine ⟨⟨by omega, by omega⟩, fun z => absurd z (by omega), fun _ => ⟨by omega, fun s24 e24 s26 e26 => ?_⟩⟩
      have inner : ∀ (e j : Nat) (ρ : St), j + e = n → m ≤ j → FrQ σ ρ → LCx σ W ρ → (∀ i, m < i → ρ.1 155 i = υ.1 155 i ∧ ρ.1 156 i = υ.1 156 i) → Prt (cF σ W) (υ.1 155) m m j (ρ.1 155 m) (ρ.1 156 m) → (0 ≤ ρ.1 155 m ∧ ρ.1 155 m ≤ NV ∧ (ρ.1 155 m < NV → ρ.1 155 m ≤ 656000 * ((n : Int) - m))) → a_MO_best_182 G W m j ρ P := by
        intro e
        induction e with
        | zero =>
          intro j ρ hj hmj r1 r2 r3 r4 r5
          refine k_MO_best_182 ?_
          rw [e27 ρ r1]
          refine ⟨⟨by omega, by omega⟩, fun _ => ?_, fun z => absurd z (by omega)⟩
          rw [show (m : Int) + (-1) = (m : Int) - 1 by omega]
          refine ih ρ (by omega) r1 r2 (by rw [(r3 n (by omega)).1]; exact h3) (fun i i1 i2 => ?_) (fun i i1 i2 => ?_)
          · by_cases q : i = m
            · rw [q]
              rw [show j = n by omega] at r4
              exact Prt_congr r4 (fun x x1 x2 => (r3 (x + 1) (by omega)).1)
            · rw [(r3 i (by omega)).1, (r3 i (by omega)).2]
              exact Prt_congr (h4 i (by omega) i2) (fun x x1 x2 => (r3 (x + 1) (by omega)).1)
          · by_cases q : i = m
            · rw [q]; exact r5
            · rw [(r3 i (by omega)).1]
              exact h5 i (by omega) i2
        | succ e ihe =>
          intro j ρ hj hmj r1 r2 r3 r4 r5
          have ec := r2 m j hmj (by omega)
          have ex : ((80 * (m : Int)) + (j : Int)).toNat = 80 * m + j := by omega
          have ej : ((j : Int) + 1).toNat = j + 1 := by omega
          have eB := (r3 (j + 1) (by omega)).1
          have b1 := h5 (j + 1) (by omega) (by omega)
          have cb := cF_b hS hT (W := W) hmj (by omega)
          have skip : ¬ (Ft (cF σ W) (υ.1 155) m j ∧ cF σ W m j + υ.1 155 (j + 1) ≤ ρ.1 155 m) → a_MO_best_182 G W m ((j : Int) + 1) ρ P := fun hno => by
            rw [show (j : Int) + 1 = ((j + 1 : Nat) : Int) by omega]
            refine ihe (j + 1) ρ (by omega) (by omega) r1 r2 r3 ?_ r5
            refine Prt_up r4 hmj (fun y => ?_) (fun y1 y2 => absurd ⟨y1, y2⟩ hno) (fun _ => ⟨rfl, rfl⟩)
            have c1 := cb.2.2 y.1
            have c2 := b1.2.2 y.2
            omega
          refine k_MO_best_182 ?_
          rw [e27 ρ r1, ex, ec, ej, eB, Int.toNat_natCast m]
          refine ⟨⟨by omega, by omega⟩, fun z => absurd z (by omega), fun _ => ⟨by omega, fun z => skip (fun y => by have := y.1.1; omega), fun z => ⟨by omega, fun z2 => skip (fun y => by have := y.1.2; omega), fun z2 => ⟨by omega, ⟨by omega, by omega⟩, fun z3 => skip (fun y => by have := y.2; omega), fun z3 s94 e94 s96 e96 => ?_⟩⟩⟩⟩
          have e96' : s96 = sa (sa ρ 155 m (cF σ W m j + υ.1 155 (j + 1))) 156 m j := by rw [e96, e94]
          have v155 : s96.1 155 m = cF σ W m j + υ.1 155 (j + 1) := by rw [e96', sa_ne (by decide), sa_at]
          have v156 : s96.1 156 m = (j : Int) := by rw [e96', sa_at]
          have hft : Ft (cF σ W) (υ.1 155) m j := ⟨by omega, by omega⟩
          have c1 := cb.2.2 hft.1
          have c2 := b1.2.2 hft.2
          rw [show (j : Int) + 1 = ((j + 1 : Nat) : Int) by omega]
          refine ihe (j + 1) s96 (by omega) (by omega) (by rw [e96']; exact (r1.st154 (by omega)).st154 (by omega)) (fun i' j' h1' h2' => ?_) (fun i hi => ?_) ?_ ?_
          · rw [e96', sa_ne (by decide), sa_ne (by decide)]
            exact r2 i' j' h1' h2'
          · rw [e96', sa_ne (by decide), sa_nx (by omega), sa_nx (by omega), sa_ne (by decide)]
            exact r3 i hi
          · rw [v155, v156]
            exact Prt_up r4 hmj (fun _ => by omega) (fun _ _ => ⟨rfl, rfl⟩) (fun y => absurd ⟨hft, z3⟩ y)
          · rw [v155]
            omega
      have e26' : s26 = sa (sa υ 155 m NV) 156 m m := by rw [e26, e24]; rfl
      refine inner (n - m) m s26 (by omega) (Nat.le_refl _) (by rw [e26']; exact (h1.st154 (by omega)).st154 (by omega)) (fun i' j' h1' h2' => ?_) (fun i hi => ?_) (Or.inl ⟨?_, fun x x1 x2 => absurd x1 (by omega)⟩) ?_
      · rw [e26', sa_ne (by decide), sa_ne (by decide)]
        exact h2 i' j' h1' h2'
      · rw [e26', sa_ne (by decide), sa_nx (by omega), sa_nx (by omega), sa_ne (by decide)]
        exact ⟨rfl, rfl⟩
      · rw [e26', sa_ne (by decide), sa_at]
      · rw [e26', sa_ne (by decide), sa_at]
        omega
  -- the first phase
  have ph1 : ∀ (d y : Nat) (υ : St), y + d = n → FrQ σ υ → (∀ i j, i ≤ j → j < y → υ.1 154 (80 * i + j) = cF σ W i j) → a_MO_best_31 G W y υ P := by
    intro d
    induction d with
    | zero =>
      intro y υ hy h1 h2
      refine k_MO_best_31 ?_
      rw [e27 υ h1, Int.toNat_natCast n]
      refine ⟨⟨by omega, by omega⟩, fun _ => ⟨by omega, fun s12 e12 => ?_⟩, fun z => absurd z (by omega)⟩
      refine ph2 n s12 (Nat.le_refl _) (by rw [e12]; exact h1.st154 (by omega)) (fun i j hij hj => ?_) (by rw [e12, sa_at]) (fun i i1 i2 => absurd i1 (by omega)) (fun i i1 i2 => ?_)
      · rw [e12, sa_ne (by decide)]
        exact h2 i j hij (by omega)
      · rw [show i = n by omega, e12, sa_at]
        omega
    | succ d ih =>
      intro y υ hy h1 h2
      obtain ⟨qS, qT, qC, ab⟩ := h1.b.ok hS hT hC
      have hyn : y < nW σ := by omega
      obtain ⟨f1, f2, f3, f4, f5, f6, f7, f8, f9⟩ := word_rng qS qT (Nat.zero_le y) (show y < nW υ by rw [Ab_nW ab]; exact hyn)
      have ca := (qC.2.2.2.2.2.2 0 (by rw [Ab_nW ab]; omega)).2.2.1
      have cb : υ.1 113 y = bc υ (wE υ y) := (qC.2.2.2.2.2.2 y (by rw [Ab_nW ab]; exact hyn)).2.2.2
      have ca' : υ.1 112 0 = (bc υ (wfu υ 0) : Int) := ca
      refine k_MO_best_31 ?_
      rw [e27 υ h1, Int.toNat_natCast y, ca', cb]
      refine ⟨⟨by omega, by omega⟩, fun z => absurd z (by omega), fun _ => ⟨by omega, CJ.mono (t_findLeast qS qT qC (Nat.le_of_lt f1) f2 f3) (fun _ υ1 _ hυ1 => ?_)⟩⟩
      obtain ⟨l1, l2⟩ := hυ1
      have q1 : FrQ σ υ1 := h1.trans l1.s.q
      have inner : ∀ (e x : Nat) (ρ : St), x + e = y + 1 → FrQ σ ρ → ρ.1 124 = υ1.1 124 → (∀ i j, i ≤ j → j < y → ρ.1 154 (80 * i + j) = cF σ W i j) → (∀ i, i < x → ρ.1 154 (80 * i + y) = cF σ W i y) → a_MO_best_57 G W y x ρ P := by
        intro e
        induction e with
        | zero =>
          intro x ρ hx r1 r2 r3 r4
          refine k_MO_best_57 ⟨⟨by omega, by omega⟩, ⟨by omega, by omega⟩, fun _ => ?_, fun z => absurd z (by omega)⟩
          rw [show (y : Int) + 1 = ((y + 1 : Nat) : Int) by omega]
          refine ih (y + 1) ρ (by omega) r1 (fun i j hij hj => ?_)
          by_cases q : j = y
          · rw [q]; exact r4 i (by omega)
          · exact r3 i j hij (by omega)
        | succ e ihe =>
          intro x ρ hx r1 r2 r3 r4
          have hxy : x ≤ y := by omega
          obtain ⟨pS, pT, pC, abr⟩ := r1.b.ok hS hT hC
          obtain ⟨g1, g2, g3, -, -, -, -, -, g9⟩ := word_rng hS hT hxy hyn
          have E8 := g2.1
          have cx : ρ.1 112 x = (bc σ (wfu σ x) : Int) := by
            have := (pC.2.2.2.2.2.2 x (by rw [Ab_nW abr]; omega)).2.2.1
            rw [Ab_bc abr, Ab_wfu abr] at this
            exact this
          have b1 := bc_le (σ := σ) (u := wfu σ x)
          have hle0 : wfu σ 0 ≤ wfu σ x := by
            rcases Nat.eq_zero_or_pos x with q | q
            · rw [q]; exact Nat.le_refl _
            · exact Nat.le_of_lt (wfu_lt q (by omega))
          have row : ρ.1 124 ((((((bc σ (wfu σ x) : Int) * 301) + (W : Int)) * 4) + 0).toNat) = LL σ (wE σ y) (wfu σ x) W 0 := by
            have a := l2 (wfu υ x) (by rw [Ab_wfu ab]; exact hle0) (by rw [Ab_wfu ab, Ab_wE ab]; omega) (by rw [Ab_bh ab, Ab_wfu ab]; exact g3) W 0 hW (by omega)
            rw [Ab_bc ab, Ab_wfu ab, Ab_LL ab, Ab_wE ab] at a
            rw [r2]
            have hix : (((((bc σ (wfu σ x) : Nat) : Int) * 301 + (W : Int)) * 4) + 0).toNat = ix (bc σ (wfu σ x)) W 0 := by unfold ix; omega
            rw [hix]
            exact a
          have lb1 := LL_b hS hT g2.1 (wE σ y - wfu σ x) (wfu σ x) (by omega) W 0
          have cb := cF_b hS hT (W := W) hxy hyn
          have ex : ((80 * (x : Int)) + (y : Int)).toNat = 80 * x + y := by omega
          have next : ∀ (ρ' : St) (v : Int), v = cF σ W x y → ρ' = sa ρ 154 (80 * x + y) v → a_MO_best_57 G W y ((x : Int) + 1) ρ' P := fun ρ' v hv e' => by
            rw [show (x : Int) + 1 = ((x + 1 : Nat) : Int) by omega]
            refine ihe (x + 1) ρ' (by omega) (by rw [e']; exact r1.st154 (by omega)) (by rw [e', sa_ne (by decide)]; exact r2) (fun i j hij hj => ?_) (fun i hi => ?_)
            · rw [e', sa_nx (by omega)]
              exact r3 i j hij hj
            · by_cases q : i = x
              · rw [q, e', sa_at]; exact hv
              · rw [e', sa_nx (by omega)]
                exact r4 i (by omega)
          refine k_MO_best_57 ?_
          refine ⟨⟨by omega, by omega⟩, ⟨by omega, by omega⟩, fun z => absurd z (by omega), fun _ => CJ.mono (t_haveForms pS pT pC rfl rfl hxy (by rw [Ab_nW abr]; exact hyn)) (fun r31 u30 _ h30 => ?_)⟩
          rw [h30.1, h30.2, e27 ρ r1, ex, Int.toNat_natCast x, cx, Ab_lkR abr, Ab_wfu abr, Ab_wE abr, row]
          have hv : (if (if lkR σ (wfu σ x) (wE σ y) = true then (0 : Int) else 1) = 0 then (536870912 : Int) else LL σ (wE σ y) (wfu σ x) W 0) = (if lkR σ (wfu σ x) (wE σ y) = true then NV else LL σ (wE σ y) (wfu σ x) W 0) := by
            cases lkR σ (wfu σ x) (wE σ y) with
            | true => rfl
            | false => rfl
          rw [hv]
          have hvb : 0 ≤ (if lkR σ (wfu σ x) (wE σ y) = true then NV else LL σ (wE σ y) (wfu σ x) W 0) ∧ (if lkR σ (wfu σ x) (wE σ y) = true then NV else LL σ (wE σ y) (wfu σ x) W 0) ≤ NV := by
            split
            · omega
            · exact lb1
          refine ⟨fun _ => ⟨by omega, ⟨by omega, by omega⟩, by omega, by omega⟩, ⟨by omega, by omega⟩, fun z => ⟨by omega, ⟨by omega, by omega⟩, fun s43 e43 => next s43 _ ?_ e43⟩, fun z => ?_⟩
          · unfold cF
            rw [if_neg (show ¬ pln σ W x y = true from fun q => by have := (pln_is.mp q).1; omega)]
          · refine CJ.mono (t_isPlainEnd pS pT pC hxy (show y + 1 = nW ρ by rw [Ab_nW abr]; omega) hW) (fun r46 u45 _ h45 => ?_)
            rw [h45.1, h45.2, Ab_pln abr]
            have hv2 : (if (if pln σ W x y = true then (1 : Int) else 0) = 0 then (if lkR σ (wfu σ x) (wE σ y) = true then NV else LL σ (wE σ y) (wfu σ x) W 0) else (0 : Int)) = cF σ W x y := by
              unfold cF
              cases pln σ W x y with
              | true => rfl
              | false => rfl
            rw [hv2]
            exact ⟨by omega, ⟨by omega, by omega⟩, fun s50 e50 => next s50 _ rfl e50⟩
      refine inner (y + 1) 0 υ1 (by omega) q1 rfl (fun i j hij hj => ?_) (fun i hi => absurd hi (by omega))
      rw [l1.2 154 (by omega)]
      exact h2 i j hij hj
  exact ph1 n 0 σ (by omega) FrQ.refl (fun i j _ hj => absurd hj (by omega))
