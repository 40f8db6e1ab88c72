/-! a new line comes to hand -/
theorem Ab_mfm {σ τ : St} (h : Ab σ τ) : mfm τ = mfm σ := by funext i; unfold mfm pfM; rw [Ab_tx h, h.1 104 (by omega), h.1 105 (by omega)]
theorem Ab_abv {σ τ : St} (h : Ab σ τ) : abv τ = abv σ := by funext i; unfold abv; rw [Ab_ts h]
theorem Ab_edg {σ τ : St} (h : Ab σ τ) : edg τ = edg σ := by funext k ab e ms; unfold edg; rw [Ab_ts h]
theorem Ab_lyE {σ τ : St} (h : Ab σ τ) : lyE τ = lyE σ := by funext ps ms i k; unfold lyE; rw [Ab_edg h, Ab_abv h, h.1 98 (by omega), h.1 99 (by omega)]
theorem Ab_lyL {σ τ : St} (h : Ab σ τ) : lyL τ = lyL σ := by funext ps i k; unfold lyL; rw [Ab_tw h, Ab_mfm h, h.1 101 (by omega), h.1 97 (by omega)]
theorem Ab_lyW {σ τ : St} (h : Ab σ τ) : lyW τ = lyW σ := by funext ps ms i k; unfold lyW; rw [Ab_pbl h, Ab_abv h, Ab_lyL h, Ab_lyE h, Ab_mfm h, h.1 97 (by omega), h.1 98 (by omega)]
theorem Ab_lyB {σ τ : St} (h : Ab σ τ) : lyB τ = lyB σ := by funext ps ms i k; unfold lyB; rw [Ab_abv h, Ab_lyE h, Ab_lyW h, Ab_mfm h, h.1 98 (by omega)]
theorem Ab_lay1 {σ τ : St} (h : Ab σ τ) : lay1 τ = lay1 σ := by funext ps ms i k; unfold lay1; rw [Ab_lyL h, Ab_lyB h, Ab_lyW h, Ab_mfm h, h.1 97 (by omega), h.1 98 (by omega)]
theorem Ab_mpU {σ τ : St} (h : Ab σ τ) : mpU τ = mpU σ := by funext u; unfold mpU; rw [Ab_up h, Ab_la h]
theorem Ab_mpP {σ τ : St} (h : Ab σ τ) : mpP τ = mpP σ := by funext u c; unfold mpP; rw [Ab_mpU h]
theorem Ab_prs {σ τ : St} (h : Ab σ τ) : prs τ = prs σ := by
  funext k ps
  induction ps generalizing k with
  | nil => rfl
  | cons q ps ih => unfold prs; rw [ih, Ab_mpP h, Ab_ln3 h]
theorem Ab_MS {σ τ : St} (h : Ab σ τ) : MS τ = MS σ := by funext ps; unfold MS lays; rw [Ab_prs h, Ab_lay1 h]
theorem Ab_okO {σ τ : St} (h : Ab σ τ) : okO τ = okO σ := by funext E u w st o; unfold okO; rw [Ab_sbA h, Ab_wd h, Ab_LL h, Ab_ln3 h, Ab_cst h]
theorem Ab_trc {σ τ : St} (h : Ab σ τ) : trc τ = trc σ := by
  funext E n u w st
  induction n generalizing u w st with
  | zero => rfl
  | succ n ih =>
    unfold trc
    rw [Ab_opt h, Ab_okO h, Ab_ln3 h, Ab_wd h, Ab_sbA h]
    split
    · rfl
    · split
      · rfl
      · rw [ih]
/-- all the class does with its spare line -/
theorem t_takeSpare {G : GT} {σ τ : St} {F E : Nat} (hS : IS σ) (hT : IT σ) (hU : UNx σ σ) (hL : isL τ.2.2.2) (hne : τ.2.2.1 ≠ τ.2.2.2) (hF : Fr WF σ τ) {ps : List Pc} (hps : Chn σ F ps E) (hE : E ≤ nU σ) (hno : lkR σ F E = false) (hLJ : LJ σ τ.2.2.2 ps τ) : CJ G m_JS_takeSpare [O 0] τ (fun _ υ => MKt (τ.2.2.2 + 6) (MS σ ps) υ ∧ LJ σ τ.2.2.2 ps υ ∧ (∀ k, ¬ (τ.2.2.2 + 7 ≤ k ∧ k ≤ τ.2.2.2 + 14) → υ.1 k = τ.1 k) ∧ (∀ k, k ≠ 0 → ¬ (τ.2.2.2 + 7 ≤ k ∧ k ≤ τ.2.2.2 + 14) → υ.2.1 k = τ.2.1 k) ∧ (∀ j, j ≠ 11 → υ.2.1 0 j = τ.2.1 0 j) ∧ υ.2.1 0 11 = τ.2.1 0 9 ∧ υ.2.2 = (τ.2.2.2, τ.2.2.1) ∧ MBd (MS σ ps) ∧ (MS σ ps).length ≤ 80) := by
  have hL2 : τ.2.2.2 = 9 ∨ τ.2.2.2 = 28 := hL
  refine CJ.go (fun _ => k_JS_takeSpare_0 ⟨hL, CJ.mono (t_putMarks hS hT hU hL hF hps hE hno hLJ) (fun _ υ _ hυ s3 e3 s5 e5 s8 e8 => ?_)⟩)
  obtain ⟨h1, h2, h3, h4, h5⟩ := hυ
  have a8 : s8.1 = υ.1 := by rw [e8, e5, e3]; rfl
  have f8 : ∀ k, k ≠ 0 → s8.2.1 k = υ.2.1 k := fun k hk => by rw [e8, sf_ne hk, e5, e3]; rfl
  have g0 : υ.2.1 0 = τ.2.1 0 := (h3.1 0 (by omega)).2
  refine ⟨?_, ?_, fun k hk => by rw [a8]; exact (h3.1 k hk).1, fun k k0 hk => by rw [f8 k k0]; exact (h3.1 k hk).2, fun j hj => ?_, ?_, ?_, h4, h5⟩
  · unfold MKt BXt at h1 ⊢
    rw [a8, f8 (τ.2.2.2 + 6 + 1) (by omega)]
    exact h1
  · unfold LJ at h2 ⊢
    rw [a8, f8 τ.2.2.2 (by omega), f8 (τ.2.2.2 + 1) (by omega)]
    exact h2
  · rw [e8, sf_nx (show j ≠ 11 from hj), e5, e3]
    show υ.2.1 0 j = _
    rw [g0]
  · rw [e8]
    show (sf s5 0 11 (s5.2.1 0 9)).2.1 0 11 = _
    rw [sf_at, e5, e3]
    show υ.2.1 0 9 = _
    rw [g0]
  · have h22 : υ.2.2 = τ.2.2 := h3.2
    rw [e8, e5, e3]
    show (υ.2.2.2, υ.2.2.1) = _
    rw [h22]
def HT (k : Nat) : Prop := (46 < k ∧ k < 74) ∨ (76 < k ∧ k < 110) ∨ (152 < k ∧ k < 376)
theorem Inv_hand {k : Nat} {τ ρ : St} (h : Inw k τ) (hu : τ.2.1 0 10 = τ.2.1 0 9) (A : ∀ k, HT k → ρ.1 k = τ.1 k) (O : ∀ k, (1 ≤ k ∧ k ≤ 4) ∨ k = 6 ∨ k = 7 → ρ.2.1 k = τ.2.1 k) (F8 : ∀ j, j < 26 ∨ 94 < j → ρ.2.1 8 j = τ.2.1 8 j) (F0 : ∀ j, j = 9 ∨ j = 10 ∨ j = 13 ∨ j = 14 → ρ.2.1 0 j = τ.2.1 0 j) (hp : ρ.2.2 = (τ.2.2.2, τ.2.2.1)) (hc : ρ.2.1 8 26 = 1) (hC : CTx ρ ρ) (hh : ρ.2.1 0 11 = ρ.2.1 0 9) (hi : ρ.2.1 8 68 = 1) (hn : ρ.2.1 0 12 ≤ ρ.2.1 0 9) (hni : ρ.2.1 8 91 = (if ρ.2.1 0 12 = ρ.2.1 0 9 then 1 else 0)) (hNB : NB ρ) {ps : List Pc} {ms : List Mk} {f t : Nat} (hHB : HB1 ρ τ.2.2.2 ps ms f t ρ) : Inv (k + 1) ρ := by
  obtain ⟨hB, ⟨⟨a1, a2, a3, a4, a5, a6, a7⟩, ⟨b1, b2, b3, b4, b5⟩, c2, c3, c4, c5⟩, hUB, hH, hN, hL, hP⟩ := h
  have hs : Same τ ρ := ⟨fun k hk => A k (by unfold SK at hk; unfold HT; omega), fun j => by rw [O 1 (by omega)], fun j => by rw [O 2 (by omega)], fun j => by rw [O 3 (by omega)], F8 6 (by omega), F8 7 (by omega), F8 17 (by omega), F8 21 (by omega), F8 _ (by decide), F8 _ (by decide)⟩
  obtain ⟨ab, af⟩ := hs.ab
  obtain ⟨hS, hT, hR, hHS⟩ := id hB
  obtain ⟨s1, s2, s3, s4, s5, s6, s7, s8, s9, s10⟩ := id hs
  have o9 := F0 9 (by omega)
  have o10 := F0 10 (by omega)
  have o13 := F0 13 (by omega)
  have o14 := F0 14 (by omega)
  have hu' : τ.2.1 0 10 = τ.2.1 0 9 := hu
  have hB' : Base ρ := by
    refine ⟨keep_IS hs hS, IT_keep hT (fun k hk => s1 k (by unfold SK; omega)) s3 s8 s9 (fun l hl => ?_), RC_keep hR (s1 60 (by unfold SK; omega)) (s1 153 (by unfold SK; omega)) (s4 0) s10, ?_⟩
    · unfold LOk at hl ⊢
      rw [s5, s1 89 (by unfold SK; omega)]
      exact hl
    · unfold HS at hHS ⊢
      rw [hp]
      rcases hHS with q | q
      · right; rw [q]
      · left; rw [q]
  refine Inw_v ⟨hB', ?_, ⟨fun _ => ?_, fun _ => hC⟩, fun _ => ⟨ps, ms, f, t, by rw [hp]; exact hHB⟩, hNB, ?_, ?_⟩ (fun _ => hc)
  · refine ⟨⟨by rw [o9]; exact a1, by rw [o9]; omega, by rw [o9, o10]; exact a3, by rw [hh]; exact Int.le_refl _, hn, by rw [o9, o13]; exact a6, by rw [o9, o14]; exact a7⟩, ⟨by rw [if_pos hh]; exact hi, hni, by rw [o9, o13, show ρ.2.1 8 100 = τ.2.1 8 100 from F8 100 (by omega)]; exact b3, by rw [o9, o14, show ρ.2.1 8 109 = τ.2.1 8 109 from F8 109 (by omega)]; exact b4, Or.inr hc⟩, fun _ => by rw [o9, o10]; exact hu', fun _ => by rw [o9, o10]; exact hu', fun _ => by rw [o9, o10]; exact hu', by rw [o9, o13, o14]; exact c5⟩
  · exact UNx_ab ab (UNx_keep (hUB.1 hu) (fun k k1 k2 => A k (by unfold HT; omega)) (O 4 (by omega)))
  · exact LB_keep hL ab (fun k hk => A k (by unfold HT; omega)) (by rw [O 6 (by omega)]) (by rw [O 6 (by omega)]) (F8 101 (by omega)) (F8 108 (by omega)) o9 o13
  · exact PB_keep hP (fun k hk => A k (by unfold HT; omega)) (by rw [O 7 (by omega)]) (F8 110 (by omega)) o9 o14
