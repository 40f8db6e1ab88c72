/-! the class's units as a whole; words -/
def Ab (σ τ : St) : Prop := (∀ k, (89 ≤ k ∧ k ≤ 106) → τ.1 k = σ.1 k) ∧ τ.2.1 8 6 = σ.2.1 8 6 ∧ τ.2.1 8 21 = σ.2.1 8 21
theorem Ab.refl {σ : St} : Ab σ σ := ⟨fun _ _ => rfl, rfl, rfl⟩
theorem Ab.symm {σ τ : St} (h : Ab σ τ) : Ab τ σ := ⟨fun k hk => (h.1 k hk).symm, h.2.1.symm, h.2.2.symm⟩
theorem Ab.trans {σ τ υ : St} (h : Ab σ τ) (g : Ab τ υ) : Ab σ υ := ⟨fun k hk => (g.1 k hk).trans (h.1 k hk), g.2.1.trans h.2.1, g.2.2.trans h.2.2⟩
def lkb (σ : St) (u i : Nat) : Bool := sd (ts σ) i && (decide (σ.1 105 (4 * (tx σ i).toNat) = 0) && decide (uc σ (i + 1) = u + 1))
/-- a mark that stands on the unit lacks a form -/
def lk (σ : St) (u : Nat) : Bool := (List.range (tn σ)).any (lkb σ u)
def la (σ : St) (u : Nat) : Nat := (if u + 1 < nU σ then up σ (u + 1) else tn σ) - 1
def uw (σ : St) (u : Nat) : Int := if us σ u = 6 then -6 else (wdc σ (up σ u + 1) : Int) - 1
def wa (σ : St) (w : Nat) : Nat := pos (wst (ts σ)) (tn σ) w
def wef (s : Nat → Int) : Nat → Nat → Nat
  | 0, _ => 0
  | n + 1, w => if s n ≠ 6 ∧ cnt (wst s) (n + 1) = w + 1 then n else wef s n w
def we (σ : St) (w : Nat) : Nat := wef (ts σ) (tn σ) w
def wfu (σ : St) (w : Nat) : Nat := uc σ (wa σ w)
def wtu (σ : St) (w : Nat) : Nat := uc σ (we σ w + 1) - 1
theorem Ab_tn {σ τ : St} (h : Ab σ τ) : tn τ = tn σ := by unfold tn; rw [h.2.2]
theorem Ab_nL {σ τ : St} (h : Ab σ τ) : nL τ = nL σ := by unfold nL; rw [h.2.1]
theorem Ab_tx {σ τ : St} (h : Ab σ τ) : tx τ = tx σ := by funext i; unfold tx; rw [h.1 106 (by omega)]
theorem Ab_ts {σ τ : St} (h : Ab σ τ) : ts τ = ts σ := by funext i; unfold ts; rw [h.1 106 (by omega), h.1 89 (by omega)]
theorem Ab_uc {σ τ : St} (h : Ab σ τ) : uc τ = uc σ := by funext i; unfold uc; rw [Ab_ts h]
theorem Ab_wdc {σ τ : St} (h : Ab σ τ) : wdc τ = wdc σ := by funext i; unfold wdc; rw [Ab_ts h]
theorem Ab_nU {σ τ : St} (h : Ab σ τ) : nU τ = nU σ := by unfold nU; rw [Ab_uc h, Ab_tn h]
theorem Ab_nW {σ τ : St} (h : Ab σ τ) : nW τ = nW σ := by unfold nW; rw [Ab_wdc h, Ab_tn h]
theorem Ab_up {σ τ : St} (h : Ab σ τ) : up τ = up σ := by funext u; unfold up; rw [Ab_ts h, Ab_tn h]
theorem Ab_ul {σ τ : St} (h : Ab σ τ) : ul τ = ul σ := by funext u; unfold ul; rw [Ab_tx h, Ab_up h]
theorem Ab_us {σ τ : St} (h : Ab σ τ) : us τ = us σ := by funext u; unfold us; rw [Ab_ts h, Ab_up h]
theorem Ab_ln3 {σ τ : St} (h : Ab σ τ) : ln3 τ = ln3 σ := by funext g; unfold ln3; rw [h.1 89 (by omega), h.1 92 (by omega)]
theorem Ab_mtb {σ τ : St} (h : Ab σ τ) : mtb τ = mtb σ := by funext g u; unfold mtb; rw [Ab_ln3 h, Ab_nU h, Ab_ul h, h.1 90 (by omega), h.1 91 (by omega), h.1 92 (by omega)]
theorem Ab_lmF {σ τ : St} (h : Ab σ τ) : lmF τ = lmF σ := by
  funext u L
  induction L with
  | zero => rfl
  | succ L ih =>
    have e : ∀ ρ : St, lmF ρ u (L + 1) = if ρ.1 89 L = 7 ∧ ρ.1 93 L = 1 ∧ (lmF ρ u L < 0 ∨ ln3 ρ (lmF ρ u L).toNat < ln3 ρ L) ∧ mtb ρ L u = true then (L : Int) else lmF ρ u L := fun _ => rfl
    rw [e, e, ih, Ab_ln3 h, Ab_mtb h, h.1 89 (by omega), h.1 93 (by omega)]
theorem Ab_lb {σ τ : St} (h : Ab σ τ) : lb τ = lb σ := by funext u; unfold lb lbo; rw [Ab_lmF h, Ab_ul h, Ab_nL h]
theorem Ab_bh {σ τ : St} (h : Ab σ τ) : bh τ = bh σ := by
  funext u
  induction u with
  | zero => rfl
  | succ u ih =>
    have e : ∀ ρ : St, bh ρ (u + 1) = if bh ρ u ≤ u then u + ln3 ρ (lb ρ u).toNat else bh ρ u := fun _ => rfl
    rw [e, e, ih, Ab_ln3 h, Ab_lb h]
theorem Ab_bb {σ τ : St} (h : Ab σ τ) : bb τ = bb σ := by
  funext u
  induction u with
  | zero => rfl
  | succ u ih =>
    have e : ∀ ρ : St, bb ρ (u + 1) = if bh ρ (u + 1) ≤ u + 1 then u + 1 else bb ρ u := fun _ => rfl
    rw [e, e, ih, Ab_bh h]
theorem Ab_jn {σ τ : St} (h : Ab σ τ) : jn τ = jn σ := by funext u; unfold jn; rw [Ab_nU h, Ab_us h]
theorem Ab_aln {σ τ : St} (h : Ab σ τ) : aln τ = aln σ := by
  funext u k
  induction k with
  | zero => rfl
  | succ k ih =>
    have e : ∀ ρ : St, aln ρ u (k + 1) = (aln ρ u k && decide (bh ρ (u + k) ≤ u + k ∧ lb ρ (u + k) = ul ρ (u + k))) := fun _ => rfl
    rw [e, e, ih, Ab_bh h, Ab_lb h, Ab_ul h]
theorem Ab_opb {σ τ : St} (h : Ab σ τ) : opb τ = opb σ := by funext u g; unfold opb; rw [Ab_mtb h, Ab_aln h, Ab_ln3 h, h.1 89 (by omega), h.1 93 (by omega)]
theorem Ab_opl {σ τ : St} (h : Ab σ τ) : opl τ = opl σ := by funext u L; unfold opl; rw [Ab_opb h]
theorem Ab_kl {σ τ : St} (h : Ab σ τ) : kl τ = kl σ := by funext u; unfold kl; rw [Ab_opl h, Ab_bh h, Ab_lb h, Ab_nL h]
theorem Ab_lk {σ τ : St} (h : Ab σ τ) : lk τ = lk σ := by
  funext u
  have e : lkb τ u = lkb σ u := by funext i; unfold lkb; rw [Ab_ts h, Ab_tx h, Ab_uc h, h.1 105 (by omega)]
  unfold lk
  rw [e, Ab_tn h]
theorem Ab_la {σ τ : St} (h : Ab σ τ) : la τ = la σ := by funext u; unfold la; rw [Ab_nU h, Ab_up h, Ab_tn h]
theorem Ab_uw {σ τ : St} (h : Ab σ τ) : uw τ = uw σ := by funext u; unfold uw; rw [Ab_us h, Ab_up h, Ab_wdc h]
theorem Ab_wa {σ τ : St} (h : Ab σ τ) : wa τ = wa σ := by funext w; unfold wa; rw [Ab_ts h, Ab_tn h]
theorem Ab_we {σ τ : St} (h : Ab σ τ) : we τ = we σ := by funext w; unfold we; rw [Ab_ts h, Ab_tn h]
theorem Ab_wfu {σ τ : St} (h : Ab σ τ) : wfu τ = wfu σ := by funext w; unfold wfu; rw [Ab_uc h, Ab_wa h]
theorem Ab_wtu {σ τ : St} (h : Ab σ τ) : wtu τ = wtu σ := by funext w; unfold wtu; rw [Ab_uc h, Ab_we h]
/-! words -/
theorem wdc_mono {σ : St} {i j : Nat} (h : i ≤ j) : wdc σ i ≤ wdc σ j := cnt_mono h
theorem wdc_blank {σ : St} {j : Nat} : ∀ e, j < e → ts σ j = 6 → ts σ e ≠ 6 → wdc σ (j + 1) < wdc σ (e + 1)
  | 0, h, _, _ => absurd h (by omega)
  | e + 1, h, hj, he => by
    by_cases z : ts σ e = 6
    · have hw : wst (ts σ) (e + 1) = true := wst_t he (by unfold iw; simp [z])
      have h1 : wdc σ (e + 1 + 1) = wdc σ (e + 1) + 1 := cnt_t hw
      have h2 := wdc_mono (σ := σ) (show j + 1 ≤ e + 1 by omega)
      omega
    · have hne : j ≠ e := fun q => z (by rw [← q]; exact hj)
      have := wdc_blank e (by omega) hj z
      have h2 := wdc_mono (σ := σ) (show e + 1 ≤ e + 1 + 1 by omega)
      omega
theorem wef_spec {s : Nat → Int} {w a : Nat} (ha : s a ≠ 6 ∧ cnt (wst s) (a + 1) = w + 1) : ∀ n, a < n → a ≤ wef s n w ∧ wef s n w < n ∧ (s (wef s n w) ≠ 6 ∧ cnt (wst s) (wef s n w + 1) = w + 1) ∧ ∀ j, wef s n w < j → j < n → ¬ (s j ≠ 6 ∧ cnt (wst s) (j + 1) = w + 1)
  | 0, h => absurd h (by omega)
  | n + 1, h => by
    unfold wef
    by_cases c : s n ≠ 6 ∧ cnt (wst s) (n + 1) = w + 1
    · rw [if_pos c]
      exact ⟨by omega, by omega, c, fun j h1 h2 => absurd h1 (by omega)⟩
    · rw [if_neg c]
      have hne : a ≠ n := fun q => c (by rw [← q]; exact ha)
      obtain ⟨b1, b2, b3, b4⟩ := wef_spec ha n (by omega)
      refine ⟨b1, by omega, b3, fun j h1 h2 => ?_⟩
      by_cases q : j = n
      · rw [q]; exact c
      · exact b4 j h1 (by omega)
theorem word_ex {σ : St} {w : Nat} (h : w < nW σ) : wa σ w < tn σ ∧ wst (ts σ) (wa σ w) = true ∧ wdc σ (wa σ w) = w ∧ wa σ w ≤ we σ w ∧ we σ w < tn σ ∧ (we σ w + 1 = tn σ ∨ ts σ (we σ w + 1) = 6) ∧ ∀ j, wa σ w ≤ j → j ≤ we σ w → ts σ j ≠ 6 ∧ wdc σ (j + 1) = w + 1 := by
  obtain ⟨a1, a2, a3⟩ := pos_ex (q := wst (ts σ)) (n := tn σ) h
  have a4 := wst_e a2
  have a5 : cnt (wst (ts σ)) (wa σ w + 1) = w + 1 := by
    unfold wa
    rw [cnt_t a2, a3]
  obtain ⟨b1, b2, b3, b4⟩ := wef_spec (s := ts σ) (w := w) (a := wa σ w) ⟨a4.1, a5⟩ (tn σ) a1
  refine ⟨a1, a2, a3, b1, b2, ?_, fun j h1 h2 => ?_⟩
  · by_cases q : we σ w + 1 = tn σ
    · exact Or.inl q
    · right
      have b2' : we σ w < tn σ := b2
      by_cases z : ts σ (we σ w + 1) = 6
      · exact z
      · exfalso
        have hw : wst (ts σ) (we σ w + 1) = false := wst_w (by unfold iw; simp; exact b3.1)
        have h3 : cnt (wst (ts σ)) (we σ w + 1 + 1) = w + 1 := by rw [cnt_f hw]; exact b3.2
        exact b4 (we σ w + 1) (by show wef _ _ _ < we σ w + 1; exact Nat.lt_succ_self _) (by omega) ⟨z, h3⟩
  · have m1 := wdc_mono (σ := σ) (show wa σ w + 1 ≤ j + 1 by omega)
    have m2 := wdc_mono (σ := σ) (show j + 1 ≤ we σ w + 1 by omega)
    have e2 : wdc σ (we σ w + 1) = w + 1 := b3.2
    have e1 : wdc σ (wa σ w + 1) = w + 1 := a5
    refine ⟨fun z => ?_, by omega⟩
    by_cases q : j = we σ w
    · rw [q] at z
      exact b3.1 z
    · have := wdc_blank (σ := σ) (j := j) (we σ w) (by omega) z b3.1
      omega
theorem wst_sd {σ : St} {i : Nat} (h : wst (ts σ) i = true) : sd (ts σ) i = false := by
  have := (wst_e h).2
  cases hc : cs (ts σ) i with
  | false => exact sd_free hc
  | true => rw [cs_iw hc] at this; exact absurd this (by decide)
/-- the tables of τ are those of the text of σ -/
def UNx (σ τ : St) : Prop := τ.2.1 4 2 = nU σ ∧ τ.2.1 4 3 = nW σ ∧ (∀ i, i < tn σ → τ.1 68 i = (uc σ (i + 1) : Int) - 1) ∧
  (∀ u, u < nU σ → τ.1 61 u = up σ u ∧ τ.1 62 u = la σ u ∧ τ.1 63 u = ul σ u ∧ τ.1 64 u = uw σ u ∧ τ.1 65 u = (if us σ u = 6 then 1 else 0) ∧ τ.1 69 u = (if jn σ u = true then 1 else 0) ∧ τ.1 70 u = (if lk σ u = true then 1 else 0) ∧ τ.1 71 u = bb σ u ∧ KO (kl σ u) (τ.1 72 u) (fun j => τ.1 73 (3 * u + j))) ∧
  (∀ w, w < nW σ → τ.1 66 w = wfu σ w ∧ τ.1 67 w = wtu σ w)
theorem UNx_ab {σ τ υ : St} (h : Ab σ τ) (g : UNx σ υ) : UNx τ υ := by
  unfold UNx at g ⊢
  rw [Ab_nU h, Ab_nW h, Ab_tn h, Ab_uc h, Ab_up h, Ab_la h, Ab_ul h, Ab_uw h, Ab_us h, Ab_jn h, Ab_lk h, Ab_bb h, Ab_kl h, Ab_wfu h, Ab_wtu h]
  exact g
theorem UNx_keep {σ τ υ : St} (g : UNx σ τ) (h : ∀ k, 61 ≤ k → k ≤ 73 → υ.1 k = τ.1 k) (h4 : υ.2.1 4 = τ.2.1 4) : UNx σ υ := by
  unfold UNx at g ⊢
  rw [h4, h 61 (by omega) (by omega), h 62 (by omega) (by omega), h 63 (by omega) (by omega), h 64 (by omega) (by omega), h 65 (by omega) (by omega), h 66 (by omega) (by omega), h 67 (by omega) (by omega), h 68 (by omega) (by omega), h 69 (by omega) (by omega), h 70 (by omega) (by omega), h 71 (by omega) (by omega), h 72 (by omega) (by omega), h 73 (by omega) (by omega)]
  exact g
theorem t_build {G : GT} {σ : St} (hS : IS σ) (hT : IT σ) : CJ G m_UN_build [O 4] σ (fun _ τ => Fr WU σ τ ∧ UNx σ τ) := by
  have n := hS.1
  unfold NumOk at n
  have n8 := nU_le hT
  refine CJ.go (fun _ => k_UN_build_0 ?_)
  refine CJ.mono (t_split hS hT) (fun _ τ1 _ h1 => ?_)
  obtain ⟨f, a1, a2, a3, a4, a5, a6, a7, a8⟩ := h1
  have upx : ∀ u, u < nU σ → up σ u < tn σ ∧ sd (ts σ) (up σ u) = false ∧ uc σ (up σ u) = u := fun u hu => up_ex hu
  have hUL : UL σ τ1 := ⟨f, a1, fun u hu => by
    obtain ⟨x1, x2, x3⟩ := upx u hu
    have := (a4 (up σ u) x1 x2).2.1
    rw [x3] at this
    exact this⟩
  have hsrt : ∀ u, u < nU σ → (0 ≤ ul σ u ∧ ul σ u < 60) ∧ τ1.1 47 (ul σ u).toNat = us σ u := fun u hu => by
    have := ul_ok hT hu
    unfold LOk at this
    refine ⟨by omega, ?_⟩
    rw [(f.u 47 (by omega)).1]
    exact (hS.2.1 (ul σ u).toNat (by omega)).1
  -- the joins
  have loop : ∀ (d m : Nat) (τ : St), m + d = nU σ → τ.2 = τ1.2 → (∀ k, k ≠ 69 → τ.1 k = τ1.1 k) → (∀ u, u < m → τ.1 69 u = if jn σ u = true then 1 else 0) → a_UN_build_6 G m τ (fun _ τ => Fr WU σ τ ∧ UNx σ τ) := by
    intro d
    induction d with
    | zero =>
      intro m τ hm h2 ho hj
      refine k_UN_build_6 ?_
      rw [h2, a1]
      have UL2 : UL σ τ := ⟨⟨fun k hk => ⟨by rw [ho k (by unfold WU at hk; omega)]; exact (f.1 k hk).1, by rw [h2]; exact (f.1 k hk).2⟩, by rw [h2]; exact f.2⟩, by rw [h2]; exact a1, fun u hu => by rw [ho 63 (by decide)]; exact hUL.2.2 u hu⟩
      refine ⟨⟨by omega, by omega⟩, fun _ => ?_, fun z => absurd z (by unfold nU at *; omega)⟩
      refine CJ.go (fun _ => k_UN_findBases_0 ?_)
      refine l_findBases (P := fun _ τ2 => CJ G m_UN_findOthers [O 4] τ2 (fun _ u15 => Fr WU σ u15 ∧ UNx σ u15)) hS hT UL2 (fun τ2 b2 bo bf => ?_) (nU σ) 0 τ 0 (by omega) rfl (fun _ _ _ _ => rfl) (fun u hu => absurd hu (by omega)) (by rw [if_pos rfl])
      have UL3 : UL σ τ2 := ⟨⟨fun k hk => ⟨by rw [bo k (by unfold WU at hk; omega) (by unfold WU at hk; omega) (by unfold WU at hk; omega)]; exact (UL2.1.1 k hk).1, by rw [b2]; exact (UL2.1.1 k hk).2⟩, by rw [b2]; exact UL2.1.2⟩, by rw [b2]; exact UL2.2.1, fun u hu => by rw [bo 63 (by decide) (by decide) (by decide)]; exact UL2.2.2 u hu⟩
      refine CJ.go (fun _ => k_UN_findOthers_0 ?_)
      refine l_others hS hT UL3 (fun τ3 c2 co ck => ?_) (nU σ) 0 τ2 (by omega) rfl (fun _ _ _ => rfl) (fun u hu => ?_)
      · have A : ∀ k, k ≠ 69 → k ≠ 71 → k ≠ 72 → k ≠ 73 → τ3.1 k = τ1.1 k := fun k h1 h2 h3 h4 => by rw [co k h3 h4, bo k h2 h3 h4, ho k h1]
        have E : τ3.2 = τ1.2 := by rw [c2, b2, h2]
        refine ⟨⟨fun k hk => ⟨by rw [A k (by unfold WU at hk; omega) (by unfold WU at hk; omega) (by unfold WU at hk; omega) (by unfold WU at hk; omega)]; exact (f.1 k hk).1, by rw [E]; exact (f.1 k hk).2⟩, by rw [E]; exact f.2⟩, ?_⟩
        refine ⟨by rw [E]; exact a1, by rw [E]; exact a2, fun i hi => by rw [A 68 (by decide) (by decide) (by decide) (by decide)]; exact a3 i hi, fun u hu => ?_, fun w hw => ?_⟩
        · obtain ⟨x1, x2, x3⟩ := upx u hu
          have hx := a4 (up σ u) x1 x2
          rw [x3] at hx
          obtain ⟨y1, y2, y3, y4⟩ := hx
          obtain ⟨k1, k2⟩ := ck u hu
          rw [A 61 (by decide) (by decide) (by decide) (by decide), A 62 (by decide) (by decide) (by decide) (by decide), A 63 (by decide) (by decide) (by decide) (by decide), A 64 (by decide) (by decide) (by decide) (by decide), A 65 (by decide) (by decide) (by decide) (by decide), A 70 (by decide) (by decide) (by decide) (by decide)]
          refine ⟨y1, ?_, y2, y3, y4, ?_, ?_, k1, k2⟩
          · unfold la
            by_cases q : u + 1 < nU σ
            · rw [if_pos q]
              obtain ⟨z1, z2, z3⟩ := upx (u + 1) q
              have z0 : up σ (u + 1) ≠ 0 := fun e => by rw [e] at z3; have : uc σ 0 = 0 := rfl; omega
              obtain ⟨i, hi⟩ : ∃ i, up σ (u + 1) = i + 1 := ⟨up σ (u + 1) - 1, by omega⟩
              have := a5 i (by omega) (Or.inr (by rw [← hi]; exact z2))
              rw [← hi, z3] at this
              rw [hi]
              exact this
            · rw [if_neg q]
              have hn0 : tn σ ≠ 0 := by omega
              have := a5 (tn σ - 1) (by omega) (Or.inl (by omega))
              rw [show tn σ - 1 + 1 = tn σ by omega] at this
              have e : uc σ (tn σ) - 1 = u := by have : nU σ = uc σ (tn σ) := rfl; omega
              rw [e] at this
              rw [this]
          · rw [co 69 (by decide) (by decide), bo 69 (by decide) (by decide) (by decide)]
            exact hj u (by omega)
          · obtain ⟨l1, l2⟩ := a6 u hu
            have hl : lk σ u = true ↔ ∃ i, i < tn σ ∧ lkm σ i ∧ uc σ (i + 1) = u + 1 := by
              unfold lk
              rw [List.any_eq_true]
              constructor
              · rintro ⟨i, i1, i2⟩
                unfold lkb at i2
                simp only [Bool.and_eq_true, decide_eq_true_iff] at i2
                exact ⟨i, List.mem_range.mp i1, ⟨i2.1, i2.2.1⟩, i2.2.2⟩
              · rintro ⟨i, i1, i2, i3⟩
                refine ⟨i, List.mem_range.mpr i1, ?_⟩
                unfold lkb
                simp only [Bool.and_eq_true, decide_eq_true_iff]
                exact ⟨i2.1, i2.2, i3⟩
            by_cases q : lk σ u = true
            · rw [if_pos q]; exact l2.mpr (hl.mp q)
            · rw [if_neg q]
              rcases l1 with w | w
              · exact w
              · exact absurd (hl.mpr (l2.mp w)) q
        · obtain ⟨w1, w2, w3, w4, w5, w6, w7⟩ := word_ex hw
          rw [A 66 (by decide) (by decide) (by decide) (by decide), A 67 (by decide) (by decide) (by decide) (by decide)]
          constructor
          · have := a7 (wa σ w) w1 w2
            rw [w3] at this
            exact this
          · have h8 := a8 (we σ w) w5 (w7 (we σ w) w4 (Nat.le_refl _)).1 w6
            rw [(w7 (we σ w) w4 (Nat.le_refl _)).2, show w + 1 - 1 = w by omega] at h8
            have := uc_pos (σ := σ) (i := we σ w)
            rw [h8]
            unfold wtu
            omega
      · obtain ⟨d1, d2, d3⟩ := bf u hu
        refine ⟨d1, ?_⟩
        simp only [Nat.not_lt_zero, if_false]
        have e0 : opl σ u (gN σ 0) = opl σ u 0 := opl_const _ (by omega) (fun l _ hl => gN_first hS l hl)
        unfold klL
        rw [e0]
        by_cases q : bh σ u ≤ u
        · rw [if_pos q] at d2 ⊢
          refine ⟨d2, fun j hj => ?_⟩
          have hj0 : j = 0 := by
            have : (opl σ u 0).length = 0 := rfl
            simp only [List.length_cons] at hj
            omega
          rw [hj0]
          show some (lb σ u) = some (τ2.1 73 (3 * u + 0))
          rw [Nat.add_zero, d3 q]
        · rw [if_neg q] at d2 ⊢
          exact ⟨d2, fun j hj => absurd hj (by simp)⟩
    | succ d ih =>
      intro m τ hm h2 ho hj
      refine k_UN_build_6 ?_
      rw [h2, a1, ho 63 (by decide), ho 47 (by decide), Int.toNat_natCast, show ((m : Int) + 1).toNat = m + 1 by omega]
      have l1 := hUL.2.2 m (by omega)
      have s1 := hsrt m (by omega)
      rw [l1, s1.2]
      have hn : ((uc σ (tn σ) : Nat) : Int) = (nU σ : Int) := rfl
      rw [hn]
      by_cases q : m + 1 < nU σ
      · have l2 := hUL.2.2 (m + 1) q
        have s2 := hsrt (m + 1) q
        rw [l2, s2.2]
        refine ⟨⟨by omega, by omega⟩, fun z => absurd z (by omega), fun _ => ⟨⟨by omega, by omega⟩, fun _ => ⟨by omega, by omega, fun _ => ⟨by omega, by omega⟩⟩, by omega, fun s27 e27 => ?_⟩⟩
        refine ih (m + 1) s27 (by omega) (by rw [e27]; exact h2) (fun k hk => by rw [e27, sa_ne hk]; exact ho k hk) (fun u hu => ?_)
        rw [e27, sa_1]
        by_cases e : u = m
        · rw [if_pos ⟨rfl, e⟩, e]
          refine ite_iff ?_
          unfold jn
          rw [decide_eq_true_iff]
          omega
        · rw [if_neg (fun z => e z.2)]
          exact hj u (by omega)
      · refine ⟨⟨by omega, by omega⟩, fun z => absurd z (by omega), fun _ => ⟨⟨by omega, by omega⟩, fun z => absurd z (by omega), by omega, fun s27 e27 => ?_⟩⟩
        refine ih (m + 1) s27 (by omega) (by rw [e27]; exact h2) (fun k hk => by rw [e27, sa_ne hk]; exact ho k hk) (fun u hu => ?_)
        rw [e27, sa_1]
        by_cases e : u = m
        · rw [if_pos ⟨rfl, e⟩, e]
          refine ite_iff ?_
          unfold jn
          rw [decide_eq_true_iff]
          omega
        · rw [if_neg (fun z => e z.2)]
          exact hj u (by omega)
  exact loop (nU σ) 0 τ1 (by omega) rfl (fun _ _ => rfl) (fun u hu => absurd hu (by omega))
