/-! splitWords of the class -/
def WU (k : Nat) : Prop := k = 4 ∨ (61 ≤ k ∧ k ≤ 73)
def lkm (σ : St) (i : Nat) : Prop := sd (ts σ) i = true ∧ σ.1 105 (4 * (tx σ i).toNat) = 0
def SW1 (σ : St) (m w : Nat) (τ : St) : Prop := Fr WU σ τ ∧ τ.2.1 4 2 = uc σ m ∧ τ.2.1 4 3 = wdc σ w ∧
  (∀ i, i < m → τ.1 68 i = (uc σ (i + 1) : Int) - 1) ∧
  (∀ i, i < m → sd (ts σ) i = false → τ.1 61 (uc σ i) = i ∧ τ.1 63 (uc σ i) = tx σ i ∧ τ.1 64 (uc σ i) = (if ts σ i = 6 then -6 else (wdc σ (i + 1) : Int) - 1) ∧ τ.1 65 (uc σ i) = if ts σ i = 6 then 1 else 0) ∧
  (∀ i, i < m → (i + 1 = m ∨ sd (ts σ) (i + 1) = false) → τ.1 62 (uc σ (i + 1) - 1) = i) ∧
  (∀ u, u < uc σ m → (τ.1 70 u = 0 ∨ τ.1 70 u = 1) ∧ (τ.1 70 u = 1 ↔ ∃ i, i < m ∧ lkm σ i ∧ uc σ (i + 1) = u + 1)) ∧
  (∀ i, i < w → wst (ts σ) i = true → τ.1 66 (wdc σ i) = uc σ i) ∧
  (∀ i, i < m → ts σ i ≠ 6 → (i + 1 = m ∨ ts σ (i + 1) = 6) → τ.1 67 (wdc σ (i + 1) - 1) = (uc σ (i + 1) : Int) - 1)
theorem wdc_pos {σ : St} {i : Nat} (h : ts σ i ≠ 6) : 1 ≤ wdc σ (i + 1) := by
  induction i with
  | zero =>
    have : wst (ts σ) 0 = true := wst_t h rfl
    show 1 ≤ cnt _ _
    rw [cnt_t this]; omega
  | succ i ih =>
    by_cases z : ts σ i = 6
    · have : wst (ts σ) (i + 1) = true := wst_t h (by unfold iw; simp [z])
      show 1 ≤ cnt _ _
      rw [cnt_t this]; omega
    · have := ih z
      have h2 := cnt_mono (q := wst (ts σ)) (i := i + 1) (j := i + 1 + 1) (by omega)
      unfold wdc at *
      omega
/-- the state behind addUnit -/
def auJ (τ : St) (c m : Nat) (l w : Int) : St := sf (sa (sa (sa (sa (sa (sa (sa τ 61 c m) 62 c m) 63 c l) 64 c w) 65 c (if w = -6 then 1 else 0)) 70 c 0) 68 m c) 4 2 (c + 1)
theorem t_addUnit {G : GT} {τ : St} {c m : Nat} {l w : Int} (hc : τ.2.1 4 2 = c) (h1 : c < 80) (h2 : m < 80) (hl : rng l) (hw : rng w) : CJ G m_UN_addUnit [O 4, I m, I l, I w] τ (fun _ u => u = auJ τ c m l w) := by
  refine CJ.go (fun _ => k_UN_addUnit_0 ?_)
  rw [hc, Int.toNat_natCast, Int.toNat_natCast]
  refine ⟨by omega, ⟨by omega, by omega⟩, fun _ e1 _ e2 => ⟨hl, fun _ e3 => ⟨hw, fun _ e4 _ e5 _ e6 => ⟨by omega, fun _ e7 => ⟨⟨by omega, by omega⟩, fun _ e8 => ?_⟩⟩⟩⟩⟩
  rw [e8, e7, e6, e5, e4, e3, e2, e1]
  rfl
theorem SW_unit {σ τ : St} {m : Nat} {l w : Int} (h : SW1 σ m (m + 1) τ) (hs : sd (ts σ) m = false) (hl : l = tx σ m) (hw : w = if ts σ m = 6 then -6 else (wdc σ (m + 1) : Int) - 1) (υ : St) (hυ : υ = if ts σ m = 6 then auJ τ (uc σ m) m l w else sa (auJ τ (uc σ m) m l w) 67 (wdc σ (m + 1) - 1) (uc σ m)) : SW1 σ (m + 1) (m + 1) υ := by
  obtain ⟨f, a1, a2, a3, a4, a5, a6, a7, a8⟩ := h
  have R : ∀ k i, k ≠ 67 → υ.1 k i = (auJ τ (uc σ m) m l w).1 k i := fun k i hk => by
    rw [hυ]
    split
    · rfl
    · exact congrFun (sa_ne hk) i
  have R67 : ∀ i, υ.1 67 i = if ts σ m ≠ 6 ∧ i = wdc σ (m + 1) - 1 then (uc σ m : Int) else τ.1 67 i := fun i => by
    rw [hυ]
    by_cases z : ts σ m = 6
    · rw [if_pos z, if_neg (fun q => q.1 z)]; rfl
    · rw [if_neg z, sa_1]
      by_cases q : i = wdc σ (m + 1) - 1
      · rw [if_pos ⟨rfl, q⟩, if_pos ⟨z, q⟩]
      · rw [if_neg (fun q' => q q'.2), if_neg (fun q' => q q'.2)]; rfl
  have F : υ.2 = (sf τ 4 2 ((uc σ m : Int) + 1)).2 := by
    rw [hυ]
    split <;> rfl
  have r61 : ∀ i, υ.1 61 i = if i = uc σ m then (m : Int) else τ.1 61 i := fun i => by rw [R _ _ (by decide)]; simp [auJ, sf_1, sa_1]
  have r62 : ∀ i, υ.1 62 i = if i = uc σ m then (m : Int) else τ.1 62 i := fun i => by rw [R _ _ (by decide)]; simp [auJ, sf_1, sa_1]
  have r63 : ∀ i, υ.1 63 i = if i = uc σ m then l else τ.1 63 i := fun i => by rw [R _ _ (by decide)]; simp [auJ, sf_1, sa_1]
  have r64 : ∀ i, υ.1 64 i = if i = uc σ m then w else τ.1 64 i := fun i => by rw [R _ _ (by decide)]; simp [auJ, sf_1, sa_1]
  have r65 : ∀ i, υ.1 65 i = if i = uc σ m then (if w = -6 then 1 else 0) else τ.1 65 i := fun i => by rw [R _ _ (by decide)]; simp [auJ, sf_1, sa_1]
  have r70 : ∀ i, υ.1 70 i = if i = uc σ m then 0 else τ.1 70 i := fun i => by rw [R _ _ (by decide)]; simp [auJ, sf_1, sa_1]
  have r68 : ∀ i, υ.1 68 i = if i = m then (uc σ m : Int) else τ.1 68 i := fun i => by rw [R _ _ (by decide)]; simp [auJ, sf_1, sa_1]
  have r66 : ∀ i, υ.1 66 i = τ.1 66 i := fun i => by rw [R _ _ (by decide)]; simp [auJ, sf_1, sa_1]
  have hu := uc_u hs
  refine ⟨?_, ?_, ?_, fun i hi => ?_, fun i hi hsi => ?_, fun i hi hsi => ?_, fun u hu2 => ?_, fun i hi hsi => ?_, fun i hi h6 hsi => ?_⟩
  · have f1 : Fr WU σ (auJ τ (uc σ m) m l w) := (((((((f.sa (Or.inr ⟨by decide, by decide⟩)).sa (Or.inr ⟨by decide, by decide⟩)).sa (Or.inr ⟨by decide, by decide⟩)).sa (Or.inr ⟨by decide, by decide⟩)).sa (Or.inr ⟨by decide, by decide⟩)).sa (Or.inr ⟨by decide, by decide⟩)).sa (Or.inr ⟨by decide, by decide⟩)).sf (Or.inl rfl)
    rw [hυ]
    split
    · exact f1
    · exact f1.sa (Or.inr ⟨by decide, by decide⟩)
  · rw [F, sf_at, hu]; omega
  · rw [F, sf_nx (by decide)]; exact a2
  · rw [r68]
    by_cases e : i = m
    · rw [if_pos e, e, hu]; omega
    · rw [if_neg e]; exact a3 i (by omega)
  · rw [r61, r63, r64, r65]
    by_cases e : i = m
    · subst e
      rw [if_pos rfl, if_pos rfl, if_pos rfl, if_pos rfl]
      refine ⟨rfl, hl, hw, ?_⟩
      rw [hw]
      by_cases z : ts σ i = 6
      · rw [if_pos z, if_pos z, if_pos rfl]
      · have := wdc_pos z
        rw [if_neg z, if_neg z, if_neg (by omega)]
    · have := uc_lt hsi (show i < m by omega)
      have hne : ¬ uc σ i = uc σ m := by omega
      rw [if_neg hne, if_neg hne, if_neg hne, if_neg hne]
      exact a4 i (by omega) hsi
  · rw [r62]
    by_cases e : i = m
    · rw [e, if_pos (by omega)]
    · have h1 := uc_mono (σ := σ) (show i + 1 ≤ m by omega)
      have h2 := uc_pos (σ := σ) (i := i)
      rw [if_neg (by omega)]
      refine a5 i (by omega) ?_
      rcases hsi with q | q
      · exact absurd q (by omega)
      · exact Or.inr q
  · rw [r70]
    by_cases e : u = uc σ m
    · rw [if_pos e]
      refine ⟨Or.inl rfl, fun q => absurd q (by decide), fun q => ?_⟩
      obtain ⟨i, i1, i2, i3⟩ := q
      exfalso
      by_cases ei : i = m
      · rw [ei] at i2
        have := i2.1
        rw [hs] at this
        exact absurd this (by decide)
      · have h1 := uc_mono (σ := σ) (show i + 1 ≤ m by omega)
        omega
    · rw [if_neg e]
      obtain ⟨b1, b2⟩ := a6 u (by omega)
      refine ⟨b1, b2.trans ⟨fun q => ?_, fun q => ?_⟩⟩
      · obtain ⟨i, i1, i2⟩ := q
        exact ⟨i, by omega, i2⟩
      · obtain ⟨i, i1, i2, i3⟩ := q
        refine ⟨i, ?_, i2, i3⟩
        by_cases ei : i = m
        · rw [ei] at i2
          have := i2.1
          rw [hs] at this
          exact absurd this (by decide)
        · omega
  · rw [r66]; exact a7 i hi hsi
  · rw [R67]
    by_cases e : i = m
    · subst e
      rw [if_pos ⟨h6, rfl⟩, hu]; omega
    · have hlt : i + 1 < m + 1 := by omega
      have h66 : ts σ (i + 1) = 6 := by
        rcases hsi with q | q
        · exact absurd q (by omega)
        · exact q
      have hne : ¬ (ts σ m ≠ 6 ∧ wdc σ (i + 1) - 1 = wdc σ (m + 1) - 1) := by
        rintro ⟨z1, z2⟩
        have p1 := wdc_pos h6
        have p2 := wdc_pos z1
        have em : i + 1 ≠ m := fun q => z1 (by rw [← q]; exact h66)
        -- a word begins behind the blank
        have ex : ∀ d, i + 2 + d = m → wdc σ (i + 1) < wdc σ (m + 1) := by
          intro d
          have key : ∀ d, ts σ (i + 1 + d + 1) ≠ 6 → wdc σ (i + 1) < wdc σ (i + 1 + d + 1 + 1) := by
            intro d
            induction d with
            | zero =>
              intro hz
              have hw2 : wst (ts σ) (i + 1 + 0 + 1) = true := wst_t hz (by unfold iw; simp; exact h66)
              have q1 := cnt_lt hw2 (show i + 1 + 0 + 1 < i + 1 + 0 + 1 + 1 by omega)
              have q2 := cnt_mono (q := wst (ts σ)) (show i + 1 ≤ i + 1 + 0 + 1 by omega)
              unfold wdc
              omega
            | succ d ih =>
              intro hz
              by_cases hz2 : ts σ (i + 1 + d + 1) = 6
              · have hw2 : wst (ts σ) (i + 1 + (d + 1) + 1) = true := wst_t hz (by unfold iw; simp; exact hz2)
                have q1 := cnt_lt hw2 (show i + 1 + (d + 1) + 1 < i + 1 + (d + 1) + 1 + 1 by omega)
                have q2 := cnt_mono (q := wst (ts σ)) (show i + 1 ≤ i + 1 + (d + 1) + 1 by omega)
                unfold wdc
                omega
              · have q0 := ih hz2
                have q2 := cnt_mono (q := wst (ts σ)) (show i + 1 + d + 1 + 1 ≤ i + 1 + (d + 1) + 1 + 1 by omega)
                unfold wdc at *
                omega
          intro hd
          have := key d (by rw [show i + 1 + d + 1 = m by omega]; exact z1)
          rw [show i + 1 + d + 1 + 1 = m + 1 by omega] at this
          exact this
        have := ex (m - i - 2) (by omega)
        omega
      rw [if_neg hne]
      exact a8 i (by omega) h6 (Or.inr h66)
/-- the state behind standOn -/
def soJ (τ : St) (u m : Nat) (b : Bool) : St := if b = true then sa (sa (sa τ 68 m u) 62 u m) 70 u 1 else sa (sa τ 68 m u) 62 u m
/-- the plain form of a letter at a place, by the reference's tables -/
def pfM (σ : St) (l p : Int) : Int := if σ.1 105 (4 * l + p).toNat = 0 then -6 else σ.1 104 (3 * (4 * l + p)).toNat
theorem pf_J {σ τ : St} (hS : IS σ) (h55 : τ.1 55 = σ.1 55) (h56 : τ.1 56 = σ.1 56) (R : Rg τ) {l p : Int} (hl : 0 ≤ l ∧ l < σ.2.1 8 6) (hp : 0 ≤ p ∧ p ≤ 3) : p_SC_plainForm τ l p ∧ f_SC_plainForm τ l p = pfM σ l p ∧ (pfM σ l p = -6 ∨ (0 ≤ pfM σ l p ∧ pfM σ l p < σ.2.1 8 17 ∧ 4 * σ.1 95 (pfM σ l p).toNat + σ.1 96 (pfM σ l p).toNat = 4 * l + p)) := by
  have n := hS.1
  unfold NumOk at n
  obtain ⟨s1, s2, s3⟩ := hS.2.2.2.2.2.2.2.2.2.1 (4 * l + p).toNat (by omega)
  have e1 : (l * 4 + p).toNat = (4 * l + p).toNat := by omega
  have e2 : ((l * 4 + p) * 3 + 0).toNat = 3 * (4 * l + p).toNat + 0 := by omega
  have e3 : (3 * (4 * l + p)).toNat = 3 * (4 * l + p).toNat + 0 := by omega
  refine ⟨⟨by omega, fun _ => by omega, ?_⟩, ?_, ?_⟩
  · split
    · exact ⟨by decide, by decide⟩
    · exact R.1 _ _
  · unfold f_SC_plainForm pfM
    rw [h55, h56, e1, e2, e3, s1]
    by_cases z : σ.1 105 (4 * l + p).toNat = 0
    · rw [if_pos (by omega), if_pos z]
    · rw [if_neg (by omega), if_neg z]
      exact (s3 0 (by omega)).1
  · unfold pfM
    rw [e3]
    by_cases z : σ.1 105 (4 * l + p).toNat = 0
    · rw [if_pos z]; exact Or.inl rfl
    · rw [if_neg z]
      obtain ⟨-, f, f1, f2, f3⟩ := s3 0 (by omega)
      rw [f1, Int.toNat_natCast, f3]
      exact Or.inr ⟨by omega, by omega, by omega⟩
theorem Fr.u {σ τ : St} (h : Fr WU σ τ) (k : Nat) (hk : k ≠ 4 ∧ (k < 61 ∨ 73 < k)) : τ.1 k = σ.1 k ∧ τ.2.1 k = σ.2.1 k := h.1 k (by unfold WU; omega)
theorem t_standOn {G : GT} {σ τ : St} (hS : IS σ) (hf : Fr WU σ τ) {u m : Nat} {l : Int} (hu : u < 80) (hm : m < 80) (hl : 0 ≤ l ∧ l < σ.2.1 8 6) : CJ G m_UN_standOn [O 4, I u, I m, I l] τ (fun _ v => v = soJ τ u m (decide (σ.1 105 (4 * l.toNat) = 0))) := by
  refine CJ.go (fun R => k_UN_standOn_0 ?_)
  rw [Int.toNat_natCast, Int.toNat_natCast]
  refine ⟨by omega, ⟨by omega, by omega⟩, fun σ3 e3 => ⟨by omega, ⟨by omega, by omega⟩, fun σ7 e7 => ?_⟩⟩
  have R7 : Rg σ7 := by rw [e7, e3]; exact (R.sa ⟨by omega, by omega⟩).sa ⟨by omega, by omega⟩
  obtain ⟨p1, p2, p3⟩ := pf_J (τ := σ7) hS (by rw [e7, e3, sa_ne (by decide), sa_ne (by decide)]; exact (hf.u 55 (by omega)).1) (by rw [e7, e3, sa_ne (by decide), sa_ne (by decide)]; exact (hf.u 56 (by omega)).1) R7 hl (show (0 : Int) ≤ 0 ∧ (0 : Int) ≤ 3 by omega)
  rw [p2]
  have e0 : (4 * l + 0).toNat = 4 * l.toNat := by omega
  have key : pfM σ l 0 = -6 ↔ σ.1 105 (4 * l.toNat) = 0 := by
    have hp : pfM σ l 0 = if σ.1 105 (4 * l.toNat) = 0 then -6 else σ.1 104 (3 * (4 * l + 0)).toNat := by
      unfold pfM
      rw [e0]
    constructor
    · intro q
      by_cases z : σ.1 105 (4 * l.toNat) = 0
      · exact z
      · exfalso
        have h2 := hS.2.2.2.2.2.2.2.2.2.1 (4 * l.toNat) (by omega)
        obtain ⟨-, f, f1, -⟩ := h2.2.2 0 (by have := h2.2.1; omega)
        rw [if_neg z, show (3 * (4 * l + 0)).toNat = 3 * (4 * l.toNat) + 0 by omega, f1] at hp
        omega
    · intro q
      rw [hp, if_pos q]
  refine ⟨p1, fun z => ?_, fun z σ11 e11 => ?_⟩
  · unfold soJ
    rw [if_neg (by rw [decide_eq_true_iff]; exact fun q => z (key.mpr q)), e7, e3]
  · unfold soJ
    rw [if_pos (by rw [decide_eq_true_iff]; exact key.mp z), e11, e7, e3]
theorem SW_stand {σ τ : St} {m : Nat} (h : SW1 σ m (m + 1) τ) (hs : sd (ts σ) m = true) (υ : St) (hυ : υ = sa (soJ τ (uc σ m - 1) m (decide (σ.1 105 (4 * (tx σ m).toNat) = 0))) 67 (wdc σ (m + 1) - 1) ((uc σ m : Int) - 1)) : SW1 σ (m + 1) (m + 1) υ := by
  obtain ⟨f, a1, a2, a3, a4, a5, a6, a7, a8⟩ := h
  have hu := uc_s hs
  obtain ⟨q1, q2⟩ := sd_mark hs
  have hm0 : m ≠ 0 := fun e => by rw [e, sd_0] at hs; exact absurd hs (by decide)
  obtain ⟨m', hm'⟩ : ∃ m', m = m' + 1 := ⟨m - 1, by omega⟩
  have hpos : 1 ≤ uc σ m := by rw [hm']; exact uc_pos
  have h6 : ts σ m ≠ 6 := by omega
  have hwst : wst (ts σ) m = false := wst_w (cs_iw q2)
  have hwc : wdc σ (m + 1) = wdc σ m := cnt_f hwst
  have R : ∀ k i, k ≠ 67 → υ.1 k i = (soJ τ (uc σ m - 1) m (decide (σ.1 105 (4 * (tx σ m).toNat) = 0))).1 k i := fun k i hk => by rw [hυ]; exact congrFun (sa_ne hk) i
  have Ro : ∀ k, k ≠ 67 → k ≠ 68 → k ≠ 62 → k ≠ 70 → υ.1 k = τ.1 k := fun k h1 h2 h3 h4 => funext fun i => by
    rw [R k i h1]
    unfold soJ
    split
    · rw [sa_ne h4, sa_ne h3, sa_ne h2]
    · rw [sa_ne h3, sa_ne h2]
  have r68 : ∀ i, υ.1 68 i = if i = m then ((uc σ m - 1 : Nat) : Int) else τ.1 68 i := fun i => by
    rw [R _ _ (by decide)]
    unfold soJ
    split <;> simp [sa_1]
  have r62 : ∀ i, υ.1 62 i = if i = uc σ m - 1 then (m : Int) else τ.1 62 i := fun i => by
    rw [R _ _ (by decide)]
    unfold soJ
    split <;> simp [sa_1]
  have r70 : ∀ i, υ.1 70 i = if i = uc σ m - 1 ∧ σ.1 105 (4 * (tx σ m).toNat) = 0 then 1 else τ.1 70 i := fun i => by
    rw [R _ _ (by decide)]
    unfold soJ
    by_cases z : σ.1 105 (4 * (tx σ m).toNat) = 0
    · rw [if_pos (by rw [decide_eq_true_iff]; exact z)]
      simp [sa_1, z]
    · rw [if_neg (by rw [decide_eq_true_iff]; exact z)]
      simp [sa_1, z]
  have r67 : ∀ i, υ.1 67 i = if i = wdc σ (m + 1) - 1 then (uc σ m : Int) - 1 else τ.1 67 i := fun i => by
    rw [hυ, sa_1]
    by_cases q : i = wdc σ (m + 1) - 1
    · rw [if_pos ⟨rfl, q⟩, if_pos q]
    · rw [if_neg (fun z => q z.2), if_neg q]
      unfold soJ
      split
      · rw [sa_ne (by decide), sa_ne (by decide), sa_ne (by decide)]
      · rw [sa_ne (by decide), sa_ne (by decide)]
  have F : υ.2 = τ.2 := by
    rw [hυ]
    unfold soJ
    split <;> rfl
  refine ⟨?_, ?_, ?_, fun i hi => ?_, fun i hi hsi => ?_, fun i hi hsi => ?_, fun u hu2 => ?_, fun i hi hsi => ?_, fun i hi h6i hsi => ?_⟩
  · rw [hυ]
    unfold soJ
    split
    · exact (((f.sa (Or.inr ⟨by decide, by decide⟩)).sa (Or.inr ⟨by decide, by decide⟩)).sa (Or.inr ⟨by decide, by decide⟩)).sa (Or.inr ⟨by decide, by decide⟩)
    · exact ((f.sa (Or.inr ⟨by decide, by decide⟩)).sa (Or.inr ⟨by decide, by decide⟩)).sa (Or.inr ⟨by decide, by decide⟩)
  · rw [F, hu]; exact a1
  · rw [F]; exact a2
  · rw [r68]
    by_cases e : i = m
    · rw [if_pos e, e, hu]; omega
    · rw [if_neg e]; exact a3 i (by omega)
  · have e : i ≠ m := fun e => by rw [e, hs] at hsi; exact absurd hsi (by decide)
    rw [Ro 61 (by decide) (by decide) (by decide) (by decide), Ro 63 (by decide) (by decide) (by decide) (by decide), Ro 64 (by decide) (by decide) (by decide) (by decide), Ro 65 (by decide) (by decide) (by decide) (by decide)]
    exact a4 i (by omega) hsi
  · rw [r62]
    by_cases e : i = m
    · rw [e, hu, if_pos rfl]
    · have hs2 : sd (ts σ) (i + 1) = false := by
        rcases hsi with q | q
        · exact absurd q (by omega)
        · exact q
      have hne : i + 1 ≠ m := fun e2 => by rw [e2, hs] at hs2; exact absurd hs2 (by decide)
      have h1 := uc_lt hs2 (show i + 1 < m by omega)
      have h2 := uc_pos (σ := σ) (i := i)
      rw [if_neg (by omega)]
      exact a5 i (by omega) (Or.inr hs2)
  · rw [hu] at hu2
    obtain ⟨b1, b2⟩ := a6 u hu2
    rw [r70]
    by_cases z : u = uc σ m - 1 ∧ σ.1 105 (4 * (tx σ m).toNat) = 0
    · rw [if_pos z]
      exact ⟨Or.inr rfl, fun _ => ⟨m, by omega, ⟨hs, z.2⟩, by rw [hu]; omega⟩, fun _ => rfl⟩
    · rw [if_neg z]
      refine ⟨b1, b2.trans ⟨fun q => ?_, fun q => ?_⟩⟩
      · obtain ⟨i, i1, i2⟩ := q
        exact ⟨i, by omega, i2⟩
      · obtain ⟨i, i1, i2, i3⟩ := q
        refine ⟨i, ?_, i2, i3⟩
        by_cases ei : i = m
        · exfalso
          apply z
          rw [ei] at i2 i3
          rw [hu] at i3
          exact ⟨by omega, i2.2⟩
        · omega
  · rw [Ro 66 (by decide) (by decide) (by decide) (by decide)]
    exact a7 i hi hsi
  · rw [r67]
    by_cases e : i = m
    · rw [e, if_pos rfl, hu]
    · have h66 : ts σ (i + 1) = 6 := by
        rcases hsi with q | q
        · exact absurd q (by omega)
        · exact q
      have em : i + 1 ≠ m := fun q => h6 (by rw [← q]; exact h66)
      -- the mark's word has begun behind that blank
      have p1 := wdc_pos h6i
      have key : ∀ d j, i + 1 + d = j → j ≤ m' → iw (ts σ) (j + 1) = true → wdc σ (i + 1) < wdc σ (j + 1) := by
        intro d
        induction d with
        | zero =>
          intro j hj hjm hw
          exfalso
          unfold iw at hw
          rw [show j = i + 1 by omega] at hw
          simp [h66] at hw
        | succ d ih =>
          intro j hj hjm hw
          obtain ⟨j', hj'⟩ : ∃ j', j = j' + 1 := ⟨j - 1, by omega⟩
          subst hj'
          have hj6 : ts σ (j' + 1) ≠ 6 := by
            unfold iw at hw
            simpa using hw
          by_cases hz : iw (ts σ) (j' + 1) = true
          · have := ih j' (by omega) (by omega) hz
            have q2 := cnt_mono (q := wst (ts σ)) (show j' + 1 ≤ j' + 1 + 1 by omega)
            unfold wdc at *
            omega
          · have hw2 : wst (ts σ) (j' + 1) = true := wst_t hj6 (by simpa using hz)
            have q1 := cnt_lt hw2 (show j' + 1 < j' + 1 + 1 by omega)
            have q2 := cnt_mono (q := wst (ts σ)) (show i + 1 ≤ j' + 1 by omega)
            unfold wdc
            omega
      have := key (m' - i - 1) m' (by omega) (by omega) (by rw [← hm']; exact cs_iw q2)
      rw [← hm'] at this
      rw [if_neg (by omega)]
      exact a8 i (by omega) h6i (Or.inr h66)
/-- the loop of splitWords -/
theorem l_split {G : GT} {σ : St} {P : Int → St → Prop} (hS : IS σ) (hT : IT σ) (hP : ∀ τ, SW1 σ (tn σ) (tn σ) τ → P 0 τ) : ∀ (d m : Nat) (τ : St) (v1 v2 : Int), m + d = tn σ → SW1 σ m m τ → v1 = (if iw (ts σ) m = true then 1 else 0) → (v2 = 0 ∨ v2 = 1) → (iw (ts σ) m = true → v2 = if cs (ts σ) m = true then 1 else 0) → a_UN_splitWords_16 G v1 v2 m τ P := by
  have n := hS.1
  unfold NumOk at n
  obtain ⟨t1, t2, t3, -⟩ := hT
  have hn : σ.2.1 8 21 = (tn σ : Int) := by unfold tn; omega
  intro d
  induction d with
  | zero =>
    intro m τ v1 v2 hm h hv1 hv2 hv3
    have hm' : m = tn σ := by omega
    have e : τ.2.1 2 0 = σ.2.1 2 0 := by rw [(h.1.u 2 (by omega)).2]
    exact k_UN_splitWords_16 ⟨⟨by omega, by omega⟩, fun _ => hP τ (by rw [← hm']; exact h), fun z => absurd z (by omega)⟩
  | succ d ih =>
    intro m τ v1 v2 hm h hv1 hv2 hv3
    have e : τ.2.1 2 0 = σ.2.1 2 0 := by rw [(h.1.u 2 (by omega)).2]
    obtain ⟨x1, x2, x3, x4⟩ := t3 m (by omega)
    have e57 : τ.1 57 m = tx σ m := by rw [(h.1.u 57 (by omega)).1]; exact x1
    have hL : 0 ≤ tx σ m ∧ tx σ m < σ.2.1 8 6 := ⟨x2, x3⟩
    have e47 : τ.1 47 (tx σ m).toNat = ts σ m := by
      rw [(h.1.u 47 (by omega)).1]
      exact (hS.2.1 (tx σ m).toNat (by omega)).1
    have hts : 0 ≤ ts σ m ∧ ts σ m ≤ 7 := (hS.2.1 (tx σ m).toNat (by omega)).2.1
    have hc := uc_le (σ := σ) (i := m)
    have hcs : cs (ts σ) (m + 1) = if ts σ m = 6 then false else if ts σ m = 3 ∨ ts σ m = 4 then cs (ts σ) m else true := rfl
    have hiw : iw (ts σ) (m + 1) = decide (ts σ m ≠ 6) := rfl
    have hwle : wdc σ (m + 1) ≤ m + 1 := cnt_le _ _
    -- from the state behind the beginning of a word
    have main : ∀ (υ : St) (v2' : Int), SW1 σ m (m + 1) υ → (ts σ m = 6 ∨ v2' = if cs (ts σ) m = true then 1 else 0) → (v2' = 0 ∨ v2' = 1) → a_UN_splitWords_105 G v2' m (tx σ m) (if ts σ m = 3 ∨ ts σ m = 4 then 1 else 0) (if ts σ m = 6 then 1 else 0) υ P := by
      intro υ v2' hυ hv hv01
      have hcu := hυ.2.1
      have hwu := hυ.2.2.1
      have hrt : rng (tx σ m) := ⟨by omega, by omega⟩
      have rngs : rng (if ts σ m = 6 then 1 else 0) ∧ rng (if ts σ m = 3 ∨ ts σ m = 4 then 1 else 0) := by
        constructor <;> split <;> exact ⟨by decide, by decide⟩
      -- a unit comes
      have unit : sd (ts σ) m = false → ∀ w' : Int, w' = (if cs (ts σ) (m + 1) = true then 1 else 0) ∨ (ts σ m = 6 ∧ (w' = 0 ∨ w' = 1)) → CJ G m_UN_addUnit [O 4, I m, I (tx σ m), I (if (if ts σ m = 6 then (1 : Int) else 0) = 0 then (υ.2.1 4 3) - 1 else (-6 : Int))] υ (fun _ u35 => (¬ ((if ts σ m = 6 then (1 : Int) else 0) = 0) → a_UN_splitWords_16 G (if (if ts σ m = 6 then (1 : Int) else 0) = 0 then 1 else 0) w' ((m : Int) + 1) u35 P) ∧ ((if ts σ m = 6 then (1 : Int) else 0) = 0 → (0 ≤ (u35.2.1 4 3) - 1 ∧ (u35.2.1 4 3) - 1 < 80) ∧ rng ((u35.2.1 4 2) - 1) ∧ (∀ σ42, σ42 = sa u35 67 (((u35.2.1 4 3) - 1).toNat) ((u35.2.1 4 2) - 1) → a_UN_splitWords_16 G (if (if ts σ m = 6 then (1 : Int) else 0) = 0 then 1 else 0) w' ((m : Int) + 1) σ42 P))) := by
        intro hsd w' hw'
        have hu := uc_u hsd
        by_cases z : ts σ m = 6
        · simp only [if_pos z, show ((1 : Int) = 0) = False by simp, if_false]
          refine CJ.mono (t_addUnit hcu (by omega) (by omega) hrt ⟨by decide, by decide⟩) (fun _ u _ huu => ⟨fun _ => ?_, fun q => absurd q (by decide)⟩)
          have := SW_unit hυ hsd rfl (w := -6) (by rw [if_pos z]) u (by rw [if_pos z]; exact huu)
          have hw01 : w' = 0 ∨ w' = 1 := by
            rcases hw' with q | q
            · rw [q]
              split <;> simp
            · exact q.2
          exact ih (m + 1) u _ _ (by omega) this (by rw [hiw]; simp [z]) hw01 (fun q => by rw [hiw] at q; simp [z] at q)
        · have p1 := wdc_pos z
          simp only [if_neg z, if_true, hwu]
          refine CJ.mono (t_addUnit hcu (by omega) (by omega) hrt ⟨by omega, by omega⟩) (fun _ u _ huu => ⟨fun q => absurd trivial q, fun _ => ?_⟩)
          have g3 : u.2.1 4 3 = wdc σ (m + 1) := by rw [huu]; unfold auJ; rw [sf_nx (by decide)]; exact hwu
          have g2 : u.2.1 4 2 = (uc σ m : Int) + 1 := by rw [huu]; unfold auJ; exact sf_at
          rw [g3, g2, show ((wdc σ (m + 1) : Int) - 1).toNat = wdc σ (m + 1) - 1 by omega, show (uc σ m : Int) + 1 - 1 = uc σ m by omega]
          refine ⟨by omega, ⟨by omega, by omega⟩, fun s42 e42 => ?_⟩
          have := SW_unit hυ hsd rfl (w := (wdc σ (m + 1) : Int) - 1) (by rw [if_neg z]) s42 (by rw [if_neg z, e42, huu])
          have hw2 : w' = (if cs (ts σ) (m + 1) = true then 1 else 0) := by
            rcases hw' with q | q
            · exact q
            · exact absurd q.1 z
          exact ih (m + 1) s42 _ _ (by omega) this (by rw [hiw]; simp [z]) (by rw [hw2]; split <;> simp) (fun _ => hw2)
      refine k_UN_splitWords_105 ⟨rngs.1, rngs.2, fun q => ?_, fun q => ⟨by rcases hv01 with r | r <;> rw [r] <;> exact ⟨by decide, by decide⟩, fun q2 => ?_, fun q2 => ?_⟩⟩
      · have hnm : ¬ (ts σ m = 3 ∨ ts σ m = 4) := fun r => by rw [if_pos r] at q; exact absurd q (by decide)
        have := unit (sd_not hnm) 1 (by
          by_cases z : ts σ m = 6
          · exact Or.inr ⟨z, Or.inr rfl⟩
          · left; rw [hcs, if_neg z, if_neg hnm]; rfl)
        simp only [if_neg hnm, if_true] at this ⊢
        exact this
      · have hmk : ts σ m = 3 ∨ ts σ m = 4 := by
          by_cases r : ts σ m = 3 ∨ ts σ m = 4
          · exact r
          · rw [if_neg r] at q; exact absurd rfl q
        have z : ts σ m ≠ 6 := by omega
        have hcf : cs (ts σ) m = false := by
          rcases hv with r | r
          · exact absurd r z
          · cases hcc : cs (ts σ) m with
            | false => rfl
            | true => rw [hcc] at r; simp at r; omega
        have := unit (sd_free hcf) 0 (by left; rw [hcs, if_neg z, if_pos hmk, hcf]; rfl)
        simp only [if_pos hmk, show ((1 : Int) = 0) = False by simp, if_false] at this ⊢
        exact this
      · have hmk : ts σ m = 3 ∨ ts σ m = 4 := by
          by_cases r : ts σ m = 3 ∨ ts σ m = 4
          · exact r
          · rw [if_neg r] at q; exact absurd rfl q
        have z : ts σ m ≠ 6 := by omega
        have hct : cs (ts σ) m = true ∧ v2' = 1 := by
          rcases hv with r | r
          · exact absurd r z
          · cases hcc : cs (ts σ) m with
            | false => rw [hcc] at r; simp at r; exact absurd r q2
            | true => rw [hcc] at r; simp at r; exact ⟨rfl, r⟩
        have hsd := sd_on hmk hct.1
        have hu := uc_s hsd
        have hm0 : m ≠ 0 := fun e => by rw [e, sd_0] at hsd; exact absurd hsd (by decide)
        have hpos : 1 ≤ uc σ m := by
          obtain ⟨m', hm'⟩ : ∃ m', m = m' + 1 := ⟨m - 1, by omega⟩
          rw [hm']; exact uc_pos
        have p1 := wdc_pos z
        rw [hcu, show ((uc σ m : Int) - 1) = ((uc σ m - 1 : Nat) : Int) by omega]
        refine CJ.mono (t_standOn hS hυ.1 (by omega) (by omega) hL) (fun _ u _ huu => ?_)
        have F : u.2 = υ.2 := by rw [huu]; unfold soJ; split <;> rfl
        rw [F, hwu, hcu, if_neg z]
        refine ⟨fun q => absurd rfl q, fun _ => ⟨by omega, ⟨by omega, by omega⟩, fun s65 e65 => ?_⟩⟩
        rw [show ((wdc σ (m + 1) : Int) - 1).toNat = wdc σ (m + 1) - 1 by omega] at e65
        have := SW_stand hυ hsd s65 (by rw [e65, huu])
        exact ih (m + 1) s65 _ _ (by omega) this (by rw [hiw]; simp [z]) hv01 (fun _ => by rw [hct.2, hcs, if_neg z, if_pos hmk, hct.1]; rfl)
    refine k_UN_splitWords_16 ?_
    rw [e, t1, Int.toNat_natCast, e57, e47]
    refine ⟨⟨by omega, by omega⟩, fun q => absurd q (by omega), fun _ => ⟨by omega, by omega, by omega, fun q => ?_, fun q => ⟨by rw [hv1]; split <;> exact ⟨by decide, by decide⟩, fun q2 => ?_, fun q2 => ?_⟩⟩⟩
    · have hwf : wdc σ (m + 1) = wdc σ m := cnt_f (wst_b q)
      refine main τ v2 ?_ (Or.inl q) hv2
      obtain ⟨b0, b1, b2, b3, b4, b5, b6, b7, b8⟩ := h
      refine ⟨b0, b1, by rw [hwf]; exact b2, b3, b4, b5, b6, fun i hi hw => ?_, b8⟩
      by_cases ei : i = m
      · rw [ei, wst_b q] at hw; exact absurd hw (by decide)
      · exact b7 i (by omega) hw
    · have hi : iw (ts σ) m = true := by
        cases hcc : iw (ts σ) m with
        | false => rw [hcc] at hv1; simp at hv1; exact absurd hv1 q2
        | true => rfl
      have hwf : wdc σ (m + 1) = wdc σ m := cnt_f (wst_w hi)
      refine main τ v2 ?_ (Or.inr (hv3 hi)) hv2
      obtain ⟨b0, b1, b2, b3, b4, b5, b6, b7, b8⟩ := h
      refine ⟨b0, b1, by rw [hwf]; exact b2, b3, b4, b5, b6, fun i hi2 hw => ?_, b8⟩
      by_cases ei : i = m
      · rw [ei, wst_w hi] at hw; exact absurd hw (by decide)
      · exact b7 i (by omega) hw
    · have hi : iw (ts σ) m = false := by
        cases hcc : iw (ts σ) m with
        | false => rfl
        | true => rw [hcc] at hv1; simp at hv1; omega
      have hwf : wdc σ (m + 1) = wdc σ m + 1 := cnt_t (wst_t q hi)
      obtain ⟨b0, b1, b2, b3, b4, b5, b6, b7, b8⟩ := h
      rw [b2, b1, Int.toNat_natCast]
      refine ⟨by omega, fun s24 e24 => ⟨⟨by omega, by omega⟩, fun s27 e27 => ?_⟩⟩
      have A27 : ∀ k, k ≠ 66 → s27.1 k = τ.1 k := fun k hk => by rw [e27, e24, sf_1, sa_ne hk]
      have hcf : cs (ts σ) m = false := by
        cases hcc : cs (ts σ) m with
        | false => rfl
        | true => rw [cs_iw hcc] at hi; exact absurd hi (by decide)
      refine main s27 0 ?_ (Or.inr (by rw [hcf]; rfl)) (Or.inl rfl)
      refine ⟨by rw [e27, e24]; exact (b0.sa (Or.inr ⟨by decide, by decide⟩)).sf (Or.inl rfl), by rw [e27, e24, sf_nx (by decide)]; exact b1, by rw [e27, e24, sf_at, hwf]; omega, ?_, ?_, ?_, ?_, fun i hi2 hw => ?_, ?_⟩
      · rw [A27 68 (by decide)]; exact b3
      · rw [A27 61 (by decide), A27 63 (by decide), A27 64 (by decide), A27 65 (by decide)]; exact b4
      · rw [A27 62 (by decide)]; exact b5
      · rw [A27 70 (by decide)]; exact b6
      · rw [e27, e24, sf_1, sa_1]
        by_cases ei : i = m
        · rw [ei, if_pos ⟨rfl, rfl⟩]
        · have := cnt_lt hw (show i < m by omega)
          rw [if_neg (fun z => by have := z.2; unfold wdc at this; omega)]
          exact b7 i (by omega) hw
      · rw [A27 67 (by decide)]; exact b8
theorem t_split {G : GT} {σ : St} (hS : IS σ) (hT : IT σ) : CJ G m_UN_splitWords [O 4] σ (fun _ τ => SW1 σ (tn σ) (tn σ) τ) := by
  refine CJ.go (fun _ => k_UN_splitWords_0 (fun s1 e1 s3 e3 => ?_))
  refine l_split hS hT (fun τ h => h) (tn σ) 0 s3 0 0 (by omega) ?_ rfl (Or.inl rfl) (fun q => Bool.noConfusion q)
  refine ⟨by rw [e3, e1]; exact ((Fr.refl (W := WU)).sf (Or.inl rfl)).sf (Or.inl rfl), by rw [e3, e1, sf_nx (by decide), sf_at]; rfl, by rw [e3, sf_at]; rfl, fun i hi => absurd hi (by omega), fun i hi => absurd hi (by omega), fun i hi => absurd hi (by omega), fun u hu => ?_, fun i hi => absurd hi (by omega), fun i hi => absurd hi (by omega)⟩
  exact absurd hu (by show ¬ u < 0; omega)
