/-! pages: what both sides seek, and the class's search -/
def sg (hh : Nat → Int) (i : Nat) : Nat → Int
  | 0 => 0
  | d + 1 => sg hh i d + hh (i + d)
def pC (hh : Nat → Int) (n H : Nat) (i j : Nat) : Int := if sg hh i (j + 1 - i) ≤ H ∧ (n = 1 ∨ (i + 1 < n ∧ 0 < j)) then (if j + 1 = n then 0 else ((H : Int) - sg hh i (j + 1 - i)) * ((H : Int) - sg hh i (j + 1 - i))) else NV
def Hok (hh : Nat → Int) (n : Nat) : Prop := ∀ k, k < n → 0 ≤ hh k ∧ hh k ≤ 120000
theorem sg_b {hh : Nat → Int} {n i : Nat} (h : Hok hh n) : ∀ d, i + d ≤ n → 0 ≤ sg hh i d ∧ sg hh i d ≤ 120000 * (d : Int)
  | 0, _ => ⟨Int.le_refl _, Int.le_refl _⟩
  | d + 1, hd => by
    have a := sg_b (i := i) h d (by omega)
    have b := h (i + d) (by omega)
    show 0 ≤ sg hh i d + hh (i + d) ∧ sg hh i d + hh (i + d) ≤ 120000 * ((d + 1 : Nat) : Int)
    omega
theorem sg_mono {hh : Nat → Int} {n i : Nat} (h : Hok hh n) {d : Nat} : ∀ e, i + (d + e) ≤ n → sg hh i d ≤ sg hh i (d + e)
  | 0, _ => Int.le_refl _
  | e + 1, he => by
    have a := sg_mono (i := i) h (d := d) e (by omega)
    have b := h (i + (d + e)) (by omega)
    show sg hh i d ≤ sg hh i (d + e) + hh (i + (d + e))
    omega
theorem sq_b {x : Int} (h : 0 ≤ x ∧ x ≤ 2000) : 0 ≤ x * x ∧ x * x ≤ 4000000 := by
  refine ⟨Int.mul_nonneg h.1 h.1, ?_⟩
  have := Int.mul_le_mul h.2 h.2 h.1 (by decide)
  omega
theorem pC_b {hh : Nat → Int} {n H i j : Nat} (hk : Hok hh n) (hH : H ≤ 2000) (hij : i ≤ j) (hj : j < n) : 0 ≤ pC hh n H i j ∧ pC hh n H i j ≤ NV ∧ (pC hh n H i j < NV → pC hh n H i j ≤ 4000000) := by
  have NVe : NV = 536870912 := rfl
  have a := sg_b hk (i := i) (j + 1 - i) (by omega)
  unfold pC
  by_cases c : sg hh i (j + 1 - i) ≤ H ∧ (n = 1 ∨ (i + 1 < n ∧ 0 < j))
  · rw [if_pos c]
    have b := sq_b (x := (H : Int) - sg hh i (j + 1 - i)) ⟨by omega, by omega⟩
    split
    · omega
    · omega
  · rw [if_neg c]
    omega
def Smp (n : Nat) (B : Nat → Int) : Prop := ∀ i, i ≤ n → 0 ≤ B i ∧ B i ≤ NV ∧ (B i < NV → B i ≤ 4000000 * ((n : Int) - i))
theorem Prt_more {c : Nat → Nat → Int} {B : Nat → Int} {i lo hi hi' : Nat} {b t : Int} (h : Prt c B i lo hi b t) (hle : hi ≤ hi') (hn : ∀ j, hi ≤ j → j < hi' → ¬ Ft c B i j) : Prt c B i lo hi' b t := by
  rcases h with ⟨y1, y2⟩ | ⟨y1, k, y2, y3, y4, y5, y6, y7⟩
  · left
    refine ⟨y1, fun j j1 j2 hj => ?_⟩
    rcases Nat.lt_or_ge j hi with q | q
    · exact y2 j j1 q hj
    · exact hn j q j2 hj
  · right
    refine ⟨y1, k, y2, y3, by omega, y5, y6, fun j j1 j2 hj => ?_⟩
    rcases Nat.lt_or_ge j hi with q | q
    · exact y7 j j1 q hj
    · exact absurd hj (hn j q j2)
/-- what the class's search for pages may change -/
def FrG (τ υ : St) : Prop := (∀ k, k ≠ 87 → k ≠ 88 → υ.1 k = τ.1 k) ∧ υ.2 = τ.2
theorem FrG.refl {τ : St} : FrG τ τ := ⟨fun _ _ _ => rfl, rfl⟩
theorem FrG.trans {σ τ υ : St} (h : FrG σ τ) (g : FrG τ υ) : FrG σ υ := ⟨fun k a b => (g.1 k a b).trans (h.1 k a b), g.2.trans h.2⟩
theorem FrG.st {σ τ : St} (h : FrG σ τ) {k i : Nat} {v : Int} (hk : k = 87 ∨ k = 88) : FrG σ (sa τ k i v) := ⟨fun j j1 j2 => by rw [sa_ne (by omega)]; exact h.1 j j1 j2, h.2⟩
theorem t_offerPages {G : GT} {ρ : St} {n H m : Nat} {hh : Nat → Int} (hn : ρ.2.1 6 2 = n) (hn8 : n ≤ 80) (hm : m < n) (hH : H ≤ 2000) (hk : Hok hh n) (hh80 : ∀ k, k < n → ρ.1 80 k + ρ.1 81 k = hh k) (hB : ∀ i, m < i → i ≤ n → 0 ≤ ρ.1 87 i ∧ ρ.1 87 i ≤ NV ∧ (ρ.1 87 i < NV → ρ.1 87 i ≤ 4000000 * ((n : Int) - i))) (h87 : ρ.1 87 m = NV) : CJ G m_PG_offerPagesFrom [O 7, I m, I H] ρ (fun _ υ => FrG ρ υ ∧ (∀ i, i ≠ m → υ.1 87 i = ρ.1 87 i ∧ υ.1 88 i = ρ.1 88 i) ∧ Prt (pC hh n H) (ρ.1 87) m m n (υ.1 87 m) (υ.1 88 m) ∧ (0 ≤ υ.1 87 m ∧ υ.1 87 m ≤ NV ∧ (υ.1 87 m < NV → υ.1 87 m ≤ 4000000 * ((n : Int) - m)))) := by
  have NVe : NV = 536870912 := rfl
  have loop : (n = 1 ∨ m + 1 < n) → ∀ (d j : Nat) (υ : St), j + d = n → m ≤ j → FrG ρ υ → (∀ i, i ≠ m → υ.1 87 i = ρ.1 87 i ∧ υ.1 88 i = ρ.1 88 i) → Prt (pC hh n H) (ρ.1 87) m m j (υ.1 87 m) (υ.1 88 m) → (0 ≤ υ.1 87 m ∧ υ.1 87 m ≤ NV ∧ (υ.1 87 m < NV → υ.1 87 m ≤ 4000000 * ((n : Int) - m))) → a_PG_offerPagesFrom_39 G m n (if 1 < (n : Int) then 1 else 0) ((H : Int) - sg hh m (j - m)) j υ (fun _ υ => FrG ρ υ ∧ (∀ i, i ≠ m → υ.1 87 i = ρ.1 87 i ∧ υ.1 88 i = ρ.1 88 i) ∧ Prt (pC hh n H) (ρ.1 87) m m n (υ.1 87 m) (υ.1 88 m) ∧ (0 ≤ υ.1 87 m ∧ υ.1 87 m ≤ NV ∧ (υ.1 87 m < NV → υ.1 87 m ≤ 4000000 * ((n : Int) - m)))) := by
    intro hal d
    induction d with
    | zero =>
      intro j υ hj hmj r1 r2 r3 r4
      refine k_PG_offerPagesFrom_39 ⟨⟨by omega, by omega⟩, ⟨by omega, by omega⟩, fun _ => ⟨r1, r2, ?_, r4⟩, fun z => absurd z (by omega)⟩
      rw [show j = n by omega] at r3
      exact r3
    | succ d ih =>
      intro j υ hj hmj r1 r2 r3 r4
      have eh : υ.1 80 j + υ.1 81 j = hh j := by rw [r1.1 80 (by omega) (by omega), r1.1 81 (by omega) (by omega)]; exact hh80 j (by omega)
      have es : (H : Int) - sg hh m (j - m) - hh j = (H : Int) - sg hh m (j + 1 - m) := by
        rw [show j + 1 - m = (j - m) + 1 by omega]
        show _ = (H : Int) - (sg hh m (j - m) + hh (m + (j - m)))
        rw [show m + (j - m) = j by omega]
        omega
      have sb := sg_b hk (i := m) (j + 1 - m) (by omega)
      have ej : ((j : Int) + 1).toNat = j + 1 := by omega
      have eB := (r2 (j + 1) (by omega)).1
      have b1 := hB (j + 1) (by omega) (by omega)
      have pb := pC_b (hh := hh) hk hH hmj (show j < n by omega)
      refine k_PG_offerPagesFrom_39 ?_
      rw [Int.toNat_natCast j, eh, es, ej, eB, Int.toNat_natCast m]
      refine ⟨⟨by omega, by omega⟩, ⟨by omega, by omega⟩, fun z => absurd z (by omega), fun _ => ⟨by omega, ⟨by omega, by omega⟩, fun hr => ?_, fun hr => ?_⟩⟩
      · obtain ⟨S, hS⟩ : ∃ S, sg hh m (j + 1 - m) = S := ⟨_, rfl⟩
        have qb := sq_b (x := (H : Int) - S) ⟨by omega, by omega⟩
        have hcond : ((((if 1 < (n : Int) then (1 : Int) else 0) = 0 ∧ ρ.1 87 (j + 1) < 536870912) ∨ ((if 1 < (n : Int) then (1 : Int) else 0) ≠ 0 ∧ ((j : Int) ≠ 0 ∧ ρ.1 87 (j + 1) < 536870912)))) ↔ Ft (pC hh n H) (ρ.1 87) m j := by
          have hpc : pC hh n H m j < NV ↔ (n = 1 ∨ 0 < j) := by
            unfold pC
            rw [hS]
            by_cases c : S ≤ (H : Int) ∧ (n = 1 ∨ (m + 1 < n ∧ 0 < j))
            · rw [if_pos c]
              refine ⟨fun _ => by omega, fun _ => ?_⟩
              split
              · omega
              · omega
            · rw [if_neg c]
              refine ⟨fun q => absurd q (by omega), fun q => absurd ⟨by omega, ?_⟩ c⟩
              omega
          unfold Ft
          rw [hpc]
          by_cases c : 1 < (n : Int)
          · rw [if_pos c]
            constructor
            · rintro (q | q)
              · exact absurd q.1 (by decide)
              · exact ⟨by omega, q.2.2⟩
            · intro q
              exact Or.inr ⟨by decide, by omega, q.2⟩
          · rw [if_neg c]
            constructor
            · rintro (q | q)
              · exact ⟨by omega, q.2⟩
              · exact absurd rfl q.1
            · intro q
              exact Or.inl ⟨rfl, q.2⟩
        have hval : Ft (pC hh n H) (ρ.1 87) m j → ρ.1 87 (j + 1) + (if (j : Int) ≠ (n : Int) - 1 then ((H : Int) - S) * ((H : Int) - S) else (0 : Int)) = pC hh n H m j + ρ.1 87 (j + 1) := fun hf => by
          have h1 := hf.1
          unfold pC at h1 ⊢
          rw [hS] at h1 ⊢
          by_cases c : S ≤ (H : Int) ∧ (n = 1 ∨ (m + 1 < n ∧ 0 < j))
          · rw [if_pos c]
            by_cases c2 : j + 1 = n
            · rw [if_pos c2, if_neg (show ¬ (j : Int) ≠ (n : Int) - 1 by omega)]; omega
            · rw [if_neg c2, if_pos (show (j : Int) ≠ (n : Int) - 1 by omega)]; omega
          · rw [if_neg c] at h1; omega
        have skip : ¬ (Ft (pC hh n H) (ρ.1 87) m j ∧ pC hh n H m j + ρ.1 87 (j + 1) ≤ υ.1 87 m) → a_PG_offerPagesFrom_39 G m n (if 1 < (n : Int) then 1 else 0) ((H : Int) - S) ((j : Int) + 1) υ (fun _ υ => FrG ρ υ ∧ (∀ i, i ≠ m → υ.1 87 i = ρ.1 87 i ∧ υ.1 88 i = ρ.1 88 i) ∧ Prt (pC hh n H) (ρ.1 87) m m n (υ.1 87 m) (υ.1 88 m) ∧ (0 ≤ υ.1 87 m ∧ υ.1 87 m ≤ NV ∧ (υ.1 87 m < NV → υ.1 87 m ≤ 4000000 * ((n : Int) - m)))) := fun hno => by
          rw [show (j : Int) + 1 = ((j + 1 : Nat) : Int) by omega, ← hS]
          refine ih (j + 1) υ (by omega) (by omega) r1 r2 ?_ r4
          refine Prt_up r3 hmj (fun y => ?_) (fun y1 y2 => absurd ⟨y1, y2⟩ hno) (fun _ => ⟨rfl, rfl⟩)
          have c1 := pb.2.2 y.1
          have c2 := b1.2.2 y.2
          omega
        rw [hS]
        refine ⟨by split <;> exact ⟨by decide, by decide⟩, ⟨fun _ => by omega, fun _ _ => by omega⟩, by omega, ⟨by omega, by omega⟩, fun hc => skip (fun y => hc (hcond.mpr y.1)), fun hc => ?_⟩
        have hft := hcond.mp hc
        have c1 := pb.2.2 hft.1
        have c2 := b1.2.2 hft.2
        rw [hval hft]
        refine ⟨by omega, ⟨by omega, by omega⟩, fun z3 => skip (fun y => by have := y.2; omega), fun z3 s80 e80 => ⟨by omega, fun s83 e83 => ?_⟩⟩
        have e83' : s83 = sa (sa υ 87 m (pC hh n H m j + ρ.1 87 (j + 1))) 88 m j := by rw [e83, e80]
        have v87 : s83.1 87 m = pC hh n H m j + ρ.1 87 (j + 1) := by rw [e83', sa_ne (by decide), sa_at]
        have v88 : s83.1 88 m = (j : Int) := by rw [e83', sa_at]
        rw [show (j : Int) + 1 = ((j + 1 : Nat) : Int) by omega, ← hS]
        refine ih (j + 1) s83 (by omega) (by omega) (by rw [e83']; exact (r1.st (Or.inl rfl)).st (Or.inr rfl)) (fun i hi => ?_) ?_ ?_
        · rw [e83', sa_ne (by decide), sa_nx hi, sa_nx hi, sa_ne (by decide)]
          exact r2 i hi
        · rw [v87, v88]
          exact Prt_up r3 hmj (fun _ => by omega) (fun _ _ => ⟨rfl, rfl⟩) (fun y => absurd ⟨hft, z3⟩ y)
        · rw [v87]
          omega
      · refine ⟨r1, r2, Prt_more r3 (by omega) (fun x x1 x2 hx => ?_), r4⟩
        have h1 := hx.1
        have mo := sg_mono hk (i := m) (d := j + 1 - m) (x - j) (by omega)
        rw [show j + 1 - m + (x - j) = x + 1 - m by omega] at mo
        unfold pC at h1
        rw [if_neg (fun q => by have := q.1; omega)] at h1
        omega
  refine CJ.go (fun _ => k_PG_offerPagesFrom_0 ?_)
  rw [hn]
  have start : (n = 1 ∨ m + 1 < n) → a_PG_offerPagesFrom_39 G m n (if 1 < (n : Int) then 1 else 0) H m ρ (fun _ υ => FrG ρ υ ∧ (∀ i, i ≠ m → υ.1 87 i = ρ.1 87 i ∧ υ.1 88 i = ρ.1 88 i) ∧ Prt (pC hh n H) (ρ.1 87) m m n (υ.1 87 m) (υ.1 88 m) ∧ (0 ≤ υ.1 87 m ∧ υ.1 87 m ≤ NV ∧ (υ.1 87 m < NV → υ.1 87 m ≤ 4000000 * ((n : Int) - m)))) := fun hal => by
    have := loop hal (n - m) m ρ (by omega) (Nat.le_refl _) FrG.refl (fun _ _ => ⟨rfl, rfl⟩) (Or.inl ⟨h87, fun x x1 x2 => absurd x1 (by omega)⟩) (by rw [h87]; omega)
    rw [Nat.sub_self, show (H : Int) - sg hh m 0 = (H : Int) by show (H : Int) - 0 = _; omega] at this
    exact this
  refine ⟨fun z => start (by omega), fun z => ⟨⟨by omega, by omega⟩, ⟨by omega, by omega⟩, fun z2 => start (by omega), fun z2 => ?_⟩⟩
  refine ⟨FrG.refl, fun _ _ => ⟨rfl, rfl⟩, Or.inl ⟨h87, fun x x1 x2 hx => ?_⟩, by rw [h87]; omega⟩
  have h1 := hx.1
  unfold pC at h1
  rw [if_neg (fun q => by have := q.2; omega)] at h1
  omega
theorem t_pgSearch {G : GT} {τ : St} {n H : Nat} {hh : Nat → Int} (hn : τ.2.1 6 2 = n) (hn8 : n ≤ 80) (hH : H ≤ 2000) (hk : Hok hh n) (hh80 : ∀ k, k < n → τ.1 80 k + τ.1 81 k = hh k) : CJ G m_PG_search [O 7, I H] τ (fun r υ => FrG τ υ ∧ Spc (pC hh n H) n (υ.1 87) (υ.1 88) ∧ r = if υ.1 87 0 < NV then 1 else 0) := by
  have NVe : NV = 536870912 := rfl
  refine CJ.go (fun _ => k_PG_search_0 ?_)
  rw [hn, Int.toNat_natCast n]
  refine ⟨by omega, fun s3 e3 => ?_⟩
  have loop : ∀ (d : Nat) (υ : St), d ≤ n → FrG τ υ → υ.1 87 n = 0 → (∀ i, d ≤ i → i < n → Prt (pC hh n H) (υ.1 87) i i n (υ.1 87 i) (υ.1 88 i)) → (∀ i, d ≤ i → i ≤ n → 0 ≤ υ.1 87 i ∧ υ.1 87 i ≤ NV ∧ (υ.1 87 i < NV → υ.1 87 i ≤ 4000000 * ((n : Int) - i))) → a_PG_search_19 G H ((d : Int) - 1) υ (fun r υ => FrG τ υ ∧ Spc (pC hh n H) n (υ.1 87) (υ.1 88) ∧ r = if υ.1 87 0 < NV then 1 else 0) := by
    intro d
    induction d with
    | zero =>
      intro υ _ h1 h2 h3 h4
      exact k_PG_search_19 ⟨⟨by omega, by omega⟩, fun _ => ⟨h1, ⟨h2, fun i hi => h3 i (by omega) hi⟩, rfl⟩, fun z => absurd z (by omega)⟩
    | succ m ih =>
      intro υ hd h1 h2 h3 h4
      rw [show (((m + 1 : Nat) : Int) - 1) = (m : Int) by omega]
      refine k_PG_search_19 ?_
      rw [Int.toNat_natCast m]
      refine ⟨⟨by omega, by omega⟩, fun z => absurd z (by omega), fun _ => ⟨by omega, fun s8 e8 => ?_⟩⟩
      have g8 : FrG τ s8 := by rw [e8]; exact h1.st (Or.inl rfl)
      have x87 : ∀ i, i ≠ m → s8.1 87 i = υ.1 87 i := fun i hi => by rw [e8, sa_nx hi]
      have x88 : s8.1 88 = υ.1 88 := by rw [e8, sa_ne (by decide)]
      refine CJ.mono (t_offerPages (hh := hh) (by rw [g8.2]; exact hn) hn8 (show m < n by omega) hH hk (fun k hk' => by rw [g8.1 80 (by omega) (by omega), g8.1 81 (by omega) (by omega)]; exact hh80 k hk') (fun i i1 i2 => by rw [x87 i (by omega)]; exact h4 i (by omega) i2) (by rw [e8, sa_at]; rfl)) (fun _ υ2 _ hυ2 => ?_)
      obtain ⟨y1, y2, y3, y4⟩ := hυ2
      rw [show (m : Int) + (-1) = (m : Int) - 1 by omega]
      have z87 : ∀ i, i ≠ m → υ2.1 87 i = υ.1 87 i := fun i hi => by rw [(y2 i hi).1, x87 i hi]
      have z88 : ∀ i, i ≠ m → υ2.1 88 i = υ.1 88 i := fun i hi => by rw [(y2 i hi).2, x88]
      refine ih υ2 (by omega) (g8.trans y1) (by rw [z87 n (by omega)]; exact h2) (fun i i1 i2 => ?_) (fun i i1 i2 => ?_)
      · by_cases q : i = m
        · rw [q]
          exact Prt_congr y3 (fun x x1 x2 => (y2 (x + 1) (by omega)).1)
        · rw [z87 i q, z88 i q]
          exact Prt_congr (h3 i (by omega) i2) (fun x x1 x2 => z87 (x + 1) (by omega))
      · by_cases q : i = m
        · rw [q]; exact y4
        · rw [z87 i q]; exact h4 i (by omega) i2
  have e3' : s3.1 87 n = 0 := by rw [e3, sa_at]
  refine loop n s3 (Nat.le_refl _) (by rw [e3]; exact FrG.refl.st (Or.inl rfl)) e3' (fun i i1 i2 => absurd i1 (by omega)) (fun i i1 i2 => ?_)
  rw [show i = n by omega, e3']
  omega
