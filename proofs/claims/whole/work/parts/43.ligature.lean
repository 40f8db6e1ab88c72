/-! ligature -/
def gdL (σ : St) (x y z : Int) : Prop := σ.1 89 x.toNat = 0 ∧ ((z ≠ (-1) ∧ (σ.1 89 y.toNat = 0 ∧ (σ.1 89 z.toNat = 0 ∨ σ.1 89 z.toNat = 1))) ∨ (z = (-1) ∧ (σ.1 89 y.toNat = 0 ∨ σ.1 89 y.toNat = 1)))
def knL (σ : St) (x y z : Int) : Prop := (0 ≤ x ∧ x ≤ σ.2.1 8 6 - 1) ∧ (0 ≤ y ∧ y ≤ σ.2.1 8 6 - 1) ∧ (z = -1 ∨ (0 ≤ z ∧ z ≤ σ.2.1 8 6 - 1))
def isLg (σ : St) (x y z : Int) (i : Nat) : Prop := σ.1 (168 + i) 0 = x ∧ σ.1 (168 + i) 1 = y ∧ σ.1 (168 + i) 2 = z
theorem l_hasLig {G : GT} {σ : St} {P : Int → St → Prop} {x y z : Int} (hx : rng x) (hy : rng y) (hz : rng z) {K : Nat} (hK : σ.2.1 1 1 = K) (h8 : K ≤ 8) (h1 : (∃ i, i < K ∧ isLg σ x y z i) → P 1 σ) (h0 : (∀ i, i < K → ¬ isLg σ x y z i) → P 0 σ) : ∀ (d m : Nat), m + d = K → (∀ i, i < m → ¬ isLg σ x y z i) → a_SC_hasLigature_3 G x y z m σ P := by
  intro d
  induction d with
  | zero =>
    intro m hm hno
    refine k_SC_hasLigature_3 ⟨⟨by omega, by omega⟩, fun _ => h0 (fun i hi => hno i (by omega)), fun q => absurd q (by omega)⟩
  | succ d ih =>
    intro m hm hno
    have go : ¬ isLg σ x y z m → a_SC_hasLigature_3 G x y z ((m : Int) + 1) σ P := fun hn => ih (m + 1) (by omega) (fun i hi => by
      by_cases e : i = m
      · rw [e]; exact hn
      · exact hno i (by omega))
    refine k_SC_hasLigature_3 ⟨⟨by omega, by omega⟩, fun q => absurd q (by omega), fun _ => ?_⟩
    rw [Int.toNat_natCast]
    exact ⟨by omega, hx, fun q => go (fun w => q w.1), fun q1 => ⟨hy, fun q => go (fun w => q w.2.1), fun q2 => ⟨hz, fun q => go (fun w => q w.2.2), fun q3 => h1 ⟨m, by omega, q1, q2, q3⟩⟩⟩⟩
theorem t_hasLig {G : GT} {σ : St} {x y z : Int} (hx : rng x) (hy : rng y) (hz : rng z) {K : Nat} (hK : σ.2.1 1 1 = K) (h8 : K ≤ 8) : CJ G m_SC_hasLigature [O 1, I x, I y, I z] σ (fun r u => u = σ ∧ ((r = 1 ∧ ∃ i, i < K ∧ isLg σ x y z i) ∨ (r = 0 ∧ ∀ i, i < K → ¬ isLg σ x y z i))) :=
  CJ.go (fun _ => k_SC_hasLigature_0 (l_hasLig hx hy hz hK h8 (fun q => ⟨rfl, Or.inl ⟨rfl, q⟩⟩) (fun q => ⟨rfl, Or.inr ⟨rfl, q⟩⟩) K 0 (by omega) (fun i hi => absurd hi (by omega))))
/-- the reference's search -/
def isLm (σ : St) (x y z : Int) (l : Nat) : Prop := σ.1 89 l = 7 ∧ σ.1 90 l = x ∧ σ.1 91 l = y ∧ σ.1 92 l = z
theorem l_moLig {G : GT} {σ : St} {P : Int → St → Prop} {x y z b : Int} (hx : rng x) (hy : rng y) (hz : rng z) {N : Nat} (hN : σ.2.1 8 6 = N) (h60 : N ≤ 60) (h1 : (∃ l, l < N ∧ isLm σ x y z l) → P (-5) σ) (h0 : (∀ l, l < N → ¬ isLm σ x y z l) → a_MO_ligature_112 G x y z b N σ P) : ∀ (d m : Nat), m + d = N → (∀ i, i < m → ¬ isLm σ x y z i) → a_MO_ligature_112 G x y z b m σ P := by
  intro d
  induction d with
  | zero =>
    intro m hm hno
    have e : m = N := by omega
    rw [e]
    exact h0 (fun i hi => hno i (by omega))
  | succ d ih =>
    intro m hm hno
    have go : ¬ isLm σ x y z m → a_MO_ligature_112 G x y z b ((m : Int) + 1) σ P := fun hn => ih (m + 1) (by omega) (fun i hi => by
      by_cases e : i = m
      · rw [e]; exact hn
      · exact hno i (by omega))
    refine k_MO_ligature_112 ⟨⟨by omega, by omega⟩, fun q => absurd q (by omega), fun _ => ?_⟩
    rw [Int.toNat_natCast]
    exact ⟨by omega, fun q => go (fun w => q w.1), fun q0 => ⟨hx, fun q => go (fun w => q w.2.1), fun q1 => ⟨hy, fun q => go (fun w => q w.2.2.1), fun q2 => ⟨hz, fun q => go (fun w => q w.2.2.2), fun q3 => h1 ⟨m, by omega, q0, q1, q2, q3⟩⟩⟩⟩⟩
theorem lig_same {σ : St} (h : IS σ) {x y z : Int} : (∃ i : Nat, (i : Int) < σ.2.1 8 7 ∧ isLg σ x y z i) ↔ ∃ l : Nat, (l : Int) < σ.2.1 8 6 ∧ isLm σ x y z l := by
  constructor
  · rintro ⟨i, hi, q1, q2, q3⟩
    obtain ⟨g, g1, g2, g3, g4, g5, g6, -⟩ := h.2.2.2.1 i hi
    exact ⟨g, g2, g3, by rw [← g4]; exact q1, by rw [← g5]; exact q2, by rw [← g6]; exact q3⟩
  · rintro ⟨l, hl, q0, q1, q2, q3⟩
    obtain ⟨i, i1, i2⟩ := h.2.2.2.2.1 l hl q0
    obtain ⟨g, g1, g2, g3, g4, g5, g6, -⟩ := h.2.2.2.1 i i1
    have e : g = l := by omega
    subst e
    exact ⟨i, i1, by rw [g4]; exact q1, by rw [g5]; exact q2, by rw [g6]; exact q3⟩
/-- the reference's ligature up to its search -/
theorem mo_lig {G : GT} {σ : St} {P : Int → St → Prop} {x y z b : Int} (hx : rng x) (hy : rng y) (hz : rng z) (hN : 0 ≤ σ.2.1 8 6 ∧ σ.2.1 8 6 ≤ 60) (e1 : ¬ knL σ x y z → P (-1) σ) (e2 : knL σ x y z → ¬ gdL σ x y z → P (-2) σ) (e4 : knL σ x y z → gdL σ x y z → σ.2.1 8 7 = 8 ∨ σ.2.1 8 6 = 60 → P (-4) σ) (go : knL σ x y z → gdL σ x y z → σ.2.1 8 7 ≠ 8 → σ.2.1 8 6 ≠ 60 → a_MO_ligature_112 G x y z b 0 σ P) : CJ G m_MO_ligature [O 8, I x, I y, I z, I b] σ P := by
  refine CJ.go (fun _ => k_MO_ligature_0 ⟨hx, ⟨by omega, by omega⟩, fun q => e1 (fun w => q w.1), fun kx => ⟨hy, fun q => e1 (fun w => q w.2.1), fun ky => ⟨hz, fun kz => ?_, fun kz => ⟨fun kz2 => ?_, fun q => e1 (fun w => by have := w.2.2; omega)⟩⟩⟩⟩)
  · have kn : knL σ x y z := ⟨kx, ky, Or.inl kz⟩
    exact ⟨by omega, fun _ => ⟨fun q => absurd kz q, fun _ => by omega⟩, fun g => ⟨fun q => e4 kn g (Or.inl q), fun q1 => ⟨fun q2 => go kn g q1 q2, fun q2 => e4 kn g (Or.inr q2)⟩⟩, fun g => e2 kn g⟩
  · have kn : knL σ x y z := ⟨kx, ky, Or.inr kz2⟩
    exact ⟨by omega, fun _ => ⟨fun _ => ⟨by omega, fun _ => by omega⟩, fun q => absurd q kz⟩, fun g => ⟨fun q => e4 kn g (Or.inl q), fun q1 => ⟨fun q2 => go kn g q1 q2, fun q2 => e4 kn g (Or.inr q2)⟩⟩, fun g => e2 kn g⟩
/-- the class's ligature up to its search -/
theorem js_lig {G : GT} {σ : St} {P : Int → St → Prop} {x y z b : Int} (hS : IS σ) (hx : rng x) (hy : rng y) (hz : rng z) (e1 : ¬ knL σ x y z → P (-1) σ) (e2 : knL σ x y z → ¬ gdL σ x y z → P (-2) σ) (e4 : knL σ x y z → gdL σ x y z → σ.2.1 8 7 = 8 ∨ σ.2.1 8 6 = 60 → P (-4) σ) (e5 : knL σ x y z → gdL σ x y z → σ.2.1 8 7 ≠ 8 → σ.2.1 8 6 ≠ 60 → (∃ i : Nat, (i : Int) < σ.2.1 8 7 ∧ isLg σ x y z i) → P (-5) σ)
    (go : knL σ x y z → gdL σ x y z → σ.2.1 8 7 ≠ 8 → σ.2.1 8 6 ≠ 60 → (¬ ∃ i : Nat, (i : Int) < σ.2.1 8 7 ∧ isLg σ x y z i) → rng (σ.2.1 0 9 + 1) ∧ CJ G m_SC_addLigature [O 1, I x, I y, I z, I b] (sf σ 0 9 (σ.2.1 0 9 + 1)) P) : CJ G m_JS_ligature [O 0, I x, I y, I z, I b] σ P := by
  have n := hS.1
  unfold NumOk at n
  obtain ⟨K, hK⟩ : ∃ K : Nat, σ.2.1 1 1 = K := ⟨(σ.2.1 1 1).toNat, by omega⟩
  have rest : knL σ x y z → gdL σ x y z → (8 ≤ σ.2.1 1 1 → P (-4) σ) ∧ (σ.2.1 1 1 < 8 → (σ.2.1 1 0 < 60 → CJ G m_SC_hasLigature [O 1, I x, I y, I z] σ (fun r14 u13 => (r14 = 0 → rng ((u13.2.1 0 9) + 1) ∧ (∀ σ17, σ17 = sf u13 0 9 ((u13.2.1 0 9) + 1) → CJ G m_SC_addLigature [O 1, I x, I y, I z, I b] σ17 (fun r21 u20 => P r21 u20))) ∧ (r14 ≠ 0 → P (-5) u13))) ∧ (60 ≤ σ.2.1 1 0 → P (-4) σ)) := by
    intro kn g
    refine ⟨fun q => e4 kn g (Or.inl (by omega)), fun q1 => ⟨fun q2 => ?_, fun q => e4 kn g (Or.inr (by omega))⟩⟩
    refine CJ.mono (t_hasLig hx hy hz hK (by omega)) (fun r u _ hu => ?_)
    obtain ⟨rfl, hu⟩ := hu
    rcases hu with ⟨rfl, i, i1, i2⟩ | ⟨rfl, hno⟩
    · exact ⟨fun q => absurd q (by decide), fun _ => e5 kn g (by omega) (by omega) ⟨i, by omega, i2⟩⟩
    · refine ⟨fun _ => ?_, fun q => absurd rfl q⟩
      have := go kn g (by omega) (by omega) (fun w => by obtain ⟨i, i1, i2⟩ := w; exact hno i (by omega) i2)
      exact ⟨this.1, fun s e => by rw [e]; exact this.2⟩
  have s47 : ∀ v : Int, 0 ≤ v ∧ v ≤ σ.2.1 8 6 - 1 → σ.1 47 v.toNat = σ.1 89 v.toNat := fun v hv => (hS.2.1 v.toNat (by omega)).1
  refine CJ.go (fun _ => k_JS_ligature_0 ⟨hz, hx, fun _ => ⟨by omega, by omega⟩, fun q => e1 (fun w => q (by have := w.1; omega)), fun kx => ⟨hy, fun _ => ⟨by omega, by omega⟩, fun q => e1 (fun w => q (by have := w.2.1; omega)), fun ky => ⟨fun kz => ?_, fun kz => ⟨fun _ => ⟨by omega, by omega⟩, fun kz2 => ?_, fun q => e1 (fun w => by have := w.2.2; omega)⟩⟩⟩⟩)
  · have kn : knL σ x y z := ⟨by omega, by omega, Or.inl kz⟩
    have sx := s47 x (by omega)
    have sy := s47 y (by omega)
    refine CJ.go (fun _ => k_SC_canJoinUp_0 ⟨hz, fun q => absurd kz q, fun _ => ⟨by omega, fun _ => by omega, ?_⟩⟩)
    by_cases g : gdL σ x y z
    · rw [if_pos (by unfold gdL at g; omega)]
      exact ⟨fun _ => rest kn g, fun q => absurd q (by decide)⟩
    · rw [if_neg (by unfold gdL at g; omega)]
      exact ⟨fun q => absurd rfl q, fun _ => e2 kn g⟩
  · have kn : knL σ x y z := ⟨by omega, by omega, Or.inr (by omega)⟩
    have sx := s47 x (by omega)
    have sy := s47 y (by omega)
    have sz := s47 z (by omega)
    refine CJ.go (fun _ => k_SC_canJoinUp_0 ⟨hz, fun _ => ⟨by omega, fun _ => ⟨by omega, fun _ => by omega⟩, ?_⟩, fun q => absurd q kz⟩)
    by_cases g : gdL σ x y z
    · rw [if_pos (by unfold gdL at g; omega)]
      exact ⟨fun _ => rest kn g, fun q => absurd q (by decide)⟩
    · rw [if_neg (by unfold gdL at g; omega)]
      exact ⟨fun q => absurd rfl q, fun _ => e2 kn g⟩
theorem nlM_rd {σ : St} {s : Int} {N : Nat} (hN : σ.2.1 8 6 = N) (k i : Nat) : (nlM σ s).1 k i = if k = 105 ∧ 4 * N ≤ i ∧ i < 4 * N + 4 then 0 else if k = 94 ∧ i = N then 0 else if k = 89 ∧ i = N then s else σ.1 k i := by
  have q0 : (4 * (N : Int) + 0).toNat = 4 * N := by omega
  have q1 : (4 * (N : Int) + 1).toNat = 4 * N + 1 := by omega
  have q2 : (4 * (N : Int) + 2).toNat = 4 * N + 2 := by omega
  have q3 : (4 * (N : Int) + 3).toNat = 4 * N + 3 := by omega
  unfold nlM
  rw [chg_1, sf_1, sa_1, sa_1, sa_1, sa_1, sa_1, sa_1, hN, Int.toNat_natCast, q0, q1, q2, q3]
  by_cases h105 : k = 105
  · subst h105
    by_cases c3 : i = 4 * N + 3
    · rw [if_pos ⟨rfl, c3⟩, if_pos ⟨rfl, by omega, by omega⟩]
    · by_cases c2 : i = 4 * N + 2
      · rw [if_neg (by omega), if_pos ⟨rfl, c2⟩, if_pos ⟨rfl, by omega, by omega⟩]
      · by_cases c1 : i = 4 * N + 1
        · rw [if_neg (by omega), if_neg (by omega), if_pos ⟨rfl, c1⟩, if_pos ⟨rfl, by omega, by omega⟩]
        · by_cases c0 : i = 4 * N
          · rw [if_neg (by omega), if_neg (by omega), if_neg (by omega), if_pos ⟨rfl, c0⟩, if_pos ⟨rfl, by omega, by omega⟩]
          · repeat rw [if_neg (by omega)]
  · rw [if_neg (by omega), if_neg (by omega), if_neg (by omega), if_neg (by omega), if_neg (by omega : ¬ (k = 105 ∧ 4 * N ≤ i ∧ i < 4 * N + 4))]
