/-! the text's edits: rows moved by one; the ring of the class against the stack of the reference -/
def insA (f : Nat → Int) (i : Nat) (l : Int) (n j : Nat) : Int := if j = i then l else if i < j ∧ j ≤ n then f (j - 1) else f j
def remA (f : Nat → Int) (i n j : Nat) : Int := if i ≤ j ∧ j + 1 < n then f (j + 1) else f j
theorem l_putIn {G : GT} {σ : St} {P : Int → St → Prop} {i n : Nat} {l : Int} (hl : rng l) (hc : σ.2.1 2 0 = n) (hi : i ≤ n) (hn : n < 80) (hP : ∀ u, u.2 = (sf σ 2 0 (n + 1)).2 → (∀ k, k ≠ 57 → u.1 k = σ.1 k) → (∀ j, u.1 57 j = insA (σ.1 57) i l n j) → P 0 u) : ∀ (d : Nat) (τ : St), i + d ≤ n → τ.2 = σ.2 → (∀ k, k ≠ 57 → τ.1 k = σ.1 k) → (∀ j, τ.1 57 j = if i + d < j ∧ j ≤ n then σ.1 57 (j - 1) else σ.1 57 j) → a_TY_putIn_5 G i l (i + d : Nat) τ P := by
  intro d
  induction d with
  | zero =>
    intro τ hd h2 ho hj
    have g : τ.2.1 2 0 = n := by rw [h2]; exact hc
    refine k_TY_putIn_5 ⟨⟨by omega, by omega⟩, ⟨by omega, by omega⟩, fun _ => ⟨by omega, hl, fun σ8 e8 => ⟨⟨by omega, by omega⟩, fun σ11 e11 => ?_⟩⟩, fun z => absurd z (by omega)⟩
    refine hP _ ?_ (fun k hk => ?_) (fun j => ?_)
    · rw [e11, e8, g]
      show (up2 τ.2.1 2 0 ((n : Int) + 1), τ.2.2) = _
      rw [h2]; rfl
    · rw [e11, e8, sf_1, sa_ne hk]; exact ho k hk
    · rw [e11, e8, sf_1, sa_1, hj, Int.toNat_natCast]
      unfold insA
      by_cases q : j = i
      · rw [if_pos ⟨rfl, q⟩, if_pos q]
      · rw [if_neg (fun z => q z.2), if_neg q]
        rfl
  | succ d ih =>
    intro τ hd h2 ho hj
    have t1 : (((i + (d + 1) : Nat) : Int) - 1).toNat = i + d := by omega
    have t2 : (((i + (d + 1) : Nat) : Int)).toNat = i + d + 1 := by omega
    refine k_TY_putIn_5 ⟨⟨by omega, by omega⟩, ⟨by omega, by omega⟩, fun z => absurd z (by omega), fun _ => ⟨by omega, by omega, fun σ17 e17 => ?_⟩⟩
    rw [t1, t2] at e17
    have e : ((i + (d + 1) : Nat) : Int) + (-1) = ((i + d : Nat) : Int) := by omega
    rw [e]
    refine ih σ17 (by omega) (by rw [e17]; exact h2) (fun k hk => by rw [e17, sa_ne hk]; exact ho k hk) (fun j => ?_)
    rw [e17, sa_1, hj, hj]
    by_cases q : j = i + d + 1
    · rw [if_pos ⟨rfl, q⟩, if_neg (by omega), if_pos (by omega), q]
      rfl
    · rw [if_neg (fun z => q z.2)]
      by_cases q2 : i + (d + 1) < j ∧ j ≤ n
      · rw [if_pos q2, if_pos (by omega)]
      · rw [if_neg q2, if_neg (by omega)]
theorem t_putIn {G : GT} {σ : St} {i n : Nat} {l : Int} (hl : rng l) (hc : σ.2.1 2 0 = n) (hi : i ≤ n) (hn : n < 80) : CJ G m_TY_putIn [O 2, I i, I l] σ (fun _ u => u.2 = (sf σ 2 0 (n + 1)).2 ∧ (∀ k, k ≠ 57 → u.1 k = σ.1 k) ∧ ∀ j, u.1 57 j = insA (σ.1 57) i l n j) := by
  refine CJ.go (fun _ => k_TY_putIn_0 ?_)
  obtain ⟨d, hd⟩ : ∃ d, n = i + d := ⟨n - i, by omega⟩
  have := l_putIn (G := G) (P := fun _ u => u.2 = (sf σ 2 0 (n + 1)).2 ∧ (∀ k, k ≠ 57 → u.1 k = σ.1 k) ∧ ∀ j, u.1 57 j = insA (σ.1 57) i l n j) hl hc hi hn (fun u a b c => ⟨a, b, c⟩) d σ (by omega) rfl (fun _ _ => rfl) (fun j => by rw [if_neg (by omega)])
  rw [hc]
  rw [← hd] at this
  exact this
theorem l_put {G : GT} {σ : St} {P : Int → St → Prop} {i n : Nat} {l : Int} (hl : rng l) (hc : σ.2.1 8 21 = n) (hi : i ≤ n) (hn : n < 80) (hP : ∀ u, u.2 = (sf σ 8 21 (n + 1)).2 → (∀ k, k ≠ 106 → u.1 k = σ.1 k) → (∀ j, u.1 106 j = insA (σ.1 106) i l n j) → P 0 u) : ∀ (d : Nat) (τ : St), i + d ≤ n → τ.2 = σ.2 → (∀ k, k ≠ 106 → τ.1 k = σ.1 k) → (∀ j, τ.1 106 j = if i + d < j ∧ j ≤ n then σ.1 106 (j - 1) else σ.1 106 j) → a_MO_put_5 G i l (i + d : Nat) τ P := by
  intro d
  induction d with
  | zero =>
    intro τ hd h2 ho hj
    have g : τ.2.1 8 21 = n := by rw [h2]; exact hc
    refine k_MO_put_5 ⟨⟨by omega, by omega⟩, ⟨by omega, by omega⟩, fun _ => ⟨by omega, hl, fun σ8 e8 => ⟨⟨by omega, by omega⟩, fun σ11 e11 => ?_⟩⟩, fun z => absurd z (by omega)⟩
    refine hP _ ?_ (fun k hk => ?_) (fun j => ?_)
    · rw [e11, e8, g]
      show (up2 τ.2.1 8 21 ((n : Int) + 1), τ.2.2) = _
      rw [h2]; rfl
    · rw [e11, e8, sf_1, sa_ne hk]; exact ho k hk
    · rw [e11, e8, sf_1, sa_1, hj, Int.toNat_natCast]
      unfold insA
      by_cases q : j = i
      · rw [if_pos ⟨rfl, q⟩, if_pos q]
      · rw [if_neg (fun z => q z.2), if_neg q]
        rfl
  | succ d ih =>
    intro τ hd h2 ho hj
    have t1 : (((i + (d + 1) : Nat) : Int) - 1).toNat = i + d := by omega
    have t2 : (((i + (d + 1) : Nat) : Int)).toNat = i + d + 1 := by omega
    refine k_MO_put_5 ⟨⟨by omega, by omega⟩, ⟨by omega, by omega⟩, fun z => absurd z (by omega), fun _ => ⟨by omega, by omega, fun σ17 e17 => ?_⟩⟩
    rw [t1, t2] at e17
    have e : ((i + (d + 1) : Nat) : Int) + (-1) = ((i + d : Nat) : Int) := by omega
    rw [e]
    refine ih σ17 (by omega) (by rw [e17]; exact h2) (fun k hk => by rw [e17, sa_ne hk]; exact ho k hk) (fun j => ?_)
    rw [e17, sa_1, hj, hj]
    by_cases q : j = i + d + 1
    · rw [if_pos ⟨rfl, q⟩, if_neg (by omega), if_pos (by omega), q]
      rfl
    · rw [if_neg (fun z => q z.2)]
      by_cases q2 : i + (d + 1) < j ∧ j ≤ n
      · rw [if_pos q2, if_pos (by omega)]
      · rw [if_neg q2, if_neg (by omega)]
theorem t_put2 {G : GT} {σ : St} {i n : Nat} {l : Int} (hl : rng l) (hc : σ.2.1 8 21 = n) (hi : i ≤ n) (hn : n < 80) : CJ G m_MO_put [O 8, I i, I l] σ (fun _ u => u.2 = (sf σ 8 21 (n + 1)).2 ∧ (∀ k, k ≠ 106 → u.1 k = σ.1 k) ∧ ∀ j, u.1 106 j = insA (σ.1 106) i l n j) := by
  refine CJ.go (fun _ => k_MO_put_0 ?_)
  obtain ⟨d, hd⟩ : ∃ d, n = i + d := ⟨n - i, by omega⟩
  have := l_put (G := G) (P := fun _ u => u.2 = (sf σ 8 21 (n + 1)).2 ∧ (∀ k, k ≠ 106 → u.1 k = σ.1 k) ∧ ∀ j, u.1 106 j = insA (σ.1 106) i l n j) hl hc hi hn (fun u a b c => ⟨a, b, c⟩) d σ (by omega) rfl (fun _ _ => rfl) (fun j => by rw [if_neg (by omega)])
  rw [hc]
  rw [← hd] at this
  exact this
theorem l_takeOut {G : GT} {σ : St} {P : Int → St → Prop} {i n : Nat} {l : Int} (hl : rng l) (hi : i < n) (hn : n ≤ 80) (hP : ∀ u, u.2 = (sf σ 2 0 (n - 1)).2 → (∀ k, k ≠ 57 → u.1 k = σ.1 k) → (∀ j, u.1 57 j = remA (σ.1 57) i n j) → P l u) : ∀ (d m : Nat) (τ : St), i ≤ m → m + d + 1 = n → τ.2 = (sf σ 2 0 (n - 1)).2 → (∀ k, k ≠ 57 → τ.1 k = σ.1 k) → (∀ j, τ.1 57 j = if i ≤ j ∧ j < m then σ.1 57 (j + 1) else σ.1 57 j) → a_TY_takeOut_19 G l m τ P := by
  intro d
  induction d with
  | zero =>
    intro m τ hm hd h2 ho hj
    have g : τ.2.1 2 0 = (n : Int) - 1 := by rw [h2]; exact sf_at
    refine k_TY_takeOut_19 ⟨⟨by omega, by omega⟩, fun _ => ⟨hl, hP _ h2 ho (fun j => ?_)⟩, fun z => absurd z (by omega)⟩
    rw [hj]
    unfold remA
    by_cases q : i ≤ j ∧ j < m
    · rw [if_pos q, if_pos (by omega)]
    · rw [if_neg q, if_neg (by omega)]
  | succ d ih =>
    intro m τ hm hd h2 ho hj
    have g : τ.2.1 2 0 = (n : Int) - 1 := by rw [h2]; exact sf_at
    have t1 : ((m : Int) + 1).toNat = m + 1 := by omega
    refine k_TY_takeOut_19 ⟨⟨by omega, by omega⟩, fun z => absurd z (by omega), fun _ => ⟨by omega, by omega, fun σ15 e15 => ?_⟩⟩
    rw [t1, Int.toNat_natCast] at e15
    refine ih (m + 1) σ15 (by omega) (by omega) (by rw [e15]; exact h2) (fun k hk => by rw [e15, sa_ne hk]; exact ho k hk) (fun j => ?_)
    rw [e15, sa_1, hj, hj]
    by_cases q : j = m
    · rw [if_pos ⟨rfl, q⟩, if_neg (by omega), if_pos (by omega), q]
    · rw [if_neg (fun z => q z.2)]
      by_cases q2 : i ≤ j ∧ j < m
      · rw [if_pos q2, if_pos (by omega)]
      · rw [if_neg q2, if_neg (by omega)]
theorem t_takeOut {G : GT} {σ : St} {i n : Nat} (hc : σ.2.1 2 0 = n) (hi : i < n) (hn : n ≤ 80) : CJ G m_TY_takeOut [O 2, I i] σ (fun r u => r = σ.1 57 i ∧ u.2 = (sf σ 2 0 (n - 1)).2 ∧ (∀ k, k ≠ 57 → u.1 k = σ.1 k) ∧ ∀ j, u.1 57 j = remA (σ.1 57) i n j) := by
  refine CJ.go (fun R => k_TY_takeOut_0 ⟨by omega, ⟨by omega, by omega⟩, fun σ4 e4 => ?_⟩)
  rw [Int.toNat_natCast]
  rw [hc] at e4
  exact l_takeOut (σ := σ) (R.1 57 i) hi hn (fun u a b c => ⟨rfl, a, b, c⟩) (n - 1 - i) i σ4 (Nat.le_refl _) (by omega) (by rw [e4]) (fun k _ => by rw [e4]; rfl) (fun j => by rw [if_neg (by omega), e4]; rfl)
theorem l_takeOut2 {G : GT} {σ : St} {P : Int → St → Prop} {i n : Nat} {l : Int} (hl : rng l) (hc : σ.2.1 8 21 = n) (hi : i < n) (hn : n ≤ 80) (hP : ∀ u, u.2 = (sf σ 8 21 (n - 1)).2 → (∀ k, k ≠ 106 → u.1 k = σ.1 k) → (∀ j, u.1 106 j = remA (σ.1 106) i n j) → P l u) : ∀ (d m : Nat) (τ : St), i ≤ m → m + d + 1 = n → τ.2 = σ.2 → (∀ k, k ≠ 106 → τ.1 k = σ.1 k) → (∀ j, τ.1 106 j = if i ≤ j ∧ j < m then σ.1 106 (j + 1) else σ.1 106 j) → a_MO_takeOut_9 G l m τ P := by
  intro d
  induction d with
  | zero =>
    intro m τ hm hd h2 ho hj
    have g : τ.2.1 8 21 = (n : Int) := by rw [h2]; exact hc
    refine k_MO_takeOut_9 ⟨⟨by omega, by omega⟩, ⟨by omega, by omega⟩, fun _ σ9 e9 => ⟨hl, hP _ ?_ (fun k hk => by rw [e9]; exact ho k hk) (fun j => ?_)⟩, fun z => absurd z (by omega)⟩
    · rw [e9, g]
      show (up2 τ.2.1 8 21 ((n : Int) - 1), τ.2.2) = _
      rw [h2]; rfl
    · rw [e9, sf_1, hj]
      unfold remA
      by_cases q : i ≤ j ∧ j < m
      · rw [if_pos q, if_pos (by omega)]
      · rw [if_neg q, if_neg (by omega)]
  | succ d ih =>
    intro m τ hm hd h2 ho hj
    have g : τ.2.1 8 21 = (n : Int) := by rw [h2]; exact hc
    have t1 : ((m : Int) + 1).toNat = m + 1 := by omega
    refine k_MO_takeOut_9 ⟨⟨by omega, by omega⟩, ⟨by omega, by omega⟩, fun z => absurd z (by omega), fun _ => ⟨by omega, by omega, fun σ15 e15 => ?_⟩⟩
    rw [t1, Int.toNat_natCast] at e15
    refine ih (m + 1) σ15 (by omega) (by omega) (by rw [e15]; exact h2) (fun k hk => by rw [e15, sa_ne hk]; exact ho k hk) (fun j => ?_)
    rw [e15, sa_1, hj, hj]
    by_cases q : j = m
    · rw [if_pos ⟨rfl, q⟩, if_neg (by omega), if_pos (by omega), q]
    · rw [if_neg (fun z => q z.2)]
      by_cases q2 : i ≤ j ∧ j < m
      · rw [if_pos q2, if_pos (by omega)]
      · rw [if_neg q2, if_neg (by omega)]
theorem t_takeOut2 {G : GT} {σ : St} {i n : Nat} (hc : σ.2.1 8 21 = n) (hi : i < n) (hn : n ≤ 80) : CJ G m_MO_takeOut [O 8, I i] σ (fun r u => r = σ.1 106 i ∧ u.2 = (sf σ 8 21 (n - 1)).2 ∧ (∀ k, k ≠ 106 → u.1 k = σ.1 k) ∧ ∀ j, u.1 106 j = remA (σ.1 106) i n j) := by
  refine CJ.go (fun R => k_MO_takeOut_0 ⟨by omega, ?_⟩)
  rw [Int.toNat_natCast]
  exact l_takeOut2 (σ := σ) (R.1 106 i) hc hi hn (fun u a b c => ⟨rfl, a, b, c⟩) (n - 1 - i) i σ (Nat.le_refl _) (by omega) rfl (fun k _ => rfl) (fun j => by rw [if_neg (by omega)])
def rmJ (σ : St) (v1 v2 : Int) : St := sf (sf (sa (sa σ 58 (σ.2.1 2 3).toNat v1) 59 (σ.2.1 2 3).toNat v2) 2 3 (if 40 ≤ σ.2.1 2 3 + 1 then 0 else σ.2.1 2 3 + 1)) 2 1 (min (σ.2.1 2 1 + 1) 40)
theorem t_remember {G : GT} {σ : St} {v1 v2 : Int} (h1 : rng v1) (h2 : rng v2) (hn : 0 ≤ σ.2.1 2 3 ∧ σ.2.1 2 3 < 40) (he : 0 ≤ σ.2.1 2 1 ∧ σ.2.1 2 1 ≤ 40) : CJ G m_TY_remember [O 2, I v1, I v2] σ (fun _ u => u = rmJ σ v1 v2) := by
  refine CJ.go (fun _ => k_TY_remember_0 ⟨hn, h1, fun σ4 e4 => ⟨h2, fun σ8 e8 => ⟨⟨by omega, by omega⟩, ?_, fun σ13 e13 => ⟨⟨by omega, by omega⟩, ⟨by omega, by omega⟩, fun σ18 e18 => ?_⟩⟩⟩⟩)
  · split <;> exact ⟨by omega, by omega⟩
  · rw [e18, e13, e8, e4]
    rfl
/-- what the reference's note leaves in a row of its stack -/
def ntA (f : Nat → Int) (e : Int) (v : Int) (j : Nat) : Int := if (j : Int) = min e 39 then v else if e = 40 ∧ j < 39 then f (j + 1) else f j
theorem sf_sf {σ : St} {k j : Nat} {a b : Int} : (sf (sf σ k j a) k j b).2 = (sf σ k j b).2 := by
  have : up2 (up2 σ.2.1 k j a) k j b = up2 σ.2.1 k j b := by
    funext x y
    unfold up2
    split
    · rfl
    · rfl
  show (up2 (up2 σ.2.1 k j a) k j b, σ.2.2) = (up2 σ.2.1 k j b, σ.2.2)
  rw [this]
theorem l_note {G : GT} {σ : St} {P : Int → St → Prop} {v1 v2 v3 : Int} (hv1 : v1 = 0 ∨ v1 = 1) (hv2 : rng v2) (hv3 : rng v3) (he : σ.2.1 8 25 = 40) (hr : ∀ j, j < 40 → σ.1 107 j = 0 ∨ σ.1 107 j = 1) (hP : ∀ u, u.2 = (chg (sf σ 8 25 40)).2 → (∀ k, k ≠ 107 → k ≠ 108 → k ≠ 109 → u.1 k = σ.1 k) → (∀ j, j < 40 → u.1 107 j = ntA (σ.1 107) 40 v1 j) → (∀ j, j < 40 → u.1 108 j = ntA (σ.1 108) 40 v2 j) → (∀ j, j < 40 → u.1 109 j = ntA (σ.1 109) 40 v3 j) → P 0 u) : ∀ (d m : Nat) (τ : St), m + d = 39 → τ.2 = σ.2 → (∀ k, k ≠ 107 → k ≠ 108 → k ≠ 109 → τ.1 k = σ.1 k) → (∀ k, k = 107 ∨ k = 108 ∨ k = 109 → ∀ j, j < 40 → τ.1 k j = if j < m then σ.1 k (j + 1) else σ.1 k j) → a_MO_note_12 G v1 v2 v3 m τ P := by
  intro d
  induction d with
  | zero =>
    intro m τ hm h2 ho hj
    refine k_MO_note_12 ⟨⟨by omega, by omega⟩, fun _ σ23 e23 => ⟨hv1, fun σ26 e26 => ⟨hv2, fun σ29 e29 => ⟨hv3, fun σ32 e32 σ34 e34 => ?_⟩⟩⟩, fun z => absurd z (by omega)⟩
    refine CJ.mono t_changed (fun _ u _ hu => hP u ?_ (fun k h7 h8 h9 => ?_) (fun j hj2 => ?_) (fun j hj2 => ?_) (fun j hj2 => ?_))
    · have e : σ34.2 = (sf σ 8 25 40).2 := by
        rw [e34, e32, e29, e26, e23]
        show (sf (sf τ 8 25 39) 8 25 40).2 = _
        rw [sf_sf]
        show (up2 τ.2.1 8 25 40, τ.2.2) = _
        rw [h2]; rfl
      rw [hu]
      show (up2 (up2 (up2 (up2 (up2 σ34.2.1 8 68 0) 8 91 0) 8 100 0) 8 109 0) 8 26 0, σ34.2.2) = _
      rw [e]; rfl
    · rw [hu, chg_1, e34, e32, e29, e26, e23, sf_1, sa_ne h9, sa_ne h8, sa_ne h7]; exact ho k h7 h8 h9
    · rw [hu, chg_1, e34, e32, e29, e26, e23, sf_1, sa_ne (by decide), sa_ne (by decide), sa_1, sf_1, hj 107 (by omega) j hj2]
      unfold ntA
      by_cases q : j = 39
      · rw [if_pos ⟨rfl, q⟩, if_pos (by omega)]
      · rw [if_neg (fun z => q z.2), if_pos (by omega), if_neg (by omega), if_pos (by omega)]
    · rw [hu, chg_1, e34, e32, e29, e26, e23, sf_1, sa_ne (by decide), sa_1, sa_ne (by decide), sf_1, hj 108 (by omega) j hj2]
      unfold ntA
      by_cases q : j = 39
      · rw [if_pos ⟨rfl, q⟩, if_pos (by omega)]
      · rw [if_neg (fun z => q z.2), if_pos (by omega), if_neg (by omega), if_pos (by omega)]
    · rw [hu, chg_1, e34, e32, e29, e26, e23, sf_1, sa_1, sa_ne (by decide), sa_ne (by decide), sf_1, hj 109 (by omega) j hj2]
      unfold ntA
      by_cases q : j = 39
      · rw [if_pos ⟨rfl, q⟩, if_pos (by omega)]
      · rw [if_neg (fun z => q z.2), if_pos (by omega), if_neg (by omega), if_pos (by omega)]
  | succ d ih =>
    intro m τ hm h2 ho hj
    have t1 : ((m : Int) + 1).toNat = m + 1 := by omega
    have hb := hr (m + 1) (by omega)
    have r7 := hj 107 (by omega) (m + 1) (by omega)
    have r8 := hj 108 (by omega) (m + 1) (by omega)
    have r9 := hj 109 (by omega) (m + 1) (by omega)
    rw [if_neg (by omega)] at r7 r8 r9
    refine k_MO_note_12 ⟨⟨by omega, by omega⟩, fun z => absurd z (by omega), fun _ => ⟨by omega, by omega, by rw [t1, r7]; exact hb, fun σ41 e41 σ44 e44 σ47 e47 => ?_⟩⟩
    rw [t1, Int.toNat_natCast, r7] at e41
    rw [t1, Int.toNat_natCast, r8] at e44
    rw [t1, Int.toNat_natCast, r9] at e47
    refine ih (m + 1) σ47 (by omega) (by rw [e47, e44, e41]; exact h2) (fun k h7 h8 h9 => by rw [e47, e44, e41, sa_ne h9, sa_ne h8, sa_ne h7]; exact ho k h7 h8 h9) (fun k hk j hj2 => ?_)
    have hjk := hj k hk j hj2
    by_cases q : j = m
    · rw [if_pos (by omega), q, e47, e44, e41]
      rcases hk with rfl | rfl | rfl
      · rw [sa_ne (by decide), sa_ne (by decide), sa_at]
      · rw [sa_ne (by decide), sa_at]
      · rw [sa_at]
    · rw [e47, e44, e41, sa_nx q, sa_nx q, sa_nx q, hjk]
      by_cases q2 : j < m
      · rw [if_pos q2, if_pos (by omega)]
      · rw [if_neg q2, if_neg (by omega)]
theorem t_note {G : GT} {σ : St} {v1 v2 v3 : Int} (hv1 : v1 = 0 ∨ v1 = 1) (hv2 : rng v2) (hv3 : rng v3) (he : 0 ≤ σ.2.1 8 25 ∧ σ.2.1 8 25 ≤ 40) (hr : ∀ j : Nat, (j : Int) < σ.2.1 8 25 → σ.1 107 j = 0 ∨ σ.1 107 j = 1) : CJ G m_MO_note [O 8, I v1, I v2, I v3] σ (fun _ u => u.2 = (chg (sf σ 8 25 (min (σ.2.1 8 25 + 1) 40))).2 ∧ (∀ k, k ≠ 107 → k ≠ 108 → k ≠ 109 → u.1 k = σ.1 k) ∧ (∀ j, j < 40 → u.1 107 j = ntA (σ.1 107) (σ.2.1 8 25) v1 j) ∧ (∀ j, j < 40 → u.1 108 j = ntA (σ.1 108) (σ.2.1 8 25) v2 j) ∧ (∀ j, j < 40 → u.1 109 j = ntA (σ.1 109) (σ.2.1 8 25) v3 j)) := by
  refine CJ.go (fun _ => k_MO_note_0 ⟨fun hne => ⟨by omega, hv1, fun σ5 e5 => ⟨hv2, fun σ9 e9 => ⟨hv3, fun σ13 e13 => ⟨⟨by omega, by omega⟩, fun σ16 e16 => ?_⟩⟩⟩⟩, fun he4 => ?_⟩)
  · refine CJ.mono t_changed (fun _ u _ hu => ⟨?_, fun k h7 h8 h9 => ?_, fun j hj => ?_, fun j hj => ?_, fun j hj => ?_⟩)
    · rw [hu, e16, e13, e9, e5, show min (σ.2.1 8 25 + 1) 40 = σ.2.1 8 25 + 1 by omega]; rfl
    · rw [hu, chg_1, e16, e13, e9, e5, sf_1, sa_ne h9, sa_ne h8, sa_ne h7]
    · rw [hu, chg_1, e16, e13, e9, e5, sf_1, sa_ne (by decide), sa_ne (by decide), sa_1]
      unfold ntA
      by_cases q : j = (σ.2.1 8 25).toNat
      · rw [if_pos ⟨rfl, q⟩, if_pos (by omega)]
      · rw [if_neg (fun z => q z.2), if_neg (by omega), if_neg (by omega)]
    · rw [hu, chg_1, e16, e13, e9, e5, sf_1, sa_ne (by decide), sa_1, sa_ne (by decide)]
      unfold ntA
      by_cases q : j = (σ.2.1 8 25).toNat
      · rw [if_pos ⟨rfl, q⟩, if_pos (by omega)]
      · rw [if_neg (fun z => q z.2), if_neg (by omega), if_neg (by omega)]
    · rw [hu, chg_1, e16, e13, e9, e5, sf_1, sa_1, sa_ne (by decide), sa_ne (by decide)]
      unfold ntA
      by_cases q : j = (σ.2.1 8 25).toNat
      · rw [if_pos ⟨rfl, q⟩, if_pos (by omega)]
      · rw [if_neg (fun z => q z.2), if_neg (by omega), if_neg (by omega)]
  · rw [he4]
    exact l_note (σ := σ) hv1 hv2 hv3 he4 (fun j hj => hr j (by omega)) (fun u a b c d e => ⟨a, b, c, d, e⟩) 39 0 σ (by omega) rfl (fun _ _ _ _ => rfl) (fun k _ j _ => by rw [if_neg (by omega)])
