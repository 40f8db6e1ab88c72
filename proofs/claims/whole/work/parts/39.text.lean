/-! insert, type, remove, undo -/
theorem sf_c {a b : St} {k j : Nat} {v : Int} (h : a.2 = b.2) : (sf a k j v).2 = (sf b k j v).2 := by
  show (up2 a.2.1 k j v, a.2.2) = (up2 b.2.1 k j v, b.2.2)
  rw [h]
theorem chg_c {a b : St} (h : a.2 = b.2) : (chg a).2 = (chg b).2 := by
  show (up2 (up2 (up2 (up2 (up2 a.2.1 8 68 0) 8 91 0) 8 100 0) 8 109 0) 8 26 0, a.2.2) = (up2 (up2 (up2 (up2 (up2 b.2.1 8 68 0) 8 91 0) 8 100 0) 8 109 0) 8 26 0, b.2.2)
  rw [h]
theorem IS_core {σ τ : St} (h : IS σ) (hA : ∀ k, (47 ≤ k ∧ k ≤ 56) ∨ (89 ≤ k ∧ k ≤ 105) ∨ (168 ≤ k ∧ k < 376) → τ.1 k = σ.1 k) (h1 : ∀ j, τ.2.1 1 j = σ.2.1 1 j) (e1 : τ.2.1 8 6 = σ.2.1 8 6) (e2 : τ.2.1 8 7 = σ.2.1 8 7) (e3 : τ.2.1 8 17 = σ.2.1 8 17) : IS τ := by
  have n := h.1
  unfold NumOk at n
  refine IS_facts h (fun k hk => hA k (by omega)) h1 e1 e2 e3 (fun f hf => ?_) (fun f hf1 hf2 => ?_)
  · have F := h.2.2.2.2.2.2.2.1 f hf
    unfold FormOk at F ⊢
    rw [hA (176 + f) (by omega)]
    simp only [hA 95 (by omega), hA 96 (by omega), hA 97 (by omega), hA 98 (by omega), hA 99 (by omega), hA 100 (by omega), hA 101 (by omega), hA 102 (by omega), hA 103 (by omega), e1]
    exact F
  · rw [hA (176 + f) (by omega)]
    exact h.2.2.2.2.2.2.2.2.1 f hf1 hf2
theorem ri_step {ne e k : Nat} (hne : ne < 40) (he : e < 40) (hk : k < e) : ri (if 39 ≤ ne then 0 else ne + 1) (e + 1) k = ri ne e k ∧ ri ne e k ≠ ne := by
  unfold ri
  split <;> split <;> split <;> omega
theorem ri_last {ne e : Nat} (hne : ne < 40) (he : e ≤ 40) (h0 : 0 < e) : ri (if 39 ≤ ne then 0 else ne + 1) e (e - 1) = ne := by
  unfold ri
  split <;> split <;> omega
theorem ri_full {ne k : Nat} (hne : ne < 40) (hk : k < 39) : ri (if 39 ≤ ne then 0 else ne + 1) 40 k = ri ne 40 (k + 1) ∧ ri ne 40 (k + 1) ≠ ne := by
  unfold ri
  split <;> split <;> split <;> omega
theorem ri_back {ne e k : Nat} (hne : ne < 40) (he : e ≤ 40) (h0 : 0 < e) (hk : k < e - 1) : ri (if ne = 0 then 39 else ne - 1) (e - 1) k = ri ne e k := by
  unfold ri
  split <;> split <;> split <;> omega
theorem ri_top {ne e : Nat} (hne : ne < 40) (he : e ≤ 40) (h0 : 0 < e) : ri ne e (e - 1) = if ne = 0 then 39 else ne - 1 := by
  unfold ri
  split <;> split <;> omega
theorem Ring_push {σ u : St} (h : Ring σ) {rm i l : Int} (hrm : rm = 0 ∨ rm = 1) (u58 : ∀ j, u.1 58 j = if j = (σ.2.1 2 3).toNat then i else σ.1 58 j) (u59 : ∀ j, u.1 59 j = if j = (σ.2.1 2 3).toNat then (if rm = 1 then l else -6) else σ.1 59 j) (u3 : u.2.1 2 3 = if 40 ≤ σ.2.1 2 3 + 1 then 0 else σ.2.1 2 3 + 1) (u1 : u.2.1 2 1 = min (σ.2.1 2 1 + 1) 40) (u25 : u.2.1 8 25 = min (σ.2.1 8 25 + 1) 40) (m107 : ∀ j, j < 40 → u.1 107 j = ntA (σ.1 107) (σ.2.1 8 25) rm j) (m108 : ∀ j, j < 40 → u.1 108 j = ntA (σ.1 108) (σ.2.1 8 25) i j) (m109 : ∀ j, j < 40 → u.1 109 j = ntA (σ.1 109) (σ.2.1 8 25) l j) (hl : ∀ l, LOk σ l → LOk u l)
    (hev : 0 ≤ i ∧ ((rm = 1 ∧ i ≤ u.2.1 8 21 ∧ u.2.1 8 21 < 80 ∧ LOk u l ∧ u.2.1 8 21 + 1 = σ.2.1 8 21) ∨ (rm = 0 ∧ i < u.2.1 8 21 ∧ u.2.1 8 21 - 1 = σ.2.1 8 21))) : Ring u := by
  obtain ⟨ne, e, d1, d2, d3, d4, d5, d6, d7⟩ := h
  rw [d1] at u58 u59 u3
  rw [Int.toNat_natCast] at u58 u59
  rw [d3] at u1
  rw [d5] at u25 m107 m108 m109
  have hne : u.2.1 2 3 = ((if 39 ≤ ne then 0 else ne + 1 : Nat) : Int) := by
    rw [u3]
    by_cases q : 39 ≤ ne
    · rw [if_pos (by omega), if_pos q]; rfl
    · rw [if_neg (by omega), if_neg q]; omega
  have top : ∀ (f : Nat → Int) (v : Int) (E : Nat), E = min e 39 → ntA f e v E = v := fun f v E hE => by unfold ntA; rw [if_pos (by omega)]
  by_cases c : e < 40
  · refine ⟨_, e + 1, hne, by split <;> omega, by omega, by omega, by omega, fun k hk => ?_, ?_⟩
    · by_cases q : k = e
      · have hri := ri_last (ne := ne) (e := e + 1) d2 (by omega) (by omega)
        rw [show e + 1 - 1 = e by omega] at hri
        rw [q, hri, u58, if_pos rfl, u59, if_pos rfl, m107 e c, m108 e c, m109 e c, top _ _ _ (by omega), top _ _ _ (by omega), top _ _ _ (by omega)]
        exact ⟨rfl, rfl⟩
      · obtain ⟨r1, r2⟩ := ri_step (ne := ne) (e := e) (k := k) d2 c (by omega)
        have low : ∀ (f : Nat → Int) (v : Int), ntA f e v k = f k := fun f v => by unfold ntA; rw [if_neg (by omega), if_neg (by omega)]
        rw [r1, u58, if_neg r2, u59, if_neg r2, m107 k (by omega), m108 k (by omega), m109 k (by omega), low, low, low]
        exact d6 k (by omega)
    · have ee : ∀ c', EV (σ.1 108) (σ.1 107) (σ.1 109) (LOk σ) e c' → EV (u.1 108) (u.1 107) (u.1 109) (LOk u) e c' := fun c' z => by
        refine EV.congr e c' (fun k hk => ?_) (EV.mono hl e c' z)
        have low : ∀ (f : Nat → Int) (v : Int), ntA f e v k = f k := fun f v => by unfold ntA; rw [if_neg (by omega), if_neg (by omega)]
        rw [m107 k (by omega), m108 k (by omega), m109 k (by omega), low, low, low]
        exact ⟨rfl, rfl, rfl⟩
      show _ ∧ _
      rw [m107 e c, m108 e c, m109 e c, top _ _ _ (by omega), top _ _ _ (by omega), top _ _ _ (by omega)]
      refine ⟨hev.1, ?_⟩
      rcases hev.2 with ⟨a1, a2, a3, a4, a5⟩ | ⟨a1, a2, a3⟩
      · exact Or.inl ⟨a1, a2, a3, a4, ee _ (by rw [a5]; exact d7)⟩
      · exact Or.inr ⟨a1, a2, ee _ (by rw [a3]; exact d7)⟩
  · have e40 : e = 40 := by omega
    subst e40
    refine ⟨_, 40, hne, by split <;> omega, by omega, by omega, by omega, fun k hk => ?_, ?_⟩
    · by_cases q : k = 39
      · have hri := ri_last (ne := ne) (e := 40) d2 (by omega) (by omega)
        rw [show 40 - 1 = 39 by omega] at hri
        rw [q, hri, u58, if_pos rfl, u59, if_pos rfl, m107 39 (by omega), m108 39 (by omega), m109 39 (by omega), top _ _ _ (by omega), top _ _ _ (by omega), top _ _ _ (by omega)]
        exact ⟨rfl, rfl⟩
      · obtain ⟨r1, r2⟩ := ri_full (ne := ne) (k := k) d2 (by omega)
        have low : ∀ (f : Nat → Int) (v : Int), ntA f (40 : Nat) v k = f (k + 1) := fun f v => by unfold ntA; rw [if_neg (by omega), if_pos (by omega)]
        rw [r1, u58, if_neg r2, u59, if_neg r2, m107 k (by omega), m108 k (by omega), m109 k (by omega), low, low, low]
        exact d6 (k + 1) (by omega)
    · have ee : ∀ c', EV (σ.1 108) (σ.1 107) (σ.1 109) (LOk σ) 40 c' → EV (u.1 108) (u.1 107) (u.1 109) (LOk u) 39 c' := fun c' z => by
        refine EV.congr 39 c' (fun k hk => ?_) (EV.mono hl 39 c' (EV.shift 39 c' z))
        have low : ∀ (f : Nat → Int) (v : Int), ntA f (40 : Nat) v k = f (k + 1) := fun f v => by unfold ntA; rw [if_neg (by omega), if_pos (by omega)]
        rw [m107 k (by omega), m108 k (by omega), m109 k (by omega), low, low, low]
        exact ⟨rfl, rfl, rfl⟩
      show _ ∧ _
      rw [m107 39 (by omega), m108 39 (by omega), m109 39 (by omega), top _ _ _ (by omega), top _ _ _ (by omega), top _ _ _ (by omega)]
      refine ⟨hev.1, ?_⟩
      rcases hev.2 with ⟨a1, a2, a3, a4, a5⟩ | ⟨a1, a2, a3⟩
      · exact Or.inl ⟨a1, a2, a3, a4, ee _ (by rw [a5]; exact d7)⟩
      · exact Or.inr ⟨a1, a2, ee _ (by rw [a3]; exact d7)⟩
theorem ins_pair {Inv : Nat → St → Prop} (hI : GoodI Inv) (G : GT) (k : Nat) (σ : St) (hk : k < 512) (h : Inv k σ) (a b : Int) (ha : rng a) (hb : rng b) : CJ G m_JS_insert [O 0, I a, I b] σ (fun r1 σ1 => σ1.2.1 8 21 = σ.2.1 8 21 ∧ CJ G m_MO_insert [O 8, I a, I b] σ1 (fun r2 σ2 => r1 = r2 ∧ Inv (k + 1) σ2)) := by
  obtain ⟨hB, hF⟩ := hI.1 k σ h
  obtain ⟨hS, hT, hC, hH⟩ := id hB
  have hs := hI.2.1 k σ h
  have n := hS.1
  unfold NumOk at n
  have hf := hF
  unfold Fl at hf
  obtain ⟨t1, t2, t3, t4⟩ := id hT
  obtain ⟨ne, e, d1, d2, d3, d4, d5, d6, d7⟩ := id t4
  by_cases cb : 0 ≤ b ∧ b ≤ σ.2.1 8 6 - 1
  · have L := (hS.2.1 b.toNat (by omega)).1
    refine CJ.go (fun _ => k_JS_insert_0 ⟨hb, fun _ => ⟨by omega, by omega⟩, fun _ => ⟨ha, fun _ => ⟨by omega, by omega⟩, fun c1 => ⟨fun c2 => ⟨by omega, fun c3 => ⟨⟨by omega, by omega⟩, fun σ12 e12 => ?_⟩, fun c3 => ?_⟩, fun c2 => ?_⟩, fun c1 => ?_⟩, fun z => absurd z (by omega)⟩)
    · obtain ⟨N, hN⟩ : ∃ N : Nat, σ.2.1 8 21 = N := ⟨(σ.2.1 8 21).toNat, by omega⟩
      obtain ⟨i, hi⟩ : ∃ i : Nat, a = i := ⟨a.toNat, by omega⟩
      subst hi
      refine CJ.mono (t_putIn (n := N) hb (by rw [e12]; show σ.2.1 2 0 = N; omega) (by omega) (by omega)) (fun _ u15 _ hu => ?_)
      obtain ⟨p1, p2, p3⟩ := hu
      have F15 : u15.2 = (sf (sf σ 0 9 (σ.2.1 0 9 + 1)) 2 0 (N + 1)).2 := by rw [p1, e12]
      have g3 : u15.2.1 2 3 = ne := by rw [F15]; simp [sf_2, d1]
      have g1 : u15.2.1 2 1 = e := by rw [F15]; simp [sf_2, d3]
      refine CJ.mono (t_remember ha ⟨by decide, by decide⟩ (by rw [g3]; omega) (by rw [g1]; omega)) (fun _ u16 _ hu => ?_)
      unfold rmJ at hu
      rw [g3, g1] at hu
      have F16 : u16.2 = (sf (sf (sf (sf σ 0 9 (σ.2.1 0 9 + 1)) 2 0 (N + 1)) 2 3 (if 40 ≤ (ne : Int) + 1 then 0 else ne + 1)) 2 1 (min ((e : Int) + 1) 40)).2 := by
        rw [hu]; exact sf_c (sf_c F15)
      have A16 : ∀ k, k ≠ 57 → k ≠ 58 → k ≠ 59 → u16.1 k = σ.1 k := fun k h1 h2 h3 => by rw [hu, sf_1, sf_1, sa_ne h3, sa_ne h2, p2 k h1, e12]; rfl
      have q6 : u16.2.1 8 6 = σ.2.1 8 6 := by rw [F16]; simp [sf_2]
      have q21 : u16.2.1 8 21 = σ.2.1 8 21 := by rw [F16]; simp [sf_2]
      have q25 : u16.2.1 8 25 = σ.2.1 8 25 := by rw [F16]; simp [sf_2]
      have qr : u16.2.1 2 0 = N + 1 := by rw [F16]; simp [sf_2]
      refine ⟨q21, CJ.go (fun _ => k_MO_insert_0 ?_)⟩
      rw [q6, q21, A16 89 (by decide) (by decide) (by decide)]
      refine ⟨hb, ⟨by omega, by omega⟩, fun _ => ⟨ha, fun _ => ⟨fun _ => ⟨by omega, fun _ => ?_, fun z => absurd z (by omega)⟩, fun z => absurd z (by omega)⟩, fun z => absurd z (by omega)⟩, fun z => absurd z (by omega)⟩
      refine CJ.mono (t_put2 (n := N) hb (by omega) (by omega) (by omega)) (fun _ u10 _ hu10 => ?_)
      obtain ⟨r1, r2, r3⟩ := hu10
      have F10 := r1.trans (sf_c F16)
      have w25 : u10.2.1 8 25 = σ.2.1 8 25 := by rw [F10]; simp [sf_2]
      have A10 : ∀ k, k ≠ 57 → k ≠ 58 → k ≠ 59 → k ≠ 106 → u10.1 k = σ.1 k := fun k h1 h2 h3 h4 => by rw [r2 k h4]; exact A16 k h1 h2 h3
      refine CJ.mono (t_note (Or.inl rfl) ha hb (by omega) (fun j hj => ?_)) (fun _ u11 _ hu11 => ?_)
      · rw [A10 107 (by decide) (by decide) (by decide) (by decide)]
        exact EV.rm e _ d7 j (by omega)
      obtain ⟨s1, s2, s3, s4, s5⟩ := hu11
      rw [w25, d5] at s1 s3 s4 s5
      have F11 := s1.trans (chg_c (sf_c F10))
      have A11 : ∀ k, k ≠ 57 → k ≠ 58 → k ≠ 59 → k ≠ 106 → k ≠ 107 → k ≠ 108 → k ≠ 109 → u11.1 k = σ.1 k := fun k h1 h2 h3 h4 h5 h6 h7 => by rw [s2 k h5 h6 h7]; exact A10 k h1 h2 h3 h4
      rw [A10 107 (by decide) (by decide) (by decide) (by decide)] at s3
      rw [A10 108 (by decide) (by decide) (by decide) (by decide)] at s4
      rw [A10 109 (by decide) (by decide) (by decide) (by decide)] at s5
      have x6 : u11.2.1 8 6 = σ.2.1 8 6 := by rw [F11]; simp [chg, sf_2]
      have x7 : u11.2.1 8 7 = σ.2.1 8 7 := by rw [F11]; simp [chg, sf_2]
      have x17 : u11.2.1 8 17 = σ.2.1 8 17 := by rw [F11]; simp [chg, sf_2]
      have x21 : u11.2.1 8 21 = N + 1 := by rw [F11]; simp [chg, sf_2]
      have x20 : u11.2.1 2 0 = N + 1 := by rw [F11]; simp [chg, sf_2]
      have x57 : ∀ j, u11.1 57 j = insA (σ.1 57) i b N j := fun j => by
        rw [s2 57 (by decide) (by decide) (by decide), r2 57 (by decide), hu, sf_1, sf_1, sa_ne (by decide), sa_ne (by decide), p3, e12]; rfl
      have x106 : ∀ j, u11.1 106 j = insA (σ.1 106) i b N j := fun j => by
        rw [s2 106 (by decide) (by decide) (by decide), r3, A16 106 (by decide) (by decide) (by decide)]
      have hl : ∀ l, LOk σ l → LOk u11 l := LOk_keep (A11 89 (by decide) (by decide) (by decide) (by decide) (by decide) (by decide) (by decide)) x6
      have hbo : LOk σ b := ⟨by omega, by omega, by omega⟩
      refine ⟨by rw [qr, x21], ?_⟩
      refine hI.2.2 _ _ ⟨IS_core hS (fun k hk => A11 k (by omega) (by omega) (by omega) (by omega) (by omega) (by omega) (by omega)) (fun j => by rw [F11]; simp [chg, sf_2]) x6 x7 x17, ⟨by omega, by omega, fun j hj => ?_, ?_⟩, RC_keep hC (A11 60 (by decide) (by decide) (by decide) (by decide) (by decide) (by decide) (by decide)) (A11 _ (by decide) (by decide) (by decide) (by decide) (by decide) (by decide) (by decide)) (by rw [F11]; simp [chg, sf_2]) (by rw [F11]; simp [chg, sf_2]), by unfold HS; rw [F11]; exact hH⟩ (Cl.step hF (by rw [F11]; simp [chg, sf_2]) (fun j h1 _ => by rw [F11]; simp [chg, sf_2]; omega) (by rw [F11]; simp [chg, sf_2]) (by rw [F11]; simp [chg, sf_2]) (by rw [F11]; simp [chg, sf_2]) (by rw [F11]; simp [chg, sf_2]) (by rw [F11]; simp [chg, sf_2]))
      · unfold TxOk
        rw [x57, x106]
        unfold insA
        by_cases q : j = i
        · rw [if_pos q, if_pos q]
          exact ⟨rfl, hl _ hbo⟩
        · rw [if_neg q, if_neg q]
          by_cases q2 : i < j ∧ j ≤ N
          · rw [if_pos q2, if_pos q2]
            obtain ⟨z1, z2⟩ := t3 (j - 1) (by omega)
            exact ⟨z1, hl _ z2⟩
          · rw [if_neg q2, if_neg q2]
            obtain ⟨z1, z2⟩ := t3 j (by omega)
            exact ⟨z1, hl _ z2⟩
      · refine Ring_push (rm := 0) (i := i) (l := b) t4 (Or.inl rfl) (fun j => ?_) (fun j => ?_) ?_ ?_ ?_ (by rw [d5]; exact s3) (by rw [d5]; exact s4) (by rw [d5]; exact s5) hl ⟨by omega, Or.inr ⟨rfl, by omega, by omega⟩⟩
        · rw [s2 58 (by decide) (by decide) (by decide), r2 58 (by decide), hu, sf_1, sf_1, sa_ne (by decide), sa_1, p2 58 (by decide), e12, d1]
          by_cases q : j = ((ne : Int)).toNat
          · rw [if_pos ⟨rfl, q⟩, if_pos q]
          · rw [if_neg (fun z => q z.2), if_neg q]; rfl
        · rw [s2 59 (by decide) (by decide) (by decide), r2 59 (by decide), hu, sf_1, sf_1, sa_1, sa_ne (by decide), p2 59 (by decide), e12, d1]
          by_cases q : j = ((ne : Int)).toNat
          · rw [if_pos ⟨rfl, q⟩, if_pos q, if_neg (by decide)]
          · rw [if_neg (fun z => q z.2), if_neg q]; rfl
        · rw [F11, d1]; simp [chg, sf_2]
        · rw [F11, d3]; simp [chg, sf_2]
        · rw [F11, d5]; simp [chg, sf_2]
    · refine ⟨rfl, CJ.go (fun _ => k_MO_insert_0 ⟨hb, ⟨by omega, by omega⟩, fun _ => ⟨ha, fun _ => ⟨fun _ => ⟨by omega, fun z => absurd z (by omega), fun _ => ⟨rfl, hs⟩⟩, fun z => absurd z (by omega)⟩, fun z => absurd z (by omega)⟩, fun z => absurd z (by omega)⟩)⟩
    · refine ⟨rfl, CJ.go (fun _ => k_MO_insert_0 ⟨hb, ⟨by omega, by omega⟩, fun _ => ⟨ha, fun _ => ⟨fun z => absurd z (by omega), fun _ => ⟨rfl, hs⟩⟩, fun z => absurd z (by omega)⟩, fun z => absurd z (by omega)⟩)⟩
    · refine ⟨rfl, CJ.go (fun _ => k_MO_insert_0 ⟨hb, ⟨by omega, by omega⟩, fun _ => ⟨ha, fun z => absurd z (by omega), fun _ => ⟨rfl, hs⟩⟩, fun z => absurd z (by omega)⟩)⟩
  · refine CJ.go (fun _ => k_JS_insert_0 ⟨hb, fun _ => ⟨by omega, by omega⟩, fun z => absurd z (by omega), fun _ => ?_⟩)
    refine ⟨rfl, CJ.go (fun _ => k_MO_insert_0 ⟨hb, ⟨by omega, by omega⟩, fun z => absurd z (by omega), fun _ => ⟨rfl, hs⟩⟩)⟩
theorem so_insert {Inv : Nat → St → Prop} (hI : GoodI Inv) (G : GT) : SO_insert G Inv := fun k σ hk h a b ha hb => CJ.mono (ins_pair hI G k σ hk h a b ha hb) (fun _ _ _ z => z.2)
theorem so_type {Inv : Nat → St → Prop} (hI : GoodI Inv) (G : GT) : SO_type G Inv := by
  intro k σ hk h b hb
  obtain ⟨⟨hS, hT, hC, hH⟩, hF⟩ := hI.1 k σ h
  obtain ⟨t1, t2, t3, t4⟩ := id hT
  refine CJ.go (fun R => k_JS_type_0 ?_)
  refine CJ.mono (ins_pair hI G k σ hk h (σ.2.1 2 0) b (R.2 _ _) hb) (fun r u _ z => ?_)
  refine CJ.go (fun _ => k_MO_type_0 ?_)
  rw [z.1, ← t1]
  exact z.2
theorem so_remove {Inv : Nat → St → Prop} (hI : GoodI Inv) (G : GT) : SO_remove G Inv := by
  intro k σ hk h a ha
  obtain ⟨hB, hF⟩ := hI.1 k σ h
  obtain ⟨hS, hT, hC, hH⟩ := id hB
  have hs := hI.2.1 k σ h
  have n := hS.1
  unfold NumOk at n
  have hf := hF
  unfold Fl at hf
  obtain ⟨t1, t2, t3, t4⟩ := id hT
  obtain ⟨ne, e, d1, d2, d3, d4, d5, d6, d7⟩ := id t4
  refine CJ.go (fun R => k_JS_remove_0 ⟨ha, fun _ => ⟨by omega, by omega⟩, fun c1 => ⟨⟨by omega, by omega⟩, fun σ5 e5 => ?_⟩, fun c1 => ?_⟩)
  · obtain ⟨N, hN⟩ : ∃ N : Nat, σ.2.1 8 21 = N := ⟨(σ.2.1 8 21).toNat, by omega⟩
    obtain ⟨i, hi⟩ : ∃ i : Nat, a = i := ⟨a.toNat, by omega⟩
    subst hi
    obtain ⟨X1, X2⟩ := t3 i (by omega)
    refine CJ.mono (t_takeOut (n := N) (by rw [e5]; show σ.2.1 2 0 = N; omega) (by omega) (by omega)) (fun r9 u8 _ hu => ?_)
    obtain ⟨p0, p1, p2, p3⟩ := hu
    have p0' : r9 = σ.1 106 i := by rw [p0, e5]; exact X1
    have hr9 : rng r9 := by rw [p0']; exact R.1 _ _
    have F15 : u8.2 = (sf (sf σ 0 9 (σ.2.1 0 9 + 1)) 2 0 (N - 1)).2 := by rw [p1, e5]
    have g3 : u8.2.1 2 3 = ne := by rw [F15]; simp [sf_2, d1]
    have g1 : u8.2.1 2 1 = e := by rw [F15]; simp [sf_2, d3]
    refine CJ.mono (t_remember ha hr9 (by rw [g3]; omega) (by rw [g1]; omega)) (fun _ u16 _ hu => ?_)
    unfold rmJ at hu
    rw [g3, g1] at hu
    have F16 : u16.2 = (sf (sf (sf (sf σ 0 9 (σ.2.1 0 9 + 1)) 2 0 (N - 1)) 2 3 (if 40 ≤ (ne : Int) + 1 then 0 else ne + 1)) 2 1 (min ((e : Int) + 1) 40)).2 := by
      rw [hu]; exact sf_c (sf_c F15)
    have A16 : ∀ k, k ≠ 57 → k ≠ 58 → k ≠ 59 → u16.1 k = σ.1 k := fun k h1 h2 h3 => by rw [hu, sf_1, sf_1, sa_ne h3, sa_ne h2, p2 k h1, e5]; rfl
    have q21 : u16.2.1 8 21 = σ.2.1 8 21 := by rw [F16]; simp [sf_2]
    refine CJ.go (fun _ => k_MO_remove_0 ?_)
    rw [q21]
    refine ⟨ha, ⟨by omega, by omega⟩, fun _ => ?_, fun z => absurd z (by omega)⟩
    refine CJ.mono (t_takeOut2 (n := N) (by omega) (by omega) (by omega)) (fun r6 u10 _ hu10 => ?_)
    obtain ⟨r0, r1, r2, r3⟩ := hu10
    have r0' : r6 = σ.1 106 i := by rw [r0, A16 106 (by decide) (by decide) (by decide)]
    have hr6 : rng r6 := by rw [r0']; exact R.1 _ _
    have F10 := r1.trans (sf_c F16)
    have w25 : u10.2.1 8 25 = σ.2.1 8 25 := by rw [F10]; simp [sf_2]
    have A10 : ∀ k, k ≠ 57 → k ≠ 58 → k ≠ 59 → k ≠ 106 → u10.1 k = σ.1 k := fun k h1 h2 h3 h4 => by rw [r2 k h4]; exact A16 k h1 h2 h3
    refine CJ.mono (t_note (Or.inr rfl) ha hr6 (by omega) (fun j hj => ?_)) (fun _ u11 _ hu11 => ?_)
    · rw [A10 107 (by decide) (by decide) (by decide) (by decide)]
      exact EV.rm e _ d7 j (by omega)
    obtain ⟨s1, s2, s3, s4, s5⟩ := hu11
    rw [w25, d5] at s1 s3 s4 s5
    have F11 := s1.trans (chg_c (sf_c F10))
    have A11 : ∀ k, k ≠ 57 → k ≠ 58 → k ≠ 59 → k ≠ 106 → k ≠ 107 → k ≠ 108 → k ≠ 109 → u11.1 k = σ.1 k := fun k h1 h2 h3 h4 h5 h6 h7 => by rw [s2 k h5 h6 h7]; exact A10 k h1 h2 h3 h4
    rw [A10 107 (by decide) (by decide) (by decide) (by decide)] at s3
    rw [A10 108 (by decide) (by decide) (by decide) (by decide)] at s4
    rw [A10 109 (by decide) (by decide) (by decide) (by decide)] at s5
    have x6 : u11.2.1 8 6 = σ.2.1 8 6 := by rw [F11]; simp [chg, sf_2]
    have x7 : u11.2.1 8 7 = σ.2.1 8 7 := by rw [F11]; simp [chg, sf_2]
    have x17 : u11.2.1 8 17 = σ.2.1 8 17 := by rw [F11]; simp [chg, sf_2]
    have x21 : u11.2.1 8 21 = N - 1 := by rw [F11]; simp [chg, sf_2]
    have x20 : u11.2.1 2 0 = N - 1 := by rw [F11]; simp [chg, sf_2]
    have x57 : ∀ j, u11.1 57 j = remA (σ.1 57) i N j := fun j => by
      rw [s2 57 (by decide) (by decide) (by decide), r2 57 (by decide), hu, sf_1, sf_1, sa_ne (by decide), sa_ne (by decide), p3, e5]; rfl
    have x106 : ∀ j, u11.1 106 j = remA (σ.1 106) i N j := fun j => by
      rw [s2 106 (by decide) (by decide) (by decide), r3, A16 106 (by decide) (by decide) (by decide)]
    have hl : ∀ l, LOk σ l → LOk u11 l := LOk_keep (A11 89 (by decide) (by decide) (by decide) (by decide) (by decide) (by decide) (by decide)) x6
    refine ⟨by rw [p0', r0'], ?_⟩
    refine hI.2.2 _ _ ⟨IS_core hS (fun k hk => A11 k (by omega) (by omega) (by omega) (by omega) (by omega) (by omega) (by omega)) (fun j => by rw [F11]; simp [chg, sf_2]) x6 x7 x17, ⟨by omega, by omega, fun j hj => ?_, ?_⟩, RC_keep hC (A11 60 (by decide) (by decide) (by decide) (by decide) (by decide) (by decide) (by decide)) (A11 _ (by decide) (by decide) (by decide) (by decide) (by decide) (by decide) (by decide)) (by rw [F11]; simp [chg, sf_2]) (by rw [F11]; simp [chg, sf_2]), by unfold HS; rw [F11]; exact hH⟩ (Cl.step hF (by rw [F11]; simp [chg, sf_2]) (fun j h1 _ => by rw [F11]; simp [chg, sf_2]; omega) (by rw [F11]; simp [chg, sf_2]) (by rw [F11]; simp [chg, sf_2]) (by rw [F11]; simp [chg, sf_2]) (by rw [F11]; simp [chg, sf_2]) (by rw [F11]; simp [chg, sf_2]))
    · unfold TxOk
      rw [x57, x106]
      unfold remA
      by_cases q2 : i ≤ j ∧ j + 1 < N
      · rw [if_pos q2, if_pos q2]
        obtain ⟨z1, z2⟩ := t3 (j + 1) (by omega)
        exact ⟨z1, hl _ z2⟩
      · rw [if_neg q2, if_neg q2]
        obtain ⟨z1, z2⟩ := t3 j (by omega)
        exact ⟨z1, hl _ z2⟩
    · refine Ring_push (rm := 1) (i := i) (l := r6) t4 (Or.inr rfl) (fun j => ?_) (fun j => ?_) ?_ ?_ ?_ (by rw [d5]; exact s3) (by rw [d5]; exact s4) (by rw [d5]; exact s5) hl ⟨by omega, Or.inl ⟨rfl, by omega, by omega, by rw [r0']; exact hl _ X2, by omega⟩⟩
      · rw [s2 58 (by decide) (by decide) (by decide), r2 58 (by decide), hu, sf_1, sf_1, sa_ne (by decide), sa_1, p2 58 (by decide), e5, d1]
        by_cases q : j = ((ne : Int)).toNat
        · rw [if_pos ⟨rfl, q⟩, if_pos q]
        · rw [if_neg (fun z => q z.2), if_neg q]; rfl
      · rw [s2 59 (by decide) (by decide) (by decide), r2 59 (by decide), hu, sf_1, sf_1, sa_1, sa_ne (by decide), p2 59 (by decide), e5, d1]
        by_cases q : j = ((ne : Int)).toNat
        · rw [if_pos ⟨rfl, q⟩, if_pos q, if_pos rfl, p0', r0']
        · rw [if_neg (fun z => q z.2), if_neg q]; rfl
      · rw [F11, d1]; simp [chg, sf_2]
      · rw [F11, d3]; simp [chg, sf_2]
      · rw [F11, d5]; simp [chg, sf_2]
  · exact CJ.go (fun _ => k_MO_remove_0 ⟨ha, ⟨by omega, by omega⟩, fun z => absurd z (by omega), fun _ => ⟨rfl, hs⟩⟩)
