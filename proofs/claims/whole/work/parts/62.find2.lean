/-! withPiece, mayBe, findLeast -/
theorem alone_bc {σ : St} (hT : IT σ) {u c : Nat} (h : aln σ u c = true) (hc : u + c ≤ nU σ) : ∀ j, j ≤ c → bc σ (u + j) = bc σ u + j ∧ (j < c → bh σ (u + j) ≤ u + j ∧ lb σ (u + j) = ul σ (u + j) ∧ ln3 σ (lb σ (u + j)).toNat = 1) := by
  have one : ∀ j, j < c → bh σ (u + j) ≤ u + j ∧ lb σ (u + j) = ul σ (u + j) ∧ ln3 σ (lb σ (u + j)).toNat = 1 := fun j hj => by
    obtain ⟨a, b⟩ := (aln_iff c).mp h j hj
    refine ⟨a, b, ?_⟩
    rw [b]
    exact ln3_one (ul_ok hT (by omega)).2.2
  intro j
  induction j with
  | zero => intro _; exact ⟨rfl, fun q => one 0 q⟩
  | succ j ih =>
    intro hj
    obtain ⟨a, b⟩ := ih (by omega)
    obtain ⟨o1, o2, o3⟩ := one j (by omega)
    refine ⟨?_, fun q => one (j + 1) q⟩
    have := bc_in o1 (u + (j + 1)) (by omega) (by omega)
    omega
theorem kl_bc {σ : St} (hS : IS σ) (hT : IT σ) (hC : BSx σ (nU σ) σ) {u : Nat} (hu : u < nU σ) {l : Int} (h : l ∈ kl σ u) : bc σ u < bc σ (u + ln3 σ l.toNat) ∧ bh σ (u + ln3 σ l.toNat) ≤ u + ln3 σ l.toNat ∧ σ.1 122 (bc σ (u + ln3 σ l.toNat) - 1) = (if jn σ (u + ln3 σ l.toNat - 1) = true then 1 else 0) ∧ (l = lb σ u → bc σ (u + ln3 σ l.toNat) = bc σ u + 1) ∧ (∀ g : Nat, l = g → opb σ u g = true → bc σ (u + ln3 σ l.toNat) = bc σ u + ln3 σ g) := by
  obtain ⟨hb, -, hle, hor, -⟩ := kl_mem hS hT hu h
  have lp := (ln3_pos (σ := σ) (g := l.toNat)).1
  have hopt : ∀ g : Nat, l = g → opb σ u g = true → bc σ (u + ln3 σ l.toNat) = bc σ u + ln3 σ g ∧ bh σ (u + ln3 σ l.toNat) ≤ u + ln3 σ l.toNat ∧ σ.1 122 (bc σ (u + ln3 σ l.toNat) - 1) = (if jn σ (u + ln3 σ l.toNat - 1) = true then 1 else 0) := fun g e ho => by
    subst e
    rw [Int.toNat_natCast] at hle lp ⊢
    unfold opb at ho
    simp only [Bool.and_eq_true, decide_eq_true_iff] at ho
    have A := alone_bc hT ho.2.2 hle
    have a1 := (A (ln3 σ g) (Nat.le_refl _)).1
    obtain ⟨b1, b2⟩ := A (ln3 σ g - 1) (by omega)
    obtain ⟨b3, b4, b5⟩ := b2 (by omega)
    have hx := hC (u + (ln3 σ g - 1)) (by omega) b3
    refine ⟨a1, ?_, ?_⟩
    · have := bh_in b3 (u + ln3 σ g) (by omega) (by omega)
      omega
    · rw [a1, show bc σ u + ln3 σ g - 1 = bc σ (u + (ln3 σ g - 1)) by omega, hx.2.2.2.2.2, b5]
      rw [show u + (ln3 σ g - 1) + 1 - 1 = u + ln3 σ g - 1 by omega]
  have hlb : l = lb σ u → bc σ (u + ln3 σ l.toNat) = bc σ u + 1 ∧ bh σ (u + ln3 σ l.toNat) ≤ u + ln3 σ l.toNat ∧ σ.1 122 (bc σ (u + ln3 σ l.toNat) - 1) = (if jn σ (u + ln3 σ l.toNat - 1) = true then 1 else 0) := fun e => by
    subst e
    have a1 := bc_in hb (u + ln3 σ (lb σ u).toNat) (by omega) (Nat.le_refl _)
    have a2 := bh_in hb (u + ln3 σ (lb σ u).toNat) (by omega) (Nat.le_refl _)
    refine ⟨a1, by omega, ?_⟩
    rw [a1, show bc σ u + 1 - 1 = bc σ u by omega]
    exact (hC u hu hb).2.2.2.2.2
  refine ⟨bc_lt hb (by omega), ?_, ?_, fun e => (hlb e).1, fun g e ho => (hopt g e ho).1⟩
  · rcases hor with e | ⟨g, e, -, ho⟩
    · exact (hlb e).2.1
    · exact (hopt g e ho).2.1
  · rcases hor with e | ⟨g, e, -, ho⟩
    · exact (hlb e).2.2
    · exact (hopt g e ho).2.2
theorem place_M {σ τ : St} (hS : IS σ) (hT : IT σ) (hC : BSx σ (nU σ) σ) (h1 : τ.1 121 = σ.1 121) (h2 : τ.1 122 = σ.1 122) {u : Nat} (hu : u < nU σ) {l : Int} (h : l ∈ kl σ u) : p_MO_placeOf τ (bc σ u) ((bc σ (u + ln3 σ l.toNat) : Int) - 1) ∧ f_MO_placeOf τ (bc σ u) ((bc σ (u + ln3 σ l.toNat) : Int) - 1) = plc σ u l := by
  obtain ⟨hb, -, hle, -, -⟩ := kl_mem hS hT hu h
  obtain ⟨k1, k2, k3, -⟩ := kl_bc hS hT hC hu h
  have n8 := nU_le hT
  have m1 := bc_le (σ := σ) (u := u + ln3 σ l.toNat)
  have e : ((bc σ (u + ln3 σ l.toNat) : Int) - 1).toNat = bc σ (u + ln3 σ l.toNat) - 1 := by omega
  have j1 : σ.1 121 (bc σ u) = (if jp σ u = true then 1 else 0) := (hC u hu hb).2.2.2.2.1
  have key : f_MO_placeOf τ (bc σ u) ((bc σ (u + ln3 σ l.toNat) : Int) - 1) = plc σ u l := by
    unfold f_MO_placeOf plc
    rw [e, Int.toNat_natCast, h1, h2, k3, j1]
    cases jp σ u <;> cases jn σ (u + ln3 σ l.toNat - 1) <;> rfl
  refine ⟨⟨by omega, ⟨fun _ => by omega, fun _ => by omega⟩, ?_⟩, key⟩
  have pb := plc_b (σ := σ) (u := u) (l := l)
  unfold f_MO_placeOf at key
  rw [key]
  exact ⟨by omega, by omega⟩
theorem t_withPiece {G : GT} {σ τ : St} (hS : IS σ) (hT : IT σ) (hC : CTx σ σ) (hF : FLs σ τ) {u : Nat} {l : Int} {T : Nat → Nat → Nat → Int} {R : Nat → Nat → Int} (hu : u < nU σ) (hl : l ∈ kl σ u) (hq : RowIs τ (bc σ (u + ln3 σ l.toNat)) (T (u + ln3 σ l.toNat))) (hR : RowIs τ (bc σ u) R) (bT : ∀ w st, 0 ≤ T (u + ln3 σ l.toNat) w st ∧ T (u + ln3 σ l.toNat) w st ≤ NV) : CJ G m_MO_withPiece [O 8, I (bc σ u), I (bc σ (u + ln3 σ l.toNat)), I l] τ (fun _ υ => FLs σ υ ∧ (∀ j, j < 1204 * bc σ u ∨ 1204 * bc σ u + 1204 ≤ j → υ.1 124 j = τ.1 124 j) ∧ RowIs υ (bc σ u) (fun w st => (optF σ u l).foldl (stp σ u T w st) (R w st))) := by
  have n := hS.1
  unfold NumOk at n
  have n8 := nU_le hT
  obtain ⟨hb, hl0, hle, -, -⟩ := kl_mem hS hT hu hl
  obtain ⟨k1, -⟩ := kl_bc hS hT hC.2.2.2.2.2.1 hu hl
  obtain ⟨p1, p2⟩ := place_M (τ := τ) hS hT hC.2.2.2.2.2.1 (hF.2 121 (by decide)) (hF.2 122 (by decide)) hu hl
  have pb := plc_b (σ := σ) (u := u) (l := l)
  have m1 := bc_le (σ := σ) (u := u + ln3 σ l.toNat)
  have ha : 4 * l + plc σ u l = (slt σ u l : Int) := by unfold slt; omega
  have ha4 : ((slt σ u l : Nat) : Int) < 4 * σ.2.1 8 6 := by omega
  obtain ⟨s1, s2, s3⟩ := hS.2.2.2.2.2.2.2.2.2.1 (slt σ u l) ha4
  refine CJ.go (fun _ => k_MO_withPiece_0 ⟨p1, ?_⟩)
  rw [p2, ha]
  obtain ⟨m, hm⟩ : ∃ m : Nat, σ.1 105 (slt σ u l) = m := ⟨(σ.1 105 (slt σ u l)).toNat, by omega⟩
  have hfr : frm σ (slt σ u l) = (List.range' 0 m).map (fun k => (σ.1 104 (3 * slt σ u l + k)).toNat) := by
    unfold frm
    rw [hm, Int.toNat_natCast, List.range_eq_range']
  have outer : ∀ (d k : Nat) (υ : St) (Rk : Nat → Nat → Int), k + d = m → FLs σ υ → (∀ j, j < 1204 * bc σ u ∨ 1204 * bc σ u + 1204 ≤ j → υ.1 124 j = τ.1 124 j) → RowIs υ (bc σ u) Rk → (∀ w st, (((List.range' k d).map (fun k => (σ.1 104 (3 * slt σ u l + k)).toNat)).flatMap (optS σ l)).foldl (stp σ u T w st) (Rk w st) = (optF σ u l).foldl (stp σ u T w st) (R w st)) → a_MO_withPiece_17 G (bc σ u) (bc σ (u + ln3 σ l.toNat)) (slt σ u l) k υ (fun _ υ => FLs σ υ ∧ (∀ j, j < 1204 * bc σ u ∨ 1204 * bc σ u + 1204 ≤ j → υ.1 124 j = τ.1 124 j) ∧ RowIs υ (bc σ u) (fun w st => (optF σ u l).foldl (stp σ u T w st) (R w st))) := by
    intro d
    induction d with
    | zero =>
      intro k υ Rk hk g1 g2 g3 g4
      refine k_MO_withPiece_17 ?_
      rw [Int.toNat_natCast, g1.2 105 (by decide), hm]
      refine ⟨by omega, ⟨by omega, by omega⟩, fun _ => ⟨g1, g2, fun w st hw h4 => ?_⟩, fun z => absurd z (by omega)⟩
      rw [g3 w st hw h4]
      exact g4 w st
    | succ d ih =>
      intro k υ Rk hk g1 g2 g3 g4
      obtain ⟨-, f, f1, f2, f3⟩ := s3 k (by omega)
      obtain ⟨o1, o2⟩ := form_of hS (f := f) (l := l) (p := plc σ u l) f2 (by omega) pb
      obtain ⟨b0, -, -, -, -, -, b6, -⟩ := form_b hS f2
      obtain ⟨M, hM⟩ : ∃ M : Nat, σ.1 102 f = M := ⟨(σ.1 102 f).toNat, by omega⟩
      have e3 : ((3 * ((slt σ u l : Nat) : Int)) + (k : Int)).toNat = 3 * slt σ u l + k := by omega
      refine k_MO_withPiece_17 ?_
      rw [Int.toNat_natCast, g1.2 105 (by decide), hm, e3, g1.2 104 (by decide), f1]
      refine ⟨by omega, ⟨by omega, by omega⟩, fun z => absurd z (by omega), fun _ => ⟨by omega, ?_⟩⟩
      rw [List.range'_succ, List.map_cons, List.flatMap_cons, f1, Int.toNat_natCast] at g4
      have inner : ∀ (e s : Nat) (υ : St) (Rs : Nat → Nat → Int), s + e = M + 1 → FLs σ υ → (∀ j, j < 1204 * bc σ u ∨ 1204 * bc σ u + 1204 ≤ j → υ.1 124 j = τ.1 124 j) → RowIs υ (bc σ u) Rs → (∀ w st, (((List.range' s e).map (fun s => (l, f, s))) ++ ((List.range' (k + 1) d).map (fun k => (σ.1 104 (3 * slt σ u l + k)).toNat)).flatMap (optS σ l)).foldl (stp σ u T w st) (Rs w st) = (optF σ u l).foldl (stp σ u T w st) (R w st)) → a_MO_withPiece_46 G (bc σ u) (bc σ (u + ln3 σ l.toNat)) (slt σ u l) k f s υ (fun _ υ => FLs σ υ ∧ (∀ j, j < 1204 * bc σ u ∨ 1204 * bc σ u + 1204 ≤ j → υ.1 124 j = τ.1 124 j) ∧ RowIs υ (bc σ u) (fun w st => (optF σ u l).foldl (stp σ u T w st) (R w st))) := by
        intro e
        induction e with
        | zero =>
          intro s υ Rs hs g1 g2 g3 g4
          refine k_MO_withPiece_46 ?_
          rw [Int.toNat_natCast, g1.2 102 (by decide), hM]
          refine ⟨by omega, ⟨by omega, by omega⟩, fun _ => ih (k + 1) υ Rs (by omega) g1 g2 g3 (fun w st => ?_), fun z => absurd z (by omega)⟩
          have := g4 w st
          simpa using this
        | succ e ihe =>
          intro s υ Rs hs g1 g2 g3 g4
          refine k_MO_withPiece_46 ?_
          rw [Int.toNat_natCast, g1.2 102 (by decide), hM]
          refine ⟨by omega, ⟨by omega, by omega⟩, fun z => absurd z (by omega), fun _ => ?_⟩
          have hqs : RowIs υ (bc σ (u + ln3 σ l.toNat)) (T (u + ln3 σ l.toNat)) := fun w st hw h4 => by
            rw [g2 _ (by unfold ix; omega)]
            exact hq w st hw h4
          refine CJ.mono (t_withStretch hS hC g1 hu hb n8 k1 (by omega) f2 o1 hl0 (by omega) hqs g3 bT) (fun _ υ' _ hυ => ?_)
          obtain ⟨v1, v2, v3⟩ := hυ
          refine ihe (s + 1) υ' _ (by omega) v1 (fun j hj => by rw [v2 j hj]; exact g2 j hj) v3 (fun w st => ?_)
          have := g4 w st
          rw [List.range'_succ, List.map_cons, List.cons_append, List.foldl_cons] at this
          exact this
      refine inner (M + 1) 0 υ Rk (by omega) g1 g2 g3 (fun w st => ?_)
      have := g4 w st
      unfold optS at this ⊢
      rw [hM, Int.toNat_natCast, List.range_eq_range'] at this
      exact this
  refine outer m 0 τ R (by omega) hF (fun _ _ => rfl) hR (fun w st => ?_)
  unfold optF
  rw [hfr]
theorem t_mayBe {G : GT} {σ τ : St} (hS : IS σ) (hT : IT σ) (hC : BSx σ (nU σ) σ) (hA : ∀ k, k = 117 ∨ k = 118 ∨ (89 ≤ k ∧ k ≤ 93) → τ.1 k = σ.1 k) {u E g : Nat} (hu : u < E) (hE : E ≤ nU σ) (hbE : E = nU σ ∨ us σ E = 6) (hb : bh σ u ≤ u) (hg : g < nL σ) (h7 : σ.1 89 g = 7) : CJ G m_MO_mayBe [O 8, I g, I (bc σ u), I (bc σ E)] τ (fun r v => v = τ ∧ r = if opb σ u g = true then 1 else 0) := by
  have n := hS.1
  unfold NumOk at n
  have n8 := nU_le hT
  have hL : nL σ ≤ 60 := by unfold nL; omega
  have mE := bc_le (σ := σ) (u := E)
  have mu := bc_le (σ := σ) (u := u)
  have hc : (if 0 ≤ σ.1 92 g then (3 : Int) else 2) = (ln3 σ g : Int) := by
    unfold ln3
    rw [if_pos h7]
    by_cases z : σ.1 92 g < 0
    · rw [if_neg (by omega), if_pos z]; rfl
    · rw [if_pos (by omega), if_neg z]; rfl
  have lp := ln3_pos (σ := σ) (g := g)
  have hmust : σ.1 93 g = 0 ∨ σ.1 93 g = 1 := by
    obtain ⟨i, i1, i2⟩ := hS.2.2.2.2.1 g (by unfold nL at hg; omega) h7
    obtain ⟨g', g1, g2, g3, g4, g5, g6, g7, g8, -⟩ := hS.2.2.2.1 i i1
    have e : g' = g := by omega
    rw [← e]; exact g8
  -- the bases one by one
  have walk : ∀ k, k ≤ ln3 σ g → bc σ u + k ≤ bc σ E → (∀ j, j < k → σ.1 117 (bc σ u + j) = 0 ∧ σ.1 118 (bc σ u + j) = pt σ g j) → bc σ (u + k) = bc σ u + k ∧ bh σ (u + k) ≤ u + k ∧ u + k ≤ E ∧ ∀ j, j < k → bh σ (u + j) ≤ u + j ∧ lb σ (u + j) = ul σ (u + j) ∧ ul σ (u + j) = pt σ g j := by
    intro k
    induction k with
    | zero => intro _ _ _; exact ⟨rfl, hb, by omega, fun j hj => absurd hj (by omega)⟩
    | succ k ih =>
      intro hk hkE hj
      obtain ⟨a, b, c, d⟩ := ih (by omega) (by omega) (fun j h => hj j (by omega))
      have hlt : u + k < E := by
        rcases Nat.lt_or_ge (u + k) E with q | q
        · exact q
        · have := bc_mono (σ := σ) q; omega
      obtain ⟨x1, x2, -⟩ := hC (u + k) (by omega) b
      rw [a] at x1 x2
      obtain ⟨y1, y2⟩ := hj k (by omega)
      obtain ⟨l1, l2, l3⟩ := lb_spec hS hT (show u + k < nU σ by omega)
      have hs7 : σ.1 89 (lb σ (u + k)).toNat ≠ 7 := fun q => by
        rw [y1] at x1
        unfold kd at x1
        split at x1
        · exact absurd x1 (by decide)
        · split at x1
          · exact absurd x1 (by decide)
          · first | exact absurd x1 (by decide) | (rw [if_pos q] at x1; exact absurd x1 (by decide))
      have e1 : lb σ (u + k) = ul σ (u + k) ∧ ln3 σ (lb σ (u + k)).toNat = 1 := by
        rcases l3 with q | q
        · exact q
        · exact absurd q.1 hs7
      have b1 := bc_in b (u + (k + 1)) (by omega) (by omega)
      have b2 := bh_in b (u + (k + 1)) (by omega) (by omega)
      refine ⟨by omega, by omega, by omega, fun j h => ?_⟩
      by_cases q : j = k
      · subst q
        exact ⟨b, e1.1, by rw [← e1.1, ← x2]; exact y2⟩
      · exact d j (by omega)
  have hiff : opb σ u g = true ↔ σ.1 93 g = 0 ∧ bc σ u + ln3 σ g ≤ bc σ E ∧ ∀ j, j < ln3 σ g → σ.1 117 (bc σ u + j) = 0 ∧ σ.1 118 (bc σ u + j) = pt σ g j := by
    unfold opb
    simp only [Bool.and_eq_true, decide_eq_true_iff]
    constructor
    · rintro ⟨⟨a1, a2⟩, a3, a4⟩
      have cr := mtb_cross hS hg h7 a3 hu hE hbE
      have A := alone_bc hT a4 (by omega)
      have us1 := (mtb_us hS hg h7 a3).1
      refine ⟨a2, ?_, fun j hj => ?_⟩
      · have := (A (ln3 σ g) (Nat.le_refl _)).1
        have := bc_mono (σ := σ) cr
        omega
      · obtain ⟨x1, x2⟩ := A j (by omega)
        obtain ⟨x3, x4, x5⟩ := x2 hj
        obtain ⟨y1, y2, -⟩ := hC (u + j) (by omega) x3
        rw [x1] at y1 y2
        refine ⟨?_, by rw [y2, x4]; exact ((mtb_iff h7).mp a3).2 j hj⟩
        rw [y1]
        have := us1 j hj
        unfold kd
        rw [if_neg (by omega), if_neg (by omega), if_neg (by rw [x4]; exact (ul_ok hT (by omega)).2.2)]
    · rintro ⟨a1, a2, a3⟩
      obtain ⟨w1, w2, w3, w4⟩ := walk (ln3 σ g) (Nat.le_refl _) a2 a3
      refine ⟨⟨h7, a1⟩, (mtb_iff h7).mpr ⟨by omega, fun j hj => (w4 j hj).2.2⟩, (aln_iff _).mpr (fun j hj => ⟨(w4 j hj).1, (w4 j hj).2.1⟩)⟩
  refine CJ.go (fun _ => k_MO_mayBe_0 ?_)
  rw [Int.toNat_natCast, hA 92 (by omega), hA 89 (by omega), hA 93 (by omega), hc]
  refine ⟨by omega, ⟨by omega, by omega⟩, fun _ _ => ⟨⟨by omega, by omega⟩, ⟨by omega, by omega⟩⟩, ?_⟩
  have loop : ∀ (d k : Nat) (v5 : Int), k + d = ln3 σ g → (v5 = 0 ∨ v5 = 1) → (v5 = 1 → σ.1 93 g = 0 ∧ bc σ u + ln3 σ g ≤ bc σ E ∧ ∀ j, j < k → σ.1 117 (bc σ u + j) = 0 ∧ σ.1 118 (bc σ u + j) = pt σ g j) → (v5 = 0 → opb σ u g ≠ true) → a_MO_mayBe_45 G g (bc σ u) (ln3 σ g) v5 k τ (fun r v => v = τ ∧ r = if opb σ u g = true then 1 else 0) := by
    intro d
    induction d with
    | zero =>
      intro k v5 hk h01 h1 h0
      have ek : k = ln3 σ g := by omega
      refine k_MO_mayBe_45 ⟨⟨by omega, by omega⟩, ⟨by omega, by omega⟩, fun _ => ⟨h01, rfl, ?_⟩, fun z => absurd z (by omega)⟩
      rcases h01 with q | q
      · rw [if_neg (h0 q)]; exact q
      · rw [if_pos (hiff.mpr (by rw [ek] at h1; exact h1 q))]; exact q
    | succ d ih =>
      intro k v5 hk h01 h1 h0
      refine k_MO_mayBe_45 ⟨⟨by omega, by omega⟩, ⟨by omega, by omega⟩, fun z => absurd z (by omega), fun _ => ⟨by rcases h01 with q | q <;> rw [q] <;> exact ⟨by decide, by decide⟩, fun z => ⟨h01, rfl, by rw [if_neg (h0 z)]; exact z⟩, fun z => ?_⟩⟩
      have z1 : v5 = 1 := by omega
      obtain ⟨c1, c2, c3⟩ := h1 z1
      have e : ((bc σ u : Int) + (k : Int)).toNat = bc σ u + k := by omega
      rw [e, Int.toNat_natCast, hA 117 (by omega), hA 118 (by omega), hA 90 (by omega), hA 91 (by omega), hA 92 (by omega)]
      have hpt : (if (k : Int) ≠ 0 then (if (k : Int) ≠ 1 then σ.1 92 g else σ.1 91 g) else σ.1 90 g) = pt σ g k := by
        unfold pt
        by_cases k0 : k = 0
        · rw [if_neg (by omega), if_pos k0]
        · rw [if_pos (by omega), if_neg k0]
          by_cases k1 : k = 1
          · rw [if_neg (by omega), if_pos k1]
          · rw [if_pos (by omega), if_neg k1]
      rw [hpt]
      have hb60 : 0 ≤ (g : Int) ∧ (g : Int) < 60 := by omega
      have hrp : rng (pt σ g k) := by
        have := (lig_pt hS hg h7).1 k (by omega)
        exact ⟨by omega, by omega⟩
      refine ⟨⟨fun _ => ⟨fun _ => hb60, fun _ => hb60⟩, fun _ => hb60⟩, by omega, fun _ => hrp, ?_⟩
      refine ih (k + 1) _ (by omega) b01_or (fun q => ⟨c1, c2, fun j hj => ?_⟩) (fun q w => ?_)
      · by_cases ej : j = k
        · rw [ej]
          by_cases y : σ.1 117 (bc σ u + k) = 0 ∧ σ.1 118 (bc σ u + k) = pt σ g k
          · exact y
          · rw [if_neg y] at q; exact absurd q (by decide)
        · exact c3 j (by omega)
      · have := (hiff.mp w).2.2 k (by omega)
        rw [if_pos this] at q
        exact absurd q (by decide)
  refine loop (ln3 σ g) 0 _ (by omega) b01_or (fun q => ?_) (fun q w => ?_)
  · by_cases y : σ.1 89 g = 7 ∧ (σ.1 93 g = 0 ∧ (bc σ u : Int) + (ln3 σ g : Int) ≤ (bc σ E : Int))
    · exact ⟨y.2.1, by omega, fun j hj => absurd hj (by omega)⟩
    · rw [if_neg y] at q; exact absurd q (by decide)
  · obtain ⟨y1, y2, -⟩ := hiff.mp w
    rw [if_pos ⟨h7, y1, by omega⟩] at q
    exact absurd q (by decide)
