/-! the reference's pieces: what they rest on -/
def bc (σ : St) (u : Nat) : Nat := cnt (bq σ) u
def nB (σ : St) : Nat := bc σ (nU σ)
theorem bq_t {σ : St} {u : Nat} (h : bh σ u ≤ u) : bq σ u = true := by unfold bq; simpa using h
theorem bq_f {σ : St} {u : Nat} (h : ¬ bh σ u ≤ u) : bq σ u = false := by unfold bq; simpa using h
theorem bh_in {σ : St} {u : Nat} (h : bh σ u ≤ u) : ∀ v, u < v → v ≤ u + ln3 σ (lb σ u).toNat → bh σ v = u + ln3 σ (lb σ u).toNat
  | 0, h1, _ => absurd h1 (by omega)
  | v + 1, h1, h2 => by
    have e : bh σ (v + 1) = if bh σ v ≤ v then v + ln3 σ (lb σ v).toNat else bh σ v := rfl
    by_cases q : v = u
    · rw [e, q, if_pos h]
    · have := bh_in h v (by omega) (by omega)
      rw [e, if_neg (by omega), this]
theorem bc_in {σ : St} {u : Nat} (h : bh σ u ≤ u) : ∀ v, u < v → v ≤ u + ln3 σ (lb σ u).toNat → bc σ v = bc σ u + 1
  | 0, h1, _ => absurd h1 (by omega)
  | v + 1, h1, h2 => by
    by_cases q : v = u
    · rw [q]; exact cnt_t (bq_t h)
    · have h3 := bh_in h v (by omega) (by omega)
      have := bc_in h v (by omega) (by omega)
      rw [← this]
      exact cnt_f (bq_f (by omega))
theorem bc_le {σ : St} {u : Nat} : bc σ u ≤ u := cnt_le _ _
theorem bc_mono {σ : St} {u v : Nat} (h : u ≤ v) : bc σ u ≤ bc σ v := cnt_mono h
theorem bc_lt {σ : St} {u v : Nat} (h : bh σ u ≤ u) (h2 : u < v) : bc σ u < bc σ v := cnt_lt (bq_t h) h2
theorem lig_pt {σ : St} (hS : IS σ) {g : Nat} (hg : g < nL σ) (h7 : σ.1 89 g = 7) : (∀ j, j < ln3 σ g → 0 ≤ pt σ g j ∧ pt σ g j < σ.2.1 8 6 ∧ (σ.1 89 (pt σ g j).toNat = 0 ∨ σ.1 89 (pt σ g j).toNat = 1)) ∧ σ.1 89 (pt σ g 0).toNat = 0 := by
  unfold nL at hg
  obtain ⟨i, i1, i2⟩ := hS.2.2.2.2.1 g (by omega) h7
  obtain ⟨g', g1, g2, g3, g4, g5, g6, -, -, x, y, x1, x2, x3, y1, y2, rest⟩ := hS.2.2.2.1 i i1
  have e : g' = g := by omega
  subst e
  have p0 : pt σ g' 0 = x := by unfold pt; rw [if_pos rfl]; exact x1
  have p1 : pt σ g' 1 = y := by unfold pt; rw [if_neg (by decide), if_pos rfl]; exact y1
  have p2 : pt σ g' 2 = σ.1 92 g' := by unfold pt; rw [if_neg (by decide), if_neg (by decide)]
  refine ⟨fun j hj => ?_, by rw [p0, Int.toNat_natCast]; exact x3⟩
  have l3 := (ln3_pos (σ := σ) (g := g')).2
  have hc : j = 0 ∨ j = 1 ∨ j = 2 := by omega
  rcases hc with rfl | rfl | rfl
  · rw [p0, Int.toNat_natCast]; exact ⟨by omega, by omega, Or.inl x3⟩
  · rw [p1, Int.toNat_natCast]
    refine ⟨by omega, by omega, ?_⟩
    rcases rest with ⟨r1, r2, -⟩ | ⟨z, z1, z2, z3, -⟩
    · exact r2
    · exact Or.inl z3
  · rw [p2]
    unfold ln3 at hj
    rw [if_pos h7] at hj
    rcases rest with ⟨r1, r2, -⟩ | ⟨z, z1, z2, z3, z4, -⟩
    · rw [if_pos (by omega)] at hj; omega
    · rw [z1, Int.toNat_natCast]; exact ⟨by omega, by omega, z4⟩
theorem mtb_us {σ : St} (hS : IS σ) {g u : Nat} (hg : g < nL σ) (h7 : σ.1 89 g = 7) (hm : mtb σ g u = true) : (∀ j, j < ln3 σ g → us σ (u + j) = 0 ∨ us σ (u + j) = 1) ∧ us σ u = 0 := by
  obtain ⟨a, b⟩ := (mtb_iff h7).mp hm
  obtain ⟨c, d⟩ := lig_pt hS hg h7
  have l2 := ln3_lig h7
  refine ⟨fun j hj => ?_, ?_⟩
  · rw [us_ul, b j hj]; exact (c j hj).2.2
  · have := b 0 (by omega)
    rw [Nat.add_zero] at this
    rw [us_ul, this]
    exact d
theorem lb_plain {σ : St} (hS : IS σ) (hT : IT σ) {u : Nat} (hu : u < nU σ) (h0 : us σ u ≠ 0) : lb σ u = ul σ u ∧ ln3 σ (lb σ u).toNat = 1 := by
  obtain ⟨a, b, c⟩ := lb_spec hS hT hu
  rcases c with q | ⟨q1, q2, q3⟩
  · exact q
  · exact absurd (mtb_us hS (by unfold nL; omega) q1 q3).2 h0
/-- a piece stays within its word -/
theorem lb_cross {σ : St} (hS : IS σ) (hT : IT σ) {u E : Nat} (hu : u < E) (hE : E ≤ nU σ) (hb : E = nU σ ∨ us σ E = 6) : u + ln3 σ (lb σ u).toNat ≤ E := by
  obtain ⟨a, b, c⟩ := lb_spec hS hT (show u < nU σ by omega)
  rcases c with ⟨q1, q2⟩ | ⟨q1, q2, q3⟩
  · omega
  · rcases hb with r | r
    · omega
    · rcases Nat.lt_or_ge E (u + ln3 σ (lb σ u).toNat) with z | z
      · have := (mtb_us hS (by unfold nL; omega) q1 q3).1 (E - u) (by omega)
        rw [show u + (E - u) = E by omega] at this
        omega
      · exact z
theorem mtb_cross {σ : St} (hS : IS σ) {g u E : Nat} (hg : g < nL σ) (h7 : σ.1 89 g = 7) (hm : mtb σ g u = true) (hu : u < E) (hE : E ≤ nU σ) (hb : E = nU σ ∨ us σ E = 6) : u + ln3 σ g ≤ E := by
  have a := ((mtb_iff h7).mp hm).1
  rcases hb with r | r
  · omega
  · rcases Nat.lt_or_ge E (u + ln3 σ g) with z | z
    · have := (mtb_us hS hg h7 hm).1 (E - u) (by omega)
      rw [show u + (E - u) = E by omega] at this
      omega
    · exact z
theorem t_longest {G : GT} {σ τ : St} (hS : IS σ) (hT : IT σ) (hA : ∀ k, (89 ≤ k ∧ k ≤ 93) ∨ k = 106 → τ.1 k = σ.1 k) (h6 : τ.2.1 8 6 = σ.2.1 8 6) {u0 r k : Nat} (hr : r ≤ 80) (hE : u0 + r ≤ nU σ) (hb : u0 + r = nU σ ∨ us σ (u0 + r) = 6) (hk : k < r) (hrow : ∀ j, j < r → τ.1 123 j = up σ (u0 + j)) : CJ G m_MO_longest [O 8, I k, I r] τ (fun res v => v = τ ∧ res = lmF σ (u0 + k) (nL σ)) := by
  have n := hS.1
  unfold NumOk at n
  have tn8 : tn σ ≤ 80 := by have := hT.2.1; unfold tn; omega
  refine CJ.go (fun _ => k_MO_longest_0 ?_)
  have hrb : ∀ j, j < r → 0 ≤ τ.1 123 j ∧ τ.1 123 j < 80 ∧ τ.1 106 (τ.1 123 j).toNat = ul σ (u0 + j) := fun j hj => by
    have := (up_ex (show u0 + j < nU σ by omega)).1
    rw [hrow j hj, Int.toNat_natCast, hA 106 (by omega)]
    exact ⟨by omega, by omega, rfl⟩
  have loop : ∀ d l : Nat, l + d = nL σ → a_MO_longest_5 G k r (lmF σ (u0 + k) l) l τ (fun res v => v = τ ∧ res = lmF σ (u0 + k) (nL σ)) := by
    intro d
    induction d with
    | zero =>
      intro l hl
      have el : l = nL σ := by omega
      refine k_MO_longest_5 ?_
      rw [h6]
      refine ⟨⟨by unfold nL at *; omega, by unfold nL at *; omega⟩, fun _ => ⟨?_, rfl, by rw [el]⟩, fun z => absurd z (by unfold nL at *; omega)⟩
      rcases lmF_spec (σ := σ) (u := u0 + k) l with q | ⟨x, x1, x2, -⟩
      · rw [q]; exact ⟨by decide, by decide⟩
      · rw [x2]; exact ⟨by omega, by unfold nL at *; omega⟩
    | succ d ih =>
      intro l hl
      have hl60 : l < nL σ := by omega
      have hL : nL σ ≤ 60 := by unfold nL; omega
      have hle : ((nL σ : Nat) : Int) = σ.2.1 8 6 := by unfold nL; omega
      have es : lmF σ (u0 + k) (l + 1) = if σ.1 89 l = 7 ∧ σ.1 93 l = 1 ∧ (lmF σ (u0 + k) l < 0 ∨ ln3 σ (lmF σ (u0 + k) l).toNat < ln3 σ l) ∧ mtb σ l (u0 + k) = true then (l : Int) else lmF σ (u0 + k) l := rfl
      have ihm := ih (l + 1) (by omega)
      refine k_MO_longest_5 ?_
      rw [h6, Int.toNat_natCast, Int.toNat_natCast, show ((k : Int) + 1).toNat = k + 1 by omega, show ((k : Int) + 2).toNat = k + 2 by omega, hA 89 (by omega), hA 90 (by omega), hA 91 (by omega), hA 92 (by omega), hA 93 (by omega)]
      have hmust : σ.1 89 l = 7 → σ.1 93 l = 0 ∨ σ.1 93 l = 1 := fun h7 => by
        obtain ⟨i, i1, i2⟩ := hS.2.2.2.2.1 l (by omega) h7
        obtain ⟨g, g1, g2, g3, g4, g5, g6, g7, g8, -⟩ := hS.2.2.2.1 i i1
        have e : g = l := by omega
        rw [← e]; exact g8
      have hc : σ.1 89 l = 7 → (if 0 ≤ σ.1 92 l then (3 : Int) else 2) = (ln3 σ l : Int) := fun h7 => by
        unfold ln3
        rw [if_pos h7]
        by_cases z : σ.1 92 l < 0
        · rw [if_neg (by omega), if_pos z]; rfl
        · rw [if_pos (by omega), if_neg z]; rfl
      have b3 : rng (if 0 ≤ σ.1 92 l then (3 : Int) else 2) := by split <;> exact ⟨by decide, by decide⟩
      have b3' : ∀ x, rng (if 0 ≤ σ.1 92 x then (3 : Int) else 2) := fun x => by split <;> exact ⟨by decide, by decide⟩
      have bc3 : (if 0 ≤ σ.1 92 l then (3 : Int) else 2) = 2 ∨ (if 0 ≤ σ.1 92 l then (3 : Int) else 2) = 3 := by split <;> simp
      have hv : lmF σ (u0 + k) l = -1 ∨ (0 ≤ lmF σ (u0 + k) l ∧ lmF σ (u0 + k) l < 60 ∧ σ.1 89 (lmF σ (u0 + k) l).toNat = 7) := by
        rcases lmF_spec (σ := σ) (u := u0 + k) l with q | ⟨x, x1, x2, x3, -⟩
        · exact Or.inl q
        · right
          rw [x2, Int.toNat_natCast]
          exact ⟨by omega, by omega, x3⟩
      have rv : rng (lmF σ (u0 + k) l) := by rcases hv with q | q <;> exact ⟨by omega, by omega⟩
      -- the match
      have hiff : σ.1 89 l = 7 → (((k : Int) + (if 0 ≤ σ.1 92 l then (3 : Int) else 2) ≤ r ∧ τ.1 106 ((τ.1 123 k).toNat) = σ.1 90 l) ∧ (τ.1 106 ((τ.1 123 (k + 1)).toNat) = σ.1 91 l ∧ ((if 0 ≤ σ.1 92 l then (3 : Int) else 2) = 2 ∨ τ.1 106 ((τ.1 123 (k + 2)).toNat) = σ.1 92 l)) ↔ mtb σ l (u0 + k) = true) := fun h7 => by
        have e2 := hc h7
        have lg := ln3_lig h7
        constructor
        · rintro ⟨⟨c1, c2⟩, c3, c4⟩
          rw [(hrb k (by omega)).2.2] at c2
          rw [(hrb (k + 1) (by omega)).2.2] at c3
          unfold mtb
          rw [decide_eq_true_iff]
          refine ⟨by omega, c2.symm, by rw [Nat.add_assoc]; exact c3.symm, ?_⟩
          by_cases z : σ.1 92 l < 0
          · exact Or.inl z
          · right
            rw [if_pos (show 0 ≤ σ.1 92 l by omega)] at c1 c4
            rcases c4 with w | w
            · exact absurd w (by decide)
            · rw [(hrb (k + 2) (by omega)).2.2] at w
              rw [Nat.add_assoc]
              exact w.symm
        · intro hm
          have cr := mtb_cross hS hl60 h7 hm (show u0 + k < u0 + r by omega) hE hb
          unfold mtb at hm
          rw [decide_eq_true_iff] at hm
          obtain ⟨m1, m2, m3, m4⟩ := hm
          rw [(hrb k hk).2.2, (hrb (k + 1) (by omega)).2.2, e2]
          refine ⟨⟨by omega, m2.symm⟩, by rw [Nat.add_assoc] at m3; exact m3.symm, ?_⟩
          rcases m4 with w | w
          · left
            rw [← e2, if_neg (by omega)]
          · by_cases z : 0 ≤ σ.1 92 l
            · right
              have : ln3 σ l = 3 := by rw [if_pos z] at e2; omega
              rw [(hrb (k + 2) (by omega)).2.2]
              rw [Nat.add_assoc] at w
              exact w.symm
            · left
              rw [← e2, if_neg z]
      refine ⟨⟨by omega, by omega⟩, fun z => absurd z (by omega), fun _ => ⟨by omega, fun h7 hmu => ⟨rv, fun _ => ⟨b3, ⟨by omega, by omega⟩, ⟨by omega, by omega⟩, fun c1 => ⟨by omega, (hrb k hk).1, (hrb k hk).2.1⟩, fun c1 => ⟨by omega, ⟨(hrb (k + 1) (by omega)).1, (hrb (k + 1) (by omega)).2.1⟩, fun _ c2 => ⟨by omega, (hrb (k + 2) (by omega)).1, (hrb (k + 2) (by omega)).2.1⟩⟩⟩, fun v0 => ⟨b3, by omega, b3' _, fun _ => ⟨⟨by omega, by omega⟩, ⟨by omega, by omega⟩, fun c1 => ⟨by omega, (hrb k hk).1, (hrb k hk).2.1⟩, fun c1 => ⟨by omega, ⟨(hrb (k + 1) (by omega)).1, (hrb (k + 1) (by omega)).2.1⟩, fun _ c2 => ⟨by omega, (hrb (k + 2) (by omega)).1, (hrb (k + 2) (by omega)).2.1⟩⟩⟩⟩⟩, ?_⟩⟩
      rw [show ((l : Int) + 1) = ((l + 1 : Nat) : Int) by omega]
      refine Eq.mp ?_ ihm
      congr 1
      rw [es]
      by_cases h7 : σ.1 89 l = 7
      · rw [if_neg (fun w : σ.1 89 l ≠ 7 => w h7)]
        have e2 := hc h7
        have hi := hiff h7
        rcases hmust h7 with hmu | hmu
        · rw [if_pos hmu, if_neg (fun w => by have := w.2.1; omega)]
        · rw [if_neg (show ¬ σ.1 93 l = 0 by omega)]
          by_cases v0 : lmF σ (u0 + k) l < 0
          · rw [if_pos v0]
            by_cases cm : mtb σ l (u0 + k) = true
            · rw [if_pos ⟨h7, hmu, Or.inl v0, cm⟩, if_neg (fun w => w (hi.mpr cm))]
            · rw [if_neg (fun w => cm w.2.2.2), if_pos (fun w => cm (hi.mp w))]
          · rw [if_neg v0]
            have hv2 : σ.1 89 (lmF σ (u0 + k) l).toNat = 7 := by
              rcases hv with q | q
              · omega
              · exact q.2.2
            have e3 : (if 0 ≤ σ.1 92 (lmF σ (u0 + k) l).toNat then (3 : Int) else 2) = (ln3 σ (lmF σ (u0 + k) l).toNat : Int) := by
              unfold ln3
              rw [if_pos hv2]
              by_cases z : σ.1 92 (lmF σ (u0 + k) l).toNat < 0
              · rw [if_neg (by omega), if_pos z]; rfl
              · rw [if_pos (by omega), if_neg z]; rfl
            by_cases cl : ln3 σ (lmF σ (u0 + k) l).toNat < ln3 σ l
            · rw [if_neg (show ¬ (if 0 ≤ σ.1 92 l then (3 : Int) else 2) ≤ (if 0 ≤ σ.1 92 (lmF σ (u0 + k) l).toNat then (3 : Int) else 2) by omega)]
              by_cases cm : mtb σ l (u0 + k) = true
              · rw [if_pos ⟨h7, hmu, Or.inr cl, cm⟩, if_neg (fun w => w (hi.mpr cm))]
              · rw [if_neg (fun w => cm w.2.2.2), if_pos (fun w => cm (hi.mp w))]
            · rw [if_pos (show (if 0 ≤ σ.1 92 l then (3 : Int) else 2) ≤ (if 0 ≤ σ.1 92 (lmF σ (u0 + k) l).toNat then (3 : Int) else 2) by omega), if_neg (fun w => by rcases w.2.2.1 with q | q <;> omega)]
      · rw [if_pos h7, if_neg (fun w => h7 w.1)]
  exact loop (nL σ) 0 (by omega)
