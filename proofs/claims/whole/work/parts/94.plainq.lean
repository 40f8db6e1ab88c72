/-! plain -/
def CP (τ s : St) (L : Nat) (ps : List Pc) (f t : Nat) : Prop := (∀ k, (46 < k ∧ k < 74) ∨ (76 < k ∧ k < 376) → s.1 k = τ.1 k) ∧ (∀ k, (1 ≤ k ∧ k ≤ 4) ∨ (6 ≤ k ∧ k ≤ 8) → s.2.1 k = τ.2.1 k) ∧ (∀ j, j = 9 ∨ j = 10 ∨ j = 13 ∨ j = 14 → s.2.1 0 j = τ.2.1 0 j) ∧ (s.2.2 = (L, τ.2.2.1)) ∧ (s.2.1 0 11 = τ.2.1 0 9) ∧ (LJ τ L ps s) ∧ (MKt (L + 6) (MS τ ps) s) ∧ (s.2.1 L 4 = f) ∧ (s.2.1 L 5 = t) ∧ (∀ q ∈ ps, GPc τ q) ∧ (ps.length ≤ 80) ∧ (MBd (MS τ ps)) ∧ ((MS τ ps).length ≤ 80) ∧ (f ≤ t) ∧ (t < tn τ)
theorem CP.a {τ s : St} {L : Nat} {ps : List Pc} {f t : Nat} (c : CP τ s L ps f t) : ∀ k, (46 < k ∧ k < 74) ∨ (76 < k ∧ k < 376) → s.1 k = τ.1 k := c.1
theorem CP.o {τ s : St} {L : Nat} {ps : List Pc} {f t : Nat} (c : CP τ s L ps f t) : ∀ k, (1 ≤ k ∧ k ≤ 4) ∨ (6 ≤ k ∧ k ≤ 8) → s.2.1 k = τ.2.1 k := c.2.1
theorem CP.z {τ s : St} {L : Nat} {ps : List Pc} {f t : Nat} (c : CP τ s L ps f t) : ∀ j, j = 9 ∨ j = 10 ∨ j = 13 ∨ j = 14 → s.2.1 0 j = τ.2.1 0 j := c.2.2.1
theorem CP.p {τ s : St} {L : Nat} {ps : List Pc} {f t : Nat} (c : CP τ s L ps f t) : s.2.2 = (L, τ.2.2.1) := c.2.2.2.1
theorem CP.h {τ s : St} {L : Nat} {ps : List Pc} {f t : Nat} (c : CP τ s L ps f t) : s.2.1 0 11 = τ.2.1 0 9 := c.2.2.2.2.1
theorem CP.j {τ s : St} {L : Nat} {ps : List Pc} {f t : Nat} (c : CP τ s L ps f t) : LJ τ L ps s := c.2.2.2.2.2.1
theorem CP.m {τ s : St} {L : Nat} {ps : List Pc} {f t : Nat} (c : CP τ s L ps f t) : MKt (L + 6) (MS τ ps) s := c.2.2.2.2.2.2.1
theorem CP.f4 {τ s : St} {L : Nat} {ps : List Pc} {f t : Nat} (c : CP τ s L ps f t) : s.2.1 L 4 = f := c.2.2.2.2.2.2.2.1
theorem CP.f5 {τ s : St} {L : Nat} {ps : List Pc} {f t : Nat} (c : CP τ s L ps f t) : s.2.1 L 5 = t := c.2.2.2.2.2.2.2.2.1
theorem CP.g {τ s : St} {L : Nat} {ps : List Pc} {f t : Nat} (c : CP τ s L ps f t) : ∀ q ∈ ps, GPc τ q := c.2.2.2.2.2.2.2.2.2.1
theorem CP.l {τ s : St} {L : Nat} {ps : List Pc} {f t : Nat} (c : CP τ s L ps f t) : ps.length ≤ 80 := c.2.2.2.2.2.2.2.2.2.2.1
theorem CP.b {τ s : St} {L : Nat} {ps : List Pc} {f t : Nat} (c : CP τ s L ps f t) : MBd (MS τ ps) := c.2.2.2.2.2.2.2.2.2.2.2.1
theorem CP.n {τ s : St} {L : Nat} {ps : List Pc} {f t : Nat} (c : CP τ s L ps f t) : (MS τ ps).length ≤ 80 := c.2.2.2.2.2.2.2.2.2.2.2.2.1
theorem CP.ft {τ s : St} {L : Nat} {ps : List Pc} {f t : Nat} (c : CP τ s L ps f t) : f ≤ t := c.2.2.2.2.2.2.2.2.2.2.2.2.2.1
theorem CP.tt {τ s : St} {L : Nat} {ps : List Pc} {f t : Nat} (c : CP τ s L ps f t) : t < tn τ := c.2.2.2.2.2.2.2.2.2.2.2.2.2.2
theorem CP.same {τ s : St} {L : Nat} {ps : List Pc} {f t : Nat} (c : CP τ s L ps f t) : Same τ s := by
  have f8 : s.2.1 8 = τ.2.1 8 := c.o 8 (by omega)
  exact ⟨fun k hk => c.a k (by unfold SK at hk; omega), fun j => by rw [c.o 1 (by omega)], fun j => by rw [c.o 2 (by omega)], fun j => by rw [c.o 3 (by omega)], by rw [f8], by rw [f8], by rw [f8], by rw [f8], by rw [f8], by rw [f8]⟩
theorem Same.st {σ τ : St} (hs : Same σ τ) (hS : IS σ) (hT : IT σ) : IS τ ∧ IT τ := by
  obtain ⟨s1, s2, s3, s4, s5, s6, s7, s8, s9, s10⟩ := id hs
  refine ⟨keep_IS hs hS, IT_keep hT (fun k hk => s1 k (by unfold SK; omega)) s3 s8 s9 (fun l hl => ?_)⟩
  unfold LOk at hl ⊢
  rw [s5, s1 89 (by unfold SK; omega)]
  exact hl
theorem CP.mid {k : Nat} {τ s : St} {L : Nat} {ps : List Pc} {f t : Nat} (c : CP τ s L ps f t) (w : Inw k τ) : IS s ∧ IT s ∧ (s.2.1 8 26 = 0 ∨ s.2.1 8 26 = 1) ∧ (s.2.1 8 26 = 1 → CTx s s) := by
  obtain ⟨hS, hT⟩ := c.same.st w.1.1 w.1.2.1
  have f8 : s.2.1 8 = τ.2.1 8 := c.o 8 (by omega)
  refine ⟨hS, hT, by rw [f8]; exact w.2.1.2.1.2.2.2.2, fun z => ?_⟩
  rw [f8] at z
  exact CTx_ab c.same.ab.1 (CTx_keep (w.2.2.1.2 z) (fun k k1 k2 => c.a k (by omega)) (by rw [f8]) (by rw [f8]))
def RP (s ρ : St) : Prop := (∀ k, k < 110 ∨ 152 < k → ρ.1 k = s.1 k) ∧ (∀ k, k ≠ 8 → ρ.2.1 k = s.2.1 k) ∧ (∀ j, j < 26 ∨ 94 < j → ρ.2.1 8 j = s.2.1 8 j) ∧ ρ.2.2 = s.2.2
theorem RP.trans {s ρ υ : St} (h : RP s ρ) (g : RP ρ υ) : RP s υ := ⟨fun k hk => (g.1 k hk).trans (h.1 k hk), fun k hk => (g.2.1 k hk).trans (h.2.1 k hk), fun j hj => (g.2.2.1 j hj).trans (h.2.2.1 j hj), g.2.2.2.trans h.2.2.2⟩
theorem rp_C {s ρ : St} (h : FrC (sf s 8 26 1) ρ) : RP s ρ := ⟨fun k hk => h.1 k (by omega), fun k hk => by rw [h.2.1 k hk, sf_ne hk], fun j hj => by
  have := h.2.2.1 j (show j ≠ 27 by omega) (show j ≠ 35 by omega)
  rw [this, sf_nx (show j ≠ 26 by omega)], h.2.2.2⟩
theorem rp_S {s ρ : St} (h : FrS s ρ) : RP s ρ := ⟨fun k hk => h.1 k (by omega), h.2.1, fun j hj => h.2.2.1 j (by omega), h.2.2.2⟩
theorem rp_T {s ρ : St} (h : FrT s ρ) : RP s ρ := ⟨fun k hk => h.1 k (by omega), h.2.1, fun j hj => h.2.2.1 j (by omega), h.2.2.2⟩
theorem RP.same {s ρ : St} (h : RP s ρ) : Same s ρ := ⟨fun k hk => h.1 k (by unfold SK at hk; omega), fun j => by rw [h.2.1 1 (by omega)], fun j => by rw [h.2.1 2 (by omega)], fun j => by rw [h.2.1 3 (by omega)], h.2.2.1 6 (by omega), h.2.2.1 7 (by omega), h.2.2.1 17 (by omega), h.2.2.1 21 (by omega), h.2.2.1 _ (by decide), h.2.2.1 _ (by decide)⟩
theorem fin_hand {k : Nat} {τ s ρ : St} {L : Nat} {ps : List Pc} {f t : Nat} (w : Inw k τ) (hu : τ.2.1 0 10 = τ.2.1 0 9) (hL : isL L) (hLe : L = τ.2.2.2) (c : CP τ s L ps f t) (r : RP s ρ) (hc : ρ.2.1 8 26 = 1) (hC : CTx ρ ρ) (hi : ρ.2.1 8 68 = 1) (hM : HMx τ ps (MS τ ps) f t ρ) (hn : ρ.2.1 0 12 ≤ ρ.2.1 0 9) (hni : ρ.2.1 8 91 = (if ρ.2.1 0 12 = ρ.2.1 0 9 then 1 else 0)) (hNB : NB ρ) : Inv (k + 1) ρ := by
  have hL2 : L = 9 ∨ L = 28 := hL
  have ab : Ab τ ρ := by
    have a1 := c.same.ab.1
    have a2 := r.same.ab.1
    exact ⟨fun k hk => (a2.1 k hk).trans (a1.1 k hk), a2.2.1.trans a1.2.1, a2.2.2.trans a1.2.2⟩
  have af : ρ.2.1 8 17 = τ.2.1 8 17 := r.same.ab.2.trans c.same.ab.2
  have r0 : ρ.2.1 0 = s.2.1 0 := r.2.1 0 (by omega)
  refine Inv_hand (ps := ps) (ms := MS τ ps) (f := f) (t := t) w hu (fun k hk => ?_) (fun k hk => ?_) (fun j hj => ?_) (fun j hj => ?_) ?_ hc hC ?_ hi hn hni hNB ?_
  · rw [r.1 k (by unfold HT at hk; omega)]
    exact c.a k (by unfold HT at hk; omega)
  · rw [r.2.1 k (by omega)]
    exact c.o k (by omega)
  · rw [r.2.2.1 j hj, c.o 8 (by omega)]
  · rw [r0]
    exact c.z j hj
  · rw [r.2.2.2, c.p, hLe]
  · show ρ.2.1 0 11 = ρ.2.1 0 9
    rw [r0]
    have h11 : s.2.1 0 11 = τ.2.1 0 9 := c.h
    rw [h11, c.z 9 (by omega)]
  · rw [← hLe]
    have hb : HB1 τ L ps (MS τ ps) f t ρ := by
      refine ⟨?_, ?_, ?_, ?_, c.ft, c.tt, c.g, c.l, c.n, c.b, hM⟩
      · have := c.j
        unfold LJ at this ⊢
        rw [r.2.1 L (by omega), r.2.1 (L + 1) (by omega), r.1 (L + 2) (by omega), r.1 (L + 3) (by omega), r.1 (L + 4) (by omega), r.1 (L + 5) (by omega), r.1 (L + 15) (by omega), r.1 (L + 16) (by omega), r.1 (L + 17) (by omega), r.1 (L + 18) (by omega)]
        exact this
      · have := c.m
        unfold MKt BXt at this ⊢
        rw [r.2.1 (L + 6 + 1) (by omega), r.1 (L + 6 + 1 + 1) (by omega), r.1 (L + 6 + 1 + 2) (by omega), r.1 (L + 6 + 1 + 3) (by omega), r.1 (L + 6 + 1 + 4) (by omega), r.1 (L + 6 + 6) (by omega), r.1 (L + 6 + 7) (by omega), r.1 (L + 6 + 8) (by omega)]
        exact this
      · rw [r.2.1 L (by omega)]; exact c.f4
      · rw [r.2.1 L (by omega)]; exact c.f5
    exact HB1_keep hb ab af (fun k _ _ => ⟨rfl, rfl⟩) (fun k _ _ => rfl) (fun j _ _ => rfl)
