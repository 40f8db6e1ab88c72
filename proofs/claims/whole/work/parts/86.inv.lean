/-! the bond of the whole -/
def nxU (p : Nat → Bool) : Nat → Nat → Int
  | 0, _ => -6
  | n + 1, x => if p x = true then (x : Int) else nxU p n (x + 1)
def nxD (p : Nat → Bool) : Nat → Int
  | 0 => -6
  | x + 1 => if p x = true then (x : Int) else nxD p x
def pW (σ : St) (E F x : Nat) : Bool := decide (lkR σ F E = false ∧ LL σ E F x 0 < NV)
def pln (σ : St) (W x y : Nat) : Bool := decide (y + 1 = nW σ ∧ plk σ (wfu σ x) (wE σ y - wfu σ x) = true ∧ lkR σ (wfu σ x) (wE σ y) = false ∧ tw σ (pls σ (wfu σ x) (wE σ y - wfu σ x)) ≤ W)
def UB (σ : St) : Prop := (σ.2.1 0 10 = σ.2.1 0 9 → UNx σ σ) ∧ (σ.2.1 8 26 = 1 → CTx σ σ)
def HB1 (σ : St) (L : Nat) (ps : List Pc) (ms : List Mk) (f t : Nat) (τ : St) : Prop := LJ σ L ps τ ∧ MKt (L + 6) ms τ ∧ τ.2.1 L 4 = f ∧ τ.2.1 L 5 = t ∧ f ≤ t ∧ t < tn σ ∧ (∀ q ∈ ps, GPc σ q) ∧ ps.length ≤ 80 ∧ ms.length ≤ 80 ∧ MBd ms ∧ HMx σ ps ms f t τ
def HB (σ : St) : Prop := σ.2.1 0 11 = σ.2.1 0 9 → ∃ ps ms f t, HB1 σ σ.2.2.1 ps ms f t σ
def NB (σ : St) : Prop := σ.2.1 0 12 = σ.2.1 0 9 → ∃ a b w : Nat, a ≤ b ∧ b < nW σ ∧ w ≤ 300 ∧ σ.2.1 8 92 = a ∧ σ.2.1 8 93 = b ∧ σ.2.1 8 94 = w ∧ σ.2.1 0 15 = nxD (pW σ (wE σ b) (wfu σ a)) w ∧ σ.2.1 0 16 = nxU (pW σ (wE σ b) (wfu σ a)) (300 - w) (w + 1)
def LB1 (σ : St) (W : Nat) (ls : List (Nat × Nat)) (τ : St) : Prop := ∀ k p, ls[k]? = some p → p.1 ≤ p.2 ∧ p.2 < nW σ ∧ (pln σ W p.1 p.2 = false → lkR σ (wfu σ p.1) (wE σ p.2) = false ∧ LL σ (wE σ p.2) (wfu σ p.1) W 0 < NV) ∧ τ.1 77 k = p.1 ∧ τ.1 78 k = (p.2 : Int) + 1 - p.1 ∧ τ.1 157 k = p.1 ∧ τ.1 158 k = p.2 ∧ τ.1 159 k = τ.1 79 k ∧ τ.1 160 k = τ.1 80 k ∧ τ.1 161 k = τ.1 81 k ∧ (0 ≤ τ.1 80 k ∧ τ.1 80 k ≤ 60000) ∧ (0 ≤ τ.1 81 k ∧ τ.1 81 k ≤ 60000) ∧ τ.1 162 k = (if pln σ W p.1 p.2 = true then 1 else 0)
def LB (σ : St) : Prop := σ.2.1 0 13 = σ.2.1 0 9 → ∃ (W : Nat) (ls : List (Nat × Nat)), 1 ≤ W ∧ W ≤ 300 ∧ ls.length ≤ 80 ∧ σ.2.1 6 3 = W ∧ σ.2.1 8 108 = W ∧ σ.2.1 6 2 = ls.length ∧ σ.2.1 8 101 = ls.length ∧ LB1 σ W ls σ
def PB (σ : St) : Prop := σ.2.1 0 14 = σ.2.1 0 9 → ∃ n : Nat, n ≤ 80 ∧ σ.2.1 7 1 = n ∧ σ.2.1 8 110 = n ∧ ∀ k, k < n → σ.1 84 k = σ.1 163 k ∧ σ.1 85 k = σ.1 164 k - σ.1 163 k + 1 ∧ σ.1 86 k = σ.1 165 k
def Inv (k : Nat) (σ : St) : Prop := Base σ ∧ Fl k σ ∧ UB σ ∧ HB σ ∧ NB σ ∧ LB σ ∧ PB σ
theorem Inv_good : GoodI Inv := by
  refine ⟨fun k σ h => ⟨h.1, h.2.1⟩, fun k σ h => ⟨h.1, ?_, h.2.2⟩, fun k σ hB hC => ⟨hB, hC.fl, ?_⟩⟩
  · obtain ⟨a, b, c⟩ := h.2.1
    exact ⟨a, by omega, c⟩
  · obtain ⟨a, b, c, d, e, f, g, h1, h2, h3, h4, h5⟩ := hC
    exact ⟨⟨fun z => absurd z (by omega), fun z => absurd z (by omega)⟩, fun z => absurd z (by omega), fun z => absurd z (by omega), fun z => absurd z (by omega), fun z => absurd z (by omega)⟩
theorem Ab_pW {σ τ : St} (h : Ab σ τ) : pW τ = pW σ := by funext E F x; unfold pW; rw [Ab_lkR h, Ab_LL h]
theorem Ab_pln {σ τ : St} (h : Ab σ τ) : pln τ = pln σ := by funext W x y; unfold pln; rw [Ab_nW h, Ab_plk h, Ab_wfu h, Ab_wE h, Ab_lkR h, Ab_tw h, Ab_pls h]
theorem UB_keep {σ τ : St} (h : UB σ) (a : Ab σ τ) (h1 : ∀ k, (61 ≤ k ∧ k ≤ 73) ∨ (110 ≤ k ∧ k ≤ 122) → τ.1 k = σ.1 k) (h4 : τ.2.1 4 = σ.2.1 4) (f1 : τ.2.1 0 9 = σ.2.1 0 9) (f2 : τ.2.1 0 10 = σ.2.1 0 10) (f3 : τ.2.1 8 26 = σ.2.1 8 26) (f4 : τ.2.1 8 27 = σ.2.1 8 27) (f5 : τ.2.1 8 35 = σ.2.1 8 35) : UB τ := by
  refine ⟨fun z => ?_, fun z => ?_⟩
  · exact UNx_ab a (UNx_keep (h.1 (by rw [← f1, ← f2]; exact z)) (fun k k1 k2 => h1 k (by omega)) h4)
  · exact CTx_ab a (CTx_keep (h.2 (by rw [← f3]; exact z)) (fun k k1 k2 => h1 k (by omega)) f4 f5)
theorem HMx_ab {σ τ υ : St} {ps : List Pc} {ms : List Mk} {f t : Nat} (a : Ab σ τ) (h : HMx σ ps ms f t υ) : HMx τ ps ms f t υ := by
  unfold HMx HPc at h ⊢
  rw [Ab_tw a, Ab_tp a, Ab_pbl a, Ab_up a, Ab_plc a, Ab_ln3 a, Ab_dg a]
  exact h
theorem HMx_keep {σ τ υ : St} {ps : List Pc} {ms : List Mk} {f t : Nat} (h1 : ∀ k, 139 ≤ k → k ≤ 152 → υ.1 k = τ.1 k) (h2 : ∀ j, 68 ≤ j → j ≤ 89 → υ.2.1 8 j = τ.2.1 8 j) (h : HMx σ ps ms f t τ) : HMx σ ps ms f t υ := by
  unfold HMx HPc HMk SNx at h ⊢
  rw [h2 69 (by omega) (by omega), h2 77 (by omega) (by omega), h2 78 (by omega) (by omega), h2 79 (by omega) (by omega), h2 86 (by omega) (by omega), h2 87 (by omega) (by omega), h2 88 (by omega) (by omega), h2 89 (by omega) (by omega), h1 139 (by omega) (by omega), h1 140 (by omega) (by omega), h1 141 (by omega) (by omega), h1 142 (by omega) (by omega), h1 143 (by omega) (by omega), h1 144 (by omega) (by omega), h1 145 (by omega) (by omega), h1 146 (by omega) (by omega), h1 147 (by omega) (by omega), h1 148 (by omega) (by omega), h1 149 (by omega) (by omega), h1 150 (by omega) (by omega), h1 151 (by omega) (by omega), h1 152 (by omega) (by omega)]
  exact h
theorem LJ_ab {σ τ υ : St} {ps : List Pc} {L : Nat} (a : Ab σ τ) (h : LJ σ L ps υ) : LJ τ L ps υ := by
  unfold LJ at h ⊢
  rw [Ab_tw a, Ab_tp a, Ab_wdp a, a.1 98 (by omega), a.1 99 (by omega)]
  exact h
theorem HB1_keep {σ τ υ : St} {ps : List Pc} {ms : List Mk} {f t L : Nat} (h : HB1 σ L ps ms f t υ) (a : Ab σ τ) (af : τ.2.1 8 17 = σ.2.1 8 17) {ρ : St} (hL : ∀ k, L ≤ k → k ≤ L + 18 → ρ.1 k = υ.1 k ∧ ρ.2.1 k = υ.2.1 k) (h1 : ∀ k, 139 ≤ k → k ≤ 152 → ρ.1 k = υ.1 k) (h2 : ∀ j, 68 ≤ j → j ≤ 89 → ρ.2.1 8 j = υ.2.1 8 j) : HB1 τ L ps ms f t ρ := by
  obtain ⟨a1, a2, a3, a4, a5, a6, a7, a8, a9, a10, a11⟩ := h
  refine ⟨?_, ?_, by rw [(hL L (by omega) (by omega)).2]; exact a3, by rw [(hL L (by omega) (by omega)).2]; exact a4, a5, by rw [Ab_tn a]; exact a6, by rw [Ab_GPc a af]; exact a7, a8, a9, a10, HMx_ab a (HMx_keep h1 h2 a11)⟩
  · refine LJ_ab a ?_
    unfold LJ at a1 ⊢
    rw [(hL L (by omega) (by omega)).2, (hL (L + 1) (by omega) (by omega)).2, (hL (L + 2) (by omega) (by omega)).1, (hL (L + 3) (by omega) (by omega)).1, (hL (L + 4) (by omega) (by omega)).1, (hL (L + 5) (by omega) (by omega)).1, (hL (L + 15) (by omega) (by omega)).1, (hL (L + 16) (by omega) (by omega)).1, (hL (L + 17) (by omega) (by omega)).1, (hL (L + 18) (by omega) (by omega)).1]
    exact a1
  · unfold MKt BXt at a2 ⊢
    rw [(hL (L + 6 + 1) (by omega) (by omega)).2, (hL (L + 6 + 1 + 1) (by omega) (by omega)).1, (hL (L + 6 + 1 + 2) (by omega) (by omega)).1, (hL (L + 6 + 1 + 3) (by omega) (by omega)).1, (hL (L + 6 + 1 + 4) (by omega) (by omega)).1, (hL (L + 6 + 6) (by omega) (by omega)).1, (hL (L + 6 + 7) (by omega) (by omega)).1, (hL (L + 6 + 8) (by omega) (by omega)).1]
    exact a2
theorem HB_keep {σ τ : St} (h : HB σ) (a : Ab σ τ) (af : τ.2.1 8 17 = σ.2.1 8 17) (hh : τ.2.2.1 = σ.2.2.1) (hL : ∀ k, σ.2.2.1 ≤ k → k ≤ σ.2.2.1 + 18 → τ.1 k = σ.1 k ∧ τ.2.1 k = σ.2.1 k) (h1 : ∀ k, 139 ≤ k → k ≤ 152 → τ.1 k = σ.1 k) (h2 : ∀ j, 68 ≤ j → j ≤ 89 → τ.2.1 8 j = σ.2.1 8 j) (f1 : τ.2.1 0 9 = σ.2.1 0 9) (f2 : τ.2.1 0 11 = σ.2.1 0 11) : HB τ := by
  intro z
  obtain ⟨ps, ms, f, t, b⟩ := h (by rw [← f1, ← f2]; exact z)
  refine ⟨ps, ms, f, t, ?_⟩
  rw [hh]
  exact HB1_keep b a af hL h1 h2
theorem NB_keep {σ τ : St} (h : NB σ) (a : Ab σ τ) (h2 : ∀ j, 92 ≤ j → j ≤ 94 → τ.2.1 8 j = σ.2.1 8 j) (f1 : τ.2.1 0 9 = σ.2.1 0 9) (f2 : τ.2.1 0 12 = σ.2.1 0 12) (f3 : τ.2.1 0 15 = σ.2.1 0 15) (f4 : τ.2.1 0 16 = σ.2.1 0 16) : NB τ := by
  intro z
  obtain ⟨x, y, w, b1, b2, b3, b4, b5, b6, b7, b8⟩ := h (by rw [← f1, ← f2]; exact z)
  refine ⟨x, y, w, b1, by rw [Ab_nW a]; exact b2, b3, by rw [h2 92 (by omega) (by omega)]; exact b4, by rw [h2 93 (by omega) (by omega)]; exact b5, by rw [h2 94 (by omega) (by omega)]; exact b6, ?_, ?_⟩
  · rw [f3, Ab_pW a, Ab_wE a, Ab_wfu a]; exact b7
  · rw [f4, Ab_pW a, Ab_wE a, Ab_wfu a]; exact b8
theorem LB_keep {σ τ : St} (h : LB σ) (a : Ab σ τ) (h1 : ∀ k, (77 ≤ k ∧ k ≤ 81) ∨ (157 ≤ k ∧ k ≤ 162) → τ.1 k = σ.1 k) (g1 : τ.2.1 6 2 = σ.2.1 6 2) (g2 : τ.2.1 6 3 = σ.2.1 6 3) (g3 : τ.2.1 8 101 = σ.2.1 8 101) (g4 : τ.2.1 8 108 = σ.2.1 8 108) (f1 : τ.2.1 0 9 = σ.2.1 0 9) (f2 : τ.2.1 0 13 = σ.2.1 0 13) : LB τ := by
  intro z
  obtain ⟨W, ls, b1, b2, b3, b4, b5, b6, b7, b8⟩ := h (by rw [← f1, ← f2]; exact z)
  refine ⟨W, ls, b1, b2, b3, by rw [g2]; exact b4, by rw [g4]; exact b5, by rw [g1]; exact b6, by rw [g3]; exact b7, ?_⟩
  unfold LB1 at b8 ⊢
  rw [Ab_nW a, Ab_pln a, Ab_lkR a, Ab_wfu a, Ab_wE a, Ab_LL a, h1 77 (by omega), h1 78 (by omega), h1 79 (by omega), h1 80 (by omega), h1 81 (by omega), h1 157 (by omega), h1 158 (by omega), h1 159 (by omega), h1 160 (by omega), h1 161 (by omega), h1 162 (by omega)]
  exact b8
theorem PB_keep {σ τ : St} (h : PB σ) (h1 : ∀ k, (84 ≤ k ∧ k ≤ 86) ∨ (163 ≤ k ∧ k ≤ 165) → τ.1 k = σ.1 k) (g1 : τ.2.1 7 1 = σ.2.1 7 1) (g2 : τ.2.1 8 110 = σ.2.1 8 110) (f1 : τ.2.1 0 9 = σ.2.1 0 9) (f2 : τ.2.1 0 14 = σ.2.1 0 14) : PB τ := by
  intro z
  obtain ⟨n, b1, b2, b3, b4⟩ := h (by rw [← f1, ← f2]; exact z)
  refine ⟨n, b1, by rw [g1]; exact b2, by rw [g2]; exact b3, ?_⟩
  rw [h1 84 (by omega), h1 85 (by omega), h1 86 (by omega), h1 163 (by omega), h1 164 (by omega), h1 165 (by omega)]
  exact b4
theorem Fl_is {k : Nat} {σ : St} (h : Fl k σ) : (σ.2.1 8 68 ≠ 0 ↔ σ.2.1 0 11 = σ.2.1 0 9) ∧ (σ.2.1 8 91 ≠ 0 ↔ σ.2.1 0 12 = σ.2.1 0 9) ∧ (σ.2.1 8 100 ≠ 0 ↔ σ.2.1 0 13 = σ.2.1 0 9) ∧ (σ.2.1 8 109 ≠ 0 ↔ σ.2.1 0 14 = σ.2.1 0 9) := by
  obtain ⟨-, -, -, -, -, -, -, a, b, c, d, -⟩ := h
  have a' : σ.2.1 8 68 = (if σ.2.1 0 11 = σ.2.1 0 9 then 1 else 0) := a
  have b' : σ.2.1 8 91 = (if σ.2.1 0 12 = σ.2.1 0 9 then 1 else 0) := b
  have c' : σ.2.1 8 100 = (if σ.2.1 0 13 = σ.2.1 0 9 then 1 else 0) := c
  have d' : σ.2.1 8 109 = (if σ.2.1 0 14 = σ.2.1 0 9 then 1 else 0) := d
  rw [a', b', c', d']
  refine ⟨?_, ?_, ?_, ?_⟩ <;> (split <;> simp_all)
