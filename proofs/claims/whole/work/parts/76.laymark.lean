/-! one mark of the reference, and the heights -/
def hgM (bl : List Bx) : Int := bl.foldl (fun a x => if a ≤ x.2.2.2 then x.2.2.2 else a) 0
def dpM (bl : List Bx) : Int := bl.foldl (fun a x => if a ≤ -x.2.2.1 then -x.2.2.1 else a) 0
theorem hgM_app {bl : List Bx} {x : Bx} : hgM (bl ++ [x]) = if hgM bl ≤ x.2.2.2 then x.2.2.2 else hgM bl := by
  unfold hgM; rw [List.foldl_append]; rfl
theorem dpM_app {bl : List Bx} {x : Bx} : dpM (bl ++ [x]) = if dpM bl ≤ -x.2.2.1 then -x.2.2.1 else dpM bl := by
  unfold dpM; rw [List.foldl_append]; rfl
theorem hgM_b {bl : List Bx} (h : BB bl) : (0 ≤ hgM bl ∧ hgM bl ≤ 60000) ∧ (0 ≤ dpM bl ∧ dpM bl ≤ 60000) := by
  have : ∀ (bl : List Bx) (a b : Int), BB bl → 0 ≤ a ∧ a ≤ 60000 → 0 ≤ b ∧ b ≤ 60000 → (0 ≤ bl.foldl (fun a x => if a ≤ x.2.2.2 then x.2.2.2 else a) a ∧ bl.foldl (fun a x => if a ≤ x.2.2.2 then x.2.2.2 else a) a ≤ 60000) ∧ (0 ≤ bl.foldl (fun a x => if a ≤ -x.2.2.1 then -x.2.2.1 else a) b ∧ bl.foldl (fun a x => if a ≤ -x.2.2.1 then -x.2.2.1 else a) b ≤ 60000) := by
    intro bl
    induction bl with
    | nil => intro a b _ ha hb; exact ⟨ha, hb⟩
    | cons x bl ih =>
      intro a b h ha hb
      obtain ⟨-, -, h3, h4⟩ := h x (List.mem_cons_self ..)
      rw [List.foldl_cons, List.foldl_cons]
      exact ih _ _ (fun y hy => h y (List.mem_cons_of_mem _ hy)) (by split <;> omega) (by split <;> omega)
  exact this bl 0 0 h (by omega) (by omega)
def KM (τ υ : St) : Prop := (∀ k, (k < 133 ∨ 138 < k) → υ.1 k = τ.1 k) ∧ (∀ k, k ≠ 8 → υ.2.1 k = τ.2.1 k) ∧ (∀ j, j ≠ 55 → j ≠ 62 → j ≠ 63 → υ.2.1 8 j = τ.2.1 8 j) ∧ υ.2.2 = τ.2.2
theorem KM.refl {τ : St} : KM τ τ := ⟨fun _ _ => rfl, fun _ _ => rfl, fun _ _ _ _ => rfl, rfl⟩
theorem KM.trans {σ τ υ : St} (h : KM σ τ) (g : KM τ υ) : KM σ υ := ⟨fun k hk => (g.1 k hk).trans (h.1 k hk), fun k hk => (g.2.1 k hk).trans (h.2.1 k hk), fun j a b c => (g.2.2.1 j a b c).trans (h.2.2.1 j a b c), g.2.2.2.trans h.2.2.2⟩
theorem KM.sa {σ τ : St} (h : KM σ τ) {k i : Nat} {v : Int} (hk : 133 ≤ k ∧ k ≤ 138) : KM σ (sa τ k i v) := ⟨fun j hj => by rw [sa_ne (by omega)]; exact h.1 j hj, h.2.1, h.2.2.1, h.2.2.2⟩
theorem KM.sf {σ τ : St} (h : KM σ τ) {j : Nat} {v : Int} (hj : j = 55 ∨ j = 62 ∨ j = 63) : KM σ (sf τ 8 j v) := ⟨h.1, fun k hk => by rw [sf_ne hk]; exact h.2.1 k hk, fun i a b c => by rw [sf_nx (by omega)]; exact h.2.2.1 i a b c, h.2.2.2⟩
theorem KM.s {σ τ : St} (h : KM σ τ) : FrS σ τ := ⟨fun k hk => h.1 k (by omega), h.2.1, fun j hj => h.2.2.1 j (by omega) (by omega) (by omega), h.2.2.2⟩
theorem KM.sm {σ τ υ : St} {ps : List Pc} (h : KM τ υ) (g : SMx σ ps τ) : SMx σ ps υ := by
  unfold SMx at g ⊢
  rw [h.2.2.1 44 (by omega) (by omega) (by omega), h.2.2.1 53 (by omega) (by omega) (by omega), h.2.2.1 54 (by omega) (by omega) (by omega), h.1 125 (by omega), h.1 126 (by omega), h.1 127 (by omega), h.1 128 (by omega), h.1 129 (by omega), h.1 130 (by omega), h.1 131 (by omega), h.1 132 (by omega)]
  exact g
def HDx (σ : St) (ps : List Pc) (ms : List Mk) (τ : St) : Prop := τ.2.1 8 62 = hgM (pbl σ 0 ps ++ mbl ms) ∧ τ.2.1 8 63 = dpM (pbl σ 0 ps ++ mbl ms)
theorem lay_wd {σ : St} {ps : List Pc} {ms : List Mk} {i k : Nat} (h : MWd σ ms) (hi : i < tn σ) (hf : σ.1 105 (4 * (tx σ i).toNat) ≠ 0) : MWd σ (ms ++ [lay1 σ ps ms i k]) := by
  intro m hm
  rcases List.mem_append.mp hm with y | y
  · exact h m y
  · have : m = lay1 σ ps ms i k := by simpa using y
    rw [this]
    exact ⟨hi, hf, rfl⟩
theorem lay_st {σ τ : St} {ps : List Pc} {ms : List Mk} {m : Mk} {n : Nat} (hn : n = ms.length) (hR : RMx ms τ) (hH : HDx σ ps ms τ) {υ : St} (e : υ = sf (sf (sf (sa (sa (sa (sa (sa (sa τ 133 n m.1) 134 n m.2.1) 135 n m.2.2.1.1) 136 n m.2.2.1.2.2.1) 137 n m.2.2.1.2.2.2) 138 n m.2.2.2) 8 62 (if τ.2.1 8 62 ≤ m.2.2.1.2.2.2 then m.2.2.1.2.2.2 else τ.2.1 8 62)) 8 63 (if τ.2.1 8 63 ≤ -m.2.2.1.2.2.1 then -m.2.2.1.2.2.1 else τ.2.1 8 63)) 8 55 ((n : Int) + 1)) : RMx (ms ++ [m]) υ ∧ HDx σ ps (ms ++ [m]) υ ∧ KM τ υ := by
  have eb : pbl σ 0 ps ++ mbl (ms ++ [m]) = (pbl σ 0 ps ++ mbl ms) ++ [m.2.2.1] := by unfold mbl; simp
  refine ⟨⟨?_, fun k x hx => ?_⟩, ⟨?_, ?_⟩, ?_⟩
  · rw [e]; show (n : Int) + 1 = _; simp; omega
  · rw [e]
    by_cases hk : k < ms.length
    · rw [List.getElem?_append_left hk] at hx
      obtain ⟨z1, z2, z3, z4, z5, z6⟩ := hR.2 k x hx
      have hkn : k ≠ n := by omega
      refine ⟨?_, ?_, ?_, ?_, ?_, ?_⟩
      · rw [← z1]; simp [sa, sf, up2, hkn]
      · rw [← z2]; simp [sa, sf, up2, hkn]
      · rw [← z3]; simp [sa, sf, up2, hkn]
      · rw [← z4]; simp [sa, sf, up2, hkn]
      · rw [← z5]; simp [sa, sf, up2, hkn]
      · rw [← z6]; simp [sa, sf, up2, hkn]
    · rw [List.getElem?_append_right (by omega)] at hx
      have hk0 : k - ms.length = 0 := by
        rcases Nat.eq_zero_or_pos (k - ms.length) with y | y
        · exact y
        · rw [List.getElem?_eq_none (by simp; omega)] at hx; exact absurd hx (by simp)
      rw [hk0] at hx
      have : m = x := by simpa using hx
      subst this
      have hkn : k = n := by omega
      refine ⟨?_, ?_, ?_, ?_, ?_, ?_⟩ <;> simp [sa, sf, up2, hkn]
  · rw [e, eb, hgM_app, ← hH.1]; simp [sa, sf, up2]
  · rw [e, eb, dpM_app, ← hH.2]; simp [sa, sf, up2]
  · rw [e]
    exact (((((((((KM.refl.sa (by omega)).sa (by omega)).sa (by omega)).sa (by omega)).sa (by omega)).sa (by omega)).sf (by omega)).sf (by omega)).sf (by omega))
