/-! THE PURE PART. Reading through stores; frames -/
theorem CJ.go {G : GT} {mi : MI} {av : List AV} {σ : St} {P : Int → St → Prop} (h : Rg σ → A G mi 0 (largs 0 av) [] σ P) (hy : plainName (yM mi).cls = true := by decide) (hn : Nat.ble ((av.map catA).sum) (nM mi) = true := by rfl) : CJ G mi av σ P := CJ.intro hy (Nat.le_of_ble_eq_true hn) h
theorem sa_1 {σ : St} {k i : Nat} {v : Int} (k' i' : Nat) : (sa σ k i v).1 k' i' = if k' = k ∧ i' = i then v else σ.1 k' i' := rfl
theorem sa_2 {σ : St} {k i : Nat} {v : Int} : (sa σ k i v).2 = σ.2 := rfl
theorem sf_1 {σ : St} {k i : Nat} {v : Int} : (sf σ k i v).1 = σ.1 := rfl
theorem sf_2 {σ : St} {k j : Nat} {v : Int} (k' j' : Nat) : (sf σ k j v).2.1 k' j' = if k' = k ∧ j' = j then v else σ.2.1 k' j' := rfl
theorem sf_3 {σ : St} {k j : Nat} {v : Int} : (sf σ k j v).2.2 = σ.2.2 := rfl
/-- outside the places of W nothing has changed; the lines' places stay -/
def Fr (W : Nat → Prop) (σ τ : St) : Prop := (∀ k, ¬ W k → τ.1 k = σ.1 k ∧ τ.2.1 k = σ.2.1 k) ∧ τ.2.2 = σ.2.2
theorem Fr.refl {W : Nat → Prop} {σ : St} : Fr W σ σ := ⟨fun _ _ => ⟨rfl, rfl⟩, rfl⟩
theorem Fr.trans {W : Nat → Prop} {σ τ υ : St} (h1 : Fr W σ τ) (h2 : Fr W τ υ) : Fr W σ υ :=
  ⟨fun k hk => ⟨(h2.1 k hk).1.trans (h1.1 k hk).1, (h2.1 k hk).2.trans (h1.1 k hk).2⟩, h2.2.trans h1.2⟩
theorem Fr.mono {W V : Nat → Prop} {σ τ : St} (h : Fr W σ τ) (hw : ∀ k, W k → V k) : Fr V σ τ := ⟨fun k hk => h.1 k (fun z => hk (hw k z)), h.2⟩
theorem Fr.sa {W : Nat → Prop} {σ τ : St} {k i : Nat} {v : Int} (h : Fr W σ τ) (hk : W k) : Fr W σ (sa τ k i v) :=
  ⟨fun j hj => ⟨(up2_ne (k := k) (k' := j) (fun e => hj (by rw [e]; exact hk))).trans (h.1 j hj).1, (h.1 j hj).2⟩, h.2⟩
theorem Fr.sf {W : Nat → Prop} {σ τ : St} {k i : Nat} {v : Int} (h : Fr W σ τ) (hk : W k) : Fr W σ (sf τ k i v) :=
  ⟨fun j hj => ⟨(h.1 j hj).1, (up2_ne (k := k) (k' := j) (fun e => hj (by rw [e]; exact hk))).trans (h.1 j hj).2⟩, h.2⟩
/-- the class's places, the reference's places -/
def WJ (k : Nat) : Prop := k < 8 ∨ (9 ≤ k ∧ k < 89) ∨ 168 ≤ k
def WM (k : Nat) : Prop := k = 8 ∨ (89 ≤ k ∧ k < 168)
theorem WJ_WM {k : Nat} (h : WJ k) : ¬ WM k := by unfold WJ at h; unfold WM; omega
theorem WM_WJ {k : Nat} (h : WM k) : ¬ WJ k := by unfold WM at h; unfold WJ; omega
/-! changed() of the reference -/
def chg (σ : St) : St := sf (sf (sf (sf (sf σ 8 68 0) 8 91 0) 8 100 0) 8 109 0) 8 26 0
theorem t_changed {G : GT} {σ : St} : CJ G m_MO_changed [O 8] σ (fun _ u => u = chg σ) := by
  refine CJ.go (fun _ => k_MO_changed_0 ?_)
  intro σ1 e1 σ3 e3 σ5 e5 σ7 e7 σ9 e9
  rw [e9, e7, e5, e3, e1]
  rfl
theorem chg_1 {σ : St} : (chg σ).1 = σ.1 := rfl
theorem chg_2 {σ : St} (j : Nat) (hj : j ≠ 68) (h2 : j ≠ 91) (h3 : j ≠ 100) (h4 : j ≠ 109) (h5 : j ≠ 26) : (chg σ).2.1 8 j = σ.2.1 8 j := by
  unfold chg
  simp only [sf_2]
  rw [if_neg (fun z => h5 z.2), if_neg (fun z => h4 z.2), if_neg (fun z => h3 z.2), if_neg (fun z => h2 z.2), if_neg (fun z => hj z.2)]
/-! claims -/
def RC (σ : St) : Prop := σ.2.1 3 0 = σ.2.1 8 96 ∧ 0 ≤ σ.2.1 3 0 ∧ σ.2.1 3 0 ≤ 260 ∧ ∀ i : Nat, (i : Int) < σ.2.1 3 0 → σ.1 60 i = σ.1 153 i
theorem t_put {G : GT} {σ : St} {v : Int} (hv : rng v) (h : 0 ≤ σ.2.1 3 0 ∧ σ.2.1 3 0 < 260) : CJ G m_CL_put [O 3, I v] σ (fun r u => r = σ.2.1 3 0 + 1 ∧ u = sf (sa σ 60 (σ.2.1 3 0).toNat v) 3 0 (σ.2.1 3 0 + 1)) := by
  refine CJ.go (fun _ => k_CL_put_0 ?_)
  refine ⟨h, hv, fun σ4 e4 => ⟨⟨by omega, by omega⟩, fun σ7 e7 => ⟨rfl, ?_⟩⟩⟩
  rw [e7, e4]
theorem t_JS_claim {G : GT} {σ : St} {v : Int} (hv : rng v) (hc : 0 ≤ σ.2.1 3 0 ∧ σ.2.1 3 0 ≤ 260) : CJ G m_JS_claim [O 0, I v] σ (fun r u => (σ.2.1 3 0 < 260 → r = σ.2.1 3 0 + 1 ∧ u = sf (sa σ 60 (σ.2.1 3 0).toNat v) 3 0 (σ.2.1 3 0 + 1)) ∧ (σ.2.1 3 0 = 260 → r = -4 ∧ u = σ)) := by
  refine CJ.go (fun _ => k_JS_claim_0 ⟨fun h => ?_, fun h => ?_⟩)
  · exact CJ.mono (t_put hv ⟨hc.1, h⟩) (fun r u _ z => ⟨fun _ => z, fun e => absurd e (by omega)⟩)
  · exact ⟨fun e => absurd e (by omega), fun _ => ⟨rfl, rfl⟩⟩
theorem t_MO_claim {G : GT} {σ : St} {v : Int} (hv : rng v) (hc : 0 ≤ σ.2.1 8 96 ∧ σ.2.1 8 96 ≤ 260) : CJ G m_MO_claim [O 8, I v] σ (fun r u => (σ.2.1 8 96 < 260 → r = σ.2.1 8 96 + 1 ∧ u = sf (sa σ 153 (σ.2.1 8 96).toNat v) 8 96 (σ.2.1 8 96 + 1)) ∧ (σ.2.1 8 96 = 260 → r = -4 ∧ u = σ)) := by
  refine CJ.go (fun _ => k_MO_claim_0 ⟨fun h => ?_, fun h => ?_⟩)
  · refine ⟨⟨hc.1, by omega⟩, hv, fun σ5 e5 => ⟨⟨by omega, by omega⟩, fun σ8 e8 => ⟨fun _ => ⟨rfl, ?_⟩, fun e => absurd e (by omega)⟩⟩⟩
    rw [e8, e5]
  · exact ⟨fun e => absurd e (by omega), fun _ => ⟨rfl, rfl⟩⟩
