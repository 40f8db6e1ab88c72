/-! the reference takes the line to hand -/
def HPc (σ : St) (ps : List Pc) (i : Nat) (τ : St) : Prop := ∀ k q, k < i → ps[k]? = some q → τ.1 139 k = q.2.1 ∧ τ.1 140 k = up σ q.1 ∧ τ.1 141 k = plc σ q.1 q.2.1 ∧ τ.1 142 k = q.2.2.1 ∧ τ.1 143 k = q.2.2.2 ∧ τ.1 144 k = ln3 σ q.2.1.toNat ∧ τ.1 145 k = tw σ (ps.take k)
def HMk (ms : List Mk) (i : Nat) (τ : St) : Prop := ∀ k m, k < i → ms[k]? = some m → τ.1 146 k = m.1 ∧ τ.1 147 k = m.2.1 ∧ τ.1 148 k = m.2.2.1.1 ∧ τ.1 149 k = m.2.2.1.2.2.1 ∧ τ.1 150 k = m.2.2.1.2.2.2 ∧ τ.1 151 k = m.2.2.2
def dg (σ : St) (i : Nat) : Bool := decide (ts σ i = 5)
def HMx (σ : St) (ps : List Pc) (ms : List Mk) (f t : Nat) (τ : St) : Prop := τ.2.1 8 69 = ps.length ∧ τ.2.1 8 77 = tw σ ps ∧ τ.2.1 8 78 = tp σ ps ∧ τ.2.1 8 79 = ms.length ∧ τ.2.1 8 86 = hgM (pbl σ 0 ps ++ mbl ms) ∧ τ.2.1 8 87 = dpM (pbl σ 0 ps ++ mbl ms) ∧ τ.2.1 8 88 = f ∧ τ.2.1 8 89 = t ∧ HPc σ ps ps.length τ ∧ HMk ms ms.length τ ∧ SNx (dg σ) f t τ
def FrT (σ τ : St) : Prop := (∀ k, (k < 139 ∨ 152 < k) → τ.1 k = σ.1 k) ∧ (∀ k, k ≠ 8 → τ.2.1 k = σ.2.1 k) ∧ (∀ j, (j < 68 ∨ 89 < j) → τ.2.1 8 j = σ.2.1 8 j) ∧ τ.2.2 = σ.2.2
theorem FrT.refl {σ : St} : FrT σ σ := ⟨fun _ _ => rfl, fun _ _ => rfl, fun _ _ => rfl, rfl⟩
theorem FrT.trans {σ τ υ : St} (h : FrT σ τ) (g : FrT τ υ) : FrT σ υ := ⟨fun k hk => (g.1 k hk).trans (h.1 k hk), fun k hk => (g.2.1 k hk).trans (h.2.1 k hk), fun j hj => (g.2.2.1 j hj).trans (h.2.2.1 j hj), g.2.2.2.trans h.2.2.2⟩
theorem FrT.sa {σ τ : St} (h : FrT σ τ) {k i : Nat} {v : Int} (hk : 139 ≤ k ∧ k ≤ 152) : FrT σ (sa τ k i v) := ⟨fun j hj => by rw [sa_ne (by omega)]; exact h.1 j hj, h.2.1, h.2.2.1, h.2.2.2⟩
theorem FrT.sf {σ τ : St} (h : FrT σ τ) {j : Nat} {v : Int} (hj : 68 ≤ j ∧ j ≤ 89) : FrT σ (sf τ 8 j v) := ⟨h.1, fun k hk => by rw [sf_ne hk]; exact h.2.1 k hk, fun i hi => by rw [sf_nx (by omega)]; exact h.2.2.1 i hi, h.2.2.2⟩
theorem t_toHand {G : GT} {σ τ : St} (hS : IS σ) (hT : IT σ) (hF : FrS σ τ) {ps : List Pc} {f t : Nat} (h : FLx σ ps f t τ) (h80 : ps.length ≤ 80) (hft : f ≤ t) (htn : t < tn σ) : CJ G m_MO_toHand [O 8] τ (fun _ υ => HMx σ ps (MS σ ps) f t υ ∧ υ.2.1 8 68 = 1 ∧ FrT τ υ) := by
  obtain ⟨a1, a2, a3, a4, a5, a6, a7, a8⟩ := h
  have n := hS.1
  unfold NumOk at n
  obtain ⟨t1, t2, t3, -⟩ := id hT
  have tn8 : tn σ ≤ 80 := by unfold tn; omega
  refine CJ.go (fun _ => k_MO_toHand_0 (fun s1 e1 s2 e2 => ?_))
  rw [a1.1] at e2
  have F2 : FrT τ s2 := by rw [e2, e1]; exact (FrT.refl.sf (by omega)).sf (by omega)
  obtain ⟨ms, hms⟩ : ∃ ms, ms = MS σ ps := ⟨_, rfl⟩
  rw [← hms] at a2 a3 a6 a7 a8 ⊢
  have keepS : ∀ υ, FrT τ υ → SMx σ ps υ ∧ RMx ms υ ∧ HDx σ ps ms υ ∧ υ.2.1 8 64 = f ∧ υ.2.1 8 65 = t := fun υ hK => by
    refine ⟨?_, ?_, ?_, by rw [hK.2.2.1 64 (by omega)]; exact a4, by rw [hK.2.2.1 65 (by omega)]; exact a5⟩
    · unfold SMx at a1 ⊢
      rw [hK.2.2.1 44 (by omega), hK.2.2.1 53 (by omega), hK.2.2.1 54 (by omega), hK.1 125 (by omega), hK.1 126 (by omega), hK.1 127 (by omega), hK.1 128 (by omega), hK.1 129 (by omega), hK.1 130 (by omega), hK.1 131 (by omega), hK.1 132 (by omega)]
      exact a1
    · unfold RMx at a2 ⊢
      rw [hK.2.2.1 55 (by omega), hK.1 133 (by omega), hK.1 134 (by omega), hK.1 135 (by omega), hK.1 136 (by omega), hK.1 137 (by omega), hK.1 138 (by omega)]
      exact a2
    · unfold HDx at a3 ⊢
      rw [hK.2.2.1 62 (by omega), hK.2.2.1 63 (by omega)]
      exact a3
  obtain ⟨Q, hQ⟩ : ∃ Q : Int → St → Prop, Q = (fun _ υ => HMx σ ps ms f t υ ∧ υ.2.1 8 68 = 1 ∧ FrT τ υ) := ⟨_, rfl⟩
  rw [← hQ]
  have marks : ∀ (d i : Nat) (υ : St), i + d = ms.length → FrT τ υ → υ.2.1 8 68 = 1 → υ.2.1 8 69 = ps.length → υ.2.1 8 77 = tw σ ps → υ.2.1 8 78 = tp σ ps → υ.2.1 8 79 = ms.length → HPc σ ps ps.length υ → HMk ms i υ → a_MO_toHand_139 G i υ Q := by
    intro d
    induction d with
    | zero =>
      intro i υ hi hK g1 g2 g3 g4 g5 g6 g7
      obtain ⟨k1, k2, k3, k4, k5⟩ := keepS υ hK
      refine k_MO_toHand_139 ?_
      rw [k2.1, k3.1, k3.2, k4, k5]
      refine ⟨⟨by omega, by omega⟩, fun _ => fun s4 e4 s5 e5 s6 e6 s7 e7 => ?_, fun z => absurd z (by omega)⟩
      have F7 : FrT τ s7 := by rw [e7, e6, e5, e4]; exact (((hK.sf (by omega)).sf (by omega)).sf (by omega)).sf (by omega)
      have A7 : s7.1 = υ.1 := by rw [e7, e6, e5, e4]; rfl
      refine CJ.mono (t_see (d := dg σ) (f := f) (t := t) hft (fun i i1 i2 => ?_) (by omega) (by rw [e7, e6, sf_nx (by omega), sf_at]) (by rw [e7, sf_at])) (fun _ υ' _ hυ => ?_)
      · obtain ⟨x1, x2, x3, x4⟩ := t3 i (by unfold tn at htn; omega)
        have x2' : 0 ≤ tx σ i := x2
        have x3' : tx σ i < σ.2.1 8 6 := x3
        have r1 : s7.1 106 i = tx σ i := by rw [A7, hK.1 106 (by omega), hF.1 106 (by omega)]; rfl
        have r2 : s7.1 89 (tx σ i).toNat = ts σ i := by rw [A7, hK.1 89 (by omega), hF.1 89 (by omega)]; rfl
        rw [r1, r2]
        refine ⟨⟨x2', by omega⟩, ?_⟩
        unfold dg
        rw [decide_eq_true_iff]
      · obtain ⟨z1, z2, z3⟩ := hυ
        have zf : ∀ j, j ≠ 86 → j ≠ 87 → j ≠ 88 → j ≠ 89 → υ'.2.1 8 j = υ.2.1 8 j := fun j j1 j2 j3 j4 => by rw [z2, e7, e6, e5, e4, sf_nx (by omega), sf_nx (by omega), sf_nx (by omega), sf_nx (by omega)]
        rw [hQ]
        refine ⟨⟨by rw [zf 69 (by omega) (by omega) (by omega) (by omega)]; exact g2, by rw [zf 77 (by omega) (by omega) (by omega) (by omega)]; exact g3, by rw [zf 78 (by omega) (by omega) (by omega) (by omega)]; exact g4, by rw [zf 79 (by omega) (by omega) (by omega) (by omega)]; exact g5, ?_, ?_, ?_, ?_, ?_, ?_, z1⟩, by rw [zf 68 (by omega) (by omega) (by omega) (by omega)]; exact g1, ?_⟩
        · rw [z2, e7, e6, e5, e4, sf_nx (by omega), sf_nx (by omega), sf_nx (by omega), sf_at]
        · rw [z2, e7, e6, e5, sf_nx (by omega), sf_nx (by omega), sf_at]
        · rw [z2, e7, e6, sf_nx (by omega), sf_at]
        · rw [z2, e7, sf_at]
        · unfold HPc at g6 ⊢
          rw [z3 139 (by omega), z3 140 (by omega), z3 141 (by omega), z3 142 (by omega), z3 143 (by omega), z3 144 (by omega), z3 145 (by omega), A7]
          exact g6
        · rw [show i = ms.length by omega] at g7
          unfold HMk at g7 ⊢
          rw [z3 146 (by omega), z3 147 (by omega), z3 148 (by omega), z3 149 (by omega), z3 150 (by omega), z3 151 (by omega), A7]
          exact g7
        · refine F7.trans ⟨fun k hk => z3 k (by omega), fun k _ => by rw [z2], fun j _ => by rw [z2], by rw [z2]⟩
    | succ d ih =>
      intro i υ hi hK g1 g2 g3 g4 g5 g6 g7
      obtain ⟨k1, k2, k3, k4, k5⟩ := keepS υ hK
      obtain ⟨m, hm⟩ : ∃ m, ms[i]? = some m := ⟨_, List.getElem?_eq_getElem (show i < ms.length by omega)⟩
      obtain ⟨q1, q2, q3, q4, q5, q6⟩ := k2.2 i m hm
      refine k_MO_toHand_139 ?_
      rw [k2.1]
      refine ⟨⟨by omega, by omega⟩, fun z => absurd z (by omega), fun _ => ⟨by omega, fun s4 e4 s5 e5 s6 e6 s7 e7 s8 e8 s9 e9 => ?_⟩⟩
      rw [Int.toNat_natCast i] at e4 e5 e6 e7 e8 e9
      have F9 : FrT τ s9 := by rw [e9, e8, e7, e6, e5, e4]; exact (((((hK.sa (by omega)).sa (by omega)).sa (by omega)).sa (by omega)).sa (by omega)).sa (by omega)
      have P9 : s9.2 = υ.2 := by rw [e9, e8, e7, e6, e5, e4]; rfl
      refine ih (i + 1) s9 (by omega) F9 (by rw [P9]; exact g1) (by rw [P9]; exact g2) (by rw [P9]; exact g3) (by rw [P9]; exact g4) (by rw [P9]; exact g5) ?_ ?_
      · unfold HPc at g6 ⊢
        rw [e9, e8, e7, e6, e5, e4]
        intro k q k1 k2
        have := g6 k q k1 k2
        simpa [sa, up2] using this
      · intro k x hk hx
        by_cases z : k = i
        · subst z
          rw [hm] at hx
          have : m = x := by simpa using hx
          subst this
          rw [e9, e8, e7, e6, e5, e4]
          simp [sa, up2, q1, q2, q3, q4, q5, q6]
        · have := g7 k x (by omega) hx
          rw [e9, e8, e7, e6, e5, e4]
          simpa [sa, up2, z] using this
  have pieces : ∀ (d i : Nat) (υ : St), i + d = ps.length → FrT τ υ → υ.2.1 8 68 = 1 → υ.2.1 8 69 = ps.length → HPc σ ps i υ → a_MO_toHand_15 G i υ Q := by
    intro d
    induction d with
    | zero =>
      intro i υ hi hK g1 g2 g6
      obtain ⟨k1, k2, k3, k4, k5⟩ := keepS υ hK
      refine k_MO_toHand_15 ?_
      rw [k1.1, k1.2.1, k1.2.2.1, k2.1]
      refine ⟨⟨by omega, by omega⟩, fun _ => fun s4 e4 s5 e5 s6 e6 => ?_, fun z => absurd z (by omega)⟩
      have F6 : FrT τ s6 := by rw [e6, e5, e4]; exact ((hK.sf (by omega)).sf (by omega)).sf (by omega)
      have A6 : s6.1 = υ.1 := by rw [e6, e5, e4]; rfl
      refine marks ms.length 0 s6 (by omega) F6 ?_ ?_ ?_ ?_ ?_ ?_ (fun k m hk => absurd hk (by omega))
      · rw [e6, e5, e4, sf_nx (by omega), sf_nx (by omega), sf_nx (by omega)]; exact g1
      · rw [e6, e5, e4, sf_nx (by omega), sf_nx (by omega), sf_nx (by omega)]; exact g2
      · rw [e6, e5, e4, sf_nx (by omega), sf_nx (by omega), sf_at]
      · rw [e6, e5, sf_nx (by omega), sf_at]
      · rw [e6, sf_at]
      · rw [show i = ps.length by omega] at g6
        unfold HPc at g6 ⊢
        rw [A6]
        exact g6
    | succ d ih =>
      intro i υ hi hK g1 g2 g6
      obtain ⟨k1, k2, k3, k4, k5⟩ := keepS υ hK
      obtain ⟨q, hq⟩ : ∃ q, ps[i]? = some q := ⟨_, List.getElem?_eq_getElem (show i < ps.length by omega)⟩
      obtain ⟨q1, q2, q3, q4, q5, q6, q7, -⟩ := k1.2.2.2 i q hq
      refine k_MO_toHand_15 ?_
      rw [k1.1]
      refine ⟨⟨by omega, by omega⟩, fun z => absurd z (by omega), fun _ => ⟨by omega, fun s4 e4 s5 e5 s6 e6 s7 e7 s8 e8 s9 e9 s10 e10 => ?_⟩⟩
      rw [Int.toNat_natCast i] at e4 e5 e6 e7 e8 e9 e10
      have F9 : FrT τ s10 := by rw [e10, e9, e8, e7, e6, e5, e4]; exact ((((((hK.sa (by omega)).sa (by omega)).sa (by omega)).sa (by omega)).sa (by omega)).sa (by omega)).sa (by omega)
      have P9 : s10.2 = υ.2 := by rw [e10, e9, e8, e7, e6, e5, e4]; rfl
      refine ih (i + 1) s10 (by omega) F9 (by rw [P9]; exact g1) (by rw [P9]; exact g2) ?_
      intro k x hk hx
      by_cases z : k = i
      · subst z
        rw [hq] at hx
        have : q = x := by simpa using hx
        subst this
        rw [e10, e9, e8, e7, e6, e5, e4]
        simp [sa, up2, q1, q2, q3, q4, q5, q6, q7]
      · have := g6 k x (by omega) hx
        rw [e10, e9, e8, e7, e6, e5, e4]
        simpa [sa, up2, z] using this
  refine pieces ps.length 0 s2 (by omega) F2 ?_ ?_ (fun k q hk => absurd hk (by omega))
  · rw [e2, e1, sf_nx (by omega), sf_at]
  · rw [e2, sf_at]
