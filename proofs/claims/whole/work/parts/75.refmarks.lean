/-! the reference lays its marks -/
theorem any_take {α : Type} {p : α → Bool} {l : List α} {k : Nat} {x : α} (h : l[k]? = some x) : (l.take (k + 1)).any p = ((l.take k).any p || p x) := by
  rw [List.take_succ, h, List.any_append]
  simp
theorem any_pre {α : Type} {p : α → Bool} {l : List α} {k : Nat} (h : (l.take k).any p = true) : l.any p = true := by
  rw [List.any_eq_true] at h ⊢
  obtain ⟨x, hx, hp⟩ := h
  exact ⟨x, List.mem_of_mem_take hx, hp⟩
theorem plain0 {σ τ : St} (hS : IS σ) (hT : IT σ) (h104 : τ.1 104 = σ.1 104) (h105 : τ.1 105 = σ.1 105) {i : Nat} (hi : i < tn σ) (hf : σ.1 105 (4 * (tx σ i).toNat) ≠ 0) : p_MO_plainOf τ (tx σ i) 0 ∧ f_MO_plainOf τ (tx σ i) 0 = (mfm σ i : Int) ∧ 0 ≤ tx σ i ∧ tx σ i < σ.2.1 8 6 := by
  have n := hS.1
  unfold NumOk at n
  obtain ⟨m1, m2⟩ := mark_form hS hT hi hf
  obtain ⟨c0, -⟩ := form_b hS m2
  obtain ⟨-, x2, x3, -⟩ := hT.2.2.1 i (by unfold tn at hi; omega)
  have hl : 0 ≤ tx σ i ∧ tx σ i < σ.2.1 8 6 := ⟨x2, x3⟩
  have e : (4 * tx σ i + 0).toNat = 4 * (tx σ i).toNat := by omega
  have key : f_MO_plainOf τ (tx σ i) 0 = (mfm σ i : Int) := by
    rw [← m1]
    unfold f_MO_plainOf pfM
    rw [h104, h105, e, if_pos hf, if_neg hf]
  refine ⟨⟨⟨by omega, by omega⟩, fun _ => ⟨by omega, by omega⟩, ?_⟩, key, hl⟩
  unfold f_MO_plainOf at key
  rw [key]
  exact ⟨by omega, by omega⟩
def RMx (ms : List Mk) (τ : St) : Prop := τ.2.1 8 55 = ms.length ∧ ∀ k m, ms[k]? = some m → τ.1 133 k = m.1 ∧ τ.1 134 k = m.2.1 ∧ τ.1 135 k = m.2.2.1.1 ∧ τ.1 136 k = m.2.2.1.2.2.1 ∧ τ.1 137 k = m.2.2.1.2.2.2 ∧ τ.1 138 k = m.2.2.2
def MWd (σ : St) (ms : List Mk) : Prop := ∀ m ∈ ms, m.1 < tn σ ∧ σ.1 105 (4 * (tx σ m.1).toNat) ≠ 0 ∧ m.2.2.1.2.1 = m.2.2.1.1 + σ.1 97 (mfm σ m.1)
theorem t_touches {G : GT} {σ τ : St} (hS : IS σ) (hT : IT σ) (hF : FrS σ τ) {ps : List Pc} {ms : List Mk} (hps : ∀ q ∈ ps, GPc σ q) (h80 : ps.length ≤ 80) (hSM : SMx σ ps τ) (hRM : RMx ms τ) (hW : MWd σ ms) (hB : MBd ms) (hm8 : ms.length ≤ 80) {l r b t : Int} (hl : -60000 ≤ l ∧ l ≤ 60000) (hr : -60000 ≤ r ∧ r ≤ 60000) (hb : -60000 ≤ b ∧ b ≤ 60000) (ht : -60000 ≤ t ∧ t ≤ 60000) : CJ G m_MO_touches [O 8, I l, I r, I b, I t] τ (fun res υ => υ = τ ∧ res = if (pbl σ 0 ps ++ mbl ms).any (tcq l r b t) = true then 1 else 0) := by
  have n := hS.1
  unfold NumOk at n
  have bS := hF.1
  have b97 := bS 97 (by omega)
  have b98 := bS 98 (by omega)
  have b99 := bS 99 (by omega)
  have b106 := bS 106 (by omega)
  have bb := MBd_bb hB hm8
  have pb := pbl_bb hS hps h80
  obtain ⟨t1, t2, t3, -⟩ := id hT
  have tn8 : tn σ ≤ 80 := by unfold tn; omega
  refine CJ.go (fun _ => k_MO_touches_0 ?_)
  have marks : ∀ (d i : Nat) (fl : Bool), i + d = ms.length → fl = ((pbl σ 0 ps).any (tcq l r b t) || ((mbl ms).take i).any (tcq l r b t)) → a_MO_touches_125 G l r b t (if fl = true then 1 else 0) i τ (fun res υ => υ = τ ∧ res = if (pbl σ 0 ps ++ mbl ms).any (tcq l r b t) = true then 1 else 0) := by
    intro d
    induction d with
    | zero =>
      intro i fl hi hfl
      refine k_MO_touches_125 ?_
      rw [hRM.1]
      refine ⟨⟨by omega, by omega⟩, fun _ => ⟨by split; exact Or.inr rfl; exact Or.inl rfl, rfl, ?_⟩, fun z => absurd z (by omega)⟩
      rw [List.take_of_length_le (by rw [mbl, List.length_map]; omega), ← List.any_append] at hfl
      rw [hfl]
    | succ d ih =>
      intro i fl hi hfl
      have hil : i < ms.length := by omega
      obtain ⟨m, hm⟩ : ∃ m, ms[i]? = some m := ⟨_, List.getElem?_eq_getElem hil⟩
      have hmm := List.mem_of_getElem? hm
      obtain ⟨z1, z2, z3, z4, z5, z6⟩ := hRM.2 i m hm
      obtain ⟨w1, w2, w3⟩ := hW m hmm
      obtain ⟨y1, y2, y3, y4⟩ := plain0 hS hT (bS 104 (by omega)) (bS 105 (by omega)) w1 w2
      obtain ⟨-, m2⟩ := mark_form hS hT w1 w2
      obtain ⟨c0, c1, -⟩ := form_b hS m2
      have hx : (mbl ms)[i]? = some m.2.2.1 := by unfold mbl; rw [List.getElem?_map, hm]; rfl
      obtain ⟨x1, x2, x3, x4⟩ := bb m.2.2.1 (List.mem_of_getElem? hx)
      refine k_MO_touches_125 ?_
      rw [hRM.1]
      refine ⟨⟨by omega, by omega⟩, fun z => absurd z (by omega), fun _ => ⟨by split <;> exact ⟨by omega, by omega⟩, fun z => ?_, fun z => ?_⟩⟩
      · cases fl with
        | false => exact absurd z (by simp)
        | true =>
          refine ⟨Or.inr rfl, rfl, ?_⟩
          rw [if_pos rfl, if_pos]
          rw [List.any_append, Bool.or_eq_true]
          rcases (Bool.or_eq_true _ _).mp hfl.symm with y | y
          · exact Or.inl y
          · exact Or.inr (any_pre y)
      · have hf0 : fl = false := by cases fl with
          | false => rfl
          | true => exact absurd z (by simp)
        have e106 : τ.1 106 m.1 = tx σ m.1 := by rw [b106]; rfl
        have key : ∀ (c : Prop) [Decidable c], (c ↔ tcq l r b t m.2.2.1 = true) → a_MO_touches_125 G l r b t (if c then 1 else 0) ((i : Int) + 1) τ (fun res υ => υ = τ ∧ res = if (pbl σ 0 ps ++ mbl ms).any (tcq l r b t) = true then 1 else 0) := fun c _ hc => by
          rw [ite_iff hc]
          refine ih (i + 1) _ (by omega) ?_
          rw [any_take hx, ← Bool.or_assoc, ← hfl, hf0, Bool.false_or]
        rw [Int.toNat_natCast i, z1, Int.toNat_natCast m.1, e106, y2, Int.toNat_natCast, z3, z4, z5, b97]
        refine ⟨by omega, by omega, y1, by omega, fun _ => ⟨⟨by omega, by omega⟩, ⟨by omega, by omega⟩, fun _ => ⟨⟨by omega, by omega⟩, ⟨by omega, by omega⟩⟩, fun _ => ⟨⟨by omega, by omega⟩, fun _ => ⟨⟨by omega, by omega⟩, ⟨by omega, by omega⟩⟩⟩⟩, key _ ?_⟩
        unfold tcq
        rw [decide_eq_true_iff, w3]
        constructor
        · rintro ⟨a1, ⟨a2, a3⟩, a4, a5⟩; exact ⟨a2, a3, a4, a5, a1⟩
        · rintro ⟨a2, a3, a4, a5, a1⟩; exact ⟨a1, ⟨a2, a3⟩, a4, a5⟩
  have pieces : ∀ (d i : Nat) (fl : Bool), i + d = ps.length → fl = ((pbl σ 0 ps).take i).any (tcq l r b t) → a_MO_touches_6 G l r b t (if fl = true then 1 else 0) i τ (fun res υ => υ = τ ∧ res = if (pbl σ 0 ps ++ mbl ms).any (tcq l r b t) = true then 1 else 0) := by
    intro d
    induction d with
    | zero =>
      intro i fl hi hfl
      refine k_MO_touches_6 ?_
      rw [hSM.1]
      refine ⟨⟨by omega, by omega⟩, fun _ => ?_, fun z => absurd z (by omega)⟩
      rw [List.take_of_length_le (by rw [pbl_len]; omega)] at hfl
      exact marks ms.length 0 fl (by omega) (by rw [hfl]; simp)
    | succ d ih =>
      intro i fl hi hfl
      have hil : i < ps.length := by omega
      obtain ⟨q, hq⟩ : ∃ q, ps[i]? = some q := ⟨_, List.getElem?_eq_getElem hil⟩
      have hG := hps q (List.mem_of_getElem? hq)
      obtain ⟨z1, z2, z3, z4, z5, z6, z7, -⟩ := hSM.2.2.2 i q hq
      obtain ⟨c0, c1, c2, c3, -, -, c6, -⟩ := form_b hS hG.2.2.1
      have hx := pbl_get (σ := σ) ps 0 i q hq
      obtain ⟨x1, x2, x3, x4⟩ := pb _ (List.mem_of_getElem? hx)
      simp only [Nat.zero_add] at hx x1 x2
      have hwd : (wdp σ q : Int) = σ.1 97 q.2.2.1 + (q.2.2.2 : Int) := by unfold wdp wd; omega
      refine k_MO_touches_6 ?_
      rw [hSM.1]
      refine ⟨⟨by omega, by omega⟩, fun z => absurd z (by omega), fun _ => ⟨by split <;> exact ⟨by omega, by omega⟩, fun z => ?_, fun z => ?_⟩⟩
      · cases fl with
        | false => exact absurd z (by simp)
        | true => exact marks ms.length 0 true (by omega) (by rw [any_pre hfl.symm]; simp)
      · have hf0 : fl = false := by cases fl with
          | false => rfl
          | true => exact absurd z (by simp)
        have key : ∀ (c : Prop) [Decidable c], (c ↔ tcq l r b t ((tw σ (ps.take i) : Int), (tw σ (ps.take i) : Int) + wdp σ q, -σ.1 99 q.2.2.1, σ.1 98 q.2.2.1) = true) → a_MO_touches_6 G l r b t (if c then 1 else 0) ((i : Int) + 1) τ (fun res υ => υ = τ ∧ res = if (pbl σ 0 ps ++ mbl ms).any (tcq l r b t) = true then 1 else 0) := fun c _ hc => by
          rw [ite_iff hc]
          refine ih (i + 1) _ (by omega) ?_
          rw [any_take hx, ← hfl, hf0, Bool.false_or]
        rw [Int.toNat_natCast i, z4, Int.toNat_natCast, z5, z7, b97, b98, b99]
        refine ⟨by omega, by omega, ⟨by omega, by omega⟩, fun _ => ⟨⟨by omega, by omega⟩, ⟨by omega, by omega⟩, fun _ => ⟨⟨by omega, by omega⟩, ⟨by omega, by omega⟩⟩, fun _ => ⟨⟨by omega, by omega⟩, fun _ => ⟨⟨by omega, by omega⟩, ⟨by omega, by omega⟩⟩⟩⟩, key _ ?_⟩
        unfold tcq
        rw [decide_eq_true_iff, hwd]
        constructor
        · rintro ⟨a1, ⟨a2, a3⟩, a4, a5⟩; exact ⟨by simp only; omega, a3, a4, a5, by simp only; omega⟩
        · rintro ⟨a2, a3, a4, a5, a1⟩; exact ⟨by simp only at a1; omega, ⟨by simp only at a2; omega, a3⟩, a4, a5⟩
  exact pieces ps.length 0 false (by omega) (by simp)
