/-! layMark and layMarks of the reference -/
theorem edg_take {σ : St} {k : Nat} {ab : Bool} {e0 : Int} {ms : List Mk} {j : Nat} {m : Mk} (h : ms[j]? = some m) : edg σ k ab e0 (ms.take (j + 1)) = if m.2.1 = k ∧ ts σ m.1 = (if ab = true then 3 else 4) then (if ab = true then m.2.2.1.2.2.2 else m.2.2.1.2.2.1) else edg σ k ab e0 (ms.take j) := by
  rw [List.take_succ, h]
  exact edg_app
theorem t_layMark {G : GT} {σ τ : St} (hS : IS σ) (hT : IT σ) (hF : FrS σ τ) {ps : List Pc} {ms : List Mk} {i k : Nat} (hps : ∀ q ∈ ps, GPc σ q) (h80 : ps.length ≤ 80) (hk : k < ps.length) (hi : i < tn σ) (hs : ts σ i = 3 ∨ ts σ i = 4) (hf : σ.1 105 (4 * (tx σ i).toNat) ≠ 0) (hSM : SMx σ ps τ) (hRM : RMx ms τ) (hW : MWd σ ms) (hB : MBd ms) (hm8 : ms.length < 80) (hH : HDx σ ps ms τ) : CJ G m_MO_layMark [O 8, I i, I k] τ (fun _ υ => RMx (ms ++ [lay1 σ ps ms i k]) υ ∧ HDx σ ps (ms ++ [lay1 σ ps ms i k]) υ ∧ KM τ υ) := by
  have n := hS.1
  unfold NumOk at n
  obtain ⟨t1, t2, t3, -⟩ := id hT
  have tn8 : tn σ ≤ 80 := by unfold tn; omega
  have bS := hF.1
  have b89 := bS 89 (by omega)
  have b97 := bS 97 (by omega)
  have b98 := bS 98 (by omega)
  have b99 := bS 99 (by omega)
  have b101 := bS 101 (by omega)
  have b106 := bS 106 (by omega)
  have etx : ∀ j, τ.1 106 j = tx σ j := fun j => by rw [b106]; rfl
  have ets : ∀ j, τ.1 89 (tx σ j).toNat = ts σ j := fun j => by rw [b89]; rfl
  obtain ⟨y1, y2, y3, y4⟩ := plain0 hS hT (bS 104 (by omega)) (bS 105 (by omega)) hi hf
  obtain ⟨-, m2⟩ := mark_form hS hT hi hf
  obtain ⟨c0, c1, c2, -⟩ := form_b hS m2
  obtain ⟨q, hq⟩ : ∃ q, ps[k]? = some q := ⟨_, List.getElem?_eq_getElem hk⟩
  have hG := hps q (List.mem_of_getElem? hq)
  obtain ⟨g1, g2, g3, g4, g5, g6, g7, -⟩ := hSM.2.2.2 k q hq
  obtain ⟨d0, d1, d2, d3, -, d5, -⟩ := form_b hS hG.2.2.1
  have hfq : fq ps k = q.2.2.1 := by unfold fq; rw [hq]
  obtain ⟨bE, bL, bN⟩ := lay_b hS hT hps h80 hk hi hf hB (by omega)
  have bb := MBd_bb hB (by omega)
  have bbN := MBd_bb bN (by simp; omega)
  have pb := pbl_bb hS hps h80
  have bA : BB (pbl σ 0 ps ++ mbl ms) := fun x hx => by
    rcases List.mem_append.mp hx with y | y
    · exact pb x y
    · exact bb x y
  obtain ⟨hb1, hb2⟩ := hgM_b bA
  rw [← hH.1] at hb1
  rw [← hH.2] at hb2
  have hab : ts σ i = (if abv σ i = true then 3 else 4) := by
    unfold abv
    rcases hs with z | z
    · rw [z]; rfl
    · rw [z]; rfl
  have hLy : lyL σ ps i k = (tw σ (ps.take k) : Int) + σ.1 101 q.2.2.1 - σ.1 97 (mfm σ i) / 2 := by unfold lyL; rw [hfq]
  refine CJ.go (fun _ => k_MO_layMark_0 ?_)
  rw [Int.toNat_natCast i, Int.toNat_natCast k, etx, ets, y2, g4, Int.toNat_natCast q.2.2.1, Int.toNat_natCast (mfm σ i), g7, b97, b98, b99, b101, ← hLy]
  refine ⟨by omega, y1, by omega, by omega, by omega, by omega, by omega, ?_⟩
  have e1 : (if ts σ i = 3 then (1 : Int) else 0) = if abv σ i = true then 1 else 0 := ite_iff (by unfold abv; rw [decide_eq_true_iff])
  have e2 : (if ¬ ts σ i = 3 then -σ.1 99 q.2.2.1 else σ.1 98 q.2.2.1) = if abv σ i = true then σ.1 98 (fq ps k) else -σ.1 99 (fq ps k) := by
    rw [hfq]
    unfold abv
    by_cases z : ts σ i = 3
    · rw [if_neg (fun y => y z), if_pos (by simpa using z)]
    · rw [if_pos z, if_neg (by simpa using z)]
  rw [e1, e2]
  obtain ⟨b0, hb0⟩ : ∃ b0, b0 = (if abv σ i = true then lyE σ ps ms i k else lyE σ ps ms i k - σ.1 98 (mfm σ i)) := ⟨_, rfl⟩
  have hb0b : -60000 + 1000 ≤ b0 ∧ b0 ≤ 60000 - 1000 := by rw [hb0]; split <;> omega
  have hlw : lyW σ ps ms i k = wyA (pbl σ 0 ps ++ mbl ms) (abv σ i) (lyL σ ps i k) (lyL σ ps i k + σ.1 97 (mfm σ i)) b0 (σ.1 98 (mfm σ i)) := by unfold lyW; rw [hb0]
  have hlb : lyB σ ps ms i k = if abv σ i = true then b0 + (lyW σ ps ms i k : Int) else b0 - (lyW σ ps ms i k : Int) := by
    unfold lyB
    rw [hb0]
    split <;> rfl
  have fin : ∀ (w : Nat) (υ : St), w ≤ 300 → w = lyW σ ps ms i k → υ = sf (sf (sf (sa (sa (sa (sa (sa (sa τ 133 ms.length i) 134 ms.length k) 135 ms.length (lyL σ ps i k)) 136 ms.length (if abv σ i = true then b0 + (w : Int) else b0 - (w : Int))) 137 ms.length ((if abv σ i = true then b0 + (w : Int) else b0 - (w : Int)) + σ.1 98 (mfm σ i))) 138 ms.length w) 8 62 (if τ.2.1 8 62 ≤ (if abv σ i = true then b0 + (w : Int) else b0 - (w : Int)) + σ.1 98 (mfm σ i) then (if abv σ i = true then b0 + (w : Int) else b0 - (w : Int)) + σ.1 98 (mfm σ i) else τ.2.1 8 62)) 8 63 (if τ.2.1 8 63 ≤ -(if abv σ i = true then b0 + (w : Int) else b0 - (w : Int)) then -(if abv σ i = true then b0 + (w : Int) else b0 - (w : Int)) else τ.2.1 8 63)) 8 55 ((ms.length : Int) + 1) → RMx (ms ++ [lay1 σ ps ms i k]) υ ∧ HDx σ ps (ms ++ [lay1 σ ps ms i k]) υ ∧ KM τ υ := fun w υ h1 h2 h3 => by
    rw [h2, ← hlb] at h3
    exact lay_st (m := lay1 σ ps ms i k) rfl hRM hH h3
  have lift : ∀ (d w : Nat), w + d = 300 → (σ.1 98 (mfm σ i) ≤ 0 ∧ w = 0 ∨ 0 < σ.1 98 (mfm σ i) ∧ wyF (wyT (pbl σ 0 ps ++ mbl ms) (abv σ i) (lyL σ ps i k) (lyL σ ps i k + σ.1 97 (mfm σ i)) b0 (σ.1 98 (mfm σ i))) d w = lyW σ ps ms i k) → a_MO_layMark_204 G i k (mfm σ i) (lyL σ ps i k) (if abv σ i = true then 1 else 0) (if abv σ i = true then b0 + (w : Int) else b0 - (w : Int)) w τ (fun _ υ => RMx (ms ++ [lay1 σ ps ms i k]) υ ∧ HDx σ ps (ms ++ [lay1 σ ps ms i k]) υ ∧ KM τ υ) := by
    intro d
    induction d with
    | zero =>
      intro w hw hor
      have hww : w = lyW σ ps ms i k := by
        rcases hor with z | z
        · omega
        · exact z.2
      have fw := fin w _ (by omega) hww rfl
      obtain ⟨b, hb⟩ : ∃ b, b = (if abv σ i = true then b0 + (w : Int) else b0 - (w : Int)) := ⟨_, rfl⟩
      have hbb : -60000 + 500 ≤ b ∧ b ≤ 60000 - 500 := by rw [hb]; split <;> omega
      rw [← hb] at fw ⊢
      refine k_MO_layMark_204 ?_
      rw [hRM.1, Int.toNat_natCast ms.length, Int.toNat_natCast (mfm σ i), b98]
      refine ⟨⟨by omega, by omega⟩, fun _ => ⟨by omega, ⟨by omega, by omega⟩, fun s1 e1 => ⟨⟨by omega, by omega⟩, fun s2 e2 => ⟨⟨by omega, by omega⟩, fun s3 e3 => ⟨⟨by omega, by omega⟩, fun s4 e4 => ⟨by omega, ⟨by omega, by omega⟩, fun s5 e5 s6 e6 => ⟨by split <;> exact ⟨by omega, by omega⟩, fun s7 e7 => ⟨⟨by omega, by omega⟩, by split <;> exact ⟨by omega, by omega⟩, fun s8 e8 => ⟨⟨by omega, by omega⟩, fun s9 e9 => ?_⟩⟩⟩⟩⟩⟩⟩⟩, fun z => absurd z (by omega)⟩
      subst e1 e2 e3 e4 e5 e6 e7 e8 e9
      exact fw
    | succ d ih =>
      intro w hw hor
      have tc := t_touches (G := G) hS hT hF hps h80 hSM hRM hW hB (by omega) (l := lyL σ ps i k) (r := lyL σ ps i k + σ.1 97 (mfm σ i)) (b := if abv σ i = true then b0 + (w : Int) else b0 - (w : Int)) (t := (if abv σ i = true then b0 + (w : Int) else b0 - (w : Int)) + σ.1 98 (mfm σ i)) (by omega) (by omega) (by split <;> omega) (by split <;> omega)
      have step : 0 < σ.1 98 (mfm σ i) → (pbl σ 0 ps ++ mbl ms).any (tcq (lyL σ ps i k) (lyL σ ps i k + σ.1 97 (mfm σ i)) (if abv σ i = true then b0 + (w : Int) else b0 - (w : Int)) ((if abv σ i = true then b0 + (w : Int) else b0 - (w : Int)) + σ.1 98 (mfm σ i))) = true → a_MO_layMark_204 G i k (mfm σ i) (lyL σ ps i k) (if abv σ i = true then 1 else 0) (if abv σ i = true then b0 + ((w + 1 : Nat) : Int) else b0 - ((w + 1 : Nat) : Int)) ((w + 1 : Nat) : Int) τ (fun _ υ => RMx (ms ++ [lay1 σ ps ms i k]) υ ∧ HDx σ ps (ms ++ [lay1 σ ps ms i k]) υ ∧ KM τ υ) := fun h1 h2 => by
        refine ih (w + 1) (by omega) (Or.inr ⟨h1, ?_⟩)
        rcases hor with z | z
        · omega
        · rw [← z.2]
          show _ = (if wyT (pbl σ 0 ps ++ mbl ms) (abv σ i) (lyL σ ps i k) (lyL σ ps i k + σ.1 97 (mfm σ i)) b0 (σ.1 98 (mfm σ i)) w = true then _ else _)
          exact (if_pos (by unfold wyT; exact h2)).symm
      have stop : (σ.1 98 (mfm σ i) ≤ 0 ∨ (pbl σ 0 ps ++ mbl ms).any (tcq (lyL σ ps i k) (lyL σ ps i k + σ.1 97 (mfm σ i)) (if abv σ i = true then b0 + (w : Int) else b0 - (w : Int)) ((if abv σ i = true then b0 + (w : Int) else b0 - (w : Int)) + σ.1 98 (mfm σ i))) = false) → w = lyW σ ps ms i k := fun h => by
        rcases hor with z | z
        · rw [hlw]; unfold wyA; rw [if_pos z.1]; exact z.2
        · rw [← z.2]
          show _ = (if wyT (pbl σ 0 ps ++ mbl ms) (abv σ i) (lyL σ ps i k) (lyL σ ps i k + σ.1 97 (mfm σ i)) b0 (σ.1 98 (mfm σ i)) w = true then _ else _)
          rcases h with y | y
          · omega
          · rw [if_neg (fun q => by unfold wyT at q; rw [y] at q; exact absurd q (by decide))]
      have fw := fun hh => fin w _ (by omega) (stop hh) rfl
      obtain ⟨b, hb⟩ : ∃ b, b = (if abv σ i = true then b0 + (w : Int) else b0 - (w : Int)) := ⟨_, rfl⟩
      have hbb : -60000 + 500 ≤ b ∧ b ≤ 60000 - 500 := by rw [hb]; split <;> omega
      have hb' : b + (if (if abv σ i = true then (1 : Int) else 0) = 0 then (-1 : Int) else (1 : Int)) = if abv σ i = true then b0 + ((w + 1 : Nat) : Int) else b0 - ((w + 1 : Nat) : Int) := by
        rw [hb]
        cases abv σ i with
        | true => simp; omega
        | false => simp; omega
      rw [← hb] at fw tc step ⊢
      refine k_MO_layMark_204 ?_
      rw [hRM.1, Int.toNat_natCast ms.length, Int.toNat_natCast (mfm σ i), b97, b98]
      refine ⟨⟨by omega, by omega⟩, fun z => absurd z (by omega), fun _ => ⟨by omega, fun hh => ?_, fun hh => ?_⟩⟩
      · refine ⟨by omega, ⟨by omega, by omega⟩, fun s1 e1 => ⟨⟨by omega, by omega⟩, fun s2 e2 => ⟨⟨by omega, by omega⟩, fun s3 e3 => ⟨⟨by omega, by omega⟩, fun s4 e4 => ⟨⟨by omega, by omega⟩, fun s5 e5 s6 e6 => ⟨by split <;> exact ⟨by omega, by omega⟩, fun s7 e7 => ⟨⟨by omega, by omega⟩, by split <;> exact ⟨by omega, by omega⟩, fun s8 e8 => ⟨⟨by omega, by omega⟩, fun s9 e9 => ?_⟩⟩⟩⟩⟩⟩⟩⟩
        subst e1 e2 e3 e4 e5 e6 e7 e8 e9
        exact fw (Or.inl hh)
      · refine CJ.mono tc (fun r υ _ hυ => ?_)
        obtain ⟨rfl, hr⟩ := hυ
        rw [hr]
        refine ⟨fun z => ?_, fun z => ?_⟩
        · have no : (pbl σ 0 ps ++ mbl ms).any (tcq (lyL σ ps i k) (lyL σ ps i k + σ.1 97 (mfm σ i)) b (b + σ.1 98 (mfm σ i))) = false := by
            cases y : (pbl σ 0 ps ++ mbl ms).any (tcq (lyL σ ps i k) (lyL σ ps i k + σ.1 97 (mfm σ i)) b (b + σ.1 98 (mfm σ i))) with
            | false => rfl
            | true => rw [y] at z; exact absurd z (by simp)
          rw [hRM.1, Int.toNat_natCast ms.length, b98]
          refine ⟨by omega, ⟨by omega, by omega⟩, fun s1 e1 => ⟨⟨by omega, by omega⟩, fun s2 e2 => ⟨⟨by omega, by omega⟩, fun s3 e3 => ⟨⟨by omega, by omega⟩, fun s4 e4 => ⟨⟨by omega, by omega⟩, fun s5 e5 s6 e6 => ⟨by split <;> exact ⟨by omega, by omega⟩, fun s7 e7 => ⟨⟨by omega, by omega⟩, by split <;> exact ⟨by omega, by omega⟩, fun s8 e8 => ⟨⟨by omega, by omega⟩, fun s9 e9 => ?_⟩⟩⟩⟩⟩⟩⟩⟩
          subst e1 e2 e3 e4 e5 e6 e7 e8 e9
          exact fw (Or.inr no)
        · have yes : (pbl σ 0 ps ++ mbl ms).any (tcq (lyL σ ps i k) (lyL σ ps i k + σ.1 97 (mfm σ i)) b (b + σ.1 98 (mfm σ i))) = true := by
            cases y : (pbl σ 0 ps ++ mbl ms).any (tcq (lyL σ ps i k) (lyL σ ps i k + σ.1 97 (mfm σ i)) b (b + σ.1 98 (mfm σ i))) with
            | true => rfl
            | false => rw [y] at z; exact absurd z (by simp)
          rw [hb']
          exact ⟨by split <;> exact ⟨by omega, by omega⟩, step hh yes⟩
  have edge : ∀ (d j : Nat), j + d = ms.length → a_MO_layMark_99 G i k (mfm σ i) (lyL σ ps i k) (if abv σ i = true then 1 else 0) (edg σ k (abv σ i) (if abv σ i = true then σ.1 98 (fq ps k) else -σ.1 99 (fq ps k)) (ms.take j)) j τ (fun _ υ => RMx (ms ++ [lay1 σ ps ms i k]) υ ∧ HDx σ ps (ms ++ [lay1 σ ps ms i k]) υ ∧ KM τ υ) := by
    intro d
    induction d with
    | zero =>
      intro j hj
      rw [List.take_of_length_le (by omega)]
      refine k_MO_layMark_99 ?_
      rw [hRM.1, Int.toNat_natCast (mfm σ i), b98]
      refine ⟨⟨by omega, by omega⟩, fun _ => ⟨by split <;> exact ⟨by omega, by omega⟩, fun _ => by omega, ?_⟩, fun z => absurd z (by omega)⟩
      have l0 := lift 300 0 (by omega) (by
        by_cases z : σ.1 98 (mfm σ i) ≤ 0
        · exact Or.inl ⟨z, rfl⟩
        · refine Or.inr ⟨by omega, ?_⟩
          rw [hlw]; unfold wyA; rw [if_neg z])
      have e : (if (if abv σ i = true then (1 : Int) else 0) = 0 then edg σ k (abv σ i) (if abv σ i = true then σ.1 98 (fq ps k) else -σ.1 99 (fq ps k)) ms - σ.1 98 (mfm σ i) else edg σ k (abv σ i) (if abv σ i = true then σ.1 98 (fq ps k) else -σ.1 99 (fq ps k)) ms) = if abv σ i = true then b0 + ((0 : Nat) : Int) else b0 - ((0 : Nat) : Int) := by
        rw [hb0]
        unfold lyE
        cases abv σ i with
        | true => simp
        | false => simp
      rw [e]
      exact l0
    | succ d ih =>
      intro j hj
      have hjl : j < ms.length := by omega
      obtain ⟨m, hm⟩ : ∃ m, ms[j]? = some m := ⟨_, List.getElem?_eq_getElem hjl⟩
      have hmm := List.mem_of_getElem? hm
      obtain ⟨z1, z2, z3, z4, z5, z6⟩ := hRM.2 j m hm
      obtain ⟨w1, w2, w3⟩ := hW m hmm
      obtain ⟨-, -, v3, v4⟩ := plain0 hS hT (bS 104 (by omega)) (bS 105 (by omega)) w1 w2
      have nx := ih (j + 1) (by omega)
      rw [edg_take hm] at nx
      refine k_MO_layMark_99 ?_
      rw [hRM.1, Int.toNat_natCast j, z1, Int.toNat_natCast m.1, etx, ets, Int.toNat_natCast i, etx, ets, z2, z4, z5]
      refine ⟨⟨by omega, by omega⟩, fun z => absurd z (by omega), fun _ => ⟨by omega, ⟨by omega, by omega⟩, fun _ => ⟨by omega, by omega, by omega, by omega, fun _ => by split <;> exact ⟨by omega, by omega⟩⟩, ?_⟩⟩
      have e : (if (m.2.1 : Int) ≠ (k : Int) then edg σ k (abv σ i) (if abv σ i = true then σ.1 98 (fq ps k) else -σ.1 99 (fq ps k)) (ms.take j) else if ts σ m.1 ≠ ts σ i then edg σ k (abv σ i) (if abv σ i = true then σ.1 98 (fq ps k) else -σ.1 99 (fq ps k)) (ms.take j) else if (if abv σ i = true then (1 : Int) else 0) = 0 then m.2.2.1.2.2.1 else m.2.2.1.2.2.2) = if m.2.1 = k ∧ ts σ m.1 = (if abv σ i = true then 3 else 4) then (if abv σ i = true then m.2.2.1.2.2.2 else m.2.2.1.2.2.1) else edg σ k (abv σ i) (if abv σ i = true then σ.1 98 (fq ps k) else -σ.1 99 (fq ps k)) (ms.take j) := by
        rw [← hab]
        by_cases a : m.2.1 = k
        · rw [if_neg (show ¬ (m.2.1 : Int) ≠ (k : Int) by omega)]
          by_cases c : ts σ m.1 = ts σ i
          · rw [if_neg (fun y => y c), if_pos (show m.2.1 = k ∧ ts σ m.1 = ts σ i from ⟨a, c⟩)]
            cases abv σ i with
            | true => simp
            | false => simp
          · rw [if_pos c, if_neg (show ¬ (m.2.1 = k ∧ ts σ m.1 = ts σ i) from fun y => c y.2)]
        · rw [if_pos (show (m.2.1 : Int) ≠ (k : Int) by omega), if_neg (show ¬ (m.2.1 = k ∧ ts σ m.1 = ts σ i) from fun y => a y.1)]
      rw [e]
      exact nx
  exact edge ms.length 0 (by omega)
