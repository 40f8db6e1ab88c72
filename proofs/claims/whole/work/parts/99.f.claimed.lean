/-! check: the reference's side -/
theorem t_claimedAs {G : GT} {σ τ : St} (hS : IS σ) (hT : IT σ) (hC : CTx σ σ) (hF : FrS σ τ) {u E : Nat} (hu : u < E) (hb : bh σ u ≤ u) (hE : Bnd σ E) {v : Int} (hv : rng v) : CJ G m_MO_claimedAs [O 8, I (bc σ u), I (bc σ E), I v] τ (fun r υ => υ = τ ∧ (klen σ u v = none ∧ r = -1 ∨ ∃ l, klen σ u v = some l ∧ r = l)) := by
  have n := hS.1
  unfold NumOk at n
  have n8 := nU_le hT
  have E8 := hE.1
  have hun : u < nU σ := by omega
  have hBS := hC.2.2.2.2.2.1
  have hL : nL σ ≤ 60 := by unfold nL; omega
  have hLe : ((nL σ : Nat) : Int) = σ.2.1 8 6 := by unfold nL; omega
  have hbc := bc_le (σ := σ) (u := u)
  have hkl : kl σ u = lb σ u :: opl σ u (nL σ) := by unfold kl; rw [if_pos hb]
  have r118 : τ.1 118 (bc σ u) = lb σ u := by rw [hF.1 118 (by omega)]; exact (hBS u hun hb).2.1
  have r120 : τ.1 120 (bc σ u) = (ln3 σ (lb σ u).toNat : Int) := by rw [hF.1 120 (by omega)]; exact (hBS u hun hb).2.2.2.1
  have h6 : τ.2.1 8 6 = σ.2.1 8 6 := hF.2.2.1 _ (by decide)
  refine CJ.go (fun _ => k_MO_claimedAs_0 ?_)
  rw [Int.toNat_natCast, r118, r120]
  have hk : klen σ u v = (lb σ u :: opl σ u (nL σ)).find? (fun l => decide ((ln3 σ l.toNat : Int) = v)) := by unfold klen; rw [hkl]
  rw [List.find?_cons] at hk
  refine ⟨by omega, hv, fun z => ?_, fun z => ⟨rfl, Or.inr ⟨lb σ u, ?_, rfl⟩⟩⟩
  · have hd : decide ((ln3 σ (lb σ u).toNat : Int) = v) = false := by
      rw [decide_eq_false_iff_not]
      exact fun w => z w.symm
    rw [hd] at hk
    have loop : ∀ (e l : Nat) (acc : Int), l + e = nL σ → (acc = -1 ∧ (∀ g, g < l → opb σ u g = true → ¬ (ln3 σ g : Int) = v) ∨ ∃ g : Nat, acc = g ∧ g < l ∧ opb σ u g = true ∧ (ln3 σ g : Int) = v) → a_MO_claimedAs_23 G (bc σ u) (bc σ E) v acc l τ (fun r υ => υ = τ ∧ (klen σ u v = none ∧ r = -1 ∨ ∃ l, klen σ u v = some l ∧ r = l)) := by
      intro e
      induction e with
      | zero =>
        intro l acc hl hacc
        refine k_MO_claimedAs_23 ?_
        rw [h6]
        refine ⟨⟨by omega, by omega⟩, fun _ => ⟨?_, rfl, ?_⟩, fun z => absurd z (by omega)⟩
        · rcases hacc with q | ⟨g, q, q2, -⟩
          · rw [q.1]; exact ⟨by decide, by decide⟩
          · rw [q]; exact ⟨by omega, by omega⟩
        · rcases hacc with ⟨q1, q2⟩ | ⟨g, q1, q2, q3, q4⟩
          · left
            refine ⟨?_, q1⟩
            rw [hk]
            show (opl σ u (nL σ)).find? _ = none
            rw [List.find?_eq_none]
            intro x hx
            unfold opl at hx
            obtain ⟨g, g1, g2⟩ := List.mem_map.mp hx
            have g3 := List.mem_filter.mp g1
            have g4 := List.mem_range.mp g3.1
            rw [← g2]
            simp only [decide_eq_true_eq, Int.toNat_natCast]
            exact q2 g (by omega) g3.2
          · right
            refine ⟨(g : Int), ?_, q1⟩
            rw [hk]
            show (opl σ u (nL σ)).find? (fun l => decide ((ln3 σ l.toNat : Int) = v)) = some (g : Int)
            cases hfx : (opl σ u (nL σ)).find? (fun l => decide ((ln3 σ l.toNat : Int) = v)) with
            | none =>
              exfalso
              rw [List.find?_eq_none] at hfx
              refine hfx (g : Int) (List.mem_map.mpr ⟨g, List.mem_filter.mpr ⟨List.mem_range.mpr (by omega), q3⟩, rfl⟩) ?_
              simp only [decide_eq_true_eq, Int.toNat_natCast]
              exact q4
            | some x =>
              have x1 := List.mem_of_find?_eq_some hfx
              have x2 := List.find?_some hfx
              unfold opl at x1
              obtain ⟨g', g1, g2⟩ := List.mem_map.mp x1
              have g3 := List.mem_filter.mp g1
              have g4 := List.mem_range.mp g3.1
              rw [← g2] at x2
              simp only [decide_eq_true_eq, Int.toNat_natCast] at x2
              have a2 := g3.2
              unfold opb at a2 q3
              simp only [Bool.and_eq_true, decide_eq_true_iff] at a2 q3
              have : g' = g := opb_inj hS (by omega) (by omega) a2.1.1 q3.1.1 a2.2.1 q3.2.1 (by omega)
              rw [← g2, this]
      | succ e ih =>
        intro l acc hl hacc
        have cast : ((l : Int) + 1) = ((l + 1 : Nat) : Int) := by omega
        have next : (opb σ u l = true → ¬ (ln3 σ l : Int) = v) → a_MO_claimedAs_23 G (bc σ u) (bc σ E) v acc ((l : Int) + 1) τ (fun r υ => υ = τ ∧ (klen σ u v = none ∧ r = -1 ∨ ∃ l, klen σ u v = some l ∧ r = l)) := fun hno => by
          rw [cast]
          refine ih (l + 1) acc (by omega) ?_
          rcases hacc with ⟨q1, q2⟩ | ⟨g, q1, q2, q3⟩
          · left
            refine ⟨q1, fun g hg => ?_⟩
            by_cases e : g = l
            · rw [e]; exact hno
            · exact q2 g (by omega)
          · right
            exact ⟨g, q1, by omega, q3⟩
        refine k_MO_claimedAs_23 ?_
        rw [h6, Int.toNat_natCast l, hF.1 89 (by omega), hF.1 92 (by omega)]
        refine ⟨⟨by omega, by omega⟩, fun z => absurd z (by omega), fun _ => ⟨by omega, fun z => next (fun w => ?_), fun z => ?_⟩⟩
        · exfalso
          unfold opb at w
          simp only [Bool.and_eq_true, decide_eq_true_iff] at w
          exact z w.1.1
        · have hc : (if 0 ≤ σ.1 92 l then (3 : Int) else 2) = (ln3 σ l : Int) := by
            unfold ln3
            rw [if_pos (show σ.1 89 l = 7 from z)]
            by_cases zz : σ.1 92 l < 0
            · rw [if_neg (by omega), if_pos zz]; rfl
            · rw [if_pos (by omega), if_neg zz]; rfl
          have hc' : (if 0 ≤ σ.1 92 l then (3 : Int) else 2) = (ln3 σ l : Int) := hc
          have lp := ln3_pos (σ := σ) (g := l)
          rw [hc']
          refine ⟨⟨by omega, by omega⟩, hv, fun y => next (fun _ => y), fun y => ?_⟩
          refine CJ.mono (t_mayBe (τ := τ) hS hT hBS (fun k hk => hF.1 k (by omega)) hu E8 hE.2 hb (show l < nL σ by omega) z) (fun r w _ hw => ?_)
          obtain ⟨hw1, hw2⟩ := hw
          rw [hw1, hw2]
          by_cases co : opb σ u l = true
          · rw [if_pos co, if_neg (by decide), cast]
            exact ih (l + 1) l (by omega) (Or.inr ⟨l, rfl, by omega, co, y⟩)
          · rw [if_neg co, if_pos rfl]
            exact next (fun w => absurd w co)
    exact loop (nL σ) 0 (-1) (by omega) (Or.inl ⟨rfl, fun g hg => absurd hg (by omega)⟩)
  · have hd : decide ((ln3 σ (lb σ u).toNat : Int) = v) = true := by
      rw [decide_eq_true_iff]
      exact z.symm
    rw [hd] at hk
    exact hk
theorem t_setClaimed {G : GT} {σ : St} (hS : IS σ) (hT : IT σ) (hC : CTx σ σ) {N : Nat} {c : Nat → Int} (hN : σ.2.1 8 96 = N) (hN2 : N ≤ 260) (hcl : ∀ i, i < N → σ.1 153 i = c i) (hrg : ∀ i, rng (c i)) {a b : Nat} (hab : a ≤ b) (hb : b < nW σ) {R : Int × List Pc} (hR : ck σ N c (wE σ b) 80 0 (wfu σ a) 0 [] = R) : CJ G m_MO_setClaimed [O 8, I a, I b] σ (fun r υ => FrS σ υ ∧ (R.1 = -6 ∧ 0 ≤ r ∧ SMx σ R.2 υ ∧ Chn σ (wfu σ a) R.2 (wE σ b) ∧ υ.2.1 8 64 = wa σ a ∧ υ.2.1 8 65 = we σ b ∨ 0 ≤ R.1 ∧ r = -R.1 - 1)) := by
  have n := hS.1
  unfold NumOk at n
  have n8 := nU_le hT
  obtain ⟨t1, t2, t3, -⟩ := id hT
  have tn8 : tn σ ≤ 80 := by unfold tn; omega
  have nw8 : nW σ ≤ 80 := Nat.le_trans (cnt_le _ _) tn8
  obtain ⟨f1, f2, f3, f4, f5, f6, f7, f8, f9⟩ := word_rng hS hT hab hb
  obtain ⟨c1, c2, c3, c4, c5, hBS, c7⟩ := id hC
  have ca := (c7 a (by omega)).2.2.1
  have cb : σ.1 113 b = bc σ (wE σ b) := (c7 b hb).2.2.2
  obtain ⟨F, hF⟩ : ∃ F, F = wfu σ a := ⟨_, rfl⟩
  obtain ⟨E, hEe⟩ : ∃ E, E = wE σ b := ⟨_, rfl⟩
  rw [← hF] at f1 f3 f4 f5 f9 ca hR
  rw [← hEe] at f1 f2 f6 cb hR
  have b1 := bc_le (σ := σ) (u := F)
  have b2 := bc_le (σ := σ) (u := E)
  have E8 := f2.1
  rw [← hF, ← hEe]
  refine CJ.go (fun _ => k_MO_setClaimed_0 (CJ.mono (t_beginSet hS hT hC hab hb) (fun _ υ0 _ hυ0 => ?_)))
  obtain ⟨g1, g2, g3, g4, g5⟩ := hυ0
  rw [g3, Int.toNat_natCast a, Int.toNat_natCast b, ca, cb]
  refine ⟨by omega, by omega, ?_⟩
  have loop : ∀ (m k u st : Nat) (ps : List Pc) (υ : St), ps.length + m = 80 → k = 3 * ps.length → Chn σ F ps u → u ≤ E → bh σ u ≤ u → SMx σ ps υ → FrS σ υ → υ.2.1 8 64 = wa σ a → υ.2.1 8 65 = we σ b → st < 4 → ck σ N c E m k u st ps = R → a_MO_setClaimed_27 G (bc σ E) k (bc σ u) st υ (fun r υ => FrS σ υ ∧ (R.1 = -6 ∧ 0 ≤ r ∧ SMx σ R.2 υ ∧ Chn σ F R.2 E ∧ υ.2.1 8 64 = wa σ a ∧ υ.2.1 8 65 = we σ b ∨ 0 ≤ R.1 ∧ r = -R.1 - 1)) := by
    intro m
    have close : ∀ (k u st : Nat) (ps : List Pc) (υ : St), k ≤ 240 → Chn σ F ps u → u = E → SMx σ ps υ → FrS σ υ → υ.2.1 8 64 = wa σ a → υ.2.1 8 65 = we σ b → R = (clo σ N c k ps, ps) → a_MO_setClaimed_27 G (bc σ E) k (bc σ u) st υ (fun r υ => FrS σ υ ∧ (R.1 = -6 ∧ 0 ≤ r ∧ SMx σ R.2 υ ∧ Chn σ F R.2 E ∧ υ.2.1 8 64 = wa σ a ∧ υ.2.1 8 65 = we σ b ∨ 0 ≤ R.1 ∧ r = -R.1 - 1)) := by
      intro k u st ps υ hk hch huE hSM hFr h4 h5 hR1
      have e96 : υ.2.1 8 96 = (N : Int) := by rw [hFr.2.2.1 96 (by omega)]; exact hN
      have e153 : ∀ i, i < N → υ.1 153 i = c i := fun i hi => by rw [hFr.1 153 (by omega)]; exact hcl i hi
      have e53 : υ.2.1 8 53 = (tw σ ps : Int) := hSM.2.1
      have e54 : υ.2.1 8 54 = tp σ ps := hSM.2.2.1
      have i1 : ((k : Int) + 1).toNat = k + 1 := by omega
      refine k_MO_setClaimed_27 ?_
      rw [huE, e96, e53, e54, Int.toNat_natCast k, i1]
      refine ⟨⟨by omega, by omega⟩, ⟨by omega, by omega⟩, fun _ => ⟨⟨by omega, by omega⟩, fun z => ?_, fun z => ⟨by omega, ?_⟩⟩, fun z => absurd z (by omega)⟩
      · have e : R = ((k : Int), ps) := by rw [hR1]; unfold clo; rw [if_pos (by omega)]
        rw [e]
        exact ⟨⟨by omega, by omega⟩, hFr, Or.inr ⟨by show 0 ≤ (k : Int); omega, rfl⟩⟩
      · rw [e153 k (by omega)]
        refine ⟨fun y => ⟨⟨by omega, by omega⟩, fun z2 => ?_, fun z2 => ⟨by omega, ?_⟩⟩, fun y => ?_⟩
        · have e : R = ((k : Int) + 1, ps) := by rw [hR1]; unfold clo; rw [if_neg (by omega), if_pos y, if_pos (by omega)]
          rw [e]
          exact ⟨⟨by omega, by omega⟩, hFr, Or.inr ⟨by show 0 ≤ (k : Int) + 1; omega, rfl⟩⟩
        · rw [e153 (k + 1) (by omega)]
          refine ⟨fun y2 => ?_, fun y2 => ?_⟩
          · refine ⟨⟨by omega, by omega⟩, ?_⟩
            by_cases z3 : N ≤ k + 2
            · have e : R = (-6, ps) := by rw [hR1]; unfold clo; rw [if_neg (by omega), if_pos y, if_neg (by omega), if_pos y2, if_pos z3]
              rw [if_pos (by omega), e]
              refine ⟨⟨by omega, by omega⟩, hFr, Or.inl ⟨rfl, by omega, hSM, ?_, h4, h5⟩⟩
              rw [huE] at hch
              exact hch
            · have e : R = ((k : Int) + 2, ps) := by rw [hR1]; unfold clo; rw [if_neg (by omega), if_pos y, if_neg (by omega), if_pos y2, if_neg z3]
              rw [if_neg (by omega), e]
              exact ⟨⟨by omega, by omega⟩, hFr, Or.inr ⟨by show 0 ≤ (k : Int) + 2; omega, by show -((k : Int) + 1 + 1) - 1 = -((k : Int) + 2) - 1; omega⟩⟩
          · have e : R = ((k : Int) + 1, ps) := by rw [hR1]; unfold clo; rw [if_neg (by omega), if_pos y, if_neg (by omega), if_neg y2]
            rw [e]
            exact ⟨⟨by omega, by omega⟩, hFr, Or.inr ⟨by show 0 ≤ (k : Int) + 1; omega, rfl⟩⟩
        · have e : R = ((k : Int), ps) := by rw [hR1]; unfold clo; rw [if_neg (by omega), if_neg y]
          rw [e]
          exact ⟨⟨by omega, by omega⟩, hFr, Or.inr ⟨by show 0 ≤ (k : Int); omega, rfl⟩⟩
    induction m with
    | zero =>
      intro k u st ps υ hm hk hch huE hbu hSM hFr h4 h5 hst hck
      have hlen := Chn_len hch
      exact close k u st ps υ (by omega) hch (by omega) hSM hFr h4 h5 hck.symm
    | succ m ih =>
      intro k u st ps υ hm hk hch huE hbu hSM hFr h4 h5 hst hck
      by_cases q : E ≤ u
      · exact close k u st ps υ (by omega) hch (by omega) hSM hFr h4 h5 (by rw [← hck]; unfold ck; rw [if_pos q])
      · have hu : u < nU σ := by omega
        have e96 : υ.2.1 8 96 = (N : Int) := by rw [hFr.2.2.1 96 (by omega)]; exact hN
        have e153 : ∀ i, i < N → υ.1 153 i = c i := fun i hi => by rw [hFr.1 153 (by omega)]; exact hcl i hi
        have i1 : ((k : Int) + 1).toNat = k + 1 := by omega
        have i2 : ((k : Int) + 1 + 1).toNat = k + 2 := by omega
        have hlt := bc_lt hbu (show u < E by omega)
        have b3 := bc_le (σ := σ) (u := u)
        have fail : ∀ x y : Int, 0 ≤ x → y = -x - 1 → R = (x, ps) → FrS σ υ ∧ (R.1 = -6 ∧ 0 ≤ y ∧ SMx σ R.2 υ ∧ Chn σ F R.2 E ∧ υ.2.1 8 64 = wa σ a ∧ υ.2.1 8 65 = we σ b ∨ 0 ≤ R.1 ∧ y = -R.1 - 1) := fun x y hx hy e => by
          rw [e]
          exact ⟨hFr, Or.inr ⟨hx, hy⟩⟩
        unfold ck at hck
        rw [if_neg q] at hck
        refine k_MO_setClaimed_27 ?_
        rw [e96, Int.toNat_natCast k]
        refine ⟨⟨by omega, by omega⟩, ⟨by omega, by omega⟩, fun z => absurd z (by omega), fun _ => ⟨⟨by omega, by omega⟩, fun z => ?_, fun z => ⟨by omega, ?_⟩⟩⟩
        · rw [if_pos (by omega)] at hck
          exact ⟨⟨by omega, by omega⟩, fail k _ (by omega) rfl hck.symm⟩
        · rw [if_neg (by omega)] at hck
          rw [e153 k (by omega)]
          refine CJ.mono (t_claimedAs hS hT hC hFr (show u < E by omega) hbu f2 (hrg k)) (fun r υ' _ hk' => ?_)
          obtain ⟨ev, hor⟩ := hk'
          rw [ev, e96, i1, i2]
          rcases hor with ⟨kn, hr⟩ | ⟨l, kn, hr⟩
          · rw [kn] at hck
            rw [hr]
            exact ⟨fun z => absurd z (by decide), fun _ => ⟨⟨by omega, by omega⟩, fail k _ (by omega) rfl hck.symm⟩⟩
          · rw [kn] at hck
            simp only [Option.elim] at hck
            obtain ⟨hmem, hlen⟩ := klen_some kn
            obtain ⟨-, hl0, hle, hor2, cr⟩ := kl_mem hS hT hu hmem
            have hnE := cr E (by omega) f2.1 f2.2
            obtain ⟨k1, k2, k3, k4, k5⟩ := kl_bc hS hT hBS hu hmem
            have r118 : υ.1 118 (bc σ u) = lb σ u := by rw [hFr.1 118 (by omega)]; exact (hBS u hu hbu).2.1
            have hnx : (if l ≠ υ.1 118 (bc σ u) then (bc σ u : Int) + (if 0 ≤ υ.1 92 l.toNat then (3 : Int) else (2 : Int)) else (bc σ u : Int) + 1) = (bc σ (u + ln3 σ l.toNat) : Int) := by
              rw [r118, hFr.1 92 (by omega)]
              by_cases y : l = lb σ u
              · rw [if_neg (fun w => w y), k4 y]; omega
              · rw [if_pos y]
                rcases hor2 with w | ⟨g, w1, w2, w3⟩
                · exact absurd w y
                · rw [k5 g w1 w3]
                  have hs7 : σ.1 89 g = 7 := by
                    unfold opb at w3
                    simp only [Bool.and_eq_true, decide_eq_true_iff] at w3
                    exact w3.1.1
                  have hc : (if 0 ≤ σ.1 92 g then (3 : Int) else 2) = (ln3 σ g : Int) := by
                    unfold ln3
                    rw [if_pos hs7]
                    by_cases zz : σ.1 92 g < 0
                    · rw [if_neg (by omega), if_pos zz]; rfl
                    · rw [if_pos (by omega), if_neg zz]; rfl
                  have hc' : (if 0 ≤ σ.1 92 g then (3 : Int) else 2) = (ln3 σ g : Int) := hc
                  rw [w1, Int.toNat_natCast g, hc']
                  omega
            rw [hr, Int.toNat_natCast (bc σ u), hnx]
            obtain ⟨pl1, pl2⟩ := place_M hS hT hBS (hFr.1 121 (by omega)) (hFr.1 122 (by omega)) hu hmem
            refine ⟨fun _ => ⟨by omega, fun _ => ⟨by omega, by split <;> exact ⟨by decide, by decide⟩⟩, ⟨by omega, by omega⟩, fun z2 => ?_, fun z2 => ⟨by omega, pl1, ?_⟩⟩, fun z => absurd z (by omega)⟩
            · rw [if_pos (Or.inl (by omega))] at hck
              exact ⟨⟨by omega, by omega⟩, fail _ _ (by omega) rfl hck.symm⟩
            · rw [pl2, e153 (k + 1) (by omega)]
              have f17 : υ.2.1 8 17 = σ.2.1 8 17 := hFr.2.2.1 17 (by omega)
              have pb := plc_b (σ := σ) (u := u) (l := l)
              have hrg1 := hrg (k + 1)
              have if2 : b_MO_isOf υ (c (k + 1)) l (plc σ u l) ↔ isF σ u l (c (k + 1)) = true := by
                unfold b_MO_isOf isF
                rw [f17, hFr.1 95 (by omega), hFr.1 96 (by omega), decide_eq_true_iff]
              refine ⟨?_, fun hf => ?_, fun hf => ?_⟩
              · unfold p_MO_isOf
                rw [f17]
                exact ⟨hrg1, ⟨by omega, by omega⟩, fun w => ⟨by omega, ⟨by omega, by omega⟩, fun _ => ⟨by omega, by omega⟩⟩⟩
              · have hfT := if2.mp hf
                have hf1 : 0 ≤ c (k + 1) ∧ c (k + 1) ≤ σ.2.1 8 17 - 1 := by have := hf.1; rw [f17] at this; exact this
                have hfo : FOk σ (c (k + 1)).toNat := by unfold FOk; omega
                have fb := form_b hS hfo
                obtain ⟨f, hfn⟩ : ∃ f : Nat, c (k + 1) = f := ⟨(c (k + 1)).toNat, by omega⟩
                have hm0 : 0 ≤ σ.1 102 (c (k + 1)).toNat ∧ σ.1 102 (c (k + 1)).toNat ≤ 12 := fb.2.2.2.2.2.2.1
                have hm0' : 0 ≤ σ.1 102 (c (k + 1)).toNat ∧ σ.1 102 (c (k + 1)).toNat ≤ 12 := hm0
                rw [hFr.1 102 (by omega)]
                have nf : ¬ (N ≤ k + 1 ∨ isF σ u l (c (k + 1)) = false) := fun w => by
                  rcases w with w | w
                  · omega
                  · rw [hfT] at w; exact absurd w (by decide)
                rw [if_neg nf] at hck
                refine ⟨⟨by omega, by omega⟩, fun z3 => ?_, fun z3 => ⟨by omega, by omega, ?_⟩⟩
                · rw [if_pos (Or.inl (by omega))] at hck
                  exact ⟨⟨by omega, by omega⟩, fail ((k : Int) + 2) _ (by omega) (by omega) hck.symm⟩
                · rw [e153 (k + 2) (by omega)]
                  have bad : isS σ u st l (c (k + 1)) (c (k + 2)) = false → rng (-((k : Int) + 1 + 1) - 1) ∧ (FrS σ υ ∧ (R.1 = -6 ∧ 0 ≤ (-((k : Int) + 1 + 1) - 1) ∧ SMx σ R.2 υ ∧ Chn σ F R.2 E ∧ υ.2.1 8 64 = wa σ a ∧ υ.2.1 8 65 = we σ b ∨ 0 ≤ R.1 ∧ (-((k : Int) + 1 + 1) - 1) = -R.1 - 1)) := fun hsF => by
                    rw [if_pos (Or.inr hsF)] at hck
                    exact ⟨⟨by omega, by omega⟩, fail ((k : Int) + 2) _ (by omega) (by omega) hck.symm⟩
                  refine ⟨fun hs => bad ?_, fun hs => ?_⟩
                  · unfold isS
                    rw [decide_eq_false_iff_not]
                    exact fun w => hs w.1
                  · obtain ⟨s, hsn⟩ : ∃ s : Nat, c (k + 2) = s := ⟨(c (k + 2)).toNat, by omega⟩
                    rw [hsn] at hs
                    have hs2 : (s : Int) ≤ 12 := by omega
                    obtain ⟨s1, s2, s3⟩ := sb_M hS hT hC (hFr.1 117 (by omega)) (hFr.1 94 (by omega)) (s := s) hu hbu hl0 hst (by omega)
                    rw [hsn, s1]
                    refine ⟨s2, fun hsb => ?_, fun hsb => ?_⟩
                    · have hsT : isS σ u st l (c (k + 1)) (c (k + 2)) = true := by
                        unfold isS
                        rw [decide_eq_true_iff, hsn, Int.toNat_natCast]
                        exact ⟨hs, hsb⟩
                      rw [if_neg (fun w => by rcases w with w | w; · omega
                                              · rw [hsT] at w; exact absurd w (by decide)), hfn, hsn, Int.toNat_natCast, Int.toNat_natCast] at hck
                      unfold isF at hfT
                      rw [decide_eq_true_iff, hfn, Int.toNat_natCast] at hfT
                      rw [hfn, Int.toNat_natCast] at hs
                      have hfo2 : FOk σ f := by rw [hfn, Int.toNat_natCast] at hfo; exact hfo
                      have hq : GPc σ ((u, l, f, s) : Pc) := ⟨hu, hmem, hfo2, hs.2, hfT.2.1, hfT.2.2⟩
                      rw [hfn]
                      refine CJ.mono (t_addM (q := ((u, l, f, s) : Pc)) hS hT hC hFr hch hq hSM) (fun _ υ2 _ hυ2 => ?_)
                      obtain ⟨y1, y2, y3, y4, y5⟩ := hυ2
                      have hF2 : FrS σ υ2 := hFr.trans y2
                      have x153 : υ2.1 153 (k + 2) = (s : Int) := by rw [hF2.1 153 (by omega), hcl _ (by omega)]; exact hsn
                      obtain ⟨v1, v2, v3⟩ := sb_M hS hT hC (hF2.1 117 (by omega)) (hF2.1 94 (by omega)) (s := s) hu hbu hl0 hst (by omega)
                      rw [x153, v1]
                      refine ⟨v2, ?_⟩
                      obtain ⟨sb, hsb2⟩ : ∃ sb : Nat, sbA σ u st l s = sb := ⟨(sbA σ u st l s).toNat, by omega⟩
                      rw [hsb2, Int.toNat_natCast] at hck
                      rw [hsb2, show (k : Int) + 1 + 1 + 1 = ((k + 3 : Nat) : Int) by omega]
                      refine ih (k + 3) (u + ln3 σ l.toNat) sb (ps ++ [(u, l, f, s)]) υ2 (by simp; omega) (by simp; omega) (Chn_snoc hq hch) hnE k2 y1 hF2 ?_ ?_ (by omega) hck
                      · exact (show υ2.2.1 8 64 = υ.2.1 8 64 from y5 64 (by decide) (by decide) (by decide)).trans h4
                      · exact (show υ2.2.1 8 65 = υ.2.1 8 65 from y5 65 (by decide) (by decide) (by decide)).trans h5
                    · refine bad ?_
                      unfold isS
                      rw [decide_eq_false_iff_not]
                      intro w
                      rw [hsn, Int.toNat_natCast] at w
                      omega
              · have hfF : isF σ u l (c (k + 1)) = false := by
                  cases y : isF σ u l (c (k + 1)) with
                  | false => rfl
                  | true => exact absurd (if2.mpr y) hf
                rw [if_pos (Or.inr hfF)] at hck
                exact ⟨⟨by omega, by omega⟩, fail _ _ (by omega) rfl hck.symm⟩
  have h0 := loop 80 0 F 0 [] υ0 rfl rfl rfl (by omega) f3 g1 g2 g4 g5 (by decide) hR
  exact h0
