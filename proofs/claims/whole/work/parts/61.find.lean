/-! findLeast of the reference -/
def ix (p w st : Nat) : Nat := (p * 301 + w) * 4 + st
def RowIs (τ : St) (p : Nat) (R : Nat → Nat → Int) : Prop := ∀ w st, w ≤ 300 → st < 4 → τ.1 124 (ix p w st) = R w st
def FLs (σ τ : St) : Prop := τ.2 = σ.2 ∧ ∀ k, k ≠ 124 → τ.1 k = σ.1 k
theorem ix_e {p w st : Nat} : ((((p : Int) * 301) + (w : Int)) * 4 + (st : Int)).toNat = ix p w st := by unfold ix; omega
theorem t_withStretch {G : GT} {σ τ : St} (hS : IS σ) (hC : CTx σ σ) (hF : FLs σ τ) {u f s q : Nat} {l : Int} {T : Nat → Nat → Nat → Int} {R : Nat → Nat → Int} (hu : u < nU σ) (hb : bh σ u ≤ u) (h80 : nU σ ≤ 80) (hq : bc σ u < q) (hq80 : q ≤ 80) (hf : FOk σ f) (hl : σ.1 95 f = l) (hl0 : 0 ≤ l ∧ l < σ.2.1 8 6) (hs : (s : Int) ≤ σ.1 102 f) (hT : RowIs τ q (T (u + ln3 σ l.toNat))) (hR : RowIs τ (bc σ u) R) (bT : ∀ w st, 0 ≤ T (u + ln3 σ l.toNat) w st ∧ T (u + ln3 σ l.toNat) w st ≤ NV) : CJ G m_MO_withStretch [O 8, I (bc σ u), I q, I f, I s] τ (fun _ υ => FLs σ υ ∧ (∀ j, j < 1204 * bc σ u ∨ 1204 * bc σ u + 1204 ≤ j → υ.1 124 j = τ.1 124 j) ∧ RowIs υ (bc σ u) (fun w st => stp σ u T w st (R w st) (l, f, s))) := by
  have n := hS.1
  unfold NumOk at n
  obtain ⟨b0, b1, b2, b3, b4, b5, b6, b7⟩ := form_b hS hf
  obtain ⟨c1, c2⟩ := cst_b hS hf hs
  have hbc := bc_le (σ := σ) (u := u)
  obtain ⟨-, -, -, -, -, hBS, -⟩ := hC
  have hk := (hBS u hu hb).1
  obtain ⟨f2, fo⟩ := hF
  have NVe : NV = 536870912 := rfl
  have hsb : ∀ st : Nat, f_MO_stateBehind τ (bc σ u) st l s = sbA σ u st l s ∧ p_MO_stateBehind τ (bc σ u) st l s ∨ 4 ≤ st := fun st => by
    by_cases h4 : 4 ≤ st
    · exact Or.inr h4
    · left
      have e1 : τ.1 117 (bc σ u) = kd σ u := by rw [fo 117 (by decide)]; exact hk
      have hk3 : kd σ u = 3 ↔ us σ u = 6 := by
        unfold kd
        by_cases z : us σ u = 6
        · rw [if_pos z]; exact ⟨fun _ => z, fun _ => rfl⟩
        · rw [if_neg z]
          refine ⟨fun w => ?_, fun w => absurd w z⟩
          split at w
          · exact absurd w (by decide)
          · split at w <;> exact absurd w (by decide)
      constructor
      · unfold f_MO_stateBehind sbA
        rw [Int.toNat_natCast, e1, fo 94 (by decide)]
        by_cases z : us σ u = 6
        · rw [if_pos z, if_neg (fun w => w (hk3.mpr z))]
        · rw [if_neg z, if_pos (fun w => z (hk3.mp w))]
          by_cases s0 : 0 < s
          · rw [if_neg (show ¬ (s : Int) ≤ 0 by omega)]
            by_cases t0 : 0 < st
            · rw [if_neg (show ¬ (st : Int) ≤ 0 by omega), if_pos ⟨s0, t0⟩]
            · rw [if_pos (show (st : Int) ≤ 0 by omega), if_neg (show ¬ (0 < s ∧ 0 < st) from fun w => t0 w.2), if_pos (show (0 : Int) < s by omega), if_pos (show 0 < s ∨ 1 < st from Or.inl s0)]
          · rw [if_pos (show (s : Int) ≤ 0 by omega), if_neg (show ¬ (0 < s ∧ 0 < st) from fun w => s0 w.1), if_neg (show ¬ (0 : Int) < s by omega)]
            by_cases t1 : 1 < st
            · rw [if_neg (show ¬ (st : Int) ≤ 1 by omega), if_pos (show 0 < s ∨ 1 < st from Or.inr t1)]
            · rw [if_pos (show (st : Int) ≤ 1 by omega), if_neg (show ¬ (0 < s ∨ 1 < st) by omega)]
      · have r3 : rng ((if 0 < (s : Int) then (2 : Int) else if (st : Int) ≤ 1 then (0 : Int) else (2 : Int)) + (if τ.1 94 l.toNat ≠ 0 then 1 else 0)) := by
          constructor <;> (split <;> split <;> (try split) <;> omega)
        exact ⟨by omega, fun _ => ⟨⟨by omega, by omega⟩, fun _ => ⟨fun _ => ⟨by omega, by omega⟩, by omega, r3⟩, fun _ => ⟨⟨by omega, by omega⟩, fun _ => ⟨by omega, r3⟩⟩⟩⟩
  have sbb : ∀ st : Nat, st < 4 → sbA σ u st l s = -1 ∨ (0 ≤ sbA σ u st l s ∧ sbA σ u st l s < 4) := fun st h => by
    unfold sbA
    split
    · omega
    · split
      · omega
      · split <;> split <;> omega
  refine CJ.go (fun _ => k_MO_withStretch_0 ?_)
  rw [Int.toNat_natCast, fo 97 (by decide), fo 100 (by decide), fo 103 (by decide)]
  have hc : σ.1 100 f + σ.1 103 f * s * s = cst σ f s := rfl
  rw [hc]
  have hwd : σ.1 97 f + (s : Int) = (wd σ f s : Int) := by unfold wd; omega
  rw [hwd]
  have wb : 1 ≤ wd σ f s ∧ wd σ f s ≤ 112 := by unfold wd; omega
  refine ⟨by omega, ⟨by omega, by omega⟩, ?_⟩
  -- over the states
  have outer : ∀ (d st : Nat) (υ : St), st + d = 4 → FLs σ υ → (∀ j, j < 1204 * bc σ u ∨ 1204 * bc σ u + 1204 ≤ j → υ.1 124 j = τ.1 124 j) → RowIs υ (bc σ u) (fun w st' => if st' < st then stp σ u T w st' (R w st') (l, f, s) else R w st') → a_MO_withStretch_33 G (bc σ u) q f s (wd σ f s) (cst σ f s) st υ (fun _ υ => FLs σ υ ∧ (∀ j, j < 1204 * bc σ u ∨ 1204 * bc σ u + 1204 ≤ j → υ.1 124 j = τ.1 124 j) ∧ RowIs υ (bc σ u) (fun w st => stp σ u T w st (R w st) (l, f, s))) := by
    intro d
    induction d with
    | zero =>
      intro st υ hst g1 g2 g3
      refine k_MO_withStretch_33 ⟨⟨by omega, by omega⟩, fun _ => ⟨g1, g2, fun w st' hw h4 => ?_⟩, fun z => absurd z (by omega)⟩
      rw [g3 w st' hw h4]
      show (if _ then _ else _) = _
      rw [if_pos (by omega)]
    | succ d ih =>
      intro st υ hst g1 g2 g3
      have hsu : f_MO_stateBehind υ (bc σ u) st l s = sbA σ u st l s ∧ p_MO_stateBehind υ (bc σ u) st l s := by
        have e : f_MO_stateBehind υ (bc σ u) st l s = f_MO_stateBehind τ (bc σ u) st l s := by
          unfold f_MO_stateBehind
          rw [g1.2 117 (by decide), g1.2 94 (by decide), fo 117 (by decide), fo 94 (by decide)]
        have e2 : p_MO_stateBehind υ (bc σ u) st l s = p_MO_stateBehind τ (bc σ u) st l s := by
          unfold p_MO_stateBehind
          rw [g1.2 117 (by decide), g1.2 94 (by decide), fo 117 (by decide), fo 94 (by decide)]
        rcases hsb st with w | w
        · rw [e, e2]; exact w
        · omega
      refine k_MO_withStretch_33 ?_
      rw [Int.toNat_natCast f, g1.2 95 (by decide), hl, hsu.1]
      refine ⟨⟨by omega, by omega⟩, fun z => absurd z (by omega), fun _ => ⟨by omega, hsu.2, ?_⟩⟩
      have sb := sbb st (by omega)
      -- over the widths
      by_cases hneg : sbA σ u st l s < 0
      · refine k_MO_withStretch_60 ⟨⟨by omega, by omega⟩, fun _ => ?_, fun z => absurd z (by omega)⟩
        refine ih (st + 1) υ (by omega) g1 g2 (fun w st' hw h4 => ?_)
        rw [g3 w st' hw h4]
        show (if _ then _ else _) = (if _ then _ else _)
        by_cases e1 : st' < st
        · rw [if_pos e1, if_pos (by omega)]
        · rw [if_neg e1]
          by_cases e2 : st' = st
          · subst e2
            rw [if_pos (by omega)]
            unfold stp
            rw [if_neg (fun w => by have := w.1; simp only at this; omega)]
          · rw [if_neg (by omega)]
      · obtain ⟨to, hto⟩ : ∃ to : Nat, sbA σ u st l s = to := ⟨(sbA σ u st l s).toNat, by omega⟩
        have to4 : to < 4 := by omega
        rw [hto]
        have inner : ∀ (e w : Nat) (υ : St), w + e = 301 → wd σ f s ≤ w → FLs σ υ → (∀ j, j < 1204 * bc σ u ∨ 1204 * bc σ u + 1204 ≤ j → υ.1 124 j = τ.1 124 j) → RowIs υ (bc σ u) (fun w' st' => if st' < st ∨ (st' = st ∧ w' < w) then stp σ u T w' st' (R w' st') (l, f, s) else R w' st') → a_MO_withStretch_60 G (bc σ u) q f s (wd σ f s) (cst σ f s) st to w υ (fun _ υ => FLs σ υ ∧ (∀ j, j < 1204 * bc σ u ∨ 1204 * bc σ u + 1204 ≤ j → υ.1 124 j = τ.1 124 j) ∧ RowIs υ (bc σ u) (fun w st => stp σ u T w st (R w st) (l, f, s))) := by
          intro e
          induction e with
          | zero =>
            intro w υ hw hwl g1 g2 g3
            refine k_MO_withStretch_60 ⟨⟨by omega, by omega⟩, fun z => absurd z (by omega), fun _ => ⟨⟨by omega, by omega⟩, fun _ => ?_, fun z => absurd z (by omega)⟩⟩
            refine ih (st + 1) υ (by omega) g1 g2 (fun w' st' hw' h4 => ?_)
            rw [g3 w' st' hw' h4]
            show (if _ then _ else _) = (if _ then _ else _)
            by_cases e1 : st' < st + 1
            · rw [if_pos e1, if_pos (by omega)]
            · rw [if_neg e1, if_neg (by omega)]
          | succ e ihe =>
            intro w υ hw hwl g1 g2 g3
            have i1 : ((((q : Int) * 301) + ((w : Int) - (wd σ f s : Int))) * 4 + (to : Int)).toNat = ix q (w - wd σ f s) to := by unfold ix; omega
            have i2 : ((((bc σ u : Int) * 301) + (w : Int)) * 4 + (st : Int)).toNat = ix (bc σ u) w st := ix_e
            have rq : υ.1 124 (ix q (w - wd σ f s) to) = T (u + ln3 σ l.toNat) (w - wd σ f s) to := by
              rw [g2 _ (by unfold ix; omega)]
              exact hT _ _ (by omega) to4
            have rp : υ.1 124 (ix (bc σ u) w st) = R w st := by
              rw [g3 w st (by omega) (by omega)]
              show (if _ then _ else _) = _
              rw [if_neg (by omega)]
            have bTt := bT (w - wd σ f s) to
            refine k_MO_withStretch_60 ?_
            rw [i1, i2, rq, rp]
            have new : stp σ u T w st (R w st) (l, f, s) = min (R w st) (T (u + ln3 σ l.toNat) (w - wd σ f s) to + cst σ f s) := by
              unfold stp
              simp only
              rw [hto, Int.toNat_natCast, if_pos ⟨by omega, hwl⟩]
            refine ⟨⟨by omega, by omega⟩, fun z => absurd z (by omega), fun _ => ⟨⟨by omega, by omega⟩, fun z => absurd z (by omega), fun _ => ⟨⟨by omega, by omega⟩, by omega, ⟨by omega, by omega⟩, by omega, ⟨by omega, by omega⟩, fun z => ?_, fun z s50 e50 => ?_⟩⟩⟩
            · refine ihe (w + 1) υ (by omega) (by omega) g1 g2 (fun w' st' hw' h4 => ?_)
              rw [g3 w' st' hw' h4]
              show (if _ then _ else _) = (if _ then _ else _)
              by_cases e1 : st' = st ∧ w' = w
              · obtain ⟨rfl, rfl⟩ := e1
                rw [if_neg (by omega), if_pos (by omega), new]
                omega
              · by_cases e2 : st' < st ∨ (st' = st ∧ w' < w)
                · rw [if_pos e2, if_pos (by omega)]
                · rw [if_neg e2, if_neg (by omega)]
            · refine ihe (w + 1) s50 (by omega) (by omega) ⟨by rw [e50]; exact g1.1, fun k hk => by rw [e50, sa_ne hk]; exact g1.2 k hk⟩ (fun j hj => by rw [e50, sa_nx (by unfold ix; omega)]; exact g2 j hj) (fun w' st' hw' h4 => ?_)
              rw [e50, sa_1]
              show _ = (if _ then _ else _)
              by_cases e1 : st' = st ∧ w' = w
              · obtain ⟨rfl, rfl⟩ := e1
                rw [if_pos ⟨rfl, rfl⟩, if_pos (by omega), new]
                omega
              · rw [if_neg (fun z => e1 (by have := z.2; unfold ix at this; omega)), g3 w' st' hw' h4]
                show (if _ then _ else _) = _
                by_cases e2 : st' < st ∨ (st' = st ∧ w' < w)
                · rw [if_pos e2, if_pos (by omega)]
                · rw [if_neg e2, if_neg (by omega)]
        refine inner (301 - wd σ f s) (wd σ f s) υ (by omega) (Nat.le_refl _) g1 g2 (fun w st' hw h4 => ?_)
        rw [g3 w st' hw h4]
        show (if _ then _ else _) = (if _ then _ else _)
        by_cases e1 : st' < st
        · rw [if_pos e1, if_pos (by omega)]
        · rw [if_neg e1]
          by_cases e2 : st' = st ∧ w < wd σ f s
          · rw [if_pos (Or.inr e2), e2.1]
            unfold stp
            rw [if_neg (fun z => by have := z.2; simp only at this; omega)]
          · rw [if_neg (by omega)]
  refine outer 4 0 τ (by omega) ⟨f2, fo⟩ (fun _ _ => rfl) (fun w st hw h4 => ?_)
  rw [hR w st hw h4]
  show _ = (if _ then _ else _)
  rw [if_neg (by omega)]
