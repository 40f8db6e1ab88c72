/-! the class's filler goes back -/
def stc (s : Nat) : Nat := if s = 0 then 0 else if s = 1 then 2 else 1
def lkR (σ : St) (u E : Nat) : Bool := (List.range' u (E - u)).any (lk σ)
def TJ (σ : St) (E : Nat) : Nat → Nat → Nat → Int := fun v w st => if lkR σ v E = true then NV else LL σ E v w st
def CL (σ : St) (E u s w : Nat) : Int := TJ σ E u w (stc s)
def brs (σ : St) : Bool := (List.range (nL σ)).any (fun l => decide (σ.1 94 l ≠ 0))
def SCn (σ : St) (E u : Nat) : Nat := if u = E then 1 else if us σ u = 6 ∨ u = 0 ∨ us σ (u - 1) = 6 then 1 else if brs σ = true then 3 else 2
theorem lkR_iff {σ : St} {u E : Nat} : lkR σ u E = true ↔ ∃ v, u ≤ v ∧ v < E ∧ lk σ v = true := by
  unfold lkR
  rw [List.any_eq_true]
  constructor
  · rintro ⟨v, v1, v2⟩
    have := List.mem_range'_1.mp v1
    exact ⟨v, by omega, by omega, v2⟩
  · rintro ⟨v, v1, v2, v3⟩
    exact ⟨v, List.mem_range'_1.mpr (by omega), v3⟩
theorem lkR_split {σ : St} {u m E : Nat} (h1 : u ≤ m) (h2 : m ≤ E) : lkR σ u E = true ↔ lkR σ u m = true ∨ lkR σ m E = true := by
  rw [lkR_iff, lkR_iff, lkR_iff]
  constructor
  · rintro ⟨v, v1, v2, v3⟩
    rcases Nat.lt_or_ge v m with q | q
    · exact Or.inl ⟨v, v1, q, v3⟩
    · exact Or.inr ⟨v, q, v2, v3⟩
  · rintro (⟨v, v1, v2, v3⟩ | ⟨v, v1, v2, v3⟩)
    · exact ⟨v, v1, by omega, v3⟩
    · exact ⟨v, by omega, v2, v3⟩
theorem t_lackMarks {G : GT} {σ τ : St} (hU : UNx σ τ) {u E : Nat} (hE : E ≤ nU σ) (hE8 : E ≤ 80) (hu : u ≤ E) : CJ G m_UN_lackMarks [O 4, I u, I ((E : Int) - 1)] τ (fun r v => v = τ ∧ r = if lkR σ u E = true then 1 else 0) := by
  refine CJ.go (fun _ => k_UN_lackMarks_0 ?_)
  have loop : ∀ (d i : Nat), i + d = E → u ≤ i → (∀ v, u ≤ v → v < i → lk σ v = false) → a_UN_lackMarks_2 G ((E : Int) - 1) i τ (fun r v => v = τ ∧ r = if lkR σ u E = true then 1 else 0) := by
    intro d
    induction d with
    | zero =>
      intro i hi hui hno
      refine k_UN_lackMarks_2 ⟨⟨by omega, by omega⟩, ⟨by omega, by omega⟩, fun _ => ⟨rfl, ?_⟩, fun z => absurd z (by omega)⟩
      rw [if_neg (fun w => ?_)]
      obtain ⟨v, v1, v2, v3⟩ := lkR_iff.mp w
      rw [hno v v1 (by omega)] at v3
      exact absurd v3 (by decide)
    | succ d ih =>
      intro i hi hui hno
      have hx := (hU.2.2.2.1 i (by omega)).2.2.2.2.2.2.1
      refine k_UN_lackMarks_2 ?_
      rw [Int.toNat_natCast, hx]
      refine ⟨⟨by omega, by omega⟩, ⟨by omega, by omega⟩, fun z => absurd z (by omega), fun _ => ⟨by omega, fun z => ?_, fun z => ⟨rfl, ?_⟩⟩⟩
      · refine ih (i + 1) (by omega) (by omega) (fun v h1 h2 => ?_)
        by_cases q : v = i
        · rw [q]
          cases hl : lk σ i with
          | false => rfl
          | true => rw [hl] at z; simp at z
        · exact hno v h1 (by omega)
      · have hl : lk σ i = true := by
          cases hl : lk σ i with
          | true => rfl
          | false => rw [hl] at z; simp at z
        rw [if_pos (lkR_iff.mpr ⟨i, hui, by omega, hl⟩)]
  exact loop (E - u) u (by omega) (Nat.le_refl _) (fun v h1 h2 => absurd h1 (by omega))
theorem place_J {σ τ : St} (hS : IS σ) (hT : IT σ) (hU : UNx σ τ) (h49 : τ.1 49 = σ.1 49) {u : Nat} (hu : u < nU σ) {l : Int} (hl : 0 ≤ l ∧ l < σ.2.1 8 6) (hle : u + ln3 σ l.toNat ≤ nU σ) : p_UN_placeOf τ u l ∧ f_UN_placeOf τ u l = plc σ u l := by
  have n := hS.1
  unfold NumOk at n
  have n8 := nU_le hT
  have lp := (ln3_pos (σ := σ) (g := l.toNat)).1
  have e49 : τ.1 49 l.toNat = (ln3 σ l.toNat : Int) := by rw [h49]; exact ln3_J hS (by omega)
  have e2 : ((u : Int) + (ln3 σ l.toNat : Int) - 1).toNat = u + ln3 σ l.toNat - 1 := by omega
  have j2 := (hU.2.2.2.1 (u + ln3 σ l.toNat - 1) (by omega)).2.2.2.2.2.1
  have jpe : (0 < (u : Int) ∧ τ.1 69 (((u : Int) - 1).toNat) ≠ 0) ↔ jp σ u = true := by
    unfold jp
    rw [Bool.and_eq_true, decide_eq_true_iff]
    constructor
    · rintro ⟨q1, q2⟩
      have j1 := (hU.2.2.2.1 (u - 1) (by omega)).2.2.2.2.2.1
      rw [show ((u : Int) - 1).toNat = u - 1 by omega, j1] at q2
      refine ⟨by omega, ?_⟩
      cases h : jn σ (u - 1) with
      | true => rfl
      | false => rw [h] at q2; simp at q2
    · rintro ⟨q1, q2⟩
      have j1 := (hU.2.2.2.1 (u - 1) (by omega)).2.2.2.2.2.1
      rw [show ((u : Int) - 1).toNat = u - 1 by omega, j1, q2]
      exact ⟨by omega, by simp⟩
  have key : f_UN_placeOf τ u l = plc σ u l := by
    unfold f_UN_placeOf plc
    rw [e49, e2, j2]
    by_cases q : jp σ u = true
    · rw [if_pos q, if_neg (fun w => w (jpe.mpr q))]
      cases jn σ (u + ln3 σ l.toNat - 1) <;> rfl
    · rw [if_neg q, if_pos (fun w => q (jpe.mp w))]
      cases jn σ (u + ln3 σ l.toNat - 1) <;> rfl
  refine ⟨⟨⟨by omega, by omega⟩, fun _ => by omega, by omega, by rw [e49]; omega, fun _ => ?_⟩, key⟩
  split <;> exact ⟨by decide, by decide⟩
/-- a form is offered to one row -/
theorem t_offerForm {G : GT} {σ τ : St} (hS : IS σ) (hT : IT σ) (hU : UNx σ σ) (hF : Fr WF σ τ) {u E s f lim : Nat} {l : Int} {R : Nat → Int} (hu : u < E) (hE : Bnd σ E) (hl : l ∈ kl σ u) (hf : FOk σ f) (hs : s < SCn σ E u) (hlim : lim ≤ 300) (h5 : τ.2.1 5 5 = E) (h6 : τ.2.1 5 6 = lim) (hrow : PRow lim (3 * u + s) R τ) (bR : ∀ w, w ≤ lim → 0 ≤ R w ∧ R w ≤ NV) (hN : ∀ s, s < SCn σ E (u + ln3 σ l.toNat) → PRow lim (3 * (u + ln3 σ l.toNat) + s) (CL σ E (u + ln3 σ l.toNat) s) τ) : CJ G m_FI_offerForm [O 5, I u, I s, I l, I f] τ (fun _ υ => ORow (3 * u + s) τ υ ∧ PRow lim (3 * u + s) (fun w => (optS σ l f).foldl (stp σ u (TJ σ E) w (stc s)) (R w)) υ ∧ ∀ w, w ≤ lim → 0 ≤ (optS σ l f).foldl (stp σ u (TJ σ E) w (stc s)) (R w) ∧ (optS σ l f).foldl (stp σ u (TJ σ E) w (stc s)) (R w) ≤ NV) := by
  have n := hS.1
  unfold NumOk at n
  have n8 := nU_le hT
  have hun : u < nU σ := by have := hE.1; omega
  obtain ⟨hb, hl0, hle, hor, cr⟩ := kl_mem hS hT hun hl
  have hnE := cr E hu hE.1 hE.2
  have lp := ln3_pos (σ := σ) (g := l.toNat)
  obtain ⟨b0, b1, b2, b3, b4, b5, b6, b7⟩ := form_b hS hf
  obtain ⟨j1, j2, j3, j4, j5, j6, j7⟩ := form_J hS hf
  obtain ⟨M, hM⟩ : ∃ M : Nat, σ.1 102 f = M := ⟨(σ.1 102 f).toNat, by omega⟩
  have NVe : NV = 536870912 := rfl
  have E8 := hE.1
  have fx : ∀ k, ¬ WF k → τ.1 k = σ.1 k := fun k hk => (hF.1 k hk).1
  have s3 : s < 3 := by
    unfold SCn at hs
    split at hs
    · omega
    · split at hs
      · omega
      · split at hs <;> omega
  have sb : us σ u = 6 → s = 0 := fun q => by
    unfold SCn at hs
    rw [if_neg (by omega), if_pos (Or.inl q)] at hs
    omega
  have e49 : ∀ υ : St, υ.1 49 = σ.1 49 → υ.1 49 l.toNat = (ln3 σ l.toNat : Int) := fun υ h => by rw [h]; exact ln3_J hS (by omega)
  have e50 : σ.1 50 l.toNat = σ.1 94 l.toNat := (hS.2.1 l.toNat (by omega)).2.2.1
  -- which row lies behind
  obtain ⟨v, hv⟩ : ∃ v, u + ln3 σ l.toNat = v := ⟨_, rfl⟩
  rw [hv] at hnE hN hle
  have bT : ∀ w st, 0 ≤ TJ σ E v w st ∧ TJ σ E v w st ≤ NV := fun w st => by
    unfold TJ
    split
    · exact ⟨by decide, Int.le_refl _⟩
    · exact LL_b hS hT hE.1 (E - v) v (by omega) w st
  have behind : ∀ (υ : St) (x : Nat), υ.2 = τ.2 → (∀ k, k ≠ 75 → k ≠ 76 → k < 376 → υ.1 k = τ.1 k) → (s ≠ 0 → x = 0) → x ≤ 12 → ∃ b : Nat, f_FI_stateBehind υ u s l x = b ∧ p_FI_stateBehind υ u s l x ∧ b < SCn σ E v ∧ 0 ≤ sbA σ u (stc s) l x ∧ ∀ w, CL σ E v b w = TJ σ E v w (sbA σ u (stc s) l x).toNat := by
    intro υ x h2 ho hx hx12
    have r49 : υ.1 49 l.toNat = (ln3 σ l.toNat : Int) := e49 υ (by rw [ho 49 (by decide) (by decide) (by decide)]; exact fx 49 (by unfold WF; omega))
    have r65 : ∀ i, i < nU σ → υ.1 65 i = if us σ i = 6 then 1 else 0 := fun i hi => by
      rw [ho 65 (by decide) (by decide) (by decide), fx 65 (by unfold WF; omega)]
      exact (hU.2.2.2.1 i hi).2.2.2.2.1
    have r50 : υ.1 50 l.toNat = σ.1 94 l.toNat := by
      rw [ho 50 (by decide) (by decide) (by decide), fx 50 (by unfold WF; omega)]; exact e50
    have r5 : υ.2.1 5 5 = E := by rw [h2]; exact h5
    have ev : ((u : Int) + (ln3 σ l.toNat : Int)) = (v : Int) := by omega
    have p : p_FI_stateBehind υ u s l x := by
      unfold p_FI_stateBehind
      rw [r49, ev]
      refine ⟨by omega, ⟨by omega, by omega⟩, fun _ => ⟨by omega, fun _ => ⟨by omega, fun _ => ⟨⟨by omega, by omega⟩, fun _ => ⟨⟨by omega, by omega⟩, fun _ => ?_⟩⟩⟩⟩⟩
      split <;> exact ⟨by decide, by decide⟩
    have sb0 : 0 ≤ sbA σ u (stc s) l x := by
      unfold sbA
      split
      · omega
      · split
        · rename_i q
          exfalso
          unfold stc at q
          by_cases z : s = 0
          · rw [if_pos z] at q; omega
          · have := hx z; omega
        · split <;> split <;> omega
    have f : f_FI_stateBehind υ u s l x = if E ≤ v then 0 else if us σ v = 6 then 0 else if us σ u = 6 then 0 else if s = 1 ∨ 0 < x then 1 else if σ.1 94 l.toNat = 0 then 0 else 2 := by
      unfold f_FI_stateBehind
      rw [r49, ev, r5, r50]
      by_cases q1 : E ≤ v
      · rw [if_pos (by omega), if_pos q1]
      · rw [if_neg (by omega), if_neg q1, Int.toNat_natCast, r65 v (by omega), Int.toNat_natCast, r65 u hun]
        by_cases q2 : us σ v = 6
        · rw [if_pos q2, if_pos q2, if_pos (by decide)]
        · rw [if_neg q2, if_neg q2, if_neg (by decide)]
          by_cases q3 : us σ u = 6
          · rw [if_pos q3, if_pos q3, if_neg (by decide)]
          · rw [if_neg q3, if_neg q3, if_pos rfl]
            by_cases q4 : s = 1
            · rw [if_pos (by omega), if_pos (Or.inl q4)]
            · rw [if_neg (by omega)]
              by_cases q5 : 0 < x
              · rw [if_neg (by omega), if_pos (Or.inr q5)]
              · rw [if_pos (by omega), if_neg (show ¬ (s = 1 ∨ 0 < x) by omega)]
    have hst : ∀ a b : Nat, (E ≤ v ∨ us σ v = 6) → ∀ w, TJ σ E v w a = TJ σ E v w b := fun a b h w => by
      unfold TJ
      split
      · rfl
      · rcases h with q | q
        · have : v = E := by omega
          rw [this, LL_end, LL_end]
        · by_cases q2 : v = E
          · rw [q2, LL_end, LL_end]
          · exact LL_blank q (by omega)
    by_cases q1 : E ≤ v
    · refine ⟨0, by rw [f, if_pos q1]; rfl, p, ?_, sb0, fun w => hst _ _ (Or.inl q1) w⟩
      unfold SCn
      rw [if_pos (by omega)]; omega
    · rw [if_neg q1] at f
      by_cases q2 : us σ v = 6
      · refine ⟨0, by rw [f, if_pos q2]; rfl, p, ?_, sb0, fun w => hst _ _ (Or.inr q2) w⟩
        unfold SCn
        rw [if_neg (by omega), if_pos (Or.inl q2)]; omega
      · rw [if_neg q2] at f
        by_cases q3 : us σ u = 6
        · have e0 : sbA σ u (stc s) l x = 0 := by unfold sbA; rw [if_pos q3]
          refine ⟨0, by rw [f, if_pos q3]; rfl, p, ?_, sb0, fun w => by rw [e0]; rfl⟩
          unfold SCn
          rw [if_neg (by omega)]
          split
          · omega
          · split <;> omega
        · rw [if_neg q3] at f
          -- within a word
          have huv : us σ (v - 1) ≠ 6 := by
            rcases hor with e | ⟨g, e, g1, g2⟩
            · obtain ⟨-, -, c⟩ := lb_spec hS hT hun
              rcases c with ⟨c1, c2⟩ | ⟨c1, c2, c3⟩
              · rw [e, c2] at hv
                rw [show v - 1 = u by omega]; exact q3
              · rw [e] at hv
                have := (mtb_us hS (by rw [← e]; unfold nL; omega) c1 c3).1 (v - 1 - u) (by omega)
                rw [show u + (v - 1 - u) = v - 1 by omega] at this
                omega
            · unfold opb at g2
              simp only [Bool.and_eq_true, decide_eq_true_iff] at g2
              rw [e, Int.toNat_natCast] at hv
              have := (mtb_us hS g1 g2.1.1 g2.2.1).1 (v - 1 - u) (by omega)
              rw [show u + (v - 1 - u) = v - 1 by omega] at this
              omega
          have hSC : SCn σ E v = if brs σ = true then 3 else 2 := by
            unfold SCn
            rw [if_neg (by omega), if_neg (by omega)]
          by_cases q4 : s = 1 ∨ 0 < x
          · refine ⟨1, by rw [f, if_pos q4]; rfl, p, by rw [hSC]; split <;> omega, sb0, fun w => ?_⟩
            have e1 : sbA σ u (stc s) l x = 2 ∨ sbA σ u (stc s) l x = 3 := by
              unfold sbA
              rw [if_neg q3]
              have hn : ¬ (0 < x ∧ 0 < stc s) := fun z => by
                unfold stc at z
                by_cases z2 : s = 0
                · rw [if_pos z2] at z; omega
                · have := hx z2; omega
              rw [if_neg hn]
              have h2 : 0 < x ∨ 1 < stc s := by
                rcases q4 with y | y
                · right; unfold stc; rw [if_neg (by omega), if_pos y]; omega
                · exact Or.inl y
              rw [if_pos h2]
              split <;> omega
            unfold CL
            show TJ σ E v w 2 = _
            rcases e1 with y | y
            · rw [y]; rfl
            · rw [y]
              unfold TJ
              split
              · rfl
              · exact LL_23.symm
          · rw [if_neg q4] at f
            have e1 : sbA σ u (stc s) l x = if σ.1 94 l.toNat ≠ 0 then 1 else 0 := by
              unfold sbA
              rw [if_neg q3, if_neg (fun z => q4 (Or.inr z.1))]
              have h2 : ¬ (0 < x ∨ 1 < stc s) := by
                unfold stc
                by_cases z2 : s = 0
                · rw [if_pos z2]; omega
                · rw [if_neg z2, if_neg (by omega)]; omega
              rw [if_neg h2]
              split <;> rfl
            by_cases q5 : σ.1 94 l.toNat = 0
            · refine ⟨0, by rw [f, if_pos q5]; rfl, p, by rw [hSC]; split <;> omega, sb0, fun w => ?_⟩
              rw [e1, if_neg (fun z => z q5)]; rfl
            · have hbr : brs σ = true := by
                unfold brs
                rw [List.any_eq_true]
                exact ⟨l.toNat, List.mem_range.mpr (by unfold nL; omega), by simpa using q5⟩
              refine ⟨2, by rw [f, if_neg q5]; rfl, p, by rw [hSC, if_pos hbr]; omega, sb0, fun w => ?_⟩
              rw [e1, if_pos q5]; rfl
  refine CJ.go (fun _ => k_FI_offerForm_0 ?_)
  rw [Int.toNat_natCast, (hF.1 (176 + f) (by unfold WF; omega)).1, j6, e49 τ (fx 49 (by unfold WF; omega)), hM]
  have ev : ((u : Int) + (ln3 σ l.toNat : Int)) = (v : Int) := by omega
  rw [ev]
  obtain ⟨M', hM'⟩ : ∃ M' : Nat, (if (s : Int) ≠ 0 then (0 : Int) else (M : Int)) = M' := by
    by_cases z : s = 0
    · exact ⟨M, by rw [if_neg (by omega)]⟩
    · exact ⟨0, by rw [if_pos (by omega)]; rfl⟩
  have hMM : M' ≤ M ∧ (s = 0 → M' = M) ∧ (s ≠ 0 → M' = 0) := by
    by_cases z : s = 0
    · rw [if_neg (by omega)] at hM'; omega
    · rw [if_pos (by omega)] at hM'; omega
  rw [hM']
  refine ⟨⟨by omega, by omega⟩, fun _ => by omega, ⟨by omega, by omega⟩, by omega, ?_⟩
  -- what is left beyond M' does nothing
  have tail : ∀ w acc (d x : Nat), M' < x → x + d = M + 1 → ((List.range' x d).map (fun s => (l, f, s))).foldl (stp σ u (TJ σ E) w (stc s)) acc = acc := by
    intro w acc d
    induction d with
    | zero => intro x _ _; rfl
    | succ d ih =>
      intro x hx hd
      rw [List.range'_succ, List.map_cons, List.foldl_cons]
      have e : stp σ u (TJ σ E) w (stc s) acc (l, f, x) = acc := by
        have hs0 : s ≠ 0 := by omega
        have hus : us σ u ≠ 6 := fun q => hs0 (sb q)
        have : sbA σ u (stc s) l x = -1 := by
          unfold sbA
          rw [if_neg hus, if_pos ⟨by omega, by unfold stc; rw [if_neg hs0]; split <;> omega⟩]
        unfold stp
        rw [if_neg (fun z => by have := z.1; simp only at this; omega)]
      rw [e]
      exact ih (x + 1) (by omega) (by omega)
  have loop : ∀ (d x : Nat) (υ : St) (Rx : Nat → Int), x + d = M' + 1 → ORow (3 * u + s) τ υ → PRow lim (3 * u + s) Rx υ → (∀ w, w ≤ lim → 0 ≤ Rx w ∧ Rx w ≤ NV) → (∀ w, w ≤ lim → ((List.range' x d).map (fun s => (l, f, s))).foldl (stp σ u (TJ σ E) w (stc s)) (Rx w) = (optS σ l f).foldl (stp σ u (TJ σ E) w (stc s)) (R w)) → a_FI_offerForm_25 G u s l f M' v x υ (fun _ υ => ORow (3 * u + s) τ υ ∧ PRow lim (3 * u + s) (fun w => (optS σ l f).foldl (stp σ u (TJ σ E) w (stc s)) (R w)) υ ∧ ∀ w, w ≤ lim → 0 ≤ (optS σ l f).foldl (stp σ u (TJ σ E) w (stc s)) (R w) ∧ (optS σ l f).foldl (stp σ u (TJ σ E) w (stc s)) (R w) ≤ NV) := by
    intro d
    induction d with
    | zero =>
      intro x υ Rx hx g1 g2 g3 g4
      refine k_FI_offerForm_25 ⟨⟨by omega, by omega⟩, ⟨by omega, by omega⟩, fun _ => ⟨g1, ?_, fun w hw => ?_⟩, fun z => absurd z (by omega)⟩
      · obtain ⟨p1, p2, p3, p4⟩ := g2
        refine ⟨fun w hw => by rw [p1 w hw]; exact g4 w hw, p2, p3, fun w hw h => ?_⟩
        have := g4 w hw
        rw [← p4 w hw h]
        exact this.symm
      · have := g4 w hw
        rw [← this]
        exact g3 w hw
    | succ d ih =>
      intro x υ Rx hx g1 g2 g3 g4
      obtain ⟨b, q1, q2, q3, q4, q5⟩ := behind υ x g1.1 (fun k h1 h2 h3 => g1.2.1 k h1 h2 (by omega)) (fun z => by omega) (by omega)
      obtain ⟨c1, c2⟩ := cst_b hS hf (s := x) (by omega)
      have hwd : (σ.1 97 f + (x : Int)) = (wd σ f x : Int) := by unfold wd; omega
      have wb : 1 ≤ wd σ f x ∧ wd σ f x ≤ 112 := by unfold wd; omega
      have hb3 : b < 3 := by
        unfold SCn at q3
        split at q3
        · omega
        · split at q3
          · omega
          · split at q3 <;> omega
      refine k_FI_offerForm_25 ?_
      rw [q1, Int.toNat_natCast, g1.2.1 (176 + f) (by omega) (by omega) (by omega), (hF.1 (176 + f) (by unfold WF; omega)).1, j1, j4, j7, hwd]
      have hcs : σ.1 100 f + σ.1 103 f * x * x = cst σ f x := rfl
      rw [hcs, show (u : Int) * 3 + (s : Int) = ((3 * u + s : Nat) : Int) by omega, show (v : Int) * 3 + (b : Int) = ((3 * v + b : Nat) : Int) by omega]
      refine ⟨⟨by omega, by omega⟩, ⟨by omega, by omega⟩, fun z => absurd z (by omega), fun _ => ⟨q2, by omega, ⟨by omega, by omega⟩, ?_⟩⟩
      have hvu : u < v := by omega
      have hsrc : PRow lim (3 * v + b) (CL σ E v b) υ := g1.row (by omega) (hN b q3)
      refine CJ.mono (t_offer (by omega) (by omega) (by omega) hlim (by rw [g1.1]; exact h6) wb.1 wb.2 ⟨c1, c2⟩ g2 hsrc g3 (fun w _ => bT w (stc b))) (fun _ υ' _ hυ => ?_)
      obtain ⟨v1, v2⟩ := hυ
      have hstp : ∀ w, stp σ u (TJ σ E) w (stc s) (Rx w) (l, f, x) = if wd σ f x ≤ w then min (Rx w) (CL σ E v b (w - wd σ f x) + cst σ f x) else Rx w := fun w => by
        unfold stp
        simp only
        rw [hv, q5]
        by_cases z : wd σ f x ≤ w
        · rw [if_pos ⟨q4, z⟩, if_pos z]
        · rw [if_neg (fun y => z y.2), if_neg z]
      have cast : ((x : Int) + 1) = ((x + 1 : Nat) : Int) := by omega
      rw [cast]
      refine ih (x + 1) υ' _ (by omega) (g1.trans v1) v2 (fun w hw => ?_) (fun w hw => ?_)
      · have a := g3 w hw
        have bb' := bT (w - wd σ f x) (stc b)
        have hCL : CL σ E v b (w - wd σ f x) = TJ σ E v (w - wd σ f x) (stc b) := rfl
        by_cases z : wd σ f x ≤ w
        · simp only [z, if_true]
          rw [hCL]; omega
        · simp only [z, if_false]
          exact a
      · have := g4 w hw
        rw [List.range'_succ, List.map_cons, List.foldl_cons, hstp w] at this
        exact this
  refine loop (M' + 1) 0 τ R (by omega) ORow.refl hrow bR (fun w hw => ?_)
  unfold optS
  rw [hM, Int.toNat_natCast, List.range_eq_range']
  have : List.range' 0 (M + 1) = List.range' 0 (M' + 1) ++ List.range' (M' + 1) (M - M') := by
    have := List.range'_append_1 (s := 0) (m := M' + 1) (n := M - M')
    rw [show M' + 1 + (M - M') = M + 1 by omega, show 0 + (M' + 1) = M' + 1 by omega] at this
    exact this.symm
  rw [this, List.map_append, List.foldl_append]
  exact (tail w _ (M - M') (M' + 1) (by omega) (by omega)).symm
