/-! offerKind, goBack, beginBehind -/
def URow (u : Nat) (σ τ : St) : Prop := τ.2 = σ.2 ∧ (∀ k, k ≠ 75 → k ≠ 76 → (k < 376 + 3 * u ∨ 379 + 3 * u ≤ k) → τ.1 k = σ.1 k) ∧ (∀ i, (i < 3 * u ∨ 3 * u + 3 ≤ i) → τ.1 75 i = σ.1 75 i ∧ τ.1 76 i = σ.1 76 i)
theorem URow.refl {u : Nat} {σ : St} : URow u σ σ := ⟨rfl, fun _ _ _ _ => rfl, fun _ _ => ⟨rfl, rfl⟩⟩
theorem URow.trans {u : Nat} {σ τ υ : St} (h : URow u σ τ) (g : URow u τ υ) : URow u σ υ := ⟨g.1.trans h.1, fun k a b c => (g.2.1 k a b c).trans (h.2.1 k a b c), fun i hi => ⟨(g.2.2 i hi).1.trans (h.2.2 i hi).1, (g.2.2 i hi).2.trans (h.2.2 i hi).2⟩⟩
theorem ORow.u {u s : Nat} {σ τ : St} (h : ORow (3 * u + s) σ τ) (hs : s < 3) : URow u σ τ := ⟨h.1, fun k a b c => h.2.1 k a b (by omega), fun i hi => h.2.2 i (by omega)⟩
theorem URow.row {u r' lim : Nat} {R : Nat → Int} {σ τ : St} (h : URow u σ τ) (hr : r' < 3 * u ∨ 3 * u + 3 ≤ r') (g : PRow lim r' R σ) : PRow lim r' R τ := by
  obtain ⟨a, b, c, d⟩ := g
  unfold PRow
  rw [(h.2.2 r' hr).1, (h.2.2 r' hr).2, h.2.1 (376 + r') (by omega) (by omega) (by omega)]
  exact ⟨a, b, c, d⟩
theorem URow.fr {u : Nat} {σ τ : St} (h : URow u σ τ) : Fr WF σ τ := ⟨fun k hk => ⟨h.2.1 k (by unfold WF at hk; omega) (by unfold WF at hk; omega) (by unfold WF at hk; omega), by rw [h.1]⟩, by rw [h.1]⟩
def KR (σ : St) (E u w st : Nat) (acc : Int) (l : Int) : Int := if lkR σ u (u + ln3 σ l.toNat) = true then acc else (optF σ u l).foldl (stp σ u (TJ σ E) w st) acc
theorem SCn_3 {σ : St} {E u : Nat} : SCn σ E u ≤ 3 := by
  unfold SCn
  split
  · omega
  · split
    · omega
    · split <;> omega
/-- the prices of a unit are what its kinds offer -/
theorem CL_step {σ : St} (hS : IS σ) (hT : IT σ) {E u : Nat} (hE : Bnd σ E) (hu : u < E) (s w : Nat) : (kl σ u).foldl (KR σ E u w (stc s)) NV = CL σ E u s w := by
  have hun : u < nU σ := by have := hE.1; omega
  unfold CL TJ
  by_cases hk : lkR σ u E = true
  · rw [if_pos hk]
    have key : ∀ l : List Int, (∀ x ∈ l, x ∈ kl σ u) → l.foldl (KR σ E u w (stc s)) NV = NV := by
      intro l
      induction l with
      | nil => intro _; rfl
      | cons x l ih =>
        intro hx
        rw [List.foldl_cons]
        have e : KR σ E u w (stc s) NV x = NV := by
          unfold KR
          by_cases q : lkR σ u (u + ln3 σ x.toNat) = true
          · rw [if_pos q]
          · rw [if_neg q]
            obtain ⟨-, hl0, -, -, cr⟩ := kl_mem hS hT hun (hx x (List.mem_cons_self ..))
            have h1 := cr E hu hE.1 hE.2
            have h2 : lkR σ (u + ln3 σ x.toNat) E = true := by
              rcases (lkR_split (show u ≤ u + ln3 σ x.toNat by omega) h1).mp hk with y | y
              · exact absurd y q
              · exact y
            have key2 : ∀ os : List (Int × Nat × Nat), (∀ o ∈ os, o ∈ optF σ u x) → os.foldl (stp σ u (TJ σ E) w (stc s)) NV = NV := by
              intro os
              induction os with
              | nil => intro _; rfl
              | cons o os ih2 =>
                intro ho
                rw [List.foldl_cons]
                have hmem : o ∈ opt σ u := by
                  unfold opt
                  exact List.mem_flatMap.mpr ⟨x, hx x (List.mem_cons_self ..), ho o (List.mem_cons_self ..)⟩
                obtain ⟨m1, m2, m3, m4, m5⟩ := opt_mem hS hT hun hmem
                have ho1 : o.1 = x := by
                  have := ho o (List.mem_cons_self ..)
                  unfold optF at this
                  obtain ⟨f, f1, f2⟩ := List.mem_flatMap.mp this
                  unfold optS at f2
                  obtain ⟨y, y1, y2⟩ := List.mem_map.mp f2
                  rw [← y2]
                have c0 := (cst_b hS m2 m3).1
                have e2 : stp σ u (TJ σ E) w (stc s) NV o = NV := by
                  unfold stp TJ
                  rw [ho1, if_pos h2]
                  split <;> omega
                rw [e2]
                exact ih2 (fun o h => ho o (List.mem_cons_of_mem _ h))
            exact key2 _ (fun o h => h)
        rw [e]
        exact ih (fun y hy => hx y (List.mem_cons_of_mem _ hy))
    exact key _ (fun x h => h)
  · rw [if_neg hk, LL_step hu]
    unfold opt
    have key : ∀ (l : List Int) (acc : Int), (∀ x ∈ l, x ∈ kl σ u) → l.foldl (KR σ E u w (stc s)) acc = (l.flatMap (optF σ u)).foldl (stp σ u (LL σ E) w (stc s)) acc := by
      intro l
      induction l with
      | nil => intro acc _; rfl
      | cons x l ih =>
        intro acc hx
        rw [List.foldl_cons, List.flatMap_cons, List.foldl_append]
        obtain ⟨-, hl0, -, -, cr⟩ := kl_mem hS hT hun (hx x (List.mem_cons_self ..))
        have h1 := cr E hu hE.1 hE.2
        have h3 := (lkR_split (σ := σ) (show u ≤ u + ln3 σ x.toNat by omega) h1)
        have h2 : ¬ lkR σ (u + ln3 σ x.toNat) E = true := fun y => hk (h3.mpr (Or.inr y))
        have e : KR σ E u w (stc s) acc x = (optF σ u x).foldl (stp σ u (LL σ E) w (stc s)) acc := by
          unfold KR
          rw [if_neg (fun y => hk (h3.mpr (Or.inl y)))]
          refine stp_congr (fun o ho w st => ?_) acc
          have ho1 : o.1 = x := by
            unfold optF at ho
            obtain ⟨f, f1, f2⟩ := List.mem_flatMap.mp ho
            unfold optS at f2
            obtain ⟨y, y1, y2⟩ := List.mem_map.mp f2
            rw [← y2]
          unfold TJ
          rw [ho1, if_neg h2]
        rw [e]
        exact ih _ (fun y hy => hx y (List.mem_cons_of_mem _ hy))
    exact key _ _ (fun x h => h)
theorem t_offerKind {G : GT} {σ τ : St} (hS : IS σ) (hT : IT σ) (hU : UNx σ σ) (hF : Fr WF σ τ) {u E lim : Nat} {l : Int} {RS : Nat → Nat → Int} (hu : u < E) (hE : Bnd σ E) (hl : l ∈ kl σ u) (hlim : lim ≤ 300) (h5 : τ.2.1 5 5 = E) (h6 : τ.2.1 5 6 = lim) (hrow : ∀ s, s < SCn σ E u → PRow lim (3 * u + s) (RS s) τ ∧ ∀ w, w ≤ lim → 0 ≤ RS s w ∧ RS s w ≤ NV) (hN : ∀ s, s < SCn σ E (u + ln3 σ l.toNat) → PRow lim (3 * (u + ln3 σ l.toNat) + s) (CL σ E (u + ln3 σ l.toNat) s) τ) : CJ G m_FI_offerKind [O 5, I u, I (SCn σ E u), I l] τ (fun _ υ => URow u τ υ ∧ ∀ s, s < SCn σ E u → PRow lim (3 * u + s) (fun w => KR σ E u w (stc s) (RS s w) l) υ ∧ ∀ w, w ≤ lim → 0 ≤ KR σ E u w (stc s) (RS s w) l ∧ KR σ E u w (stc s) (RS s w) l ≤ NV) := by
  have n := hS.1
  unfold NumOk at n
  have n8 := nU_le hT
  have E8 := hE.1
  have hun : u < nU σ := by omega
  obtain ⟨hb, hl0, hle, hor, cr⟩ := kl_mem hS hT hun hl
  have hnE := cr E hu hE.1 hE.2
  have lp := ln3_pos (σ := σ) (g := l.toNat)
  have s3 := SCn_3 (σ := σ) (E := E) (u := u)
  have fx : ∀ k, ¬ WF k → τ.1 k = σ.1 k := fun k hk => (hF.1 k hk).1
  have e49 : τ.1 49 l.toNat = (ln3 σ l.toNat : Int) := by rw [fx 49 (by unfold WF; omega)]; exact ln3_J hS (by omega)
  have hUτ : UNx σ τ := UNx_keep hU (fun k h1 h2 => fx k (by unfold WF; omega)) (hF.1 4 (by unfold WF; omega)).2
  refine CJ.go (fun _ => k_FI_offerKind_0 ?_)
  rw [e49, h5]
  refine ⟨by omega, ⟨by omega, by omega⟩, fun z => absurd z (by omega), fun _ => ?_⟩
  have hlm := t_lackMarks (G := G) hUτ (u := u) (E := u + ln3 σ l.toNat) hle (by omega) (by omega)
  rw [show ((u + ln3 σ l.toNat : Nat) : Int) - 1 = (u : Int) + (ln3 σ l.toNat : Int) - 1 by omega] at hlm
  refine CJ.mono hlm (fun r v _ hv => ?_)
  obtain ⟨hv, hr⟩ := hv
  rw [hv, hr]
  by_cases hk : lkR σ u (u + ln3 σ l.toNat) = true
  · rw [if_pos hk]
    refine ⟨fun z => absurd z (by decide), fun _ => ⟨URow.refl, fun s hs => ?_⟩⟩
    have e : ∀ w, KR σ E u w (stc s) (RS s w) l = RS s w := fun w => by unfold KR; rw [if_pos hk]
    simp only [e]
    exact hrow s hs
  · rw [if_neg hk]
    obtain ⟨p1, p2⟩ := place_J (τ := τ) hS hT hUτ (fx 49 (by unfold WF; omega)) hun hl0 hle
    have pb := plc_b (σ := σ) (u := u) (l := l)
    have ha4 : ((slt σ u l : Nat) : Int) < 4 * σ.2.1 8 6 := by unfold slt; omega
    obtain ⟨t1, t2, t3⟩ := hS.2.2.2.2.2.2.2.2.2.1 (slt σ u l) ha4
    obtain ⟨m, hm⟩ : ∃ m : Nat, σ.1 105 (slt σ u l) = m := ⟨(σ.1 105 (slt σ u l)).toNat, by omega⟩
    have hfr : frm σ (slt σ u l) = (List.range' 0 m).map (fun k => (σ.1 104 (3 * slt σ u l + k)).toNat) := by
      unfold frm
      rw [hm, Int.toNat_natCast, List.range_eq_range']
    refine ⟨fun _ => ⟨p1, ?_⟩, fun z => absurd rfl z⟩
    rw [p2]
    have hKR : ∀ s w, KR σ E u w (stc s) (RS s w) l = (optF σ u l).foldl (stp σ u (TJ σ E) w (stc s)) (RS s w) := fun s w => by unfold KR; rw [if_neg hk]
    simp only [hKR]
    have outer : ∀ (d k : Nat) (υ : St) (RK : Nat → Nat → Int), k + d = m → URow u τ υ → (∀ s, s < SCn σ E u → PRow lim (3 * u + s) (RK s) υ ∧ ∀ w, w ≤ lim → 0 ≤ RK s w ∧ RK s w ≤ NV) → (∀ s w, s < SCn σ E u → w ≤ lim → (((List.range' k d).map (fun k => (σ.1 104 (3 * slt σ u l + k)).toNat)).flatMap (optS σ l)).foldl (stp σ u (TJ σ E) w (stc s)) (RK s w) = (optF σ u l).foldl (stp σ u (TJ σ E) w (stc s)) (RS s w)) → a_FI_offerKind_54 G u (SCn σ E u) l (plc σ u l) k υ (fun _ υ => URow u τ υ ∧ ∀ s, s < SCn σ E u → PRow lim (3 * u + s) (fun w => (optF σ u l).foldl (stp σ u (TJ σ E) w (stc s)) (RS s w)) υ ∧ ∀ w, w ≤ lim → 0 ≤ (optF σ u l).foldl (stp σ u (TJ σ E) w (stc s)) (RS s w) ∧ (optF σ u l).foldl (stp σ u (TJ σ E) w (stc s)) (RS s w) ≤ NV) := by
      intro d
      induction d with
      | zero =>
        intro k υ RK hk g1 g2 g3
        have r55 : υ.1 55 ((l * 4 + plc σ u l).toNat) = m := by
          rw [g1.2.1 55 (by decide) (by decide) (by omega), fx 55 (by unfold WF; omega), show (l * 4 + plc σ u l).toNat = slt σ u l by unfold slt; omega, t1, hm]
        refine k_FI_offerKind_54 ?_
        rw [r55]
        refine ⟨by omega, ⟨by omega, by omega⟩, fun _ => ⟨g1, fun s hs => ?_⟩, fun z => absurd z (by omega)⟩
        obtain ⟨⟨q1, q2, q3, q4⟩, q5⟩ := g2 s hs
        have eq : ∀ w, w ≤ lim → RK s w = (optF σ u l).foldl (stp σ u (TJ σ E) w (stc s)) (RS s w) := fun w hw => g3 s w hs hw
        refine ⟨⟨fun w hw => by rw [q1 w hw]; exact eq w hw, q2, q3, fun w hw h => ?_⟩, fun w hw => ?_⟩
        · rw [← q4 w hw h]; exact (eq w hw).symm
        · rw [← eq w hw]; exact q5 w hw
      | succ d ih =>
        intro k υ RK hk g1 g2 g3
        have r55 : υ.1 55 ((l * 4 + plc σ u l).toNat) = m := by
          rw [g1.2.1 55 (by decide) (by decide) (by omega), fx 55 (by unfold WF; omega), show (l * 4 + plc σ u l).toNat = slt σ u l by unfold slt; omega, t1, hm]
        obtain ⟨tt, f, f1, f2, f3⟩ := t3 k (by omega)
        have r56 : υ.1 56 (((l * 4 + plc σ u l) * 3 + (k : Int)).toNat) = f := by
          rw [g1.2.1 56 (by decide) (by decide) (by omega), fx 56 (by unfold WF; omega), show ((l * 4 + plc σ u l) * 3 + (k : Int)).toNat = 3 * slt σ u l + k by unfold slt; omega, tt, f1]
        refine k_FI_offerKind_54 ?_
        rw [r55, r56]
        refine ⟨by omega, ⟨by omega, by omega⟩, fun z => absurd z (by omega), fun _ => ⟨by omega, ?_⟩⟩
        rw [List.range'_succ, List.map_cons, List.flatMap_cons, f1, Int.toNat_natCast] at g3
        have inner : ∀ (e s : Nat) (υ : St) (RI : Nat → Nat → Int), s + e = SCn σ E u → URow u τ υ → (∀ s', s' < SCn σ E u → PRow lim (3 * u + s') (RI s') υ ∧ ∀ w, w ≤ lim → 0 ≤ RI s' w ∧ RI s' w ≤ NV) → (∀ s' w, s' < SCn σ E u → w ≤ lim → RI s' w = if s' < s then (optS σ l f).foldl (stp σ u (TJ σ E) w (stc s')) (RK s' w) else RK s' w) → a_FI_offerKind_86 G u (SCn σ E u) l (plc σ u l) k f s υ (fun _ υ => URow u τ υ ∧ ∀ s, s < SCn σ E u → PRow lim (3 * u + s) (fun w => (optF σ u l).foldl (stp σ u (TJ σ E) w (stc s)) (RS s w)) υ ∧ ∀ w, w ≤ lim → 0 ≤ (optF σ u l).foldl (stp σ u (TJ σ E) w (stc s)) (RS s w) ∧ (optF σ u l).foldl (stp σ u (TJ σ E) w (stc s)) (RS s w) ≤ NV) := by
          intro e
          induction e with
          | zero =>
            intro s υ RI hs g1 g2' g4
            refine k_FI_offerKind_86 ⟨⟨by omega, by omega⟩, ⟨by omega, by omega⟩, fun _ => ?_, fun z => absurd z (by omega)⟩
            refine ih (k + 1) υ RI (by omega) g1 g2' (fun s' w hs' hw => ?_)
            rw [g4 s' w hs' hw, if_pos (by omega)]
            have := g3 s' w hs' hw
            rw [List.foldl_append] at this
            exact this
          | succ e ihe =>
            intro s υ RI hs g1 g2' g4
            refine k_FI_offerKind_86 ⟨⟨by omega, by omega⟩, ⟨by omega, by omega⟩, fun z => absurd z (by omega), fun _ => ?_⟩
            have hFυ : Fr WF σ υ := hF.trans g1.fr
            obtain ⟨r1, r2⟩ := g2' s (by omega)
            refine CJ.mono (t_offerForm hS hT hU hFυ hu hE hl f2 (show s < SCn σ E u by omega) hlim (by rw [g1.1]; exact h5) (by rw [g1.1]; exact h6) r1 r2 (fun s' hs' => g1.row (by omega) (hN s' hs'))) (fun _ υ' _ hυ => ?_)
            obtain ⟨v1, v2, v3⟩ := hυ
            have cast : ((s : Int) + 1) = ((s + 1 : Nat) : Int) := by omega
            rw [cast]
            have eRI : ∀ w, w ≤ lim → RI s w = RK s w := fun w hw => by rw [g4 s w (by omega) hw, if_neg (by omega)]
            refine ihe (s + 1) υ' (fun s' w => if s' = s then (optS σ l f).foldl (stp σ u (TJ σ E) w (stc s)) (RI s w) else RI s' w) (by omega) (g1.trans (v1.u (by omega))) (fun s' hs' => ?_) (fun s' w hs' hw => ?_)
            · by_cases q : s' = s
              · subst q
                simp only [if_true]
                exact ⟨v2, v3⟩
              · simp only [q, if_false]
                exact ⟨v1.row (by omega) (g2' s' hs').1, (g2' s' hs').2⟩
            · show (if _ then _ else _) = (if _ then _ else _)
              by_cases q : s' = s
              · subst q
                rw [if_pos rfl, if_pos (by omega), eRI w hw]
              · rw [if_neg q, g4 s' w hs' hw]
                by_cases q2 : s' < s
                · rw [if_pos q2, if_pos (by omega)]
                · rw [if_neg q2, if_neg (by omega)]
        exact inner (SCn σ E u) 0 υ RK (by omega) g1 g2 (fun s' w _ _ => by rw [if_neg (by omega)])
    refine outer m 0 τ RS (by omega) URow.refl hrow (fun s w _ _ => ?_)
    unfold optF
    rw [hfr]
def WFi (k : Nat) : Prop := k = 5 ∨ (74 ≤ k ∧ k ≤ 76) ∨ 376 ≤ k
theorem URow.fri {u : Nat} {σ τ : St} (h : URow u σ τ) : Fr WFi σ τ := ⟨fun k hk => ⟨h.2.1 k (by unfold WFi at hk; omega) (by unfold WFi at hk; omega) (by unfold WFi at hk; omega), by rw [h.1]⟩, by rw [h.1]⟩
theorem ORow.fri {r : Nat} {σ τ : St} (h : ORow r σ τ) : Fr WFi σ τ := ⟨fun k hk => ⟨h.2.1 k (by unfold WFi at hk; omega) (by unfold WFi at hk; omega) (by unfold WFi at hk; omega), by rw [h.1]⟩, by rw [h.1]⟩
def FS (σ : St) (E lim v : Nat) (τ : St) : Prop := Fr WF σ τ ∧ τ.2.1 5 5 = E ∧ τ.2.1 5 6 = lim ∧ τ.2.1 5 7 = (if brs σ = true then 1 else 0) ∧ ∀ u, v ≤ u → u ≤ E → bh σ u ≤ u → ∀ s, s < SCn σ E u → PRow lim (3 * u + s) (CL σ E u s) τ
theorem t_goBack {G : GT} {σ τ : St} (hS : IS σ) (hT : IT σ) (hU : UNx σ σ) {E lim F B : Nat} (hE : Bnd σ E) (hlim : lim ≤ 300) (hFB : F ≤ B) (hBE : B ≤ E) (h : FS σ E lim B τ) : CJ G m_FI_goBack [O 5, I F, I ((B : Int) - 1)] τ (fun _ υ => FS σ E lim F υ ∧ Fr WFi τ υ) := by
  have n := hS.1
  unfold NumOk at n
  have n8 := nU_le hT
  have E8 := hE.1
  refine CJ.go (fun _ => k_FI_goBack_0 ?_)
  have main : ∀ (d v : Nat) (υ : St), F + d = v → v ≤ B → FS σ E lim v υ → Fr WFi τ υ → a_FI_goBack_2 G F ((v : Int) - 1) υ (fun _ υ => FS σ E lim F υ ∧ Fr WFi τ υ) := by
    intro d
    induction d with
    | zero =>
      intro v υ hv hvB g gi
      refine k_FI_goBack_2 ⟨⟨by omega, by omega⟩, ⟨by omega, by omega⟩, fun _ => ?_, fun z => absurd z (by omega)⟩
      rw [show F = v by omega]
      exact ⟨g, gi⟩
    | succ d ih =>
      intro v0 υ hv hvB g gi
      obtain ⟨u, hu⟩ : ∃ u, v0 = u + 1 := ⟨v0 - 1, by omega⟩
      subst hu
      obtain ⟨gF, g5, g6, g7, gR⟩ := id g
      have fx : ∀ k, ¬ WF k → υ.1 k = σ.1 k := fun k hk => (gF.1 k hk).1
      have hun : u < nU σ := by omega
      have r65 : ∀ i, i < nU σ → υ.1 65 i = if us σ i = 6 then 1 else 0 := fun i hi => by
        rw [fx 65 (by unfold WF; omega)]
        exact (hU.2.2.2.1 i hi).2.2.2.2.1
      have s3 := SCn_3 (σ := σ) (E := E) (u := u)
      have hst : f_FI_statesAt υ u = SCn σ E u ∧ p_FI_statesAt υ u := by
        constructor
        · unfold f_FI_statesAt SCn
          rw [Int.toNat_natCast, r65 u hun, g7, if_neg (show ¬ u = E by omega)]
          by_cases q : us σ u = 6
          · rw [if_pos q, if_pos (by decide), if_pos (Or.inl q)]; rfl
          · rw [if_neg q, if_neg (by simp)]
            by_cases q0 : u = 0
            · rw [if_pos (by omega), if_pos (Or.inr (Or.inl q0))]; rfl
            · rw [if_neg (by omega), show ((u : Int) - 1).toNat = u - 1 by omega, r65 (u - 1) (by omega)]
              by_cases q1 : us σ (u - 1) = 6
              · rw [if_pos q1, if_neg (by decide), if_pos (Or.inr (Or.inr q1))]; rfl
              · rw [if_neg q1, if_pos rfl, if_neg (show ¬ (us σ u = 6 ∨ u = 0 ∨ us σ (u - 1) = 6) by omega)]
                cases brs σ <;> rfl
        · unfold p_FI_statesAt
          refine ⟨by omega, fun _ => ⟨⟨by omega, by omega⟩, fun _ => ⟨by omega, fun _ => ?_⟩⟩⟩
          split <;> exact ⟨by decide, by decide⟩
      rw [show (((u + 1 : Nat) : Int) - 1) = (u : Int) by omega]
      refine k_FI_goBack_2 ⟨⟨by omega, by omega⟩, ⟨by omega, by omega⟩, fun z => absurd z (by omega), fun _ => ⟨hst.2, ?_⟩⟩
      rw [hst.1]
      -- the unit's rows are cleared
      have clr : ∀ (e s : Nat) (ρ : St), s + e = SCn σ E u → URow u υ ρ → (∀ s', s' < s → PRow lim (3 * u + s') (fun _ => NV) ρ) → a_FI_goBack_17 G F u (SCn σ E u) s ρ (fun _ υ => FS σ E lim F υ ∧ Fr WFi τ υ) := by
        intro e
        induction e with
        | zero =>
          intro s ρ hs r1 r2
          refine k_FI_goBack_17 ⟨⟨by omega, by omega⟩, ⟨by omega, by omega⟩, fun _ => ?_, fun z => absurd z (by omega)⟩
          -- its kinds
          have hK := (hU.2.2.2.1 u hun).2.2.2.2.2.2.2.2
          have kk : ∀ (i n : Nat) (ρ : St) (RN : Nat → Nat → Int), n + i = (kl σ u).length → URow u υ ρ → (∀ s, s < SCn σ E u → PRow lim (3 * u + s) (RN s) ρ ∧ ∀ w, w ≤ lim → 0 ≤ RN s w ∧ RN s w ≤ NV) → (∀ s w, s < SCn σ E u → w ≤ lim → ((kl σ u).drop n).foldl (KR σ E u w (stc s)) (RN s w) = (kl σ u).foldl (KR σ E u w (stc s)) NV) → a_FI_goBack_43 G F u (SCn σ E u) n ρ (fun _ υ => FS σ E lim F υ ∧ Fr WFi τ υ) := by
            intro i
            induction i with
            | zero =>
              intro n ρ RN hn r1 r2 r3
              have r72 : ρ.1 72 u = ((kl σ u).length : Int) := by
                rw [r1.2.1 72 (by decide) (by decide) (by omega), fx 72 (by unfold WF; omega)]; exact hK.1
              refine k_FI_goBack_43 ?_
              rw [Int.toNat_natCast, r72]
              have l3 : (kl σ u).length ≤ 3 := by
                unfold kl
                split
                · have := opl_le hS (u := u) (Nat.le_refl (nL σ))
                  simp; omega
                · simp
              refine ⟨by omega, ⟨by omega, by omega⟩, fun _ => ?_, fun z => absurd z (by omega)⟩
              rw [show ((u : Int) + (-1)) = (u : Int) - 1 by omega]
              refine ih u ρ (by omega) (by omega) ⟨gF.trans r1.fr, by rw [r1.1]; exact g5, by rw [r1.1]; exact g6, by rw [r1.1]; exact g7, fun x h1 h2 h3 s' hs' => ?_⟩ (gi.trans r1.fri)
              by_cases q : x = u
              · subst q
                obtain ⟨⟨q1, q2, q3, q4⟩, -⟩ := r2 s' hs'
                have eq : ∀ w, w ≤ lim → RN s' w = CL σ E x s' w := fun w hw => by
                  have := r3 s' w hs' hw
                  rw [List.drop_eq_nil_of_le (by omega)] at this
                  rw [CL_step hS hT hE (by omega)] at this
                  exact this
                exact ⟨fun w hw => by rw [q1 w hw]; exact eq w hw, q2, q3, fun w hw h => by rw [← q4 w hw h]; exact (eq w hw).symm⟩
              · exact r1.row (by omega) (gR x (by omega) h2 h3 s' hs')
            | succ i ihi =>
              intro n ρ RN hn r1 r2 r3
              have r72 : ρ.1 72 u = ((kl σ u).length : Int) := by
                rw [r1.2.1 72 (by decide) (by decide) (by omega), fx 72 (by unfold WF; omega)]; exact hK.1
              have l3 : (kl σ u).length ≤ 3 := by
                unfold kl
                split
                · have := opl_le hS (u := u) (Nat.le_refl (nL σ))
                  simp; omega
                · simp
              have hget := hK.2 n (by omega)
              have r73 : ρ.1 73 (((u : Int) * 3 + (n : Int)).toNat) = σ.1 73 (3 * u + n) := by
                rw [r1.2.1 73 (by decide) (by decide) (by omega), fx 73 (by unfold WF; omega), show ((u : Int) * 3 + (n : Int)).toNat = 3 * u + n by omega]
              obtain ⟨l, hl⟩ : ∃ l, σ.1 73 (3 * u + n) = l := ⟨_, rfl⟩
              rw [hl] at r73
              have hget' : (kl σ u)[n]? = some l := by rw [hget]; show some (σ.1 73 (3 * u + n)) = _; rw [hl]
              obtain ⟨hlt, hge⟩ := List.getElem?_eq_some_iff.mp hget'
              have hmem : l ∈ kl σ u := List.mem_of_getElem? hget'
              refine k_FI_goBack_43 ?_
              rw [Int.toNat_natCast, r72, r73]
              refine ⟨by omega, ⟨by omega, by omega⟩, fun z => absurd z (by omega), fun _ => ⟨by omega, ?_⟩⟩
              obtain ⟨hbu, -, -, -, cr⟩ := kl_mem hS hT hun hmem
              have hnE := cr E (by omega) hE.1 hE.2
              have lp := (ln3_pos (σ := σ) (g := l.toNat)).1
              refine CJ.mono (t_offerKind hS hT hU (gF.trans r1.fr) (by omega) hE hmem hlim (by rw [r1.1]; exact g5) (by rw [r1.1]; exact g6) r2 (fun s hs => ?_)) (fun _ ρ' _ hρ => ?_)
              · refine r1.row (by omega) (gR _ (by omega) hnE ?_ s hs)
                obtain ⟨-, -, -, hor, -⟩ := kl_mem hS hT hun hmem
                rcases hor with e | ⟨gg, e, -, ho⟩
                · rw [e]
                  have := bh_in hbu (u + ln3 σ (lb σ u).toNat) (by rw [e] at lp; omega) (Nat.le_refl _)
                  omega
                · rw [e, Int.toNat_natCast] at hnE ⊢
                  unfold opb at ho
                  simp only [Bool.and_eq_true, decide_eq_true_iff] at ho
                  have lp2 := (ln3_pos (σ := σ) (g := gg)).1
                  have A := (alone_bc hT ho.2.2 (by omega) (ln3 σ gg - 1) (by omega)).2 (by omega)
                  have := bh_in A.1 (u + ln3 σ gg) (by omega) (by omega)
                  omega
              · obtain ⟨v1, v2⟩ := hρ
                have cast : ((n : Int) + 1) = ((n + 1 : Nat) : Int) := by omega
                rw [cast]
                refine ihi (n + 1) ρ' (fun s w => KR σ E u w (stc s) (RN s w) l) (by omega) (r1.trans v1) v2 (fun s w hs hw => ?_)
                have := r3 s w hs hw
                rw [List.drop_eq_getElem_cons hlt, List.foldl_cons, hge] at this
                exact this
          refine kk (kl σ u).length 0 ρ (fun _ _ => NV) (by omega) r1 (fun s' hs' => ⟨r2 s' (by omega), fun w _ => ⟨by decide, Int.le_refl _⟩⟩) (fun s w _ _ => by rw [List.drop_zero])
        | succ e ihe =>
          intro s ρ hs r1 r2
          refine k_FI_goBack_17 ⟨⟨by omega, by omega⟩, ⟨by omega, by omega⟩, fun z => absurd z (by omega), fun _ => ?_⟩
          rw [show (u : Int) * 3 + (s : Int) = ((3 * u + s : Nat) : Int) by omega]
          refine CJ.mono (t_clear (lim := lim) (by omega) hlim) (fun _ ρ' _ hρ => ?_)
          obtain ⟨v1, v2⟩ := hρ
          refine ihe (s + 1) ρ' (by omega) (r1.trans (v1.u (by omega))) (fun s' hs' => ?_)
          by_cases q : s' = s
          · rw [q]; exact v2
          · exact v1.row (by omega) (r2 s' (by omega))
      exact clr (SCn σ E u) 0 υ (by omega) URow.refl (fun s' hs' => absurd hs' (by omega))
  exact main (B - F) B τ (by omega) (Nat.le_refl _) h Fr.refl
theorem t_beginBehind {G : GT} {σ τ : St} (hS : IS σ) (hT : IT σ) (hF : Fr WF σ τ) {E lim : Nat} (hE : Bnd σ E) (hlim : lim ≤ 300) : CJ G m_FI_beginBehind [O 5, I ((E : Int) - 1), I lim] τ (fun _ υ => FS σ E lim E υ ∧ Fr WFi τ υ) := by
  have n := hS.1
  unfold NumOk at n
  have n8 := nU_le hT
  have E8 := hE.1
  refine CJ.go (fun _ => k_FI_beginBehind_0 ?_)
  rw [show ((E : Int) - 1 + 1) = (E : Int) by omega]
  refine ⟨⟨by omega, by omega⟩, fun s1 e1 => ⟨⟨by omega, by omega⟩, fun s4 e4 => ?_⟩⟩
  have F4 : Fr WF σ s4 := by rw [e4, e1]; exact (hF.sf (Or.inl rfl)).sf (Or.inl rfl)
  have hbar : CJ G m_SC_anyBarred [O 1] s4 (fun r u => u = s4 ∧ r = if brs σ = true then 1 else 0) := by
    refine CJ.go (fun _ => k_SC_anyBarred_0 ?_)
    have r50 : ∀ i, i < nL σ → s4.1 50 i = σ.1 94 i := fun i hi => by
      rw [(F4.1 50 (by unfold WF; omega)).1]
      exact (hS.2.1 i (by unfold nL at hi; omega)).2.2.1
    have rl : s4.2.1 1 0 = (nL σ : Int) := by
      rw [(F4.1 1 (by unfold WF; omega)).2]; unfold nL; omega
    have hL : nL σ ≤ 60 := by unfold nL; omega
    have loop : ∀ (d i : Nat), i + d = nL σ → (∀ j, j < i → σ.1 94 j = 0) → a_SC_anyBarred_2 G i s4 (fun r u => u = s4 ∧ r = if brs σ = true then 1 else 0) := by
      intro d
      induction d with
      | zero =>
        intro i hi hno
        refine k_SC_anyBarred_2 ?_
        rw [rl]
        refine ⟨⟨by omega, by omega⟩, fun _ => ⟨rfl, ?_⟩, fun z => absurd z (by omega)⟩
        rw [if_neg (fun w => ?_)]
        unfold brs at w
        rw [List.any_eq_true] at w
        obtain ⟨x, x1, x2⟩ := w
        have := List.mem_range.mp x1
        rw [hno x (by omega)] at x2
        exact absurd x2 (by decide)
      | succ d ih =>
        intro i hi hno
        refine k_SC_anyBarred_2 ?_
        rw [rl, Int.toNat_natCast, r50 i (by omega)]
        refine ⟨⟨by omega, by omega⟩, fun z => absurd z (by omega), fun _ => ⟨by omega, fun z => ?_, fun z => ⟨rfl, ?_⟩⟩⟩
        · refine ih (i + 1) (by omega) (fun j hj => ?_)
          by_cases q : j = i
          · rw [q]; exact z
          · exact hno j (by omega)
        · have : brs σ = true := by
            unfold brs
            rw [List.any_eq_true]
            exact ⟨i, List.mem_range.mpr (by omega), by simpa using z⟩
          rw [if_pos this]
    exact loop (nL σ) 0 (by omega) (fun j hj => absurd hj (by omega))
  refine CJ.mono hbar (fun r u _ hu => ?_)
  obtain ⟨hu, hr⟩ := hu
  rw [hu, hr]
  have r5 : s4.2.1 5 5 = E := by rw [e4, e1, sf_nx (by decide), sf_at]
  have r6 : s4.2.1 5 6 = lim := by rw [e4, sf_at]
  rw [r5, show (E : Int) * 3 = ((3 * E : Nat) : Int) by omega]
  refine ⟨b01_or, fun s10 e10 => ?_⟩
  refine CJ.mono (t_clear (lim := lim) (by omega) hlim) (fun _ u14 _ h14 => ?_)
  obtain ⟨v1, v2⟩ := h14
  rw [Int.toNat_natCast]
  refine ⟨by omega, fun s16 e16 s18 e18 s20 e20 => ?_⟩
  have E20 : s20.2 = s10.2 := by rw [e20, e18, e16]; exact v1.1
  have FIi : Fr WFi τ s20 := by
    rw [e20, e18, e16]
    refine (((Fr.trans ?_ v1.fri).sa (by unfold WFi; omega)).sa (by unfold WFi; omega)).sa (by unfold WFi; omega)
    rw [e10, e4, e1]
    exact ((Fr.refl.sf (Or.inl rfl)).sf (Or.inl rfl)).sf (Or.inl rfl)
  refine ⟨⟨?_, by rw [E20, e10, sf_nx (by decide)]; exact r5, by rw [E20, e10, sf_nx (by decide)]; exact r6, by rw [E20, e10, sf_at], fun u h1 h2 h3 s hs => ?_⟩, FIi⟩
  · rw [e20, e18, e16]
    refine (((F4.trans ?_).sa (by unfold WF; omega)).sa (by unfold WF; omega)).sa (by unfold WF; omega)
    have : Fr WF s4 s10 := by rw [e10]; exact Fr.refl.sf (Or.inl rfl)
    exact this.trans v1.fr
  · have eu : u = E := by omega
    subst eu
    have s0 : s = 0 := by
      unfold SCn at hs
      rw [if_pos rfl] at hs
      omega
    subst s0
    have hlk : lkR σ u u = false := by
      cases q : lkR σ u u with
      | false => rfl
      | true =>
        obtain ⟨v, a, b, -⟩ := lkR_iff.mp q
        omega
    have hCL : ∀ w, CL σ u u 0 w = if w = 0 then 0 else NV := fun w => by
      unfold CL TJ
      rw [hlk, if_neg (by decide), LL_end]
    have r75 : s20.1 75 (3 * u + 0) = 0 := by rw [e20, e18, sa_ne (by decide), Nat.add_zero, sa_at]
    have r76 : s20.1 76 (3 * u + 0) = 0 := by rw [e20, Nat.add_zero, sa_at]
    refine ⟨fun w hw => ?_, by omega, by omega, fun w hw h => ?_⟩
    · rw [hCL, e20, e18, e16, sa_ne (by omega), sa_ne (by omega), Nat.add_zero]
      by_cases q : w = 0
      · rw [q, sa_at, if_pos rfl]
      · rw [sa_nx q, if_neg q]
        exact v2.1 w hw
    · rw [r75, r76] at h
      rw [hCL, if_neg (by omega)]
