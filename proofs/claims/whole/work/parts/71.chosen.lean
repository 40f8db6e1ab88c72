/-! isChosen, choose of the reference -/
theorem sb_M {σ τ : St} (hS : IS σ) (hT : IT σ) (hC : CTx σ σ) (h117 : τ.1 117 = σ.1 117) (h94 : τ.1 94 = σ.1 94) {u st s : Nat} {l : Int} (hu : u < nU σ) (hb : bh σ u ≤ u) (hl : 0 ≤ l ∧ l < σ.2.1 8 6) (h4 : st < 4) (hs : s ≤ 12) : f_MO_stateBehind τ (bc σ u) st l s = sbA σ u st l s ∧ p_MO_stateBehind τ (bc σ u) st l s ∧ (sbA σ u st l s = -1 ∨ (0 ≤ sbA σ u st l s ∧ sbA σ u st l s < 4)) := by
  have n := hS.1
  unfold NumOk at n
  have n8 := nU_le hT
  have hbc := bc_le (σ := σ) (u := u)
  have hk := (hC.2.2.2.2.2.1 u hu hb).1
  have e1 : τ.1 117 (bc σ u) = kd σ u := by rw [h117]; exact hk
  have hk3 : kd σ u = 3 ↔ us σ u = 6 := by
    unfold kd
    by_cases z : us σ u = 6
    · rw [if_pos z]; exact ⟨fun _ => z, fun _ => rfl⟩
    · rw [if_neg z]
      refine ⟨fun w => ?_, fun w => absurd w z⟩
      split at w
      · exact absurd w (by decide)
      · split at w <;> exact absurd w (by decide)
  refine ⟨?_, ?_, ?_⟩
  · unfold f_MO_stateBehind sbA
    rw [Int.toNat_natCast, e1, h94]
    by_cases z : us σ u = 6
    · rw [if_pos z, if_neg (fun w => w (hk3.mpr z))]
    · rw [if_neg z, if_pos (fun w => z (hk3.mp w))]
      by_cases s0 : 0 < s
      · rw [if_neg (show ¬ (s : Int) ≤ 0 by omega)]
        by_cases t0 : 0 < st
        · rw [if_neg (show ¬ (st : Int) ≤ 0 by omega), if_pos ⟨s0, t0⟩]
        · rw [if_pos (show (st : Int) ≤ 0 by omega), if_neg (show ¬ (0 < s ∧ 0 < st) from fun w => t0 w.2), if_pos (show (0 : Int) < s by omega), if_pos (show 0 < s ∨ 1 < st from Or.inl s0)]
      · rw [if_pos (show (s : Int) ≤ 0 by omega), if_neg (show ¬ (0 < s ∧ 0 < st) from fun w => s0 w.1), if_neg (show ¬ (0 : Int) < s by omega)]
        by_cases t1 : 1 < st
        · rw [if_neg (show ¬ (st : Int) ≤ 1 by omega), if_pos (show 0 < s ∨ 1 < st from Or.inr t1)]
        · rw [if_pos (show (st : Int) ≤ 1 by omega), if_neg (show ¬ (0 < s ∨ 1 < st) by omega)]
  · have r3 : rng ((if 0 < (s : Int) then (2 : Int) else if (st : Int) ≤ 1 then (0 : Int) else (2 : Int)) + (if τ.1 94 l.toNat ≠ 0 then 1 else 0)) := by
      constructor <;> (split <;> split <;> (try split) <;> omega)
    exact ⟨by omega, fun _ => ⟨⟨by omega, by omega⟩, fun _ => ⟨fun _ => ⟨by omega, by omega⟩, by omega, r3⟩, fun _ => ⟨⟨by omega, by omega⟩, fun _ => ⟨by omega, r3⟩⟩⟩⟩
  · unfold sbA
    split
    · omega
    · split
      · omega
      · split <;> split <;> omega
/-- what choose leaves -/
def CMx (σ : St) (E : Nat) (u st : Nat) (ps : List Pc) (o : Int × Nat × Nat) (τ υ : St) : Prop := SMx σ (ps ++ [(u, o)]) υ ∧ FrS τ υ ∧ υ.1 124 = τ.1 124 ∧ υ.2.1 8 66 = bc σ (u + ln3 σ o.1.toNat) ∧ υ.2.1 8 67 = sbA σ u st o.1 o.2.2 ∧ υ.2.1 8 64 = τ.2.1 8 64 ∧ υ.2.1 8 65 = τ.2.1 8 65
theorem t_isChosen {G : GT} {σ τ : St} (hS : IS σ) (hT : IT σ) (hC : CTx σ σ) (hF : FrS σ τ) {u E F w st : Nat} {l : Int} {ps : List Pc} (hLT : LT σ E F τ) (hFu : F ≤ u) (hu : u < E) (hE : Bnd σ E) (hl : l ∈ kl σ u) (hw : w ≤ 300) (h4 : st < 4) (hps : Chn σ F ps u) (hSM : SMx σ ps τ) : CJ G m_MO_isChosen [O 8, I (bc σ u), I (bc σ (u + ln3 σ l.toNat)), I l, I w, I st] τ (fun r υ => ((optF σ u l).find? (okO σ E u w st) = none ∧ r = 0 ∧ υ = τ) ∨ ∃ o, (optF σ u l).find? (okO σ E u w st) = some o ∧ r = 1 ∧ CMx σ E u st ps o τ υ) := by
  have n := hS.1
  unfold NumOk at n
  have n8 := nU_le hT
  have E8 := hE.1
  have hun : u < nU σ := by omega
  have hBS := hC.2.2.2.2.2.1
  have NVe : NV = 536870912 := rfl
  obtain ⟨hb, hl0, hle, hor, cr⟩ := kl_mem hS hT hun hl
  have hnE := cr E hu hE.1 hE.2
  obtain ⟨k1, k2, k3, -, -⟩ := kl_bc hS hT hBS hun hl
  have lp := ln3_pos (σ := σ) (g := l.toNat)
  obtain ⟨v, hv⟩ : ∃ v, u + ln3 σ l.toNat = v := ⟨_, rfl⟩
  have hpl := place_M (τ := τ) hS hT hBS (hF.1 121 (by omega)) (hF.1 122 (by omega)) hun hl
  rw [hv] at hnE k1 k2 k3 hpl ⊢
  obtain ⟨p1, p2⟩ := hpl
  have pb := plc_b (σ := σ) (u := u) (l := l)
  have m1 := bc_le (σ := σ) (u := v)
  have ha : 4 * l + plc σ u l = (slt σ u l : Int) := by unfold slt; omega
  have ha4 : ((slt σ u l : Nat) : Int) < 4 * σ.2.1 8 6 := by omega
  obtain ⟨s1, s2, s3⟩ := hS.2.2.2.2.2.2.2.2.2.1 (slt σ u l) ha4
  obtain ⟨m, hm⟩ : ∃ m : Nat, σ.1 105 (slt σ u l) = m := ⟨(σ.1 105 (slt σ u l)).toNat, by omega⟩
  have hfr : frm σ (slt σ u l) = (List.range' 0 m).map (fun k => (σ.1 104 (3 * slt σ u l + k)).toNat) := by
    unfold frm
    rw [hm, Int.toNat_natCast, List.range_eq_range']
  have rowu : τ.1 124 (ix (bc σ u) w st) = LL σ E u w st := hLT u hFu (by omega) hb w st hw h4
  have r105 : τ.1 105 (slt σ u l) = m := by rw [hF.1 105 (by omega)]; exact hm
  refine CJ.go (fun _ => k_MO_isChosen_0 ⟨p1, ?_⟩)
  rw [p2, ha]
  have outer : ∀ (d k : Nat), k + d = m → (((List.range' k d).map (fun k => (σ.1 104 (3 * slt σ u l + k)).toNat)).flatMap (optS σ l)).find? (okO σ E u w st) = (optF σ u l).find? (okO σ E u w st) → a_MO_isChosen_17 G (bc σ u) (bc σ v) l w st (slt σ u l) k τ (fun r υ => ((optF σ u l).find? (okO σ E u w st) = none ∧ r = 0 ∧ υ = τ) ∨ ∃ o, (optF σ u l).find? (okO σ E u w st) = some o ∧ r = 1 ∧ CMx σ E u st ps o τ υ) := by
    intro d
    induction d with
    | zero =>
      intro k hk hr
      refine k_MO_isChosen_17 ?_
      rw [Int.toNat_natCast, r105]
      exact ⟨by omega, ⟨by omega, by omega⟩, fun _ => Or.inl ⟨by rw [← hr]; rfl, rfl, rfl⟩, fun z => absurd z (by omega)⟩
    | succ d ih =>
      intro k hk hr
      obtain ⟨-, f, f1, f2, f3⟩ := s3 k (by omega)
      obtain ⟨o1, o2⟩ := form_of hS (f := f) (l := l) (p := plc σ u l) f2 (by omega) pb
      obtain ⟨b0, b1, b2, b3, b4, b5, b6, b7⟩ := form_b hS f2
      obtain ⟨M, hM⟩ : ∃ M : Nat, σ.1 102 f = M := ⟨(σ.1 102 f).toNat, by omega⟩
      have e3 : ((3 * ((slt σ u l : Nat) : Int)) + (k : Int)).toNat = 3 * slt σ u l + k := by omega
      refine k_MO_isChosen_17 ?_
      rw [Int.toNat_natCast, r105, e3, hF.1 104 (by omega), f1]
      refine ⟨by omega, ⟨by omega, by omega⟩, fun z => absurd z (by omega), fun _ => ⟨by omega, ?_⟩⟩
      rw [List.range'_succ, List.map_cons, List.flatMap_cons, f1, Int.toNat_natCast, List.find?_append] at hr
      have r102 : τ.1 102 f = M := by rw [hF.1 102 (by omega)]; exact hM
      have r97 : τ.1 97 f = σ.1 97 f := by rw [hF.1 97 (by omega)]
      -- no stretch of this form is left
      have leave : ∀ x : Nat, (∀ y, y ≤ M → x ≤ y → okO σ E u w st (l, f, y) = false) → (((List.range' x (M + 1 - x)).map (fun s => (l, f, s))).find? (okO σ E u w st)) = none := fun x hx => by
        rw [List.find?_eq_none]
        intro o ho
        obtain ⟨y, y1, y2⟩ := List.mem_map.mp ho
        have := List.mem_range'_1.mp y1
        rw [← y2, hx y (by omega) (by omega)]
        decide
      have inner : ∀ (e x : Nat), x + e = M + 1 → (optS σ l f).find? (okO σ E u w st) = ((List.range' x e).map (fun s => (l, f, s))).find? (okO σ E u w st) → a_MO_isChosen_46 G (bc σ u) (bc σ v) l w st (slt σ u l) k f x τ (fun r υ => ((optF σ u l).find? (okO σ E u w st) = none ∧ r = 0 ∧ υ = τ) ∨ ∃ o, (optF σ u l).find? (okO σ E u w st) = some o ∧ r = 1 ∧ CMx σ E u st ps o τ υ) := by
        intro e
        induction e with
        | zero =>
          intro x hx hr2
          refine k_MO_isChosen_46 ?_
          rw [Int.toNat_natCast f, r102, r97]
          refine ⟨by omega, ⟨by omega, by omega⟩, fun _ => ?_, fun z => absurd z (by omega)⟩
          rw [show ((k : Int) + 1) = ((k + 1 : Nat) : Int) by omega]
          refine ih (k + 1) (by omega) ?_
          rw [hr2] at hr
          exact hr
        | succ e ihe =>
          intro x hx hr2
          have goNext : okO σ E u w st (l, f, x) = false → a_MO_isChosen_46 G (bc σ u) (bc σ v) l w st (slt σ u l) k f ((x : Int) + 1) τ (fun r υ => ((optF σ u l).find? (okO σ E u w st) = none ∧ r = 0 ∧ υ = τ) ∨ ∃ o, (optF σ u l).find? (okO σ E u w st) = some o ∧ r = 1 ∧ CMx σ E u st ps o τ υ) := fun hno => by
            rw [show ((x : Int) + 1) = ((x + 1 : Nat) : Int) by omega]
            refine ihe (x + 1) (by omega) ?_
            rw [hr2, List.range'_succ, List.map_cons, List.find?_cons, hno]
          obtain ⟨q1, q2, q3⟩ := sb_M (τ := τ) hS hT hC (hF.1 117 (by omega)) (hF.1 94 (by omega)) hun hb hl0 h4 (show x ≤ 12 by omega)
          obtain ⟨c1, c2⟩ := cst_b hS f2 (s := x) (by omega)
          have hcs : σ.1 100 f + σ.1 103 f * x * x = cst σ f x := rfl
          have hwd : σ.1 97 f + (x : Int) = (wd σ f x : Int) := by unfold wd; omega
          refine k_MO_isChosen_46 ?_
          rw [Int.toNat_natCast f, r102, r97, q1, hF.1 100 (by omega), hF.1 103 (by omega), hcs, hwd]
          refine ⟨by omega, ⟨by omega, by omega⟩, fun z => absurd z (by omega), fun _ => ⟨⟨by omega, by omega⟩, ⟨by omega, by omega⟩, fun z => ?_, fun z => ⟨q2, fun z2 => goNext ?_, fun z2 => ?_⟩⟩⟩
          · rw [show ((k : Int) + 1) = ((k + 1 : Nat) : Int) by omega]
            refine ih (k + 1) (by omega) ?_
            have hl2 := leave x (fun y hy hxy => by
              have : ¬ okO σ E u w st (l, f, y) = true := fun q => by
                unfold okO at q
                rw [decide_eq_true_iff] at q
                have := q.2.1
                simp only at this
                unfold wd at this z
                omega
              simpa using this)
            rw [show M + 1 - x = e + 1 by omega] at hl2
            rw [hr2, hl2] at hr
            exact hr
          · have : ¬ okO σ E u w st (l, f, x) = true := fun q => by
              unfold okO at q
              rw [decide_eq_true_iff] at q
              have := q.1
              simp only at this
              omega
            simpa using this
          · obtain ⟨to, hto⟩ : ∃ to : Nat, sbA σ u st l x = to := ⟨(sbA σ u st l x).toNat, by omega⟩
            have to4 : to < 4 := by omega
            rw [hto]
            have i1 : ((((bc σ v : Int) * 301) + ((w : Int) - σ.1 97 f - (x : Int))) * 4 + (to : Int)).toNat = ix (bc σ v) (w - wd σ f x) to := by unfold ix wd at *; omega
            have i2 : ((((bc σ u : Int) * 301) + (w : Int)) * 4 + (st : Int)).toNat = ix (bc σ u) w st := ix_e
            have rowv : τ.1 124 (ix (bc σ v) (w - wd σ f x) to) = LL σ E v (w - wd σ f x) to := hLT v (by omega) (by omega) k2 _ _ (by omega) to4
            rw [i1, i2, rowv, rowu]
            have rngV := LL_b hS hT E8 (E - v) v (by omega) (w - wd σ f x) to
            have hok : okO σ E u w st (l, f, x) = true ↔ LL σ E v (w - wd σ f x) to + cst σ f x = LL σ E u w st := by
              unfold okO
              rw [decide_eq_true_iff]
              simp only
              rw [hv, hto, Int.toNat_natCast]
              exact ⟨fun y => y.2.2, fun y => ⟨by omega, by omega, y⟩⟩
            have wwd : wd σ f x ≤ w := by omega
            have bi : bc σ u ≤ 80 ∧ bc σ v ≤ 80 := by omega
            refine ⟨⟨by omega, by omega⟩, ⟨by omega, by omega⟩, ⟨by omega, by omega⟩, ⟨by omega, by omega⟩, ⟨by omega, by omega⟩, ⟨by omega, by omega⟩, fun z3 => goNext ?_, fun z3 => ?_⟩
            · cases q : okO σ E u w st (l, f, x) with
              | false => rfl
              | true => exact absurd (hok.mp q) z3
            · have hG : GPc σ (u, l, f, x) := ⟨hun, hl, f2, by show (x : Int) ≤ σ.1 102 f; omega, o1, o2⟩
              have ad := t_addM (G := G) hS hT hC hF (q := (u, l, f, x)) (F := F) hps hG hSM
              simp only at ad
              rw [hv] at ad
              refine CJ.mono ad (fun _ υ _ hυ => ?_)
              obtain ⟨y1, y2, y3, y4, y5⟩ := hυ
              refine ⟨⟨by omega, by omega⟩, fun s31 e31 s34 e34 => Or.inr ⟨(l, f, x), ?_, rfl, ?_⟩⟩
              · rw [hr2, List.range'_succ, List.map_cons, List.find?_cons, hok.mpr z3] at hr
                rw [← hr]
                rfl
              · have A34 : s34.1 = υ.1 := by rw [e34, e31]; rfl
                refine ⟨?_, by rw [e34, e31]; exact (y2.sf (by decide)).sf (by decide), by rw [A34]; exact y3, ?_, ?_, ?_, ?_⟩
                · unfold SMx at y1 ⊢
                  rw [A34, e34, e31, sf_nx (by decide), sf_nx (by decide), sf_nx (by decide), sf_nx (by decide), sf_nx (by decide), sf_nx (by decide)]
                  exact y1
                · rw [e34, e31, sf_nx (by decide), sf_at]
                  simp only
                  rw [hv]
                · rw [e34, sf_at]
                  simp only
                  rw [hto]
                · rw [e34, e31, sf_nx (by decide), sf_nx (by decide)]
                  exact y5 _ (by decide) (by decide) (by decide)
                · rw [e34, e31, sf_nx (by decide), sf_nx (by decide)]
                  exact y5 _ (by decide) (by decide) (by decide)
      refine inner (M + 1) 0 (by omega) ?_
      unfold optS
      rw [hM, Int.toNat_natCast, List.range_eq_range']
  refine outer m 0 (by omega) ?_
  unfold optF
  rw [hfr]
theorem t_chooseM {G : GT} {σ τ : St} (hS : IS σ) (hT : IT σ) (hC : CTx σ σ) (hF : FrS σ τ) {u E F w st : Nat} {ps : List Pc} (hLT : LT σ E F τ) (hFu : F ≤ u) (hu : u < E) (hb : bh σ u ≤ u) (hE : Bnd σ E) (hw : w ≤ 300) (h4 : st < 4) (hps : Chn σ F ps u) (hSM : SMx σ ps τ) {o : Int × Nat × Nat} (hfind : (opt σ u).find? (okO σ E u w st) = some o) : CJ G m_MO_choose [O 8, I (bc σ u), I w, I st, I (bc σ E)] τ (fun _ υ => CMx σ E u st ps o τ υ) := by
  have n := hS.1
  unfold NumOk at n
  have n8 := nU_le hT
  have E8 := hE.1
  have hun : u < nU σ := by omega
  have hBS := hC.2.2.2.2.2.1
  have hL : nL σ ≤ 60 := by unfold nL; omega
  have hLe : ((nL σ : Nat) : Int) = σ.2.1 8 6 := by unfold nL; omega
  have hbc := bc_le (σ := σ) (u := u)
  have hkl : kl σ u = lb σ u :: opl σ u (nL σ) := by unfold kl; rw [if_pos hb]
  have hlb : lb σ u ∈ kl σ u := by rw [hkl]; exact List.mem_cons_self ..
  obtain ⟨-, -, -, k4, -⟩ := kl_bc hS hT hBS hun hlb
  have r118 : τ.1 118 (bc σ u) = lb σ u := by rw [hF.1 118 (by omega)]; exact (hBS u hun hb).2.1
  have h6 : τ.2.1 8 6 = σ.2.1 8 6 := hF.2.2.1 _ (by decide)
  unfold opt at hfind
  rw [hkl, List.flatMap_cons, List.find?_append] at hfind
  refine CJ.go (fun _ => k_MO_choose_0 ⟨by omega, ?_⟩)
  rw [Int.toNat_natCast, r118, show ((bc σ u : Int) + 1) = (bc σ (u + ln3 σ (lb σ u).toNat) : Int) by have := k4 rfl; omega]
  refine CJ.mono (t_isChosen hS hT hC hF hLT hFu hu hE hlb hw h4 hps hSM) (fun r υ _ hυ => ?_)
  rcases hυ with ⟨h1, h2, h3⟩ | ⟨o', h1, h2, h3⟩
  · rw [h1] at hfind
    refine ⟨fun _ => ?_, fun z => absurd h2 z⟩
    rw [h3]
    have ligs : ∀ (e l : Nat), l + e = nL σ → (((List.range' l e).filter (opb σ u)).flatMap (fun (g : Nat) => optF σ u (g : Int))).find? (okO σ E u w st) = some o → a_MO_choose_23 G (bc σ u) w st (bc σ E) l τ (fun _ υ => CMx σ E u st ps o τ υ) := by
      intro e
      induction e with
      | zero =>
        intro l hl hr
        simp at hr
      | succ e ihe =>
        intro l hl hr
        have next : opb σ u l = false → a_MO_choose_23 G (bc σ u) w st (bc σ E) ((l : Int) + 1) τ (fun _ υ => CMx σ E u st ps o τ υ) := fun hno => by
          refine ihe (l + 1) (by omega) ?_
          rw [List.range'_succ, List.filter_cons, if_neg (by rw [hno]; decide)] at hr
          exact hr
        refine k_MO_choose_23 ?_
        rw [h6, Int.toNat_natCast, hF.1 89 (by omega)]
        refine ⟨⟨by omega, by omega⟩, fun z => absurd z (by omega), fun _ => ⟨by omega, fun z => next ?_, fun z => ?_⟩⟩
        · unfold opb
          simp [z]
        · refine CJ.mono (t_mayBe (τ := τ) hS hT hBS (fun k hk => hF.1 k (by omega)) hu E8 hE.2 hb (show l < nL σ by omega) z) (fun r v _ hv => ?_)
          obtain ⟨hv, hr'⟩ := hv
          rw [hv, hr', hF.1 92 (by omega)]
          by_cases co : opb σ u l = true
          · rw [if_pos co]
            refine ⟨fun w => absurd w (by decide), fun _ => ⟨by split <;> exact ⟨by decide, by decide⟩, ?_⟩⟩
            have hmem : (l : Int) ∈ kl σ u := by
              rw [hkl]
              refine List.mem_cons_of_mem _ (List.mem_map.mpr ⟨l, List.mem_filter.mpr ⟨List.mem_range.mpr (by omega), co⟩, rfl⟩)
            obtain ⟨-, -, -, -, k5⟩ := kl_bc hS hT hBS hun hmem
            have hc : (if 0 ≤ σ.1 92 l then (3 : Int) else 2) = (ln3 σ l : Int) := by
              unfold ln3
              rw [if_pos z]
              by_cases zz : σ.1 92 l < 0
              · rw [if_neg (by omega), if_pos zz]; rfl
              · rw [if_pos (by omega), if_neg zz]; rfl
            have hq : (bc σ u : Int) + (ln3 σ l : Int) = (bc σ (u + ln3 σ ((l : Int)).toNat) : Int) := by
              have := k5 l rfl co
              omega
            rw [hc, hq]
            rw [List.range'_succ, List.filter_cons, if_pos co, List.flatMap_cons, List.find?_append] at hr
            refine CJ.mono (t_isChosen hS hT hC hF hLT hFu hu hE hmem hw h4 hps hSM) (fun r υ _ hυ => ?_)
            rcases hυ with ⟨y1, y2, y3⟩ | ⟨o', y1, y2, y3⟩
            · rw [y1] at hr
              refine ⟨fun _ => ?_, fun z => absurd y2 z⟩
              rw [y3]
              exact ihe (l + 1) (by omega) hr
            · rw [y1] at hr
              have ho : o' = o := Option.some.inj hr
              refine ⟨fun z => absurd z (by omega), fun _ => ?_⟩
              rw [← ho]
              exact y3
          · rw [if_neg co]
            exact ⟨fun _ => next (by simpa using co), fun w => absurd rfl w⟩
    refine ligs (nL σ) 0 (by omega) ?_
    unfold opl at hfind
    rw [List.range_eq_range', List.flatMap_map] at hfind
    exact hfind
  · rw [h1] at hfind
    have ho : o' = o := Option.some.inj hfind
    refine ⟨fun z => absurd z (by omega), fun _ => ?_⟩
    rw [← ho]
    exact h3
