/-! layMarks of the reference -/
theorem base_of {σ : St} {u c : Nat} (hb : bh σ u ≤ u) : ∀ d, d < c → ∃ v, u ≤ v ∧ v ≤ u + d ∧ bh σ v ≤ v ∧ bc σ (u + d + 1) = bc σ v + 1
  | 0, _ => ⟨u, Nat.le_refl _, Nat.le_refl _, hb, cnt_t (bq_t hb)⟩
  | d + 1, h => by
    by_cases z : bh σ (u + (d + 1)) ≤ u + (d + 1)
    · exact ⟨u + (d + 1), by omega, Nat.le_refl _, z, cnt_t (bq_t z)⟩
    · obtain ⟨v, v1, v2, v3, v4⟩ := base_of (c := c) hb d (by omega)
      exact ⟨v, v1, by omega, v3, by rw [← v4]; exact cnt_f (bq_f z)⟩
theorem t_layMarks {G : GT} {σ τ : St} {F E : Nat} (hS : IS σ) (hT : IT σ) (hC : CTx σ σ) (hF : FrS σ τ) {ps : List Pc} (hps : Chn σ F ps E) (hE : E ≤ nU σ) (hno : lkR σ F E = false) (hSM : SMx σ ps τ) (hfr : τ.2.1 8 64 = upE σ F) (hto : τ.2.1 8 65 = (upE σ E : Int) - 1) : CJ G m_MO_layMarks [O 8] τ (fun _ υ => RMx (MS σ ps) υ ∧ HDx σ ps (MS σ ps) υ ∧ KM τ υ ∧ MWd σ (MS σ ps) ∧ MBd (MS σ ps) ∧ (MS σ ps).length ≤ 80) := by
  have n := hS.1
  unfold NumOk at n
  obtain ⟨t1, t2, t3, -⟩ := id hT
  have tn8 : tn σ ≤ 80 := by unfold tn; omega
  have n8 := nU_le hT
  have hG : ∀ q ∈ ps, GPc σ q := fun q hq => (Chn_G hps q hq).1
  have hlen := Chn_len hps
  have h80 : ps.length ≤ 80 := by omega
  have nolk : ∀ u, F ≤ u → u < E → lk σ u = false := fun u h1 h2 => by
    cases q : lk σ u with
    | false => rfl
    | true => rw [lkR_iff.mpr ⟨u, h1, h2, q⟩] at hno; exact absurd hno (by decide)
  have upE_le : ∀ u, upE σ u ≤ tn σ := fun u => by
    unfold upE
    split
    · rename_i q; have := (up_ex q).1; omega
    · exact Nat.le_refl _
  have pb := pbl_bb hS hG h80
  refine CJ.go (fun _ => k_MO_layMarks_0 (fun s1 e1 s2 e2 s3 e3 => ?_))
  have Q0 : KM τ s3 := by rw [e3, e2, e1]; exact ((KM.refl.sf (by omega)).sf (by omega)).sf (by omega)
  obtain ⟨Q, hQ⟩ : ∃ Q : Int → St → Prop, Q = (fun _ υ => RMx (MS σ ps) υ ∧ HDx σ ps (MS σ ps) υ ∧ KM τ υ ∧ MWd σ (MS σ ps) ∧ MBd (MS σ ps) ∧ (MS σ ps).length ≤ 80) := ⟨_, rfl⟩
  rw [← hQ]
  -- the marks
  have pieces : ∀ (d k u : Nat) (υ : St) (ms : List Mk), k + d = ps.length → Chn σ u (ps.drop k) E → F ≤ u → RMx ms υ → HDx σ ps ms υ → KM τ υ → MWd σ ms → MBd ms → ms.length ≤ upE σ u → lays σ ps (prs σ k (ps.drop k)) ms = MS σ ps → a_MO_layMarks_116 G (upE σ u) υ Q := by
    intro d
    induction d with
    | zero =>
      intro k u υ ms hk hch hFu r1 r2 r3 r4 r5 r6 r7
      rw [List.drop_eq_nil_of_le (by omega)] at r7 hch
      have e : ms = MS σ ps := r7
      have eu : u = E := hch
      rw [eu] at r6 ⊢
      have hto' : υ.2.1 8 65 = (upE σ E : Int) - 1 := by rw [r3.2.2.1 65 (by omega) (by omega) (by omega)]; exact hto
      have := upE_le E
      refine k_MO_layMarks_116 ?_
      rw [hto']
      refine ⟨⟨by omega, by omega⟩, fun _ => ?_, fun z => absurd z (by omega)⟩
      rw [hQ, ← e]
      exact ⟨r1, r2, r3, r4, r5, by omega⟩
    | succ d ih =>
      intro k u υ ms hk hch hFu r1 r2 r3 r4 r5 r6 r7
      have hkl : k < ps.length := by omega
      have hdrop : ps.drop k = ps[k] :: ps.drop (k + 1) := List.drop_eq_getElem_cons hkl
      rw [hdrop] at hch r7
      obtain ⟨q, hq⟩ : ∃ q, ps[k] = q := ⟨_, rfl⟩
      rw [hq] at hch r7
      have hq' : ps[k]? = some q := by rw [← hq]; exact List.getElem?_eq_getElem hkl
      obtain ⟨uu, l, f, s⟩ := q
      obtain ⟨cu, cG, cR⟩ := hch
      simp only at cu cR
      subst cu
      have hlen2 := Chn_len cR
      obtain ⟨g1, g2, g3, g4, g5, g6⟩ := id cG
      simp only at g1 g2 g3 g4 g5 g6
      obtain ⟨hb, hl0, hle, -, -⟩ := kl_mem hS hT g1 g2
      have units : ∀ (c v : Nat) (υ : St) (ms : List Mk), v + c = uu + ln3 σ l.toNat → uu ≤ v → RMx ms υ → HDx σ ps ms υ → KM τ υ → MWd σ ms → MBd ms → ms.length ≤ upE σ v → lays σ ps ((mpP σ v c).map (fun i => (i, k)) ++ prs σ (k + 1) (ps.drop (k + 1))) ms = MS σ ps → a_MO_layMarks_116 G (upE σ v) υ Q := by
        intro c
        induction c with
        | zero =>
          intro v υ ms hv hvu q1 q2 q3 q4 q5 q6 q7
          rw [show v = uu + ln3 σ l.toNat by omega] at q6 ⊢
          exact ih (k + 1) (uu + ln3 σ l.toNat) υ ms (by omega) cR (by omega) q1 q2 q3 q4 q5 q6 (by simpa [mpP] using q7)
        | succ c ihc =>
          intro v υ ms hv hvu q1 q2 q3 q4 q5 q6 q7
          have hvn : v < nU σ := by omega
          obtain ⟨w1, w2, w3, w4⟩ := la_up hvn
          obtain ⟨u1, u2, u3⟩ := up_ex hvn
          have hupE : upE σ v = up σ v := by unfold upE; rw [if_pos hvn]
          have hmp : mpP σ v (c + 1) = mpU σ v ++ mpP σ (v + 1) c := by
            unfold mpP
            rw [List.range'_succ, List.flatMap_cons]
          rw [hmp, List.map_append, List.append_assoc] at q7
          rw [hupE] at q6 ⊢
          have upEE : upE σ (v + 1) ≤ upE σ E := by
            by_cases z : v + 1 < nU σ
            · by_cases y : E < nU σ
              · have hc1 := (up_ex z)
                have hc2 := (up_ex y)
                have : upE σ (v + 1) = up σ (v + 1) := by unfold upE; rw [if_pos z]
                have : upE σ E = up σ E := by unfold upE; rw [if_pos y]
                rcases Nat.lt_or_ge (up σ E) (up σ (v + 1)) with x | x
                · have := uc_lt hc2.2.1 x; omega
                · omega
              · have : upE σ E = tn σ := by unfold upE; rw [if_neg y]
                have := upE_le (v + 1)
                omega
            · rw [show v + 1 = E by omega]
              exact Nat.le_refl _
          have facts : ∀ (υ : St) (i : Nat), KM τ υ → i < tn σ → υ.2.1 8 65 = (upE σ E : Int) - 1 ∧ υ.1 106 i = tx σ i ∧ (0 ≤ tx σ i ∧ tx σ i < 60) ∧ υ.1 89 (tx σ i).toNat = ts σ i ∧ υ.1 116 i = (if sd (ts σ) i = true then 1 else 0) ∧ υ.1 115 i = (bc σ (uc σ (i + 1)) : Int) - 1 := fun υ i hK hi => by
            obtain ⟨x1, x2, x3, x4⟩ := t3 i (by unfold tn at hi; omega)
            have x2' : 0 ≤ tx σ i := x2
            have x3' : tx σ i < σ.2.1 8 6 := x3
            refine ⟨by rw [hK.2.2.1 65 (by omega) (by omega) (by omega)]; exact hto, ?_, ⟨x2', by omega⟩, ?_, ?_, ?_⟩
            · rw [hK.1 106 (by omega), hF.1 106 (by omega)]; rfl
            · rw [hK.1 89 (by omega), hF.1 89 (by omega)]; rfl
            · rw [hK.1 116 (by omega), hF.1 116 (by omega)]; exact (hC.2.2.2.1 i hi).2
            · rw [hK.1 115 (by omega), hF.1 115 (by omega)]; exact hC.2.2.2.2.1 i hi trivial
          have marks : ∀ (e i : Nat) (υ : St) (ms : List Mk), i + e = la σ v + 1 → up σ v < i → RMx ms υ → HDx σ ps ms υ → KM τ υ → MWd σ ms → MBd ms → ms.length ≤ i → lays σ ps ((List.range' i e).map (fun i => (i, k)) ++ ((mpP σ (v + 1) c).map (fun i => (i, k)) ++ prs σ (k + 1) (ps.drop (k + 1)))) ms = MS σ ps → a_MO_layMarks_116 G i υ Q := by
            intro e
            induction e with
            | zero =>
              intro i υ ms hi hiu q1 q2 q3 q4 q5 q6 q7
              rw [show i = upE σ (v + 1) by omega] at q6 ⊢
              exact ihc (v + 1) υ ms (by omega) (by omega) q1 q2 q3 q4 q5 q6 (by simpa using q7)
            | succ e ihe =>
              intro i υ ms hi hiu q1 q2 q3 q4 q5 q6 q7
              obtain ⟨i1, i2, i3⟩ := mpU_sd hvn hiu (show i ≤ la σ v by omega)
              have hform := lk_form (nolk v (by omega) (by omega)) i1 i2 i3
              obtain ⟨f1, f2, f3, f4, f5, f6⟩ := facts υ i q3 i1
              rw [i2, if_pos rfl] at f5
              have hmk := (sd_mark i2).1
              obtain ⟨b, b1, b2, b3, b4⟩ := base_of hb (v - uu) (c := ln3 σ l.toNat) (by omega)
              rw [show uu + (v - uu) + 1 = v + 1 by omega] at b4
              rw [i3, b4] at f6
              have hSM' := q3.sm hSM
              have hset : υ.1 132 (bc σ b) = k := (hSM'.2.2.2 k _ hq').2.2.2.2.2.2.2 b b1 (by simp only; omega) b3
              have bcl := bc_le (σ := σ) (u := b)
              have lm := t_layMark (G := G) hS hT (hF.trans q3.s) hG h80 hkl i1 hmk hform hSM' q1 q4 q5 (by omega) q2
              obtain ⟨-, -, bN⟩ := lay_b hS hT hG h80 hkl i1 hform q5 (by omega)
              rw [List.range'_succ, List.map_cons, List.cons_append] at q7
              have q7' : lays σ ps ((List.range' (i + 1) e).map (fun i => (i, k)) ++ ((mpP σ (v + 1) c).map (fun i => (i, k)) ++ prs σ (k + 1) (ps.drop (k + 1)))) (ms ++ [lay1 σ ps ms i k]) = MS σ ps := q7
              refine k_MO_layMarks_116 ?_
              rw [f1, Int.toNat_natCast i, f2, f4, f5, f6, show ((((bc σ b + 1 : Nat) : Int) - 1).toNat) = bc σ b by omega, hset]
              refine ⟨⟨by omega, by omega⟩, fun z => absurd z (by omega), fun _ => ⟨by omega, by omega, fun z => absurd z (by omega), fun _ => ⟨fun z => absurd z (by omega), fun _ => ⟨by omega, CJ.mono lm (fun r υ' _ hυ => ?_)⟩⟩⟩⟩
              obtain ⟨p1, p2, p3⟩ := hυ
              exact ihe (i + 1) υ' (ms ++ [lay1 σ ps ms i k]) (by omega) (by omega) p1 p2 (q3.trans p3) (lay_wd q4 i1 hform) bN (by simp; omega) q7'
          obtain ⟨f1, f2, f3, f4, f5, f6⟩ := facts υ (up σ v) q3 u1
          rw [u2, if_neg (by decide)] at f5
          have go := marks (la σ v - up σ v) (up σ v + 1) υ ms (by omega) (by omega) q1 q2 q3 q4 q5 (by omega) q7
          refine k_MO_layMarks_116 ?_
          rw [f1, Int.toNat_natCast (up σ v), f2, f4, f5]
          exact ⟨⟨by omega, by omega⟩, fun z => absurd z (by omega), fun _ => ⟨by omega, by omega, fun _ => go, fun _ => ⟨fun _ => go, fun z => absurd rfl z⟩⟩⟩
      exact units (ln3 σ l.toNat) uu υ ms rfl (Nat.le_refl _) r1 r2 r3 r4 r5 r6 r7
  -- the heights of the pieces
  have high : ∀ (d i : Nat) (υ : St), i + d = ps.length → KM τ υ → υ.2.1 8 55 = 0 → υ.2.1 8 62 = hgM ((pbl σ 0 ps).take i) → υ.2.1 8 63 = dpM ((pbl σ 0 ps).take i) → a_MO_layMarks_17 G i υ Q := by
    intro d
    induction d with
    | zero =>
      intro i υ hi hK h1 h2 h3
      have hSM' := hK.sm hSM
      have hfr' : υ.2.1 8 64 = (upE σ F : Int) := by rw [hK.2.2.1 64 (by omega) (by omega) (by omega)]; exact hfr
      rw [List.take_of_length_le (by rw [pbl_len]; omega)] at h2 h3
      refine k_MO_layMarks_17 ?_
      rw [hSM'.1, hfr']
      refine ⟨⟨by omega, by omega⟩, fun _ => ?_, fun z => absurd z (by omega)⟩
      exact pieces ps.length 0 F υ [] (by omega) (by rw [List.drop_zero]; exact hps) (Nat.le_refl _) ⟨h1, fun k m hm => by simp at hm⟩ ⟨by simpa [mbl] using h2, by simpa [mbl] using h3⟩ hK (fun m hm => by simp at hm) (fun m hm => by simp at hm) (by simp) (by rw [List.drop_zero]; rfl)
    | succ d ih =>
      intro i υ hi hK h1 h2 h3
      have hSM' := hK.sm hSM
      obtain ⟨q, hq⟩ : ∃ q, ps[i]? = some q := ⟨_, List.getElem?_eq_getElem (show i < ps.length by omega)⟩
      have hGq := hG q (List.mem_of_getElem? hq)
      obtain ⟨g1, g2, g3, g4, -⟩ := hSM'.2.2.2 i q hq
      obtain ⟨c0, c1, c2, c3, -⟩ := form_b hS hGq.2.2.1
      have hx := pbl_get (σ := σ) ps 0 i q hq
      have b98 : υ.1 98 = σ.1 98 := by rw [hK.1 98 (by omega)]; exact hF.1 98 (by omega)
      have b99 : υ.1 99 = σ.1 99 := by rw [hK.1 99 (by omega)]; exact hF.1 99 (by omega)
      obtain ⟨bb1, bb2⟩ := hgM_b (bl := (pbl σ 0 ps).take i) (fun x hx => pb x (List.mem_of_mem_take hx))
      have e1 : hgM ((pbl σ 0 ps).take (i + 1)) = if hgM ((pbl σ 0 ps).take i) ≤ σ.1 98 q.2.2.1 then σ.1 98 q.2.2.1 else hgM ((pbl σ 0 ps).take i) := by
        rw [List.take_succ, hx]
        exact hgM_app
      have e2 : dpM ((pbl σ 0 ps).take (i + 1)) = if dpM ((pbl σ 0 ps).take i) ≤ σ.1 99 q.2.2.1 then σ.1 99 q.2.2.1 else dpM ((pbl σ 0 ps).take i) := by
        rw [List.take_succ, hx]
        refine dpM_app.trans ?_
        simp only [Int.neg_neg]
      refine k_MO_layMarks_17 ?_
      rw [hSM'.1, Int.toNat_natCast i, g4, Int.toNat_natCast, b98, b99, h2, h3, ← e1, ← e2]
      refine ⟨⟨by omega, by omega⟩, fun z => absurd z (by omega), fun _ => ⟨by omega, by omega, by rw [e1]; split <;> exact ⟨by omega, by omega⟩, fun s4 e4 => ⟨by rw [e2]; split <;> exact ⟨by omega, by omega⟩, fun s5 e5 => ?_⟩⟩⟩
      refine ih (i + 1) s5 (by omega) ?_ ?_ ?_ ?_
      · rw [e5, e4]; exact (hK.sf (by omega)).sf (by omega)
      · rw [e5, e4]; show _ = _; rw [sf_nx (by omega), sf_nx (by omega)]; exact h1
      · rw [e5, e4, sf_nx (by omega)]; exact sf_at
      · rw [e5]; exact sf_at
  refine high ps.length 0 s3 (by omega) Q0 ?_ ?_ ?_
  · rw [e3, e2, e1, sf_nx (by omega), sf_nx (by omega)]; exact sf_at
  · rw [e3, e2, sf_nx (by omega)]; exact sf_at
  · rw [e3]; exact sf_at
