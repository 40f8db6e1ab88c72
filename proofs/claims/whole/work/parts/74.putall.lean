/-! putMarks of the class -/
def mpU (σ : St) (u : Nat) : List Nat := List.range' (up σ u + 1) (la σ u - up σ u)
def upE (σ : St) (u : Nat) : Nat := if u < nU σ then up σ u else tn σ
theorem la_up {σ : St} {u : Nat} (hu : u < nU σ) : la σ u + 1 = upE σ (u + 1) ∧ up σ u ≤ la σ u ∧ la σ u < tn σ ∧ uc σ (la σ u + 1) = u + 1 := by
  obtain ⟨a, b, c⟩ := up_ex hu
  have e : la σ u = upE σ (u + 1) - 1 := by unfold la upE; rfl
  have hx : uc σ (upE σ (u + 1)) = u + 1 ∧ upE σ (u + 1) ≤ tn σ ∧ 1 ≤ upE σ (u + 1) := by
    unfold upE
    by_cases q : u + 1 < nU σ
    · rw [if_pos q]
      obtain ⟨a', b', c'⟩ := up_ex q
      refine ⟨c', by omega, ?_⟩
      rcases Nat.eq_zero_or_pos (up σ (u + 1)) with z | z
      · rw [z] at c'; have : uc σ 0 = 0 := rfl; omega
      · exact z
    · rw [if_neg q]
      have : nU σ = uc σ (tn σ) := rfl
      exact ⟨by omega, Nat.le_refl _, by omega⟩
  have hlt : up σ u < upE σ (u + 1) := by
    rcases Nat.lt_or_ge (up σ u) (upE σ (u + 1)) with z | z
    · exact z
    · have := uc_mono (σ := σ) z; omega
  rw [e, show upE σ (u + 1) - 1 + 1 = upE σ (u + 1) by omega]
  exact ⟨rfl, by omega, by omega, hx.1⟩
theorem mpU_sd {σ : St} {u i : Nat} (hu : u < nU σ) (h1 : up σ u < i) (h2 : i ≤ la σ u) : i < tn σ ∧ sd (ts σ) i = true ∧ uc σ (i + 1) = u + 1 := by
  obtain ⟨a, b, c⟩ := up_ex hu
  obtain ⟨d, e, f, g⟩ := la_up hu
  have m1 := uc_mono (σ := σ) (show i + 1 ≤ la σ u + 1 by omega)
  have m2 := uc_mono (σ := σ) (show up σ u + 1 ≤ i by omega)
  have m3 := uc_mono (σ := σ) (show i ≤ i + 1 by omega)
  have e1 := uc_u b
  refine ⟨by omega, ?_, by omega⟩
  cases q : sd (ts σ) i with
  | true => rfl
  | false => have := uc_u q; omega
theorem lk_form {σ : St} {u i : Nat} (hl : lk σ u = false) (hi : i < tn σ) (hs : sd (ts σ) i = true) (hu : uc σ (i + 1) = u + 1) : σ.1 105 (4 * (tx σ i).toNat) ≠ 0 := by
  intro q
  have : lk σ u = true := by
    unfold lk
    rw [List.any_eq_true]
    refine ⟨i, List.mem_range.mpr hi, ?_⟩
    unfold lkb
    simp only [Bool.and_eq_true, decide_eq_true_iff]
    exact ⟨hs, q, hu⟩
  rw [this] at hl
  exact absurd hl (by decide)
def mpP (σ : St) (u c : Nat) : List Nat := (List.range' u c).flatMap (mpU σ)
def prs (σ : St) : Nat → List Pc → List (Nat × Nat)
  | _, [] => []
  | k, q :: r => (mpP σ q.1 (ln3 σ q.2.1.toNat)).map (fun i => (i, k)) ++ prs σ (k + 1) r
def lays (σ : St) (ps : List Pc) (l : List (Nat × Nat)) (ms : List Mk) : List Mk := l.foldl (fun ms p => ms ++ [lay1 σ ps ms p.1 p.2]) ms
def MS (σ : St) (ps : List Pc) : List Mk := lays σ ps (prs σ 0 ps) []
theorem edg_no {σ : St} {k : Nat} {ab : Bool} {e0 : Int} : ∀ (ms : List Mk), (∀ m ∈ ms, m.2.1 < k) → edg σ k ab e0 ms = e0
  | [], _ => rfl
  | m :: ms, h => by
    unfold edg
    rw [List.foldl_cons]
    have := h m (List.mem_cons_self ..)
    rw [if_neg (show ¬ (m.2.1 = k ∧ ts σ m.1 = (if ab = true then 3 else 4)) from fun y => by have := y.1; omega)]
    exact edg_no ms (fun x hx => h x (List.mem_cons_of_mem _ hx))
theorem edg_app {σ : St} {k : Nat} {ab : Bool} {e0 : Int} {ms : List Mk} {m : Mk} : edg σ k ab e0 (ms ++ [m]) = if m.2.1 = k ∧ ts σ m.1 = (if ab = true then 3 else 4) then (if ab = true then m.2.2.1.2.2.2 else m.2.2.1.2.2.1) else edg σ k ab e0 ms := by
  unfold edg
  rw [List.foldl_append]
  rfl
theorem t_putMarks {G : GT} {σ τ : St} {L F E : Nat} (hS : IS σ) (hT : IT σ) (hU : UNx σ σ) (hL : isL L) (hF : Fr WF σ τ) {ps : List Pc} (hps : Chn σ F ps E) (hE : E ≤ nU σ) (hno : lkR σ F E = false) (hLJ : LJ σ L ps τ) : CJ G m_LN_putMarks [O L] τ (fun _ υ => MKt (L + 6) (MS σ ps) υ ∧ LJ σ L ps υ ∧ Fr (fun x => L + 7 ≤ x ∧ x ≤ L + 14) τ υ ∧ MBd (MS σ ps) ∧ (MS σ ps).length ≤ 80) := by
  have n := hS.1
  unfold NumOk at n
  have hL2 : L = 9 ∨ L = 28 := hL
  have n8 := nU_le hT
  obtain ⟨t1, t2, t3, -⟩ := id hT
  have tn8 : tn σ ≤ 80 := by unfold tn; omega
  have hG : ∀ q ∈ ps, GPc σ q := fun q hq => (Chn_G hps q hq).1
  have hlen := Chn_len hps
  have h80 : ps.length ≤ 80 := by omega
  have nolk : ∀ u, F ≤ u → u < E → lk σ u = false := fun u h1 h2 => by
    cases q : lk σ u with
    | false => rfl
    | true => rw [lkR_iff.mpr ⟨u, h1, h2, q⟩] at hno; exact absurd hno (by decide)
  refine CJ.go (fun _ => k_LN_putMarks_0 hL (fun s1 e1 => ?_))
  -- what all steps keep
  have keep : ∀ υ, Fr (fun x => L + 7 ≤ x ∧ x ≤ L + 14) τ υ → Fr WF σ υ ∧ υ.1 61 = σ.1 61 ∧ υ.1 62 = σ.1 62 ∧ υ.1 57 = σ.1 57 ∧ υ.1 47 = σ.1 47 ∧ υ.1 49 = σ.1 49 := fun υ h => by
    have o : ∀ y, y < 9 ∨ 46 < y → υ.1 y = τ.1 y := fun y hy => (h.1 y (by omega)).1
    refine ⟨⟨fun y hy => ?_, by rw [h.2]; exact hF.2⟩, ?_, ?_, ?_, ?_, ?_⟩
    · have hn : ¬ (L + 7 ≤ y ∧ y ≤ L + 14) := fun q => hy (by unfold WF; omega)
      rw [(h.1 y hn).1, (h.1 y hn).2]
      exact hF.1 y hy
    · rw [o 61 (by omega)]; exact (hF.1 61 (by unfold WF; omega)).1
    · rw [o 62 (by omega)]; exact (hF.1 62 (by unfold WF; omega)).1
    · rw [o 57 (by omega)]; exact (hF.1 57 (by unfold WF; omega)).1
    · rw [o 47 (by omega)]; exact (hF.1 47 (by unfold WF; omega)).1
    · rw [o 49 (by omega)]; exact (hF.1 49 (by unfold WF; omega)).1
  have pieces : ∀ (d k u : Nat) (υ : St) (ms : List Mk), k + d = ps.length → Chn σ u (ps.drop k) E → F ≤ u → LJ σ L ps υ → MKt (L + 6) ms υ → Fr (fun x => L + 7 ≤ x ∧ x ≤ L + 14) τ υ → MBd ms → ms.length ≤ upE σ u → (∀ m ∈ ms, m.2.1 < k) → lays σ ps (prs σ k (ps.drop k)) ms = MS σ ps → a_LN_putMarks_13 G L k υ (fun _ υ => MKt (L + 6) (MS σ ps) υ ∧ LJ σ L ps υ ∧ Fr (fun x => L + 7 ≤ x ∧ x ≤ L + 14) τ υ ∧ MBd (MS σ ps) ∧ (MS σ ps).length ≤ 80) := by
    intro d
    induction d with
    | zero =>
      intro k u υ ms hk hch hFu r1 r2 r3 r4 r5 r6 r7
      refine k_LN_putMarks_13 hL ?_
      rw [r1.1]
      refine ⟨⟨by omega, by omega⟩, fun _ => ?_, fun z => absurd z (by omega)⟩
      rw [List.drop_eq_nil_of_le (by omega)] at r7
      have e : ms = MS σ ps := r7
      rw [← e]
      refine ⟨r2, r1, r3, r4, ?_⟩
      have : upE σ u ≤ tn σ := by
        unfold upE
        split
        · rename_i q; have := (up_ex q).1; omega
        · exact Nat.le_refl _
      omega
    | succ d ih =>
      intro k u υ ms hk hch hFu r1 r2 r3 r4 r5 r6 r7
      have hkl : k < ps.length := by omega
      have hdrop : ps.drop k = ps[k] :: ps.drop (k + 1) := List.drop_eq_getElem_cons hkl
      rw [hdrop] at hch r7
      obtain ⟨q, hq⟩ : ∃ q, ps[k] = q := ⟨_, rfl⟩
      rw [hq] at hch r7
      have hq' : ps[k]? = some q := by rw [← hq]; exact List.getElem?_eq_getElem hkl
      obtain ⟨uu, l, f, s⟩ := q
      obtain ⟨cu, cG, cR⟩ := hch
      simp only at cu cR
      subst cu
      have hlen2 := Chn_len cR
      obtain ⟨g1, g2, g3, g4, g5, g6⟩ := id cG
      simp only at g1 g2 g3 g4 g5 g6
      obtain ⟨hb, hl0, hle, -, -⟩ := kl_mem hS hT g1 g2
      have hfq : fq ps k = f := by unfold fq; rw [hq']
      obtain ⟨z1, z2, z3, z4, z5, z6, z7, z8⟩ := r1.2.2.2 k _ hq'
      simp only at z1 z2 z3 z4 z7 z8
      obtain ⟨kF, k61, k62, k57, k47, k49⟩ := keep υ r3
      have r49 : υ.1 49 l.toNat = (ln3 σ l.toNat : Int) := by rw [k49]; exact ln3_J hS (by omega)
      refine k_LN_putMarks_13 hL ?_
      rw [r1.1, Int.toNat_natCast, z1, z2, z7, z8, r49]
      refine ⟨⟨by omega, by omega⟩, fun z => absurd z (by omega), fun _ => ⟨by omega, by omega, ?_⟩⟩
      rw [show (uu : Int) + (ln3 σ l.toNat : Int) = ((uu + ln3 σ l.toNat : Nat) : Int) by omega]
      have e1 := edg_no (σ := σ) (k := k) (ab := true) (e0 := σ.1 98 f) ms r6
      have e2 := edg_no (σ := σ) (k := k) (ab := false) (e0 := -σ.1 99 f) ms r6
      rw [← e1, ← e2]
      -- its units
      have units : ∀ (c v : Nat) (υ : St) (ms : List Mk), v + c = uu + ln3 σ l.toNat → uu ≤ v → LJ σ L ps υ → MKt (L + 6) ms υ → Fr (fun x => L + 7 ≤ x ∧ x ≤ L + 14) τ υ → MBd ms → ms.length ≤ upE σ v → (∀ m ∈ ms, m.2.1 ≤ k) → lays σ ps ((mpP σ v c).map (fun i => (i, k)) ++ prs σ (k + 1) (ps.drop (k + 1))) ms = MS σ ps → a_LN_putMarks_75 G L k (uu + ln3 σ l.toNat : Nat) (edg σ k true (σ.1 98 f) ms) (edg σ k false (-σ.1 99 f) ms) v υ (fun _ υ => MKt (L + 6) (MS σ ps) υ ∧ LJ σ L ps υ ∧ Fr (fun x => L + 7 ≤ x ∧ x ≤ L + 14) τ υ ∧ MBd (MS σ ps) ∧ (MS σ ps).length ≤ 80) := by
        intro c
        induction c with
        | zero =>
          intro v υ ms hv hvu q1 q2 q3 q4 q5 q6 q7
          refine k_LN_putMarks_75 hL ⟨⟨by omega, by omega⟩, ⟨by omega, by omega⟩, fun _ => ?_, fun z => absurd z (by omega)⟩
          refine ih (k + 1) (uu + ln3 σ l.toNat) υ ms (by omega) cR (by omega) q1 q2 q3 q4 (by rw [show uu + ln3 σ l.toNat = v by omega]; exact q5) (fun m hm => by have := q6 m hm; omega) ?_
          simpa [mpP] using q7
        | succ c ihc =>
          intro v υ ms hv hvu q1 q2 q3 q4 q5 q6 q7
          have hvn : v < nU σ := by omega
          obtain ⟨kF, k61, k62, k57, k47, k49⟩ := keep υ q3
          have r61 : υ.1 61 v = up σ v := by rw [k61]; exact (hU.2.2.2.1 v hvn).1
          have r62 : υ.1 62 v = la σ v := by rw [k62]; exact (hU.2.2.2.1 v hvn).2.1
          obtain ⟨w1, w2, w3, w4⟩ := la_up hvn
          have hupE : upE σ v = up σ v := by unfold upE; rw [if_pos hvn]
          refine k_LN_putMarks_75 hL ?_
          rw [Int.toNat_natCast, r61]
          refine ⟨⟨by omega, by omega⟩, ⟨by omega, by omega⟩, fun z => absurd z (by omega), fun _ => ⟨by omega, ?_⟩⟩
          rw [show (up σ v : Int) + 1 = ((up σ v + 1 : Nat) : Int) by omega]
          have hmp : mpP σ v (c + 1) = mpU σ v ++ mpP σ (v + 1) c := by
            unfold mpP
            rw [List.range'_succ, List.flatMap_cons]
          rw [hmp, List.map_append, List.append_assoc] at q7
          have marks : ∀ (e i : Nat) (υ : St) (ms : List Mk), i + e = la σ v + 1 → up σ v < i → LJ σ L ps υ → MKt (L + 6) ms υ → Fr (fun x => L + 7 ≤ x ∧ x ≤ L + 14) τ υ → MBd ms → ms.length ≤ i → (∀ m ∈ ms, m.2.1 ≤ k) → lays σ ps ((List.range' i e).map (fun i => (i, k)) ++ ((mpP σ (v + 1) c).map (fun i => (i, k)) ++ prs σ (k + 1) (ps.drop (k + 1)))) ms = MS σ ps → a_LN_putMarks_95 G L k (uu + ln3 σ l.toNat : Nat) (edg σ k true (σ.1 98 f) ms) (edg σ k false (-σ.1 99 f) ms) v i υ (fun _ υ => MKt (L + 6) (MS σ ps) υ ∧ LJ σ L ps υ ∧ Fr (fun x => L + 7 ≤ x ∧ x ≤ L + 14) τ υ ∧ MBd (MS σ ps) ∧ (MS σ ps).length ≤ 80) := by
            intro e
            induction e with
            | zero =>
              intro i υ ms hi hiu q1 q2 q3 q4 q5 q6 q7
              obtain ⟨-, -, k62, -⟩ := keep υ q3
              have r62 : υ.1 62 v = la σ v := by rw [k62]; exact (hU.2.2.2.1 v hvn).2.1
              refine k_LN_putMarks_95 hL ?_
              rw [Int.toNat_natCast v, r62]
              refine ⟨by omega, ⟨by omega, by omega⟩, fun _ => ?_, fun z => absurd z (by omega)⟩
              exact ihc (v + 1) υ ms (by omega) (by omega) q1 q2 q3 q4 (by omega) q6 (by simpa using q7)
            | succ e ihe =>
              intro i υ ms hi hiu q1 q2 q3 q4 q5 q6 q7
              obtain ⟨kF, k61, k62, k57, k47, k49⟩ := keep υ q3
              have r62 : υ.1 62 v = la σ v := by rw [k62]; exact (hU.2.2.2.1 v hvn).2.1
              obtain ⟨i1, i2, i3⟩ := mpU_sd hvn hiu (show i ≤ la σ v by omega)
              have hform := lk_form (nolk v (by omega) (by omega)) i1 i2 i3
              obtain ⟨x1, x2, x3, x4⟩ := t3 i (by unfold tn at i1; omega)
              have r57 : υ.1 57 i = tx σ i := by rw [k57]; exact x1
              have hl2 : 0 ≤ tx σ i ∧ tx σ i < σ.2.1 8 6 := ⟨x2, x3⟩
              have r47 : υ.1 47 (tx σ i).toNat = ts σ i := by rw [k47]; exact (hS.2.1 (tx σ i).toNat (by omega)).1
              have hmk := (sd_mark i2).1
              have pm := t_putMark (G := G) hS hT hL kF hG h80 hkl i1 hform q4 (by omega) q1 q2
              obtain ⟨-, -, bN⟩ := lay_b hS hT hG h80 hkl i1 hform q4 (by omega)
              rw [List.range'_succ, List.map_cons, List.cons_append] at q7
              have q7' : lays σ ps ((List.range' (i + 1) e).map (fun i => (i, k)) ++ ((mpP σ (v + 1) c).map (fun i => (i, k)) ++ prs σ (k + 1) (ps.drop (k + 1)))) (ms ++ [lay1 σ ps ms i k]) = MS σ ps := q7
              refine k_LN_putMarks_95 hL ?_
              rw [Int.toNat_natCast v, Int.toNat_natCast i, r62, r57, r47]
              refine ⟨by omega, ⟨by omega, by omega⟩, fun z => absurd z (by omega), fun _ => ⟨by omega, by omega, fun z => ?_, fun z => ?_⟩⟩
              · have hab : abv σ i = false := by unfold abv; simpa using z
                have hE : lyE σ ps ms i k = edg σ k false (-σ.1 99 f) ms := by unfold lyE; rw [hab, hfq]; rfl
                rw [hab, hE] at pm
                refine CJ.mono pm (fun r υ' _ hυ => ?_)
                obtain ⟨p1, p2, p3, p4⟩ := hυ
                have a1 : edg σ k true (σ.1 98 f) (ms ++ [lay1 σ ps ms i k]) = edg σ k true (σ.1 98 f) ms := by
                  rw [edg_app, if_neg (fun y => by have := y.2; simp only [lay1, if_true] at this; omega)]
                have a2 : edg σ k false (-σ.1 99 f) (ms ++ [lay1 σ ps ms i k]) = r := by
                  rw [edg_app, if_pos ⟨rfl, by simp only [lay1]; rw [if_neg (by decide)]; omega⟩, p1]
                  rfl
                have := ihe (i + 1) υ' (ms ++ [lay1 σ ps ms i k]) (by omega) (by omega) p3 p2 (q3.trans p4) bN (by simp; omega) (fun m hm => ?_) q7'
                · rw [a1, a2] at this
                  exact this
                · rcases List.mem_append.mp hm with y | y
                  · exact q6 m y
                  · have : m = lay1 σ ps ms i k := by simpa using y
                    rw [this]; exact Nat.le_refl _
              · have hab : abv σ i = true := by unfold abv; simpa using z
                have hE : lyE σ ps ms i k = edg σ k true (σ.1 98 f) ms := by unfold lyE; rw [hab, hfq]; rfl
                rw [hab, hE] at pm
                refine CJ.mono pm (fun r υ' _ hυ => ?_)
                obtain ⟨p1, p2, p3, p4⟩ := hυ
                have a1 : edg σ k false (-σ.1 99 f) (ms ++ [lay1 σ ps ms i k]) = edg σ k false (-σ.1 99 f) ms := by
                  rw [edg_app, if_neg (fun y => by have := y.2; simp only [lay1] at this; rw [if_neg (by decide)] at this; omega)]
                have a2 : edg σ k true (σ.1 98 f) (ms ++ [lay1 σ ps ms i k]) = r := by
                  rw [edg_app, if_pos ⟨rfl, by simp only [lay1, if_true]; exact z⟩, p1]
                  rfl
                have := ihe (i + 1) υ' (ms ++ [lay1 σ ps ms i k]) (by omega) (by omega) p3 p2 (q3.trans p4) bN (by simp; omega) (fun m hm => ?_) q7'
                · rw [a1, a2] at this
                  exact this
                · rcases List.mem_append.mp hm with y | y
                  · exact q6 m y
                  · have : m = lay1 σ ps ms i k := by simpa using y
                    rw [this]; exact Nat.le_refl _
          exact marks (la σ v - up σ v) (up σ v + 1) υ ms (by omega) (by omega) q1 q2 q3 q4 (by omega) q6 q7
      exact units (ln3 σ l.toNat) uu υ ms rfl (Nat.le_refl _) r1 r2 r3 r4 r5 (fun m hm => by have := r6 m hm; omega) r7
  have F1 : Fr (fun x => L + 7 ≤ x ∧ x ≤ L + 14) τ s1 := by rw [e1]; exact Fr.refl.sf ⟨by omega, by omega⟩
  refine pieces ps.length 0 F s1 [] (by omega) (by rw [List.drop_zero]; exact hps) (Nat.le_refl _) ?_ ⟨⟨by rw [e1]; exact sf_at, fun k x hx => by simp [mbl] at hx⟩, fun k m hm => by simp at hm⟩ F1 (fun m hm => by simp at hm) (by simp) (fun m hm => by simp at hm) (by rw [List.drop_zero]; rfl)
  unfold LJ at hLJ ⊢
  rw [e1, sf_ne (show L + 1 ≠ L + 7 by omega), sf_ne (show L ≠ L + 7 by omega)]
  exact hLJ
