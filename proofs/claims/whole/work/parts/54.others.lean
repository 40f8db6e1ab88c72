/-! what may be: findOthers; the class's units -/
def klL (σ : St) (u L : Nat) : List Int := if bh σ u ≤ u then lb σ u :: opl σ u L else []
def KO (l : List Int) (c : Int) (t : Nat → Int) : Prop := c = (l.length : Int) ∧ ∀ j, j < l.length → l[j]? = some (t j)
theorem opl_le {σ : St} (hS : IS σ) {u L : Nat} (hL : L ≤ nL σ) : (opl σ u L).length ≤ 2 := by
  unfold opl
  rw [List.length_map]
  rcases Nat.lt_or_ge 2 ((List.range L).filter (opb σ u)).length with q | q
  · exfalso
    have pw : ((List.range L).filter (opb σ u)).Pairwise (· < ·) := List.Pairwise.filter _ List.pairwise_lt_range
    have prop : ∀ i (hi : i < ((List.range L).filter (opb σ u)).length), ((List.range L).filter (opb σ u))[i] < L ∧ opb σ u ((List.range L).filter (opb σ u))[i] = true := by
      intro i hi
      have := List.mem_filter.mp (List.getElem_mem hi)
      exact ⟨List.mem_range.mp this.1, this.2⟩
    rw [List.pairwise_iff_getElem] at pw
    have l01 := pw 0 1 (by omega) (by omega) (by omega)
    have l12 := pw 1 2 (by omega) (by omega) (by omega)
    obtain ⟨a1, a2⟩ := prop 0 (by omega)
    obtain ⟨b1, b2⟩ := prop 1 (by omega)
    obtain ⟨c1, c2⟩ := prop 2 (by omega)
    generalize ((List.range L).filter (opb σ u))[0] = a at *
    generalize ((List.range L).filter (opb σ u))[1] = b at *
    generalize ((List.range L).filter (opb σ u))[2] = c at *
    unfold opb at a2 b2 c2
    simp only [Bool.and_eq_true, decide_eq_true_iff] at a2 b2 c2
    have la := ln3_lig a2.1.1
    have lb' := ln3_lig b2.1.1
    have lc := ln3_lig c2.1.1
    have pa := (ln3_pos (σ := σ) (g := a)).2
    have pb := (ln3_pos (σ := σ) (g := b)).2
    have pc := (ln3_pos (σ := σ) (g := c)).2
    have h1 : ln3 σ a = ln3 σ b → a = b := opb_inj hS (by omega) (by omega) a2.1.1 b2.1.1 a2.2.1 b2.2.1
    have h2 : ln3 σ b = ln3 σ c → b = c := opb_inj hS (by omega) (by omega) b2.1.1 c2.1.1 b2.2.1 c2.2.1
    have h3 : ln3 σ a = ln3 σ c → a = c := opb_inj hS (by omega) (by omega) a2.1.1 c2.1.1 a2.2.1 c2.2.1
    omega
  · exact q
theorem aln_iff {σ : St} {u : Nat} : ∀ k, aln σ u k = true ↔ ∀ j, j < k → bh σ (u + j) ≤ u + j ∧ lb σ (u + j) = ul σ (u + j)
  | 0 => ⟨fun _ j h => absurd h (by omega), fun _ => rfl⟩
  | k + 1 => by
    unfold aln
    rw [Bool.and_eq_true, decide_eq_true_iff, aln_iff k]
    constructor
    · rintro ⟨a, b⟩ j hj
      by_cases e : j = k
      · rw [e]; exact b
      · exact a j (by omega)
    · intro a
      exact ⟨fun j hj => a j (by omega), a k (by omega)⟩
/-- pieces as far as they are known -/
def KI (σ : St) (f : Nat → Nat) (τ : St) : Prop := ∀ u, u < nU σ → τ.1 71 u = bb σ u ∧ KO (klL σ u (f u)) (τ.1 72 u) (fun j => τ.1 73 (3 * u + j))
theorem KI_base {σ τ : St} {f : Nat → Nat} (h : KI σ f τ) {u : Nat} (hu : u < nU σ) (hb : bh σ u ≤ u) : τ.1 73 (3 * u) = lb σ u := by
  obtain ⟨-, -, h2⟩ := h u hu
  unfold klL at h2
  rw [if_pos hb] at h2
  have := h2 0 (by simp)
  simpa using this.symm
theorem t_areAlone {G : GT} {σ τ : St} {f : Nat → Nat} (hT : IT σ) (hU : UL σ τ) (hK : KI σ f τ) {u k : Nat} (hk : u + k ≤ nU σ) : CJ G m_UN_areAlone [O 4, I u, I k] τ (fun r v => v = τ ∧ r = if aln σ u k = true then 1 else 0) := by
  have n8 := nU_le hT
  obtain ⟨hf, hc, hl⟩ := id hU
  refine CJ.go (fun _ => k_UN_areAlone_0 ?_)
  have loop : ∀ d j : Nat, j + d = k → (∀ i, i < j → bh σ (u + i) ≤ u + i ∧ lb σ (u + i) = ul σ (u + i)) → a_UN_areAlone_2 G u k (u + j : Nat) τ (fun r v => v = τ ∧ r = if aln σ u k = true then 1 else 0) := by
    intro d
    induction d with
    | zero =>
      intro j hj ha
      have ej : j = k := by omega
      refine k_UN_areAlone_2 ⟨⟨by omega, by omega⟩, ⟨by omega, by omega⟩, fun _ => ⟨rfl, ?_⟩, fun z => absurd z (by omega)⟩
      rw [if_pos ((aln_iff k).mpr (by rw [← ej]; exact ha))]
    | succ d ih =>
      intro j hj ha
      refine k_UN_areAlone_2 ?_
      rw [Int.toNat_natCast, show (((u + j : Nat) : Int) * 3).toNat = 3 * (u + j) by omega, (hK (u + j) (by omega)).1, hl (u + j) (by omega)]
      refine ⟨⟨by omega, by omega⟩, ⟨by omega, by omega⟩, fun z => absurd z (by omega), fun _ => ⟨by omega, fun z => ⟨rfl, ?_⟩, fun z => ?_⟩⟩
      · rw [if_neg (fun w => z (by rw [bb_self ((aln_iff k).mp w j (by omega)).1]))]
      · have hb : bh σ (u + j) ≤ u + j := by
          have := (bb_spec (σ := σ) (u + j)).1
          rw [show bb σ (u + j) = u + j by omega] at this
          exact this
        rw [KI_base hK (by omega) hb]
        refine ⟨by omega, fun z2 => ?_, fun z2 => ⟨rfl, ?_⟩⟩
        · have := ih (j + 1) (by omega) (fun i hi => by
            by_cases e : i = j
            · rw [e]; exact ⟨hb, z2⟩
            · exact ha i (by omega))
          rw [show ((u + j : Nat) : Int) + 1 = ((u + (j + 1) : Nat) : Int) by omega]
          exact this
        · rw [if_neg (fun w => z2 ((aln_iff k).mp w j (by omega)).2)]
  exact loop k 0 (by omega) (fun i h => absurd h (by omega))
theorem l_others {G : GT} {σ τ0 : St} {P : Int → St → Prop} (hS : IS σ) (hT : IT σ) (hU : UL σ τ0) (hP : ∀ τ, τ.2 = τ0.2 → (∀ k, k ≠ 72 → k ≠ 73 → τ.1 k = τ0.1 k) → KI σ (fun _ => nL σ) τ → P 0 τ) : ∀ (d m : Nat) (τ : St), m + d = nU σ → τ.2 = τ0.2 → (∀ k, k ≠ 72 → k ≠ 73 → τ.1 k = τ0.1 k) → KI σ (fun u => if u < m then nL σ else gN σ 0) τ → a_UN_findOthers_2 G m τ P := by
  have n := hS.1
  unfold NumOk at n
  have n8 := nU_le hT
  obtain ⟨hf, hc, hl⟩ := id hU
  intro d
  induction d with
  | zero =>
    intro m τ hm h2 ho hk
    refine k_UN_findOthers_2 ?_
    rw [h2, hc]
    refine ⟨⟨by omega, by omega⟩, fun _ => hP τ h2 ho (fun u hu => ?_), fun z => absurd z (by omega)⟩
    have := hk u hu
    simp only [show u < m by omega, if_true] at this
    exact this
  | succ d ih =>
    intro m τ hm h2 ho hk
    refine k_UN_findOthers_2 ?_
    rw [h2, hc]
    refine ⟨⟨by omega, by omega⟩, fun z => absurd z (by omega), fun _ => ?_⟩
    have inner : ∀ (e q : Nat) (τ : St), ((q + e : Nat) : Int) = σ.2.1 8 7 → τ.2 = τ0.2 → (∀ k, k ≠ 72 → k ≠ 73 → τ.1 k = τ0.1 k) → KI σ (fun u => if u < m then nL σ else if u = m then gN σ q else gN σ 0) τ → a_UN_findOthers_12 G m q τ P := by
      intro e
      induction e with
      | zero =>
        intro q τ hq h2 ho hk
        have hK : τ.2.1 1 1 = σ.2.1 8 7 := by rw [h2, (hf.u 1 (by omega)).2]; omega
        refine k_UN_findOthers_12 ?_
        rw [hK]
        refine ⟨⟨by omega, by omega⟩, fun _ => ih (m + 1) τ (by omega) h2 ho (fun u hu => ?_), fun z => absurd z (by omega)⟩
        have hh := hk u hu
        have eg : gN σ q = nL σ := by unfold gN; rw [if_neg (by omega)]
        by_cases a : u < m
        · simp only [a, if_true] at hh
          simp only [show u < m + 1 by omega, if_true]
          exact hh
        · by_cases b : u = m
          · simp only [a, b, if_false, if_true, eg, Nat.lt_irrefl] at hh
            simp only [show u < m + 1 by omega, if_true]
            rw [b]
            exact hh
          · simp only [a, b, if_false] at hh
            simp only [show ¬ u < m + 1 by omega, if_false]
            exact hh
      | succ e ihe =>
        intro q τ hq h2 ho hk
        have hq' : (q : Int) < σ.2.1 8 7 := by omega
        have UL' : UL σ τ := ⟨⟨fun k hk => ⟨by rw [ho k (by unfold WU at hk; omega) (by unfold WU at hk; omega)]; exact (hf.1 k hk).1, by rw [h2]; exact (hf.1 k hk).2⟩, by rw [h2]; exact hf.2⟩, by rw [h2]; exact hc, fun u hu => by rw [ho 63 (by decide) (by decide)]; exact hl u hu⟩
        have hK : τ.2.1 1 1 = σ.2.1 8 7 := by rw [h2, (hf.u 1 (by omega)).2]; omega
        obtain ⟨j1, j2, j3, j4, j5, j6, j7⟩ := lig_J hS UL'.1 hq'
        obtain ⟨-, gs1, gs2, gs3, gs4⟩ := gN_spec hS hq'
        have hkm := (hk m (by omega)).2
        simp only [Nat.lt_irrefl, if_false, if_true] at hkm
        obtain ⟨kc1, kc2⟩ := hkm
        have ec : opl σ m (gN σ (q + 1)) = opl σ m (gN σ q + 1) := opl_const _ gs2 gs4
        have hle := opl_le hS (u := m) (L := gN σ q + 1) (by omega)
        -- nothing comes
        have skip : opb σ m (gN σ q) = false → a_UN_findOthers_12 G m ((q : Int) + 1) τ P := fun hno => by
          refine ihe (q + 1) τ (by omega) h2 ho (fun u hu => ?_)
          have hh := hk u hu
          by_cases a : u < m
          · simp only [a, if_true] at hh ⊢
            exact hh
          · by_cases b : u = m
            · simp only [a, b, if_false, if_true, Nat.lt_irrefl] at hh ⊢
              unfold klL at hh ⊢
              rw [ec, opl_s, hno]
              simpa using hh
            · simp only [a, b, if_false] at hh ⊢
              exact hh
        have hopb : opb σ m (gN σ q) = (decide (σ.1 89 (gN σ q) = 7 ∧ σ.1 93 (gN σ q) = 0) && (mtb σ (gN σ q) m && aln σ m (ln3 σ (gN σ q)))) := rfl
        have hbeg : aln σ m (ln3 σ (gN σ q)) = true → bh σ m ≤ m := fun w => by
          have l2 := ln3_lig j6
          exact ((aln_iff _).mp w 0 (by omega)).1
        refine k_UN_findOthers_12 ?_
        rw [hK, Int.toNat_natCast, Int.toNat_natCast, j4]
        refine ⟨⟨by omega, by omega⟩, fun z => absurd z (by omega), fun _ => ⟨by omega, fun z => skip ?_, fun z => ⟨by omega, fun z2 => skip ?_, fun z2 => ?_⟩⟩⟩
        · rw [hopb]
          simp [z]
        · cases hb : opb σ m (gN σ q) with
          | false => rfl
          | true =>
            exfalso
            have hb2 := hb
            rw [hopb] at hb2
            simp only [Bool.and_eq_true, decide_eq_true_iff] at hb2
            have hbm := hbeg hb2.2.2
            unfold klL at kc1
            rw [if_pos hbm] at kc1
            rw [opl_s, if_pos hb] at hle
            simp at hle kc1
            omega
        · refine CJ.mono (t_standsAt hS hT UL' hq' (show m < nU σ by omega)) (fun r v _ hv => ?_)
          obtain ⟨hv, hr⟩ := hv
          rw [hv, hr]
          by_cases cm : mtb σ (gN σ q) m = true
          · rw [if_pos cm]
            have cm2 := ((mtb_iff j6).mp cm).1
            refine ⟨fun w => absurd w (by decide), fun _ => ?_⟩
            rw [j1, Int.toNat_natCast, j2]
            refine ⟨by omega, ?_⟩
            refine CJ.mono (t_areAlone hT UL' hk cm2) (fun r2 v2 _ hv2 => ?_)
            obtain ⟨hv2, hr2⟩ := hv2
            rw [hv2, hr2]
            by_cases ca : aln σ m (ln3 σ (gN σ q)) = true
            · rw [if_pos ca]
              have hb : opb σ m (gN σ q) = true := by
                rw [hopb, cm, ca]
                simp [j6, z]
              have hbm := hbeg ca
              unfold klL at kc1 kc2
              rw [if_pos hbm] at kc1 kc2
              rw [opl_s, if_pos hb] at hle
              simp only [List.length_append, List.length_cons, List.length_nil] at hle
              simp only [List.length_cons] at kc1 kc2
              have kcn : (τ.1 72 m).toNat = (opl σ m (gN σ q)).length + 1 := by omega
              refine ⟨fun w => absurd w (by decide), fun _ => ⟨by omega, fun s32 e32 => ⟨⟨by omega, by omega⟩, fun s36 e36 => ?_⟩⟩⟩
              rw [show ((m : Int) * 3 + τ.1 72 m).toNat = 3 * m + ((opl σ m (gN σ q)).length + 1) by omega, j1] at e32
              refine ihe (q + 1) s36 (by omega) (by rw [e36, e32]; exact h2) (fun k a b => by rw [e36, e32, sa_ne a, sa_ne b]; exact ho k a b) (fun u hu => ?_)
              have hh := hk u hu
              have r71 : s36.1 71 u = τ.1 71 u := by rw [e36, e32, sa_ne (by decide), sa_ne (by decide)]
              rw [r71]
              by_cases b : u = m
              · subst b
                simp only [Nat.lt_irrefl, if_false, if_true] at hh ⊢
                refine ⟨hh.1, ?_⟩
                unfold klL
                rw [if_pos hbm, ec, opl_s, if_pos hb]
                refine ⟨?_, fun j hj => ?_⟩
                · rw [e36, sa_at, kc1]
                  simp
                · have r73 : s36.1 73 (3 * u + j) = if j = (opl σ u (gN σ q)).length + 1 then (gN σ q : Int) else τ.1 73 (3 * u + j) := by
                    rw [e36, e32, sa_ne (by decide), sa_1]
                    by_cases ej : j = (opl σ u (gN σ q)).length + 1
                    · rw [if_pos ⟨rfl, by omega⟩, if_pos ej]
                    · rw [if_neg (by omega), if_neg ej]
                  show _ = some (s36.1 73 (3 * u + j))
                  rw [r73]
                  simp only [List.length_cons, List.length_append, List.length_nil] at hj
                  by_cases ej : j = (opl σ u (gN σ q)).length + 1
                  · rw [if_pos ej, ej]
                    simp
                  · rw [if_neg ej]
                    have := kc2 j (by omega)
                    rw [← this, show lb σ u :: (opl σ u (gN σ q) ++ [(gN σ q : Int)]) = (lb σ u :: opl σ u (gN σ q)) ++ [(gN σ q : Int)] by simp]
                    exact List.getElem?_append_left (by simp; omega)
              · have r72 : s36.1 72 u = τ.1 72 u := by rw [e36, e32, sa_nx b, sa_ne (by decide)]
                have r73 : ∀ j, j < 3 → s36.1 73 (3 * u + j) = τ.1 73 (3 * u + j) := fun j hj => by rw [e36, e32, sa_ne (by decide), sa_nx (by omega)]
                rw [r72]
                have fin : ∀ L, L ≤ nL σ → KO (klL σ u L) (τ.1 72 u) (fun j => τ.1 73 (3 * u + j)) → KO (klL σ u L) (τ.1 72 u) (fun j => s36.1 73 (3 * u + j)) := fun L hL w => by
                  refine ⟨w.1, fun j hj => ?_⟩
                  have h3 : (klL σ u L).length ≤ 3 := by
                    unfold klL
                    split
                    · have := opl_le hS (u := u) hL
                      simp; omega
                    · simp
                  show _ = some (s36.1 73 (3 * u + j))
                  rw [r73 j (by omega)]
                  exact w.2 j hj
                have g0 : gN σ 0 ≤ nL σ := by
                  unfold gN
                  split
                  · rename_i w
                    have := (gN_spec hS w).2.1
                    unfold gN at this
                    rw [if_pos w] at this
                    omega
                  · exact Nat.le_refl _
                by_cases a : u < m
                · simp only [a, if_true] at hh ⊢
                  exact ⟨hh.1, fin _ (Nat.le_refl _) hh.2⟩
                · simp only [a, b, if_false] at hh ⊢
                  exact ⟨hh.1, fin _ g0 hh.2⟩
            · rw [if_neg ca]
              refine ⟨fun _ => skip ?_, fun w => absurd rfl w⟩
              rw [hopb, show aln σ m (ln3 σ (gN σ q)) = false by simpa using ca]
              simp
          · rw [if_neg cm]
            refine ⟨fun _ => skip ?_, fun w => absurd rfl w⟩
            rw [hopb, show mtb σ (gN σ q) m = false by simpa using cm]
            simp
    refine inner (σ.2.1 8 7).toNat 0 τ (by omega) h2 ho (fun u hu => ?_)
    have hh := hk u hu
    by_cases a : u < m
    · simp only [a, if_true] at hh ⊢
      exact hh
    · by_cases b : u = m
      · simp only [a, b, if_false, if_true, Nat.lt_irrefl] at hh ⊢
        exact hh
      · simp only [a, b, if_false] at hh ⊢
        exact hh
