/-! plain lines, on both sides -/
def plF (σ : St) (u : Nat) : Int := pfM σ (lb σ u) (plc σ u (lb σ u))
def plL (σ : St) (u c : Nat) : List Nat := (List.range' u c).filter (bq σ)
def plp (σ : St) (v : Nat) : Pc := (v, lb σ v, (plF σ v).toNat, 0)
def pls (σ : St) (u c : Nat) : List Pc := (plL σ u c).map (plp σ)
def plk (σ : St) (u c : Nat) : Bool := (plL σ u c).all (fun v => decide (0 ≤ plF σ v))
theorem plL_cons {σ : St} {u c : Nat} (h : bh σ u ≤ u) : plL σ u (c + 1) = u :: plL σ (u + 1) c := by
  unfold plL
  rw [List.range'_succ, List.filter_cons_of_pos (bq_t h)]
theorem plL_skip {σ : St} {u c : Nat} (h : ¬ bh σ u ≤ u) : plL σ u (c + 1) = plL σ (u + 1) c := by
  unfold plL
  rw [List.range'_succ, List.filter_cons_of_neg (by rw [bq_f h]; decide)]
theorem plL_snoc {σ : St} {u c : Nat} (h : bh σ (u + c) ≤ u + c) : plL σ u (c + 1) = plL σ u c ++ [u + c] := by
  unfold plL
  rw [List.range'_1_concat, List.filter_append, List.filter_cons_of_pos (bq_t h)]
  rfl
theorem plL_same {σ : St} {u c : Nat} (h : ¬ bh σ (u + c) ≤ u + c) : plL σ u (c + 1) = plL σ u c := by
  unfold plL
  rw [List.range'_1_concat, List.filter_append, List.filter_cons_of_neg (by rw [bq_f h]; decide)]
  simp
theorem plL_mem {σ : St} {u c v : Nat} (h : v ∈ plL σ u c) : u ≤ v ∧ v < u + c ∧ bh σ v ≤ v := by
  unfold plL at h
  rw [List.mem_filter] at h
  have := List.mem_range'_1.mp h.1
  exact ⟨this.1, this.2, by have := h.2; unfold bq at this; simpa using this⟩
theorem plL_in {σ : St} {u c v : Nat} (h1 : u ≤ v) (h2 : v < u + c) (h3 : bh σ v ≤ v) : v ∈ plL σ u c := by
  unfold plL
  rw [List.mem_filter]
  exact ⟨List.mem_range'_1.mpr ⟨h1, h2⟩, bq_t h3⟩
theorem plL_len {σ : St} {u c : Nat} : (plL σ u c).length ≤ c := by
  unfold plL
  refine Nat.le_trans (List.length_filter_le ..) ?_
  rw [List.length_range']
  exact Nat.le_refl _
theorem lb_kl {σ : St} {u : Nat} (h : bh σ u ≤ u) : lb σ u ∈ kl σ u := by
  unfold kl
  rw [if_pos h]
  exact List.mem_cons_self ..
theorem pl_fact {σ : St} (hS : IS σ) (hT : IT σ) {u : Nat} (hu : u < nU σ) (hb : bh σ u ≤ u) : plF σ u = -6 ∨ (0 ≤ plF σ u ∧ GPc σ (plp σ u)) := by
  obtain ⟨-, l0, hle, -, -⟩ := kl_mem hS hT hu (lb_kl hb)
  have pb := plc_b (σ := σ) (u := u) (l := lb σ u)
  obtain ⟨a, ha⟩ : ∃ a : Nat, (a : Int) = 4 * lb σ u + plc σ u (lb σ u) := ⟨(4 * lb σ u + plc σ u (lb σ u)).toNat, by omega⟩
  by_cases z : σ.1 105 a = 0
  · left
    unfold plF pfM
    rw [← ha, Int.toNat_natCast, if_pos z]
  · right
    obtain ⟨s1, s2, s3⟩ := hS.2.2.2.2.2.2.2.2.2.1 a (by omega)
    obtain ⟨-, f, f1, f2, f3⟩ := s3 0 (by omega)
    have e : plF σ u = f := by
      unfold plF pfM
      rw [← ha, Int.toNat_natCast, if_neg z, show (3 * (a : Int)).toNat = 3 * a + 0 by omega, f1]
    have hf : FOk σ f := f2
    obtain ⟨o1, o2⟩ := form_of hS (l := lb σ u) (p := plc σ u (lb σ u)) hf (by omega) pb
    have m := (form_b hS hf).2.2.2.2.2.2.1
    refine ⟨by omega, ?_⟩
    unfold plp
    rw [e, Int.toNat_natCast]
    exact ⟨hu, lb_kl hb, hf, m.1, o1, o2⟩
theorem pls_G {σ : St} (hS : IS σ) (hT : IT σ) {u c : Nat} (hc : u + c ≤ nU σ) (hk : plk σ u c = true) : ∀ q ∈ pls σ u c, GPc σ q := by
  intro q hq
  obtain ⟨v, v1, v2⟩ := List.mem_map.mp hq
  obtain ⟨m1, m2, m3⟩ := plL_mem v1
  have h0 := List.all_eq_true.mp hk v v1
  rw [decide_eq_true_iff] at h0
  rcases pl_fact hS hT (show v < nU σ by omega) m3 with y | y
  · omega
  · rw [← v2]; exact y.2
theorem pls_chn {σ : St} (hS : IS σ) (hT : IT σ) {E : Nat} (hE : bh σ E ≤ E) (hEn : E ≤ nU σ) : ∀ (c u v : Nat), u + c = E → u ≤ v → v ≤ E → bh σ v ≤ v → (∀ x, u ≤ x → x < v → ¬ bh σ x ≤ x) → plk σ u c = true → Chn σ v (pls σ u c) E
  | 0, u, v, hu, h1, h2, _, _, _ => show v = E by omega
  | c + 1, u, v, hu, h1, h2, h3, h4, hk => by
    by_cases z : bh σ u ≤ u
    · have e : v = u := by
        rcases Nat.eq_or_lt_of_le h1 with y | y
        · exact y.symm
        · exact absurd z (h4 u (Nat.le_refl _) y)
      subst e
      unfold plk at hk
      unfold pls
      rw [plL_cons z] at hk ⊢
      rw [List.all_cons, Bool.and_eq_true, decide_eq_true_iff] at hk
      have lp := (ln3_pos (σ := σ) (g := (lb σ v).toNat)).1
      have hle : v + ln3 σ (lb σ v).toNat ≤ E := by
        rcases Nat.lt_or_ge E (v + ln3 σ (lb σ v).toNat) with y | y
        · have := bh_in z E (by omega) (by omega)
          omega
        · exact y
      have hb2 := bh_in z (v + ln3 σ (lb σ v).toNat) (by omega) (Nat.le_refl _)
      have hG : GPc σ (plp σ v) := by
        rcases pl_fact hS hT (show v < nU σ by omega) z with y | y
        · omega
        · exact y.2
      refine ⟨rfl, hG, ?_⟩
      exact pls_chn hS hT hE hEn c (v + 1) (v + ln3 σ (lb σ v).toNat) (by omega) (by omega) hle (by omega) (fun x x1 x2 => by
        have := bh_in z x (by omega) (by omega)
        omega) hk.2
    · have hne : u ≠ v := fun e => by rw [e] at z; exact z h3
      unfold plk at hk
      unfold pls
      rw [plL_skip z] at hk ⊢
      exact pls_chn hS hT hE hEn c (u + 1) v (by omega) (by omega) h2 h3 (fun x x1 x2 => h4 x (by omega) x2) hk
theorem un_base {σ τ : St} (hU : UNx σ τ) {v : Nat} (hv : v < nU σ) : (τ.1 71 v = (v : Int) ↔ bh σ v ≤ v) ∧ (bh σ v ≤ v → τ.1 73 (3 * v) = lb σ v) := by
  obtain ⟨-, -, -, -, -, -, -, h8, h9⟩ := hU.2.2.2.1 v hv
  refine ⟨?_, fun hb => ?_⟩
  · rw [show τ.1 71 v = (bb σ v : Int) from h8]
    constructor
    · intro q
      have e : bb σ v = v := by omega
      have := (bb_spec (σ := σ) v).1
      rw [e] at this
      exact this
    · intro q
      rw [bb_self q]
  · unfold kl at h9
    rw [if_pos hb] at h9
    have := h9.2 0 (by simp)
    simpa using this.symm
theorem t_plainWidth {G : GT} {σ τ : St} (hS : IS σ) (hT : IT σ) (hU : UNx σ τ) (h49 : τ.1 49 = σ.1 49) (h55 : τ.1 55 = σ.1 55) (h56 : τ.1 56 = σ.1 56) (hrow : ∀ f, FOk σ f → τ.1 (176 + f) = σ.1 (176 + f)) {F E : Nat} (hFE : F ≤ E) (hE : E ≤ nU σ) : CJ G m_UN_plainWidth [O 4, I F, I ((E : Int) - 1)] τ (fun r υ => υ = τ ∧ r = if lkR σ F E = true ∨ plk σ F (E - F) = false then -6 else (tw σ (pls σ F (E - F)) : Int)) := by
  have n8 := nU_le hT
  have n := hS.1
  unfold NumOk at n
  refine CJ.go (fun R => k_UN_plainWidth_0 (CJ.mono (t_lackMarks hU hE (by omega) hFE) (fun r υ _ hυ => ?_)))
  rw [hυ.1, hυ.2]
  refine ⟨fun z => ?_, fun z => ?_⟩
  · have hno : lkR σ F E = false := by
      cases q : lkR σ F E with
      | false => rfl
      | true => rw [q] at z; exact absurd z (by decide)
    have loop : ∀ (d c : Nat), F + c + d = E → plk σ F c = true → a_UN_plainWidth_17 G ((E : Int) - 1) (tw σ (pls σ F c)) ((F + c : Nat) : Int) τ (fun r υ => υ = τ ∧ r = if lkR σ F E = true ∨ plk σ F (E - F) = false then -6 else (tw σ (pls σ F (E - F)) : Int)) := by
      intro d
      induction d with
      | zero =>
        intro c hc hk
        have hb := (line_b hS (pls_G hS hT (show F + c ≤ nU σ by omega) hk)).1
        have hl8 : (pls σ F c).length ≤ 80 := by unfold pls; rw [List.length_map]; have := plL_len (σ := σ) (u := F) (c := c); omega
        refine k_UN_plainWidth_17 ⟨⟨by omega, by omega⟩, ⟨by omega, by omega⟩, fun _ => ⟨⟨by omega, by omega⟩, rfl, ?_⟩, fun w => absurd w (by omega)⟩
        rw [show E - F = c by omega, hno, hk, if_neg (by simp)]
      | succ d ih =>
        intro c hc hk
        have hv : F + c < nU σ := by omega
        obtain ⟨u1, u2⟩ := un_base hU hv
        refine k_UN_plainWidth_17 ?_
        rw [Int.toNat_natCast (F + c), show (((F + c : Nat) : Int) * 3).toNat = 3 * (F + c) by omega]
        refine ⟨⟨by omega, by omega⟩, ⟨by omega, by omega⟩, fun w => absurd w (by omega), fun _ => ⟨by omega, fun w => ?_, fun w => ?_⟩⟩
        · have nb : ¬ bh σ (F + c) ≤ F + c := fun q => w (u1.mpr q)
          have e : plL σ F (c + 1) = plL σ F c := plL_same nb
          have := ih (c + 1) (by omega) (by unfold plk at hk ⊢; rw [e]; exact hk)
          unfold pls at this ⊢
          rw [e] at this
          exact this
        · have hb := u1.mp w
          rw [u2 hb]
          obtain ⟨-, l0, hle, -, -⟩ := kl_mem hS hT hv (lb_kl hb)
          obtain ⟨p1, p2⟩ := place_J hS hT hU h49 hv l0 hle
          rw [p2]
          obtain ⟨q1, q2, -⟩ := pf_J hS h55 h56 R l0 (plc_b (σ := σ) (u := F + c) (l := lb σ (F + c)))
          rw [q2]
          have e : plL σ F (c + 1) = plL σ F c ++ [F + c] := plL_snoc hb
          refine ⟨by omega, p1, q1, fun y => ?_, fun y => ⟨rfl, ?_⟩⟩
          · rcases pl_fact hS hT hv hb with x | x
            · exact absurd x y
            · have hx0 : 0 ≤ plF σ (F + c) := x.1
              have hG := x.2
              have hf : FOk σ (plF σ (F + c)).toNat := hG.2.2.1
              obtain ⟨fb0, fb1, -⟩ := form_b hS hf
              have hr : τ.1 (176 + (plF σ (F + c)).toNat) 2 = σ.1 97 (plF σ (F + c)).toNat := by rw [hrow _ hf]; exact (form_J hS hf).1
              show (0 ≤ plF σ (F + c) ∧ plF σ (F + c) < 200) ∧ a_UN_plainWidth_17 G ((E : Int) - 1) ((tw σ (pls σ F c) : Int) + τ.1 (176 + (plF σ (F + c)).toNat) 2) _ τ _
              rw [hr]
              have := ih (c + 1) (by omega) (by unfold plk at hk ⊢; rw [e, List.all_append, hk]; simp [hx0])
              have ew : ((tw σ (pls σ F (c + 1)) : Nat) : Int) = (tw σ (pls σ F c) : Int) + σ.1 97 (plF σ (F + c)).toNat := by
                unfold pls
                rw [e, List.map_append, tw_app]
                show ((tw σ _ + (wd σ (plF σ (F + c)).toNat 0 + 0) : Nat) : Int) = _
                unfold wd
                omega
              rw [ew] at this
              exact ⟨by omega, this⟩
          · have y' : plF σ (F + c) = -6 := y
            rw [if_pos (Or.inr ?_)]
            cases q : plk σ F (E - F) with
            | false => rfl
            | true =>
              have := List.all_eq_true.mp q (F + c) (plL_in (by omega) (by omega) hb)
              rw [decide_eq_true_iff] at this
              omega
    have := loop (E - F) 0 (by omega) (by unfold plk plL; rfl)
    exact this
  · have hyes : lkR σ F E = true := by
      cases q : lkR σ F E with
      | true => rfl
      | false => rw [q] at z; exact absurd rfl z
    exact ⟨rfl, by rw [if_pos (Or.inl hyes)]⟩
