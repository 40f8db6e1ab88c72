/-! the reference fills a line -/
theorem t_haveForms {G : GT} {σ τ : St} (hS : IS σ) (hT : IT σ) (hC : CTx σ τ) (h105 : τ.1 105 = σ.1 105) (h106 : τ.1 106 = σ.1 106) {a b : Nat} (hab : a ≤ b) (hb : b < nW σ) : CJ G m_MO_haveForms [O 8, I a, I b] τ (fun r υ => υ = τ ∧ r = if lkR σ (wfu σ a) (wE σ b) = true then 0 else 1) := by
  have n := hS.1
  unfold NumOk at n
  obtain ⟨t1, t2, t3, -⟩ := id hT
  have tn8 : tn σ ≤ 80 := by unfold tn; omega
  obtain ⟨f1, f2, f3, f4, f5, f6, f7, f8, f9⟩ := word_rng hS hT hab hb
  have nw8 : nW σ ≤ 80 := Nat.le_trans (cnt_le _ _) tn8
  obtain ⟨c1, c2, c3, c4, c5, c6, c7⟩ := id hC
  have ca := (c7 a (by omega)).1
  have cb := (c7 b hb).2.1
  have etx : ∀ j, τ.1 106 j = tx σ j := fun j => by rw [h106]; rfl
  refine CJ.go (fun _ => k_MO_haveForms_0 ?_)
  rw [Int.toNat_natCast a, ca]
  refine ⟨by omega, ?_⟩
  have loop : ∀ (d i : Nat) (fl : Bool), i + d = we σ b + 1 → wa σ a ≤ i → (fl = false ↔ ∃ j, wa σ a ≤ j ∧ j < i ∧ sd (ts σ) j = true ∧ σ.1 105 (4 * (tx σ j).toNat) = 0) → a_MO_haveForms_10 G b (if fl = true then 1 else 0) i τ (fun r υ => υ = τ ∧ r = if lkR σ (wfu σ a) (wE σ b) = true then 0 else 1) := by
    have stop : ∀ (i : Nat) (fl : Bool), i ≤ we σ b + 1 → (fl = false ↔ ∃ j, wa σ a ≤ j ∧ j < i ∧ sd (ts σ) j = true ∧ σ.1 105 (4 * (tx σ j).toNat) = 0) → (fl = false ∨ i = we σ b + 1) → ((if fl = true then (1 : Int) else 0) = 0 ∨ (if fl = true then (1 : Int) else 0) = 1) ∧ τ = τ ∧ (if fl = true then (1 : Int) else 0) = if lkR σ (wfu σ a) (wE σ b) = true then 0 else 1 := fun i fl hi h ho => by
      refine ⟨by split; exact Or.inr rfl; exact Or.inl rfl, rfl, ?_⟩
      cases fl with
      | false =>
        obtain ⟨j, j1, j2, j3, j4⟩ := h.mp rfl
        rw [if_pos ((lkR_pos hS hT hab hb).mpr ⟨j, j1, by omega, j3, j4⟩)]
        rfl
      | true =>
        have e : i = we σ b + 1 := by
          rcases ho with q | q
          · exact absurd q (by decide)
          · exact q
        rw [if_neg (show ¬ lkR σ (wfu σ a) (wE σ b) = true from fun q => ?_)]
        · rfl
        · obtain ⟨j, j1, j2, j3, j4⟩ := (lkR_pos hS hT hab hb).mp q
          have := h.mpr ⟨j, j1, by omega, j3, j4⟩
          exact absurd this (by decide)
    intro d
    induction d with
    | zero =>
      intro i fl hi hai h
      refine k_MO_haveForms_10 ?_
      rw [Int.toNat_natCast b, cb]
      exact ⟨by omega, ⟨by omega, by omega⟩, fun _ => stop i fl (by omega) h (Or.inr (by omega)), fun z => absurd z (by omega)⟩
    | succ d ih =>
      intro i fl hi hai h
      have hi2 : i < tn σ := by omega
      have c16 := (c4 i hi2).2
      obtain ⟨x1, x2, x3, x4⟩ := t3 i (by unfold tn at hi2; omega)
      have x2' : 0 ≤ tx σ i := x2
      have x3' : tx σ i < σ.2.1 8 6 := x3
      have x0 : 0 ≤ τ.1 105 (4 * (tx σ i).toNat) := by
        rw [h105]
        exact (hS.2.2.2.2.2.2.2.2.2.1 (4 * (tx σ i).toNat) (by omega)).2.1.1
      refine k_MO_haveForms_10 ?_
      rw [Int.toNat_natCast b, cb, Int.toNat_natCast i, c16, etx, show (4 * tx σ i).toNat = 4 * (tx σ i).toNat by omega, h105]
      rw [h105] at x0
      refine ⟨by omega, ⟨by omega, by omega⟩, fun z => absurd z (by omega), fun _ => ⟨by split <;> exact ⟨by omega, by omega⟩, fun z => ?_, fun z => ⟨by omega, fun _ => by omega, ?_⟩⟩⟩
      · cases fl with
        | false => exact stop i false (by omega) h (Or.inl rfl)
        | true => exact absurd z (by simp)
      · have hf : fl = true := by
          cases fl with
          | false => exact absurd rfl z
          | true => rfl
        have key : ∀ (c : Prop) [Decidable c], (c ↔ ¬ (sd (ts σ) i = true ∧ σ.1 105 (4 * (tx σ i).toNat) = 0)) → a_MO_haveForms_10 G b (if c then 1 else 0) ((i : Int) + 1) τ (fun r υ => υ = τ ∧ r = if lkR σ (wfu σ a) (wE σ b) = true then 0 else 1) := fun c _ hc => by
          have e : (if c then (1 : Int) else 0) = if (decide c) = true then 1 else 0 := ite_iff (by rw [decide_eq_true_iff])
          rw [e]
          refine ih (i + 1) (decide c) (by omega) (by omega) ?_
          rw [decide_eq_false_iff_not, hc, Classical.not_not]
          constructor
          · rintro ⟨q1, q2⟩
            exact ⟨i, hai, by omega, q1, q2⟩
          · rintro ⟨j, j1, j2, j3, j4⟩
            by_cases q : j = i
            · rw [q] at j3 j4; exact ⟨j3, j4⟩
            · have := h.mpr ⟨j, j1, by omega, j3, j4⟩
              rw [hf] at this
              exact absurd this (by decide)
        refine key _ ?_
        by_cases q : sd (ts σ) i = true
        · rw [if_pos q]
          constructor
          · rintro (y | y)
            · exact absurd y (by decide)
            · exact fun w => by have := w.2; omega
          · intro y
            right
            rcases Int.lt_or_eq_of_le x0 with w | w
            · exact w
            · exact absurd ⟨q, w.symm⟩ y
        · rw [if_neg q]
          exact ⟨fun _ w => q w.1, fun _ => Or.inl rfl⟩
  exact loop (we σ b + 1 - wa σ a) (wa σ a) true (by omega) (Nat.le_refl _) ⟨fun z => absurd z (by decide), fun ⟨j, j1, j2, _⟩ => absurd j1 (by omega)⟩
theorem sbA_4 {σ : St} {u st s : Nat} {l : Int} : sbA σ u st l s < 4 := by
  unfold sbA
  repeat' split
  all_goals omega
def FLx (σ : St) (ps : List Pc) (f t : Nat) (υ : St) : Prop := SMx σ ps υ ∧ RMx (MS σ ps) υ ∧ HDx σ ps (MS σ ps) υ ∧ υ.2.1 8 64 = f ∧ υ.2.1 8 65 = t ∧ MWd σ (MS σ ps) ∧ MBd (MS σ ps) ∧ (MS σ ps).length ≤ 80
theorem t_beginSet {G : GT} {σ τ : St} (hS : IS σ) (hT : IT σ) (hC : CTx σ τ) {a b : Nat} (hab : a ≤ b) (hb : b < nW σ) : CJ G m_MO_beginSet [O 8, I a, I b] τ (fun _ υ => SMx σ [] υ ∧ FrS τ υ ∧ υ.1 = τ.1 ∧ υ.2.1 8 64 = wa σ a ∧ υ.2.1 8 65 = we σ b) := by
  obtain ⟨t1, t2, t3, -⟩ := id hT
  have tn8 : tn σ ≤ 80 := by unfold tn; omega
  have nw8 : nW σ ≤ 80 := Nat.le_trans (cnt_le _ _) tn8
  obtain ⟨c1, c2, c3, c4, c5, c6, c7⟩ := id hC
  have ca := (c7 a (by omega)).1
  have cb := (c7 b hb).2.1
  refine CJ.go (fun _ => k_MO_beginSet_0 (fun s1 e1 s2 e2 s3 e3 => ?_))
  rw [Int.toNat_natCast a, Int.toNat_natCast b, ca, cb]
  refine ⟨by omega, fun s4 e4 => ⟨by omega, fun s5 e5 => ?_⟩⟩
  subst e1 e2 e3 e4 e5
  refine ⟨⟨?_, ?_, ?_, fun k q hq => by simp at hq⟩, ((((FrS.refl.sf (by omega)).sf (by omega)).sf (by omega)).sf (by omega)).sf (by omega), rfl, ?_, ?_⟩
  all_goals simp [sf, up2, tw, tp]
theorem t_fill {G : GT} {σ : St} (hS : IS σ) (hT : IT σ) (hC : CTx σ σ) {a b W : Nat} (hab : a ≤ b) (hb : b < nW σ) (hW : W ≤ 300) : CJ G m_MO_fill [O 8, I a, I b, I W] σ (fun r υ => FrS σ υ ∧ ((lkR σ (wfu σ a) (wE σ b) = true ∨ NV ≤ LL σ (wE σ b) (wfu σ a) W 0) ∧ r = 0 ∨ lkR σ (wfu σ a) (wE σ b) = false ∧ LL σ (wE σ b) (wfu σ a) W 0 < NV ∧ r = 1 ∧ FLx σ (trc σ (wE σ b) 81 (wfu σ a) W 0) (wa σ a) (we σ b) υ)) := by
  have n8 := nU_le hT
  obtain ⟨t1, t2, t3, -⟩ := id hT
  have tn8 : tn σ ≤ 80 := by unfold tn; omega
  have nw8 : nW σ ≤ 80 := Nat.le_trans (cnt_le _ _) tn8
  obtain ⟨f1, f2, f3, f4, f5, f6, f7, f8, f9⟩ := word_rng hS hT hab hb
  obtain ⟨c1, c2, c3, c4, c5, c6, c7⟩ := id hC
  have ca := (c7 a (by omega)).2.2.1
  have cb : σ.1 113 b = bc σ (wE σ b) := (c7 b hb).2.2.2
  obtain ⟨F, hF⟩ : ∃ F, F = wfu σ a := ⟨_, rfl⟩
  obtain ⟨E, hEe⟩ : ∃ E, E = wE σ b := ⟨_, rfl⟩
  rw [← hF] at f1 f3 f4 f5 f9 ca
  rw [← hEe] at f1 f2 f6 cb
  have b1 := bc_le (σ := σ) (u := F)
  have b2 := bc_le (σ := σ) (u := E)
  have E8 := f2.1
  rw [← hF, ← hEe]
  refine CJ.go (fun _ => k_MO_fill_0 (CJ.mono (t_haveForms hS hT hC rfl rfl hab hb) (fun r υ _ hυ => ?_)))
  rw [hυ.1, hυ.2, ← hF, ← hEe]
  refine ⟨fun z => ?_, fun z => ?_⟩
  · have hno : lkR σ F E = false := by
      cases q : lkR σ F E with
      | false => rfl
      | true => rw [q] at z; exact absurd rfl z
    rw [Int.toNat_natCast a, Int.toNat_natCast b, ca, cb]
    refine ⟨by omega, by omega, CJ.mono (t_findLeast hS hT hC (by omega) f2 f3) (fun _ υ1 _ hυ1 => ?_)⟩
    obtain ⟨l1, l2⟩ := hυ1
    have hix : (((((bc σ F : Nat) : Int) * 301 + (W : Int)) * 4) + 0).toNat = ix (bc σ F) W 0 := by unfold ix; omega
    have hrow := l2 F (Nat.le_refl _) (by omega) f3 W 0 hW (by omega)
    rw [hix, hrow]
    refine ⟨⟨by omega, by omega⟩, ⟨by omega, by omega⟩, fun q => ?_, fun q => ⟨l1.s, Or.inl ⟨Or.inr q, rfl⟩⟩⟩
    have hC1 : CTx σ υ1 := by
      unfold CTx PWx PBx BSx WDx at hC ⊢
      rw [l1.1, l1.2 110 (by omega), l1.2 111 (by omega), l1.2 112 (by omega), l1.2 113 (by omega), l1.2 114 (by omega), l1.2 115 (by omega), l1.2 116 (by omega), l1.2 117 (by omega), l1.2 118 (by omega), l1.2 119 (by omega), l1.2 120 (by omega), l1.2 121 (by omega), l1.2 122 (by omega)]
      exact hC
    refine CJ.mono (t_beginSet hS hT hC1 hab hb) (fun _ υ2 _ hυ2 => ?_)
    obtain ⟨g1, g2, g3, g4, g5⟩ := hυ2
    have loop : ∀ (d k u w st : Nat) (ps : List Pc) (υ : St), k + d = 81 → ps.length = k → F ≤ u → u ≤ E → bh σ u ≤ u → w ≤ 300 → st < 4 → LL σ E u w st < NV → Chn σ F ps u → SMx σ ps υ → trc σ E 81 F W 0 = ps ++ trc σ E d u w st → FrS σ υ → LT σ E F υ → υ.2.1 8 64 = wa σ a → υ.2.1 8 65 = we σ b → a_MO_fill_71 G (bc σ E) (bc σ u) w st υ (fun r υ => FrS σ υ ∧ ((lkR σ F E = true ∨ NV ≤ LL σ E F W 0) ∧ r = 0 ∨ lkR σ F E = false ∧ LL σ E F W 0 < NV ∧ r = 1 ∧ FLx σ (trc σ E 81 F W 0) (wa σ a) (we σ b) υ)) := by
      intro d
      induction d with
      | zero =>
        intro k u w st ps υ hk hlen h1 h2 h3 h4 h5 h6 h7
        have := Chn_len h7
        omega
      | succ d ih =>
        intro k u w st ps υ hk hlen h1 h2 h3 h4 h5 h6 h7 h8 h9 h10 h11 h12 h13
        have b3 := bc_le (σ := σ) (u := u)
        by_cases hue : u = E
        · subst hue
          rw [trc_end (Nat.le_refl _), List.append_nil] at h9
          refine k_MO_fill_71 ⟨⟨by omega, by omega⟩, ⟨by omega, by omega⟩, fun _ => ?_, fun z => absurd z (by omega)⟩
          refine CJ.mono (t_layMarks hS hT hC h10 h7 E8 hno h8 (by rw [h12, f5]) (by rw [h13, f6]; omega)) (fun _ υ' _ hυ' => ?_)
          obtain ⟨m1, m2, m3, m4, m5, m6⟩ := hυ'
          refine ⟨h10.trans m3.s, Or.inr ⟨hno, q, rfl, ?_⟩⟩
          rw [h9]
          exact ⟨m3.sm h8, m1, m2, by rw [m3.2.2.1 64 (by omega) (by omega) (by omega)]; exact h12, by rw [m3.2.2.1 65 (by omega) (by omega) (by omega)]; exact h13, m4, m5, m6⟩
        · have hu : u < E := by omega
          have hun : u < nU σ := by omega
          have hlt := bc_lt h3 hu
          obtain ⟨o, o1, o2, o3⟩ := chs_ex hu h6
          have cm := t_chooseM (G := G) hS hT hC h10 h11 h1 hu h3 f2 h4 h5 h7 h8 o1
          obtain ⟨l, f, x⟩ := o
          have hG := opt_G hS hT hun o2
          obtain ⟨m1, m2, m3, m4, m5⟩ := opt_mem hS hT hun o2
          simp only at m1 m2 m3 m4 m5
          unfold okO at o3
          rw [decide_eq_true_iff] at o3
          obtain ⟨k1, k2, k3⟩ := o3
          simp only at k1 k2 k3
          obtain ⟨hbb, hl0, hle, hor, cr⟩ := kl_mem hS hT hun m1
          have hnE := cr E hu f2.1 f2.2
          have c0 := (cst_b hS m2 m3).1
          have s4 := sbA_4 (σ := σ) (u := u) (st := st) (l := l) (s := x)
          refine k_MO_fill_71 ⟨⟨by omega, by omega⟩, ⟨by omega, by omega⟩, fun z => absurd z (by omega), fun _ => CJ.mono cm (fun _ υ' _ hυ' => ?_)⟩
          obtain ⟨p1, p2, p3, p4, p5, p6, p7⟩ := hυ'
          simp only at p4 p5
          have hwid : υ'.2.1 8 53 = ((tw σ ps + wd σ f x : Nat) : Int) := by
            rw [p1.2.1, tw_app]
            show ((tw σ ps + (wd σ f x + 0) : Nat) : Int) = _
            omega
          have hwid0 : υ.2.1 8 53 = (tw σ ps : Int) := h8.2.1
          have e66 : υ'.2.1 8 66 = (bc σ (u + ln3 σ l.toNat) : Int) := p4
          have e67 : υ'.2.1 8 67 = ((sbA σ u st l x).toNat : Int) := by rw [show υ'.2.1 8 67 = sbA σ u st l x from p5]; omega
          rw [hwid, hwid0, e66, e67, show (w : Int) - (((tw σ ps + wd σ f x : Nat) : Int) - (tw σ ps : Int)) = ((w - wd σ f x : Nat) : Int) by omega]
          refine ih (k + 1) (u + ln3 σ l.toNat) (w - wd σ f x) (sbA σ u st l x).toNat (ps ++ [(u, l, f, x)]) υ' (by omega) (by simp; omega) (by omega) hnE (next_bh hS hT hun m1) (by omega) (by omega) (by omega) (Chn_snoc hG h7) p1 ?_ (h10.trans p2) ?_ (by rw [p6]; exact h12) (by rw [p7]; exact h13)
          · rw [h9, trc_step hu o1, List.append_assoc]; rfl
          · intro v v1 v2 v3 w' st' hw' hst'
            rw [p3]
            exact h11 v v1 v2 v3 w' st' hw' hst'
    refine loop 81 0 F W 0 [] υ2 (by omega) rfl (Nat.le_refl _) (by omega) f3 hW (by omega) q rfl g1 (by simp) (l1.s.trans g2) ?_ g4 g5
    intro v v1 v2 v3 w' st' hw' hst'
    rw [g3]
    exact l2 v v1 v2 v3 w' st' hw' hst'
  · have hyes : lkR σ F E = true := by
      cases q : lkR σ F E with
      | true => rfl
      | false => rw [q] at z; exact absurd z (by decide)
    exact ⟨FrS.refl, Or.inl ⟨Or.inl hyes, rfl⟩⟩
