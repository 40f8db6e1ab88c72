/-! choose, trace -/
theorem wd_cast {σ : St} {f x w : Nat} (h : 1 ≤ σ.1 97 f) (h2 : wd σ f x ≤ w) : (w : Int) - (σ.1 97 f + (x : Int)) = ((w - wd σ f x : Nat) : Int) := by
  unfold wd at h2 ⊢
  omega
theorem WLn_WF {L k : Nat} (hL : isL L) (h : WLn L k) : WF k := by
  have hL2 : L = 9 ∨ L = 28 := hL
  unfold WLn at h
  unfold WF
  omega
theorem WLn_no {L k : Nat} (hL : isL L) (h : k ≤ 8 ∨ 47 ≤ k) : ¬ WLn L k := by
  have hL2 : L = 9 ∨ L = 28 := hL
  unfold WLn
  omega
theorem WLn_no2 {L k : Nat} (hL : isL L) (h : k = 75 ∨ k = 76 ∨ 376 ≤ k) : ¬ WLn L k := WLn_no hL (by omega)
theorem next_bh {σ : St} (hS : IS σ) (hT : IT σ) {u : Nat} (hun : u < nU σ) {l : Int} (hmem : l ∈ kl σ u) : bh σ (u + ln3 σ l.toNat) ≤ u + ln3 σ l.toNat := by
  obtain ⟨hbu, -, hle, hor, -⟩ := kl_mem hS hT hun hmem
  have lp := (ln3_pos (σ := σ) (g := l.toNat)).1
  rcases hor with e | ⟨gg, e, -, ho⟩
  · rw [e]
    have := bh_in hbu (u + ln3 σ (lb σ u).toNat) (by rw [e] at lp; omega) (Nat.le_refl _)
    omega
  · rw [e, Int.toNat_natCast] at hle ⊢
    unfold opb at ho
    simp only [Bool.and_eq_true, decide_eq_true_iff] at ho
    have lp2 := (ln3_pos (σ := σ) (g := gg)).1
    have A := (alone_bc hT ho.2.2 (by omega) (ln3 σ gg - 1) (by omega)).2 (by omega)
    have := bh_in A.1 (u + ln3 σ gg) (by omega) (by omega)
    omega
theorem t_choose {G : GT} {σ τ : St} (hS : IS σ) (hT : IT σ) (hU : UNx σ σ) {u E s w lim F : Nat} (hFS : FS σ E lim F τ) (hFu : F ≤ u) (hu : u < E) (hE : Bnd σ E) (hs : s < SCn σ E u) (hlim : lim ≤ 300) (hw : w ≤ lim) (hno : lkR σ F E = false) {o : Int × Nat × Nat} (hfind : (opt σ u).find? (okO σ E u w (stc s)) = some o) : CJ G m_FI_choose [O 5, I u, I s, I w] τ (fun r υ => ∃ b : Nat, r = 1 ∧ υ = chJ τ o.1 o.2.1 o.2.2 b ∧ b < SCn σ E (u + ln3 σ o.1.toNat) ∧ SEq σ E (u + ln3 σ o.1.toNat) (stc b) (sbA σ u (stc s) o.1 o.2.2).toNat) := by
  have n := hS.1
  unfold NumOk at n
  have n8 := nU_le hT
  have E8 := hE.1
  have hun : u < nU σ := by omega
  obtain ⟨gF, g5, g6, g7, gR⟩ := id hFS
  have fx : ∀ k, ¬ WF k → τ.1 k = σ.1 k := fun k hk => (gF.1 k hk).1
  have hUτ : UNx σ τ := UNx_keep hU (fun k h1 h2 => fx k (by unfold WF; omega)) (gF.1 4 (by unfold WF; omega)).2
  have hK := (hU.2.2.2.1 u hun).2.2.2.2.2.2.2.2
  have l3 : (kl σ u).length ≤ 3 := by
    unfold kl
    split
    · have := opl_le hS (u := u) (Nat.le_refl (nL σ))
      simp; omega
    · simp
  have r72 : τ.1 72 u = ((kl σ u).length : Int) := by rw [fx 72 (by unfold WF; omega)]; exact hK.1
  refine CJ.go (fun _ => k_FI_choose_0 ?_)
  have kinds : ∀ (i m : Nat), m + i = (kl σ u).length → (((kl σ u).drop m).flatMap (optF σ u)).find? (okO σ E u w (stc s)) = some o → a_FI_choose_3 G u s w m τ (fun r υ => ∃ b : Nat, r = 1 ∧ υ = chJ τ o.1 o.2.1 o.2.2 b ∧ b < SCn σ E (u + ln3 σ o.1.toNat) ∧ SEq σ E (u + ln3 σ o.1.toNat) (stc b) (sbA σ u (stc s) o.1 o.2.2).toNat) := by
    intro i
    induction i with
    | zero =>
      intro m hm hr
      rw [List.drop_eq_nil_of_le (by omega)] at hr
      simp at hr
    | succ i ih =>
      intro m hm hr
      have hget := hK.2 m (by omega)
      have r73 : τ.1 73 (((u : Int) * 3 + (m : Int)).toNat) = σ.1 73 (3 * u + m) := by
        rw [fx 73 (by unfold WF; omega), show ((u : Int) * 3 + (m : Int)).toNat = 3 * u + m by omega]
      obtain ⟨l, hl⟩ : ∃ l, σ.1 73 (3 * u + m) = l := ⟨_, rfl⟩
      rw [hl] at r73
      have hget' : (kl σ u)[m]? = some l := by rw [hget]; show some (σ.1 73 (3 * u + m)) = _; rw [hl]
      obtain ⟨hlt, hge⟩ := List.getElem?_eq_some_iff.mp hget'
      have hmem : l ∈ kl σ u := List.mem_of_getElem? hget'
      rw [List.drop_eq_getElem_cons hlt, List.flatMap_cons, hge] at hr
      obtain ⟨hb, hl0, hle, hor, cr⟩ := kl_mem hS hT hun hmem
      have hnE := cr E hu hE.1 hE.2
      have lp := (ln3_pos (σ := σ) (g := l.toNat)).1
      have r49 : τ.1 49 l.toNat = (ln3 σ l.toNat : Int) := by rw [fx 49 (by unfold WF; omega)]; exact ln3_J hS (by omega)
      obtain ⟨p1, p2⟩ := place_J (τ := τ) hS hT hUτ (fx 49 (by unfold WF; omega)) hun hl0 hle
      have pb := plc_b (σ := σ) (u := u) (l := l)
      have ha4 : ((slt σ u l : Nat) : Int) < 4 * σ.2.1 8 6 := by unfold slt; omega
      obtain ⟨t1, t2, t3⟩ := hS.2.2.2.2.2.2.2.2.2.1 (slt σ u l) ha4
      obtain ⟨mm, hmm⟩ : ∃ mm : Nat, σ.1 105 (slt σ u l) = mm := ⟨(σ.1 105 (slt σ u l)).toNat, by omega⟩
      have hfr : frm σ (slt σ u l) = (List.range' 0 mm).map (fun k => (σ.1 104 (3 * slt σ u l + k)).toNat) := by
        unfold frm
        rw [hmm, Int.toNat_natCast, List.range_eq_range']
      refine k_FI_choose_3 ?_
      rw [Int.toNat_natCast, r72, r73, r49, g5]
      refine ⟨by omega, ⟨by omega, by omega⟩, fun z => absurd z (by omega), fun _ => ⟨by omega, by omega, ⟨by omega, by omega⟩, fun z => absurd z (by omega), fun _ => ⟨p1, ?_⟩⟩⟩
      rw [p2]
      have r55 : τ.1 55 ((l * 4 + plc σ u l).toNat) = mm := by
        rw [fx 55 (by unfold WF; omega), show (l * 4 + plc σ u l).toNat = slt σ u l by unfold slt; omega, t1, hmm]
      have forms : ∀ (d k : Nat), k + d = mm → (((List.range' k d).map (fun k => (σ.1 104 (3 * slt σ u l + k)).toNat)).flatMap (optS σ l) ++ ((kl σ u).drop (m + 1)).flatMap (optF σ u)).find? (okO σ E u w (stc s)) = some o → a_FI_choose_63 G u s w m l (plc σ u l) k τ (fun r υ => ∃ b : Nat, r = 1 ∧ υ = chJ τ o.1 o.2.1 o.2.2 b ∧ b < SCn σ E (u + ln3 σ o.1.toNat) ∧ SEq σ E (u + ln3 σ o.1.toNat) (stc b) (sbA σ u (stc s) o.1 o.2.2).toNat) := by
        intro d
        induction d with
        | zero =>
          intro k hk hr
          refine k_FI_choose_63 ?_
          rw [r55]
          refine ⟨by omega, ⟨by omega, by omega⟩, fun _ => ?_, fun z => absurd z (by omega)⟩
          rw [show ((m : Int) + 1) = ((m + 1 : Nat) : Int) by omega]
          refine ih (m + 1) (by omega) ?_
          simpa using hr
        | succ d ihd =>
          intro k hk hr
          obtain ⟨tt, f, f1, f2, f3⟩ := t3 k (by omega)
          have r56 : τ.1 56 (((l * 4 + plc σ u l) * 3 + (k : Int)).toNat) = f := by
            rw [fx 56 (by unfold WF; omega), show ((l * 4 + plc σ u l) * 3 + (k : Int)).toNat = 3 * slt σ u l + k by unfold slt; omega, tt, f1]
          rw [List.range'_succ, List.map_cons, List.flatMap_cons, f1, Int.toNat_natCast, List.append_assoc, List.find?_append] at hr
          refine k_FI_choose_63 ?_
          rw [r55, r56]
          refine ⟨by omega, ⟨by omega, by omega⟩, fun z => absurd z (by omega), fun _ => ⟨by omega, ?_⟩⟩
          refine CJ.mono (t_chooseStretch hS hT hU hFS hFu hu hE hmem (next_bh hS hT hun hmem) f2 hs hlim hw hno) (fun r υ _ hυ => ?_)
          rcases hυ with ⟨h1, h2, h3⟩ | ⟨x, b, h1, h2, h3, h4, h5⟩
          · rw [h1] at hr
            refine ⟨fun _ => ?_, fun z => absurd h2 z⟩
            rw [h3, show ((k : Int) + 1) = ((k + 1 : Nat) : Int) by omega]
            exact ihd (k + 1) (by omega) hr
          · rw [h1] at hr
            have ho : (l, f, x) = o := Option.some.inj hr
            refine ⟨fun z => absurd z (by omega), fun _ => ⟨b, rfl, ?_⟩⟩
            rw [← ho]
            exact ⟨h3, h4, h5⟩
      refine forms mm 0 (by omega) ?_
      unfold optF at hr
      rw [hfr] at hr
      exact hr
  exact kinds (kl σ u).length 0 (by omega) (by rw [List.drop_zero]; exact hfind)
theorem FS_keep {σ τ υ : St} {E lim F : Nat} (h : FS σ E lim F τ) (hf : Fr WF σ υ) (h5 : υ.2.1 5 5 = τ.2.1 5 5) (h6 : υ.2.1 5 6 = τ.2.1 5 6) (h7 : υ.2.1 5 7 = τ.2.1 5 7) (ha : ∀ k, k = 75 ∨ k = 76 ∨ 376 ≤ k → υ.1 k = τ.1 k) : FS σ E lim F υ := by
  obtain ⟨a, b, c, d, e⟩ := h
  refine ⟨hf, by rw [h5]; exact b, by rw [h6]; exact c, by rw [h7]; exact d, fun u h1 h2 h3 s hs => ?_⟩
  obtain ⟨p, q, r, t⟩ := e u h1 h2 h3 s hs
  unfold PRow
  rw [ha 75 (by omega), ha 76 (by omega), ha (376 + (3 * u + s)) (by omega)]
  exact ⟨p, q, r, t⟩
theorem opt_G {σ : St} (hS : IS σ) (hT : IT σ) {u : Nat} (hu : u < nU σ) {o : Int × Nat × Nat} (h : o ∈ opt σ u) : GPc σ (u, o) := by
  obtain ⟨a, b, c, d, e⟩ := opt_mem hS hT hu h
  exact ⟨hu, a, b, c, d, e⟩
theorem t_trace {G : GT} {σ τ : St} (hS : IS σ) (hT : IT σ) (hU : UNx σ σ) {E W lim F L : Nat} (hL : isL L) (hFS : FS σ E lim F τ) (hF : F < E) (hbF : bh σ F ≤ F) (hE : Bnd σ E) (hlim : lim ≤ 300) (hw : W ≤ lim) (hno : lkR σ F E = false) (hfin : LL σ E F W 0 < NV) : CJ G m_FI_trace [O 5, I F, I W, O L] τ (fun _ υ => LJ σ L (trc σ E 81 F W 0) υ ∧ Chn σ F (trc σ E 81 F W 0) E ∧ tw σ (trc σ E 81 F W 0) = W ∧ tp σ (trc σ E 81 F W 0) = LL σ E F W 0 ∧ Fr WF σ υ ∧ (∀ k, k ≠ 5 → ¬ WLn L k → υ.1 k = τ.1 k ∧ υ.2.1 k = τ.2.1 k) ∧ υ.2.2 = τ.2.2 ∧ υ.2.1 L 4 = up σ F ∧ υ.2.1 L 5 = la σ (E - 1)) := by
  have n := hS.1
  unfold NumOk at n
  have n8 := nU_le hT
  have E8 := hE.1
  have hL2 : L = 9 ∨ L = 28 := hL
  obtain ⟨gF, g5, g6, g7, gR⟩ := id hFS
  have fx : ∀ k, ¬ WF k → τ.1 k = σ.1 k := fun k hk => (gF.1 k hk).1
  have hUτ : UNx σ τ := UNx_keep hU (fun k h1 h2 => fx k (by unfold WF; omega)) (gF.1 4 (by unfold WF; omega)).2
  refine CJ.go (fun _ => k_FI_trace_0 hL ?_)
  rw [g5]
  refine CJ.mono (t_lnBegin hL hUτ hF E8 n8) (fun _ u2 _ h2 => ?_)
  obtain ⟨b1, b2, b3, b4⟩ := h2
  have loop : ∀ (d k u w st s : Nat) (ps : List Pc) (υ : St), k + d = 81 → ps.length = k → F ≤ u → u ≤ E → bh σ u ≤ u → w ≤ lim → SEq σ E u (stc s) st → (u < E → s < SCn σ E u) → LL σ E u w st < NV → Chn σ F ps u → LJ σ L ps υ → (tw σ ps + w = W) → (tp σ ps + LL σ E u w st = LL σ E F W 0) → trc σ E 81 F W 0 = ps ++ trc σ E d u w st → FS σ E lim F υ → (∀ k, k ≠ 5 → ¬ WLn L k → υ.1 k = τ.1 k ∧ υ.2.1 k = τ.2.1 k) → υ.2.2 = τ.2.2 → υ.2.1 L 4 = up σ F → υ.2.1 L 5 = la σ (E - 1) → a_FI_trace_23 G L s w u k υ (fun _ υ => LJ σ L (trc σ E 81 F W 0) υ ∧ Chn σ F (trc σ E 81 F W 0) E ∧ tw σ (trc σ E 81 F W 0) = W ∧ tp σ (trc σ E 81 F W 0) = LL σ E F W 0 ∧ Fr WF σ υ ∧ (∀ k, k ≠ 5 → ¬ WLn L k → υ.1 k = τ.1 k ∧ υ.2.1 k = τ.2.1 k) ∧ υ.2.2 = τ.2.2 ∧ υ.2.1 L 4 = up σ F ∧ υ.2.1 L 5 = la σ (E - 1)) := by
    intro d
    induction d with
    | zero =>
      intro k u w st s ps υ hk hlen h1 h2 h3 h4 h5 h6 h7 h8
      have := Chn_len h8
      omega
    | succ d ih =>
      intro k u w st s ps υ hk hlen h1 h2 h3 h4 h5 h6 h7 h8 h9 h10 h11 h12 h13 h14 h15 h16 h17
      obtain ⟨yF, y5, y6, y7, yR⟩ := id h13
      have hcl := Chn_len h8
      by_cases hue : u = E
      · subst hue
        have hw0 : w = 0 := by
          rw [LL_end] at h7
          by_cases z : w = 0
          · exact z
          · rw [if_neg z] at h7; exact absurd h7 (by omega)
        rw [trc_end (Nat.le_refl _), List.append_nil] at h12
        refine k_FI_trace_23 hL ?_
        rw [y5]
        have fin : LJ σ L (trc σ u 81 F W 0) υ ∧ Chn σ F (trc σ u 81 F W 0) u ∧ tw σ (trc σ u 81 F W 0) = W ∧ tp σ (trc σ u 81 F W 0) = LL σ u F W 0 ∧ Fr WF σ υ ∧ (∀ k, k ≠ 5 → ¬ WLn L k → υ.1 k = τ.1 k ∧ υ.2.1 k = τ.2.1 k) ∧ υ.2.2 = τ.2.2 ∧ υ.2.1 L 4 = up σ F ∧ υ.2.1 L 5 = la σ (u - 1) := by
          rw [h12]
          refine ⟨h9, h8, by omega, ?_, yF, h14, h15, h16, h17⟩
          rw [LL_end, if_pos hw0] at h11
          omega
        exact ⟨⟨by omega, by omega⟩, fun _ => fin, fun _ => ⟨⟨by omega, by omega⟩, fun _ => fin, fun z => absurd z (by omega)⟩⟩
      · have hu : u < E := by omega
        have hun : u < nU σ := by omega
        obtain ⟨o, o1, o2, o3⟩ := chs_ex hu h7
        have hs := h6 hu
        have o1' : (opt σ u).find? (okO σ E u w (stc s)) = some o := by rw [SEq_ok h5 hu]; exact o1
        obtain ⟨l, f, x⟩ := o
        have hG := opt_G hS hT hun o2
        obtain ⟨m1, m2, m3, m4, m5⟩ := opt_mem hS hT hun o2
        simp only at m1 m2 m3 m4 m5
        unfold okO at o3
        rw [decide_eq_true_iff] at o3
        obtain ⟨k1, k2, k3⟩ := o3
        simp only at k1 k2 k3
        obtain ⟨hb, hl0, hle, hor, cr⟩ := kl_mem hS hT hun m1
        have hnE := cr E hu hE.1 hE.2
        have lp := (ln3_pos (σ := σ) (g := l.toNat)).1
        have c0 := (cst_b hS m2 m3).1
        refine k_FI_trace_23 hL ?_
        rw [y5]
        refine ⟨⟨by omega, by omega⟩, fun z => absurd z (by omega), fun _ => ⟨⟨by omega, by omega⟩, fun z => absurd z (by omega), fun _ => ?_⟩⟩
        refine CJ.mono (t_choose hS hT hU h13 h1 hu hE hs hlim h4 hno o1') (fun r υ1 _ hυ1 => ?_)
        obtain ⟨b, hr, e1, hbS, hbE⟩ := hυ1
        simp only at e1 hbS hbE
        have hb3 := SCn_3 (σ := σ) (E := E) (u := u + ln3 σ l.toNat)
        refine ⟨fun z => absurd z (by omega), fun _ => ?_⟩
        have f8 : υ1.2.1 5 8 = l := by rw [e1]; unfold chJ; rw [sf_nx (by decide), sf_nx (by decide), sf_nx (by decide), sf_at]
        have f9 : υ1.2.1 5 9 = f := by rw [e1]; unfold chJ; rw [sf_nx (by decide), sf_nx (by decide), sf_at]
        have f10 : υ1.2.1 5 10 = x := by rw [e1]; unfold chJ; rw [sf_nx (by decide), sf_at]
        have f11 : υ1.2.1 5 11 = b := by rw [e1]; unfold chJ; rw [sf_at]
        have A1 : υ1.1 = υ.1 := by rw [e1]; rfl
        have F1 : ∀ k, k ≠ 5 → υ1.2.1 k = υ.2.1 k := fun k hk => by rw [e1]; unfold chJ; rw [sf_ne hk, sf_ne hk, sf_ne hk, sf_ne hk]
        have LJ1 : LJ σ L ps υ1 := by
          unfold LJ at h9 ⊢
          rw [A1, F1 L (by omega), F1 (L + 1) (by omega)]
          exact h9
        rw [f8, f9, f10]
        refine CJ.mono (t_addPiece hS hL (fun f' _ => by rw [A1]; exact (yF.1 (176 + f') (by rename_i h'; unfold FOk at h'; unfold WF; omega)).1) (fun p hp => (Chn_G h8 p hp).1) hG (by omega) n8 LJ1) (fun _ υ2 _ hυ2 => ?_)
        obtain ⟨z1, z2, z3, z4⟩ := hυ2
        have F2 : υ2.2.1 5 = υ1.2.1 5 := (z2.1 5 (by unfold WLn; omega)).2
        have r49 : υ2.1 49 l.toNat = (ln3 σ l.toNat : Int) := by
          rw [(z2.1 49 (by unfold WLn; omega)).1, A1, (yF.1 49 (by unfold WF; omega)).1]
          exact ln3_J hS (by omega)
        have r176 : υ2.1 (176 + f) 2 = σ.1 97 f := by
          have hf2 := (form_b hS m2).1
          rw [(z2.1 (176 + f) (by unfold WLn; omega)).1, A1, (yF.1 (176 + f) (by unfold WF; omega)).1]
          exact (form_J hS m2).1
        rw [F2, f8, f9, f10, f11, Int.toNat_natCast, r49, r176]
        have hf2 := (form_b hS m2).1
        have hwd : (w : Int) - (σ.1 97 f + (x : Int)) = ((w - wd σ f x : Nat) : Int) := wd_cast (form_b hS m2).2.1.1 k2
        rw [hwd, show ((u : Int) + (ln3 σ l.toNat : Int)) = ((u + ln3 σ l.toNat : Nat) : Int) by omega, show ((k : Int) + 1) = ((k + 1 : Nat) : Int) by omega]
        refine ⟨by omega, by omega, ?_⟩
        have hFr2 : Fr WF σ υ2 := by
          refine ⟨fun k hk => ?_, ?_⟩
          · have nw : ¬ WLn L k := fun q => hk (WLn_WF hL q)
            rw [(z2.1 k nw).1, (z2.1 k nw).2, A1, F1 k (by unfold WF at hk; omega)]
            exact yF.1 k hk
          · rw [z2.2, e1]
            exact yF.2
        refine ih (k + 1) (u + ln3 σ l.toNat) (w - wd σ f x) (sbA σ u st l x).toNat b (ps ++ [(u, l, f, x)]) υ2 (by omega) (by simp; omega) (by omega) hnE (next_bh hS hT hun m1) (by omega) ?_ (fun _ => hbS) ?_ (Chn_snoc hG h8) z1 ?_ ?_ ?_ ?_ (fun k hk hnw => ?_) ?_ (by rw [z3]; rw [F1 L (by omega)]; exact h16) (by rw [z4]; rw [F1 L (by omega)]; exact h17)
        · rw [← SEq_sb h5 hu]; exact hbE
        · omega
        · rw [tw_app]; show tw σ ps + (wd σ f x + 0) + _ = _; omega
        · rw [tp_app]; show tp σ ps + (cst σ f x + 0) + _ = _; omega
        · rw [h12, trc_step hu o1, List.append_assoc]; rfl
        · refine FS_keep h13 hFr2 (by rw [F2, e1]; rfl) (by rw [F2, e1]; rfl) (by rw [F2, e1]; rfl) (fun k hk => ?_)
          rw [(z2.1 k (WLn_no2 hL hk)).1, A1]
        · rw [(z2.1 k hnw).1, (z2.1 k hnw).2, A1, F1 k hk]
          exact h14 k hk hnw
        · rw [z2.2, e1]; exact h15
  have hSC : 0 < SCn σ E F := by
    unfold SCn
    split
    · omega
    · split
      · omega
      · split <;> omega
  refine loop 81 0 F W 0 0 [] u2 (by omega) rfl (Nat.le_refl _) (by omega) hbF hw (Or.inr (Or.inr (Or.inl rfl))) (fun _ => hSC) hfin rfl b1 (by simp [tw]) (by simp [tp]) (by simp) ?_ (fun k _ hk => b2.1 k hk) b2.2 b3 b4
  have hFr2 : Fr WF σ u2 := ⟨fun k hk => by
    have nw : ¬ WLn L k := fun q => hk (WLn_WF hL q)
    rw [(b2.1 k nw).1, (b2.1 k nw).2]
    exact gF.1 k hk, by rw [b2.2]; exact gF.2⟩
  refine FS_keep hFS hFr2 ?_ ?_ ?_ (fun k hk => (b2.1 k (by unfold WLn; omega)).1)
  · rw [(b2.1 5 (by unfold WLn; omega)).2]
  · rw [(b2.1 5 (by unfold WLn; omega)).2]
  · rw [(b2.1 5 (by unfold WLn; omega)).2]
