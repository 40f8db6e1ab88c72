/-! setPlain, on both sides -/
theorem pls_len {σ : St} {u c : Nat} : (pls σ u c).length ≤ c := by unfold pls; rw [List.length_map]; exact plL_len
theorem t_lnPlain {G : GT} {σ τ : St} {L : Nat} (hS : IS σ) (hT : IT σ) (hL : isL L) (hU : UNx σ τ) (hF : Fr WF σ τ) {F E : Nat} (hFE : F < E) (hE : E ≤ nU σ) (hk : plk σ F (E - F) = true) : CJ G m_LN_setPlain [O L, I F, I ((E : Int) - 1)] τ (fun _ υ => LJ σ L (pls σ F (E - F)) υ ∧ Fr (WLn L) τ υ ∧ υ.2.1 L 4 = up σ F ∧ υ.2.1 L 5 = la σ (E - 1)) := by
  have n8 := nU_le hT
  have n := hS.1
  unfold NumOk at n
  have hL2 : L = 9 ∨ L = 28 := hL
  refine CJ.go (fun _ => k_LN_setPlain_0 hL (CJ.mono (t_lnBegin hL hU hFE hE n8) (fun _ υ R hυ => ?_)))
  obtain ⟨b1, b2, b3, b4⟩ := hυ
  have pre : ∀ c, c ≤ E - F → plk σ F c = true := fun c hc => by
    unfold plk
    rw [List.all_eq_true]
    intro v hv
    obtain ⟨m1, m2, m3⟩ := plL_mem hv
    exact List.all_eq_true.mp hk v (plL_in m1 (by omega) m3)
  have loop : ∀ (d c : Nat) (υ : St), F + c + d = E → Rg υ → LJ σ L (pls σ F c) υ → Fr (WLn L) τ υ → υ.2.1 L 4 = up σ F → υ.2.1 L 5 = la σ (E - 1) → a_LN_setPlain_8 G L ((E : Int) - 1) ((F + c : Nat) : Int) υ (fun _ υ => LJ σ L (pls σ F (E - F)) υ ∧ Fr (WLn L) τ υ ∧ υ.2.1 L 4 = up σ F ∧ υ.2.1 L 5 = la σ (E - 1)) := by
    intro d
    induction d with
    | zero =>
      intro c υ hc R h1 h2 h3 h4
      refine k_LN_setPlain_8 hL ⟨⟨by omega, by omega⟩, ⟨by omega, by omega⟩, fun _ => ?_, fun w => absurd w (by omega)⟩
      rw [show E - F = c by omega]
      exact ⟨h1, h2, h3, by rw [h4]⟩
    | succ d ih =>
      intro c υ hc R h1 h2 h3 h4
      have hv : F + c < nU σ := by omega
      have o : ∀ y, ¬ WF y → υ.1 y = σ.1 y := fun y hy => by
        rw [(h2.1 y (fun q => hy (WLn_WF hL q))).1]
        exact (hF.1 y hy).1
      have hU' : UNx σ υ := UNx_keep hU (fun k k1 k2 => (h2.1 k (by unfold WLn; omega)).1) (h2.1 4 (by unfold WLn; omega)).2
      obtain ⟨u1, u2⟩ := un_base hU' hv
      refine k_LN_setPlain_8 hL ?_
      rw [Int.toNat_natCast (F + c), show (((F + c : Nat) : Int) * 3).toNat = 3 * (F + c) by omega]
      refine ⟨⟨by omega, by omega⟩, ⟨by omega, by omega⟩, fun w => absurd w (by omega), fun _ => ⟨by omega, fun w => ?_, fun w => ?_⟩⟩
      · have nb : ¬ bh σ (F + c) ≤ F + c := fun q => w (u1.mpr q)
        have e : plL σ F (c + 1) = plL σ F c := plL_same nb
        refine ih (c + 1) υ (by omega) R ?_ h2 h3 h4
        unfold pls at h1 ⊢
        rw [e]
        exact h1
      · have hb := u1.mp w
        rw [u2 hb]
        obtain ⟨-, l0, hle, -, -⟩ := kl_mem hS hT hv (lb_kl hb)
        obtain ⟨p1, p2⟩ := place_J hS hT hU' (o 49 (by unfold WF; omega)) hv l0 hle
        rw [p2]
        obtain ⟨q1, q2, -⟩ := pf_J hS (o 55 (by unfold WF; omega)) (o 56 (by unfold WF; omega)) R l0 (plc_b (σ := σ) (u := F + c) (l := lb σ (F + c)))
        rw [q2]
        have e : plL σ F (c + 1) = plL σ F c ++ [F + c] := plL_snoc hb
        have hx0 : 0 ≤ plF σ (F + c) := by
          have := List.all_eq_true.mp hk (F + c) (plL_in (by omega) (by omega) hb)
          rwa [decide_eq_true_iff] at this
        have hG : GPc σ (plp σ (F + c)) := by
          rcases pl_fact hS hT hv hb with x | x
          · omega
          · exact x.2
        have eF : pfM σ (lb σ (F + c)) (plc σ (F + c) (lb σ (F + c))) = ((plF σ (F + c)).toNat : Int) := by
          show plF σ (F + c) = _
          omega
        rw [eF]
        have ll := pls_len (σ := σ) (u := F) (c := c)
        have ap := t_addPiece (G := G) (q := plp σ (F + c)) hS hL (fun f hf => o (176 + f) (by unfold WF; have := (form_b hS hf).1; omega)) (pls_G hS hT (by omega) (pre c (by omega))) hG (by omega) n8 h1
        refine ⟨by omega, p1, q1, fun y => absurd y (by omega), fun _ => CJ.mono ap (fun _ υ' R' hυ' => ?_)⟩
        obtain ⟨z1, z2, z3, z4⟩ := hυ'
        refine ih (c + 1) υ' (by omega) R' ?_ (h2.trans z2) (by rw [z3]; exact h3) (by rw [z4]; exact h4)
        unfold pls at z1 ⊢
        rw [e, List.map_append]
        exact z1
  exact loop (E - F) 0 υ (by omega) R b1 b2 b3 b4
theorem base_M {σ τ : St} (hS : IS σ) (hT : IT σ) (hC : CTx σ σ) (h104 : τ.1 104 = σ.1 104) (h105 : τ.1 105 = σ.1 105) (h118 : τ.1 118 = σ.1 118) (h121 : τ.1 121 = σ.1 121) (h122 : τ.1 122 = σ.1 122) {v : Nat} (hv : v < nU σ) (hb : bh σ v ≤ v) : τ.1 118 (bc σ v) = lb σ v ∧ p_MO_placeOf τ (bc σ v) (bc σ v) ∧ f_MO_placeOf τ (bc σ v) (bc σ v) = plc σ v (lb σ v) ∧ p_MO_plainOf τ (lb σ v) (plc σ v (lb σ v)) ∧ f_MO_plainOf τ (lb σ v) (plc σ v (lb σ v)) = plF σ v ∧ bc σ (v + ln3 σ (lb σ v).toNat) = bc σ v + 1 ∧ bc σ (v + 1) = bc σ v + 1 := by
  have n := hS.1
  unfold NumOk at n
  have lp := (ln3_pos (σ := σ) (g := (lb σ v).toNat)).1
  have e1 := bc_in hb (v + ln3 σ (lb σ v).toNat) (by omega) (Nat.le_refl _)
  obtain ⟨-, l0, hle, -, -⟩ := kl_mem hS hT hv (lb_kl hb)
  have pb := plc_b (σ := σ) (u := v) (l := lb σ v)
  obtain ⟨pm1, pm2⟩ := place_M hS hT hC.2.2.2.2.2.1 h121 h122 hv (lb_kl hb)
  rw [e1, show (((bc σ v + 1 : Nat) : Int) - 1) = (bc σ v : Int) by omega] at pm1 pm2
  have hf : f_MO_plainOf τ (lb σ v) (plc σ v (lb σ v)) = plF σ v := by
    unfold f_MO_plainOf plF pfM
    rw [h104, h105]
    by_cases z : σ.1 105 (4 * lb σ v + plc σ v (lb σ v)).toNat = 0
    · rw [if_neg (fun q => q z), if_pos z]
    · rw [if_pos z, if_neg z]
  refine ⟨by rw [h118]; exact (hC.2.2.2.2.2.1 v hv hb).2.1, pm1, pm2, ⟨⟨by omega, by omega⟩, fun _ => ⟨by omega, by omega⟩, ?_⟩, hf, e1, bc_in hb (v + 1) (by omega) (by omega)⟩
  unfold f_MO_plainOf at hf
  rw [hf]
  rcases pl_fact hS hT hv hb with x | x
  · rw [x]; exact ⟨by omega, by omega⟩
  · have := (form_b hS x.2.2.2.1).1
    simp only [plp] at this
    exact ⟨by omega, by omega⟩
theorem t_canBePlain {G : GT} {σ : St} (hS : IS σ) (hT : IT σ) (hC : CTx σ σ) {a b : Nat} (hab : a ≤ b) (hb : b < nW σ) : CJ G m_MO_canBePlain [O 8, I a, I b] σ (fun r υ => υ = σ ∧ r = if lkR σ (wfu σ a) (wE σ b) = true ∨ plk σ (wfu σ a) (wE σ b - wfu σ a) = false then 0 else 1) := by
  have n8 := nU_le hT
  obtain ⟨t1, t2, t3, -⟩ := id hT
  have tn8 : tn σ ≤ 80 := by unfold tn; omega
  have nw8 : nW σ ≤ 80 := Nat.le_trans (cnt_le _ _) tn8
  obtain ⟨f1, f2, f3, f4, f5, f6, f7, f8, f9⟩ := word_rng hS hT hab hb
  obtain ⟨c1, c2, c3, c4, c5, c6, c7⟩ := id hC
  have ca := (c7 a (by omega)).2.2.1
  have cb : σ.1 113 b = bc σ (wE σ b) := (c7 b hb).2.2.2
  obtain ⟨F, hF⟩ : ∃ F, F = wfu σ a := ⟨_, rfl⟩
  obtain ⟨E, hEe⟩ : ∃ E, E = wE σ b := ⟨_, rfl⟩
  rw [← hF] at f1 f3 f4 f5 f9 ca
  rw [← hEe] at f1 f2 f6 cb
  have E8 := f2.1
  have b2 := bc_le (σ := σ) (u := E)
  rw [← hF, ← hEe]
  refine CJ.go (fun _ => k_MO_canBePlain_0 (CJ.mono (t_haveForms hS hT hC rfl rfl hab hb) (fun r υ _ hυ => ?_)))
  rw [hυ.1, hυ.2, ← hF, ← hEe, Int.toNat_natCast a, ca]
  refine ⟨by omega, ?_⟩
  have stop : ∀ (fl : Bool) (c : Nat), F + c ≤ E → (fl = false ↔ (lkR σ F E = true ∨ plk σ F c = false)) → (fl = false ∨ F + c = E) → ((if fl = true then (1 : Int) else 0) = 0 ∨ (if fl = true then (1 : Int) else 0) = 1) ∧ σ = σ ∧ (if fl = true then (1 : Int) else 0) = if lkR σ F E = true ∨ plk σ F (E - F) = false then 0 else 1 := fun fl c hc h ho => by
    refine ⟨by split; exact Or.inr rfl; exact Or.inl rfl, rfl, ?_⟩
    cases fl with
    | false =>
      have : lkR σ F E = true ∨ plk σ F (E - F) = false := by
        rcases h.mp rfl with y | y
        · exact Or.inl y
        · right
          cases q : plk σ F (E - F) with
          | false => rfl
          | true =>
            exfalso
            have : plk σ F c = true := by
              unfold plk
              rw [List.all_eq_true]
              intro v hv
              obtain ⟨m1, m2, m3⟩ := plL_mem hv
              exact List.all_eq_true.mp q v (plL_in m1 (by omega) m3)
            rw [this] at y
            exact absurd y (by decide)
      rw [if_pos this]
      rfl
    | true =>
      have e : F + c = E := by
        rcases ho with q | q
        · exact absurd q (by decide)
        · exact q
      rw [show E - F = c by omega]
      rw [if_neg (show ¬ (lkR σ F E = true ∨ plk σ F c = false) from fun q => absurd (h.mpr q) (by decide))]
      rfl
  have loop : ∀ (d c : Nat) (fl : Bool), F + c + d = E → (fl = false ↔ (lkR σ F E = true ∨ plk σ F c = false)) → a_MO_canBePlain_15 G b (if fl = true then 1 else 0) (bc σ (F + c)) σ (fun r υ => υ = σ ∧ r = if lkR σ F E = true ∨ plk σ F (E - F) = false then 0 else 1) := by
    intro d
    induction d with
    | zero =>
      intro c fl hc h
      have b3 := bc_le (σ := σ) (u := F + c)
      refine k_MO_canBePlain_15 ?_
      rw [Int.toNat_natCast b, cb, show E = F + c by omega]
      rw [show E = F + c by omega] at stop h
      refine ⟨by omega, ⟨by omega, by omega⟩, fun _ => stop fl c (Nat.le_refl _) h (Or.inr rfl), fun z => absurd z (by omega)⟩
    | succ d ih =>
      intro c fl hc h
      have hv : F + c < nU σ := by omega
      by_cases hbb : bh σ (F + c) ≤ F + c
      · obtain ⟨m1, m2, m3, m4, m5, m6, m7⟩ := base_M hS hT hC rfl rfl rfl rfl rfl hv hbb
        have hlt := bc_lt hbb (show F + c < E by omega)
        have b3 := bc_le (σ := σ) (u := F + c)
        have e : plL σ F (c + 1) = plL σ F c ++ [F + c] := plL_snoc hbb
        refine k_MO_canBePlain_15 ?_
        rw [Int.toNat_natCast b, cb, Int.toNat_natCast (bc σ (F + c)), m1, m3, m5]
        refine ⟨by omega, ⟨by omega, by omega⟩, fun z => absurd z (by omega), fun _ => ⟨by split <;> exact ⟨by omega, by omega⟩, fun z => ?_, fun z => ⟨by omega, m2, m4, ?_⟩⟩⟩
        · cases fl with
          | false => exact stop false c (by omega) h (Or.inl rfl)
          | true => exact absurd z (by simp)
        · have hf : fl = true := by
            cases fl with
            | false => exact absurd rfl z
            | true => rfl
          have nl : ¬ (lkR σ F E = true ∨ plk σ F c = false) := fun q => by have := h.mpr q; rw [hf] at this; exact absurd this (by decide)
          have hk : plk σ F c = true := by
            cases q : plk σ F c with
            | true => rfl
            | false => exact absurd (Or.inr q) nl
          have e2 : (if 0 ≤ plF σ (F + c) then (1 : Int) else 0) = if (decide (0 ≤ plF σ (F + c))) = true then 1 else 0 := ite_iff (by rw [decide_eq_true_iff])
          have hk2 : plk σ F (c + 1) = decide (0 ≤ plF σ (F + c)) := by
            unfold plk at hk ⊢
            rw [e, List.all_append, hk]
            simp
          rw [e2, show (bc σ (F + c) : Int) + 1 = ((bc σ (F + (c + 1)) : Nat) : Int) by rw [show F + (c + 1) = F + c + 1 by omega, m7]; omega]
          refine ih (c + 1) _ (by omega) ?_
          rw [hk2]
          exact ⟨fun q => Or.inr q, fun q => by
            rcases q with y | y
            · exact absurd (Or.inl y) nl
            · exact y⟩
      · have eb : bc σ (F + (c + 1)) = bc σ (F + c) := cnt_f (bq_f hbb)
        have e : plL σ F (c + 1) = plL σ F c := plL_same hbb
        have := ih (c + 1) fl (by omega) (by unfold plk at h ⊢; rw [e]; exact h)
        rw [eb] at this
        exact this
  have e0 : (if lkR σ F E = true then (0 : Int) else 1) = if (!lkR σ F E) = true then 1 else 0 := by
    cases lkR σ F E <;> rfl
  rw [e0]
  exact loop (E - F) 0 (!lkR σ F E) (by omega) (by
    have : plk σ F 0 = true := by unfold plk plL; rfl
    rw [this]
    cases lkR σ F E <;> simp)
theorem t_setPlainM {G : GT} {σ : St} (hS : IS σ) (hT : IT σ) (hC : CTx σ σ) {a b : Nat} (hab : a ≤ b) (hb : b < nW σ) : CJ G m_MO_setPlain [O 8, I a, I b] σ (fun r υ => FrS σ υ ∧ ((lkR σ (wfu σ a) (wE σ b) = true ∨ plk σ (wfu σ a) (wE σ b - wfu σ a) = false) ∧ r = 0 ∨ lkR σ (wfu σ a) (wE σ b) = false ∧ plk σ (wfu σ a) (wE σ b - wfu σ a) = true ∧ r = 1 ∧ FLx σ (pls σ (wfu σ a) (wE σ b - wfu σ a)) (wa σ a) (we σ b) υ)) := by
  have n8 := nU_le hT
  obtain ⟨t1, t2, t3, -⟩ := id hT
  have tn8 : tn σ ≤ 80 := by unfold tn; omega
  have nw8 : nW σ ≤ 80 := Nat.le_trans (cnt_le _ _) tn8
  obtain ⟨f1, f2, f3, f4, f5, f6, f7, f8, f9⟩ := word_rng hS hT hab hb
  obtain ⟨c1, c2, c3, c4, c5, c6, c7⟩ := id hC
  have ca := (c7 a (by omega)).2.2.1
  have cb : σ.1 113 b = bc σ (wE σ b) := (c7 b hb).2.2.2
  obtain ⟨F, hF⟩ : ∃ F, F = wfu σ a := ⟨_, rfl⟩
  obtain ⟨E, hEe⟩ : ∃ E, E = wE σ b := ⟨_, rfl⟩
  have cp := t_canBePlain (G := G) hS hT hC hab hb
  rw [← hF] at f1 f3 f4 f5 f9 ca cp
  rw [← hEe] at f1 f2 f6 cb cp
  have E8 := f2.1
  have b2 := bc_le (σ := σ) (u := E)
  rw [← hF, ← hEe]
  refine CJ.go (fun _ => k_MO_setPlain_0 (CJ.mono cp (fun r υ _ hυ => ?_)))
  rw [hυ.1, hυ.2]
  refine ⟨fun z => ?_, fun z => ?_⟩
  · have hn : ¬ (lkR σ F E = true ∨ plk σ F (E - F) = false) := fun q => z (if_pos q)
    have hno : lkR σ F E = false := by
      cases q : lkR σ F E with
      | false => rfl
      | true => exact absurd (Or.inl q) hn
    have hk : plk σ F (E - F) = true := by
      cases q : plk σ F (E - F) with
      | true => rfl
      | false => exact absurd (Or.inr q) hn
    refine CJ.mono (t_beginSet hS hT hC hab hb) (fun _ υ2 _ hυ2 => ?_)
    obtain ⟨g1, g2, g3, g4, g5⟩ := hυ2
    rw [g3, Int.toNat_natCast a, ca]
    refine ⟨by omega, ?_⟩
    have pre : ∀ c, c ≤ E - F → plk σ F c = true := fun c hc => by
      unfold plk
      rw [List.all_eq_true]
      intro v hv
      obtain ⟨m1, m2, m3⟩ := plL_mem hv
      exact List.all_eq_true.mp hk v (plL_in m1 (by omega) m3)
    have chn : ∀ c, F + c ≤ E → bh σ (F + c) ≤ F + c → Chn σ F (pls σ F c) (F + c) := fun c hc hbc => pls_chn hS hT hbc (by omega) c F F rfl (Nat.le_refl _) (by omega) f3 (fun x x1 x2 => absurd x1 (by omega)) (pre c (by omega))
    have loop : ∀ (d c : Nat) (υ : St), F + c + d = E → SMx σ (pls σ F c) υ → FrS σ υ → υ.2.1 8 64 = wa σ a → υ.2.1 8 65 = we σ b → a_MO_setPlain_24 G b (bc σ (F + c)) υ (fun r υ => FrS σ υ ∧ ((lkR σ F E = true ∨ plk σ F (E - F) = false) ∧ r = 0 ∨ lkR σ F E = false ∧ plk σ F (E - F) = true ∧ r = 1 ∧ FLx σ (pls σ F (E - F)) (wa σ a) (we σ b) υ)) := by
      intro d
      induction d with
      | zero =>
        intro c υ hc h1 h2 h3 h4
        have b3 := bc_le (σ := σ) (u := F + c)
        have hce : E - F = c := by omega
        have hE2 : F + c = E := by omega
        have hch := chn c (by omega) (by rw [hE2]; exact bnd_bh hS hT f2)
        rw [hE2] at hch
        refine k_MO_setPlain_24 ?_
        rw [Int.toNat_natCast b, h2.1 113 (by omega), cb, hE2]
        refine ⟨by omega, ⟨by omega, by omega⟩, fun _ => ?_, fun z => absurd z (by omega)⟩
        refine CJ.mono (t_layMarks hS hT hC h2 hch E8 hno h1 (by rw [h3, f5]) (by rw [h4, f6]; omega)) (fun _ υ' _ hυ' => ?_)
        obtain ⟨m1, m2, m3, m4, m5, m6⟩ := hυ'
        refine ⟨h2.trans m3.s, Or.inr ⟨hno, hk, rfl, ?_⟩⟩
        rw [hce]
        exact ⟨m3.sm h1, m1, m2, by rw [m3.2.2.1 64 (by omega) (by omega) (by omega)]; exact h3, by rw [m3.2.2.1 65 (by omega) (by omega) (by omega)]; exact h4, m4, m5, m6⟩
      | succ d ih =>
        intro c υ hc h1 h2 h3 h4
        have hv : F + c < nU σ := by omega
        by_cases hbb : bh σ (F + c) ≤ F + c
        · obtain ⟨m1, m2, m3, m4, m5, m6, m7⟩ := base_M (τ := υ) hS hT hC (h2.1 104 (by omega)) (h2.1 105 (by omega)) (h2.1 118 (by omega)) (h2.1 121 (by omega)) (h2.1 122 (by omega)) hv hbb
          have hlt := bc_lt hbb (show F + c < E by omega)
          have b3 := bc_le (σ := σ) (u := F + c)
          have e : plL σ F (c + 1) = plL σ F c ++ [F + c] := plL_snoc hbb
          have hx0 : 0 ≤ plF σ (F + c) := by
            have := List.all_eq_true.mp hk (F + c) (plL_in (by omega) (by omega) hbb)
            rwa [decide_eq_true_iff] at this
          have hG : GPc σ (plp σ (F + c)) := by
            rcases pl_fact hS hT hv hbb with x | x
            · omega
            · exact x.2
          have am := t_addM (G := G) (q := plp σ (F + c)) hS hT hC h2 (chn c (by omega) hbb) hG h1
          simp only [plp] at am
          rw [m6] at am
          refine k_MO_setPlain_24 ?_
          rw [Int.toNat_natCast b, h2.1 113 (by omega), cb, Int.toNat_natCast (bc σ (F + c)), m1, m3, m5]
          refine ⟨by omega, ⟨by omega, by omega⟩, fun z => absurd z (by omega), fun _ => ⟨by omega, m2, m4, ?_⟩⟩
          rw [show plF σ (F + c) = ((plF σ (F + c)).toNat : Int) by omega]
          refine CJ.mono am (fun _ υ' _ hυ' => ?_)
          obtain ⟨z1, z2, z3, z4, z5⟩ := hυ'
          rw [show (bc σ (F + c) : Int) + 1 = ((bc σ (F + (c + 1)) : Nat) : Int) by rw [show F + (c + 1) = F + c + 1 by omega, m7]; omega]
          refine ih (c + 1) υ' (by omega) ?_ (h2.trans z2) (by rw [z5 64 (by omega) (by omega) (by omega)]; exact h3) (by rw [z5 65 (by omega) (by omega) (by omega)]; exact h4)
          unfold pls at z1 ⊢
          rw [e, List.map_append]
          exact z1
        · have eb : bc σ (F + (c + 1)) = bc σ (F + c) := cnt_f (bq_f hbb)
          have e : plL σ F (c + 1) = plL σ F c := plL_same hbb
          have := ih (c + 1) υ (by omega) (by unfold pls at h1 ⊢; rw [e]; exact h1) h2 h3 h4
          rw [eb] at this
          exact this
    exact loop (E - F) 0 υ2 (by omega) (by unfold pls plL; exact g1) g2 g4 g5
  · have hy : lkR σ F E = true ∨ plk σ F (E - F) = false := by
      by_cases q : lkR σ F E = true ∨ plk σ F (E - F) = false
      · exact q
      · rw [if_neg q] at z; exact absurd z (by decide)
    exact ⟨FrS.refl, Or.inl ⟨hy, rfl⟩⟩
