/-! take -/
def WSl (L k : Nat) : Prop := k = 5 ∨ WLn L k ∨ (74 ≤ k ∧ k ≤ 76) ∨ 376 ≤ k
def lnp (σ : St) (W x y : Nat) : List Pc := if pln σ W x y = true then pls σ (wfu σ x) (wE σ y - wfu σ x) else trc σ (wE σ y) 81 (wfu σ x) W 0
theorem WF_U {σ τ : St} (hU : UNx σ σ) (hF : Fr WF σ τ) : UNx σ τ := UNx_keep hU (fun k k1 k2 => (hF.1 k (by unfold WF; omega)).1) (hF.1 4 (by unfold WF; omega)).2
theorem t_isPlain {G : GT} {σ τ : St} (hS : IS σ) (hT : IT σ) (hU : UNx σ σ) (hF : Fr WF σ τ) {x y W : Nat} (hxy : x ≤ y) (hy : y < nW σ) (hW : W ≤ 300) : CJ G m_PA_isPlain [O 6, I x, I y, I W] τ (fun r υ => υ = τ ∧ r = if pln σ W x y = true then 1 else 0) := by
  have hU' := WF_U hU hF
  have nw8 := nW_le hT
  have n8 := nU_le hT
  have e43 : τ.2.1 4 3 = (nW σ : Int) := hU'.2.1
  obtain ⟨f1, f2, f3, f4, f5, f6, f7, f8, f9⟩ := word_rng hS hT hxy hy
  have E8 := f2.1
  have q66 : τ.1 66 x = (wfu σ x : Int) := (hU'.2.2.2.2 x (by omega)).1
  have q67 : τ.1 67 y = (wE σ y : Int) - 1 := by
    rw [show τ.1 67 y = (wtu σ y : Int) from (hU'.2.2.2.2 y hy).2]
    have e : wtu σ y = wE σ y - 1 := rfl
    rw [e]
    omega
  refine CJ.go (fun _ => k_PA_isPlain_0 ?_)
  rw [e43, Int.toNat_natCast x, Int.toNat_natCast y, q66, q67]
  refine ⟨⟨by omega, by omega⟩, ⟨by omega, by omega⟩, fun z => ⟨by omega, by omega, CJ.mono (t_plainWidth hS hT hU' (hF.1 49 (by unfold WF; omega)).1 (hF.1 55 (by unfold WF; omega)).1 (hF.1 56 (by unfold WF; omega)).1 (fun f hf => (hF.1 (176 + f) (by have := (form_b hS hf).1; unfold WF; omega)).1) (Nat.le_of_lt f1) f2.1) (fun r υ _ hυ => ?_)⟩, fun z => ⟨rfl, ?_⟩⟩
  · rw [hυ.2]
    refine ⟨fun _ => ⟨by omega, by omega⟩, hυ.1, ?_⟩
    have hz : y + 1 = nW σ := by omega
    by_cases hk2 : lkR σ (wfu σ x) (wE σ y) = true ∨ plk σ (wfu σ x) (wE σ y - wfu σ x) = false
    · rw [if_pos hk2, if_neg (fun q => q.1 rfl), if_neg (fun q => ?_)]
      unfold pln at q
      rw [decide_eq_true_iff] at q
      rcases hk2 with y1 | y1
      · rw [q.2.2.1] at y1; exact absurd y1 (by decide)
      · rw [q.2.1] at y1; exact absurd y1 (by decide)
    · have hno : lkR σ (wfu σ x) (wE σ y) = false := by
        cases q : lkR σ (wfu σ x) (wE σ y) with
        | false => rfl
        | true => exact absurd (Or.inl q) hk2
      have hkk : plk σ (wfu σ x) (wE σ y - wfu σ x) = true := by
        cases q : plk σ (wfu σ x) (wE σ y - wfu σ x) with
        | true => rfl
        | false => exact absurd (Or.inr q) hk2
      rw [if_neg hk2]
      by_cases q : tw σ (pls σ (wfu σ x) (wE σ y - wfu σ x)) ≤ W
      · rw [if_pos ⟨by omega, by omega⟩, if_pos (by unfold pln; rw [decide_eq_true_iff]; exact ⟨hz, hkk, hno, q⟩)]
      · rw [if_neg (fun p => q (by omega)), if_neg (fun p => ?_)]
        unfold pln at p
        rw [decide_eq_true_iff] at p
        exact q p.2.2.2
  · rw [if_neg (fun p => ?_)]
    unfold pln at p
    rw [decide_eq_true_iff] at p
    omega
theorem pln_is {σ : St} {W x y : Nat} : pln σ W x y = true ↔ (y + 1 = nW σ ∧ plk σ (wfu σ x) (wE σ y - wfu σ x) = true ∧ lkR σ (wfu σ x) (wE σ y) = false ∧ tw σ (pls σ (wfu σ x) (wE σ y - wfu σ x)) ≤ W) := by
  unfold pln
  rw [decide_eq_true_iff]
theorem pln_no {σ : St} {W x y : Nat} (hset : pln σ W x y = false → lkR σ (wfu σ x) (wE σ y) = false ∧ LL σ (wE σ y) (wfu σ x) W 0 < NV) : lkR σ (wfu σ x) (wE σ y) = false := by
  cases q : pln σ W x y with
  | true => exact (pln_is.mp q).2.2.1
  | false => exact (hset q).1
theorem t_setLine {G : GT} {σ τ : St} (hS : IS σ) (hT : IT σ) (hU : UNx σ σ) (hF : Fr WF σ τ) {L : Nat} (hL : isL L) {x y W k : Nat} (hk : k < 80) (hxy : x ≤ y) (hy : y < nW σ) (hW : W ≤ 300) (h77 : τ.1 77 k = x) (h78 : τ.1 78 k = (y : Int) + 1 - x) (h63 : τ.2.1 6 3 = W) (hset : pln σ W x y = false → lkR σ (wfu σ x) (wE σ y) = false ∧ LL σ (wE σ y) (wfu σ x) W 0 < NV) : CJ G m_PA_setLine [O 6, I k, O L] τ (fun _ υ => LJ σ L (lnp σ W x y) υ ∧ Chn σ (wfu σ x) (lnp σ W x y) (wE σ y) ∧ Fr (WSl L) τ υ ∧ Fr WF σ υ ∧ υ.2.1 L 4 = wa σ x ∧ υ.2.1 L 5 = we σ y) := by
  have hU' := WF_U hU hF
  have nw8 := nW_le hT
  have n8 := nU_le hT
  have hL2 : L = 9 ∨ L = 28 := hL
  obtain ⟨f1, f2, f3, f4, f5, f6, f7, f8, f9⟩ := word_rng hS hT hxy hy
  have E8 := f2.1
  have q66 : τ.1 66 x = (wfu σ x : Int) := (hU'.2.2.2.2 x (by omega)).1
  have q67 : τ.1 67 y = (wE σ y : Int) - 1 := by
    rw [show τ.1 67 y = (wtu σ y : Int) from (hU'.2.2.2.2 y hy).2]
    have e : wtu σ y = wE σ y - 1 := rfl
    rw [e]
    omega
  have lup := (la_up (show wE σ y - 1 < nU σ by omega)).1
  rw [show wE σ y - 1 + 1 = wE σ y by omega, f6] at lup
  have hno := pln_no hset
  refine CJ.go (fun _ => k_PA_setLine_0 hL ?_)
  have ey : ((x : Int) + ((y : Int) + 1 - x)) - 1 = (y : Int) := by omega
  rw [Int.toNat_natCast k, h77, h78, ey, Int.toNat_natCast x, Int.toNat_natCast y, q66, q67, h63]
  refine ⟨by omega, by omega, by omega, CJ.mono (t_isPlain hS hT hU hF hxy hy hW) (fun r u11 _ hu => ?_)⟩
  rw [hu.1, hu.2, h63]
  cases hp : pln σ W x y with
  | true =>
    rw [if_pos rfl]
    obtain ⟨p1, p2, p3, p4⟩ := pln_is.mp hp
    refine ⟨fun q => absurd q (by decide), fun _ => CJ.mono (t_lnPlain hS hT hL hU' hF f1 f2.1 p2) (fun _ υ _ hυ => ?_)⟩
    obtain ⟨g1, g2, g3, g4⟩ := hυ
    have hch : Chn σ (wfu σ x) (pls σ (wfu σ x) (wE σ y - wfu σ x)) (wE σ y) := pls_chn hS hT (bnd_bh hS hT f2) E8 (wE σ y - wfu σ x) (wfu σ x) (wfu σ x) (by omega) (Nat.le_refl _) (by omega) f3 (fun x x1 x2 => absurd x1 (by omega)) p2
    have e4 : υ.2.1 L 4 = (up σ (wfu σ x) : Int) := g3
    have e5 : υ.2.1 L 5 = (la σ (wE σ y - 1) : Int) := g4
    unfold lnp
    rw [hp, if_pos rfl]
    refine ⟨g1, hch, g2.mono (fun k hk => Or.inr (Or.inl hk)), hF.trans (g2.mono (fun k hk => WLn_WF hL hk)), by rw [e4, f4], by rw [e5]; omega⟩
  | false =>
    rw [if_neg (by decide)]
    refine ⟨fun _ => ?_, fun q => absurd rfl q⟩
    obtain ⟨-, hfin⟩ := hset hp
    refine CJ.mono (t_beginBehind (lim := W) hS hT hF f2 hW) (fun _ s1 _ h1 => ?_)
    refine CJ.mono (t_goBack hS hT hU f2 hW (Nat.le_of_lt f1) (Nat.le_refl _) h1.1) (fun _ s2 _ h2 => ?_)
    have fr2 : Fr WFi τ s2 := h1.2.trans h2.2
    rw [show s2.2.1 6 3 = (W : Int) by rw [(fr2.1 6 (by unfold WFi; omega)).2]; exact h63]
    refine CJ.mono (t_trace hS hT hU hL h2.1 f1 f3 f2 hW (Nat.le_refl W) hno hfin) (fun _ υ _ hυ => ?_)
    obtain ⟨g1, hch, ptw, ptp, hFr, pfr, hp22, g3, g4⟩ := hυ
    have e4 : υ.2.1 L 4 = (up σ (wfu σ x) : Int) := g3
    have e5 : υ.2.1 L 5 = (la σ (wE σ y - 1) : Int) := g4
    unfold lnp
    rw [hp, if_neg (by decide)]
    refine ⟨g1, hch, ⟨fun k hk => ?_, by rw [hp22]; exact fr2.2⟩, hFr, by rw [e4, f4], by rw [e5]; omega⟩
    unfold WSl at hk
    have a := pfr k (by omega) (fun q => hk (Or.inr (Or.inl q)))
    have b := fr2.1 k (by unfold WFi; omega)
    exact ⟨a.1.trans b.1, a.2.trans b.2⟩
theorem RP.refl {s : St} : RP s s := ⟨fun _ _ => rfl, fun _ _ => rfl, fun _ _ => rfl, rfl⟩
theorem Ab_lnp {σ τ : St} (h : Ab σ τ) : lnp τ = lnp σ := by funext W x y; unfold lnp; rw [Ab_pln h, Ab_pls h, Ab_wfu h, Ab_wE h, Ab_trc h]
theorem so_take (G : GT) : SO_take G Inv := by
  intro k τ hk h v hrv
  have w := Inv_w h
  obtain ⟨hS, hT, -, hH⟩ := id w.1
  have fl := Fl_is h.2.1
  refine CJ.go (fun _ => k_JS_take_0 ⟨fun hb => ?_, fun hb => ?_⟩)
  · have hb' : τ.2.1 0 13 = τ.2.1 0 9 := hb
    obtain ⟨W, ls, b1, b2, b3, b4, b5, b6, b7, b8⟩ := w.2.2.2.2.2.1 hb'
    have u : τ.2.1 0 10 = τ.2.1 0 9 := w.2.1.2.2.2.2.1 hb'
    have hU := w.2.2.1.1 u
    have ic : τ.2.1 8 26 = 1 := (Fl_Fm.mp h.2.1).2 u
    have hC := w.2.2.1.2 ic
    have n8 := nU_le hT
    have nw8 := nW_le hT
    have hL : isL τ.2.2.2 ∧ τ.2.2.1 ≠ τ.2.2.2 := by
      rcases hH with q | q <;> rw [q] <;> exact ⟨by unfold isL; omega, by omega⟩
    have hL2 : τ.2.2.2 = 9 ∨ τ.2.2.2 = 28 := hL.1
    rw [b6]
    refine ⟨hrv, fun _ => ⟨by omega, by omega⟩, fun c => ?_, fun c => ?_⟩
    · obtain ⟨i, rfl⟩ : ∃ i : Nat, v = i := ⟨v.toNat, by omega⟩
      have hi : i < ls.length := by omega
      obtain ⟨⟨x, y⟩, hp⟩ : ∃ p, ls[i]? = some p := ⟨ls[i], List.getElem?_eq_getElem hi⟩
      obtain ⟨c1, c2, c3, c4, c5, c6, c7, c8, c9, c10, c11, c12, c13⟩ := b8 i (x, y) hp
      have c1' : x ≤ y := c1
      have c2' : y < nW τ := c2
      obtain ⟨f1, f2, f3, f4, f5, f6, f7, f8, f9⟩ := word_rng hS hT c1' c2'
      have E8 := f2.1
      have hno := pln_no c3
      refine CJ.mono (t_setLine hS hT hU Fr.refl hL.1 (by omega) c1' c2' b2 c4 c5 b4 c3) (fun _ υ1 _ h1 => ?_)
      obtain ⟨p1, hch, p2, hFr, p3, p4⟩ := h1
      have hp22 : υ1.2.2 = τ.2.2 := p2.2
      have hll : (lnp τ W x y).length ≤ 80 := by have := Chn_len hch; omega
      refine CJ.mono (t_takeSpare hS hT hU (by rw [hp22]; exact hL.1) (by rw [hp22]; exact hL.2) hFr hch f2.1 hno (by rw [hp22]; exact p1)) (fun _ s _ hs => ?_)
      rw [hp22] at hs
      obtain ⟨z1, z2, z3, z4, z5, z6, z7, z8, z9⟩ := hs
      have w0 : υ1.2.1 0 = τ.2.1 0 := (p2.1 0 (by unfold WSl WLn; omega)).2
      have sL : s.2.1 τ.2.2.2 = υ1.2.1 τ.2.2.2 := z4 _ (by omega) (by omega)
      have cp : CP τ s τ.2.2.2 (lnp τ W x y) (wa τ x) (we τ y) := by
        refine ⟨fun k hk => ?_, fun k hk => ?_, fun j hj => ?_, z7, ?_, z2, z1, ?_, ?_, fun q hq => (Chn_G hch q hq).1, hll, z8, z9, f7, f8⟩
        · rw [z3 k (by omega)]; exact (p2.1 k (by unfold WSl WLn; omega)).1
        · rw [z4 k (by omega) (by omega)]; exact (p2.1 k (by unfold WSl WLn; omega)).2
        · rw [z5 j (show j ≠ 11 by omega), w0]
        · rw [z6, w0]
        · rw [sL]; exact p3
        · rw [sL]; exact p4
      have e1 : s.2.2.1 = τ.2.2.2 := by rw [z7]
      rw [e1]
      refine ⟨hL.1, ?_⟩
      have ev : s.2.1 τ.2.2.2 2 = (tw τ (lnp τ W x y) : Int) := cp.j.2.1
      rw [ev]
      obtain ⟨mS, mT, m5, mC⟩ := cp.cs.mid w
      have ab1 := cp.same.ab.1
      have f8' : s.2.1 8 = τ.2.1 8 := cp.o 8 (by omega)
      have ics : s.2.1 8 26 = 1 := by rw [f8']; exact ic
      have hCs := mC ics
      have o0 : ∀ j, j ≠ 11 → s.2.1 0 j = τ.2.1 0 j := fun j hj => by rw [z5 j hj, w0]
      have hn : s.2.1 0 12 ≤ s.2.1 0 9 := by
        show s.2.1 0 12 ≤ s.2.1 0 9
        rw [o0 12 (by omega), o0 9 (by omega)]
        exact w.2.1.1.2.2.2.2.1
      have hni : s.2.1 8 91 = (if s.2.1 0 12 = s.2.1 0 9 then 1 else 0) := by
        show s.2.1 8 91 = (if s.2.1 0 12 = s.2.1 0 9 then 1 else 0)
        rw [f8', o0 12 (by omega), o0 9 (by omega)]
        exact w.2.1.2.1.2.1
      have hNB : NB s := NB_keep w.2.2.2.2.1 ab1 (fun j j1 j2 => by rw [f8']) (o0 9 (by omega)) (o0 12 (by omega)) (o0 15 (by omega)) (o0 16 (by omega))
      have r157 : s.1 157 i = (x : Int) := by rw [cp.a 157 (by omega)]; exact c6
      have r158 : s.1 158 i = (y : Int) := by rw [cp.a 158 (by omega)]; exact c7
      have r162 : s.1 162 i = (if pln τ W x y = true then 1 else 0) := by rw [cp.a 162 (by omega)]; exact c13
      have goal : ∀ υ, FrS s υ → FLx s (lnp τ W x y) (wa τ x) (we τ y) υ → CJ G m_MO_toHand [O 8] υ (fun _ u10 => (tw τ (lnp τ W x y) : Int) = u10.2.1 8 77 ∧ Inv (k + 1) u10) := fun υ fS q4 => by
        refine CJ.mono (t_toHand mS mT fS q4 hll f7 (by rw [Ab_tn ab1]; exact f8)) (fun _ ρ _ hρ => ?_)
        obtain ⟨hM, hI, fT⟩ := hρ
        have ew : ρ.2.1 8 77 = (tw s (lnp τ W x y) : Int) := hM.2.1
        exact ⟨by rw [ew, Ab_tw ab1], fin2 w u hL.1 rfl cp RP.refl ics hCs fS fT hI hM hn hni hNB⟩
      refine CJ.go (fun _ => k_MO_take_0 ?_)
      rw [f8', b7]
      refine ⟨fun _ => ⟨hrv, ⟨by omega, by omega⟩, fun _ => ?_, fun q => absurd q (by omega)⟩, fun q => absurd q (fl.2.2.1.mpr hb')⟩
      refine CJ.go (fun _ => k_MO_setLine_0 ?_)
      rw [Int.toNat_natCast i, r157, r158, r162, f8', b5]
      refine ⟨by omega, fun z => ?_, fun z => ?_⟩
      · have hp : pln τ W x y = false := by
          cases q : pln τ W x y with
          | false => rfl
          | true => rw [q, if_pos rfl] at z; exact absurd z (by decide)
        refine CJ.mono (t_fill mS mT hCs c1' (by rw [Ab_nW ab1]; exact c2') b2) (fun r υ _ hυ => ?_)
        obtain ⟨fS, hor⟩ := hυ
        rw [Ab_lkR ab1, Ab_wfu ab1, Ab_wE ab1, Ab_LL ab1, Ab_trc ab1, Ab_wa ab1, Ab_we ab1] at hor
        rcases hor with q | ⟨-, -, q3, q4⟩
        · exfalso
          rcases q.1 with y1 | y1
          · rw [hno] at y1; exact absurd y1 (by decide)
          · have := (c3 hp).2; have : LL τ (wE τ y) (wfu τ x) W 0 < NV := this; omega
        · rw [q3]
          refine ⟨Or.inr rfl, fun q => absurd q (by decide), fun _ => goal υ fS ?_⟩
          unfold lnp
          rw [hp, if_neg (by decide)]
          exact q4
      · have hp : pln τ W x y = true := by
          cases q : pln τ W x y with
          | true => rfl
          | false => rw [q, if_neg (by decide)] at z; exact absurd rfl z
        obtain ⟨g1, g2, g3, g4⟩ := pln_is.mp hp
        refine CJ.mono (t_setPlainM mS mT hCs c1' (by rw [Ab_nW ab1]; exact c2')) (fun r υ _ hυ => ?_)
        obtain ⟨fS, hor⟩ := hυ
        rw [Ab_lkR ab1, Ab_wfu ab1, Ab_wE ab1, Ab_plk ab1, Ab_pls ab1, Ab_wa ab1, Ab_we ab1] at hor
        rcases hor with q | ⟨-, -, q3, q4⟩
        · exfalso
          rcases q.1 with y1 | y1
          · rw [hno] at y1; exact absurd y1 (by decide)
          · rw [g2] at y1; exact absurd y1 (by decide)
        · rw [q3]
          refine ⟨Or.inr rfl, fun q => absurd q (by decide), fun _ => goal υ fS ?_⟩
          unfold lnp
          rw [hp, if_pos rfl]
          exact q4
    · refine CJ.go (fun _ => k_MO_take_0 ?_)
      rw [b7]
      exact ⟨fun _ => ⟨hrv, ⟨by omega, by omega⟩, fun q => absurd q c, fun _ => ⟨rfl, Inv_good.2.1 k τ h⟩⟩, fun q => absurd q (fl.2.2.1.mpr hb')⟩
  · have hb' : ¬ τ.2.1 0 13 = τ.2.1 0 9 := hb
    exact CJ.go (fun _ => k_MO_take_0 ⟨fun q => absurd (fl.2.2.1.mp q) hb', fun _ => ⟨rfl, Inv_good.2.1 k τ h⟩⟩)
