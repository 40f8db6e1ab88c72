/-! check: the class's side -/
theorem isF_J {σ τ : St} (hS : IS σ) (h12 : τ.2.1 1 2 = σ.2.1 8 17) (hrow : ∀ f, FOk σ f → τ.1 (176 + f) = σ.1 (176 + f)) {u : Nat} {l f : Int} (hf : rng f) (hl : 0 ≤ l ∧ l < 60) : p_CL_isFormOf τ f l (plc σ u l) ∧ (b_CL_isFormOf τ f l (plc σ u l) ↔ isF σ u l f = true) := by
  have n := hS.1
  unfold NumOk at n
  have pb := plc_b (σ := σ) (u := u) (l := l)
  unfold p_CL_isFormOf b_CL_isFormOf isF
  rw [h12, decide_eq_true_iff]
  refine ⟨⟨hf, fun _ => ⟨by omega, by omega⟩, fun z => ⟨by omega, ⟨by omega, by omega⟩, fun _ => ⟨by omega, by omega⟩⟩⟩, ?_⟩
  constructor
  · rintro ⟨z1, z2, z3⟩
    have hfo : FOk σ f.toNat := by unfold FOk; omega
    rw [hrow _ hfo] at z2 z3
    obtain ⟨a, b, -⟩ := hS.2.2.2.2.2.2.2.1 f.toNat hfo
    exact ⟨z1, by rw [← z2]; exact a.symm, by rw [← z3]; exact b.symm⟩
  · rintro ⟨z1, z2, z3⟩
    have hfo : FOk σ f.toNat := by unfold FOk; omega
    rw [hrow _ hfo]
    obtain ⟨a, b, -⟩ := hS.2.2.2.2.2.2.2.1 f.toNat hfo
    exact ⟨z1, by rw [← z2]; exact a, by rw [← z3]; exact b⟩
theorem clo_J {σ υ : St} {L N k : Nat} {ps : List Pc} (hLJ : LJ σ L ps υ) (hN : υ.2.1 3 0 = N) (hN2 : N ≤ 260) (hk : k ≤ 240) : p_CL_closedBy υ L k ∧ f_CL_closedBy υ L k = clo σ N (υ.1 60) k ps := by
  have e2 : υ.2.1 L 2 = (tw σ ps : Int) := hLJ.2.1
  have e3 : υ.2.1 L 3 = tp σ ps := hLJ.2.2.1
  have i1 : ((k : Int) + 1).toNat = k + 1 := by omega
  constructor
  · unfold p_CL_closedBy
    rw [hN]
    refine ⟨⟨by omega, by omega⟩, fun z => ⟨by omega, fun _ => ⟨⟨by omega, by omega⟩, fun _ => ⟨by omega, fun _ => ⟨⟨by omega, by omega⟩, ?_⟩⟩⟩⟩⟩
    split
    · exact ⟨by decide, by decide⟩
    · exact ⟨by omega, by omega⟩
  · unfold f_CL_closedBy clo
    rw [hN, e2, e3, Int.toNat_natCast, i1]
    by_cases a : N ≤ k
    · rw [if_pos (show (N : Int) ≤ (k : Int) by omega), if_pos a]
    · rw [if_neg (show ¬ (N : Int) ≤ (k : Int) by omega), if_neg a]
      by_cases b : υ.1 60 k = (tw σ ps : Int)
      · rw [if_pos b, if_pos b]
        by_cases c : N ≤ k + 1
        · rw [if_pos (show (N : Int) ≤ (k : Int) + 1 by omega), if_pos c]
        · rw [if_neg (show ¬ (N : Int) ≤ (k : Int) + 1 by omega), if_neg c]
          by_cases d : υ.1 60 (k + 1) = tp σ ps
          · rw [if_pos d, if_pos d]
            by_cases e : N ≤ k + 2
            · rw [if_pos (show (N : Int) ≤ (k : Int) + 2 by omega), if_pos e]
            · rw [if_neg (show ¬ (N : Int) ≤ (k : Int) + 2 by omega), if_neg e]
          · rw [if_neg d, if_neg d]
      · rw [if_neg b, if_neg b]
theorem isS_J {σ υ : St} {E u st L : Nat} {fr : Int} {ps : List Pc} {l f s : Int} (bb2 : b_CL_isBehindBar υ L u ↔ BBp σ ps u) (e65 : υ.1 65 (u : Int).toNat = 0 ↔ us σ u ≠ 6) (hRl : Rl σ E u st fr ps) (hu : u < E) (hfr : fr = 0 ∨ fr = 1) (hm0 : 0 ≤ σ.1 102 f.toNat) : (0 ≤ s ∧ s ≤ (if ¬ (υ.1 65 (u : Int).toNat = 0 ∧ (fr = 0 ∨ b_CL_isBehindBar υ L u)) then σ.1 102 f.toNat else (0 : Int))) ↔ isS σ u st l f s = true := by
  have hstill : (υ.1 65 (u : Int).toNat = 0 ∧ (fr = 0 ∨ b_CL_isBehindBar υ L u)) ↔ (us σ u ≠ 6 ∧ 0 < st) := by
    rw [e65, bb2]
    constructor
    · rintro ⟨y1, y2⟩
      obtain ⟨r1, r2⟩ := hRl hu y1
      refine ⟨y1, ?_⟩
      rcases y2 with y2 | y2
      · have : ¬ st ≤ 1 := fun w => by have := r1.mpr w; omega
        omega
      · have := r2.mp y2; omega
    · rintro ⟨y1, y2⟩
      obtain ⟨r1, r2⟩ := hRl hu y1
      refine ⟨y1, ?_⟩
      by_cases y3 : st ≤ 1
      · exact Or.inr (r2.mpr (by omega))
      · left
        rcases hfr with w | w
        · exact w
        · exact absurd (r1.mp w) y3
  unfold isS
  rw [decide_eq_true_iff]
  by_cases y : υ.1 65 (u : Int).toNat = 0 ∧ (fr = 0 ∨ b_CL_isBehindBar υ L u)
  · rw [if_neg (fun w => w y)]
    obtain ⟨y1, y2⟩ := hstill.mp y
    clear hstill y bb2 e65 hRl
    constructor
    · intro w
      have e0 : s = 0 := by omega
      rw [e0]
      refine ⟨⟨by omega, by omega⟩, ?_⟩
      unfold sbA
      rw [if_neg y1, if_neg (fun w => absurd w.1 (by decide))]
      split <;> split <;> omega
    · rintro ⟨w1, w2⟩
      refine ⟨w1.1, ?_⟩
      rcases Int.lt_or_le 0 s with y3 | y3
      · exfalso
        unfold sbA at w2
        rw [if_neg y1, if_pos ⟨by omega, y2⟩] at w2
        omega
      · exact y3
  · rw [if_pos y]
    have y' := fun w => y (hstill.mpr w)
    clear hstill y bb2 e65 hRl
    constructor
    · intro w
      refine ⟨w, ?_⟩
      unfold sbA
      by_cases y1 : us σ u = 6
      · rw [if_pos y1]; omega
      · rw [if_neg y1, if_neg (fun w => y' ⟨y1, w.2⟩)]
        split <;> split <;> omega
    · exact fun w => w.1
theorem t_setBy {G : GT} {σ τ : St} (hS : IS σ) (hT : IT σ) (hU : UNx σ σ) (hF : Fr WF σ τ) {L N : Nat} (hL : isL L) (hN : σ.2.1 3 0 = N) (hN2 : N ≤ 260) (hrg : ∀ i, rng (σ.1 60 i)) {F E : Nat} (hFE : F < E) (hE : Bnd σ E) (hb : bh σ F ≤ F) {R : Int × List Pc} (hR : ck σ N (σ.1 60) E 80 0 F 0 [] = R) : CJ G m_CL_setBy [O 3, I F, I ((E : Int) - 1), O 4, O L] τ (fun r υ => Fr (WLn L) τ υ ∧ r = R.1 ∧ (R.1 = -6 → LJ σ L R.2 υ ∧ Chn σ F R.2 E ∧ υ.2.1 L 4 = up σ F ∧ υ.2.1 L 5 = la σ (E - 1))) := by
  have n := hS.1
  unfold NumOk at n
  have n8 := nU_le hT
  have E8 := hE.1
  have hL2 : L = 9 ∨ L = 28 := hL
  have hUτ := WF_U hU hF
  refine CJ.go (fun _ => k_CL_setBy_0 hL (CJ.mono (t_lnBegin hL hUτ hFE hE.1 n8) (fun _ υ0 _ h0 => ?_)))
  obtain ⟨z1, z2, z3, z4⟩ := h0
  have loop : ∀ (m k u st : Nat) (fr : Int) (ps : List Pc) (υ : St), ps.length + m = 80 → k = 3 * ps.length → Chn σ F ps u → u ≤ E → LJ σ L ps υ → Fr (WLn L) τ υ → υ.2.1 L 4 = up σ F → υ.2.1 L 5 = la σ (E - 1) → (fr = 0 ∨ fr = 1) → st < 4 → Rl σ E u st fr ps → ck σ N (σ.1 60) E m k u st ps = R → a_CL_setBy_25 G L ((E : Int) - 1) fr k u ps.length υ (fun r υ => Fr (WLn L) τ υ ∧ r = R.1 ∧ (R.1 = -6 → LJ σ L R.2 υ ∧ Chn σ F R.2 E ∧ υ.2.1 L 4 = up σ F ∧ υ.2.1 L 5 = la σ (E - 1))) := by
    intro m
    induction m with
    | zero =>
      intro k u st fr ps υ hm hk hch huE hLJ hFr h4 h5 hfr hst hRl hck
      have hlen := Chn_len hch
      have hFW : Fr WF σ υ := hF.trans (hFr.mono (fun x hx => WLn_WF hL hx))
      have e3 : υ.2.1 3 0 = (N : Int) := by rw [(hFW.1 3 (by unfold WF; omega)).2]; exact hN
      have e60 : υ.1 60 = σ.1 60 := (hFW.1 60 (by unfold WF; omega)).1
      obtain ⟨c1, c2⟩ := clo_J hLJ e3 hN2 (show k ≤ 240 by omega)
      have hR1 : R = (clo σ N (σ.1 60) k ps, ps) := hck.symm
      have huE' : u = E := by omega
      refine k_CL_setBy_25 hL ⟨⟨by omega, by omega⟩, fun _ => ⟨c1, hFr, ?_, fun _ => ?_⟩, fun z => absurd z (by omega)⟩
      · rw [c2, e60, hR1]
      · rw [hR1]
        rw [huE'] at hch
        exact ⟨hLJ, hch, h4, h5⟩
    | succ m ih =>
      intro k u st fr ps υ hm hk hch huE hLJ hFr h4 h5 hfr hst hRl hck
      have hFW : Fr WF σ υ := hF.trans (hFr.mono (fun x hx => WLn_WF hL hx))
      have e3 : υ.2.1 3 0 = (N : Int) := by rw [(hFW.1 3 (by unfold WF; omega)).2]; exact hN
      have e60 : υ.1 60 = σ.1 60 := (hFW.1 60 (by unfold WF; omega)).1
      have e49 : υ.1 49 = σ.1 49 := (hFW.1 49 (by unfold WF; omega)).1
      have e50 : υ.1 50 = σ.1 50 := (hFW.1 50 (by unfold WF; omega)).1
      have hU' := WF_U hU hFW
      obtain ⟨c1, c2⟩ := clo_J hLJ e3 hN2 (show k ≤ 240 by omega)
      have i1 : ((k : Int) + 1).toNat = k + 1 := by omega
      have i2 : ((k : Int) + 2).toNat = k + 2 := by omega
      refine k_CL_setBy_25 hL ?_
      by_cases q : E ≤ u
      · have hR1 : R = (clo σ N (σ.1 60) k ps, ps) := by rw [← hck]; unfold ck; rw [if_pos q]
        refine ⟨⟨by omega, by omega⟩, fun z => absurd z (by omega), fun _ => ⟨⟨by omega, by omega⟩, ⟨by omega, by omega⟩, fun _ => ⟨c1, hFr, ?_, fun _ => ?_⟩, fun z => absurd z (by omega)⟩⟩
        · rw [c2, e60, hR1]
        · rw [hR1]
          rw [show u = E by omega] at hch
          exact ⟨hLJ, hch, h4, h5⟩
      · have hu : u < nU σ := by omega
        refine ⟨⟨by omega, by omega⟩, fun z => absurd z (by omega), fun _ => ⟨⟨by omega, by omega⟩, ⟨by omega, by omega⟩, fun z => absurd z (by omega), fun _ => ?_⟩⟩
        rw [e3, e60, Int.toNat_natCast k]
        unfold ck at hck
        rw [if_neg q] at hck
        have fail : ∀ x : Int, 0 ≤ x → R = (x, ps) → Fr (WLn L) τ υ ∧ x = R.1 ∧ (R.1 = -6 → LJ σ L R.2 υ ∧ Chn σ F R.2 E ∧ υ.2.1 L 4 = up σ F ∧ υ.2.1 L 5 = la σ (E - 1)) := fun x hx e => by
          rw [e]
          exact ⟨hFr, rfl, fun z => absurd z (by show ¬ x = -6; omega)⟩
        refine ⟨⟨by omega, by omega⟩, fun z => ?_, fun z => ⟨by omega, ?_⟩⟩
        · rw [if_pos (by omega)] at hck
          exact fail k (by omega) hck.symm
        · rw [if_neg (by omega)] at hck
          refine CJ.mono (t_kind hS hT hU' e49 hu (hrg k)) (fun r υ' _ hk' => ?_)
          obtain ⟨ev, hor⟩ := hk'
          rw [ev, e3, e60, i1, i2]
          rcases hor with ⟨kn, hr⟩ | ⟨l, kn, hr⟩
          · rw [kn] at hck
            exact ⟨fun z => absurd hr z, fun _ => fail k (by omega) hck.symm⟩
          · rw [kn] at hck
            simp only [Option.elim] at hck
            obtain ⟨hmem, hlen⟩ := klen_some kn
            obtain ⟨hbu, hl0, hle, -, cr⟩ := kl_mem hS hT hu hmem
            have hnE := cr E (by omega) hE.1 hE.2
            rw [hr]
            refine ⟨fun _ => ⟨⟨by omega, by omega⟩, fun z2 => ?_, fun z2 => ?_⟩, fun z => absurd z (by omega)⟩
            · rw [if_pos (Or.inl (by omega))] at hck
              exact fail _ (by omega) hck.symm
            · obtain ⟨pl1, pl2⟩ := place_J hS hT hU' e49 hu hl0 hle
              have f12 : υ.2.1 1 2 = σ.2.1 8 17 := by rw [(hFW.1 1 (by unfold WF; omega)).2]; omega
              have hrow : ∀ f, FOk σ f → υ.1 (176 + f) = σ.1 (176 + f) := fun f hf => by
                have := (form_b hS hf).1
                exact (hFW.1 (176 + f) (by unfold WF; omega)).1
              obtain ⟨if1, if2⟩ := isF_J (u := u) hS f12 hrow (hrg (k + 1)) (show 0 ≤ l ∧ l < 60 by omega)
              rw [pl2]
              have r65 : υ.1 65 u = if us σ u = 6 then 1 else 0 := (hU'.2.2.2.1 u hu).2.2.2.2.1
              obtain ⟨bb1, bb2⟩ := bar_J hS hT hL hU' e50 (fun p hp => (Chn_G hch p hp).1) (by omega) hLJ hu
              have e65 : υ.1 65 (u : Int).toNat = 0 ↔ us σ u ≠ 6 := by
                rw [Int.toNat_natCast u, r65]
                by_cases y : us σ u = 6
                · rw [if_pos y]; exact ⟨fun w => absurd w (by decide), fun w => absurd y w⟩
                · rw [if_neg y]; exact ⟨fun _ => y, fun _ => rfl⟩
              refine ⟨by omega, pl1, if1, fun hf => ?_, fun hf => ?_⟩
              · have hfT := if2.mp hf
                have hfo : FOk σ (σ.1 60 (k + 1)).toNat := by
                  have := hf.1
                  unfold FOk
                  omega
                have fb := form_b hS hfo
                obtain ⟨f, hfn⟩ : ∃ f : Nat, σ.1 60 (k + 1) = f := ⟨(σ.1 60 (k + 1)).toNat, by have := hf.1; omega⟩
                have er7 : υ.1 (176 + (σ.1 60 (k + 1)).toNat) 7 = σ.1 102 (σ.1 60 (k + 1)).toNat := by rw [hrow _ hfo]; exact (form_J hS hfo).2.2.2.2.2.1
                rw [er7]
                refine ⟨by omega, fun _ => ⟨by rcases hfr with w | w <;> rw [w] <;> exact ⟨by decide, by decide⟩, fun _ => bb1⟩, fun _ => by omega, ⟨by omega, by omega⟩, fun z3 => ?_, fun z3 => ?_⟩
                · rw [if_neg (fun w => by rcases w with w | w; · omega
                                          · rw [hfT] at w; exact absurd w (by decide)), if_pos (Or.inl (by omega))] at hck
                  exact fail _ (by omega) hck.symm
                · rw [if_neg (fun w => by rcases w with w | w; · omega
                                          · rw [hfT] at w; exact absurd w (by decide))] at hck
                  have hm0 : 0 ≤ σ.1 102 (σ.1 60 (k + 1)).toNat ∧ σ.1 102 (σ.1 60 (k + 1)).toNat ≤ 12 := fb.2.2.2.2.2.2.1
                  have hisS := isS_J (l := l) (f := σ.1 60 (k + 1)) (s := σ.1 60 (k + 2)) bb2 e65 hRl (show u < E by omega) hfr hm0.1
                  clear fb bb1 bb2 if1 if2 hf pl1
                  refine ⟨by omega, fun _ => ?_, fun hs => ?_, fun hs => ?_⟩
                  · split
                    · exact ⟨by omega, by omega⟩
                    · exact ⟨by decide, by decide⟩
                  · have hsT := hisS.mp hs
                    obtain ⟨s, hsn⟩ : ∃ s : Nat, σ.1 60 (k + 2) = s := ⟨(σ.1 60 (k + 2)).toNat, by have := hs.1; clear hs hisS hck; omega⟩
                    clear hs hisS
                    rw [if_neg (fun w => by rcases w with w | w; · omega
                                            · rw [hsT] at w; exact absurd w (by decide))] at hck
                    unfold isS at hsT
                    unfold isF at hfT
                    rw [decide_eq_true_iff] at hsT hfT
                    rw [hfn, hsn] at hsT
                    rw [hfn] at hfT
                    rw [Int.toNat_natCast] at hsT hfT
                    rw [Int.toNat_natCast] at hsT
                    rw [hfn, hsn, Int.toNat_natCast, Int.toNat_natCast] at hck
                    have hfo2 : FOk σ f := by rw [hfn, Int.toNat_natCast] at hfo; exact hfo
                    have hq : GPc σ ((u, l, f, s) : Pc) := ⟨hu, hmem, hfo2, hsT.1.2, hfT.2.1, hfT.2.2⟩
                    have s12 : s ≤ 12 := by
                      rw [hfn, Int.toNat_natCast] at hm0
                      have := hsT.1.2
                      omega
                    rw [hfn, hsn]
                    refine CJ.mono (t_addPiece (q := ((u, l, f, s) : Pc)) hS hL hrow (fun p hp => (Chn_G hch p hp).1) hq (by omega) n8 hLJ) (fun _ υ2 _ hυ2 => ?_)
                    obtain ⟨y1, y2, y3, y4⟩ := hυ2
                    have x60 : υ2.1 60 = σ.1 60 := by rw [(y2.1 60 (by unfold WLn; omega)).1]; exact e60
                    have x49 : υ2.1 49 l.toNat = (ln3 σ l.toNat : Int) := by rw [(y2.1 49 (by unfold WLn; omega)).1, e49]; exact ln3_J hS (by omega)
                    rw [x60, hsn, x49]
                    refine ⟨fun _ => by rcases hfr with w | w <;> rw [w] <;> exact ⟨by decide, by decide⟩, by omega, ?_⟩
                    have efr : (if ¬ υ.1 65 (u : Int).toNat = 0 ∨ fr ≠ 0 ∧ (s : Int) = 0 then (1 : Int) else 0) = (if (¬ us σ u ≠ 6) ∨ (fr ≠ 0 ∧ s = 0) then 1 else 0) := by
                      refine ite_iff ?_
                      rw [e65]
                      have : ((s : Int) = 0) ↔ s = 0 := by omega
                      rw [this]
                    rw [efr, show (k : Int) + 3 = ((k + 3 : Nat) : Int) by omega, show (u : Int) + (ln3 σ l.toNat : Int) = ((u + ln3 σ l.toNat : Nat) : Int) by omega, show (ps.length : Int) + 1 = (((ps ++ [((u, l, f, s) : Pc)]).length : Nat) : Int) by simp]
                    have hch2 : Chn σ F (ps ++ [((u, l, f, s) : Pc)]) (u + ln3 σ l.toNat) := Chn_snoc hq hch
                    have sb4 := sbA_4 (σ := σ) (u := u) (st := st) (s := s) (l := l)
                    refine ih (k + 3) (u + ln3 σ l.toNat) (sbA σ u st l s).toNat _ (ps ++ [(u, l, f, s)]) υ2 (by simp; omega) (by simp; omega) hch2 hnE y1 (hFr.trans y2) ?_ ?_ ?_ (by omega) (Rl_step hS hT hE.1 (by omega) hRl hfr hmem hst hsT.2) hck
                    · exact (show υ2.2.1 L 4 = υ.2.1 L 4 from y3).trans h4
                    · exact (show υ2.2.1 L 5 = υ.2.1 L 5 from y4).trans h5
                    · split
                      · exact Or.inr rfl
                      · exact Or.inl rfl
                  · have hsF : isS σ u st l (σ.1 60 (k + 1)) (σ.1 60 (k + 2)) = false := by
                      cases y : isS σ u st l (σ.1 60 (k + 1)) (σ.1 60 (k + 2)) with
                      | false => rfl
                      | true => exact absurd (hisS.mpr y) hs
                    rw [if_pos (Or.inr hsF)] at hck
                    exact fail _ (by omega) hck.symm
              · have hfF : isF σ u l (σ.1 60 (k + 1)) = false := by
                  cases y : isF σ u l (σ.1 60 (k + 1)) with
                  | false => rfl
                  | true => exact absurd (if2.mpr y) hf
                rw [if_pos (Or.inr hfF)] at hck
                exact fail _ (by omega) hck.symm
  refine loop 80 0 F 0 1 [] υ0 rfl rfl rfl (by omega) z1 z2 z3 z4 (Or.inr rfl) (by decide) (fun _ _ => ⟨⟨fun _ => by decide, fun _ => rfl⟩, ⟨fun ⟨p, hp, _⟩ => by simp at hp, fun z => by rcases z with z | z <;> exact absurd z (by decide)⟩⟩) hR
