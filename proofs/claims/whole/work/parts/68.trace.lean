/-! the first choice that keeps the least price; the class's trace -/
def okO (σ : St) (E u w st : Nat) (o : Int × Nat × Nat) : Bool := decide (0 ≤ sbA σ u st o.1 o.2.2 ∧ wd σ o.2.1 o.2.2 ≤ w ∧ LL σ E (u + ln3 σ o.1.toNat) (w - wd σ o.2.1 o.2.2) (sbA σ u st o.1 o.2.2).toNat + cst σ o.2.1 o.2.2 = LL σ E u w st)
def trc (σ : St) (E : Nat) : Nat → Nat → Nat → Nat → List Pc
  | 0, _, _, _ => []
  | n + 1, u, w, st => if E ≤ u then [] else match (opt σ u).find? (okO σ E u w st) with
    | none => []
    | some o => (u, o) :: trc σ E n (u + ln3 σ o.1.toNat) (w - wd σ o.2.1 o.2.2) (sbA σ u st o.1 o.2.2).toNat
theorem trc_end {σ : St} {E n u w st : Nat} (h : E ≤ u) : trc σ E n u w st = [] := by
  cases n with
  | zero => rfl
  | succ n =>
    show (if E ≤ u then [] else _) = _
    rw [if_pos h]
theorem trc_step {σ : St} {E n u w st : Nat} {o : Int × Nat × Nat} (h : u < E) (ho : (opt σ u).find? (okO σ E u w st) = some o) : trc σ E (n + 1) u w st = (u, o) :: trc σ E n (u + ln3 σ o.1.toNat) (w - wd σ o.2.1 o.2.2) (sbA σ u st o.1 o.2.2).toNat := by
  show (if E ≤ u then [] else _) = _
  rw [if_neg (by omega), ho]
theorem fold_attain {σ : St} {u w st : Nat} {T : Nat → Nat → Nat → Int} : ∀ (l : List (Int × Nat × Nat)) (acc : Int), l.foldl (stp σ u T w st) acc = acc ∨ ∃ o ∈ l, 0 ≤ sbA σ u st o.1 o.2.2 ∧ wd σ o.2.1 o.2.2 ≤ w ∧ T (u + ln3 σ o.1.toNat) (w - wd σ o.2.1 o.2.2) (sbA σ u st o.1 o.2.2).toNat + cst σ o.2.1 o.2.2 = l.foldl (stp σ u T w st) acc
  | [], acc => Or.inl rfl
  | o :: l, acc => by
    rw [List.foldl_cons]
    rcases fold_attain l (stp σ u T w st acc o) with h | ⟨o', h1, h2⟩
    · rw [h]
      by_cases c : 0 ≤ sbA σ u st o.1 o.2.2 ∧ wd σ o.2.1 o.2.2 ≤ w
      · have e : stp σ u T w st acc o = min acc (T (u + ln3 σ o.1.toNat) (w - wd σ o.2.1 o.2.2) (sbA σ u st o.1 o.2.2).toNat + cst σ o.2.1 o.2.2) := by
          unfold stp
          rw [if_pos c]
        rw [e]
        rcases Int.le_total acc (T (u + ln3 σ o.1.toNat) (w - wd σ o.2.1 o.2.2) (sbA σ u st o.1 o.2.2).toNat + cst σ o.2.1 o.2.2) with q | q
        · left; omega
        · right
          exact ⟨o, List.mem_cons_self .., c.1, c.2, by omega⟩
      · left
        unfold stp
        rw [if_neg c]
    · right
      exact ⟨o', List.mem_cons_of_mem _ h1, h2⟩
theorem chs_ex {σ : St} {E u w st : Nat} (hu : u < E) (h : LL σ E u w st < NV) : ∃ o, (opt σ u).find? (okO σ E u w st) = some o ∧ o ∈ opt σ u ∧ okO σ E u w st o = true := by
  have hl := LL_step (σ := σ) (E := E) (u := u) (w := w) (st := st) hu
  rcases fold_attain (σ := σ) (u := u) (w := w) (st := st) (T := LL σ E) (opt σ u) NV with q | ⟨o, o1, o2, o3, o4⟩
  · rw [← hl] at q
    omega
  · have ok : okO σ E u w st o = true := by
      unfold okO
      rw [decide_eq_true_iff, hl]
      exact ⟨o2, o3, o4⟩
    cases hf : (opt σ u).find? (okO σ E u w st) with
    | none => exact absurd ok (by have := List.find?_eq_none.mp hf o o1; exact this)
    | some o' => exact ⟨o', rfl, List.mem_of_find?_eq_some hf, List.find?_some hf⟩
/-- states that make no difference here -/
def SEq (σ : St) (E u a b : Nat) : Prop := E ≤ u ∨ us σ u = 6 ∨ a = b ∨ (2 ≤ a ∧ 2 ≤ b)
theorem SEq_sb {σ : St} {E u a b s : Nat} {l : Int} (h : SEq σ E u a b) (hu : u < E) : sbA σ u a l s = sbA σ u b l s := by
  rcases h with q | q | q | q
  · omega
  · unfold sbA; rw [if_pos q, if_pos q]
  · rw [q]
  · unfold sbA
    have e1 : (0 < s ∧ 0 < a) ↔ (0 < s ∧ 0 < b) := by omega
    have e2 : (0 < s ∨ 1 < a) ↔ (0 < s ∨ 1 < b) := by omega
    simp only [e1, e2]
theorem SEq_LL {σ : St} {E u a b w : Nat} (h : SEq σ E u a b) : LL σ E u w a = LL σ E u w b := by
  rcases Nat.lt_or_ge u E with hu | hu
  · rw [LL_step hu, LL_step hu]
    have : stp σ u (LL σ E) w a = stp σ u (LL σ E) w b := by
      funext acc o
      unfold stp
      rw [SEq_sb h hu]
    rw [this]
  · unfold LL
    rw [show E - u = 0 by omega]
    rfl
theorem SEq_ok {σ : St} {E u a b w : Nat} (h : SEq σ E u a b) (hu : u < E) : okO σ E u w a = okO σ E u w b := by
  funext o
  unfold okO
  rw [SEq_sb h hu, SEq_LL h]
theorem behind_J {σ τ : St} (hS : IS σ) (hT : IT σ) (hU : UNx σ τ) (h49 : τ.1 49 = σ.1 49) (h50 : τ.1 50 = σ.1 50) {u E s x : Nat} {l : Int} (hu : u < E) (hE : Bnd σ E) (hl : l ∈ kl σ u) (hs : s < SCn σ E u) (h5 : τ.2.1 5 5 = E) (hx : s ≠ 0 → x = 0) (hx12 : x ≤ 12) : ∃ b : Nat, f_FI_stateBehind τ u s l x = b ∧ p_FI_stateBehind τ u s l x ∧ b < SCn σ E (u + ln3 σ l.toNat) ∧ 0 ≤ sbA σ u (stc s) l x ∧ SEq σ E (u + ln3 σ l.toNat) (stc b) (sbA σ u (stc s) l x).toNat := by
  have n := hS.1
  unfold NumOk at n
  have n8 := nU_le hT
  have E8 := hE.1
  have hun : u < nU σ := by omega
  obtain ⟨hb, hl0, hle, hor, cr⟩ := kl_mem hS hT hun hl
  have hnE := cr E hu hE.1 hE.2
  have lp := ln3_pos (σ := σ) (g := l.toNat)
  have s3 := SCn_3 (σ := σ) (E := E) (u := u)
  obtain ⟨v, hv⟩ : ∃ v, u + ln3 σ l.toNat = v := ⟨_, rfl⟩
  rw [hv] at hnE hle ⊢
  have r49 : τ.1 49 l.toNat = (ln3 σ l.toNat : Int) := by rw [h49]; exact ln3_J hS (by omega)
  have r65 : ∀ i, i < nU σ → τ.1 65 i = if us σ i = 6 then 1 else 0 := fun i hi => (hU.2.2.2.1 i hi).2.2.2.2.1
  have r50 : τ.1 50 l.toNat = σ.1 94 l.toNat := by rw [h50]; exact (hS.2.1 l.toNat (by omega)).2.2.1
  have ev : ((u : Int) + (ln3 σ l.toNat : Int)) = (v : Int) := by omega
  have p : p_FI_stateBehind τ u s l x := by
    unfold p_FI_stateBehind
    rw [r49, ev, h5]
    refine ⟨by omega, ⟨by omega, by omega⟩, fun _ => ⟨by omega, fun _ => ⟨by omega, fun _ => ⟨⟨by omega, by omega⟩, fun _ => ⟨⟨by omega, by omega⟩, fun _ => ?_⟩⟩⟩⟩⟩
    split <;> exact ⟨by decide, by decide⟩
  have hn : ¬ (0 < x ∧ 0 < stc s) := fun z => by
    unfold stc at z
    by_cases z2 : s = 0
    · rw [if_pos z2] at z; omega
    · have := hx z2; omega
  have sb0 : 0 ≤ sbA σ u (stc s) l x := by
    unfold sbA
    split
    · omega
    · first | (rw [if_neg hn]; split <;> split <;> omega) | (split <;> split <;> omega)
  have f : f_FI_stateBehind τ u s l x = if E ≤ v then 0 else if us σ v = 6 then 0 else if us σ u = 6 then 0 else if s = 1 ∨ 0 < x then 1 else if σ.1 94 l.toNat = 0 then 0 else 2 := by
    unfold f_FI_stateBehind
    rw [r49, ev, h5, r50]
    by_cases q1 : E ≤ v
    · rw [if_pos (by omega), if_pos q1]
    · rw [if_neg (by omega), if_neg q1, Int.toNat_natCast, r65 v (by omega), Int.toNat_natCast, r65 u hun]
      by_cases q2 : us σ v = 6
      · rw [if_pos q2, if_pos q2, if_pos (by decide)]
      · rw [if_neg q2, if_neg q2, if_neg (by decide)]
        by_cases q3 : us σ u = 6
        · rw [if_pos q3, if_pos q3, if_neg (by decide)]
        · rw [if_neg q3, if_neg q3, if_pos rfl]
          by_cases q4 : s = 1
          · rw [if_pos (by omega), if_pos (Or.inl q4)]
          · rw [if_neg (by omega)]
            by_cases q5 : 0 < x
            · rw [if_neg (by omega), if_pos (Or.inr q5)]
            · rw [if_pos (by omega), if_neg (show ¬ (s = 1 ∨ 0 < x) by omega)]
  by_cases q1 : E ≤ v
  · refine ⟨0, by rw [f, if_pos q1]; rfl, p, ?_, sb0, Or.inl q1⟩
    unfold SCn
    rw [if_pos (by omega)]; omega
  · rw [if_neg q1] at f
    by_cases q2 : us σ v = 6
    · refine ⟨0, by rw [f, if_pos q2]; rfl, p, ?_, sb0, Or.inr (Or.inl q2)⟩
      unfold SCn
      rw [if_neg (by omega), if_pos (Or.inl q2)]; omega
    · rw [if_neg q2] at f
      by_cases q3 : us σ u = 6
      · have e0 : sbA σ u (stc s) l x = 0 := by unfold sbA; rw [if_pos q3]
        refine ⟨0, by rw [f, if_pos q3]; rfl, p, ?_, sb0, Or.inr (Or.inr (Or.inl (by rw [e0]; rfl)))⟩
        unfold SCn
        rw [if_neg (by omega)]
        split
        · omega
        · split <;> omega
      · rw [if_neg q3] at f
        have huv : us σ (v - 1) ≠ 6 := by
          rcases hor with e | ⟨g, e, g1, g2⟩
          · obtain ⟨-, -, c⟩ := lb_spec hS hT hun
            rcases c with ⟨c1, c2⟩ | ⟨c1, c2, c3⟩
            · rw [e, c2] at hv
              rw [show v - 1 = u by omega]; exact q3
            · rw [e] at hv
              have := (mtb_us hS (by rw [← e]; unfold nL; omega) c1 c3).1 (v - 1 - u) (by omega)
              rw [show u + (v - 1 - u) = v - 1 by omega] at this
              omega
          · unfold opb at g2
            simp only [Bool.and_eq_true, decide_eq_true_iff] at g2
            rw [e, Int.toNat_natCast] at hv
            have := (mtb_us hS g1 g2.1.1 g2.2.1).1 (v - 1 - u) (by omega)
            rw [show u + (v - 1 - u) = v - 1 by omega] at this
            omega
        have hSC : SCn σ E v = if brs σ = true then 3 else 2 := by
          unfold SCn
          rw [if_neg (by omega), if_neg (by omega)]
        by_cases q4 : s = 1 ∨ 0 < x
        · refine ⟨1, by rw [f, if_pos q4]; rfl, p, by rw [hSC]; split <;> omega, sb0, Or.inr (Or.inr (Or.inr ?_))⟩
          have h2 : 0 < x ∨ 1 < stc s := by
            rcases q4 with y | y
            · right; unfold stc; rw [if_neg (by omega), if_pos y]; omega
            · exact Or.inl y
          have e1 : 2 ≤ sbA σ u (stc s) l x := by
            unfold sbA
            rw [if_neg q3, if_neg hn, if_pos h2]
            split <;> omega
          refine ⟨by unfold stc; rw [if_neg (by decide), if_pos rfl]; omega, by omega⟩
        · rw [if_neg q4] at f
          have e1 : sbA σ u (stc s) l x = if σ.1 94 l.toNat ≠ 0 then 1 else 0 := by
            unfold sbA
            rw [if_neg q3, if_neg (fun z => q4 (Or.inr z.1))]
            have h2 : ¬ (0 < x ∨ 1 < stc s) := by
              unfold stc
              by_cases z2 : s = 0
              · rw [if_pos z2]; omega
              · rw [if_neg z2, if_neg (by omega)]; omega
            rw [if_neg h2]
            split <;> rfl
          by_cases q5 : σ.1 94 l.toNat = 0
          · refine ⟨0, by rw [f, if_pos q5]; rfl, p, by rw [hSC]; split <;> omega, sb0, Or.inr (Or.inr (Or.inl ?_))⟩
            rw [e1, if_neg (fun z => z q5)]; rfl
          · have hbr : brs σ = true := by
              unfold brs
              rw [List.any_eq_true]
              exact ⟨l.toNat, List.mem_range.mpr (by unfold nL; omega), by simpa using q5⟩
            refine ⟨2, by rw [f, if_neg q5]; rfl, p, by rw [hSC, if_pos hbr]; omega, sb0, Or.inr (Or.inr (Or.inl ?_))⟩
            rw [e1, if_pos q5]; rfl
def chJ (τ : St) (l : Int) (f x b : Nat) : St := sf (sf (sf (sf τ 5 8 l) 5 9 f) 5 10 x) 5 11 b
theorem t_chooseStretch {G : GT} {σ τ : St} (hS : IS σ) (hT : IT σ) (hU : UNx σ σ) {u E s w f lim F : Nat} {l : Int} (hFS : FS σ E lim F τ) (hFu : F ≤ u) (hu : u < E) (hE : Bnd σ E) (hl : l ∈ kl σ u) (hlb : bh σ (u + ln3 σ l.toNat) ≤ u + ln3 σ l.toNat) (hf : FOk σ f) (hs : s < SCn σ E u) (hlim : lim ≤ 300) (hw : w ≤ lim) (hno : lkR σ F E = false) : CJ G m_FI_chooseStretch [O 5, I u, I s, I w, I l, I f] τ (fun r υ => ((optS σ l f).find? (okO σ E u w (stc s)) = none ∧ r = 0 ∧ υ = τ) ∨ ∃ x b : Nat, (optS σ l f).find? (okO σ E u w (stc s)) = some (l, f, x) ∧ r = 1 ∧ υ = chJ τ l f x b ∧ b < SCn σ E (u + ln3 σ l.toNat) ∧ SEq σ E (u + ln3 σ l.toNat) (stc b) (sbA σ u (stc s) l x).toNat) := by
  have n := hS.1
  unfold NumOk at n
  have n8 := nU_le hT
  have E8 := hE.1
  have hun : u < nU σ := by omega
  obtain ⟨gF, g5, g6, g7, gR⟩ := id hFS
  have fx : ∀ k, ¬ WF k → τ.1 k = σ.1 k := fun k hk => (gF.1 k hk).1
  have hUτ : UNx σ τ := UNx_keep hU (fun k h1 h2 => fx k (by unfold WF; omega)) (gF.1 4 (by unfold WF; omega)).2
  obtain ⟨hb, hl0, hle, hor, cr⟩ := kl_mem hS hT hun hl
  have hnE := cr E hu hE.1 hE.2
  have lp := ln3_pos (σ := σ) (g := l.toNat)
  obtain ⟨b0, b1, b2, b3, b4, b5, b6, b7⟩ := form_b hS hf
  obtain ⟨j1, j2, j3, j4, j5, j6, j7⟩ := form_J hS hf
  obtain ⟨M, hM⟩ : ∃ M : Nat, σ.1 102 f = M := ⟨(σ.1 102 f).toNat, by omega⟩
  have s3 := SCn_3 (σ := σ) (E := E) (u := u)
  have NVe : NV = 536870912 := rfl
  have r49 : τ.1 49 l.toNat = (ln3 σ l.toNat : Int) := by rw [fx 49 (by unfold WF; omega)]; exact ln3_J hS (by omega)
  have nolk : ∀ v, F ≤ v → v ≤ E → lkR σ v E = false := fun v h1 h2 => by
    cases q : lkR σ v E with
    | false => rfl
    | true => rw [(lkR_split h1 h2).mpr (Or.inr q)] at hno; exact absurd hno (by decide)
  have hCL : ∀ v b x, F ≤ v → v ≤ E → CL σ E v b x = LL σ E v x (stc b) := fun v b x h1 h2 => by
    unfold CL TJ
    rw [nolk v h1 h2, if_neg (by decide)]
  have due : τ.1 (376 + ((u : Int) * 3 + (s : Int)).toNat) w = LL σ E u w (stc s) := by
    rw [show ((u : Int) * 3 + (s : Int)).toNat = 3 * u + s by omega, (gR u hFu (by omega) hb s hs).1 w hw]
    exact hCL u s w hFu (by omega)
  refine CJ.go (fun _ => k_FI_chooseStretch_0 ?_)
  rw [Int.toNat_natCast f, Int.toNat_natCast w, (gF.1 (176 + f) (by unfold WF; omega)).1, j6, j1, r49, hM, due]
  obtain ⟨v, hv⟩ : ∃ v, u + ln3 σ l.toNat = v := ⟨_, rfl⟩
  rw [show ((u : Int) + (ln3 σ l.toNat : Int)) = (v : Int) by omega]
  obtain ⟨M', hM'⟩ : ∃ M' : Nat, (if (s : Int) ≠ 0 then (0 : Int) else (M : Int)) = M' := by
    by_cases z : s = 0
    · exact ⟨M, by rw [if_neg (by omega)]⟩
    · exact ⟨0, by rw [if_pos (by omega)]; rfl⟩
  have hMM : M' ≤ M ∧ (s = 0 → M' = M) ∧ (s ≠ 0 → M' = 0) := by
    by_cases z : s = 0
    · rw [if_neg (by omega)] at hM'; omega
    · rw [if_pos (by omega)] at hM'; omega
  rw [hM']
  have rngL := LL_b hS hT E8 (E - u) u (by omega) w (stc s)
  refine ⟨by omega, by omega, by omega, ⟨by omega, by omega⟩, fun _ => by omega, ⟨by omega, by omega⟩, by omega, ⟨by omega, by omega⟩, ?_⟩
  have sb6 : us σ u = 6 → s = 0 := fun q => by
    unfold SCn at hs
    rw [if_neg (by omega), if_pos (Or.inl q)] at hs
    omega
  -- beyond what is tried nothing keeps the price
  have tail : ∀ x : Nat, x ≤ M → min (M' : Int) ((w : Int) - σ.1 97 f) < x → okO σ E u w (stc s) (l, f, x) = false := fun x hx hxm => by
    have : ¬ okO σ E u w (stc s) (l, f, x) = true := fun q => by
      unfold okO at q
      rw [decide_eq_true_iff] at q
      obtain ⟨q1, q2, -⟩ := q
      simp only at q1 q2
      unfold wd at q2
      by_cases z : M' < x
      · have hs0 : s ≠ 0 := by omega
        have : sbA σ u (stc s) l x = -1 := by
          unfold sbA
          rw [if_neg (fun y => hs0 (sb6 y)), if_pos ⟨by omega, by unfold stc; rw [if_neg hs0]; split <;> omega⟩]
        omega
      · omega
    simpa using this
  have tailN : ∀ (d x : Nat), x + d = M + 1 → min (M' : Int) ((w : Int) - σ.1 97 f) < x → ((List.range' x d).map (fun s => (l, f, s))).find? (okO σ E u w (stc s)) = none := by
    intro d
    induction d with
    | zero => intro x _ _; rfl
    | succ d ih =>
      intro x hx hxm
      rw [List.range'_succ, List.map_cons, List.find?_cons, tail x (by omega) hxm]
      exact ih (x + 1) (by omega) (by omega)
  have loop : ∀ (d x : Nat), x + d = M + 1 → ((List.range' x d).map (fun s => (l, f, s))).find? (okO σ E u w (stc s)) = (optS σ l f).find? (okO σ E u w (stc s)) → a_FI_chooseStretch_57 G u s w l f (LL σ E u w (stc s)) v (min (M' : Int) ((w : Int) - σ.1 97 f)) x τ (fun r υ => ((optS σ l f).find? (okO σ E u w (stc s)) = none ∧ r = 0 ∧ υ = τ) ∨ ∃ x b : Nat, (optS σ l f).find? (okO σ E u w (stc s)) = some (l, f, x) ∧ r = 1 ∧ υ = chJ τ l f x b ∧ b < SCn σ E v ∧ SEq σ E v (stc b) (sbA σ u (stc s) l x).toNat) := by
    intro d
    induction d with
    | zero =>
      intro x hx hr
      refine k_FI_chooseStretch_57 ⟨⟨by omega, by omega⟩, ⟨by omega, by omega⟩, fun _ => Or.inl ⟨by rw [← hr]; rfl, rfl, rfl⟩, fun z => absurd z (by omega)⟩
    | succ d ih =>
      intro x hx hr
      by_cases hxm : (x : Int) ≤ min (M' : Int) ((w : Int) - σ.1 97 f)
      · obtain ⟨b, q1, q2, q3, q4, q5⟩ := behind_J hS hT hUτ (fx 49 (by unfold WF; omega)) (fx 50 (by unfold WF; omega)) hu hE hl hs g5 (x := x) (fun z => by omega) (by omega)
        rw [hv] at q3 q5
        obtain ⟨c1, c2⟩ := cst_b hS hf (s := x) (by omega)
        have hcs : σ.1 100 f + σ.1 103 f * x * x = cst σ f x := rfl
        have b3' := SCn_3 (σ := σ) (E := E) (u := v)
        have hwd : ((w : Int) - σ.1 97 f - (x : Int)).toNat = w - wd σ f x := by unfold wd; omega
        have row : τ.1 (376 + ((v : Int) * 3 + (b : Int)).toNat) (w - wd σ f x) = LL σ E v (w - wd σ f x) (sbA σ u (stc s) l x).toNat := by
          rw [show ((v : Int) * 3 + (b : Int)).toNat = 3 * v + b by omega, (gR v (by omega) (by omega) (by rw [← hv]; exact hlb) b q3).1 _ (by omega), hCL v b _ (by omega) (by omega)]
          exact SEq_LL q5
        have rngV := LL_b hS hT E8 (E - v) v (by omega) (w - wd σ f x) (sbA σ u (stc s) l x).toNat
        have hok : okO σ E u w (stc s) (l, f, x) = true ↔ LL σ E v (w - wd σ f x) (sbA σ u (stc s) l x).toNat + cst σ f x = LL σ E u w (stc s) := by
          unfold okO
          rw [decide_eq_true_iff]
          simp only
          rw [hv]
          exact ⟨fun z => z.2.2, fun z => ⟨q4, by unfold wd; omega, z⟩⟩
        refine k_FI_chooseStretch_57 ?_
        rw [q1, Int.toNat_natCast f, (gF.1 (176 + f) (by unfold WF; omega)).1, j1, j4, j7, hcs, hwd, row]
        refine ⟨⟨by omega, by omega⟩, ⟨by omega, by omega⟩, fun z => absurd z (by omega), fun _ => ⟨q2, by omega, by omega, by omega, ⟨by omega, by omega⟩, ⟨by omega, by omega⟩, ⟨by omega, by omega⟩, fun z => ?_, fun z => ⟨⟨by omega, by omega⟩, fun s26 e26 => ⟨⟨by omega, by omega⟩, fun s29 e29 s32 e32 s34 e34 => ?_⟩⟩⟩⟩
        · rw [show ((x : Int) + 1) = ((x + 1 : Nat) : Int) by omega]
          refine ih (x + 1) (by omega) ?_
          rw [← hr, List.range'_succ, List.map_cons, List.find?_cons]
          have : okO σ E u w (stc s) (l, f, x) = false := by
            cases q : okO σ E u w (stc s) (l, f, x) with
            | false => rfl
            | true => exact absurd (hok.mp q) z
          rw [this]
        · right
          refine ⟨x, b, ?_, rfl, by rw [e34, e32, e29, e26]; rfl, q3, q5⟩
          rw [← hr, List.range'_succ, List.map_cons, List.find?_cons, hok.mpr z]
      · refine k_FI_chooseStretch_57 ⟨⟨by omega, by omega⟩, ⟨by omega, by omega⟩, fun _ => Or.inl ⟨?_, rfl, rfl⟩, fun z => absurd z hxm⟩
        rw [← hr]
        exact tailN (d + 1) x hx (by omega)
  rw [hv]
  refine loop (M + 1) 0 (by omega) ?_
  unfold optS
  rw [hM, Int.toNat_natCast, List.range_eq_range']
