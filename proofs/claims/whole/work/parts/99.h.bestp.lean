/-! best: what both sides seek -/
theorem fold_acc {σ : St} {u w st : Nat} {T : Nat → Nat → Nat → Int} : ∀ (l : List (Int × Nat × Nat)) (acc : Int), l.foldl (stp σ u T w st) acc ≤ acc
  | [], acc => Int.le_refl _
  | o :: l, acc => by
    rw [List.foldl_cons]
    refine Int.le_trans (fold_acc l _) ?_
    unfold stp
    split
    · omega
    · omega
theorem fold_le {σ : St} {u w st : Nat} {T : Nat → Nat → Nat → Int} : ∀ (l : List (Int × Nat × Nat)) (acc : Int) (o : Int × Nat × Nat), o ∈ l → 0 ≤ sbA σ u st o.1 o.2.2 → wd σ o.2.1 o.2.2 ≤ w → l.foldl (stp σ u T w st) acc ≤ T (u + ln3 σ o.1.toNat) (w - wd σ o.2.1 o.2.2) (sbA σ u st o.1 o.2.2).toNat + cst σ o.2.1 o.2.2
  | [], _, o, h, _, _ => absurd h (by simp)
  | p :: l, acc, o, h, h1, h2 => by
    rw [List.foldl_cons]
    rcases List.mem_cons.mp h with e | e
    · refine Int.le_trans (fold_acc l _) ?_
      rw [e] at h1 h2 ⊢
      unfold stp
      rw [if_pos ⟨h1, h2⟩]
      omega
    · exact fold_le l _ o e h1 h2
theorem LL_pass {σ : St} (hS : IS σ) (hT : IT σ) {E F : Nat} (hEn : E ≤ nU σ) (h6 : us σ (F - 1) = 6) (hFE : F ≤ E) : ∀ (n u w st : Nat), F - u ≤ n → u < F → LL σ E u w st < NV → ∃ w', w' ≤ w ∧ LL σ E F w' 0 < NV := by
  intro n
  induction n with
  | zero =>
    intro u w st h1 h2
    omega
  | succ n ih =>
    intro u w st h1 h2 h
    have hun : u < nU σ := by omega
    obtain ⟨o, -, o2, o3⟩ := chs_ex (show u < E by omega) h
    unfold okO at o3
    rw [decide_eq_true_iff] at o3
    obtain ⟨k1, k2, k3⟩ := o3
    obtain ⟨m1, m2, m3, -, -⟩ := opt_mem hS hT hun o2
    have c0 := (cst_b hS m2 m3).1
    have lt : LL σ E (u + ln3 σ o.1.toNat) (w - wd σ o.2.1 o.2.2) (sbA σ u st o.1 o.2.2).toNat < NV := by omega
    obtain ⟨-, -, -, hor, cr⟩ := kl_mem hS hT hun m1
    by_cases e : u = F - 1
    · have e6 : us σ u = 6 := by rw [e]; exact h6
      have l1 : ln3 σ o.1.toNat = 1 := by
        rcases hor with q | ⟨g, q1, q2, q3⟩
        · rw [q]
          exact (lb_plain hS hT hun (by rw [e6]; decide)).2
        · exfalso
          unfold opb at q3
          simp only [Bool.and_eq_true, decide_eq_true_iff] at q3
          have := (mtb_us hS q2 q3.1.1 q3.2.1).2
          rw [e6] at this
          exact absurd this (by decide)
      have s0 : sbA σ u st o.1 o.2.2 = 0 := by unfold sbA; rw [if_pos e6]
      rw [s0, l1, show u + 1 = F by omega] at lt
      exact ⟨_, by omega, lt⟩
    · have hl := cr (F - 1) (by omega) (by omega) (Or.inr h6)
      have lp := (ln3_pos (σ := σ) (g := o.1.toNat)).1
      obtain ⟨w', a, b⟩ := ih _ _ _ (by omega) (by omega) lt
      exact ⟨w', by omega, b⟩
theorem LL_small {σ : St} (hS : IS σ) (hT : IT σ) {E : Nat} (hE : Bnd σ E) : ∀ (n u w st : Nat), E - u ≤ n → u ≤ E → LL σ E u w st < NV → LL σ E u w st ≤ 8200 * n := by
  intro n
  induction n with
  | zero =>
    intro u w st h1 h2 h
    have e : u = E := by omega
    subst e
    rw [LL_end] at h ⊢
    by_cases z : w = 0
    · rw [if_pos z]; omega
    · rw [if_neg z] at h; omega
  | succ n ih =>
    intro u w st h1 h2 h
    by_cases e : u = E
    · subst e
      rw [LL_end] at h ⊢
      by_cases z : w = 0
      · rw [if_pos z]; omega
      · rw [if_neg z] at h; omega
    · have E8 := hE.1
      have hun : u < nU σ := by omega
      obtain ⟨o, -, o2, o3⟩ := chs_ex (show u < E by omega) h
      unfold okO at o3
      rw [decide_eq_true_iff] at o3
      obtain ⟨k1, k2, k3⟩ := o3
      obtain ⟨m1, m2, m3, -, -⟩ := opt_mem hS hT hun o2
      have c0 := cst_b hS m2 m3
      obtain ⟨-, -, -, -, cr⟩ := kl_mem hS hT hun m1
      have hl := cr E (by omega) hE.1 hE.2
      have lp := (ln3_pos (σ := σ) (g := o.1.toNat)).1
      have := ih _ _ _ (by omega) hl (show LL σ E (u + ln3 σ o.1.toNat) (w - wd σ o.2.1 o.2.2) (sbA σ u st o.1 o.2.2).toNat < NV by omega)
      omega
theorem chn_LL {σ : St} {E : Nat} : ∀ (ps : List Pc) (u st : Nat), Chn σ u ps E → (∀ q ∈ ps, q.2 ∈ opt σ q.1 ∧ q.2.2.2 = 0) → LL σ E u (tw σ ps) st ≤ tp σ ps
  | [], u, st, h, _ => by
    have e : u = E := h
    subst e
    rw [LL_end]
    show (if (0 : Nat) = 0 then (0 : Int) else NV) ≤ 0
    rw [if_pos rfl]
    exact Int.le_refl _
  | q :: ps, u, st, h, hq => by
    obtain ⟨h1, h2, h3⟩ := h
    obtain ⟨o1, o2⟩ := hq q (List.mem_cons_self ..)
    have hlen := Chn_len h3
    have lp := (ln3_pos (σ := σ) (g := q.2.1.toNat)).1
    rw [h1] at o1
    rw [LL_step (show u < E by omega)]
    have s0 : 0 ≤ sbA σ u st q.2.1 q.2.2.2 := by
      unfold sbA
      rw [o2]
      by_cases z : us σ u = 6
      · rw [if_pos z]; omega
      · rw [if_neg z, if_neg (show ¬ (0 < 0 ∧ 0 < st) from fun y => absurd y.1 (by decide))]
        split <;> split <;> omega
    have ew : tw σ (q :: ps) = wd σ q.2.2.1 q.2.2.2 + tw σ ps := rfl
    have ep : tp σ (q :: ps) = cst σ q.2.2.1 q.2.2.2 + tp σ ps := rfl
    have a := fold_le (σ := σ) (u := u) (w := tw σ (q :: ps)) (st := st) (T := LL σ E) (opt σ u) NV q.2 o1 s0 (by rw [ew]; omega)
    have b := chn_LL ps (u + ln3 σ q.2.1.toNat) (sbA σ u st q.2.1 q.2.2.2).toNat h3 (fun p hp => hq p (List.mem_cons_of_mem _ hp))
    rw [show tw σ (q :: ps) - wd σ q.2.2.1 q.2.2.2 = tw σ ps by rw [ew]; omega] at a
    rw [ep]
    omega
theorem plp_opt {σ : St} (hS : IS σ) (hT : IT σ) {u : Nat} (hu : u < nU σ) (hb : bh σ u ≤ u) (h0 : 0 ≤ plF σ u) : (plp σ u).2 ∈ opt σ (plp σ u).1 := by
  obtain ⟨-, l0, hle, -, -⟩ := kl_mem hS hT hu (lb_kl hb)
  have pb := plc_b (σ := σ) (u := u) (l := lb σ u)
  obtain ⟨a, ha⟩ : ∃ a : Nat, (a : Int) = 4 * lb σ u + plc σ u (lb σ u) := ⟨(4 * lb σ u + plc σ u (lb σ u)).toNat, by omega⟩
  have ea : slt σ u (lb σ u) = a := by unfold slt; omega
  show (lb σ u, (plF σ u).toNat, 0) ∈ opt σ u
  unfold opt
  refine List.mem_flatMap.mpr ⟨lb σ u, lb_kl hb, ?_⟩
  unfold optF
  refine List.mem_flatMap.mpr ⟨(plF σ u).toNat, ?_, ?_⟩
  · rw [ea]
    have e : plF σ u = if σ.1 105 a = 0 then -6 else σ.1 104 (3 * a + 0) := by
      unfold plF pfM
      rw [← ha, Int.toNat_natCast, show (3 * (a : Int)).toNat = 3 * a + 0 by omega]
    by_cases z : σ.1 105 a = 0
    · rw [if_pos z] at e; omega
    · rw [if_neg z] at e
      obtain ⟨s1, s2, s3⟩ := hS.2.2.2.2.2.2.2.2.2.1 a (by omega)
      unfold frm
      refine List.mem_map.mpr ⟨0, List.mem_range.mpr ?_, ?_⟩
      · omega
      · rw [e]
  · unfold optS
    exact List.mem_map.mpr ⟨0, List.mem_range.mpr (by omega), rfl⟩
theorem pln_LL {σ : St} (hS : IS σ) (hT : IT σ) {W x y : Nat} (hxy : x ≤ y) (hy : y < nW σ) (h : pln σ W x y = true) : ∃ w, w ≤ W ∧ LL σ (wE σ y) (wfu σ x) w 0 < NV := by
  obtain ⟨p1, p2, p3, p4⟩ := pln_is.mp h
  have n8 := nU_le hT
  obtain ⟨f1, f2, f3, f4, f5, f6, f7, f8, f9⟩ := word_rng hS hT hxy hy
  have E8 := f2.1
  have hch : Chn σ (wfu σ x) (pls σ (wfu σ x) (wE σ y - wfu σ x)) (wE σ y) := pls_chn hS hT (bnd_bh hS hT f2) E8 (wE σ y - wfu σ x) (wfu σ x) (wfu σ x) (by omega) (Nat.le_refl _) (by omega) f3 (fun x x1 x2 => absurd x1 (by omega)) p2
  have hG : ∀ q ∈ pls σ (wfu σ x) (wE σ y - wfu σ x), GPc σ q := fun q hq => (Chn_G hch q hq).1
  have hlen := Chn_len hch
  obtain ⟨-, -, b3⟩ := line_b hS hG
  refine ⟨_, p4, ?_⟩
  have := chn_LL _ _ 0 hch (fun q hq => by
    obtain ⟨v, v1, v2⟩ := List.mem_map.mp hq
    obtain ⟨m1, m2, m3⟩ := plL_mem v1
    have h0 := List.all_eq_true.mp p2 v v1
    rw [decide_eq_true_iff] at h0
    rw [← v2]
    exact ⟨plp_opt hS hT (by omega) m3 h0, rfl⟩)
  have NVe : NV = 536870912 := rfl
  omega
/-- the price of a line of words -/
def cF (σ : St) (W x y : Nat) : Int := if pln σ W x y = true then 0 else if lkR σ (wfu σ x) (wE σ y) = true then NV else LL σ (wE σ y) (wfu σ x) W 0
theorem cF_b {σ : St} (hS : IS σ) (hT : IT σ) {W x y : Nat} (hxy : x ≤ y) (hy : y < nW σ) : 0 ≤ cF σ W x y ∧ cF σ W x y ≤ NV ∧ (cF σ W x y < NV → cF σ W x y ≤ 656000) := by
  obtain ⟨f1, f2, -⟩ := word_rng hS hT hxy hy
  have n8 := nU_le hT
  have E8 := f2.1
  have NVe : NV = 536870912 := rfl
  unfold cF
  split
  · omega
  · split
    · omega
    · have a := LL_b hS hT f2.1 (wE σ y - wfu σ x) (wfu σ x) (by omega) W 0
      refine ⟨a.1, a.2, fun z => ?_⟩
      have := LL_small hS hT f2 80 (wfu σ x) W 0 (by omega) (by omega) z
      omega
theorem cF_set {σ : St} {W x y : Nat} (h : cF σ W x y < NV) : pln σ W x y = false → lkR σ (wfu σ x) (wE σ y) = false ∧ LL σ (wE σ y) (wfu σ x) W 0 < NV := by
  intro z
  unfold cF at h
  rw [z, if_neg (by decide)] at h
  cases q : lkR σ (wfu σ x) (wE σ y) with
  | true => rw [q, if_pos rfl] at h; omega
  | false =>
    rw [q, if_neg (by decide)] at h
    exact ⟨rfl, h⟩
theorem word_blank {σ : St} {x : Nat} (h0 : 0 < x) (hx : x < nW σ) : 0 < wfu σ x ∧ us σ (wfu σ x - 1) = 6 := by
  obtain ⟨a1, a2, a3, -⟩ := word_ex hx
  unfold wfu
  cases hw : wa σ x with
  | zero =>
    rw [hw] at a3
    have : wdc σ 0 = 0 := rfl
    omega
  | succ i =>
    have h6 : ts σ i = 6 := by
      have := (wst_e a2).2
      rw [hw] at this
      unfold iw at this
      simpa using this
    have hsd : sd (ts σ) i = false := by unfold sd; rw [h6]; rfl
    have e2 : up σ (uc σ i) = i := up_eq hsd (by omega)
    rw [uc_u hsd]
    refine ⟨by omega, ?_⟩
    rw [Nat.add_sub_cancel]
    unfold us
    rw [e2]
    exact h6
theorem wfu_lt {σ : St} {x y : Nat} (h : x < y) (hy : y < nW σ) : wfu σ x < wfu σ y := by
  obtain ⟨a1, a2, a3, -⟩ := word_ex (show x < nW σ by omega)
  obtain ⟨b1, b2, b3, -⟩ := word_ex hy
  have hlt : wa σ x < wa σ y := by
    rcases Nat.lt_or_ge (wa σ x) (wa σ y) with q | q
    · exact q
    · have : wdc σ (wa σ y) ≤ wdc σ (wa σ x) := cnt_mono q
      omega
  exact uc_lt (wst_sd a2) hlt
theorem cF_dead {σ : St} (hS : IS σ) (hT : IT σ) {W x y : Nat} (hxy : x ≤ y) (hy : y < nW σ) (hr : ∀ w, w ≤ W → CL σ (wE σ y) (wfu σ x) 0 w = NV) : ∀ i, i ≤ x → cF σ W i y = NV := by
  intro i hi
  obtain ⟨f1, f2, -⟩ := word_rng hS hT (show i ≤ y by omega) hy
  obtain ⟨g1, g2, -⟩ := word_rng hS hT hxy hy
  have b := cF_b hS hT (W := W) (show i ≤ y by omega) hy
  rcases Int.lt_or_le (cF σ W i y) NV with z | z
  · exfalso
    have hle : wfu σ i ≤ wfu σ x := by
      rcases Nat.eq_or_lt_of_le hi with q | q
      · rw [q]; exact Nat.le_refl _
      · exact Nat.le_of_lt (wfu_lt q (by omega))
    have hno : lkR σ (wfu σ i) (wE σ y) = false := pln_no (cF_set z)
    have hnx : lkR σ (wfu σ x) (wE σ y) = false := by
      cases q : lkR σ (wfu σ x) (wE σ y) with
      | false => rfl
      | true =>
        obtain ⟨v, v1, v2, v3⟩ := lkR_iff.mp q
        rw [lkR_iff.mpr ⟨v, by omega, v2, v3⟩] at hno
        exact absurd hno (by decide)
    obtain ⟨w, hw, hL⟩ : ∃ w, w ≤ W ∧ LL σ (wE σ y) (wfu σ i) w 0 < NV := by
      cases q : pln σ W i y with
      | true => exact pln_LL hS hT (by omega) hy q
      | false => exact ⟨W, Nat.le_refl _, (cF_set z q).2⟩
    obtain ⟨w', hw', hL'⟩ : ∃ w', w' ≤ w ∧ LL σ (wE σ y) (wfu σ x) w' 0 < NV := by
      rcases Nat.eq_or_lt_of_le hi with q | q
      · rw [← q]; exact ⟨w, Nat.le_refl _, hL⟩
      · obtain ⟨p1, p2⟩ := word_blank (show 0 < x by omega) (show x < nW σ by omega)
        exact LL_pass hS hT f2.1 p2 (Nat.le_of_lt g1) (wfu σ x - wfu σ i) (wfu σ i) w 0 (Nat.le_refl _) (wfu_lt q (by omega)) hL
    have := hr w' (by omega)
    unfold CL TJ at this
    rw [hnx, if_neg (by decide)] at this
    have e0 : stc 0 = 0 := rfl
    rw [e0] at this
    omega
  · omega
/-- the least sum over last words of a range, and the largest last word with it -/
def Ft (c : Nat → Nat → Int) (B : Nat → Int) (i j : Nat) : Prop := c i j < NV ∧ B (j + 1) < NV
def Prt (c : Nat → Nat → Int) (B : Nat → Int) (i lo hi : Nat) (b t : Int) : Prop := (b = NV ∧ ∀ j, lo ≤ j → j < hi → ¬ Ft c B i j) ∨ (b < NV ∧ ∃ k : Nat, t = k ∧ lo ≤ k ∧ k < hi ∧ Ft c B i k ∧ b = c i k + B (k + 1) ∧ ∀ j, lo ≤ j → j < hi → Ft c B i j → b < c i j + B (j + 1) ∨ (b = c i j + B (j + 1) ∧ j ≤ k))
theorem Prt_down {c : Nat → Nat → Int} {B : Nat → Int} {i lo hi : Nat} {b t b' t' : Int} (h : Prt c B i (lo + 1) hi b t) (hlo : lo < hi) (hs : Ft c B i lo → c i lo + B (lo + 1) < NV) (h1 : Ft c B i lo → c i lo + B (lo + 1) < b → b' = c i lo + B (lo + 1) ∧ t' = lo) (h2 : ¬ (Ft c B i lo ∧ c i lo + B (lo + 1) < b) → b' = b ∧ t' = t) : Prt c B i lo hi b' t' := by
  by_cases q : Ft c B i lo ∧ c i lo + B (lo + 1) < b
  · obtain ⟨e1, e2⟩ := h1 q.1 q.2
    right
    refine ⟨by rw [e1]; exact hs q.1, lo, e2, Nat.le_refl _, hlo, q.1, e1, fun j j1 j2 hj => ?_⟩
    by_cases e : j = lo
    · right; rw [e]; exact ⟨e1, Nat.le_refl _⟩
    · rcases h with ⟨y1, y2⟩ | ⟨y1, k, y2, y3, y4, y5, y6, y7⟩
      · exact absurd hj (y2 j (by omega) j2)
      · left
        rcases y7 j (by omega) j2 hj with z | z
        · have := q.2; omega
        · have := q.2; omega
  · obtain ⟨e1, e2⟩ := h2 q
    rw [e1, e2]
    rcases h with ⟨y1, y2⟩ | ⟨y1, k, y2, y3, y4, y5, y6, y7⟩
    · left
      refine ⟨y1, fun j j1 j2 hj => ?_⟩
      by_cases e : j = lo
      · rw [e] at hj
        exact q ⟨hj, by rw [y1]; exact hs hj⟩
      · exact y2 j (by omega) j2 hj
    · right
      refine ⟨y1, k, y2, by omega, y4, y5, y6, fun j j1 j2 hj => ?_⟩
      by_cases e : j = lo
      · rw [e] at hj ⊢
        have : ¬ c i lo + B (lo + 1) < b := fun z => q ⟨hj, z⟩
        rcases Int.lt_or_le b (c i lo + B (lo + 1)) with z | z
        · exact Or.inl z
        · exact Or.inr ⟨by omega, by omega⟩
      · exact y7 j (by omega) j2 hj
theorem Prt_up {c : Nat → Nat → Int} {B : Nat → Int} {i lo hi : Nat} {b t b' t' : Int} (h : Prt c B i lo hi b t) (hlo : lo ≤ hi) (hs : Ft c B i hi → c i hi + B (hi + 1) < NV) (h1 : Ft c B i hi → c i hi + B (hi + 1) ≤ b → b' = c i hi + B (hi + 1) ∧ t' = hi) (h2 : ¬ (Ft c B i hi ∧ c i hi + B (hi + 1) ≤ b) → b' = b ∧ t' = t) : Prt c B i lo (hi + 1) b' t' := by
  by_cases q : Ft c B i hi ∧ c i hi + B (hi + 1) ≤ b
  · obtain ⟨e1, e2⟩ := h1 q.1 q.2
    right
    refine ⟨by rw [e1]; exact hs q.1, hi, e2, hlo, Nat.lt_succ_self _, q.1, e1, fun j j1 j2 hj => ?_⟩
    by_cases e : j = hi
    · right; rw [e]; exact ⟨e1, Nat.le_refl _⟩
    · rcases h with ⟨y1, y2⟩ | ⟨y1, k, y2, y3, y4, y5, y6, y7⟩
      · exact absurd hj (y2 j j1 (by omega))
      · have q2 := q.2
        rcases y7 j j1 (by omega) hj with z | z
        · left; omega
        · rcases Int.lt_or_le b' (c i j + B (j + 1)) with z2 | z2
          · exact Or.inl z2
          · exact Or.inr ⟨by omega, by omega⟩
  · obtain ⟨e1, e2⟩ := h2 q
    rw [e1, e2]
    rcases h with ⟨y1, y2⟩ | ⟨y1, k, y2, y3, y4, y5, y6, y7⟩
    · left
      refine ⟨y1, fun j j1 j2 hj => ?_⟩
      by_cases e : j = hi
      · rw [e] at hj
        exact q ⟨hj, by rw [y1]; exact Int.le_of_lt (hs hj)⟩
      · exact y2 j j1 (by omega) hj
    · right
      refine ⟨y1, k, y2, y3, by omega, y5, y6, fun j j1 j2 hj => ?_⟩
      by_cases e : j = hi
      · rw [e] at hj ⊢
        left
        rcases Int.lt_or_le b (c i hi + B (hi + 1)) with z | z
        · exact z
        · exact absurd ⟨hj, z⟩ q
      · exact y7 j j1 (by omega) hj
theorem Prt_congr {c : Nat → Nat → Int} {B B' : Nat → Int} {i lo hi : Nat} {b t : Int} (h : Prt c B i lo hi b t) (hB : ∀ j, lo ≤ j → j < hi → B' (j + 1) = B (j + 1)) : Prt c B' i lo hi b t := by
  rcases h with ⟨y1, y2⟩ | ⟨y1, k, y2, y3, y4, y5, y6, y7⟩
  · left
    refine ⟨y1, fun j j1 j2 hj => y2 j j1 j2 ?_⟩
    unfold Ft at hj ⊢
    rw [hB j j1 j2] at hj
    exact hj
  · right
    refine ⟨y1, k, y2, y3, y4, ?_, ?_, fun j j1 j2 hj => ?_⟩
    · unfold Ft at y5 ⊢
      rw [hB k y3 y4]
      exact y5
    · rw [hB k y3 y4]; exact y6
    · rw [hB j j1 j2]
      refine y7 j j1 j2 ?_
      unfold Ft at hj ⊢
      rw [hB j j1 j2] at hj
      exact hj
theorem Prt_uniq {c : Nat → Nat → Int} {B : Nat → Int} {i lo hi : Nat} {b t b' t' : Int} (h : Prt c B i lo hi b t) (h' : Prt c B i lo hi b' t') : b = b' ∧ (b < NV → t = t') := by
  rcases h with ⟨y1, y2⟩ | ⟨y1, k, y2, y3, y4, y5, y6, y7⟩
  · rcases h' with ⟨z1, z2⟩ | ⟨z1, l, z2, z3, z4, z5, z6, z7⟩
    · exact ⟨by omega, fun q => by omega⟩
    · exact absurd z5 (y2 l z3 z4)
  · rcases h' with ⟨z1, z2⟩ | ⟨z1, l, z2, z3, z4, z5, z6, z7⟩
    · exact absurd y5 (z2 k y3 y4)
    · have a := y7 l z3 z4 z5
      have b := z7 k y3 y4 y5
      refine ⟨by omega, fun _ => ?_⟩
      have : k = l := by omega
      rw [y2, z2, this]
def Spc (c : Nat → Nat → Int) (n : Nat) (B T : Nat → Int) : Prop := B n = 0 ∧ ∀ i, i < n → Prt c B i i n (B i) (T i)
theorem Spc_uniq {c : Nat → Nat → Int} {n : Nat} {B T B' T' : Nat → Int} (h : Spc c n B T) (h' : Spc c n B' T') : ∀ d i, i + d = n → B i = B' i ∧ (i < n → B i < NV → T i = T' i) := by
  intro d
  induction d using Nat.strongRecOn with
  | _ d ih =>
    intro i hi
    rcases Nat.eq_zero_or_pos d with q | q
    · have e : i = n := by omega
      rw [e]
      exact ⟨by rw [h.1, h'.1], fun z => absurd z (by omega)⟩
    · have a := h.2 i (by omega)
      have b := h'.2 i (by omega)
      have b2 := Prt_congr (B' := B) b (fun j j1 j2 => (ih (n - (j + 1)) (by omega) (j + 1) (by omega)).1)
      obtain ⟨u1, u2⟩ := Prt_uniq a b2
      exact ⟨u1, fun _ z => u2 z⟩
theorem Spc_T {c : Nat → Nat → Int} {n : Nat} {B T : Nat → Int} (h : Spc c n B T) {i : Nat} (hi : i < n) (hb : B i < NV) : ∃ k : Nat, T i = k ∧ i ≤ k ∧ k < n ∧ c i k < NV ∧ B (k + 1) < NV ∧ B i = c i k + B (k + 1) := by
  rcases h.2 i hi with ⟨y1, y2⟩ | ⟨y1, k, y2, y3, y4, y5, y6, y7⟩
  · omega
  · exact ⟨k, y2, y3, y4, y5.1, y5.2, y6⟩
