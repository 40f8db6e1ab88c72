/-! words as stretches of units; haveForms, height, depth -/
def wE (σ : St) (b : Nat) : Nat := uc σ (we σ b + 1)
theorem word_rng {σ : St} (hS : IS σ) (hT : IT σ) {a b : Nat} (hab : a ≤ b) (hb : b < nW σ) : wfu σ a < wE σ b ∧ Bnd σ (wE σ b) ∧ bh σ (wfu σ a) ≤ wfu σ a ∧ up σ (wfu σ a) = wa σ a ∧ upE σ (wfu σ a) = wa σ a ∧ upE σ (wE σ b) = we σ b + 1 ∧ wa σ a ≤ we σ b ∧ we σ b < tn σ ∧ wfu σ a < nU σ := by
  obtain ⟨a1, a2, a3, a4, a5, a6, a7⟩ := word_ex (show a < nW σ by omega)
  obtain ⟨b1, b2, b3, b4, b5, b6, b7⟩ := word_ex hb
  have hle : wa σ a ≤ wa σ b := by
    rcases Nat.lt_or_ge (wa σ b) (wa σ a) with x | x
    · have : wdc σ (wa σ b) < wdc σ (wa σ a) := cnt_lt b2 x
      omega
    · exact x
  have sa0 := wst_sd a2
  have e1 : up σ (wfu σ a) = wa σ a := up_eq sa0 a1
  have lt1 : wfu σ a < wE σ b := uc_lt sa0 (by omega)
  have le2 : wE σ b ≤ nU σ := uc_mono (by omega)
  have hB : Bnd σ (wE σ b) ∧ upE σ (wE σ b) = we σ b + 1 := by
    by_cases z : we σ b + 1 = tn σ
    · have e : wE σ b = nU σ := by unfold wE nU; rw [z]
      refine ⟨⟨le2, Or.inl e⟩, ?_⟩
      unfold upE
      rw [if_neg (by omega), z]
    · have h6 : ts σ (we σ b + 1) = 6 := by
        rcases b6 with y | y
        · exact absurd y z
        · exact y
      have hsd : sd (ts σ) (we σ b + 1) = false := by unfold sd; rw [h6]; rfl
      have e2 : up σ (wE σ b) = we σ b + 1 := up_eq hsd (by omega)
      have lt3 : wE σ b < nU σ := uc_lt hsd (by omega)
      refine ⟨⟨le2, Or.inr (by unfold us; rw [e2]; exact h6)⟩, ?_⟩
      unfold upE
      rw [if_pos lt3, e2]
  have hbF : bh σ (wfu σ a) ≤ wfu σ a := by
    unfold wfu
    cases hw : wa σ a with
    | zero => exact Nat.le_refl _
    | succ i =>
      have h6 : ts σ i = 6 := by
        have := (wst_e a2).2
        rw [hw] at this
        unfold iw at this
        simpa using this
      have hsd : sd (ts σ) i = false := by unfold sd; rw [h6]; rfl
      have hi : i < tn σ := by omega
      have e2 : up σ (uc σ i) = i := up_eq hsd hi
      have hv : uc σ i < nU σ := uc_lt hsd hi
      have h6' : us σ (uc σ i) = 6 := by unfold us; rw [e2]; exact h6
      have hbv := bnd_bh hS hT (E := uc σ i) ⟨by omega, Or.inr h6'⟩
      have l1 := (lb_plain hS hT hv (by omega)).2
      have := bh_in hbv (uc σ i + 1) (by omega) (by omega)
      rw [uc_u hsd, this]
      omega
  exact ⟨lt1, hB.1, hbF, e1, by unfold upE; rw [if_pos (by omega), e1], hB.2, by omega, b5, by omega⟩
theorem t_highest {G : GT} {τ : St} {B : Nat} {bl : List Bx} (hB : isB B) (h : BXt B bl τ) (hbb : BB bl) (h80 : bl.length ≤ 80) : CJ G m_BX_highest [O B] τ (fun r υ => υ = τ ∧ r = hgM bl) := by
  refine CJ.go (fun _ => k_BX_highest_0 hB ?_)
  have loop : ∀ (d i : Nat), i + d = bl.length → a_BX_highest_4 G B (hgM (bl.take i)) i τ (fun r υ => υ = τ ∧ r = hgM bl) := by
    intro d
    induction d with
    | zero =>
      intro i hi
      obtain ⟨bb1, -⟩ := hgM_b hbb
      rw [List.take_of_length_le (by omega)]
      refine k_BX_highest_4 hB ?_
      rw [h.1]
      exact ⟨⟨by omega, by omega⟩, fun _ => ⟨⟨by omega, by omega⟩, rfl, rfl⟩, fun z => absurd z (by omega)⟩
    | succ d ih =>
      intro i hi
      obtain ⟨bb1, -⟩ := hgM_b (bl := bl.take i) (fun x hx => hbb x (List.mem_of_mem_take hx))
      obtain ⟨x, hx⟩ : ∃ x, bl[i]? = some x := ⟨_, List.getElem?_eq_getElem (show i < bl.length by omega)⟩
      have e1 : hgM (bl.take (i + 1)) = max (hgM (bl.take i)) x.2.2.2 := by
        rw [List.take_succ, hx, Int.max_def]
        exact hgM_app
      have nx := ih (i + 1) (by omega)
      rw [e1] at nx
      refine k_BX_highest_4 hB ?_
      rw [h.1, Int.toNat_natCast i, (h.2 i x hx).2.2.2]
      exact ⟨⟨by omega, by omega⟩, fun z => absurd z (by omega), fun _ => ⟨by omega, ⟨by omega, by omega⟩, nx⟩⟩
  exact loop bl.length 0 (by omega)
theorem t_deepest {G : GT} {τ : St} {B : Nat} {bl : List Bx} (hB : isB B) (h : BXt B bl τ) (hbb : BB bl) (h80 : bl.length ≤ 80) : CJ G m_BX_deepest [O B] τ (fun r υ => υ = τ ∧ r = dpM bl) := by
  refine CJ.go (fun _ => k_BX_deepest_0 hB ?_)
  have loop : ∀ (d i : Nat), i + d = bl.length → a_BX_deepest_4 G B (dpM (bl.take i)) i τ (fun r υ => υ = τ ∧ r = dpM bl) := by
    intro d
    induction d with
    | zero =>
      intro i hi
      obtain ⟨-, bb1⟩ := hgM_b hbb
      rw [List.take_of_length_le (by omega)]
      refine k_BX_deepest_4 hB ?_
      rw [h.1]
      exact ⟨⟨by omega, by omega⟩, fun _ => ⟨⟨by omega, by omega⟩, rfl, rfl⟩, fun z => absurd z (by omega)⟩
    | succ d ih =>
      intro i hi
      obtain ⟨-, bb1⟩ := hgM_b (bl := bl.take i) (fun x hx => hbb x (List.mem_of_mem_take hx))
      obtain ⟨x, hx⟩ : ∃ x, bl[i]? = some x := ⟨_, List.getElem?_eq_getElem (show i < bl.length by omega)⟩
      obtain ⟨-, -, x3, -⟩ := hbb x (List.mem_of_getElem? hx)
      have e1 : dpM (bl.take (i + 1)) = max (dpM (bl.take i)) (-x.2.2.1) := by
        rw [List.take_succ, hx, Int.max_def]
        exact dpM_app
      have nx := ih (i + 1) (by omega)
      rw [e1] at nx
      refine k_BX_deepest_4 hB ?_
      rw [h.1, Int.toNat_natCast i, (h.2 i x hx).2.2.1]
      exact ⟨⟨by omega, by omega⟩, fun z => absurd z (by omega), fun _ => ⟨by omega, ⟨by omega, by omega⟩, ⟨by omega, by omega⟩, nx⟩⟩
  exact loop bl.length 0 (by omega)
theorem fold_max {g : Bx → Int} : ∀ (bl : List Bx) (a b : Int), bl.foldl (fun a x => if a ≤ g x then g x else a) (max a b) = max a (bl.foldl (fun a x => if a ≤ g x then g x else a) b)
  | [], _, _ => rfl
  | x :: bl, a, b => by
    rw [List.foldl_cons, List.foldl_cons]
    have e : (if max a b ≤ g x then g x else max a b) = max a (if b ≤ g x then g x else b) := by
      rw [Int.max_def, Int.max_def]
      repeat' split
      all_goals omega
    rw [e]
    exact fold_max bl a _
theorem hgM_two {a b : List Bx} (h : BB a) : hgM (a ++ b) = max (hgM a) (hgM b) ∧ dpM (a ++ b) = max (dpM a) (dpM b) := by
  obtain ⟨h1, h2⟩ := hgM_b h
  constructor
  · unfold hgM
    rw [List.foldl_append]
    have := fold_max (g := fun x => x.2.2.2) b (hgM a) 0
    rw [Int.max_eq_left h1.1] at this
    exact this
  · unfold dpM
    rw [List.foldl_append]
    have := fold_max (g := fun x => -x.2.2.1) b (dpM a) 0
    rw [Int.max_eq_left h2.1] at this
    exact this
theorem t_height {G : GT} {τ : St} {L : Nat} {pb mb : List Bx} (hL : isL L) (hP : BXt (L + 1) pb τ) (hM : BXt (L + 7) mb τ) (bP : BB pb) (bM : BB mb) (lP : pb.length ≤ 80) (lM : mb.length ≤ 80) : CJ G m_LN_height [O L] τ (fun r υ => υ = τ ∧ r = hgM (pb ++ mb)) ∧ CJ G m_LN_depth [O L] τ (fun r υ => υ = τ ∧ r = dpM (pb ++ mb)) := by
  have hL2 : L = 9 ∨ L = 28 := hL
  obtain ⟨h1, h2⟩ := hgM_b bP
  obtain ⟨h3, h4⟩ := hgM_b bM
  obtain ⟨e1, e2⟩ := hgM_two (b := mb) bP
  have i1 : isB (L + 1) := by unfold isB; omega
  have i7 : isB (L + 7) := by unfold isB; omega
  constructor
  · refine CJ.go (fun _ => k_LN_height_0 hL (CJ.mono (t_highest i1 hP bP lP) (fun r υ _ hυ => ?_)))
    obtain ⟨rfl, rfl⟩ := hυ
    refine CJ.mono (t_highest i7 hM bM lM) (fun r υ' _ hυ => ?_)
    rw [hυ.2, ← e1]
    exact ⟨⟨by rw [e1]; omega, by rw [e1]; omega⟩, hυ.1, rfl⟩
  · refine CJ.go (fun _ => k_LN_depth_0 hL (CJ.mono (t_deepest i1 hP bP lP) (fun r υ _ hυ => ?_)))
    obtain ⟨rfl, rfl⟩ := hυ
    refine CJ.mono (t_deepest i7 hM bM lM) (fun r υ' _ hυ => ?_)
    rw [hυ.2, ← e2]
    exact ⟨⟨by rw [e2]; omega, by rw [e2]; omega⟩, hυ.1, rfl⟩
theorem lkR_pos {σ : St} (hS : IS σ) (hT : IT σ) {a b : Nat} (hab : a ≤ b) (hb : b < nW σ) : lkR σ (wfu σ a) (wE σ b) = true ↔ ∃ i, wa σ a ≤ i ∧ i ≤ we σ b ∧ sd (ts σ) i = true ∧ σ.1 105 (4 * (tx σ i).toNat) = 0 := by
  obtain ⟨f1, f2, f3, f4, f5, f6, f7, f8, f9⟩ := word_rng hS hT hab hb
  obtain ⟨a1, a2, -⟩ := word_ex (show a < nW σ by omega)
  rw [lkR_iff]
  constructor
  · rintro ⟨v, v1, v2, v3⟩
    unfold lk at v3
    rw [List.any_eq_true] at v3
    obtain ⟨i, i0, i2⟩ := v3
    rw [List.mem_range] at i0
    unfold lkb at i2
    simp only [Bool.and_eq_true, decide_eq_true_iff] at i2
    obtain ⟨i3, i4, i5⟩ := i2
    refine ⟨i, ?_, ?_, i3, i4⟩
    · rcases Nat.lt_or_ge i (wa σ a) with x | x
      · have : uc σ (i + 1) ≤ uc σ (wa σ a) := uc_mono x
        unfold wfu at v1
        omega
      · exact x
    · rcases Nat.lt_or_ge (we σ b) i with x | x
      · have h : uc σ (we σ b + 1) ≤ uc σ i := uc_mono x
        rw [uc_s i3] at i5
        unfold wE at v2
        by_cases z : v + 1 = uc σ (we σ b + 1)
        · -- the unit ends at the word's end, so i is not behind it
          have hnu : wE σ b ≤ nU σ := f2.1
          rcases f2.2 with y | y
          · have hle := uc_le (σ := σ) (i := i)
            have hv : v < nU σ := by unfold wE at y; omega
            have hne : sd (ts σ) (we σ b + 1) = false ∨ we σ b + 1 = tn σ := by
              obtain ⟨-, -, -, -, -, b6, -⟩ := word_ex hb
              rcases b6 with q | q
              · exact Or.inr q
              · left; unfold sd; rw [q]; rfl
            rcases hne with q | q
            · have : we σ b + 1 ≠ i := fun e => by rw [e] at q; rw [q] at i3; exact absurd i3 (by decide)
              have := uc_lt q (show we σ b + 1 < i by omega)
              omega
            · exfalso
              have hi := (show i < tn σ from by assumption)
              omega
          · have hne : sd (ts σ) (we σ b + 1) = false := by
              obtain ⟨-, -, -, -, -, b6, -⟩ := word_ex hb
              rcases b6 with q | q
              · have : wE σ b = nU σ := by unfold wE nU; rw [q]
                have : upE σ (wE σ b) = tn σ := by unfold upE; rw [if_neg (by omega)]
                cases q2 : sd (ts σ) (we σ b + 1) with
                | false => rfl
                | true => exact absurd (show i < tn σ from by assumption) (by omega)
              · unfold sd; rw [q]; rfl
            have : we σ b + 1 ≠ i := fun e => by rw [e] at hne; rw [hne] at i3; exact absurd i3 (by decide)
            have := uc_lt hne (show we σ b + 1 < i by omega)
            omega
        · omega
      · exact x
  · rintro ⟨i, i1, i2, i3, i4⟩
    have p := uc_pos (σ := σ) (i := i)
    refine ⟨uc σ (i + 1) - 1, ?_, ?_, ?_⟩
    · unfold wfu
      rw [uc_s i3]
      have hne : wa σ a ≠ i := fun e => by have := wst_sd a2; rw [e] at this; rw [this] at i3; exact absurd i3 (by decide)
      have := uc_lt (wst_sd a2) (show wa σ a < i by omega)
      omega
    · unfold wE
      have : uc σ (i + 1) ≤ uc σ (we σ b + 1) := uc_mono (by omega)
      omega
    · unfold lk
      rw [List.any_eq_true]
      refine ⟨i, List.mem_range.mpr (by omega), ?_⟩
      unfold lkb
      simp only [Bool.and_eq_true, decide_eq_true_iff]
      exact ⟨i3, i4, by omega⟩
