/-! marks: boxes, what they touch, how far they are lifted -/
abbrev Bx : Type := Int × Int × Int × Int
def tcq (l r b t : Int) (x : Bx) : Bool := decide (l < x.2.1 ∧ x.1 < r ∧ b < x.2.2.2 ∧ x.2.2.1 < t ∧ x.2.2.1 < x.2.2.2)
def BB (bl : List Bx) : Prop := ∀ x ∈ bl, (-60000 ≤ x.1 ∧ x.1 ≤ 60000) ∧ (-60000 ≤ x.2.1 ∧ x.2.1 ≤ 60000) ∧ (-60000 ≤ x.2.2.1 ∧ x.2.2.1 ≤ 60000) ∧ (-60000 ≤ x.2.2.2 ∧ x.2.2.2 ≤ 60000)
def wyF (t : Nat → Bool) : Nat → Nat → Nat
  | 0, w => w
  | n + 1, w => if t w = true then wyF t n (w + 1) else w
theorem wyF_skip {t : Nat → Bool} : ∀ (d a n : Nat), (∀ j, a ≤ j → j < a + d → t j = true) → wyF t (n + d) a = wyF t n (a + d)
  | 0, _, _, _ => rfl
  | d + 1, a, n, h => by
    show (if t a = true then wyF t (n + d) (a + 1) else a) = _
    rw [if_pos (h a (by omega) (by omega)), wyF_skip d (a + 1) n (fun j h1 h2 => h j (by omega) (by omega)), show a + 1 + d = a + (d + 1) by omega]
theorem wyF_le {t : Nat → Bool} : ∀ n a, wyF t n a ≤ a + n ∧ a ≤ wyF t n a
  | 0, a => ⟨Nat.le_refl _, Nat.le_refl _⟩
  | n + 1, a => by
    unfold wyF
    split
    · have := wyF_le (t := t) n (a + 1); omega
    · omega
def wyT (bs : List Bx) (ab : Bool) (l r b0 h : Int) (w : Nat) : Bool := bs.any (tcq l r (if ab = true then b0 + w else b0 - w) ((if ab = true then b0 + w else b0 - w) + h))
def wyA (bs : List Bx) (ab : Bool) (l r b0 h : Int) : Nat := if h ≤ 0 then 0 else wyF (wyT bs ab l r b0 h) 300 0
theorem wyA_le {bs : List Bx} {ab : Bool} {l r b0 h : Int} : wyA bs ab l r b0 h ≤ 300 := by
  unfold wyA
  split
  · omega
  · have := wyF_le (t := wyT bs ab l r b0 h) 300 0; omega
/-- the boxes at B -/
def BXt (B : Nat) (bl : List Bx) (τ : St) : Prop := τ.2.1 B 0 = bl.length ∧ ∀ k x, bl[k]? = some x → τ.1 (B + 1) k = x.1 ∧ τ.1 (B + 2) k = x.2.1 ∧ τ.1 (B + 3) k = x.2.2.1 ∧ τ.1 (B + 4) k = x.2.2.2
def wo (bl : List Bx) (ab : Bool) (l r b t : Int) : Int := if t ≤ b then 0 else match bl.find? (tcq l r b t) with
  | none => 0
  | some x => if ab = true then x.2.2.2 - b else t - x.2.2.1
theorem t_wayOff {G : GT} {τ : St} {B : Nat} {bl : List Bx} (hB : isB B) (h : BXt B bl τ) (hbb : BB bl) (h80 : bl.length ≤ 80) {l r b t : Int} {ab : Bool} (hl : -60000 ≤ l ∧ l ≤ 60000) (hr : -60000 ≤ r ∧ r ≤ 60000) (hb : -60000 ≤ b ∧ b ≤ 60000) (ht : -60000 ≤ t ∧ t ≤ 60000) : CJ G m_BX_wayOff [O B, I l, I r, I b, I t, I (if ab = true then 1 else 0)] τ (fun res υ => υ = τ ∧ res = wo bl ab l r b t) := by
  refine CJ.go (fun _ => k_BX_wayOff_0 hB ⟨⟨by omega, by omega⟩, ⟨by omega, by omega⟩, fun z => ?_, fun z => ⟨rfl, ?_⟩⟩)
  · have loop : ∀ (d k : Nat), k + d = bl.length → (∀ j x, j < k → bl[j]? = some x → tcq l r b t x = false) → a_BX_wayOff_11 G B l r b t (if ab = true then 1 else 0) k τ (fun res υ => υ = τ ∧ res = wo bl ab l r b t) := by
      intro d
      induction d with
      | zero =>
        intro k hk hno
        refine k_BX_wayOff_11 hB ?_
        rw [h.1]
        refine ⟨⟨by omega, by omega⟩, fun _ => ⟨rfl, ?_⟩, fun z => absurd z (by omega)⟩
        have : bl.find? (tcq l r b t) = none := by
          rw [List.find?_eq_none]
          intro x hx
          obtain ⟨j, hj, e⟩ := List.getElem_of_mem hx
          rw [hno j x (by omega) (by rw [← e]; exact List.getElem?_eq_getElem hj)]
          decide
        unfold wo
        rw [if_neg (by omega), this]
      | succ d ih =>
        intro k hk hno
        have hkl : k < bl.length := by omega
        obtain ⟨x, hx⟩ : ∃ x, bl[k]? = some x := ⟨bl[k], List.getElem?_eq_getElem hkl⟩
        obtain ⟨x1, x2, x3, x4⟩ := h.2 k x hx
        obtain ⟨y1, y2, y3, y4⟩ := hbb x (List.mem_of_getElem? hx)
        have go : tcq l r b t x = false → a_BX_wayOff_11 G B l r b t (if ab = true then 1 else 0) ((k : Int) + 1) τ (fun res υ => υ = τ ∧ res = wo bl ab l r b t) := fun hf => by
          refine ih (k + 1) (by omega) (fun j y hj hy => ?_)
          by_cases e : j = k
          · rw [e, hx] at hy
            rw [← Option.some.inj hy]; exact hf
          · exact hno j y (by omega) hy
        refine k_BX_wayOff_11 hB ?_
        rw [h.1, Int.toNat_natCast, x1, x2, x3, x4]
        refine ⟨⟨by omega, by omega⟩, fun z => absurd z (by omega), fun _ => ⟨by omega, ⟨by omega, by omega⟩, fun _ => ⟨by omega, by omega⟩, ⟨by omega, by omega⟩, fun _ => ⟨by omega, by omega⟩, fun z => go ?_, fun z1 => ⟨fun z => go ?_, fun z2 => ⟨by split <;> exact ⟨by decide, by decide⟩, ?_, rfl, ?_⟩⟩⟩⟩
        · unfold tcq
          rw [decide_eq_false_iff_not]
          omega
        · unfold tcq
          rw [decide_eq_false_iff_not]
          omega
        · cases ab <;> simp <;> exact ⟨by omega, by omega⟩
        · have ht : tcq l r b t x = true := by
            unfold tcq
            rw [decide_eq_true_iff]
            omega
          have hf : bl.find? (tcq l r b t) = some x := by
            have e : bl = bl.take k ++ x :: bl.drop (k + 1) := by
              have hge : bl[k] = x := by rw [List.getElem?_eq_getElem hkl] at hx; exact Option.some.inj hx
              rw [← hge, ← List.drop_eq_getElem_cons hkl, List.take_append_drop]
            rw [e, List.find?_append, List.find?_cons, ht]
            have : (bl.take k).find? (tcq l r b t) = none := by
              rw [List.find?_eq_none]
              intro y hy
              obtain ⟨j, hj, e2⟩ := List.getElem_of_mem hy
              simp at hj
              have : bl[j]? = some y := by
                rw [← e2, List.getElem_take]
                exact List.getElem?_eq_getElem (by omega)
              rw [hno j y (by omega) this]
              decide
            rw [this]
            rfl
          unfold wo
          rw [if_neg (show ¬ t ≤ b by omega), hf]
          cases ab <;> simp
    exact loop bl.length 0 (by omega) (fun j x hj => absurd hj (by omega))
  · unfold wo
    rw [if_pos z]
theorem wo_spec {bl : List Bx} {ab : Bool} {l r b t : Int} : (wo bl ab l r b t = 0 ∧ (t ≤ b ∨ bl.any (tcq l r b t) = false)) ∨ (0 < wo bl ab l r b t ∧ b < t ∧ ∃ x ∈ bl, tcq l r b t x = true ∧ wo bl ab l r b t = if ab = true then x.2.2.2 - b else t - x.2.2.1) := by
  unfold wo
  by_cases z : t ≤ b
  · left; rw [if_pos z]; exact ⟨rfl, Or.inl z⟩
  · rw [if_neg z]
    cases hf : bl.find? (tcq l r b t) with
    | none =>
      left
      refine ⟨rfl, Or.inr ?_⟩
      rw [List.any_eq_false]
      intro x hx
      exact List.find?_eq_none.mp hf x hx
    | some x =>
      right
      have hx := List.find?_some hf
      have hm := List.mem_of_find?_eq_some hf
      have hx2 := hx
      unfold tcq at hx2
      rw [decide_eq_true_iff] at hx2
      refine ⟨?_, by omega, x, hm, hx, rfl⟩
      show 0 < (if ab = true then x.2.2.2 - b else t - x.2.2.1)
      split <;> omega
theorem wyT_app {pb mb : List Bx} {ab : Bool} {l r b0 h : Int} {w : Nat} : wyT (pb ++ mb) ab l r b0 h w = (pb.any (tcq l r (if ab = true then b0 + w else b0 - w) ((if ab = true then b0 + w else b0 - w) + h)) || mb.any (tcq l r (if ab = true then b0 + w else b0 - w) ((if ab = true then b0 + w else b0 - w) + h))) := by
  unfold wyT
  rw [List.any_append]
/-- a box that touches goes on touching till it is past -/
theorem wyT_jump {bs : List Bx} {ab : Bool} {l r b0 h : Int} {w : Nat} {x : Bx} (hh : 0 < h) (hx : x ∈ bs) (ht : tcq l r (if ab = true then b0 + w else b0 - w) ((if ab = true then b0 + w else b0 - w) + h) x = true) (j : Nat) (h1 : w ≤ j) (h2 : (j : Int) < (w : Int) + (if ab = true then x.2.2.2 - (if ab = true then b0 + w else b0 - w) else (if ab = true then b0 + w else b0 - w) + h - x.2.2.1)) : wyT bs ab l r b0 h j = true := by
  unfold wyT
  rw [List.any_eq_true]
  refine ⟨x, hx, ?_⟩
  unfold tcq at ht ⊢
  rw [decide_eq_true_iff] at ht ⊢
  cases ab
  · simp at ht h2 ⊢
    omega
  · simp at ht h2 ⊢
    omega
/-- the marks' table of the class -/
abbrev Mk : Type := Nat × Nat × Bx × Nat
def mbl (ms : List Mk) : List Bx := ms.map (fun m => m.2.2.1)
def MKt (M : Nat) (ms : List Mk) (τ : St) : Prop := BXt (M + 1) (mbl ms) τ ∧ ∀ k m, ms[k]? = some m → τ.1 (M + 6) k = m.1 ∧ τ.1 (M + 7) k = m.2.1 ∧ τ.1 (M + 8) k = m.2.2.2
theorem t_lift {G : GT} {τ : St} {L : Nat} {pb mb : List Bx} (hL : isL L) (hP : BXt (L + 1) pb τ) (hM : BXt (L + 7) mb τ) (bP : BB pb) (bM : BB mb) (lP : pb.length ≤ 80) (lM : mb.length < 80) {l w e h : Int} {ab : Bool} (hl : -20000 ≤ l ∧ l ≤ 20000) (hw : 0 ≤ w ∧ w ≤ 100) (he : -50000 ≤ e ∧ e ≤ 50000) (hh : 0 ≤ h ∧ h ≤ 100) : CJ G m_MK_lift [O (L + 6), I l, I w, I e, I h, I (if ab = true then 1 else 0), O (L + 1)] τ (fun res υ => ∃ (b : Int) (wy : Nat), wy = wyA (pb ++ mb) ab l (l + w) (if ab = true then e else e - h) h ∧ b = (if ab = true then e + wy else e - h - wy) ∧ res = (if ab = true then b + h else b) ∧ BXt (L + 7) (mb ++ [(l, l + w, b, b + h)]) υ ∧ υ.1 (L + 14) mb.length = wy ∧ (∀ i, i ≠ mb.length → υ.1 (L + 14) i = τ.1 (L + 14) i) ∧ (∀ k, (k < L + 8 ∨ L + 14 < k ∨ k = L + 12 ∨ k = L + 13) → υ.1 k = τ.1 k) ∧ (∀ k, k ≠ L + 7 → υ.2.1 k = τ.2.1 k) ∧ υ.2.2 = τ.2.2) := by
  have hL2 : L = 9 ∨ L = 28 := hL
  have iM : isM (L + 6) := by rcases hL2 with e | e <;> rw [e]; exact Or.inl rfl; exact Or.inr rfl
  have iB : isB (L + 1) := by rcases hL2 with e | e <;> rw [e]; exact Or.inl rfl; exact Or.inr (Or.inr (Or.inl rfl))
  have iB7 : isB (L + 6 + 1) := by rcases hL2 with e | e <;> rw [e]; exact Or.inr (Or.inl rfl); exact Or.inr (Or.inr (Or.inr rfl))
  have up01 : (if ab = true then (1 : Int) else 0) = 0 ↔ ab = false := by cases ab <;> simp
  refine CJ.go (fun _ => k_MK_lift_0 iM iB ⟨by split <;> exact ⟨by decide, by decide⟩, ?_⟩)
  obtain ⟨b0, hb0⟩ : ∃ b0 : Int, (if ab = true then e else e - h) = b0 := ⟨_, rfl⟩
  have hb0' : (if (if ab = true then (1 : Int) else 0) = 0 then e - h else e) = b0 := by
    rw [← hb0]
    cases ab <;> simp
  rw [hb0', hb0]
  have bb0 : -50100 ≤ b0 ∧ b0 ≤ 50000 := by
    rw [← hb0]
    split <;> omega
  have low : ∀ wy : Nat, (b0 + (if (if ab = true then (1 : Int) else 0) = 0 then -(wy : Int) else (wy : Int))) = if ab = true then b0 + wy else b0 - wy := fun wy => by cases ab <;> simp <;> omega
  obtain ⟨t, ht⟩ : ∃ t, wyT (pb ++ mb) ab l (l + w) b0 h = t := ⟨_, rfl⟩
  -- the end
  have fin : ∀ wy : Nat, wy ≤ 300 → wy = wyA (pb ++ mb) ab l (l + w) b0 h → a_MK_lift_133 G (L + 6) (L + 1) l w h (if ab = true then 1 else 0) wy b0 τ (fun res υ => ∃ (b : Int) (wy : Nat), wy = wyA (pb ++ mb) ab l (l + w) b0 h ∧ b = (if ab = true then e + wy else e - h - wy) ∧ res = (if ab = true then b + h else b) ∧ BXt (L + 7) (mb ++ [(l, l + w, b, b + h)]) υ ∧ υ.1 (L + 14) mb.length = wy ∧ (∀ i, i ≠ mb.length → υ.1 (L + 14) i = τ.1 (L + 14) i) ∧ (∀ k, (k < L + 8 ∨ L + 14 < k ∨ k = L + 12 ∨ k = L + 13) → υ.1 k = τ.1 k) ∧ (∀ k, k ≠ L + 7 → υ.2.1 k = τ.2.1 k) ∧ υ.2.2 = τ.2.2) := by
    intro wy hwy hwe
    have cM : τ.2.1 (L + 6 + 1) 0 = mb.length := hM.1
    refine k_MK_lift_133 iM iB ?_
    rw [cM, low wy, Int.toNat_natCast]
    obtain ⟨b, hb⟩ : ∃ b : Int, (if ab = true then b0 + (wy : Int) else b0 - (wy : Int)) = b := ⟨_, rfl⟩
    rw [hb]
    have bbd : -50400 ≤ b ∧ b ≤ 50300 := by rw [← hb]; split <;> omega
    refine ⟨by split <;> exact ⟨by decide, by decide⟩, by omega, ⟨by omega, by omega⟩, fun s17 e17 => ?_⟩
    have c17 : s17.2.1 (L + 6 + 1) 0 = mb.length := by rw [e17]; exact cM
    refine CJ.go (fun _ => k_BX_addBox_0 iB7 ?_)
    rw [c17, Int.toNat_natCast]
    refine ⟨by omega, ⟨by omega, by omega⟩, fun t4 f4 => ⟨⟨by omega, by omega⟩, fun t8 f8 => ⟨⟨by omega, by omega⟩, fun t12 f12 => ⟨⟨by omega, by omega⟩, fun t16 f16 => ⟨⟨by omega, by omega⟩, fun t19 f19 => ?_⟩⟩⟩⟩⟩
    have hres : (if (if ab = true then (1 : Int) else 0) = 0 then b else b + h) = if ab = true then b + h else b := by cases ab <;> simp
    rw [hres]
    have A : ∀ k i, t19.1 k i = if k = L + 11 ∧ i = mb.length then b + h else if k = L + 10 ∧ i = mb.length then b else if k = L + 9 ∧ i = mb.length then l + w else if k = L + 8 ∧ i = mb.length then l else if k = L + 14 ∧ i = mb.length then (wy : Int) else τ.1 k i := fun k i => by
      rw [f19, f16, f12, f8, f4, e17]
      show (sa _ (L + 6 + 1 + 4) _ _).1 k i = _
      rw [show L + 6 + 1 + 4 = L + 11 by omega, show L + 6 + 1 + 3 = L + 10 by omega, show L + 6 + 1 + 2 = L + 9 by omega, show L + 6 + 1 + 1 = L + 8 by omega, show L + 6 + 8 = L + 14 by omega]
      rfl
    have Ef : t19.2 = (sf τ (L + 7) 0 ((mb.length : Int) + 1)).2 := by rw [f19, f16, f12, f8, f4, e17]; rfl
    refine ⟨by split <;> exact ⟨by omega, by omega⟩, b, wy, hwe, ?_, rfl, ⟨?_, fun k x hx => ?_⟩, ?_, fun i hi => ?_, fun k hk => funext fun i => ?_, fun k hk => ?_, by rw [Ef]; rfl⟩
    · rw [← hb, ← hb0]
      cases ab <;> simp
    · rw [Ef, sf_at]; simp
    · by_cases hk : k < mb.length
      · rw [List.getElem?_append_left hk] at hx
        have hne : k ≠ mb.length := by omega
        have R : ∀ a, t19.1 a k = τ.1 a k := fun a => by rw [A]; simp [hne]
        rw [R, R, R, R]
        exact hM.2 k x hx
      · have hk2 : k = mb.length := by
          have := (List.getElem?_eq_some_iff.mp hx).1
          simp at this
          omega
        subst hk2
        rw [List.getElem?_concat_length] at hx
        have hx2 := Option.some.inj hx
        subst hx2
        refine ⟨?_, ?_, ?_, ?_⟩ <;> rw [A] <;> simp <;> omega
    · rw [A]; simp
    · rw [A]; simp [hi]
    · rw [A, if_neg (by omega), if_neg (by omega), if_neg (by omega), if_neg (by omega), if_neg (by omega)]
    · rw [Ef, sf_ne hk]
  have loop : ∀ (d tn' wy : Nat), wy + d = 300 → tn' ≤ wy → (0 < h → wyF t (300 - wy) wy = wyF t 300 0) → (h ≤ 0 → wy = 0) → a_MK_lift_21 G (L + 6) (L + 1) l w h (if ab = true then 1 else 0) wy b0 tn' τ (fun res υ => ∃ (b : Int) (wy : Nat), wy = wyA (pb ++ mb) ab l (l + w) b0 h ∧ b = (if ab = true then e + wy else e - h - wy) ∧ res = (if ab = true then b + h else b) ∧ BXt (L + 7) (mb ++ [(l, l + w, b, b + h)]) υ ∧ υ.1 (L + 14) mb.length = wy ∧ (∀ i, i ≠ mb.length → υ.1 (L + 14) i = τ.1 (L + 14) i) ∧ (∀ k, (k < L + 8 ∨ L + 14 < k ∨ k = L + 12 ∨ k = L + 13) → υ.1 k = τ.1 k) ∧ (∀ k, k ≠ L + 7 → υ.2.1 k = τ.2.1 k) ∧ υ.2.2 = τ.2.2) := by
    intro d
    induction d using Nat.strongRecOn with
    | _ d ihd =>
      intro tn' wy hd htn hfw h0
      have full : wy = 300 → wy = wyA (pb ++ mb) ab l (l + w) b0 h := fun q => by
        unfold wyA
        by_cases z : h ≤ 0
        · have := h0 z; omega
        · rw [if_neg z, ht]
          have := hfw (by omega)
          rw [q] at this
          rw [q, ← this]
          rfl
      obtain ⟨b, hb⟩ : ∃ b : Int, (if ab = true then b0 + (wy : Int) else b0 - (wy : Int)) = b := ⟨_, rfl⟩
      have bbd : -50400 ≤ b ∧ b ≤ 50300 := by rw [← hb]; split <;> omega
      refine k_MK_lift_21 iM iB ?_
      rw [low wy, hb]
      refine ⟨⟨by omega, by omega⟩, fun z => fin wy (by omega) (full (by omega)), fun _ => ⟨⟨by omega, by omega⟩, fun z => fin wy (by omega) (full (by omega)), fun z => ⟨by split <;> exact ⟨by decide, by decide⟩, ?_⟩⟩⟩
      -- a step
      have step : ∀ (r6 : Int) (x : Bx), 0 < r6 → b < b + h → x ∈ pb ++ mb → tcq l (l + w) b (b + h) x = true → r6 = (if ab = true then x.2.2.2 - b else b + h - x.2.2.1) → r6 ≤ 200000 → rng ((wy : Int) + r6) ∧ a_MK_lift_21 G (L + 6) (L + 1) l w h (if ab = true then 1 else 0) (min ((wy : Int) + r6) 300) b0 ((tn' : Int) + 1) τ (fun res υ => ∃ (b : Int) (wy : Nat), wy = wyA (pb ++ mb) ab l (l + w) b0 h ∧ b = (if ab = true then e + wy else e - h - wy) ∧ res = (if ab = true then b + h else b) ∧ BXt (L + 7) (mb ++ [(l, l + w, b, b + h)]) υ ∧ υ.1 (L + 14) mb.length = wy ∧ (∀ i, i ≠ mb.length → υ.1 (L + 14) i = τ.1 (L + 14) i) ∧ (∀ k, (k < L + 8 ∨ L + 14 < k ∨ k = L + 12 ∨ k = L + 13) → υ.1 k = τ.1 k) ∧ (∀ k, k ≠ L + 7 → υ.2.1 k = τ.2.1 k) ∧ υ.2.2 = τ.2.2) := by
        intro r6 x hr hbt hx htx hrx hr2
        refine ⟨⟨by omega, by omega⟩, ?_⟩
        obtain ⟨w2, hw2⟩ : ∃ w2 : Nat, min ((wy : Int) + r6) 300 = w2 := ⟨(min ((wy : Int) + r6) 300).toNat, by omega⟩
        rw [hw2, show ((tn' : Int) + 1) = ((tn' + 1 : Nat) : Int) by omega]
        refine ihd (300 - w2) (by omega) (tn' + 1) w2 (by omega) (by omega) (fun hh => ?_) (fun hh => by omega)
        rw [← hfw hh]
        have hsk := wyF_skip (t := t) (w2 - wy) wy (300 - w2) (fun j h1 h2 => ?_)
        · rw [show 300 - w2 + (w2 - wy) = 300 - wy by omega, show wy + (w2 - wy) = w2 by omega] at hsk
          exact hsk.symm
        · rw [← ht]
          refine wyT_jump hh hx (by rw [hb]; exact htx) j h1 ?_
          rw [hb, ← hrx]
          omega
      have nostep : wo pb ab l (l + w) b (b + h) = 0 → wo mb ab l (l + w) b (b + h) = 0 → wy = wyA (pb ++ mb) ab l (l + w) b0 h := fun q1 q2 => by
        unfold wyA
        by_cases zz : h ≤ 0
        · rw [if_pos zz]; exact h0 zz
        · rw [if_neg zz, ht, ← hfw (by omega)]
          have n1 : pb.any (tcq l (l + w) b (b + h)) = false := by
            rcases wo_spec (bl := pb) (ab := ab) (l := l) (r := l + w) (b := b) (t := b + h) with ⟨_, y⟩ | ⟨y, _⟩
            · rcases y with y | y
              · omega
              · exact y
            · omega
          have n2 : mb.any (tcq l (l + w) b (b + h)) = false := by
            rcases wo_spec (bl := mb) (ab := ab) (l := l) (r := l + w) (b := b) (t := b + h) with ⟨_, y⟩ | ⟨y, _⟩
            · rcases y with y | y
              · omega
              · exact y
            · omega
          have ef : t wy = false := by
            rw [← ht, wyT_app, hb, n1, n2]
            rfl
          obtain ⟨m, hm⟩ : ∃ m, 300 - wy = m + 1 := ⟨299 - wy, by omega⟩
          rw [hm]
          show wy = if t wy = true then _ else wy
          rw [ef, if_neg (by decide)]
      refine CJ.mono (t_wayOff iB hP bP lP (l := l) (r := l + w) (b := b) (t := b + h) (ab := ab) (by omega) (by omega) (by omega) (by omega)) (fun r6 u5 _ hu5 => ?_)
      obtain ⟨hu5, hr6⟩ := hu5
      rw [hu5]
      refine ⟨fun z1 => ⟨fun _ => ?_, fun z2 => absurd z2 z1⟩, fun z1 => ?_⟩
      · rcases wo_spec (bl := pb) (ab := ab) (l := l) (r := l + w) (b := b) (t := b + h) with ⟨y, _⟩ | ⟨y1, y2, x, y3, y4, y5⟩
        · omega
        · obtain ⟨c1, c2, c3, c4⟩ := bP x y3
          refine step r6 x (by omega) y2 (List.mem_append_left _ y3) y4 (by rw [hr6]; exact y5) ?_
          rw [hr6, y5]
          split <;> omega
      · refine CJ.mono (t_wayOff iB7 hM bM (by omega) (l := l) (r := l + w) (b := b) (t := b + h) (ab := ab) (by omega) (by omega) (by omega) (by omega)) (fun r10 u9 _ hu9 => ?_)
        obtain ⟨hu9, hr10⟩ := hu9
        rw [hu9]
        refine ⟨fun z2 => ?_, fun z2 => fin wy (by omega) (nostep (by omega) (by omega))⟩
        rcases wo_spec (bl := mb) (ab := ab) (l := l) (r := l + w) (b := b) (t := b + h) with ⟨y, _⟩ | ⟨y1, y2, x, y3, y4, y5⟩
        · omega
        · obtain ⟨c1, c2, c3, c4⟩ := bM x y3
          refine step r10 x (by omega) y2 (List.mem_append_right _ y3) y4 (by rw [hr10]; exact y5) ?_
          rw [hr10, y5]
          split <;> omega
  exact loop 300 0 0 (by omega) (Nat.le_refl _) (fun _ => rfl) (fun _ => rfl)
