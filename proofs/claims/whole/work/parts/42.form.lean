/-! form -/
theorem endS {σ : St} (h : IS σ) {l : Nat} (hl : (l : Int) < σ.2.1 8 6) : σ.1 48 l = (if σ.1 89 l ≠ 7 then σ.1 89 l else σ.1 89 ((if 0 ≤ σ.1 92 l then σ.1 92 l else σ.1 91 l).toNat)) ∧ (σ.1 89 l = 7 → 0 ≤ (if 0 ≤ σ.1 92 l then σ.1 92 l else σ.1 91 l) ∧ (if 0 ≤ σ.1 92 l then σ.1 92 l else σ.1 91 l) < 60) := by
  have n := h.1
  unfold NumOk at n
  by_cases q : σ.1 89 l = 7
  · obtain ⟨i, i1, i2⟩ := h.2.2.2.2.1 l hl q
    obtain ⟨g, g1, g2, g3, -, -, -, -, -, x, y, x1, x2, x3, y1, y2, rest⟩ := h.2.2.2.1 i i1
    have e : g = l := by omega
    subst e
    rw [if_neg (fun z => z q)]
    rcases rest with ⟨r1, r2, r3, r4⟩ | ⟨z, z1, z2, z3, z4, z5, z6⟩
    · rw [if_neg (by omega), y1, Int.toNat_natCast]
      exact ⟨r4, fun _ => by omega⟩
    · rw [if_pos (by omega), z1, Int.toNat_natCast]
      exact ⟨z6, fun _ => by omega⟩
  · rw [if_pos q]
    exact ⟨((h.2.1 l hl).2.2.2.2 q).1, fun z => absurd z q⟩
def canF (σ : St) (a b : Int) : Prop := (σ.1 48 a.toNat ≠ 0 ∧ (b = 0 ∨ (b = 3 ∧ σ.1 48 a.toNat = 1))) ∨ (σ.1 48 a.toNat = 0 ∧ (0 ≤ b ∧ b ≤ 3))
theorem canF_iff {σ : St} (h : IS σ) {a b : Int} (ha : 0 ≤ a ∧ a ≤ σ.2.1 8 6 - 1) : canF σ a b ↔ ((0 ≤ b ∧ b ≤ 3) ∧ b_MO_canHave σ a b) := by
  obtain ⟨e, -⟩ := endS h (l := a.toNat) (by omega)
  unfold canF b_MO_canHave
  rw [← e]
  omega
theorem canF_p {σ : St} (h : IS σ) (R : Rg σ) {a b : Int} (ha : 0 ≤ a ∧ a ≤ σ.2.1 8 6 - 1) (hb : rng b) : p_MO_canHave σ a b := by
  have n := h.1
  unfold NumOk at n
  obtain ⟨e, e2⟩ := endS h (l := a.toNat) (by omega)
  refine ⟨by omega, e2, hb, fun _ => ?_⟩
  rw [← e]
  exact R.1 _ _
theorem form_err {Inv : Nat → St → Prop} {G : GT} {k : Nat} {σ : St} (hS : IS σ) (hs : Inv (k + 1) σ) {a b w h d p : Int} (hb : rng b) (hw : rng w) (hh : rng h) (hd : rng d) (hp : rng p) (ha : rng a) (ca : 0 ≤ a ∧ a ≤ σ.2.1 8 6 - 1) (bad : ¬ (canF σ a b ∧ (1 ≤ wOf w ∧ wOf w ≤ 100) ∧ (0 ≤ h ∧ h ≤ 100) ∧ (0 ≤ d ∧ d ≤ 100) ∧ (0 ≤ p ∧ p ≤ 1000))) : CJ G m_MO_form [O 8, I a, I b, I w, I h, I d, I p] σ (fun r2 σ2 => -2 = r2 ∧ Inv (k + 1) σ2) := by
  have n := hS.1
  unfold NumOk at n
  refine CJ.go (fun R => k_MO_form_0 ⟨ha, ⟨by omega, by omega⟩, fun _ => ?_, fun z => absurd ca z⟩)
  refine CJ.mono (t_rounded hw) (fun r5 u4 _ hu => ?_)
  obtain ⟨h5, rfl⟩ := hu
  rw [canF_iff hS ca] at bad
  refine ⟨hb, fun _ => ⟨rfl, hs⟩, fun z1 => ⟨canF_p hS R ca hb, fun _ => ⟨rfl, hs⟩, fun z2 => ⟨fun _ => ⟨rfl, hs⟩, fun z3 => ⟨hh, fun _ => ⟨rfl, hs⟩, fun z4 => ⟨hd, fun _ => ⟨rfl, hs⟩, fun z5 => ⟨hp, fun z6 => ?_, fun _ => ⟨rfl, hs⟩⟩⟩⟩⟩⟩⟩
  exact absurd ⟨⟨z1, z2⟩, by omega, z4, z5, z6⟩ bad
theorem so_form {Inv : Nat → St → Prop} (hI : GoodI Inv) (G : GT) : SO_form G Inv := by
  intro k σ hk hi a b w h d p ha hb hw hh hd hp
  obtain ⟨hB, hF⟩ := hI.1 k σ hi
  obtain ⟨hS, hT, hC, hH⟩ := id hB
  have hs := hI.2.1 k σ hi
  have n := hS.1
  unfold NumOk at n
  have hf := hF
  unfold Fl at hf
  by_cases ca : 0 ≤ a ∧ a ≤ σ.2.1 8 6 - 1
  · refine CJ.go (fun R => k_JS_form_0 ⟨ha, fun _ => ⟨by omega, by omega⟩, fun _ => ?_, fun z => absurd z (by omega)⟩)
    refine CJ.mono (t_wholeWidth hw) (fun r5 u4 _ hu => ?_)
    obtain ⟨rfl, hu⟩ := hu
    rw [hu]
    clear hu
    refine ⟨by omega, ⟨fun _ => hb, fun _ => ⟨hb, fun _ => ⟨by decide, by decide⟩⟩⟩, fun z => form_err hS hs hb hw hh hd hp ha ca (fun q => z q.1), fun z1 => ⟨fun _ => ⟨by decide, by decide⟩, fun z => form_err hS hs hb hw hh hd hp ha ca (fun q => z q.2.1), fun z2 => ⟨hh, fun _ => ⟨by decide, by decide⟩, fun z => form_err hS hs hb hw hh hd hp ha ca (fun q => z q.2.2.1), fun z3 => ⟨hd, fun _ => ⟨by decide, by decide⟩, fun z => form_err hS hs hb hw hh hd hp ha ca (fun q => z q.2.2.2.1), fun z4 => ⟨hp, fun _ => ⟨by decide, by decide⟩, fun z5 => ?_, fun z => form_err hS hs hb hw hh hd hp ha ca (fun q => z q.2.2.2.2)⟩⟩⟩⟩⟩
    have bnd : 0 ≤ b ∧ b ≤ 3 := ((canF_iff hS ca).mp z1).1
    have SL := hS.2.2.2.2.2.2.2.2.2.1 (4 * a + b).toNat (by omega)
    have eq1 : (a * 4 + b).toNat = (4 * a + b).toNat := by omega
    rw [eq1]
    obtain ⟨A, hA⟩ : ∃ A : Nat, (4 * a + b).toNat = A := ⟨_, rfl⟩
    rw [hA] at SL
    obtain ⟨F, hFn⟩ : ∃ F : Nat, σ.2.1 8 17 = F := ⟨(σ.2.1 8 17).toNat, by omega⟩
    obtain ⟨sl1, sl2, sl3⟩ := id SL
    obtain ⟨c, hc⟩ : ∃ c : Nat, σ.1 105 A = c := ⟨(σ.1 105 A).toNat, by omega⟩
    rw [hA, sl1, hc]
    -- the reference's answers, from a picture that agrees with σ
    refine ⟨fun q => ?_, fun q1 => ⟨by omega, fun q2 => ⟨⟨by omega, by omega⟩, fun σ25 e25 => ?_⟩, fun q2 => ?_⟩⟩
    · refine CJ.go (fun _ => k_MO_form_0 ⟨ha, ⟨by omega, by omega⟩, fun _ => ?_, fun z => absurd ca z⟩)
      refine CJ.mono (t_rounded hw) (fun r6 u4 _ hu => ?_)
      obtain ⟨h6, hu⟩ := hu
      rw [hu]
      clear hu
      refine ⟨hb, fun z => absurd bnd z, fun _ => ⟨canF_p hS R ca hb, fun z => absurd ((canF_iff hS ca).mp z1).2 z, fun _ => ⟨fun z => absurd z (by omega), fun _ => ⟨hh, fun z => absurd z3 z, fun _ => ⟨hd, fun z => absurd z4 z, fun _ => ⟨hp, fun _ => ⟨by omega, fun _ => ⟨rfl, hs⟩, fun _ => ⟨fun z => absurd z (by omega), fun _ => ⟨rfl, hs⟩⟩⟩, fun z => absurd z5 z⟩⟩⟩⟩⟩⟩
    · have y55 : σ25.1 = σ.1 := by rw [e25]; rfl
      have y12 : σ25.2.1 1 2 = F := by rw [e25]; show σ.2.1 1 2 = F; omega
      have fa : ∀ (x : St), x = x → True := fun _ _ => trivial
      refine CJ.go (fun _ => k_SC_addForm_0 ?_)
      rw [y12]
      refine ⟨by omega, ha, fun s4 f4 => ⟨hb, fun s7 f7 => ?_⟩⟩
      have g55 : s7.1 55 (a * 4 + b).toNat = c := by rw [f7, f4, sa_ne (by omega), sa_ne (by omega), y55, eq1, hA, sl1, hc]
      rw [g55]
      refine ⟨by omega, by omega, fun s12 f12 => ⟨⟨by omega, by omega⟩, fun s16 f16 => ⟨⟨by omega, by omega⟩, fun s19 f19 => ?_⟩⟩⟩
      refine ⟨by omega, fun s32 f32 s34 f34 s36 f36 s38 f38 => ⟨by omega, ⟨by omega, by omega⟩, fun s42 f42 => ?_⟩⟩
      rw [Int.toNat_natCast] at f4 f7 f32 f34 f36 f38 f42
      rw [eq1, hA] at f16
      have ix : ((a * 4 + b) * 3 + (c : Int)).toNat = 3 * A + c := by omega
      rw [ix] at f12
      have RJ : ∀ k i, s42.1 k i = if k = 176 + F ∧ i = 6 then wOf w / 2 else if k = 176 + F ∧ i = 5 then p else if k = 176 + F ∧ i = 4 then d else if k = 176 + F ∧ i = 3 then h else if k = 176 + F ∧ i = 2 then wOf w else if k = 55 ∧ i = A then (c : Int) + 1 else if k = 56 ∧ i = 3 * A + c then (F : Int) else if k = 176 + F ∧ i = 1 then b else if k = 176 + F ∧ i = 0 then a else σ.1 k i := fun k i => by
        rw [f42, f38, f36, f34, f32, f19, f16, f12, f7, f4, e25]; rfl
      have FJ : s42.2 = (sf (sf σ 0 9 (σ.2.1 0 9 + 1)) 1 2 (F + 1)).2 := by
        rw [f42, f38, f36, f34, f32, f19, f16, f12, f7, f4, e25]; rfl
      have lowJ : ∀ k, 57 ≤ k → k < 176 → s42.1 k = σ.1 k := fun k h1 h2 => funext fun i => by
        rw [RJ, if_neg (by omega), if_neg (by omega), if_neg (by omega), if_neg (by omega), if_neg (by omega), if_neg (by omega), if_neg (by omega), if_neg (by omega), if_neg (by omega)]
      have m6 : s42.2.1 8 6 = σ.2.1 8 6 := by rw [FJ]; simp [sf_2]
      have m17 : s42.2.1 8 17 = F := by rw [FJ]; simp [sf_2, hFn]
      refine CJ.go (fun R2 => k_MO_form_0 ⟨ha, ⟨by omega, by omega⟩, fun _ => ?_, fun z => absurd (by rw [m6]; exact ca) z⟩)
      refine CJ.mono (t_rounded hw) (fun r6 u4 _ hu => ?_)
      obtain ⟨h6, hu⟩ := hu
      rw [hu]
      clear hu
      have r6e : r6 = wOf w := by omega
      subst r6e
      have pc : p_MO_canHave s42 a b := by
        have := canF_p hS R ca hb
        unfold p_MO_canHave at this ⊢
        rw [lowJ 89 (by decide) (by decide), lowJ 91 (by decide) (by decide), lowJ 92 (by decide) (by decide)]
        exact this
      have bc : b_MO_canHave s42 a b := by
        have := ((canF_iff hS ca).mp z1).2
        unfold b_MO_canHave at this ⊢
        rw [lowJ 89 (by decide) (by decide), lowJ 91 (by decide) (by decide), lowJ 92 (by decide) (by decide)]
        exact this
      rw [lowJ 105 (by decide) (by decide), m17, hA, hc]
      refine ⟨hb, fun z => absurd bnd z, fun _ => ⟨pc, fun z => absurd bc z, fun _ => ⟨fun z => absurd z (by omega), fun _ => ⟨hh, fun z => absurd z3 z, fun _ => ⟨hd, fun z => absurd z4 z, fun _ => ⟨hp, fun _ => ⟨by omega, fun z => absurd z (by omega), fun _ => ⟨fun _ => ⟨by omega, fun t1 g1 t2 g2 t3 g3 t4 g4 t5 g5 t6 g6 => ⟨by omega, ⟨by omega, by omega⟩, fun t7 g7 t8 g8 t9 g9 => ⟨by omega, fun t10 g10 => ⟨⟨by omega, by omega⟩, fun t11 g11 => ⟨⟨by omega, by omega⟩, fun t12 g12 => ?_⟩⟩⟩⟩⟩, fun z => absurd z (by omega)⟩⟩, fun z => absurd z5 z⟩⟩⟩⟩⟩⟩
      have ix2 : (3 * (4 * a + b) + (c : Int)).toNat = 3 * A + c := by omega
      rw [ix2] at g10
      rw [Int.toNat_natCast] at g1 g2 g3 g4 g5 g6 g7 g8 g9
      refine CJ.mono t_changed (fun _ u _ hu => ?_)
      have FU : u.2 = (chg (sf (sf (sf σ 0 9 (σ.2.1 0 9 + 1)) 1 2 (F + 1)) 8 17 (F + 1))).2 := by
        rw [hu]
        refine chg_c ?_
        rw [g12, g11, g10, g9, g8, g7, g6, g5, g4, g3, g2, g1]
        exact sf_c FJ
      have x17 : u.2.1 8 17 = F + 1 := by rw [FU]; simp [chg, sf_2]
      refine ⟨by rw [x17]; exact ⟨by omega, by omega⟩, by rw [x17]; omega, ?_⟩
      have RU : ∀ k i, u.1 k i = if k = 105 ∧ i = A then (c : Int) + 1 else if k = 104 ∧ i = 3 * A + c then (F : Int) else if k = 103 ∧ i = F then 0 else if k = 102 ∧ i = F then 0 else if k = 101 ∧ i = F then wOf w / 2 else if k = 100 ∧ i = F then p else if k = 99 ∧ i = F then d else if k = 98 ∧ i = F then h else if k = 97 ∧ i = F then wOf w else if k = 96 ∧ i = F then b else if k = 95 ∧ i = F then a else s42.1 k i := fun k i => by
        rw [hu, g12, g11, g10, g9, g8, g7, g6, g5, g4, g3, g2, g1]; rfl
      have oM : ∀ k, k < 95 ∨ 105 < k → ∀ i, u.1 k i = s42.1 k i := fun k h1 i => by
        rw [RU, if_neg (by omega), if_neg (by omega), if_neg (by omega), if_neg (by omega), if_neg (by omega), if_neg (by omega), if_neg (by omega), if_neg (by omega), if_neg (by omega), if_neg (by omega), if_neg (by omega)]
      have oth : ∀ k, k < 55 ∨ (56 < k ∧ k < 95) ∨ (105 < k ∧ k < 176) → u.1 k = σ.1 k := fun k h1 => funext fun i => by
        rw [oM k (by omega), RJ, if_neg (by omega), if_neg (by omega), if_neg (by omega), if_neg (by omega), if_neg (by omega), if_neg (by omega), if_neg (by omega), if_neg (by omega), if_neg (by omega)]
      have row : ∀ f, f ≠ F → u.1 (176 + f) = σ.1 (176 + f) := fun f h1 => funext fun i => by
        rw [oM _ (by omega), RJ, if_neg (by omega), if_neg (by omega), if_neg (by omega), if_neg (by omega), if_neg (by omega), if_neg (by omega), if_neg (by omega), if_neg (by omega), if_neg (by omega)]
      have col : ∀ k, 95 ≤ k → k ≤ 103 → ∀ f, f ≠ F → u.1 k f = σ.1 k f := fun k h1 h2 f h3 => by
        rw [RU, if_neg (by omega), if_neg (by omega), if_neg (by omega), if_neg (by omega), if_neg (by omega), if_neg (by omega), if_neg (by omega), if_neg (by omega), if_neg (by omega), if_neg (by omega), if_neg (by omega), lowJ k (by omega) (by omega)]
      have y55 : ∀ i, u.1 55 i = if i = A then (c : Int) + 1 else σ.1 55 i := fun i => by
        rw [oM 55 (by omega), RJ, if_neg (by omega), if_neg (by omega), if_neg (by omega), if_neg (by omega), if_neg (by omega)]
        by_cases q : i = A
        · rw [if_pos ⟨rfl, q⟩, if_pos q]
        · rw [if_neg (fun z => q z.2), if_neg (by omega), if_neg (by omega), if_neg (by omega), if_neg q]
      have y56 : ∀ i, u.1 56 i = if i = 3 * A + c then (F : Int) else σ.1 56 i := fun i => by
        rw [oM 56 (by omega), RJ, if_neg (by omega), if_neg (by omega), if_neg (by omega), if_neg (by omega), if_neg (by omega), if_neg (by omega)]
        by_cases q : i = 3 * A + c
        · rw [if_pos ⟨rfl, q⟩, if_pos q]
        · rw [if_neg (fun z => q z.2), if_neg (by omega), if_neg (by omega), if_neg q]
      have y105 : ∀ i, u.1 105 i = if i = A then (c : Int) + 1 else σ.1 105 i := fun i => by
        rw [RU]
        by_cases q : i = A
        · rw [if_pos ⟨rfl, q⟩, if_pos q]
        · rw [if_neg (fun z => q z.2), if_neg (by omega), if_neg (by omega), if_neg (by omega), if_neg (by omega), if_neg (by omega), if_neg (by omega), if_neg (by omega), if_neg (by omega), if_neg (by omega), if_neg (by omega), if_neg q, lowJ 105 (by decide) (by decide)]
      have y104 : ∀ i, u.1 104 i = if i = 3 * A + c then (F : Int) else σ.1 104 i := fun i => by
        rw [RU, if_neg (by omega)]
        by_cases q : i = 3 * A + c
        · rw [if_pos ⟨rfl, q⟩, if_pos q]
        · rw [if_neg (fun z => q z.2), if_neg (by omega), if_neg (by omega), if_neg (by omega), if_neg (by omega), if_neg (by omega), if_neg (by omega), if_neg (by omega), if_neg (by omega), if_neg (by omega), if_neg q, lowJ 104 (by decide) (by decide)]
      have x6 : u.2.1 8 6 = σ.2.1 8 6 := by rw [FU]; simp [chg, sf_2]
      have x7 : u.2.1 8 7 = σ.2.1 8 7 := by rw [FU]; simp [chg, sf_2]
      have x1 : u.2.1 1 2 = F + 1 := by rw [FU]; simp [chg, sf_2]
      have x2 : u.2.1 1 0 = σ.2.1 1 0 := by rw [FU]; simp [chg, sf_2]
      have x3 : u.2.1 1 1 = σ.2.1 1 1 := by rw [FU]; simp [chg, sf_2]
      obtain ⟨aN, haN⟩ : ∃ aN : Nat, a = aN := ⟨a.toNat, by omega⟩
      refine hI.2.2 _ _ ⟨IS_lig hS (fun k hk => oth k (by omega)) x6 x7 ?_ (fun l hl => LetOk_keep (oth _ (by decide)) (oth _ (by decide)) (oth _ (by decide)) (oth _ (by decide)) (oth _ (by decide)) (oth _ (by decide)) (hS.2.1 l hl)) (fun l hl => by rw [oth 50 (by decide)]; exact hS.2.2.1 l hl) (fun f hf => ?_) (fun f hf1 hf2 => ?_) (fun q hq => ?_) (fun q hq => ?_), IT_keep hT (fun k hk => oth k (by omega)) (fun j => by rw [FU]; simp [chg, sf_2]) (by rw [FU]; simp [chg, sf_2]) (by rw [FU]; simp [chg, sf_2]) (LOk_keep (oth _ (by decide)) x6), RC_keep hC (oth _ (by decide)) (oth _ (by decide)) (by rw [FU]; simp [chg, sf_2]) (by rw [FU]; simp [chg, sf_2]), by unfold HS; rw [FU]; exact hH⟩ (Cl.step hF (by rw [FU]; simp [chg, sf_2]) (fun j h1 _ => by rw [FU]; simp [chg, sf_2]; omega) (by rw [FU]; simp [chg, sf_2]) (by rw [FU]; simp [chg, sf_2]) (by rw [FU]; simp [chg, sf_2]) (by rw [FU]; simp [chg, sf_2]) (by rw [FU]; simp [chg, sf_2]))
      · unfold NumOk
        omega
      · by_cases q : f = F
        · rw [q]
          obtain ⟨k7, k8⟩ := hS.2.2.2.2.2.2.2.2.1 F (by omega) (by omega)
          have e0 : u.1 (176 + F) 0 = a := by rw [oM _ (by omega), RJ]; simp; omega
          have e1 : u.1 (176 + F) 1 = b := by rw [oM _ (by omega), RJ]; simp; omega
          have e2 : u.1 (176 + F) 2 = wOf w := by rw [oM _ (by omega), RJ]; simp
          have e3 : u.1 (176 + F) 3 = h := by rw [oM _ (by omega), RJ]; simp
          have e4 : u.1 (176 + F) 4 = d := by rw [oM _ (by omega), RJ]; simp
          have e5 : u.1 (176 + F) 5 = p := by rw [oM _ (by omega), RJ]; simp
          have e6 : u.1 (176 + F) 6 = wOf w / 2 := by rw [oM _ (by omega), RJ]; simp
          have e7 : u.1 (176 + F) 7 = 0 := by rw [oM _ (by omega), RJ, if_neg (by omega), if_neg (by omega), if_neg (by omega), if_neg (by omega), if_neg (by omega), if_neg (by omega), if_neg (by omega), if_neg (by omega), if_neg (by omega)]; exact k7
          have e8 : u.1 (176 + F) 8 = 0 := by rw [oM _ (by omega), RJ, if_neg (by omega), if_neg (by omega), if_neg (by omega), if_neg (by omega), if_neg (by omega), if_neg (by omega), if_neg (by omega), if_neg (by omega), if_neg (by omega)]; exact k8
          have v0 : u.1 95 F = a := by rw [RU]; simp
          have v1 : u.1 96 F = b := by rw [RU]; simp
          have v2 : u.1 97 F = wOf w := by rw [RU]; simp
          have v3 : u.1 98 F = h := by rw [RU]; simp
          have v4 : u.1 99 F = d := by rw [RU]; simp
          have v5 : u.1 100 F = p := by rw [RU]; simp
          have v6 : u.1 101 F = wOf w / 2 := by rw [RU]; simp
          have v7 : u.1 102 F = 0 := by rw [RU]; simp
          have v8 : u.1 103 F = 0 := by rw [RU]; simp
          unfold FormOk
          rw [e0, e1, e2, e3, e4, e5, e6, e7, e8, v0, v1, v2, v3, v4, v5, v6, v7, v8, x6]
          exact ⟨rfl, rfl, rfl, rfl, rfl, rfl, rfl, rfl, rfl, ⟨aN, haN, by omega⟩, bnd, z2, z3, z4, z5, by omega, by omega, by omega⟩
        · have F0 := hS.2.2.2.2.2.2.2.1 f (by omega)
          unfold FormOk at F0 ⊢
          rw [row f q]
          simp only [col 95 (by decide) (by decide) f q, col 96 (by decide) (by decide) f q, col 97 (by decide) (by decide) f q, col 98 (by decide) (by decide) f q, col 99 (by decide) (by decide) f q, col 100 (by decide) (by decide) f q, col 101 (by decide) (by decide) f q, col 102 (by decide) (by decide) f q, col 103 (by decide) (by decide) f q, x6]
          exact F0
      · rw [row f (by omega)]
        exact hS.2.2.2.2.2.2.2.2.1 f (by omega) hf2
      · unfold SlotOk
        rw [y55, y105]
        by_cases e : q = A
        · rw [if_pos e, if_pos e, e]
          refine ⟨rfl, by omega, fun k hk => ?_⟩
          by_cases ek : k = c
          · rw [ek, y56, if_pos rfl, y104, if_pos rfl]
            refine ⟨rfl, F, rfl, by omega, ?_⟩
            have v0 : u.1 95 F = a := by rw [RU]; simp
            have v1 : u.1 96 F = b := by rw [RU]; simp
            rw [v0, v1]
            omega
          · rw [y56, if_neg (by omega), y104, if_neg (by omega)]
            obtain ⟨r1, f, r2, r3, r4⟩ := sl3 k (by omega)
            exact ⟨r1, f, r2, by omega, by rw [col 95 (by decide) (by decide) f (by omega), col 96 (by decide) (by decide) f (by omega)]; exact r4⟩
        · rw [if_neg e, if_neg e]
          obtain ⟨r1, r2, r3⟩ := hS.2.2.2.2.2.2.2.2.2.1 q hq
          refine ⟨r1, r2, fun k hk => ?_⟩
          rw [y56, if_neg (by omega), y104, if_neg (by omega)]
          obtain ⟨r4, f, r5, r6, r7⟩ := r3 k hk
          exact ⟨r4, f, r5, by omega, by rw [col 95 (by decide) (by decide) f (by omega), col 96 (by decide) (by decide) f (by omega)]; exact r7⟩
      · rw [y55, if_neg (by omega)]
        exact hS.2.2.2.2.2.2.2.2.2.2 q hq
    · refine CJ.go (fun _ => k_MO_form_0 ⟨ha, ⟨by omega, by omega⟩, fun _ => ?_, fun z => absurd ca z⟩)
      refine CJ.mono (t_rounded hw) (fun r6 u4 _ hu => ?_)
      obtain ⟨h6, hu⟩ := hu
      rw [hu]
      clear hu
      rw [hA, hc]
      refine ⟨hb, fun z => absurd bnd z, fun _ => ⟨canF_p hS R ca hb, fun z => absurd ((canF_iff hS ca).mp z1).2 z, fun _ => ⟨fun z => absurd z (by omega), fun _ => ⟨hh, fun z => absurd z3 z, fun _ => ⟨hd, fun z => absurd z4 z, fun _ => ⟨hp, fun _ => ⟨by omega, fun _ => ⟨rfl, hs⟩, fun z => absurd z (by omega)⟩, fun z => absurd z5 z⟩⟩⟩⟩⟩⟩
  · refine CJ.go (fun _ => k_JS_form_0 ⟨ha, fun _ => ⟨by omega, by omega⟩, fun z => absurd z (by omega), fun _ => ?_⟩)
    exact CJ.go (fun _ => k_MO_form_0 ⟨ha, ⟨by omega, by omega⟩, fun z => absurd z ca, fun _ => ⟨rfl, hs⟩⟩)
