/-! pages: the class keeps them, the reference, the step -/
def PBc (hh : Nat → Int) (H : Nat) (ls : List (Nat × Nat)) (τ : St) : Prop := ∀ k p, ls[k]? = some p → τ.1 84 k = p.1 ∧ τ.1 85 k = (p.2 : Int) + 1 - p.1 ∧ τ.1 86 k = (H : Int) - sg hh p.1 (p.2 + 1 - p.1)
def PBm (hh : Nat → Int) (H : Nat) (ls : List (Nat × Nat)) (τ : St) : Prop := ∀ k p, ls[k]? = some p → τ.1 163 k = p.1 ∧ τ.1 164 k = p.2 ∧ τ.1 165 k = (H : Int) - sg hh p.1 (p.2 + 1 - p.1)
def FrK (τ υ : St) : Prop := (∀ k, k < 84 ∨ 86 < k → υ.1 k = τ.1 k) ∧ (∀ k, k ≠ 7 → υ.2.1 k = τ.2.1 k) ∧ υ.2.2 = τ.2.2
theorem t_pgKeep {G : GT} {τ : St} {n H : Nat} {hh : Nat → Int} (hn : τ.2.1 6 2 = n) (hn8 : n ≤ 80) (hH : H ≤ 2000) (hk : Hok hh n) (hh80 : ∀ k, k < n → τ.1 80 k + τ.1 81 k = hh k) (hSp : Spc (pC hh n H) n (τ.1 87) (τ.1 88)) (h0 : τ.1 87 0 < NV) {T : Nat → Nat} (hT' : ∀ i, T i = (τ.1 88 i).toNat) : CJ G m_PG_keep [O 7, I H] τ (fun _ υ => FrK τ υ ∧ υ.2.1 7 1 = (lnl T n 80 0).length ∧ PBc hh H (lnl T n 80 0) υ) := by
  have NVe : NV = 536870912 := rfl
  obtain ⟨ls, hls⟩ : ∃ ls, ls = lnl T n 80 0 := ⟨_, rfl⟩
  rw [← hls]
  refine CJ.go (fun _ => k_PG_keep_0 (fun s1 e1 => ?_))
  have loop : ∀ (d t i : Nat) (dn : List (Nat × Nat)) (υ : St), t + d = 80 → dn.length = t → i ≤ n → τ.1 87 i < NV → dn ++ lnl T n d i = ls → FrK τ υ → υ.2.1 7 1 = t → PBc hh H dn υ → a_PG_keep_9 G H i t υ (fun _ υ => FrK τ υ ∧ υ.2.1 7 1 = ls.length ∧ PBc hh H ls υ) := by
    intro d
    induction d with
    | zero =>
      intro t i dn υ hd hlen hi hb happ hFr h71 hPB
      have e : dn = ls := by rw [← happ]; show dn = dn ++ []; rw [List.append_nil]
      refine k_PG_keep_9 ⟨⟨by omega, by omega⟩, fun _ => ⟨hFr, ?_, ?_⟩, fun z => absurd z (by omega)⟩
      · rw [h71, ← e, hlen]
      · rw [← e]; exact hPB
    | succ d ih =>
      intro t i dn υ hd hlen hi hb happ hFr h71 hPB
      have e62 : υ.2.1 6 2 = (n : Int) := by rw [hFr.2.1 6 (by omega)]; exact hn
      refine k_PG_keep_9 ?_
      rw [e62]
      refine ⟨⟨by omega, by omega⟩, fun z => absurd z (by omega), fun _ => ⟨⟨by omega, by omega⟩, fun z => ⟨hFr, ?_, ?_⟩, fun z => ?_⟩⟩
      · have e : dn = ls := by rw [← happ]; unfold lnl; rw [if_neg (by omega), List.append_nil]
        rw [h71, ← e, hlen]
      · have e : dn = ls := by rw [← happ]; unfold lnl; rw [if_neg (by omega), List.append_nil]
        rw [← e]; exact hPB
      · have hin : i < n := by omega
        obtain ⟨y, y1, y2, y3, y4, y5, y6⟩ := Spc_T hSp hin hb
        have eT : T i = y := by rw [hT', y1, Int.toNat_natCast]
        have a88 : υ.1 88 i = (y : Int) := by rw [hFr.1 88 (by omega)]; exact y1
        rw [Int.toNat_natCast i, a88]
        refine ⟨by omega, ?_⟩
        have inner : ∀ (e x : Nat), x + e = y + 1 → i ≤ x → a_PG_keep_42 G H i t ((y : Int) + 1) ((H : Int) - sg hh i (x - i)) x υ (fun _ υ => FrK τ υ ∧ υ.2.1 7 1 = ls.length ∧ PBc hh H ls υ) := by
          intro e
          induction e with
          | zero =>
            intro x hx hix
            have ex : x = y + 1 := by omega
            subst ex
            have sb := sg_b hk (i := i) (y + 1 - i) (by omega)
            refine k_PG_keep_42 ?_
            rw [h71, Int.toNat_natCast t]
            refine ⟨⟨by omega, by omega⟩, ⟨by omega, by omega⟩, fun _ => ⟨by omega, ⟨by omega, by omega⟩, fun s22 e22 => ⟨⟨by omega, by omega⟩, fun s26 e26 => ⟨⟨by omega, by omega⟩, fun s30 e30 => ⟨⟨by omega, by omega⟩, fun s33 e33 => ?_⟩⟩⟩⟩, fun z => absurd z (by omega)⟩
            have e33' : s33 = sf (sa (sa (sa υ 84 t i) 85 t ((y : Int) + 1 - i)) 86 t ((H : Int) - sg hh i (y + 1 - i))) 7 1 ((t : Int) + 1) := by rw [e33, e30, e26, e22]
            have a33 : ∀ k, k < 84 ∨ 86 < k → s33.1 k = υ.1 k := fun k hk' => by rw [e33', sfa, sa_ne (by omega), sa_ne (by omega), sa_ne (by omega)]
            have n33 : ∀ k j, j ≠ t → s33.1 k j = υ.1 k j := fun k j hj => by
              rw [e33']
              simp [sf, sa, up2, hj]
            have v84 : s33.1 84 t = (i : Int) := by rw [e33', sfa, sa_ne (by decide), sa_ne (by decide), sa_at]
            have v85 : s33.1 85 t = (y : Int) + 1 - i := by rw [e33', sfa, sa_ne (by decide), sa_at]
            have v86 : s33.1 86 t = (H : Int) - sg hh i (y + 1 - i) := by rw [e33', sfa, sa_at]
            rw [show (y : Int) + 1 = ((y + 1 : Nat) : Int) by omega, show (t : Int) + 1 = ((t + 1 : Nat) : Int) by omega]
            refine ih (t + 1) (y + 1) (dn ++ [(i, y)]) s33 (by omega) (by simp; omega) (by omega) y5 ?_ ⟨fun k hk' => (a33 k hk').trans (hFr.1 k hk'), fun k hk' => by rw [e33', sf_ne hk']; exact hFr.2.1 k hk', by rw [e33']; exact hFr.2.2⟩ (by rw [e33', sf_at]; omega) ?_
            · rw [← happ, List.append_assoc, lnl_s hin, eT]
              rfl
            · intro k p hp
              by_cases q : k = t
              · subst q
                rw [List.getElem?_append_right (by omega), hlen, Nat.sub_self] at hp
                have e : p = (i, y) := (Option.some.inj hp).symm
                rw [e]
                exact ⟨v84, v85, v86⟩
              · have hkt : k < t := by
                  rcases Nat.lt_or_ge k t with z | z
                  · exact z
                  · rw [List.getElem?_eq_none (by simp; omega)] at hp
                    exact absurd hp (by simp)
                rw [List.getElem?_append_left (by omega)] at hp
                rw [n33 84 k q, n33 85 k q, n33 86 k q]
                exact hPB k p hp
          | succ e ihe =>
            intro x hx hix
            have eh : υ.1 80 x + υ.1 81 x = hh x := by rw [hFr.1 80 (by omega), hFr.1 81 (by omega)]; exact hh80 x (by omega)
            have es : (H : Int) - sg hh i (x - i) - hh x = (H : Int) - sg hh i (x + 1 - i) := by
              rw [show x + 1 - i = (x - i) + 1 by omega]
              show _ = (H : Int) - (sg hh i (x - i) + hh (i + (x - i)))
              rw [show i + (x - i) = x by omega]
              omega
            refine k_PG_keep_42 ?_
            rw [Int.toNat_natCast x, eh, es, show (x : Int) + 1 = ((x + 1 : Nat) : Int) by omega]
            exact ⟨⟨by omega, by omega⟩, ⟨by omega, by omega⟩, fun z => absurd z (by omega), fun _ => ⟨by omega, ihe (x + 1) (by omega) (by omega)⟩⟩
        have := inner (y + 1 - i) i (by omega) (Nat.le_refl _)
        rw [Nat.sub_self, show (H : Int) - sg hh i 0 = (H : Int) by show (H : Int) - 0 = _; omega] at this
        exact this
  refine loop 80 0 0 [] s1 rfl rfl (by omega) h0 (by rw [List.nil_append]; exact hls.symm) ⟨fun k _ => by rw [e1]; rfl, fun k hk' => by rw [e1, sf_ne hk'], by rw [e1]; rfl⟩ (by rw [e1, sf_at]; rfl) (fun k p hp => by simp at hp)
/-- the reference's search for pages -/
def FrM (σ υ : St) : Prop := (∀ k, k ≠ 166 → k ≠ 167 → υ.1 k = σ.1 k) ∧ υ.2 = σ.2
theorem FrM.refl {τ : St} : FrM τ τ := ⟨fun _ _ _ => rfl, rfl⟩
theorem FrM.st {σ τ : St} (h : FrM σ τ) {k i : Nat} {v : Int} (hk : k = 166 ∨ k = 167) : FrM σ (sa τ k i v) := ⟨fun j j1 j2 => by rw [sa_ne (by omega)]; exact h.1 j j1 j2, h.2⟩
theorem t_pgM {G : GT} {τ : St} {P : Int → St → Prop} {n H : Nat} {hh : Nat → Int} (hn8 : n ≤ 80) (hH : H ≤ 2000) (hk : Hok hh n) (hh80 : ∀ k, k < n → τ.1 160 k + τ.1 161 k = hh k) (hP : ∀ υ, FrM τ υ → Spc (pC hh n H) n (υ.1 166) (υ.1 167) → (υ.1 166 0 < NV → ∀ s10, s10 = sf υ 8 109 1 → ∀ s12, s12 = sf s10 8 110 0 → a_MO_pages_244 G H n 0 s12 P) ∧ (NV ≤ υ.1 166 0 → P (-5) υ)) : ∀ (d : Nat) (υ : St), d ≤ n → FrM τ υ → υ.1 166 n = 0 → (∀ i, d ≤ i → i < n → Prt (pC hh n H) (υ.1 166) i i n (υ.1 166 i) (υ.1 167 i)) → (∀ i, d ≤ i → i ≤ n → 0 ≤ υ.1 166 i ∧ υ.1 166 i ≤ NV ∧ (υ.1 166 i < NV → υ.1 166 i ≤ 4000000 * ((n : Int) - i))) → a_MO_pages_41 G H n ((d : Int) - 1) υ P := by
  have NVe : NV = 536870912 := rfl
  intro d
  induction d with
  | zero =>
    intro υ _ h1 h2 h3 h4
    exact k_MO_pages_41 ⟨⟨by omega, by omega⟩, fun _ => hP υ h1 ⟨h2, fun i hi => h3 i (by omega) hi⟩, fun z => absurd z (by omega)⟩
  | succ m ih =>
    intro υ hd h1 h2 h3 h4
    rw [show (((m + 1 : Nat) : Int) - 1) = (m : Int) by omega]
    refine k_MO_pages_41 ?_
    rw [Int.toNat_natCast m]
    refine ⟨⟨by omega, by omega⟩, fun z => absurd z (by omega), fun _ => ⟨by omega, fun s15 e15 s17 e17 => ?_⟩⟩
    have e17' : s17 = sa (sa υ 166 m NV) 167 m m := by rw [e17, e15]; rfl
    have inner : ∀ (e j : Nat) (ρ : St), j + e = n → m ≤ j → FrM τ ρ → (∀ i, i ≠ m → ρ.1 166 i = υ.1 166 i ∧ ρ.1 167 i = υ.1 167 i) → Prt (pC hh n H) (υ.1 166) m m j (ρ.1 166 m) (ρ.1 167 m) → (0 ≤ ρ.1 166 m ∧ ρ.1 166 m ≤ NV ∧ (ρ.1 166 m < NV → ρ.1 166 m ≤ 4000000 * ((n : Int) - m))) → a_MO_pages_67 G H n m (sg hh m (j - m)) j ρ P := by
      intro e
      induction e with
      | zero =>
        intro j ρ hj hmj r1 r2 r3 r4
        refine k_MO_pages_67 ⟨⟨by omega, by omega⟩, ⟨by omega, by omega⟩, fun _ => ?_, fun z => absurd z (by omega)⟩
        rw [show (m : Int) + (-1) = (m : Int) - 1 by omega]
        refine ih ρ (by omega) r1 (by rw [(r2 n (by omega)).1]; exact h2) (fun i i1 i2 => ?_) (fun i i1 i2 => ?_)
        · by_cases q : i = m
          · rw [q]
            rw [show j = n by omega] at r3
            exact Prt_congr r3 (fun x x1 x2 => (r2 (x + 1) (by omega)).1)
          · rw [(r2 i q).1, (r2 i q).2]
            exact Prt_congr (h3 i (by omega) i2) (fun x x1 x2 => (r2 (x + 1) (by omega)).1)
        · by_cases q : i = m
          · rw [q]; exact r4
          · rw [(r2 i q).1]; exact h4 i (by omega) i2
      | succ e ihe =>
        intro j ρ hj hmj r1 r2 r3 r4
        have eh : ρ.1 160 j + ρ.1 161 j = hh j := by rw [r1.1 160 (by omega) (by omega), r1.1 161 (by omega) (by omega)]; exact hh80 j (by omega)
        have es : sg hh m (j - m) + hh j = sg hh m (j + 1 - m) := by
          rw [show j + 1 - m = (j - m) + 1 by omega]
          show _ = sg hh m (j - m) + hh (m + (j - m))
          rw [show m + (j - m) = j by omega]
        have sb := sg_b hk (i := m) (j + 1 - m) (by omega)
        have ej : ((j : Int) + 1).toNat = j + 1 := by omega
        have eB := (r2 (j + 1) (by omega)).1
        have b1 := h4 (j + 1) (by omega) (by omega)
        have pb := pC_b (hh := hh) hk hH hmj (show j < n by omega)
        obtain ⟨S, hS⟩ : ∃ S, sg hh m (j + 1 - m) = S := ⟨_, rfl⟩
        have hcond : (S ≤ (H : Int) ∧ (((n : Int) = 1 ∧ υ.1 166 (j + 1) < 536870912) ∨ ((n : Int) ≠ 1 ∧ ((m : Int) < (n : Int) - 1 ∧ (0 < (j : Int) ∧ υ.1 166 (j + 1) < 536870912))))) ↔ Ft (pC hh n H) (υ.1 166) m j := by
          have hpc : pC hh n H m j < NV ↔ (S ≤ (H : Int) ∧ (n = 1 ∨ (m + 1 < n ∧ 0 < j))) := by
            unfold pC
            rw [hS]
            by_cases c : S ≤ (H : Int) ∧ (n = 1 ∨ (m + 1 < n ∧ 0 < j))
            · rw [if_pos c]
              have qb := sq_b (x := (H : Int) - S) ⟨by omega, by omega⟩
              refine ⟨fun _ => c, fun _ => ?_⟩
              split
              · omega
              · omega
            · rw [if_neg c]
              exact ⟨fun q => absurd q (by omega), fun q => absurd q c⟩
          unfold Ft
          rw [hpc, NVe]
          omega
        have hval : Ft (pC hh n H) (υ.1 166) m j → (if (j : Int) ≠ (n : Int) - 1 then ((H : Int) - S) * ((H : Int) - S) else (0 : Int)) + υ.1 166 (j + 1) = pC hh n H m j + υ.1 166 (j + 1) := fun hf => by
          have h1 := hf.1
          unfold pC at h1 ⊢
          rw [hS] at h1 ⊢
          by_cases c : S ≤ (H : Int) ∧ (n = 1 ∨ (m + 1 < n ∧ 0 < j))
          · rw [if_pos c]
            by_cases c2 : j + 1 = n
            · rw [if_pos c2, if_neg (show ¬ (j : Int) ≠ (n : Int) - 1 by omega)]
            · rw [if_neg c2, if_pos (show (j : Int) ≠ (n : Int) - 1 by omega)]
          · rw [if_neg c] at h1; omega
        have skip : ¬ (Ft (pC hh n H) (υ.1 166) m j ∧ pC hh n H m j + υ.1 166 (j + 1) ≤ ρ.1 166 m) → a_MO_pages_67 G H n m S ((j : Int) + 1) ρ P := fun hno => by
          rw [show (j : Int) + 1 = ((j + 1 : Nat) : Int) by omega, ← hS]
          refine ihe (j + 1) ρ (by omega) (by omega) r1 r2 ?_ r4
          refine Prt_up r3 hmj (fun y => ?_) (fun y1 y2 => absurd ⟨y1, y2⟩ hno) (fun _ => ⟨rfl, rfl⟩)
          have c1 := pb.2.2 y.1
          have c2 := b1.2.2 y.2
          omega
        refine k_MO_pages_67 ?_
        rw [Int.toNat_natCast j, eh, es, ej, eB, Int.toNat_natCast m, hS]
        refine ⟨⟨by omega, by omega⟩, ⟨by omega, by omega⟩, fun z => absurd z (by omega), fun _ => ⟨by omega, ⟨by omega, by omega⟩, ⟨by omega, by omega⟩, fun _ => ⟨fun _ => by omega, fun _ => ⟨⟨by omega, by omega⟩, ⟨by omega, by omega⟩, fun _ _ => by omega⟩⟩, fun hc => skip (fun y => hc (hcond.mpr y.1)), fun hc => ?_⟩⟩
        have hft := hcond.mp hc
        have c1 := pb.2.2 hft.1
        have c2 := b1.2.2 hft.2
        rw [hval hft]
        refine ⟨⟨by omega, by omega⟩, by omega, by omega, ⟨by omega, by omega⟩, fun z3 => skip (fun y => by have := y.2; omega), fun z3 s74 e74 s76 e76 => ?_⟩
        have e76' : s76 = sa (sa ρ 166 m (pC hh n H m j + υ.1 166 (j + 1))) 167 m j := by rw [e76, e74]
        have v1 : s76.1 166 m = pC hh n H m j + υ.1 166 (j + 1) := by rw [e76', sa_ne (by decide), sa_at]
        have v2 : s76.1 167 m = (j : Int) := by rw [e76', sa_at]
        rw [show (j : Int) + 1 = ((j + 1 : Nat) : Int) by omega, ← hS]
        refine ihe (j + 1) s76 (by omega) (by omega) (by rw [e76']; exact (r1.st (Or.inl rfl)).st (Or.inr rfl)) (fun i hi => ?_) ?_ ?_
        · rw [e76', sa_ne (by decide), sa_nx hi, sa_nx hi, sa_ne (by decide)]
          exact r2 i hi
        · rw [v1, v2]
          exact Prt_up r3 hmj (fun _ => by omega) (fun _ _ => ⟨rfl, rfl⟩) (fun y => absurd ⟨hft, z3⟩ y)
        · rw [v1]
          omega
    have := inner (n - m) m s17 (by omega) (Nat.le_refl _) (by rw [e17']; exact (h1.st (Or.inl rfl)).st (Or.inr rfl)) (fun i hi => by rw [e17', sa_ne (by decide), sa_nx hi, sa_nx hi, sa_ne (by decide)]; exact ⟨rfl, rfl⟩) (Or.inl ⟨by rw [e17', sa_ne (by decide), sa_at], fun x x1 x2 => absurd x1 (by omega)⟩) (by rw [e17', sa_ne (by decide), sa_at]; omega)
    rw [Nat.sub_self] at this
    exact this
def FrN (τ υ : St) : Prop := (∀ k, k < 163 ∨ 165 < k → υ.1 k = τ.1 k) ∧ (∀ k, k ≠ 8 → υ.2.1 k = τ.2.1 k) ∧ (∀ j, j ≠ 110 → υ.2.1 8 j = τ.2.1 8 j) ∧ υ.2.2 = τ.2.2
theorem t_pgNote {G : GT} {τ : St} {P : Int → St → Prop} {n H : Nat} {hh : Nat → Int} (hn8 : n ≤ 80) (hH : H ≤ 2000) (hk : Hok hh n) (hh80 : ∀ k, k < n → τ.1 160 k + τ.1 161 k = hh k) (hSp : Spc (pC hh n H) n (τ.1 166) (τ.1 167)) {T : Nat → Nat} (hT' : ∀ i, T i = (τ.1 167 i).toNat) {ls : List (Nat × Nat)} (hP : ∀ υ, FrN τ υ → υ.2.1 8 110 = ls.length → PBm hh H ls υ → P (τ.1 166 0) υ) : ∀ (d t i : Nat) (dn : List (Nat × Nat)) (υ : St), t + d = 80 → t ≤ i → dn.length = t → i ≤ n → τ.1 166 i < NV → dn ++ lnl T n d i = ls → FrN τ υ → υ.2.1 8 110 = t → PBm hh H dn υ → a_MO_pages_244 G H n i υ P := by
  have NVe : NV = 536870912 := rfl
  intro d
  induction d with
  | zero =>
    intro t i dn υ hd hti hlen hi hb happ r1 r2 r3
    have e : dn = ls := by rw [← happ]; show dn = dn ++ []; rw [List.append_nil]
    refine k_MO_pages_244 ⟨⟨by omega, by omega⟩, ⟨by omega, by omega⟩, fun _ => ?_, fun z => absurd z (by omega)⟩
    rw [r1.1 166 (by omega)]
    exact hP υ r1 (by rw [r2, ← e, hlen]) (by rw [← e]; exact r3)
  | succ d ih =>
    intro t i dn υ hd hti hlen hi hb happ r1 r2 r3
    refine k_MO_pages_244 ⟨⟨by omega, by omega⟩, ⟨by omega, by omega⟩, fun z => ?_, fun z => ?_⟩
    · have e : dn = ls := by rw [← happ]; unfold lnl; rw [if_neg (by omega), List.append_nil]
      rw [r1.1 166 (by omega)]
      exact hP υ r1 (by rw [r2, ← e, hlen]) (by rw [← e]; exact r3)
    · have hin : i < n := by omega
      obtain ⟨y, y1, y2, y3, y4, y5, y6⟩ := Spc_T hSp hin hb
      have eT : T i = y := by rw [hT', y1, Int.toNat_natCast]
      have a167 : υ.1 167 i = (y : Int) := by rw [r1.1 167 (by omega)]; exact y1
      have inner : ∀ (e x : Nat), x + e = y + 1 → i ≤ x → a_MO_pages_255 G H n i (sg hh i (x - i)) x υ P := by
        intro e
        induction e with
        | zero =>
          intro x hx hix
          have ex : x = y + 1 := by omega
          subst ex
          have sb := sg_b hk (i := i) (y + 1 - i) (by omega)
          refine k_MO_pages_255 ?_
          rw [Int.toNat_natCast i, a167, r2, Int.toNat_natCast t]
          refine ⟨by omega, ⟨by omega, by omega⟩, fun _ => ⟨by omega, ⟨by omega, by omega⟩, fun s87 e87 s91 e91 => ⟨⟨by omega, by omega⟩, fun s95 e95 => ⟨⟨by omega, by omega⟩, fun s98 e98 => ?_⟩⟩⟩, fun z => absurd z (by omega)⟩
          have e98' : s98 = sf (sa (sa (sa υ 163 t i) 164 t y) 165 t ((H : Int) - sg hh i (y + 1 - i))) 8 110 ((t : Int) + 1) := by rw [e98, e95, e91, e87]
          have a98 : ∀ k, k < 163 ∨ 165 < k → s98.1 k = υ.1 k := fun k hk' => by rw [e98', sfa, sa_ne (by omega), sa_ne (by omega), sa_ne (by omega)]
          have n98 : ∀ k j, j ≠ t → s98.1 k j = υ.1 k j := fun k j hj => by
            rw [e98']
            simp [sf, sa, up2, hj]
          have v163 : s98.1 163 t = (i : Int) := by rw [e98', sfa, sa_ne (by decide), sa_ne (by decide), sa_at]
          have v164 : s98.1 164 t = (y : Int) := by rw [e98', sfa, sa_ne (by decide), sa_at]
          have v165 : s98.1 165 t = (H : Int) - sg hh i (y + 1 - i) := by rw [e98', sfa, sa_at]
          rw [show (y : Int) + 1 = ((y + 1 : Nat) : Int) by omega]
          refine ih (t + 1) (y + 1) (dn ++ [(i, y)]) s98 (by omega) (by omega) (by simp; omega) (by omega) y5 ?_ ⟨fun k hk' => (a98 k hk').trans (r1.1 k hk'), fun k hk' => by rw [e98', sf_ne hk']; exact r1.2.1 k hk', fun j hj => by rw [e98', sf_nx hj]; exact r1.2.2.1 j hj, by rw [e98']; exact r1.2.2.2⟩ (by rw [e98', sf_at]; omega) ?_
          · rw [← happ, List.append_assoc, lnl_s hin, eT]
            rfl
          · intro k p hp
            by_cases q : k = t
            · subst q
              rw [List.getElem?_append_right (by omega), hlen, Nat.sub_self] at hp
              have e : p = (i, y) := (Option.some.inj hp).symm
              rw [e]
              exact ⟨v163, v164, v165⟩
            · have hkt : k < t := by
                rcases Nat.lt_or_ge k t with z | z
                · exact z
                · rw [List.getElem?_eq_none (by simp; omega)] at hp
                  exact absurd hp (by simp)
              rw [List.getElem?_append_left (by omega)] at hp
              rw [n98 163 k q, n98 164 k q, n98 165 k q]
              exact r3 k p hp
        | succ e ihe =>
          intro x hx hix
          have eh : υ.1 160 x + υ.1 161 x = hh x := by rw [r1.1 160 (by omega), r1.1 161 (by omega)]; exact hh80 x (by omega)
          have es : sg hh i (x - i) + hh x = sg hh i (x + 1 - i) := by
            rw [show x + 1 - i = (x - i) + 1 by omega]
            show _ = sg hh i (x - i) + hh (i + (x - i))
            rw [show i + (x - i) = x by omega]
          refine k_MO_pages_255 ?_
          rw [Int.toNat_natCast i, a167, Int.toNat_natCast x, eh, es, show (x : Int) + 1 = ((x + 1 : Nat) : Int) by omega]
          exact ⟨by omega, ⟨by omega, by omega⟩, fun z => absurd z (by omega), fun _ => ⟨by omega, ihe (x + 1) (by omega) (by omega)⟩⟩
      have := inner (y + 1 - i) i (by omega) (Nat.le_refl _)
      rw [Nat.sub_self] at this
      exact this
