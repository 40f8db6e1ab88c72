/-! best: the reference notes its lines -/
def LBm (σ : St) (W : Nat) (ls : List (Nat × Nat)) (τ : St) : Prop := ∀ k p, ls[k]? = some p → τ.1 157 k = p.1 ∧ τ.1 158 k = p.2 ∧ τ.1 159 k = cF σ W p.1 p.2 ∧ τ.1 160 k = hgF σ W p.1 p.2 ∧ τ.1 161 k = dpF σ W p.1 p.2 ∧ τ.1 162 k = (if pln σ W p.1 p.2 = true then 1 else 0)
theorem Ab_hgF {σ τ : St} (h : Ab σ τ) : hgF τ = hgF σ := by funext W x y; unfold hgF; rw [Ab_pbl h, Ab_MS h, Ab_lnp h]
theorem Ab_dpF {σ τ : St} (h : Ab σ τ) : dpF τ = dpF σ := by funext W x y; unfold dpF; rw [Ab_pbl h, Ab_MS h, Ab_lnp h]
theorem t_setLineM {G : GT} {s : St} (hS : IS s) (hT : IT s) (hC : CTx s s) {t x y W : Nat} (ht : t < 80) (hxy : x ≤ y) (hy : y < nW s) (hW : W ≤ 300) (h157 : s.1 157 t = x) (h158 : s.1 158 t = y) (h108 : s.2.1 8 108 = W) (h162 : s.1 162 t = (if pln s W x y = true then 1 else 0)) (hc : cF s W x y < NV) : CJ G m_MO_setLine [O 8, I t] s (fun r υ => FrS s υ ∧ r = 1 ∧ υ.2.1 8 62 = hgF s W x y ∧ υ.2.1 8 63 = dpF s W x y) := by
  have hset := cF_set hc
  have hno := pln_no hset
  refine CJ.go (fun _ => k_MO_setLine_0 ?_)
  rw [Int.toNat_natCast t, h157, h158, h162, h108]
  refine ⟨by omega, fun z => ?_, fun z => ?_⟩
  · have hp : pln s W x y = false := by
      cases q : pln s W x y with
      | false => rfl
      | true => rw [q, if_pos rfl] at z; exact absurd z (by decide)
    refine CJ.mono (t_fill hS hT hC hxy hy hW) (fun r υ _ hυ => ?_)
    obtain ⟨fS, hor⟩ := hυ
    rcases hor with q | ⟨-, -, q3, q4⟩
    · exfalso
      rcases q.1 with y1 | y1
      · rw [hno] at y1; exact absurd y1 (by decide)
      · have := (hset hp).2; omega
    · refine ⟨Or.inr q3, fS, q3, ?_, ?_⟩
      · unfold hgF lnp
        rw [hp, if_neg (by decide)]
        exact q4.2.2.1.1
      · unfold dpF lnp
        rw [hp, if_neg (by decide)]
        exact q4.2.2.1.2
  · have hp : pln s W x y = true := by
      cases q : pln s W x y with
      | true => rfl
      | false => rw [q, if_neg (by decide)] at z; exact absurd rfl z
    obtain ⟨g1, g2, g3, g4⟩ := pln_is.mp hp
    refine CJ.mono (t_setPlainM hS hT hC hxy hy) (fun r υ _ hυ => ?_)
    obtain ⟨fS, hor⟩ := hυ
    rcases hor with q | ⟨-, -, q3, q4⟩
    · exfalso
      rcases q.1 with y1 | y1
      · rw [hno] at y1; exact absurd y1 (by decide)
      · rw [g2] at y1; exact absurd y1 (by decide)
    · refine ⟨Or.inr q3, fS, q3, ?_, ?_⟩
      · unfold hgF lnp
        rw [hp, if_pos rfl]
        exact q4.2.2.1.1
      · unfold dpF lnp
        rw [hp, if_pos rfl]
        exact q4.2.2.1.2
theorem t_noteLines {G : GT} {σ τ : St} (hS : IS σ) (hT : IT σ) (hC : CTx σ σ) (hF : FrQ σ τ) {W : Nat} (hW : W ≤ 300) (hLC : LCx σ W τ) (hSp : Spc (cF σ W) (nW σ) (τ.1 155) (τ.1 156)) (h0 : τ.1 155 0 < NV) {T : Nat → Nat} (hT' : ∀ i, T i = (τ.1 156 i).toNat) : CJ G m_MO_noteLines [O 8, I W] τ (fun _ υ => FrB σ υ ∧ υ.1 155 = τ.1 155 ∧ υ.2.1 8 100 = 1 ∧ υ.2.1 8 109 = 0 ∧ υ.2.1 8 108 = W ∧ υ.2.1 8 101 = (lnl T (nW σ) 80 0).length ∧ LBm σ W (lnl T (nW σ) 80 0) υ) := by
  have nw8 := nW_le hT
  have NVe : NV = 536870912 := rfl
  obtain ⟨n, hn⟩ : ∃ n, n = nW σ := ⟨_, rfl⟩
  rw [← hn] at hSp ⊢
  obtain ⟨ls, hls⟩ : ∃ ls, ls = lnl T n 80 0 := ⟨_, rfl⟩
  rw [← hls]
  refine CJ.go (fun _ => k_MO_noteLines_0 (fun s1 e1 s3 e3 => ⟨⟨by omega, by omega⟩, fun s5 e5 s8 e8 => ?_⟩))
  have loop : ∀ (d t i : Nat) (dn : List (Nat × Nat)) (ρ : St), t + d = 80 → t ≤ i → dn.length = t → i ≤ n → τ.1 155 i < NV → dn ++ lnl T n d i = ls → FrB σ ρ → (∀ k, 154 ≤ k → k ≤ 156 → ρ.1 k = τ.1 k) → ρ.2.1 8 100 = 1 → ρ.2.1 8 109 = 0 → ρ.2.1 8 108 = W → ρ.2.1 8 101 = t → LBm σ W dn ρ → a_MO_noteLines_22 G W i ρ (fun _ υ => FrB σ υ ∧ υ.1 155 = τ.1 155 ∧ υ.2.1 8 100 = 1 ∧ υ.2.1 8 109 = 0 ∧ υ.2.1 8 108 = W ∧ υ.2.1 8 101 = ls.length ∧ LBm σ W ls υ) := by
    intro d
    induction d with
    | zero =>
      intro t i dn ρ hd hti hlen hi hb happ r1 r2 r3 r4 r5 r6 r7
      have e : dn = ls := by rw [← happ]; show dn = dn ++ []; rw [List.append_nil]
      have e27 : ρ.2.1 8 27 = (n : Int) := by rw [r1.2.2.1 27 (by omega), hn]; exact hC.1
      refine k_MO_noteLines_22 ?_
      rw [e27]
      refine ⟨⟨by omega, by omega⟩, fun _ => ⟨r1, r2 155 (by omega) (by omega), r3, r4, r5, ?_, ?_⟩, fun z => absurd z (by omega)⟩
      · rw [r6, ← e, hlen]
      · rw [← e]; exact r7
    | succ d ih =>
      intro t i dn ρ hd hti hlen hi hb happ r1 r2 r3 r4 r5 r6 r7
      have e27 : ρ.2.1 8 27 = (n : Int) := by rw [r1.2.2.1 27 (by omega), hn]; exact hC.1
      refine k_MO_noteLines_22 ?_
      rw [e27, r6, Int.toNat_natCast t, Int.toNat_natCast i]
      refine ⟨⟨by omega, by omega⟩, fun z => ⟨r1, r2 155 (by omega) (by omega), r3, r4, r5, ?_, ?_⟩, fun z => ?_⟩
      · have e : dn = ls := by rw [← happ]; unfold lnl; rw [if_neg (by omega), List.append_nil]
        rw [← e, hlen]
      · have e : dn = ls := by rw [← happ]; unfold lnl; rw [if_neg (by omega), List.append_nil]
        rw [← e]; exact r7
      · have hin : i < n := by omega
        obtain ⟨y, y1, y2, y3, y4, y5, y6⟩ := Spc_T hSp hin hb
        have hyn : y < nW σ := by omega
        have eT : T i = y := by rw [hT', y1, Int.toNat_natCast]
        have a156 : ρ.1 156 i = (y : Int) := by rw [r2 156 (by omega) (by omega)]; exact y1
        have ex : ((80 * (i : Int)) + (y : Int)).toNat = 80 * i + y := by omega
        have a154 : ρ.1 154 (80 * i + y) = cF σ W i y := by rw [r2 154 (by omega) (by omega)]; exact hLC i y y2 hyn
        rw [a156, ex, a154]
        refine ⟨by omega, fun s15 e15 => ⟨by omega, fun s19 e19 => ⟨by omega, fun s24 e24 => ?_⟩⟩⟩
        have e24' : s24 = sa (sa (sa ρ 157 t i) 158 t y) 159 t (cF σ W i y) := by rw [e24, e19, e15]
        have fr24 : FrB σ s24 := by rw [e24']; exact ((r1.st157 (by omega)).st157 (by omega)).st157 (by omega)
        have b24 : s24.2 = ρ.2 := by rw [e24']; rfl
        have goal : ∀ s29, s29 = sa s24 162 t (if pln σ W i y = true then 1 else 0) → CJ G m_MO_setLine [O 8, I t] s29 (fun r32 u31 => rng (if r32 = 0 then (0 : Int) else u31.2.1 8 62) ∧ (∀ σ36, σ36 = sa u31 160 t (if r32 = 0 then (0 : Int) else u31.2.1 8 62) → rng (if r32 = 0 then (0 : Int) else u31.2.1 8 63) ∧ (∀ σ40, σ40 = sa σ36 161 t (if r32 = 0 then (0 : Int) else u31.2.1 8 63) → rng ((u31.2.1 8 101) + 1) ∧ (∀ σ43, σ43 = sf σ40 8 101 ((u31.2.1 8 101) + 1) → a_MO_noteLines_22 G W ((u31.1 156 i) + 1) σ43 (fun _ υ => FrB σ υ ∧ υ.1 155 = τ.1 155 ∧ υ.2.1 8 100 = 1 ∧ υ.2.1 8 109 = 0 ∧ υ.2.1 8 108 = W ∧ υ.2.1 8 101 = ls.length ∧ LBm σ W ls υ))))) := fun s29 e29 => by
          have fr29 : FrB σ s29 := by rw [e29]; exact fr24.st157 (by omega)
          have b29 : s29.2 = ρ.2 := by rw [e29]; exact b24
          obtain ⟨pS, pT, pC, ab⟩ := fr29.ok hS hT hC
          have v157 : s29.1 157 t = (i : Int) := by rw [e29, sa_ne (by decide), e24', sa_ne (by decide), sa_ne (by decide), sa_at]
          have v158 : s29.1 158 t = (y : Int) := by rw [e29, sa_ne (by decide), e24', sa_ne (by decide), sa_at]
          have v159 : s29.1 159 t = cF σ W i y := by rw [e29, sa_ne (by decide), e24', sa_at]
          have v162 : s29.1 162 t = (if pln σ W i y = true then 1 else 0) := by rw [e29, sa_at]
          have o29 : ∀ k, k < 157 ∨ 162 < k ∨ k = 160 ∨ k = 161 → s29.1 k = ρ.1 k := fun k hk => by rw [e29, sa_ne (by omega), e24', sa_ne (by omega), sa_ne (by omega), sa_ne (by omega)]
          have n29 : ∀ k j, j ≠ t → s29.1 k j = ρ.1 k j := fun k j hj => by
            rw [e29, e24']
            simp [sa, up2, hj]
          refine CJ.mono (t_setLineM pS pT pC (show t < 80 by omega) y2 (by rw [Ab_nW ab]; exact hyn) hW v157 v158 (by rw [b29]; exact r5) (by rw [Ab_pln ab]; exact v162) (by rw [Ab_cF ab]; exact y4)) (fun r32 u31 hRg h31 => ?_)
          obtain ⟨fS, hr, h62, h63⟩ := h31
          rw [Ab_hgF ab] at h62
          rw [Ab_dpF ab] at h63
          rw [hr, if_neg (by decide), if_neg (by decide)]
          have c101 : u31.2.1 8 101 = (t : Int) := by rw [fS.2.2.1 101 (by omega), b29]; exact r6
          have c156 : u31.1 156 i = (y : Int) := by rw [fS.1 156 (by omega), o29 156 (by omega)]; exact a156
          rw [c101, c156]
          refine ⟨hRg.2 8 62, fun s36 e36 => ⟨hRg.2 8 63, fun s40 e40 => ⟨⟨by omega, by omega⟩, fun s43 e43 => ?_⟩⟩⟩
          have e43' : s43 = sf (sa (sa u31 160 t (hgF σ W i y)) 161 t (dpF σ W i y)) 8 101 ((t : Int) + 1) := by rw [e43, e40, e36, h62, h63]
          have fr43 : FrB σ s43 := by rw [e43']; exact (((fr29.trans fS.q.b).st157 (by omega)).st157 (by omega)).fd (by omega)
          have f43 : ∀ j, j ≠ 101 → 67 < j → s43.2.1 8 j = ρ.2.1 8 j := fun j j1 j2 => by
            rw [e43', sf_nx j1]
            show u31.2.1 8 j = _
            rw [fS.2.2.1 j (by omega), b29]
          have a43 : ∀ k, k ≠ 160 → k ≠ 161 → 138 < k → s43.1 k = s29.1 k := fun k k1 k2 k3 => by
            rw [e43', sfa, sa_ne k2, sa_ne k1, fS.1 k (by omega)]
          have c160 : s43.1 160 t = hgF σ W i y := by rw [e43', sfa, sa_ne (by decide), sa_at]
          have c161 : s43.1 161 t = dpF σ W i y := by rw [e43', sfa, sa_at]
          have n43 : ∀ k j, 157 ≤ k → k ≤ 162 → j ≠ t → s43.1 k j = ρ.1 k j := fun k j k1 k2 hj => by
            rw [← n29 k j hj, e43', sfa]
            by_cases q : k = 161
            · rw [q, sa_nx hj, sa_ne (by decide), fS.1 161 (by omega)]
            · rw [sa_ne q]
              by_cases q2 : k = 160
              · rw [q2, sa_nx hj, fS.1 160 (by omega)]
              · rw [sa_ne q2, fS.1 k (by omega)]
          rw [show (y : Int) + 1 = ((y + 1 : Nat) : Int) by omega]
          refine ih (t + 1) (y + 1) (dn ++ [(i, y)]) s43 (by omega) (by omega) (by simp; omega) (by omega) y5 ?_ fr43 (fun k k1 k2 => ?_) (by rw [f43 100 (by omega) (by omega)]; exact r3) (by rw [f43 109 (by omega) (by omega)]; exact r4) (by rw [f43 108 (by omega) (by omega)]; exact r5) ?_ ?_
          · rw [← happ, List.append_assoc, lnl_s hin, eT]
            rfl
          · rw [a43 k (by omega) (by omega) (by omega), o29 k (by omega)]
            exact r2 k k1 k2
          · rw [e43', sf_at]; omega
          · intro k p hp
            by_cases q : k = t
            · subst q
              rw [List.getElem?_append_right (by omega), hlen, Nat.sub_self] at hp
              have e : p = (i, y) := (Option.some.inj hp).symm
              rw [e]
              refine ⟨?_, ?_, ?_, c160, c161, ?_⟩
              · rw [a43 157 (by omega) (by omega) (by omega)]; exact v157
              · rw [a43 158 (by omega) (by omega) (by omega)]; exact v158
              · rw [a43 159 (by omega) (by omega) (by omega)]; exact v159
              · rw [a43 162 (by omega) (by omega) (by omega)]; exact v162
            · have hk : k < t := by
                rcases Nat.lt_or_ge k t with z | z
                · exact z
                · rw [List.getElem?_eq_none (by simp; omega)] at hp
                  exact absurd hp (by simp)
              rw [List.getElem?_append_left (by omega)] at hp
              have g := r7 k p hp
              rw [n43 157 k (by omega) (by omega) q, n43 158 k (by omega) (by omega) q, n43 159 k (by omega) (by omega) q, n43 160 k (by omega) (by omega) q, n43 161 k (by omega) (by omega) q, n43 162 k (by omega) (by omega) q]
              exact g
        refine ⟨⟨by omega, by omega⟩, fun z2 s29 e29 => goal s29 ?_, fun z2 => ?_⟩
        · rw [e29, if_neg (show ¬ pln σ W i y = true from fun q => by have := (pln_is.mp q).1; omega)]
        · obtain ⟨pS, pT, pC, ab⟩ := fr24.ok hS hT hC
          refine CJ.mono (t_isPlainEnd pS pT pC y2 (by rw [Ab_nW ab]; omega) hW) (fun r48 u47 _ h47 => ?_)
          rw [h47.1, h47.2, Ab_pln ab]
          intro s50 e50
          refine goal s50 ?_
          rw [e50]
          cases pln σ W i y with
          | true => rfl
          | false => rfl
  have e8' : s8 = sf (sf (sf (sf τ 8 100 1) 8 109 0) 8 108 W) 8 101 0 := by rw [e8, e5, e3, e1]
  refine loop 80 0 0 [] s8 rfl (Nat.le_refl _) rfl (by omega) h0 (by rw [List.nil_append]; exact hls.symm) ?_ (fun k _ _ => by rw [e8']; rfl) ?_ ?_ ?_ ?_ (fun k p hp => by simp at hp)
  · rw [e8']; exact (((hF.b.fd (by omega)).fd (by omega)).fd (by omega)).fd (by omega)
  · rw [e8', sf_nx (by decide), sf_nx (by decide), sf_nx (by decide), sf_at]
  · rw [e8', sf_nx (by decide), sf_nx (by decide), sf_at]
  · rw [e8', sf_nx (by decide), sf_at]
  · rw [e8', sf_at]; rfl
