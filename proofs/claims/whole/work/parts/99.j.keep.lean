/-! best: the class keeps its lines -/
theorem sfa {σ : St} {k j : Nat} {v : Int} : (sf σ k j v).1 = σ.1 := rfl
def lnl (T : Nat → Nat) (n : Nat) : Nat → Nat → List (Nat × Nat)
  | 0, _ => []
  | f + 1, i => if i < n then (i, T i) :: lnl T n f (T i + 1) else []
theorem lnl_s {T : Nat → Nat} {n f i : Nat} (h : i < n) : lnl T n (f + 1) i = (i, T i) :: lnl T n f (T i + 1) := by
  show (if i < n then _ else _) = _
  rw [if_pos h]
def hgF (σ : St) (W x y : Nat) : Int := hgM (pbl σ 0 (lnp σ W x y) ++ mbl (MS σ (lnp σ W x y)))
def dpF (σ : St) (W x y : Nat) : Int := dpM (pbl σ 0 (lnp σ W x y) ++ mbl (MS σ (lnp σ W x y)))
def LBc (σ : St) (W : Nat) (ls : List (Nat × Nat)) (τ : St) : Prop := ∀ k p, ls[k]? = some p → τ.1 77 k = p.1 ∧ τ.1 78 k = (p.2 : Int) + 1 - p.1 ∧ τ.1 79 k = cF σ W p.1 p.2 ∧ τ.1 80 k = hgF σ W p.1 p.2 ∧ τ.1 81 k = dpF σ W p.1 p.2 ∧ (0 ≤ hgF σ W p.1 p.2 ∧ hgF σ W p.1 p.2 ≤ 60000) ∧ (0 ≤ dpF σ W p.1 p.2 ∧ dpF σ W p.1 p.2 ≤ 60000)
def WKp (L k : Nat) : Prop := k = 5 ∨ k = 6 ∨ WLn L k ∨ (74 ≤ k ∧ k ≤ 81) ∨ 376 ≤ k
theorem WKp_WF {L k : Nat} (hL : isL L) (h : WKp L k) : WF k := by
  have hL2 : L = 9 ∨ L = 28 := hL
  unfold WKp WLn at h
  unfold WF
  omega
theorem t_keep {G : GT} {σ τ : St} (hS : IS σ) (hT : IT σ) (hU : UNx σ σ) (hF : Fr WF σ τ) {L W : Nat} (hL : isL L) (hW : W ≤ 300) (hSp : Spc (cF σ W) (nW σ) (τ.1 82) (τ.1 83)) (hSm : Sml (nW σ) (τ.1 82)) (h0 : τ.1 82 0 < NV) {T : Nat → Nat} (hT' : ∀ i, T i = (τ.1 83 i).toNat) : CJ G m_PA_keep [O 6, I W, O L] τ (fun _ υ => Fr (WKp L) τ υ ∧ υ.2.1 6 3 = W ∧ υ.2.1 6 2 = (lnl T (nW σ) 80 0).length ∧ LBc σ W (lnl T (nW σ) 80 0) υ) := by
  have n8 := nU_le hT
  have nw8 := nW_le hT
  have NVe : NV = 536870912 := rfl
  have hL2 : L = 9 ∨ L = 28 := hL
  obtain ⟨n, hn⟩ : ∃ n, n = nW σ := ⟨_, rfl⟩
  rw [← hn] at hSp hSm ⊢
  obtain ⟨ls, hls⟩ : ∃ ls, ls = lnl T n 80 0 := ⟨_, rfl⟩
  rw [← hls]
  refine CJ.go (fun _ => k_PA_keep_0 hL ⟨⟨by omega, by omega⟩, fun s1 e1 s4 e4 => ?_⟩)
  have loop : ∀ (d t i : Nat) (dn : List (Nat × Nat)) (υ : St), t + d = 80 → dn.length = t → i ≤ n → τ.1 82 i < NV → dn ++ lnl T n d i = ls → Fr (WKp L) τ υ → υ.2.1 6 3 = W → υ.2.1 6 2 = t → LBc σ W dn υ → a_PA_keep_15 G L i t υ (fun _ υ => Fr (WKp L) τ υ ∧ υ.2.1 6 3 = W ∧ υ.2.1 6 2 = ls.length ∧ LBc σ W ls υ) := by
    intro d
    induction d with
    | zero =>
      intro t i dn υ hd hlen hi hb happ hFr h63 h62 hLB
      have e : dn = ls := by rw [← happ]; show dn = dn ++ []; rw [List.append_nil]
      refine k_PA_keep_15 hL ⟨⟨by omega, by omega⟩, fun _ => ⟨hFr, h63, ?_, ?_⟩, fun z => absurd z (by omega)⟩
      · rw [h62, ← e, hlen]
      · rw [← e]; exact hLB
    | succ d ih =>
      intro t i dn υ hd hlen hi hb happ hFr h63 h62 hLB
      have hFW : Fr WF σ υ := hF.trans (hFr.mono (fun k hk => WKp_WF hL hk))
      have hU' := WF_U hU hFW
      have e43 : υ.2.1 4 3 = (n : Int) := by rw [hn]; exact hU'.2.1
      refine k_PA_keep_15 hL ?_
      rw [e43]
      refine ⟨⟨by omega, by omega⟩, fun z => absurd z (by omega), fun _ => ⟨⟨by omega, by omega⟩, fun z => ⟨hFr, h63, ?_, ?_⟩, fun z => ?_⟩⟩
      · have e : dn = ls := by rw [← happ]; unfold lnl; rw [if_neg (by omega), List.append_nil]
        rw [h62, ← e, hlen]
      · have e : dn = ls := by rw [← happ]; unfold lnl; rw [if_neg (by omega), List.append_nil]
        rw [← e]; exact hLB
      · have hin : i < n := by omega
        obtain ⟨y, y1, y2, y3, y4, y5, y6⟩ := Spc_T hSp hin hb
        have a82 : υ.1 82 = τ.1 82 := (hFr.1 82 (by unfold WKp WLn; omega)).1
        have a83 : υ.1 83 = τ.1 83 := (hFr.1 83 (by unfold WKp WLn; omega)).1
        have eT : T i = y := by rw [hT', y1, Int.toNat_natCast]
        have ey : ((y : Int) + 1).toNat = y + 1 := by omega
        rw [h62, Int.toNat_natCast t, Int.toNat_natCast i, a82, a83, y1, ey]
        have sm := hSm i (by omega)
        have sm2 := hSm (y + 1) (by omega)
        have cb := cF_b hS hT (W := W) y2 (by omega)
        refine ⟨by omega, by omega, fun s21 e21 => ⟨⟨by omega, by omega⟩, fun s25 e25 => ⟨by omega, by omega, ⟨by omega, by omega⟩, fun s33 e33 => ?_⟩⟩⟩
        have e33' : s33 = sa (sa (sa υ 77 t i) 78 t ((y : Int) + 1 - i)) 79 t (τ.1 82 i - τ.1 82 (y + 1)) := by rw [e33, e25, e21]
        have fr33 : Fr (WKp L) τ s33 := by rw [e33']; exact ((hFr.sa (by unfold WKp; omega)).sa (by unfold WKp; omega)).sa (by unfold WKp; omega)
        have v77 : s33.1 77 t = (i : Int) := by rw [e33', sa_ne (by decide), sa_ne (by decide), sa_at]
        have v78 : s33.1 78 t = (y : Int) + 1 - i := by rw [e33', sa_ne (by decide), sa_at]
        have v79 : s33.1 79 t = cF σ W i y := by rw [e33', sa_at]; omega
        have b2 : s33.2 = υ.2 := by rw [e33']; rfl
        have hset := cF_set y4
        have hno := pln_no hset
        have hyn : y < nW σ := by omega
        obtain ⟨f1, f2, f3, f4, f5, f6, f7, f8, f9⟩ := word_rng hS hT y2 hyn
        have E8 := f2.1
        refine CJ.mono (t_setLine hS hT hU (hF.trans (fr33.mono (fun k hk => WKp_WF hL hk))) hL (show t < 80 by omega) y2 hyn hW v77 v78 (by rw [b2]; exact h63) hset) (fun _ u36 _ h36 => ?_)
        obtain ⟨p1, hch, p2, hFr36, -, -⟩ := h36
        refine CJ.mono (t_putMarks hS hT hU hL hFr36 hch f2.1 hno p1) (fun _ u37 _ h37 => ?_)
        obtain ⟨m1, m2, m3, m4, m5⟩ := h37
        have hG : ∀ q ∈ lnp σ W i y, GPc σ q := fun q hq => (Chn_G hch q hq).1
        have hll : (lnp σ W i y).length ≤ 80 := by have := Chn_len hch; omega
        have bP := pbl_bb hS hG hll
        have bM := MBd_bb m4 m5
        have lP : (pbl σ 0 (lnp σ W i y)).length ≤ 80 := by rw [pbl_len]; exact hll
        have lM : (mbl (MS σ (lnp σ W i y))).length ≤ 80 := by unfold mbl; rw [List.length_map]; exact m5
        have o37 : ∀ k, k ≠ 5 → ¬ WLn L k → ¬ (74 ≤ k ∧ k ≤ 76) → k < 376 → u37.1 k = s33.1 k ∧ u37.2.1 k = s33.2.1 k := fun k k1 k2 k3 k4 => by
          have a := m3.1 k (by unfold WLn at k2; omega)
          have b := p2.1 k (by unfold WSl WLn; unfold WLn at k2; omega)
          exact ⟨a.1.trans b.1, a.2.trans b.2⟩
        have p37 : u37.2.2 = s33.2.2 := m3.2.trans p2.2
        have c37 : u37.2.1 6 2 = (t : Int) := by rw [(o37 6 (by omega) (by unfold WLn; omega) (by omega) (by omega)).2, b2]; exact h62
        have hb6 : (0 ≤ hgF σ W i y ∧ hgF σ W i y ≤ 60000) ∧ (0 ≤ dpF σ W i y ∧ dpF σ W i y ≤ 60000) := hgM_b (fun x hx => by
          rcases List.mem_append.mp hx with q | q
          · exact bP x q
          · exact bM x q)
        have hh := t_height (G := G) hL (LJ_bx m2) m1.1 bP bM lP lM
        refine CJ.mono hh.1 (fun r40 u39 _ h39 => ?_)
        rw [h39.1, h39.2, c37, Int.toNat_natCast t]
        refine ⟨by omega, fun s43 e43' => ?_⟩
        have k43 : ∀ k, k ≠ 80 → s43.1 k = u37.1 k := fun k hk => by rw [e43', sa_ne hk]
        have b43 : s43.2 = u37.2 := by rw [e43']; rfl
        have hP43 : BXt (L + 1) (pbl σ 0 (lnp σ W i y)) s43 := by
          have := LJ_bx m2
          unfold BXt at this ⊢
          rw [b43, k43 (L + 1 + 1) (by omega), k43 (L + 1 + 2) (by omega), k43 (L + 1 + 3) (by omega), k43 (L + 1 + 4) (by omega)]
          exact this
        have hM43 : BXt (L + 7) (mbl (MS σ (lnp σ W i y))) s43 := by
          have : BXt (L + 7) (mbl (MS σ (lnp σ W i y))) u37 := m1.1
          unfold BXt at this ⊢
          rw [b43, k43 (L + 7 + 1) (by omega), k43 (L + 7 + 2) (by omega), k43 (L + 7 + 3) (by omega), k43 (L + 7 + 4) (by omega)]
          exact this
        have hh2 := t_height (G := G) hL hP43 hM43 bP bM lP lM
        refine CJ.mono hh2.2 (fun r47 u46 _ h46 => ?_)
        rw [h46.1, h46.2, b43, c37]
        refine ⟨by omega, fun s50 e50 => ⟨⟨by omega, by omega⟩, fun s53 e53 => ?_⟩⟩
        have e53' : s53 = sf (sa s43 81 t (dpF σ W i y)) 6 2 ((t : Int) + 1) := by rw [e53, e50]; rfl
        have a53 : ∀ k, k ≠ 80 → k ≠ 81 → s53.1 k = u37.1 k := fun k k1 k2 => by rw [e53', sfa, sa_ne k2, k43 k k1]
        have a80 : ∀ j, j ≠ t → s53.1 80 j = u37.1 80 j := fun j hj => by rw [e53', sfa, sa_ne (by decide), e43', sa_nx hj]
        have a81 : ∀ j, j ≠ t → s53.1 81 j = u37.1 81 j := fun j hj => by rw [e53', sfa, sa_nx hj, k43 81 (by omega)]
        have c80 : s53.1 80 t = hgF σ W i y := by rw [e53', sfa, sa_ne (by decide), e43', sa_at]; rfl
        have c81 : s53.1 81 t = dpF σ W i y := by rw [e53', sfa, sa_at]
        have b53 : ∀ k, k ≠ 6 → s53.2.1 k = u37.2.1 k := fun k hk => by rw [e53', sf_ne hk]; show s43.2.1 k = _; rw [b43]
        have p53 : s53.2.2 = u37.2.2 := by rw [e53']; show s43.2.2 = _; rw [b43]
        have c53 : s53.2.1 6 2 = ((t + 1 : Nat) : Int) := by rw [e53', sf_at]; omega
        have d53 : s53.2.1 6 3 = (W : Int) := by
          rw [e53', sf_nx (by decide)]
          show s43.2.1 6 3 = _
          rw [b43, (o37 6 (by omega) (by unfold WLn; omega) (by omega) (by omega)).2, b2]
          exact h63
        have fr53 : Fr (WKp L) τ s53 := by
          refine ⟨fun k hk => ?_, ?_⟩
          · have q := fr33.1 k hk
            unfold WKp at hk
            have o := o37 k (by omega) (fun q => hk (Or.inr (Or.inr (Or.inl q)))) (by omega) (by omega)
            exact ⟨(a53 k (by omega) (by omega)).trans (o.1.trans q.1), (b53 k (by omega)).trans (o.2.trans q.2)⟩
          · rw [p53, p37]; exact fr33.2
        rw [show (y : Int) + 1 = ((y + 1 : Nat) : Int) by omega, show (t : Int) + 1 = ((t + 1 : Nat) : Int) by omega]
        refine ih (t + 1) (y + 1) (dn ++ [(i, y)]) s53 (by omega) (by simp; omega) (by omega) y5 ?_ fr53 d53 c53 ?_
        · rw [← happ, List.append_assoc, lnl_s hin, eT]
          rfl
        · intro k p hp
          by_cases q : k = t
          · subst q
            rw [List.getElem?_append_right (by omega), hlen, Nat.sub_self] at hp
            have e : p = (i, y) := (Option.some.inj hp).symm
            rw [e]
            refine ⟨?_, ?_, ?_, c80, c81, hb6⟩
            · rw [a53 77 (by omega) (by omega), (o37 77 (by omega) (by unfold WLn; omega) (by omega) (by omega)).1]; exact v77
            · rw [a53 78 (by omega) (by omega), (o37 78 (by omega) (by unfold WLn; omega) (by omega) (by omega)).1]; exact v78
            · rw [a53 79 (by omega) (by omega), (o37 79 (by omega) (by unfold WLn; omega) (by omega) (by omega)).1]; exact v79
          · have hk : k < t := by
              rcases Nat.lt_or_ge k t with z | z
              · exact z
              · rw [List.getElem?_eq_none (by simp; omega)] at hp
                exact absurd hp (by simp)
            rw [List.getElem?_append_left (by omega)] at hp
            obtain ⟨g1, g2, g3, g4, g5, g6⟩ := hLB k p hp
            have o : ∀ j, (77 ≤ j ∧ j ≤ 81) → u37.1 j = s33.1 j := fun j hj => (o37 j (by omega) (by unfold WLn; omega) (by omega) (by omega)).1
            rw [a80 k q, a81 k q, a53 77 (by omega) (by omega), a53 78 (by omega) (by omega), a53 79 (by omega) (by omega), o 77 (by omega), o 78 (by omega), o 79 (by omega), o 80 (by omega), o 81 (by omega), e33']
            refine ⟨?_, ?_, ?_, ?_, ?_, g6⟩
            · rw [sa_ne (by decide), sa_ne (by decide), sa_nx q]; exact g1
            · rw [sa_ne (by decide), sa_nx q, sa_ne (by decide)]; exact g2
            · rw [sa_nx q, sa_ne (by decide), sa_ne (by decide)]; exact g3
            · rw [sa_ne (by decide), sa_ne (by decide), sa_ne (by decide)]; exact g4
            · rw [sa_ne (by decide), sa_ne (by decide), sa_ne (by decide)]; exact g5
  have e4' : s4 = sf (sf τ 6 3 W) 6 2 0 := by rw [e4, e1]
  refine loop 80 0 0 [] s4 rfl rfl (by omega) h0 (by rw [List.nil_append]; exact hls.symm) ?_ ?_ ?_ (fun k p hp => by simp at hp)
  · rw [e4']; exact (Fr.refl.sf (by unfold WKp; omega)).sf (by unfold WKp; omega)
  · rw [e4', sf_nx (by decide), sf_at]
  · rw [e4', sf_at]; rfl
