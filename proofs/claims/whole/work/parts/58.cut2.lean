/-! cutWord, cut -/
def L2x (σ : St) (w r u0 k : Nat) (τ : St) : Prop := FrC σ τ ∧ τ.2.1 8 27 = w ∧ τ.2.1 8 35 = bc σ (u0 + k) ∧ bh σ (u0 + k) ≤ u0 + k ∧ PWx σ (we σ w + 1) τ ∧ PBx σ (we σ w + 1) (fun j => uc σ (j + 1) ≤ u0 ∨ (sd (ts σ) j = false ∧ uc σ (j + 1) ≤ u0 + k)) τ ∧ BSx σ (u0 + k) τ ∧ WDx σ w τ ∧ WEx σ w τ ∧ (∀ k, k < r → τ.1 123 k = up σ (u0 + k))
def L3x (σ : St) (w i : Nat) (τ : St) : Prop := FrC σ τ ∧ τ.2.1 8 27 = w ∧ τ.2.1 8 35 = bc σ (uc σ (we σ w + 1)) ∧ bh σ (uc σ (we σ w + 1)) ≤ uc σ (we σ w + 1) ∧ PWx σ (we σ w + 1) τ ∧ PBx σ (we σ w + 1) (fun j => j < i ∨ sd (ts σ) j = false) τ ∧ BSx σ (uc σ (we σ w + 1)) τ ∧ WDx σ w τ ∧ WEx σ w τ
theorem l_cw3 {G : GT} {σ : St} {P : Int → St → Prop} (hT : IT σ) {w : Nat} (hw : w < nW σ) (hP : ∀ τ, CI σ (we σ w + 1) τ → P 0 τ) : ∀ (d i : Nat) (τ : St) (v5 : Int), i + d = we σ w + 1 → wa σ w ≤ i → L3x σ w i τ → (wa σ w < i → v5 = up σ (uc σ i - 1)) → a_MO_cutWord_402 G (we σ w + 1 : Nat) v5 i τ P := by
  obtain ⟨t1, t2, t3, -⟩ := id hT
  obtain ⟨w1, w2, w3, w4, w5, w6, w7⟩ := word_ex hw
  have tn8 : tn σ ≤ 80 := by unfold tn; omega
  have hlew : w < tn σ := by have := cnt_le (wst (ts σ)) (tn σ); unfold nW wdc at hw; omega
  have hwd : wdc σ (we σ w + 1) = w + 1 := (w7 (we σ w) w4 (Nat.le_refl _)).2
  intro d
  induction d with
  | zero =>
    intro i τ v5 hi ha h hv
    obtain ⟨f, a1, a2, a3, a4, a5, a6, a7, a8⟩ := h
    have ei : i = we σ w + 1 := by omega
    refine k_MO_cutWord_402 ?_
    rw [a1, a2, Int.toNat_natCast]
    refine ⟨⟨by omega, by omega⟩, ⟨by omega, by omega⟩, fun _ => ⟨by omega, fun s58 e58 => ⟨⟨by omega, by omega⟩, fun s61 e61 => hP s61 ?_⟩⟩, fun z => absurd z (by omega)⟩
    have A : ∀ k, k ≠ 113 → s61.1 k = τ.1 k := fun k hk => by rw [e61, e58, sf_1, sa_ne hk]
    refine ⟨by rw [e61, e58]; exact (f.sa (by decide)).sf (by decide), by rw [e61, sf_at, hwd]; omega, by rw [e61, e58, sf_nx (by decide)]; exact a2, a3, PWx_keep a4 (A _ (by decide)) (A _ (by decide)), fun j hj _ => ?_, BSx_keep a6 (fun k h1 h2 => A k (by omega)), fun x hx => ?_⟩
    · rw [A 115 (by decide)]
      exact a5 j hj (Or.inl (by omega))
    · rw [A 110 (by decide), A 111 (by decide), A 112 (by decide), e61, e58, sf_1]
      by_cases q : x = w
      · subst q
        rw [sa_at]
        exact ⟨a8.1, a8.2.1, a8.2.2, rfl⟩
      · rw [sa_nx q]
        exact a7 x (by omega)
  | succ d ih =>
    intro i τ v5 hi ha h hv
    obtain ⟨f, a1, a2, a3, a4, a5, a6, a7, a8⟩ := id h
    have hin : i < tn σ := by omega
    have hst := (a4 i (by omega)).2
    refine k_MO_cutWord_402 ?_
    rw [Int.toNat_natCast, hst]
    refine ⟨⟨by omega, by omega⟩, ⟨by omega, by omega⟩, fun z => absurd z (by omega), fun _ => ⟨by omega, fun z => ?_, fun z => ?_⟩⟩
    · have hs : sd (ts σ) i = false := by
        cases q : sd (ts σ) i with
        | false => rfl
        | true => rw [q] at z; simp at z
      refine ih (i + 1) τ i (by omega) (by omega) ⟨f, a1, a2, a3, a4, fun j hj hc => ?_, a6, a7, a8⟩ (fun _ => ?_)
      · refine a5 j hj ?_
        by_cases q : j = i
        · right; rw [q]; exact hs
        · rcases hc with c | c
          · left; omega
          · exact Or.inr c
      · rw [uc_u hs, show uc σ i + 1 - 1 = uc σ i by omega, up_eq hs hin]
    · have hs : sd (ts σ) i = true := by
        cases q : sd (ts σ) i with
        | true => rfl
        | false => rw [q] at z; simp at z
      have hia : wa σ w < i := by
        rcases Nat.lt_or_ge (wa σ w) i with q | q
        · exact q
        · have e : i = wa σ w := by omega
          rw [e, wst_sd w2] at hs
          exact absurd hs (by decide)
      have hv5 := hv hia
      have hpos : 1 ≤ uc σ i := by
        obtain ⟨m', hm'⟩ : ∃ m', i = m' + 1 := ⟨i - 1, by omega⟩
        rw [hm']; exact uc_pos
      have hlt : uc σ i - 1 < nU σ := by
        have := uc_mono (σ := σ) (show i ≤ tn σ by omega)
        have : nU σ = uc σ (tn σ) := rfl
        omega
      obtain ⟨x1, x2, x3⟩ := up_ex hlt
      have hxi : up σ (uc σ i - 1) < i := by
        rcases Nat.lt_or_ge (up σ (uc σ i - 1)) i with q | q
        · exact q
        · have := uc_mono (σ := σ) q
          omega
      have hx := a5 (up σ (uc σ i - 1)) (by omega) (Or.inr x2)
      rw [uc_u x2, x3, show uc σ i - 1 + 1 = uc σ i by omega] at hx
      rw [hv5, Int.toNat_natCast, hx]
      refine ⟨by omega, fun s70 e70 => ?_⟩
      have A : ∀ k, k ≠ 115 → s70.1 k = τ.1 k := fun k hk => by rw [e70, sa_ne hk]
      refine ih (i + 1) s70 _ (by omega) (by omega) ⟨by rw [e70]; exact f.sa (by decide), by rw [e70]; exact a1, by rw [e70]; exact a2, a3, PWx_keep a4 (A _ (by decide)) (A _ (by decide)), fun j hj hc => ?_, BSx_keep a6 (fun k h1 h2 => A k (by omega)), WDx_keep a7 (fun k h1 h2 => A k (by omega)), ?_⟩ (fun _ => by rw [uc_s hs])
      · rw [e70]
        by_cases q : j = i
        · rw [q, sa_at, uc_s hs]
        · rw [sa_nx q]
          refine a5 j hj ?_
          rcases hc with c | c
          · left; omega
          · exact Or.inr c
      · unfold WEx
        rw [A 110 (by decide), A 111 (by decide), A 112 (by decide)]
        exact a8
theorem l_cw2 {G : GT} {σ : St} {P : Int → St → Prop} (hS : IS σ) (hT : IT σ) {w : Nat} (hw : w < nW σ) (hP : ∀ τ, CI σ (we σ w + 1) τ → P 0 τ) {r u0 : Nat} (hr : u0 + r = uc σ (we σ w + 1)) (hus : ∀ k, k < r → ¬ (us σ (u0 + k) = 6 ∨ us σ (u0 + k) = 3 ∨ us σ (u0 + k) = 4)) (hu0 : u0 = 0 ∨ us σ (u0 - 1) ≠ 0) : ∀ (d k : Nat) (τ : St), k + d = r → L2x σ w r u0 k τ → a_MO_cutWord_154 G (wa σ w) (we σ w + 1 : Nat) r k τ P := by
  have n := hS.1
  unfold NumOk at n
  obtain ⟨t1, t2, t3, -⟩ := id hT
  obtain ⟨w1, w2, w3, w4, w5, w6, w7⟩ := word_ex hw
  have tn8 : tn σ ≤ 80 := by unfold tn; omega
  have n8 := nU_le hT
  have hE : u0 + r ≤ nU σ := by
    rw [hr]
    exact uc_mono (by omega)
  have hbE : u0 + r = nU σ ∨ us σ (u0 + r) = 6 := by
    rcases w6 with q | q
    · left; rw [hr, q]; rfl
    · by_cases q2 : we σ w + 1 = tn σ
      · left; rw [hr, q2]; rfl
      · right
        have hs : sd (ts σ) (we σ w + 1) = false := sd_not (by omega)
        rw [hr]
        unfold us
        rw [up_eq hs (by omega)]
        exact q
  intro d
  induction d using Nat.strongRecOn with
  | _ d ihd =>
    intro k τ hk h
    obtain ⟨f, a1, a2, a3, a4, a5, a6, a7, a8, a9⟩ := id h
    by_cases hkr : k = r
    · refine k_MO_cutWord_154 ⟨⟨by omega, by omega⟩, ⟨by omega, by omega⟩, fun _ => ?_, fun z => absurd z (by omega)⟩
      subst hkr
      rw [hr] at a2 a3 a6
      refine l_cw3 hT hw hP (we σ w + 1 - wa σ w) (wa σ w) τ (-6) (by omega) (Nat.le_refl _) ⟨f, a1, a2, a3, a4, fun j hj hc => ?_, a6, a7, a8⟩ (fun q => absurd q (by omega))
      refine a5 j hj ?_
      rcases hc with c | c
      · left
        -- letters ahead of the word
        have h1 := uc_mono (σ := σ) (show j + 1 ≤ wa σ w by omega)
        show uc σ (j + 1) ≤ u0
        rcases Nat.lt_or_ge u0 (uc σ (j + 1)) with q | q
        · exfalso
          rcases Nat.eq_zero_or_pos k with z | z
          · have := uc_mono (σ := σ) (show wa σ w ≤ we σ w + 1 by omega)
            have := uc_lt (wst_sd w2) (show wa σ w < we σ w + 1 by omega)
            omega
          · have hu := hus 0 z
            -- the row's first letter stands in the word
            have := (up_ex (show u0 < nU σ by omega))
            have hlt : up σ u0 < wa σ w := by
              rcases Nat.lt_or_ge (up σ u0) (wa σ w) with q2 | q2
              · exact q2
              · have := uc_mono (σ := σ) q2
                omega
            have hb : ts σ (wa σ w - 1) = 6 := by
              have := (wst_e w2).2
              obtain ⟨a', ha'⟩ : ∃ a', wa σ w = a' + 1 := ⟨wa σ w - 1, by omega⟩
              rw [ha'] at this ⊢
              unfold iw at this
              simpa using this
            have hsb : sd (ts σ) (wa σ w - 1) = false := sd_not (by omega)
            have e1 := uc_u hsb
            rw [show wa σ w - 1 + 1 = wa σ w by omega] at e1
            have hlast := uc_lt (wst_sd w2) (show wa σ w < we σ w + 1 by omega)
            have hkk := hus (uc σ (wa σ w) - 1 - u0) (by omega)
            rw [show u0 + (uc σ (wa σ w) - 1 - u0) = uc σ (wa σ w - 1) by omega] at hkk
            apply hkk
            left
            unfold us
            rw [up_eq hsb (by omega)]
            exact hb
        · exact q
      · right
        refine ⟨c, ?_⟩
        have := uc_mono (σ := σ) (show j + 1 ≤ we σ w + 1 by omega)
        omega
    · have hku : u0 + k < nU σ := by omega
      have hA : ∀ q, (89 ≤ q ∧ q ≤ 93) ∨ q = 106 → τ.1 q = σ.1 q := fun q hq => f.1 q (by omega)
      have h6 : τ.2.1 8 6 = σ.2.1 8 6 := f.2.2.1 _ (by decide) (by decide)
      refine k_MO_cutWord_154 ⟨⟨by omega, by omega⟩, ⟨by omega, by omega⟩, fun z => absurd z (by omega), fun _ => ?_⟩
      refine CJ.mono (t_longest hS hT hA h6 (by omega) hE hbE (by omega) a9) (fun l v _ hv => ?_)
      obtain ⟨hv, hl⟩ := hv
      rw [hv]
      clear hv
      obtain ⟨lb1, lb2, lb3⟩ := lb_spec hS hT hku
      have lcr := lb_cross hS hT (show u0 + k < u0 + r by omega) hE hbE
      have lp := ln3_pos (σ := σ) (g := (lb σ (u0 + k)).toNat)
      have hlb : lb σ (u0 + k) = if l < 0 then ul σ (u0 + k) else l := by rw [hl]; rfl
      have lsp := lmF_spec (σ := σ) (u := u0 + k) (nL σ)
      rw [← hl] at lsp
      have hc : (if 0 ≤ l then (if 0 ≤ τ.1 92 l.toNat then (3 : Int) else 2) else 1) = (ln3 σ (lb σ (u0 + k)).toNat : Int) := by
        rw [hA 92 (by omega)]
        rcases lsp with q | ⟨x, x1, x2, x3, -⟩
        · rw [if_neg (by omega)]
          rw [if_pos (by omega)] at hlb
          rcases lb3 with z | z
          · rw [z.2]; rfl
          · have := ul_ok hT hku
            rw [hlb] at z
            exact absurd z.1 this.2.2
        · rw [if_pos (by omega)]
          rw [if_neg (by omega)] at hlb
          rw [hlb, x2, Int.toNat_natCast]
          unfold ln3
          rw [if_pos x3]
          by_cases z : σ.1 92 x < 0
          · rw [if_neg (by omega), if_pos z]; rfl
          · rw [if_pos (by omega), if_neg z]; rfl
      have hl60 : 0 ≤ l → l < 60 := fun h0 => by
        rcases lsp with q | ⟨x, x1, x2, -⟩
        · omega
        · unfold nL at x1; omega
      have hrl : rng l := by
        rcases lsp with q | ⟨x, x1, x2, -⟩
        · exact ⟨by omega, by omega⟩
        · exact ⟨by omega, by unfold nL at x1; omega⟩
      refine ⟨fun h0 => ⟨⟨h0, hl60 h0⟩, by split <;> exact ⟨by decide, by decide⟩⟩, ?_⟩
      rw [hc]
      obtain ⟨c, hcn⟩ : ∃ c, ln3 σ (lb σ (u0 + k)).toNat = c := ⟨_, rfl⟩
      rw [hcn] at lb2 lcr lp ⊢
      have upk : ∀ j, j < r → up σ (u0 + j) < tn σ ∧ sd (ts σ) (up σ (u0 + j)) = false ∧ uc σ (up σ (u0 + j)) = u0 + j := fun j hj => up_ex (by omega)
      have bcI : ∀ j, k ≤ j → j < k + c → bc σ (u0 + j + 1) = bc σ (u0 + k) + 1 := fun j h1 h2 => bc_in a3 (u0 + j + 1) (by omega) (by omega)
      -- the letters of the piece
      have inner : ∀ (e j : Nat) (τ' : St), j + e = k + c → k ≤ j → FrC σ τ' → τ'.2.1 8 27 = w → τ'.2.1 8 35 = bc σ (u0 + k) → PWx σ (we σ w + 1) τ' → PBx σ (we σ w + 1) (fun x => uc σ (x + 1) ≤ u0 ∨ (sd (ts σ) x = false ∧ uc σ (x + 1) ≤ u0 + j)) τ' → BSx σ (u0 + k) τ' → WDx σ w τ' → WEx σ w τ' → (∀ x, x < r → τ'.1 123 x = up σ (u0 + x)) → a_MO_cutWord_190 G (wa σ w) (we σ w + 1 : Nat) r k l c j τ' P := by
        intro e
        induction e with
        | zero =>
          intro j τ' hj hkj g g1 g2 g4 g5 g6 g7 g8 g9
          have ej : j = k + c := by omega
          have hB89 : τ'.1 89 = σ.1 89 := g.1 89 (by omega)
          have hB106 : τ'.1 106 = σ.1 106 := g.1 106 (by omega)
          have hbk := bc_le (σ := σ) (u := u0 + k)
          have hux := upk k (by omega)
          have hrow := g9 k (by omega)
          have hlet : (if 0 ≤ l then l else τ'.1 106 ((τ'.1 123 k).toNat)) = lb σ (u0 + k) := by
            rw [hrow, Int.toNat_natCast, hB106, hlb]
            by_cases z : l < 0
            · rw [if_neg (by omega), if_pos z]; rfl
            · rw [if_pos (by omega), if_neg z]
          have hkd : (if 0 ≤ l then (1 : Int) else 0) = kd σ (u0 + k) := by
            have hn := hus k (by omega)
            unfold kd
            rw [if_neg (show ¬ us σ (u0 + k) = 6 by omega), if_neg (show ¬ (us σ (u0 + k) = 3 ∨ us σ (u0 + k) = 4) by omega), hlb]
            by_cases z : l < 0
            · rw [if_neg (by omega), if_pos z, if_neg (ul_ok hT hku).2.2]
            · rw [if_pos (by omega), if_neg z]
              rcases lsp with q | ⟨x, x1, x2, x3, -⟩
              · omega
              · rw [x2, Int.toNat_natCast, if_pos x3]
          refine k_MO_cutWord_190 ?_
          rw [Int.toNat_natCast, hlet, hkd, hrow]
          refine ⟨⟨by omega, by omega⟩, ⟨by omega, by omega⟩, fun _ => ⟨hrl, fun _ => ⟨by omega, by omega, by omega⟩, by omega, ?_⟩, fun z => absurd z (by omega)⟩
          have hrk : rng (kd σ (u0 + k)) := by rw [← hkd]; split <;> exact ⟨by decide, by decide⟩
          refine CJ.mono (t_base (p := bc σ (u0 + k)) g2 (by omega) hrk ⟨by omega, by omega⟩ ⟨by omega, by omega⟩ ⟨by omega, by omega⟩) (fun _ u84 _ hu84 => ?_)
          have o84 : ∀ q, q < 117 ∨ 122 < q → u84.1 q = τ'.1 q := fun q hq => by rw [hu84]; exact bsM_o q hq
          have g35 : u84.2.1 8 35 = (bc σ (u0 + k) : Int) + 1 := by rw [hu84]; exact sf_at
          have ttx : ∀ j, j < r → u84.1 106 ((u84.1 123 j).toNat) = ul σ (u0 + j) ∧ (0 ≤ u84.1 123 j ∧ u84.1 123 j < 80) ∧ (0 ≤ ul σ (u0 + j) ∧ ul σ (u0 + j) < 60) ∧ σ.1 89 (ul σ (u0 + j)).toNat = us σ (u0 + j) := fun j hj => by
            have hx := (upk j hj).1
            have ho := ul_ok hT (show u0 + j < nU σ by omega)
            unfold LOk at ho
            rw [o84 106 (by omega), o84 123 (by omega), g9 j hj, Int.toNat_natCast, hB106]
            exact ⟨rfl, by omega, by omega, rfl⟩
          rw [g35, o84 89 (by omega), hB89, show ((bc σ (u0 + k) : Int) + 1 - 1) = (bc σ (u0 + k) : Int) by omega, Int.toNat_natCast, (ttx k (by omega)).1, (ttx k (by omega)).2.2.2]
          -- is it joined
          have hjp : (if 0 < (k : Int) ∧ (σ.1 89 (u84.1 106 ((u84.1 123 (((k : Int) - 1).toNat)).toNat)).toNat = 0 ∧ (us σ (u0 + k) = 0 ∨ us σ (u0 + k) = 1)) then (1 : Int) else 0) = if jp σ (u0 + k) = true then 1 else 0 := by
            refine ite_iff ?_
            rcases Nat.eq_zero_or_pos k with z | z
            · subst z
              constructor
              · intro q; exact absurd q.1 (by omega)
              · intro q
                exfalso
                unfold jp jn at q
                simp only [Bool.and_eq_true, decide_eq_true_iff, Nat.add_zero] at q
                rcases hu0 with y | y
                · omega
                · exact y q.2.2.1
            · rw [show ((k : Int) - 1).toNat = k - 1 by omega, (ttx (k - 1) (by omega)).1, (ttx (k - 1) (by omega)).2.2.2]
              unfold jp jn
              simp only [Bool.and_eq_true, decide_eq_true_iff]
              rw [show u0 + k - 1 + 1 = u0 + k by omega, show u0 + (k - 1) = u0 + k - 1 by omega]
              constructor
              · rintro ⟨q1, q2, q3⟩
                exact ⟨by omega, by omega, q2, q3⟩
              · rintro ⟨q1, q2, q3, q4⟩
                exact ⟨by omega, q3, q4⟩
          rw [hjp]
          refine ⟨⟨by omega, by omega⟩, fun zk => ⟨by omega, ?_, (ttx k (by omega)).2.1, ?_, fun _ => (ttx k (by omega)).2.2.1⟩, by omega, fun s98 e98 => ⟨⟨by omega, by omega⟩, ?_⟩⟩
          · rw [show ((k : Int) - 1).toNat = k - 1 by omega]; exact (ttx (k - 1) (by omega)).2.1
          · rw [show ((k : Int) - 1).toNat = k - 1 by omega, (ttx (k - 1) (by omega)).1]; exact (ttx (k - 1) (by omega)).2.2.1
          have h98 : s98.1 89 = σ.1 89 := by rw [e98, sa_ne (by decide), o84 89 (by omega)]; exact hB89
          rw [h98, show ((k : Int) + (c : Int) - 1).toNat = k + c - 1 by omega, show ((k : Int) + (c : Int)).toNat = k + c by omega, (ttx (k + c - 1) (by omega)).1, (ttx (k + c - 1) (by omega)).2.2.2]
          have hjn : (if (k : Int) + (c : Int) < (r : Int) ∧ (us σ (u0 + (k + c - 1)) = 0 ∧ (σ.1 89 (u84.1 106 ((u84.1 123 (k + c)).toNat)).toNat = 0 ∨ σ.1 89 (u84.1 106 ((u84.1 123 (k + c)).toNat)).toNat = 1)) then (1 : Int) else 0) = if jn σ (u0 + k + c - 1) = true then 1 else 0 := by
            refine ite_iff ?_
            unfold jn
            rw [decide_eq_true_iff, show u0 + k + c - 1 + 1 = u0 + (k + c) by omega, show u0 + k + c - 1 = u0 + (k + c - 1) by omega]
            by_cases z : k + c < r
            · rw [(ttx (k + c) z).1, (ttx (k + c) z).2.2.2]
              constructor
              · rintro ⟨q1, q2, q3⟩
                exact ⟨by omega, q2, q3⟩
              · rintro ⟨q1, q2, q3⟩
                exact ⟨by omega, q2, q3⟩
            · have er : k + c = r := by omega
              constructor
              · intro q; exact absurd q.1 (by omega)
              · rintro ⟨q1, q2, q3⟩
                exfalso
                rw [er] at q1 q3
                rcases hbE with y | y
                · omega
                · omega
          rw [hjn]
          refine ⟨fun zk => ⟨by omega, (ttx (k + c - 1) (by omega)).2.1, by omega, (ttx (k + c) (by omega)).2.1, (ttx (k + c - 1) (by omega)).2.2.1, fun _ => by rw [(ttx (k + c) (by omega)).1]; exact (ttx (k + c) (by omega)).2.2.1⟩, fun s113 e113 => ?_⟩
          have A113 : ∀ q, q < 117 ∨ 122 < q → s113.1 q = τ'.1 q := fun q hq => by rw [e113, e98, sa_ne (by omega), sa_ne (by omega)]; exact o84 q hq
          have F113 : FrC σ s113 := by rw [e113, e98, hu84]; exact (g.bs.sa (by decide)).sa (by decide)
          have bhk : bh σ (u0 + (k + c)) = u0 + k + c := by
            have := bh_in a3 (u0 + (k + c)) (by omega) (by omega)
            rw [hcn] at this
            exact this
          have bck : bc σ (u0 + (k + c)) = bc σ (u0 + k) + 1 := bc_in a3 (u0 + (k + c)) (by omega) (by omega)
          have := ihd (r - (k + c)) (by omega) (k + c) s113 (by omega) ⟨F113, by rw [e113, e98, hu84]; show (bsM _ _ _ _ _ _).2.1 8 27 = _; unfold bsM; rw [sf_nx (by decide)]; exact g1, by rw [e113, e98]; show u84.2.1 8 35 = _; rw [g35, bck]; omega, by omega, PWx_keep g4 (A113 _ (by omega)) (A113 _ (by omega)), ?_, ?_, WDx_keep g7 (fun q h1 h2 => A113 q (by omega)), ?_, ?_⟩
          · rw [show ((k + c : Nat) : Int) = (k : Int) + (c : Int) by omega] at this
            exact this
          · have := PBx_keep g5 (A113 115 (by omega))
            rw [ej] at this
            exact this
          · intro v hv hbv
            by_cases q : v = u0 + k
            · subst q
              rw [hcn]
              refine ⟨?_, ?_, ?_, ?_, ?_, ?_⟩ <;> rw [e113, e98, hu84] <;> simp [bsM, sf_1, sa_1]
            · have hvk : v < u0 + k := by
                rcases Nat.lt_or_ge v (u0 + k) with y | y
                · exact y
                · exfalso
                  have := bh_in a3 v (by omega) (by omega)
                  omega
              have hne : bc σ v ≠ bc σ (u0 + k) := by
                have := bc_lt hbv hvk
                omega
              have R : ∀ q, s113.1 q (bc σ v) = τ'.1 q (bc σ v) := fun q => by rw [e113, e98, sa_nx hne, sa_nx hne, hu84, bsM_x _ _ hne]
              rw [R, R, R, R, R, R]
              exact g6 v hvk hbv
          · unfold WEx
            rw [A113 110 (by omega), A113 111 (by omega), A113 112 (by omega)]
            exact g8
          · rw [A113 123 (by omega)]; exact g9
        | succ e ihe =>
          intro j τ' hj hkj g g1 g2 g4 g5 g6 g7 g8 g9
          have hx := upk j (by omega)
          refine k_MO_cutWord_190 ?_
          rw [Int.toNat_natCast j, g9 j (by omega), g2, Int.toNat_natCast (up σ (u0 + j))]
          refine ⟨⟨by omega, by omega⟩, ⟨by omega, by omega⟩, fun z => absurd z (by omega), fun _ => ⟨by omega, by omega, fun s119 e119 => ?_⟩⟩
          have A : ∀ q, q ≠ 115 → s119.1 q = τ'.1 q := fun q hq => by rw [e119, sa_ne hq]
          refine ihe (j + 1) s119 (by omega) (by omega) (by rw [e119]; exact g.sa (by decide)) (by rw [e119]; exact g1) (by rw [e119]; exact g2) (PWx_keep g4 (A _ (by decide)) (A _ (by decide))) (fun x hx1 hx2 => ?_) (BSx_keep g6 (fun q h1 h2 => A q (by omega))) (WDx_keep g7 (fun q h1 h2 => A q (by omega))) ?_ ?_
          · rw [e119]
            by_cases q : x = up σ (u0 + j)
            · rw [q, sa_at, uc_u hx.2.1, hx.2.2, bcI j hkj (by omega)]
              omega
            · rw [sa_nx q]
              refine g5 x hx1 ?_
              rcases hx2 with y | ⟨y1, y2⟩
              · exact Or.inl y
              · right
                refine ⟨y1, ?_⟩
                rcases Nat.lt_or_ge (u0 + j) (uc σ (x + 1)) with y3 | y3
                · exfalso
                  apply q
                  have := uc_u y1
                  have hu : uc σ x = u0 + j := by omega
                  rw [← hu]
                  exact (up_eq y1 (by omega)).symm
                · exact y3
          · unfold WEx
            rw [A 110 (by decide), A 111 (by decide), A 112 (by decide)]
            exact g8
          · rw [A 123 (by decide)]; exact g9
      exact inner c k τ (by omega) (Nat.le_refl _) f a1 a2 a4 a5 a6 a7 a8 a9
theorem t_cutWord {G : GT} {σ τ : St} (hS : IS σ) (hT : IT σ) {w : Nat} (hw : w < nW σ) (h : CI σ (wa σ w) τ) : CJ G m_MO_cutWord [O 8, I (wa σ w), I ((we σ w + 1 : Nat) : Int)] τ (fun _ υ => CI σ (we σ w + 1) υ) := by
  obtain ⟨t1, t2, t3, -⟩ := id hT
  obtain ⟨w1, w2, w3, w4, w5, w6, w7⟩ := word_ex hw
  have tn8 : tn σ ≤ 80 := by unfold tn; omega
  have hlew : w < tn σ := by have := cnt_le (wst (ts σ)) (tn σ); unfold nW wdc at hw; omega
  obtain ⟨f, a1, a2, a3, a4, a5, a6, a7⟩ := h
  rw [w3] at a1 a7
  have hub := uc_le (σ := σ) (i := wa σ w)
  refine CJ.go (fun _ => k_MO_cutWord_0 ?_)
  rw [a1, a2, Int.toNat_natCast]
  refine ⟨by omega, ⟨by omega, by omega⟩, fun s4 e4 => ⟨⟨by omega, by omega⟩, fun s8 e8 s12 e12 => ?_⟩⟩
  have A : ∀ k, k ≠ 110 → k ≠ 111 → k ≠ 112 → s12.1 k = τ.1 k := fun k h1 h2 h3 => by rw [e12, e8, e4, sa_ne h3, sa_ne h2, sa_ne h1]
  have X : ∀ k i, i ≠ w → s12.1 k i = τ.1 k i := fun k i hi => by rw [e12, e8, e4, sa_nx hi, sa_nx hi, sa_nx hi]
  refine l_cw1 hS hT hw (fun τ' r u0 h1 => ?_) (we σ w + 1 - wa σ w) (wa σ w) s12 0 (uc σ (wa σ w)) (by omega) (Nat.le_refl _) ⟨by rw [e12, e8, e4]; exact ((f.sa (by decide)).sa (by decide)).sa (by decide), by rw [e12, e8, e4]; exact a1, by rw [e12, e8, e4]; exact a2, a3, by omega, ?_, PWx_keep a4 (A _ (by decide) (by decide) (by decide)) (A _ (by decide) (by decide) (by decide)), fun j hj _ => by rw [A _ (by decide) (by decide) (by decide)]; exact a5 j hj trivial, BSx_keep a6 (fun k h1 h2 => A k (by omega) (by omega) (by omega)), fun x hx => ?_, ?_, fun k hk => absurd hk (by omega), fun k hk => absurd hk (by omega), ?_⟩
  · obtain ⟨b0, b1, b2, b3, b4, b5, b6, b7, b8, b9, b10, b11, b12, b13⟩ := h1
    refine l_cw2 hS hT hw (fun υ hυ => hυ) b4 b12 b13 r 0 τ' (by omega) ⟨b0, b1, b2, b3, b6, fun j hj hc => b7 j hj ?_, b8, b9, b10, b11⟩
    show uc σ (j + 1) ≤ u0
    omega
  · have := (wst_e w2).2
    refine ⟨fun _ => ?_, fun _ => rfl⟩
    cases hc : cs (ts σ) (wa σ w) with
    | false => rfl
    | true => rw [cs_iw hc] at this; exact absurd this (by decide)
  · rw [X _ _ (by omega), X _ _ (by omega), X _ _ (by omega), X _ _ (by omega)]
    exact a7 x hx
  · unfold WEx
    rw [e12, e8, e4]
    refine ⟨?_, ?_, ?_⟩
    · rw [sa_ne (by decide), sa_ne (by decide), sa_at]
    · rw [sa_ne (by decide), sa_at]; omega
    · rw [sa_at]; rfl
  · by_cases z : wa σ w = 0
    · left; rw [z]; rfl
    · right
      obtain ⟨a', ha'⟩ : ∃ a', wa σ w = a' + 1 := ⟨wa σ w - 1, by omega⟩
      have h6 : ts σ a' = 6 := by
        have := (wst_e w2).2
        rw [ha'] at this
        unfold iw at this
        simpa using this
      have hs : sd (ts σ) a' = false := sd_not (by omega)
      rw [ha', uc_u hs, show uc σ a' + 1 - 1 = uc σ a' by omega]
      unfold us
      rw [up_eq hs (by omega), h6]
      decide
theorem l_cut {G : GT} {σ : St} {P : Int → St → Prop} (hS : IS σ) (hT : IT σ) (hP : ∀ τ, CI σ (tn σ) τ → P 0 τ) : ∀ (d m : Nat) (τ : St), m + d = tn σ → (m = tn σ ∨ ts σ m = 6 ∨ iw (ts σ) m = false) → CI σ m τ → a_MO_cut_25 G m τ P := by
  have n := hS.1
  unfold NumOk at n
  obtain ⟨t1, t2, t3, -⟩ := id hT
  have tn8 : tn σ ≤ 80 := by unfold tn; omega
  have htn : σ.2.1 8 21 = (tn σ : Int) := by unfold tn; omega
  intro d
  induction d using Nat.strongRecOn with
  | _ d ihd =>
    intro m τ hm hbd h
    obtain ⟨f, a1, a2, a3, a4, a5, a6, a7⟩ := id h
    have h21 : τ.2.1 8 21 = (tn σ : Int) := by rw [f.2.2.1 _ (by decide) (by decide)]; exact htn
    by_cases hmn : m = tn σ
    · refine k_MO_cut_25 ?_
      rw [h21]
      exact ⟨⟨by omega, by omega⟩, fun _ => hP τ (by rw [← hmn]; exact h), fun z => absurd z (by omega)⟩
    · have hin : m < tn σ := by omega
      obtain ⟨x1, x2, x3, x4⟩ := t3 m (by omega)
      have txx : ∀ i, i < tn σ → 0 ≤ σ.1 106 i ∧ σ.1 106 i < 60 := fun i hi => by have := (t3 i (by omega)).2; unfold LOk at this; omega
      have e106 : τ.1 106 = σ.1 106 := f.1 106 (by omega)
      have e89 : τ.1 89 = σ.1 89 := f.1 89 (by omega)
      have hub := uc_le (σ := σ) (i := m)
      have hbu := bc_le (σ := σ) (u := uc σ m)
      refine k_MO_cut_25 ?_
      rw [h21, Int.toNat_natCast, e106, e89, a2]
      refine ⟨⟨by omega, by omega⟩, fun z => absurd z (by omega), fun _ => ⟨by omega, txx m hin, fun z => ?_, fun z s18 e18 s21 e21 s23 e23 => ?_⟩⟩
      · -- a word
        have hz : ts σ m ≠ 6 := z
        have hst : wst (ts σ) m = true := wst_t hz (by
          rcases hbd with q | q | q
          · omega
          · exact absurd q hz
          · exact q)
        have hw : wdc σ m < nW σ := cnt_lt hst hin
        have hwa : wa σ (wdc σ m) = m := pos_eq hst hin
        obtain ⟨w1, w2, w3, w4, w5, w6, w7⟩ := word_ex hw
        rw [hwa] at w4 w7
        have find : ∀ (e j : Nat), j + e = tn σ → m ≤ j → (∀ i, m ≤ i → i < j → ts σ i ≠ 6) → a_MO_cut_95 G m j τ P := by
          intro e
          have stop : ∀ j, m ≤ j → j ≤ tn σ → (∀ i, m ≤ i → i < j → ts σ i ≠ 6) → (j = tn σ ∨ ts σ j = 6) → CJ G m_MO_cutWord [O 8, I m, I j] τ (fun _ u33 => a_MO_cut_25 G j u33 P) := by
            intro j hj1 hj2 hj3 hj4
            have ej : j = we σ (wdc σ m) + 1 := by
              rcases Nat.lt_trichotomy j (we σ (wdc σ m) + 1) with q | q | q
              · exfalso
                rcases hj4 with y | y
                · omega
                · exact (w7 j hj1 (by omega)).1 y
              · exact q
              · exfalso
                rcases w6 with y | y
                · omega
                · exact hj3 _ (by omega) q y
            have := t_cutWord (G := G) hS hT hw (τ := τ) (by rw [hwa]; exact h)
            rw [hwa] at this
            rw [ej]
            refine CJ.mono this (fun _ u _ hu => ?_)
            exact ihd (tn σ - (we σ (wdc σ m) + 1)) (by omega) (we σ (wdc σ m) + 1) u (by omega) (by rcases w6 with y | y; exact Or.inl y; exact Or.inr (Or.inl y)) hu
          induction e with
          | zero =>
            intro j hj hmj hno
            refine k_MO_cut_95 ?_
            rw [h21]
            exact ⟨⟨by omega, by omega⟩, fun _ => stop j hmj (by omega) hno (Or.inl (by omega)), fun q => absurd q (by omega)⟩
          | succ e ihe =>
            intro j hj hmj hno
            refine k_MO_cut_95 ?_
            rw [h21, Int.toNat_natCast, e106, e89]
            refine ⟨⟨by omega, by omega⟩, fun q => absurd q (by omega), fun _ => ⟨by omega, txx j (by omega), fun q => stop j hmj (by omega) hno (Or.inr q), fun q => ?_⟩⟩
            refine ihe (j + 1) (by omega) (by omega) (fun i h1 h2 => ?_)
            by_cases y : i = j
            · rw [y]; exact q
            · exact hno i h1 (by omega)
        exact find (tn σ - m) m (by omega) (Nat.le_refl _) (fun i h1 h2 => absurd h1 (by omega))
      · -- a blank
        have hz : ts σ m = 6 := z
        have hs : sd (ts σ) m = false := sd_not (by omega)
        have hu := uc_u hs
        have hux : uc σ m < nU σ := uc_lt hs hin
        have hupi := up_eq hs hin
        have hus : us σ (uc σ m) = 6 := by unfold us; rw [hupi]; exact hz
        have hul : ul σ (uc σ m) = σ.1 106 m := by unfold ul tx; rw [hupi]
        have A : ∀ k, k ≠ 114 → k ≠ 115 → k ≠ 116 → s23.1 k = τ.1 k := fun k h1 h2 h3 => by rw [e23, e21, e18, sa_ne h3, sa_ne h2, sa_ne h1]
        obtain ⟨b1, b2, b3, b4⟩ := BSx_one hS hT hux a3 (Or.inl hus) (τ := s23) (BSx_keep a6 (fun k h1 h2 => A k (by omega) (by omega) (by omega)))
        rw [if_pos hus] at b4
        have txm := txx m hin
        refine CJ.mono (t_base (p := bc σ (uc σ m)) (by rw [e23, e21, e18]; exact a2) (by omega) ⟨by decide, by decide⟩ ⟨by omega, by omega⟩ ⟨by omega, by omega⟩ ⟨by decide, by decide⟩) (fun _ v _ hv => ?_)
        rw [b4, hul, hupi] at b1
        rw [← hv] at b1
        have A37 : ∀ k, (k < 117 ∨ 122 < k) → v.1 k = s23.1 k := fun k hk => by rw [hv]; exact bsM_o k hk
        have hwc : wdc σ (m + 1) = wdc σ m := cnt_f (wst_b hz)
        refine ihd (tn σ - (m + 1)) (by omega) (m + 1) v (by omega) (Or.inr (Or.inr (by unfold iw; simp [hz]))) ⟨?_, ?_, ?_, ?_, ?_, ?_, ?_, ?_⟩
        · rw [hv, e23, e21, e18]; exact (((f.sa (by decide)).sa (by decide)).sa (by decide)).bs
        · rw [hv]; unfold bsM; rw [sf_nx (by decide), hwc, e23, e21, e18]; exact a1
        · rw [hv, hu, b3]; exact sf_at
        · rw [hu]; exact b2
        · intro j hj
          rw [A37 114 (by omega), A37 116 (by omega), e23, e21, e18]
          by_cases q : j = m
          · rw [q, sa_ne (by decide), sa_ne (by decide), sa_at, sa_at, if_pos hz, hs]
            exact ⟨rfl, rfl⟩
          · rw [sa_nx q, sa_nx q, sa_nx q, sa_nx q, sa_nx q, sa_nx q]
            exact a4 j (by omega)
        · intro j hj _
          rw [A37 115 (by omega), e23, e21, e18]
          by_cases q : j = m
          · rw [q, sa_ne (by decide), sa_at, hu, b3]; omega
          · rw [sa_nx q, sa_nx q, sa_nx q]
            exact a5 j (by omega) trivial
        · rw [hu]; exact b1
        · rw [hwc]
          exact WDx_keep a7 (fun k h1 h2 => by rw [A37 k (by omega)]; exact A k (by omega) (by omega) (by omega))
/-- the tables of τ are the reference's pieces of the text of σ -/
def CTx (σ τ : St) : Prop := τ.2.1 8 27 = nW σ ∧ τ.2.1 8 35 = nB σ ∧ bh σ (nU σ) ≤ nU σ ∧ PWx σ (tn σ) τ ∧ PBx σ (tn σ) (fun _ => True) τ ∧ BSx σ (nU σ) τ ∧ WDx σ (nW σ) τ
theorem Ab_bc {σ τ : St} (h : Ab σ τ) : bc τ = bc σ := by
  funext u
  have : bq τ = bq σ := by funext u; unfold bq; rw [Ab_bh h]
  unfold bc
  rw [this]
theorem Ab_jp {σ τ : St} (h : Ab σ τ) : jp τ = jp σ := by funext u; unfold jp; rw [Ab_jn h]
theorem Ab_kd {σ τ : St} (h : Ab σ τ) : kd τ = kd σ := by funext u; unfold kd; rw [Ab_us h, Ab_lb h, h.1 89 (by omega)]
theorem CTx_ab {σ τ υ : St} (h : Ab σ τ) (g : CTx σ υ) : CTx τ υ := by
  unfold CTx PWx PBx BSx WDx nB at g ⊢
  rw [Ab_nW h, Ab_nU h, Ab_bh h, Ab_tn h, Ab_ts h, Ab_wdc h, Ab_uc h, Ab_bc h, Ab_kd h, Ab_lb h, Ab_up h, Ab_ln3 h, Ab_jp h, Ab_jn h, Ab_wa h, Ab_we h, Ab_wfu h]
  exact g
theorem CTx_keep {σ τ υ : St} (g : CTx σ τ) (h : ∀ k, 110 ≤ k → k ≤ 122 → υ.1 k = τ.1 k) (h1 : υ.2.1 8 27 = τ.2.1 8 27) (h2 : υ.2.1 8 35 = τ.2.1 8 35) : CTx σ υ := by
  obtain ⟨a, b, c, d, e, f, i⟩ := g
  exact ⟨by rw [h1]; exact a, by rw [h2]; exact b, c, PWx_keep d (h _ (by omega) (by omega)) (h _ (by omega) (by omega)), PBx_keep e (h _ (by omega) (by omega)), BSx_keep f (fun k x y => h k (by omega) (by omega)), WDx_keep i (fun k x y => h k (by omega) (by omega))⟩
theorem t_cut {G : GT} {σ : St} (hS : IS σ) (hT : IT σ) (hi : σ.2.1 8 26 = 0 ∨ σ.2.1 8 26 = 1) (h1 : σ.2.1 8 26 = 1 → CTx σ σ) : CJ G m_MO_cut [O 8] σ (fun _ τ => FrC (sf σ 8 26 1) τ ∧ CTx σ τ) := by
  refine CJ.go (fun _ => k_MO_cut_0 ⟨fun z s2 e2 s4 e4 s6 e6 => ?_, fun z => ?_⟩)
  · have hab : Ab σ s2 := ⟨fun _ _ => by rw [e2]; rfl, by rw [e2]; rfl, by rw [e2]; rfl⟩
    have hS2 : IS s2 := keep_IS ⟨fun _ _ => by rw [e2]; rfl, fun _ => by rw [e2]; rfl, fun _ => by rw [e2]; rfl, fun _ => by rw [e2]; rfl, by rw [e2]; rfl, by rw [e2]; rfl, by rw [e2]; rfl, by rw [e2]; rfl, by rw [e2]; rfl, by rw [e2]; rfl⟩ hS
    have hT2 : IT s2 := IT_keep hT (fun _ _ => by rw [e2]; rfl) (fun _ => by rw [e2]; rfl) (by rw [e2]; rfl) (by rw [e2]; rfl) (fun l hl => by rw [e2]; exact hl)
    have F6 : FrC s2 s6 := by rw [e6, e4]; exact (FrC.sf (τ := s2) ⟨fun _ _ => rfl, fun _ _ => rfl, fun _ _ _ => rfl, rfl⟩ (by decide)).sf (by decide)
    refine l_cut hS2 hT2 (fun τ h => ?_) (tn s2) 0 s6 (by omega) (Or.inr (Or.inr rfl)) ⟨F6, by rw [e6, e4, sf_nx (by decide), sf_at]; rfl, by rw [e6, sf_at]; rfl, Nat.le_refl _, fun i hi => absurd hi (by omega), fun i hi => absurd hi (by omega), fun u hu => absurd hu (by show ¬ u < 0; omega), fun x hx => absurd hx (by show ¬ x < 0; omega)⟩
    rw [← e2]
    refine ⟨h.1, CTx_ab hab.symm ?_⟩
    obtain ⟨-, a1, a2, a3, a4, a5, a6, a7⟩ := h
    exact ⟨a1, a2, a3, a4, a5, a6, a7⟩
  · have hi1 : σ.2.1 8 26 = 1 := by omega
    refine ⟨⟨fun _ _ => rfl, fun k hk => (sf_ne hk).symm, fun j _ _ => ?_, rfl⟩, h1 hi1⟩
    rw [sf_2]
    by_cases q : j = 26
    · rw [if_pos ⟨rfl, q⟩, q]; exact hi1
    · rw [if_neg (fun w => q w.2)]
