/-! cut of the reference -/
def FrC (σ τ : St) : Prop := (∀ k, (k < 110 ∨ 123 < k) → τ.1 k = σ.1 k) ∧ (∀ k, k ≠ 8 → τ.2.1 k = σ.2.1 k) ∧ (∀ j, j ≠ 27 → j ≠ 35 → τ.2.1 8 j = σ.2.1 8 j) ∧ τ.2.2 = σ.2.2
theorem FrC.sa {σ τ : St} (h : FrC σ τ) {k i : Nat} {v : Int} (hk : 110 ≤ k ∧ k ≤ 123) : FrC σ (sa τ k i v) := ⟨fun j hj => by rw [sa_ne (by omega)]; exact h.1 j hj, h.2.1, h.2.2.1, h.2.2.2⟩
theorem FrC.sf {σ τ : St} (h : FrC σ τ) {j : Nat} {v : Int} (hj : j = 27 ∨ j = 35) : FrC σ (sf τ 8 j v) := ⟨h.1, fun k hk => by rw [sf_ne hk]; exact h.2.1 k hk, fun i h1 h2 => by rw [sf_nx (by omega)]; exact h.2.2.1 i h1 h2, h.2.2.2⟩
def jp (σ : St) (u : Nat) : Bool := decide (0 < u) && jn σ (u - 1)
def kd (σ : St) (u : Nat) : Int := if us σ u = 6 then 3 else if us σ u = 3 ∨ us σ u = 4 then 2 else if σ.1 89 (lb σ u).toNat = 7 then 1 else 0
def BSx (σ : St) (v : Nat) (τ : St) : Prop := ∀ u, u < v → bh σ u ≤ u → τ.1 117 (bc σ u) = kd σ u ∧ τ.1 118 (bc σ u) = lb σ u ∧ τ.1 119 (bc σ u) = up σ u ∧ τ.1 120 (bc σ u) = ln3 σ (lb σ u).toNat ∧ τ.1 121 (bc σ u) = (if jp σ u = true then 1 else 0) ∧ τ.1 122 (bc σ u) = (if jn σ (u + ln3 σ (lb σ u).toNat - 1) = true then 1 else 0)
def PWx (σ : St) (m : Nat) (τ : St) : Prop := ∀ i, i < m → τ.1 114 i = (if ts σ i = 6 then -6 else (wdc σ (i + 1) : Int) - 1) ∧ τ.1 116 i = (if sd (ts σ) i = true then 1 else 0)
def PBx (σ : St) (m : Nat) (c : Nat → Prop) (τ : St) : Prop := ∀ i, i < m → c i → τ.1 115 i = (bc σ (uc σ (i + 1)) : Int) - 1
def WDx (σ : St) (w : Nat) (τ : St) : Prop := ∀ x, x < w → τ.1 110 x = wa σ x ∧ τ.1 111 x = we σ x ∧ τ.1 112 x = bc σ (wfu σ x) ∧ τ.1 113 x = bc σ (uc σ (we σ x + 1))
theorem BSx_keep {σ τ υ : St} {v : Nat} (h : BSx σ v τ) (hk : ∀ k, 117 ≤ k → k ≤ 122 → υ.1 k = τ.1 k) : BSx σ v υ := by
  unfold BSx
  rw [hk 117 (by omega) (by omega), hk 118 (by omega) (by omega), hk 119 (by omega) (by omega), hk 120 (by omega) (by omega), hk 121 (by omega) (by omega), hk 122 (by omega) (by omega)]
  exact h
theorem PWx_keep {σ τ υ : St} {m : Nat} (h : PWx σ m τ) (h1 : υ.1 114 = τ.1 114) (h2 : υ.1 116 = τ.1 116) : PWx σ m υ := by
  unfold PWx
  rw [h1, h2]
  exact h
theorem PBx_keep {σ τ υ : St} {m : Nat} {c : Nat → Prop} (h : PBx σ m c τ) (h1 : υ.1 115 = τ.1 115) : PBx σ m c υ := by
  unfold PBx
  rw [h1]
  exact h
theorem WDx_keep {σ τ υ : St} {w : Nat} (h : WDx σ w τ) (hk : ∀ k, 110 ≤ k → k ≤ 113 → υ.1 k = τ.1 k) : WDx σ w υ := by
  unfold WDx
  rw [hk 110 (by omega) (by omega), hk 111 (by omega) (by omega), hk 112 (by omega) (by omega), hk 113 (by omega) (by omega)]
  exact h
def bsM (τ : St) (p : Nat) (k l f c : Int) : St := sf (sa (sa (sa (sa (sa (sa τ 117 p k) 118 p l) 119 p f) 120 p c) 121 p 0) 122 p 0) 8 35 (p + 1)
theorem t_base {G : GT} {τ : St} {p : Nat} {k l f c : Int} (hp : τ.2.1 8 35 = p) (h8 : p < 80) (hk : rng k) (hl : rng l) (hf : rng f) (hc : rng c) : CJ G m_MO_base [O 8, I k, I l, I f, I c] τ (fun _ u => u = bsM τ p k l f c) := by
  refine CJ.go (fun _ => k_MO_base_0 ?_)
  rw [hp, Int.toNat_natCast]
  refine ⟨by omega, hk, fun _ e1 => ⟨hl, fun _ e2 => ⟨hf, fun _ e3 => ⟨hc, fun _ e4 _ e5 _ e6 => ⟨⟨by omega, by omega⟩, fun _ e7 => ?_⟩⟩⟩⟩⟩
  rw [e7, e6, e5, e4, e3, e2, e1]
  rfl
theorem bsM_o {τ : St} {p : Nat} {k l f c : Int} (a : Nat) (h : a < 117 ∨ 122 < a) : (bsM τ p k l f c).1 a = τ.1 a := by
  unfold bsM
  rw [sf_1, sa_ne (by omega), sa_ne (by omega), sa_ne (by omega), sa_ne (by omega), sa_ne (by omega), sa_ne (by omega)]
theorem bsM_x {τ : St} {p : Nat} {k l f c : Int} (a i : Nat) (h : i ≠ p) : (bsM τ p k l f c).1 a i = τ.1 a i := by
  unfold bsM
  rw [sf_1, sa_nx h, sa_nx h, sa_nx h, sa_nx h, sa_nx h, sa_nx h]
theorem FrC.bs {σ τ : St} (h : FrC σ τ) {p : Nat} {k l f c : Int} : FrC σ (bsM τ p k l f c) := ((((((h.sa (by decide)).sa (by decide)).sa (by decide)).sa (by decide)).sa (by decide)).sa (by decide)).sf (by decide)
/-- a piece of one unit comes: a blank, a mark by itself -/
theorem BSx_one {σ τ : St} (hS : IS σ) (hT : IT σ) {u : Nat} (hu : u < nU σ) (hb : bh σ u ≤ u) (h0 : us σ u = 6 ∨ us σ u = 3 ∨ us σ u = 4) (h : BSx σ u τ) : BSx σ (u + 1) (bsM τ (bc σ u) (kd σ u) (ul σ u) (up σ u) 1) ∧ bh σ (u + 1) ≤ u + 1 ∧ bc σ (u + 1) = bc σ u + 1 ∧ kd σ u = (if us σ u = 6 then 3 else 2) := by
  obtain ⟨p1, p2⟩ := lb_plain hS hT hu (by omega)
  have e : bh σ (u + 1) = u + ln3 σ (lb σ u).toNat := by
    have : bh σ (u + 1) = if bh σ u ≤ u then u + ln3 σ (lb σ u).toNat else bh σ u := rfl
    rw [this, if_pos hb]
  have hkd : kd σ u = (if us σ u = 6 then 3 else 2) := by
    unfold kd
    by_cases z : us σ u = 6
    · rw [if_pos z, if_pos z]
    · rw [if_neg z, if_neg z, if_pos (by omega)]
  refine ⟨fun v hv hbv => ?_, by omega, cnt_t (bq_t hb), hkd⟩
  by_cases q : v = u
  · subst q
    have j1 : jp σ v = false := by
      unfold jp jn
      by_cases z : 0 < v
      · have : v - 1 + 1 = v := by omega
        rw [this]
        simp
        omega
      · simp [z]
    have j2 : jn σ (v + ln3 σ (lb σ v).toNat - 1) = false := by
      rw [p2, show v + 1 - 1 = v by omega]
      unfold jn
      simp
      omega
    rw [j1, j2, p2, p1]
    refine ⟨?_, ?_, ?_, ?_, ?_, ?_⟩ <;> simp [bsM, sf_1, sa_1]
  · have := bc_lt hbv (show v < u by omega)
    rw [bsM_x _ _ (by omega), bsM_x _ _ (by omega), bsM_x _ _ (by omega), bsM_x _ _ (by omega), bsM_x _ _ (by omega), bsM_x _ _ (by omega)]
    exact h v (by omega) hbv
def CI (σ : St) (m : Nat) (τ : St) : Prop := FrC σ τ ∧ τ.2.1 8 27 = wdc σ m ∧ τ.2.1 8 35 = bc σ (uc σ m) ∧ bh σ (uc σ m) ≤ uc σ m ∧ PWx σ m τ ∧ PBx σ m (fun _ => True) τ ∧ BSx σ (uc σ m) τ ∧ WDx σ (wdc σ m) τ
def WEx (σ : St) (w : Nat) (τ : St) : Prop := τ.1 110 w = wa σ w ∧ τ.1 111 w = we σ w ∧ τ.1 112 w = bc σ (wfu σ w)
def L1x (σ : St) (w i r u0 : Nat) (τ : St) : Prop := FrC σ τ ∧ τ.2.1 8 27 = w ∧ τ.2.1 8 35 = bc σ u0 ∧ bh σ u0 ≤ u0 ∧ u0 + r = uc σ i ∧ (r = 0 ↔ cs (ts σ) i = false) ∧ PWx σ i τ ∧ PBx σ i (fun j => uc σ (j + 1) ≤ u0) τ ∧ BSx σ u0 τ ∧ WDx σ w τ ∧ WEx σ w τ ∧ (∀ k, k < r → τ.1 123 k = up σ (u0 + k)) ∧ (∀ k, k < r → ¬ (us σ (u0 + k) = 6 ∨ us σ (u0 + k) = 3 ∨ us σ (u0 + k) = 4)) ∧ (u0 = 0 ∨ us σ (u0 - 1) ≠ 0)
theorem l_cw1 {G : GT} {σ : St} {P : Int → St → Prop} (hS : IS σ) (hT : IT σ) {w : Nat} (hw : w < nW σ) (hP : ∀ τ r u0, L1x σ w (we σ w + 1) r u0 τ → a_MO_cutWord_154 G (wa σ w) (we σ w + 1 : Nat) r 0 τ P) : ∀ (d i : Nat) (τ : St) (r u0 : Nat), i + d = we σ w + 1 → wa σ w ≤ i → L1x σ w i r u0 τ → a_MO_cutWord_40 G (wa σ w) (we σ w + 1 : Nat) r i τ P := by
  have n := hS.1
  unfold NumOk at n
  obtain ⟨t1, t2, t3, -⟩ := id hT
  obtain ⟨w1, w2, w3, w4, w5, w6, w7⟩ := word_ex hw
  have tn8 : tn σ ≤ 80 := by unfold tn; omega
  have htn : σ.2.1 8 21 = (tn σ : Int) := by unfold tn; omega
  intro d
  induction d with
  | zero =>
    intro i τ r u0 hi ha h
    have hr : r ≤ 80 := by
      have := h.2.2.2.2.1
      have := uc_le (σ := σ) (i := i)
      omega
    have ei : i = we σ w + 1 := by omega
    refine k_MO_cutWord_40 ⟨⟨by omega, by omega⟩, ⟨by omega, by omega⟩, fun _ => hP τ r u0 (by rw [← ei]; exact h), fun z => absurd z (by omega)⟩
  | succ d ih =>
    intro i τ r u0 hi ha h
    obtain ⟨f, a1, a2, a3, a4, a5, a6, a7, a8, a9, a10, a11, a12, a13⟩ := h
    have hui := uc_le (σ := σ) (i := i)
    have hin : i < tn σ := by omega
    obtain ⟨x1, x2, x3, x4⟩ := t3 i (by omega)
    have e106 : τ.1 106 i = tx σ i := by rw [f.1 106 (by omega)]; rfl
    have hL : 0 ≤ tx σ i ∧ tx σ i < σ.2.1 8 6 := ⟨x2, x3⟩
    have e89 : ∀ s : St, s.1 89 = σ.1 89 → s.1 89 (tx σ i).toNat = ts σ i := fun s hs => by rw [hs]; rfl
    obtain ⟨y1, y2⟩ := w7 i ha (by omega)
    have bcu := bc_le (σ := σ) (u := u0)
    have hlew : w < tn σ := by have := cnt_le (wst (ts σ)) (tn σ); unfold nW wdc at hw; omega
    refine k_MO_cutWord_40 ?_
    rw [Int.toNat_natCast, Int.toNat_natCast, e106, a1]
    refine ⟨⟨by omega, by omega⟩, ⟨by omega, by omega⟩, fun z => absurd z (by omega), fun _ => ⟨by omega, fun s19 e19 => ?_⟩⟩
    have h19 : s19.1 89 = σ.1 89 := by rw [e19, sa_ne (by decide)]; exact f.1 89 (by omega)
    rw [e89 s19 h19]
    refine ⟨by omega, fun _ => ⟨by omega, by omega⟩, fun s25 e25 => ?_⟩
    have h25 : s25.1 89 = σ.1 89 := by rw [e25, sa_ne (by decide)]; exact h19
    rw [e89 s25 h25]
    have hsd : (if (ts σ i = 3 ∨ ts σ i = 4) ∧ 0 < (r : Int) then (1 : Int) else 0) = if sd (ts σ) i = true then 1 else 0 := by
      refine ite_iff ⟨fun q => ?_, fun q => ?_⟩
      · refine sd_on q.1 ?_
        cases hc : cs (ts σ) i with
        | true => rfl
        | false => have := a5.mpr hc; omega
      · obtain ⟨q1, q2⟩ := sd_mark q
        refine ⟨q1, ?_⟩
        rcases Nat.eq_zero_or_pos r with z | z
        · rw [a5.mp z] at q2; exact absurd q2 (by decide)
        · omega
    rw [hsd] at e25
    have A25 : ∀ k, k ≠ 114 → k ≠ 116 → s25.1 k = τ.1 k := fun k h1 h2 => by rw [e25, e19, sa_ne h2, sa_ne h1]
    have E25 : s25.2 = τ.2 := by rw [e25, e19]; rfl
    have F25 : FrC σ s25 := by rw [e25, e19]; exact (f.sa (by decide)).sa (by decide)
    have PW25 : PWx σ (i + 1) s25 := fun j hj => by
      rw [e25, e19]
      by_cases q : j = i
      · rw [q, sa_ne (by decide), sa_at, sa_at, if_neg y1, y2]
        exact ⟨by omega, rfl⟩
      · rw [sa_nx q, sa_nx q, sa_nx q, sa_nx q]
        exact a6 j (by omega)
    have hcs : cs (ts σ) (i + 1) = if ts σ i = 6 then false else if ts σ i = 3 ∨ ts σ i = 4 then cs (ts σ) i else true := rfl
    refine ⟨fun hmk => ⟨⟨by omega, by omega⟩, fun r0 => ?_, fun r0 s34 e34 => ?_⟩, fun hmk => ⟨by omega, fun s39 e39 => ?_⟩⟩
    · -- a mark that stands
      have hc : cs (ts σ) i = true := by
        cases hc : cs (ts σ) i with
        | true => rfl
        | false => have := a5.mpr hc; omega
      have hs := sd_on hmk hc
      have hu := uc_s hs
      refine ih (i + 1) s25 r u0 (by omega) (by omega) ⟨F25, by rw [E25]; exact a1, by rw [E25]; exact a2, a3, by omega, ?_, PW25, ?_, BSx_keep a8 (fun k h1 h2 => A25 k (by omega) (by omega)), WDx_keep a9 (fun k h1 h2 => A25 k (by omega) (by omega)), ?_, ?_, a12, a13⟩
      · rw [hcs, if_neg y1, if_pos hmk]; exact a5
      · intro j hj hcj
        by_cases q : j = i
        · exfalso
          rw [q, hu] at hcj
          omega
        · rw [A25 115 (by decide) (by decide)]; exact a7 j (by omega) hcj
      · unfold WEx
        rw [A25 110 (by decide) (by decide), A25 111 (by decide) (by decide), A25 112 (by decide) (by decide)]
        exact a10
      · rw [A25 123 (by decide) (by decide)]; exact a11
    · -- a mark by itself
      have r0' : r = 0 := by omega
      have hcf := a5.mp r0'
      have hs := sd_free hcf
      have hu := uc_u hs
      have hub : u0 = uc σ i := by omega
      have hux : u0 < nU σ := by
        have := uc_lt hs hin
        have : nU σ = uc σ (tn σ) := rfl
        omega
      have hupi : up σ u0 = i := by rw [hub]; exact up_eq hs hin
      have hus : us σ u0 = ts σ i := by unfold us; rw [hupi]
      have hul : ul σ u0 = tx σ i := by unfold ul; rw [hupi]
      obtain ⟨b1, b2, b3, b4⟩ := BSx_one hS hT hux a3 (by rw [hus]; omega) (τ := s34) (BSx_keep a8 (fun k h1 h2 => by rw [e34, sa_ne (by omega)]; exact A25 k (by omega) (by omega)))
      have E34 : s34.2 = τ.2 := by rw [e34]; exact E25
      rw [if_neg (by rw [hus]; exact y1)] at b4
      rw [a2] at e34
      refine CJ.mono (t_base (p := bc σ u0) (by rw [E34]; exact a2) (by omega) ⟨by decide, by decide⟩ ⟨by omega, by omega⟩ ⟨by omega, by omega⟩ ⟨by decide, by decide⟩) (fun _ v _ hv => ?_)
      rw [b4, hul, hupi] at b1
      rw [← hv] at b1
      have A37 : ∀ k, (k < 117 ∨ 122 < k) → v.1 k = s34.1 k := fun k hk => by rw [hv]; exact bsM_o k hk
      have A34 : ∀ k, k ≠ 115 → s34.1 k = s25.1 k := fun k hk => by rw [e34, sa_ne hk]
      have g27 : v.2.1 8 27 = w := by rw [hv]; unfold bsM; rw [sf_nx (by decide)]; show s34.2.1 8 27 = _; rw [E34]; exact a1
      have g35 : v.2.1 8 35 = (bc σ u0 : Int) + 1 := by rw [hv]; exact sf_at
      refine ih (i + 1) v r (u0 + 1) (by omega) (by omega) ⟨by rw [hv, e34]; exact (F25.sa (by decide)).bs, g27, by rw [g35, b3]; omega, b2, by omega, ?_, PWx_keep PW25 (by rw [A37 114 (by omega), A34 114 (by decide)]) (by rw [A37 116 (by omega), A34 116 (by decide)]), ?_, b1, WDx_keep a9 (fun k h1 h2 => by rw [A37 k (by omega), A34 k (by omega)]; exact A25 k (by omega) (by omega)), ?_, fun k hk => absurd hk (by omega), fun k hk => absurd hk (by omega), Or.inr (by rw [show u0 + 1 - 1 = u0 by omega, hus]; omega)⟩
      · rw [hcs, if_neg y1, if_pos hmk]; exact a5
      · intro j hj hcj
        rw [A37 115 (by omega), e34]
        by_cases q : j = i
        · rw [q, sa_at, hu, ← hub, b3]; omega
        · rw [sa_nx q, A25 115 (by decide) (by decide)]
          refine a7 j (by omega) ?_
          have := uc_mono (σ := σ) (show j + 1 ≤ i by omega)
          show uc σ (j + 1) ≤ u0
          omega
      · unfold WEx
        rw [A37 110 (by omega), A37 111 (by omega), A37 112 (by omega), A34 110 (by decide), A34 111 (by decide), A34 112 (by decide), A25 110 (by decide) (by decide), A25 111 (by decide) (by decide), A25 112 (by decide) (by decide)]
        exact a10
    · -- a letter
      have hs : sd (ts σ) i = false := sd_not hmk
      have hu := uc_u hs
      have A39 : ∀ k, k ≠ 114 → k ≠ 116 → k ≠ 123 → s39.1 k = τ.1 k := fun k h1 h2 h3 => by rw [e39, sa_ne h3]; exact A25 k h1 h2
      have E39 : s39.2 = τ.2 := by rw [e39]; exact E25
      have hupi : up σ (u0 + r) = i := by rw [a4]; exact up_eq hs hin
      refine ih (i + 1) s39 (r + 1) u0 (by omega) (by omega) ⟨by rw [e39]; exact F25.sa (by decide), by rw [E39]; exact a1, by rw [E39]; exact a2, a3, by omega, ?_, PWx_keep PW25 (by rw [e39, sa_ne (by decide)]) (by rw [e39, sa_ne (by decide)]), ?_, BSx_keep a8 (fun k h1 h2 => A39 k (by omega) (by omega) (by omega)), WDx_keep a9 (fun k h1 h2 => A39 k (by omega) (by omega) (by omega)), ?_, ?_, ?_, a13⟩
      · rw [hcs, if_neg y1, if_neg hmk]
        exact ⟨fun q => absurd q (by omega), fun q => Bool.noConfusion q⟩
      · intro j hj hcj
        by_cases q : j = i
        · exfalso
          rw [q, hu] at hcj
          omega
        · rw [A39 115 (by decide) (by decide) (by decide)]; exact a7 j (by omega) hcj
      · unfold WEx
        rw [A39 110 (by decide) (by decide) (by decide), A39 111 (by decide) (by decide) (by decide), A39 112 (by decide) (by decide) (by decide)]
        exact a10
      · intro k hk
        rw [e39]
        by_cases q : k = r
        · rw [q, sa_at, hupi]
        · rw [sa_nx q, A25 123 (by decide) (by decide)]
          exact a11 k (by omega)
      · intro k hk
        by_cases q : k = r
        · have : us σ (u0 + k) = ts σ i := by unfold us; rw [q, hupi]
          rw [this]
          omega
        · exact a12 k (by omega)
