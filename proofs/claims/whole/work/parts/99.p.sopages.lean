/-! pages, the step -/
theorem Inv_pg {k : Nat} {σ τ : St} (h : Inv k σ) (A : ∀ k, k < 84 ∨ (88 < k ∧ k < 163) ∨ 167 < k → τ.1 k = σ.1 k) (O : ∀ k, k ≠ 0 → k ≠ 7 → k ≠ 8 → τ.2.1 k = σ.2.1 k) (F0 : ∀ j, j ≠ 14 → τ.2.1 0 j = σ.2.1 0 j) (F8 : ∀ j, j ≠ 109 → j ≠ 110 → τ.2.1 8 j = σ.2.1 8 j) (hh : τ.2.2 = σ.2.2) (h14 : τ.2.1 0 14 ≤ σ.2.1 0 9) (h109 : τ.2.1 8 109 = (if τ.2.1 0 14 = σ.2.1 0 9 then 1 else 0)) (hb : τ.2.1 0 14 = σ.2.1 0 9 → σ.2.1 0 13 = σ.2.1 0 9) (hP : PB τ) : Inv k τ := by
  obtain ⟨hB, hF, hUB, hH, hN, hL, -⟩ := h
  have hs : Same σ τ := ⟨fun k hk => A k (by unfold SK at hk; omega), fun j => by rw [O 1 (by omega) (by omega) (by omega)], fun j => by rw [O 2 (by omega) (by omega) (by omega)], fun j => by rw [O 3 (by omega) (by omega) (by omega)], F8 6 (by omega) (by omega), F8 7 (by omega) (by omega), F8 17 (by omega) (by omega), F8 21 (by omega) (by omega), F8 _ (by decide) (by decide), F8 _ (by decide) (by decide)⟩
  obtain ⟨ab, af⟩ := hs.ab
  have hl : σ.2.2.1 = 9 ∨ σ.2.2.1 = 28 := by rcases hB.2.2.2 with q | q <;> rw [q] <;> simp
  have o9 := F0 9 (by omega)
  have o10 := F0 10 (by omega)
  have o11 := F0 11 (by omega)
  have o12 := F0 12 (by omega)
  have o13 := F0 13 (by omega)
  refine ⟨Base_keep hB hs hh, ?_, ?_, ?_, ?_, ?_, hP⟩
  · obtain ⟨⟨⟨a1, a2, a3, a4, a5, a6, a7⟩, ⟨b1, b2, b3, b4, b5⟩, c2, c3, c4, c5⟩, c1⟩ := Fl_Fm.mp hF
    refine Fl_Fm.mpr ⟨⟨⟨?_, ?_, ?_, ?_, ?_, ?_, ?_⟩, ⟨?_, ?_, ?_, ?_, ?_⟩, ?_, ?_, ?_, ?_⟩, ?_⟩
    · rw [o9]; exact a1
    · rw [o9]; exact a2
    · rw [o9, o10]; exact a3
    · rw [o9, o11]; exact a4
    · rw [o9, o12]; exact a5
    · rw [o9, o13]; exact a6
    · show τ.2.1 0 14 ≤ τ.2.1 0 9
      rw [o9]; exact h14
    · rw [o9, o11, show τ.2.1 8 68 = σ.2.1 8 68 from F8 68 (by omega) (by omega)]; exact b1
    · rw [o9, o12, show τ.2.1 8 91 = σ.2.1 8 91 from F8 91 (by omega) (by omega)]; exact b2
    · rw [o9, o13, show τ.2.1 8 100 = σ.2.1 8 100 from F8 100 (by omega) (by omega)]; exact b3
    · show τ.2.1 8 109 = (if τ.2.1 0 14 = τ.2.1 0 9 then 1 else 0)
      rw [o9]; exact h109
    · rw [show τ.2.1 8 26 = σ.2.1 8 26 from F8 26 (by omega) (by omega)]; exact b5
    · rw [o9, o10, o11]; exact c2
    · rw [o9, o10, o12]; exact c3
    · rw [o9, o10, o13]; exact c4
    · show τ.2.1 0 14 = τ.2.1 0 9 → τ.2.1 0 13 = τ.2.1 0 9
      rw [o9, o13]; exact hb
    · rw [o9, o10, show τ.2.1 8 26 = σ.2.1 8 26 from F8 26 (by omega) (by omega)]; exact c1
  · exact UB_keep hUB ab (fun k hk => A k (by omega)) (O 4 (by omega) (by omega) (by omega)) o9 o10 (F8 26 (by omega) (by omega)) (F8 27 (by omega) (by omega)) (F8 35 (by omega) (by omega))
  · exact HB_keep hH ab af (by rw [hh]) (fun k k1 k2 => ⟨A k (by omega), O k (by omega) (by omega) (by omega)⟩) (fun k k1 k2 => A k (by omega)) (fun j j1 j2 => F8 j (by omega) (by omega)) o9 o11
  · exact NB_keep hN ab (fun j j1 j2 => F8 j (by omega) (by omega)) o9 o12 (F0 15 (by omega)) (F0 16 (by omega))
  · exact LB_keep hL ab (fun k hk => A k (by omega)) (by rw [O 6 (by omega) (by omega) (by omega)]) (by rw [O 6 (by omega) (by omega) (by omega)]) (F8 101 (by omega) (by omega)) (F8 108 (by omega) (by omega)) o9 o13
theorem so_pages (G : GT) : SO_pages G Inv := by
  intro k τ hk h v hrv
  have w := Inv_w h
  have fl := Fl_is h.2.1
  have NVe : NV = 536870912 := rfl
  refine CJ.go (fun _ => k_JS_pages_0 ⟨hrv, fun _ => ⟨by decide, by decide⟩, fun c => ⟨fun hb => ?_, fun hb => ?_⟩, fun c => ?_⟩)
  · have hb' : τ.2.1 0 13 = τ.2.1 0 9 := hb
    obtain ⟨W, ls, b1, b2, b3, b4, b5, b6, b7, b8⟩ := w.2.2.2.2.2.1 hb'
    obtain ⟨H, rfl⟩ : ∃ H : Nat, v = H := ⟨v.toNat, by omega⟩
    have hH : H ≤ 2000 := by omega
    obtain ⟨n, hn⟩ : ∃ n, n = ls.length := ⟨_, rfl⟩
    rw [← hn] at b3 b6 b7
    obtain ⟨hh, hhe⟩ : ∃ hh : Nat → Int, hh = fun k => τ.1 80 k + τ.1 81 k := ⟨_, rfl⟩
    have hln : ∀ k, k < n → ∃ p, ls[k]? = some p := fun k hk' => ⟨ls[k]'(by omega), List.getElem?_eq_getElem (by omega)⟩
    have hk : Hok hh n := fun k hk' => by
      obtain ⟨p, hp⟩ := hln k hk'
      obtain ⟨-, -, -, -, -, -, -, -, -, -, c11, c12, -⟩ := b8 k p hp
      rw [hhe]
      show 0 ≤ τ.1 80 k + τ.1 81 k ∧ τ.1 80 k + τ.1 81 k ≤ 120000
      omega
    have h80 : ∀ k, k < n → τ.1 80 k + τ.1 81 k = hh k := fun k _ => by rw [hhe]
    have h160 : ∀ k, k < n → τ.1 160 k + τ.1 161 k = hh k := fun k hk' => by
      obtain ⟨p, hp⟩ := hln k hk'
      obtain ⟨-, -, -, -, -, -, -, -, c9, c10, -, -, -⟩ := b8 k p hp
      rw [c9, c10]
      exact h80 k hk'
    have f100 : τ.2.1 8 100 ≠ 0 := fl.2.2.1.mpr hb'
    have f14 : τ.2.1 0 14 ≤ τ.2.1 0 9 := w.2.1.1.2.2.2.2.2.2
    have f109 : τ.2.1 8 109 = (if τ.2.1 0 14 = τ.2.1 0 9 then 1 else 0) := w.2.1.2.1.2.2.2.1
    refine CJ.mono (t_pgSearch b6 b3 hH hk h80) (fun r υ1 _ h1 => ?_)
    obtain ⟨g1, g2, g3⟩ := h1
    rw [g3]
    refine ⟨fun z => ?_, fun z => ?_⟩
    · have hlt : υ1.1 87 0 < NV := by
        rcases Int.lt_or_le (υ1.1 87 0) NV with q | q
        · exact q
        · rw [if_neg (by omega)] at z; exact absurd rfl z
      refine CJ.mono (t_pgKeep (by rw [g1.2]; exact b6) b3 hH hk (fun k hk' => by rw [g1.1 80 (by omega) (by omega), g1.1 81 (by omega) (by omega)]; exact h80 k hk') g2 hlt (T := fun i => (υ1.1 88 i).toNat) (fun i => rfl)) (fun _ υ2 _ h2 s11 e11 => ?_)
      obtain ⟨k1, k2, k3⟩ := h2
      obtain ⟨lp, hlp⟩ : ∃ lp, lp = lnl (fun i => (υ1.1 88 i).toNat) n 80 0 := ⟨_, rfl⟩
      rw [← hlp] at k2 k3
      have a87 : υ2.1 87 = υ1.1 87 := k1.1 87 (by omega)
      have A11 : ∀ k, k < 84 ∨ 88 < k → s11.1 k = τ.1 k := fun k hk' => by
        rw [e11]
        show υ2.1 k = _
        rw [k1.1 k (by omega), g1.1 k (by omega) (by omega)]
      have K11 : ∀ k, 84 ≤ k → k ≤ 86 → s11.1 k = υ2.1 k := fun k _ _ => by rw [e11]; rfl
      have B11 : ∀ k, k ≠ 0 → k ≠ 7 → s11.2.1 k = τ.2.1 k := fun k hk1 hk2 => by rw [e11, sf_ne hk1, k1.2.1 k hk2, g1.2]
      have z0 : υ2.2.1 0 = τ.2.1 0 := by rw [k1.2.1 0 (by omega), g1.2]
      have C11 : ∀ j, j ≠ 14 → s11.2.1 0 j = τ.2.1 0 j := fun j hj => by rw [e11, sf_nx hj, z0]
      have d14 : s11.2.1 0 14 = τ.2.1 0 9 := by rw [e11, sf_at, z0]
      have d71 : s11.2.1 7 1 = (lp.length : Int) := by rw [e11, sf_ne (by omega)]; exact k2
      have p11 : s11.2.2 = τ.2.2 := by rw [e11]; show υ2.2.2 = _; rw [k1.2.2, g1.2]
      have f8 : s11.2.1 8 = τ.2.1 8 := B11 8 (by omega) (by omega)
      rw [a87]
      refine CJ.go (fun _ => k_MO_pages_0 ?_)
      rw [f8, b7, Int.toNat_natCast n]
      refine ⟨hrv, fun _ => ⟨fun _ => ⟨by omega, fun s6 e6 => ?_⟩, fun q => absurd q f100⟩, fun q => absurd c q⟩
      have x6 : s6.1 166 n = 0 := by rw [e6, sa_at]
      refine t_pgM (τ := s6) (hh := hh) b3 hH hk (fun k hk' => by rw [e6, sa_ne (by decide), sa_ne (by decide), A11 160 (by omega), A11 161 (by omega)]; exact h160 k hk') (fun υ4 q1 q3 => ?_) n s6 (Nat.le_refl _) FrM.refl x6 (fun i i1 i2 => absurd i1 (by omega)) (fun i i1 i2 => by rw [show i = n by omega, x6]; omega)
      have uq := Spc_uniq g2 q3
      have e0 : υ4.1 166 0 = υ1.1 87 0 := (uq n 0 (by omega)).1.symm
      refine ⟨fun _ s10 e10 s12 e12 => ?_, fun q => absurd q (by omega)⟩
      have e12' : s12 = sf (sf υ4 8 109 1) 8 110 0 := by rw [e12, e10]
      have a12 : s12.1 = υ4.1 := by rw [e12']; rfl
      have els : lnl (fun i => (s12.1 167 i).toNat) n 80 0 = lp := by
        rw [hlp]
        exact (lnl_same g2 (t := fun i => (υ1.1 88 i).toNat) (fun i => rfl) (fun i hi hb => by
          have := (uq (n - i) i (by omega)).2 hi hb
          show (υ1.1 88 i).toNat = (s12.1 167 i).toNat
          rw [a12, this]) 80 0 (by omega) hlt).symm
      obtain ⟨lk1, -⟩ := lnl_ok g2 (t := fun i => (υ1.1 88 i).toNat) (fun i => rfl) 80 0 (by omega) hlt
      rw [← hlp] at lk1
      refine t_pgNote (τ := s12) (hh := hh) b3 hH hk (fun k hk' => by rw [a12, q1.1 160 (by omega) (by omega), q1.1 161 (by omega) (by omega), e6, sa_ne (by decide), sa_ne (by decide), A11 160 (by omega), A11 161 (by omega)]; exact h160 k hk') (by rw [a12]; exact q3) (T := fun i => (s12.1 167 i).toNat) (fun i => rfl) (ls := lp) (fun ρ y1 y2 y3 => ?_) 80 0 0 [] s12 rfl (Nat.le_refl _) rfl (by omega) (by rw [a12]; omega) (by rw [List.nil_append]; exact els) ⟨fun _ _ => rfl, fun _ _ => rfl, fun _ _ => rfl, rfl⟩ (by rw [e12', sf_at]; rfl) (fun k p hp => by simp at hp)
      refine ⟨by rw [a12, e0], ?_⟩
      have AR : ∀ k, k < 163 ∨ 167 < k → ρ.1 k = s11.1 k := fun k hk' => by rw [y1.1 k (by omega), a12, q1.1 k (by omega) (by omega), e6, sa_ne (by omega)]
      have BR : ∀ k, k ≠ 8 → ρ.2.1 k = s11.2.1 k := fun k hk' => by rw [y1.2.1 k hk', e12', sf_ne hk', sf_ne hk', q1.2, e6]; rfl
      have CR : ∀ j, j ≠ 109 → j ≠ 110 → ρ.2.1 8 j = τ.2.1 8 j := fun j j1 j2 => by
        rw [y1.2.2.1 j j2, e12', sf_nx j2, sf_nx j1, q1.2, e6]
        show s11.2.1 8 j = _
        rw [f8]
      have DR : ρ.2.1 8 109 = 1 := by rw [y1.2.2.1 109 (by omega), e12', sf_nx (by decide), sf_at]
      have r14 : ρ.2.1 0 14 = τ.2.1 0 9 := by rw [BR 0 (by omega)]; exact d14
      have hI := Inv_good.2.1 k τ h
      refine Inv_pg hI (fun k hk' => ?_) (fun k hk1 hk2 hk3 => ?_) (fun j hj => ?_) CR ?_ (by rw [r14]; exact Int.le_refl _) (by rw [if_pos r14]; exact DR) (fun _ => hb) (fun _ => ?_)
      · rw [AR k (by omega)]; exact A11 k (by omega)
      · rw [BR k hk3]; exact B11 k hk1 hk2
      · rw [BR 0 (by omega)]; exact C11 j hj
      · rw [y1.2.2.2, e12']
        show υ4.2.2 = _
        rw [q1.2, e6]
        exact p11
      · refine ⟨lp.length, lk1, by rw [BR 7 (by omega)]; exact d71, y2, fun t ht => ?_⟩
        obtain ⟨p, hp⟩ : ∃ p, lp[t]? = some p := ⟨lp[t]'ht, List.getElem?_eq_getElem ht⟩
        obtain ⟨u1, u2, u3⟩ := k3 t p hp
        obtain ⟨v1, v2, v3⟩ := y3 t p hp
        rw [AR 84 (by omega), AR 85 (by omega), AR 86 (by omega), K11 84 (by omega) (by omega), K11 85 (by omega) (by omega), K11 86 (by omega) (by omega), u1, u2, u3, v1, v2, v3]
        exact ⟨rfl, by omega, rfl⟩
    · have hge : NV ≤ υ1.1 87 0 := by
        rcases Int.lt_or_le (υ1.1 87 0) NV with q | q
        · rw [if_pos q] at z; exact absurd z (by decide)
        · exact q
      have f8 : υ1.2.1 8 = τ.2.1 8 := by rw [g1.2]
      refine CJ.go (fun _ => k_MO_pages_0 ?_)
      rw [f8, b7, Int.toNat_natCast n]
      refine ⟨hrv, fun _ => ⟨fun _ => ⟨by omega, fun s6 e6 => ?_⟩, fun q => absurd q f100⟩, fun q => absurd c q⟩
      have x6 : s6.1 166 n = 0 := by rw [e6, sa_at]
      refine t_pgM (τ := s6) (hh := hh) b3 hH hk (fun k hk' => by rw [e6, sa_ne (by decide), sa_ne (by decide), g1.1 160 (by omega) (by omega), g1.1 161 (by omega) (by omega)]; exact h160 k hk') (fun υ4 q1 q3 => ?_) n s6 (Nat.le_refl _) FrM.refl x6 (fun i i1 i2 => absurd i1 (by omega)) (fun i i1 i2 => by rw [show i = n by omega, x6]; omega)
      have e0 : υ4.1 166 0 = υ1.1 87 0 := ((Spc_uniq g2 q3) n 0 (by omega)).1.symm
      refine ⟨fun q => absurd q (by omega), fun _ => ⟨rfl, ?_⟩⟩
      have A4 : ∀ k, k ≠ 87 → k ≠ 88 → k ≠ 166 → k ≠ 167 → υ4.1 k = τ.1 k := fun k z1 z2 z3 z4 => by rw [q1.1 k z3 z4, e6, sa_ne z3]; exact g1.1 k z1 z2
      have B4 : υ4.2 = τ.2 := by rw [q1.2, e6]; exact g1.2
      have hI := Inv_good.2.1 k τ h
      refine Inv_pg hI (fun k hk' => A4 k (by omega) (by omega) (by omega) (by omega)) (fun k _ _ _ => by rw [B4]) (fun j _ => by rw [B4]) (fun j _ _ => by rw [B4]) (by rw [B4]) (by rw [B4]; exact f14) (by rw [B4]; exact f109) (fun _ => hb) ?_
      exact PB_keep h.2.2.2.2.2.2 (fun k hk' => A4 k (by omega) (by omega) (by omega) (by omega)) (by rw [B4]) (by rw [B4]) (by rw [B4]) (by rw [B4])
  · have hb' : ¬ τ.2.1 0 13 = τ.2.1 0 9 := hb
    exact CJ.go (fun _ => k_MO_pages_0 ⟨hrv, fun _ => ⟨fun q => absurd (fl.2.2.1.mp q) hb', fun _ => ⟨rfl, Inv_good.2.1 k τ h⟩⟩, fun q => absurd c q⟩)
  · exact CJ.go (fun _ => k_MO_pages_0 ⟨hrv, fun q => absurd q c, fun _ => ⟨rfl, Inv_good.2.1 k τ h⟩⟩)
