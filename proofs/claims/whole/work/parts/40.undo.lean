/-! undo -/
theorem undo_fin {Inv : Nat → St → Prop} (hI : GoodI Inv) {k : Nat} {σ u : St} (hB : Base σ) (hF : Fl k σ) {ne e' T : Nat} (d1 : σ.2.1 2 3 = ne) (d2 : ne < 40) (d4 : e' + 1 ≤ 40) (d6 : ∀ k, k < e' + 1 → σ.1 58 (ri ne (e' + 1) k) = σ.1 108 k ∧ σ.1 59 (ri ne (e' + 1) k) = if σ.1 107 k = 1 then σ.1 109 k else -6) (hT : T ≤ 80)
    (F : u.2 = (chg (sf (sf (sf (sf (sf (sf σ 0 9 (σ.2.1 0 9 + 1)) 2 3 (if ne = 0 then 39 else ne - 1 : Nat)) 2 1 e') 2 0 T) 8 25 e') 8 21 T)).2) (A : ∀ k, k ≠ 57 → k ≠ 106 → u.1 k = σ.1 k) (hx : ∀ j, j < T → u.1 57 j = u.1 106 j ∧ LOk σ (u.1 106 j)) (hev : EV (σ.1 108) (σ.1 107) (σ.1 109) (LOk σ) e' T) : Inv (k + 1) u := by
  obtain ⟨hS, hT2, hC, hH⟩ := id hB
  have x6 : u.2.1 8 6 = σ.2.1 8 6 := by rw [F]; simp [chg, sf_2]
  have x7 : u.2.1 8 7 = σ.2.1 8 7 := by rw [F]; simp [chg, sf_2]
  have x17 : u.2.1 8 17 = σ.2.1 8 17 := by rw [F]; simp [chg, sf_2]
  have x21 : u.2.1 8 21 = T := by rw [F]; simp [chg, sf_2]
  have x20 : u.2.1 2 0 = T := by rw [F]; simp [chg, sf_2]
  have x25 : u.2.1 8 25 = e' := by rw [F]; simp [chg, sf_2]
  have hl : ∀ l, LOk σ l → LOk u l := LOk_keep (A 89 (by decide) (by decide)) x6
  refine hI.2.2 _ _ ⟨IS_core hS (fun k hk => A k (by omega) (by omega)) (fun j => by rw [F]; simp [chg, sf_2]) x6 x7 x17, ⟨by omega, by omega, fun j hj => ?_, ?_⟩, RC_keep hC (A 60 (by decide) (by decide)) (A _ (by decide) (by decide)) (by rw [F]; simp [chg, sf_2]) (by rw [F]; simp [chg, sf_2]), by unfold HS; rw [F]; exact hH⟩ (Cl.step hF (by rw [F]; simp [chg, sf_2]) (fun j h1 _ => by rw [F]; simp [chg, sf_2]; omega) (by rw [F]; simp [chg, sf_2]) (by rw [F]; simp [chg, sf_2]) (by rw [F]; simp [chg, sf_2]) (by rw [F]; simp [chg, sf_2]) (by rw [F]; simp [chg, sf_2]))
  · obtain ⟨z1, z2⟩ := hx j (by omega)
    exact ⟨z1, hl _ z2⟩
  · refine ⟨if ne = 0 then 39 else ne - 1, e', by rw [F]; simp [chg, sf_2], by split <;> omega, by rw [F]; simp [chg, sf_2], by omega, x25, fun k hk => ?_, ?_⟩
    · have := ri_back (ne := ne) (e := e' + 1) (k := k) d2 d4 (by omega) (by omega)
      rw [show e' + 1 - 1 = e' by omega] at this
      rw [this, A 58 (by decide) (by decide), A 59 (by decide) (by decide), A 107 (by decide) (by decide), A 108 (by decide) (by decide), A 109 (by decide) (by decide)]
      exact d6 k (by omega)
    · rw [A 107 (by decide) (by decide), A 108 (by decide) (by decide), A 109 (by decide) (by decide), x21]
      exact EV.mono hl _ _ hev
theorem so_undo {Inv : Nat → St → Prop} (hI : GoodI Inv) (G : GT) : SO_undo G Inv := by
  intro k σ hk h
  obtain ⟨hB, hF⟩ := hI.1 k σ h
  obtain ⟨hS, hT, hC, hH⟩ := id hB
  have hs := hI.2.1 k σ h
  have hf := hF
  unfold Fl at hf
  obtain ⟨t1, t2, t3, t4⟩ := id hT
  obtain ⟨ne, e, d1, d2, d3, d4, d5, d6, d7⟩ := id t4
  refine CJ.go (fun R => k_JS_undo_0 ⟨fun c1 => ⟨⟨by omega, by omega⟩, fun σ3 e3 => ?_⟩, fun c1 => ?_⟩)
  · obtain ⟨N, hN⟩ : ∃ N : Nat, σ.2.1 8 21 = N := ⟨(σ.2.1 8 21).toNat, by omega⟩
    obtain ⟨e', he'⟩ : ∃ e' : Nat, e = e' + 1 := ⟨e - 1, by omega⟩
    subst he'
    obtain ⟨v1, v2⟩ := d7
    rw [hN] at v2
    obtain ⟨y1, y2⟩ := d6 e' (by omega)
    have ht := ri_top (ne := ne) (e := e' + 1) d2 d4 (by omega)
    rw [show e' + 1 - 1 = e' by omega] at ht
    rw [ht] at y1 y2
    obtain ⟨i, hi⟩ : ∃ i : Nat, σ.1 108 e' = i := ⟨(σ.1 108 e').toNat, by omega⟩
    have hX : (if σ.2.1 2 3 ≤ 0 then (39 : Int) else σ.2.1 2 3 - 1) = ((if ne = 0 then 39 else ne - 1 : Nat) : Int) := by
      rw [d1]
      by_cases q : ne = 0
      · rw [if_pos (by omega), if_pos q]; rfl
      · rw [if_neg (by omega), if_neg q]; omega
    have hx40 : (if ne = 0 then 39 else ne - 1 : Nat) < 40 := by split <;> omega
    generalize hXN : (if ne = 0 then 39 else ne - 1 : Nat) = X at *
    have z3 : σ3.2.1 2 3 = σ.2.1 2 3 := by rw [e3]; rfl
    have z1 : σ3.2.1 2 1 = σ.2.1 2 1 := by rw [e3]; rfl
    have z4 : ∀ k, σ3.1 k = σ.1 k := fun k => by rw [e3]; rfl
    refine CJ.go (fun _ => k_TY_undoLatest_0 ?_)
    rw [z3, hX, z1, z4 59, z4 58, Int.toNat_natCast, y1, y2, hi, d3]
    refine ⟨⟨by omega, by omega⟩, fun σ6 e6 => ⟨⟨by omega, by omega⟩, fun σ7 e7 => ⟨by omega, fun c2 => ?_, fun c2 => ?_⟩⟩⟩
    · have hrm : σ.1 107 e' = 1 := by
        by_cases q : σ.1 107 e' = 1
        · exact q
        · rw [if_neg q] at c2
          exact absurd rfl c2
      rcases v2 with ⟨a1, a2, a3, a4, a5⟩ | ⟨a1, a2, a3⟩
      · rw [if_pos hrm]
        have hl : rng (σ.1 109 e') := R.1 _ _
        refine CJ.mono (t_putIn (n := N) hl (by rw [e7, e6, e3]; show σ.2.1 2 0 = N; omega) (by omega) (by omega)) (fun _ u16 _ hu => ?_)
        obtain ⟨p1, p2, p3⟩ := hu
        have F16 : u16.2 = (sf (sf (sf (sf σ 0 9 (σ.2.1 0 9 + 1)) 2 3 X) 2 1 e') 2 0 (N + 1)).2 := by
          rw [p1, e7, e6, e3, show ((e' + 1 : Nat) : Int) - 1 = (e' : Int) by omega]
        have A16 : ∀ k, k ≠ 57 → u16.1 k = σ.1 k := fun k h1 => by rw [p2 k h1, e7, e6, e3]; rfl
        have q25 : u16.2.1 8 25 = σ.2.1 8 25 := by rw [F16]; simp [sf_2]
        have q20 : u16.2.1 2 0 = N + 1 := by rw [F16]; simp [sf_2]
        refine CJ.go (fun _ => k_MO_undo_0 ?_)
        rw [q25, d5, A16 107 (by decide), A16 108 (by decide), A16 109 (by decide), show (((e' + 1 : Nat) : Int) - 1).toNat = e' by omega, hi]
        refine ⟨fun _ => ⟨⟨by omega, by omega⟩, fun σ9 e9 => ⟨by omega, fun z => absurd z (by omega), fun _ => ?_⟩⟩, fun z => absurd z (by omega)⟩
        have F9 : σ9.2 = (sf u16 8 25 e').2 := by rw [e9, show ((e' + 1 : Nat) : Int) - 1 = (e' : Int) by omega]
        have q21 : σ9.2.1 8 21 = N := by rw [F9.trans (sf_c F16)]; simp [sf_2, hN]
        refine CJ.mono (t_put2 (n := N) hl q21 (by omega) (by omega)) (fun _ u17 _ hu17 => ?_)
        obtain ⟨r1, r2, r3⟩ := hu17
        refine CJ.mono t_changed (fun _ u18 _ hu18 => ?_)
        have F : u18.2 = (chg (sf (sf (sf (sf (sf (sf σ 0 9 (σ.2.1 0 9 + 1)) 2 3 X) 2 1 e') 2 0 (N + 1 : Nat)) 8 25 e') 8 21 (N + 1 : Nat))).2 := by
          rw [hu18]
          exact chg_c (r1.trans (sf_c (F9.trans (sf_c F16))))
        have x57 : ∀ j, u18.1 57 j = insA (σ.1 57) i (σ.1 109 e') N j := fun j => by
          rw [hu18, chg_1, r2 57 (by decide), e9, sf_1, p3, e7, e6, e3]; rfl
        have x106 : ∀ j, u18.1 106 j = insA (σ.1 106) i (σ.1 109 e') N j := fun j => by
          rw [hu18, chg_1, r3, e9, sf_1, A16 106 (by decide)]
        refine ⟨?_, undo_fin hI hB hF (T := N + 1) d1 d2 (by omega) d6 (by omega) (by rw [hXN]; exact F) (fun k h1 h2 => ?_) (fun j hj => ?_) (by rw [show ((N + 1 : Nat) : Int) = (N : Int) + 1 by omega]; exact a5)⟩
        · rw [q20, F]; simp [chg, sf_2]
        · rw [hu18, chg_1, r2 k h2, e9, sf_1, A16 k h1]
        · rw [x57, x106]
          unfold insA
          by_cases q : j = i
          · rw [if_pos q, if_pos q]
            exact ⟨rfl, a4⟩
          · rw [if_neg q, if_neg q]
            by_cases q2 : i < j ∧ j ≤ N
            · rw [if_pos q2, if_pos q2]
              exact t3 (j - 1) (by omega)
            · rw [if_neg q2, if_neg q2]
              exact t3 j (by omega)
      · rw [hrm] at a1
        exact absurd a1 (by decide)
    · rcases v2 with ⟨a1, a2, a3, a4, a5⟩ | ⟨a1, a2, a3⟩
      · rw [if_pos a1] at c2
        have := a4.1
        omega
      · refine CJ.mono (t_takeOut (n := N) (by rw [e7, e6, e3]; show σ.2.1 2 0 = N; omega) (by omega) (by omega)) (fun _ u16 _ hu => ?_)
        obtain ⟨-, p1, p2, p3⟩ := hu
        have F16 : u16.2 = (sf (sf (sf (sf σ 0 9 (σ.2.1 0 9 + 1)) 2 3 X) 2 1 e') 2 0 (N - 1)).2 := by
          rw [p1, e7, e6, e3, show ((e' + 1 : Nat) : Int) - 1 = (e' : Int) by omega]
        have A16 : ∀ k, k ≠ 57 → u16.1 k = σ.1 k := fun k h1 => by rw [p2 k h1, e7, e6, e3]; rfl
        have q25 : u16.2.1 8 25 = σ.2.1 8 25 := by rw [F16]; simp [sf_2]
        have q20 : u16.2.1 2 0 = N - 1 := by rw [F16]; simp [sf_2]
        refine CJ.go (fun _ => k_MO_undo_0 ?_)
        rw [q25, d5, A16 107 (by decide), A16 108 (by decide), A16 109 (by decide), show (((e' + 1 : Nat) : Int) - 1).toNat = e' by omega, hi]
        refine ⟨fun _ => ⟨⟨by omega, by omega⟩, fun σ9 e9 => ⟨by omega, fun _ => ?_, fun z => absurd a1 z⟩⟩, fun z => absurd z (by omega)⟩
        have F9 : σ9.2 = (sf u16 8 25 e').2 := by rw [e9, show ((e' + 1 : Nat) : Int) - 1 = (e' : Int) by omega]
        have q21 : σ9.2.1 8 21 = N := by rw [F9.trans (sf_c F16)]; simp [sf_2, hN]
        refine CJ.mono (t_takeOut2 (n := N) q21 (by omega) (by omega)) (fun _ u17 _ hu17 => ?_)
        obtain ⟨-, r1, r2, r3⟩ := hu17
        refine CJ.mono t_changed (fun _ u18 _ hu18 => ?_)
        have hN1 : ((N - 1 : Nat) : Int) = (N : Int) - 1 := by omega
        have F : u18.2 = (chg (sf (sf (sf (sf (sf (sf σ 0 9 (σ.2.1 0 9 + 1)) 2 3 X) 2 1 e') 2 0 (N - 1 : Nat)) 8 25 e') 8 21 (N - 1 : Nat))).2 := by
          rw [hu18, hN1]
          exact chg_c (r1.trans (sf_c (F9.trans (sf_c F16))))
        have x57 : ∀ j, u18.1 57 j = remA (σ.1 57) i N j := fun j => by
          rw [hu18, chg_1, r2 57 (by decide), e9, sf_1, p3, e7, e6, e3]; rfl
        have x106 : ∀ j, u18.1 106 j = remA (σ.1 106) i N j := fun j => by
          rw [hu18, chg_1, r3, e9, sf_1, A16 106 (by decide)]
        refine ⟨?_, undo_fin hI hB hF (T := N - 1) d1 d2 (by omega) d6 (by omega) (by rw [hXN]; exact F) (fun k h1 h2 => ?_) (fun j hj => ?_) (by rw [hN1]; exact a3)⟩
        · rw [q20, F]; simp [chg, sf_2]; omega
        · rw [hu18, chg_1, r2 k h2, e9, sf_1, A16 k h1]
        · rw [x57, x106]
          unfold remA
          by_cases q2 : i ≤ j ∧ j + 1 < N
          · rw [if_pos q2, if_pos q2]
            exact t3 (j + 1) (by omega)
          · rw [if_neg q2, if_neg q2]
            exact t3 j (by omega)
  · exact CJ.go (fun _ => k_MO_undo_0 ⟨fun z => absurd z (by omega), fun _ => ⟨rfl, hs⟩⟩)
