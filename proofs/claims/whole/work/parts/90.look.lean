/-! the text is looked at, and cut -/
def Fm (k : Nat) (σ : St) : Prop := (0 ≤ σ.2.1 0 9 ∧ σ.2.1 0 9 ≤ k ∧ σ.2.1 0 10 ≤ σ.2.1 0 9 ∧ σ.2.1 0 11 ≤ σ.2.1 0 9 ∧ σ.2.1 0 12 ≤ σ.2.1 0 9 ∧ σ.2.1 0 13 ≤ σ.2.1 0 9 ∧ σ.2.1 0 14 ≤ σ.2.1 0 9) ∧
  (σ.2.1 8 68 = (if σ.2.1 0 11 = σ.2.1 0 9 then 1 else 0) ∧ σ.2.1 8 91 = (if σ.2.1 0 12 = σ.2.1 0 9 then 1 else 0) ∧ σ.2.1 8 100 = (if σ.2.1 0 13 = σ.2.1 0 9 then 1 else 0) ∧ σ.2.1 8 109 = (if σ.2.1 0 14 = σ.2.1 0 9 then 1 else 0) ∧ (σ.2.1 8 26 = 0 ∨ σ.2.1 8 26 = 1)) ∧
  (σ.2.1 0 11 = σ.2.1 0 9 → σ.2.1 0 10 = σ.2.1 0 9) ∧ (σ.2.1 0 12 = σ.2.1 0 9 → σ.2.1 0 10 = σ.2.1 0 9) ∧ (σ.2.1 0 13 = σ.2.1 0 9 → σ.2.1 0 10 = σ.2.1 0 9) ∧ (σ.2.1 0 14 = σ.2.1 0 9 → σ.2.1 0 13 = σ.2.1 0 9)
theorem Fl_Fm {k : Nat} {σ : St} : Fl k σ ↔ Fm k σ ∧ (σ.2.1 0 10 = σ.2.1 0 9 → σ.2.1 8 26 = 1) := by
  constructor
  · rintro ⟨a1, a2, a3, a4, a5, a6, a7, b1, b2, b3, b4, b5, c1, c2, c3, c4, c5⟩
    exact ⟨⟨⟨a1, a2, a3, a4, a5, a6, a7⟩, ⟨b1, b2, b3, b4, b5⟩, c2, c3, c4, c5⟩, c1⟩
  · rintro ⟨⟨⟨a1, a2, a3, a4, a5, a6, a7⟩, ⟨b1, b2, b3, b4, b5⟩, c2, c3, c4, c5⟩, c1⟩
    exact ⟨a1, a2, a3, a4, a5, a6, a7, b1, b2, b3, b4, b5, c1, c2, c3, c4, c5⟩
def Inw (k : Nat) (σ : St) : Prop := Base σ ∧ Fm k σ ∧ UB σ ∧ HB σ ∧ NB σ ∧ LB σ ∧ PB σ
theorem Inv_w {k : Nat} {σ : St} (h : Inv k σ) : Inw k σ := ⟨h.1, (Fl_Fm.mp h.2.1).1, h.2.2⟩
theorem Inw_v {k : Nat} {σ : St} (h : Inw k σ) (hc : σ.2.1 0 10 = σ.2.1 0 9 → σ.2.1 8 26 = 1) : Inv k σ := ⟨h.1, Fl_Fm.mpr ⟨h.2.1, hc⟩, h.2.2⟩
theorem Base_keep {σ τ : St} (h : Base σ) (hs : Same σ τ) (hh : τ.2.2 = σ.2.2) : Base τ := by
  obtain ⟨hS, hT, hC, hH⟩ := h
  obtain ⟨s1, s2, s3, s4, s5, s6, s7, s8, s9, s10⟩ := id hs
  refine ⟨keep_IS hs hS, IT_keep hT (fun k hk => s1 k (by unfold SK; omega)) s3 s8 s9 (fun l hl => ?_), RC_keep hC (s1 60 (by unfold SK; omega)) (s1 153 (by unfold SK; omega)) (s4 0) s10, by unfold HS; rw [hh]; exact hH⟩
  unfold LOk at hl ⊢
  rw [s5, s1 89 (by unfold SK; omega)]
  exact hl
/-- what a look at the text changes -/
def LKf (σ τ : St) : Prop := (∀ k, ¬ WU k → τ.1 k = σ.1 k) ∧ (∀ k, k ≠ 0 → ¬ WU k → τ.2.1 k = σ.2.1 k) ∧ (∀ j, j ≠ 10 → τ.2.1 0 j = σ.2.1 0 j) ∧ τ.2.2 = σ.2.2
theorem LKf.same {σ τ : St} (h : LKf σ τ) : Same σ τ := by
  have f8 : τ.2.1 8 = σ.2.1 8 := h.2.1 8 (by omega) (by unfold WU; omega)
  have f1 : τ.2.1 1 = σ.2.1 1 := h.2.1 1 (by omega) (by unfold WU; omega)
  have f2 : τ.2.1 2 = σ.2.1 2 := h.2.1 2 (by omega) (by unfold WU; omega)
  have f3 : τ.2.1 3 = σ.2.1 3 := h.2.1 3 (by omega) (by unfold WU; omega)
  exact ⟨fun k hk => h.1 k (by unfold SK at hk; unfold WU; omega), fun j => by rw [f1], fun j => by rw [f2], fun j => by rw [f3], by rw [f8], by rw [f8], by rw [f8], by rw [f8], by rw [f8], by rw [f8]⟩
theorem LKf_inw {k : Nat} {σ τ : St} (h : Inw k σ) (hn : σ.2.1 0 10 ≠ σ.2.1 0 9) (l : LKf σ τ) (hu : τ.2.1 0 10 = σ.2.1 0 9) (hU : UNx σ τ) : Inw k τ := by
  obtain ⟨hB, ⟨⟨a1, a2, a3, a4, a5, a6, a7⟩, ⟨b1, b2, b3, b4, b5⟩, c2, c3, c4, c5⟩, hUB, hH, hN, hL, hP⟩ := h
  have hs := l.same
  obtain ⟨ab, af⟩ := hs.ab
  have f8 : τ.2.1 8 = σ.2.1 8 := l.2.1 8 (by omega) (by unfold WU; omega)
  have o : ∀ j, j ≠ 10 → τ.2.1 0 j = σ.2.1 0 j := l.2.2.1
  have o9 := o 9 (by omega)
  have o11 := o 11 (by omega)
  have o12 := o 12 (by omega)
  have o13 := o 13 (by omega)
  have o14 := o 14 (by omega)
  have nh : ¬ σ.2.1 0 11 = σ.2.1 0 9 := fun q => hn (c2 q)
  have nn : ¬ σ.2.1 0 12 = σ.2.1 0 9 := fun q => hn (c3 q)
  have nb : ¬ σ.2.1 0 13 = σ.2.1 0 9 := fun q => hn (c4 q)
  have np : ¬ σ.2.1 0 14 = σ.2.1 0 9 := fun q => nb (c5 q)
  refine ⟨Base_keep hB hs l.2.2.2, ?_, ⟨fun _ => UNx_ab ab hU, fun z => ?_⟩, fun z => ?_, fun z => ?_, fun z => ?_, fun z => ?_⟩
  · unfold Fm
    rw [f8, o9, o11, o12, o13, o14]
    exact ⟨⟨a1, a2, by rw [hu]; exact Int.le_refl _, a4, a5, a6, a7⟩, ⟨b1, b2, b3, b4, b5⟩, fun _ => hu, fun _ => hu, fun _ => hu, c5⟩
  · rw [f8] at z
    exact CTx_ab ab (CTx_keep (hUB.2 z) (fun k k1 k2 => l.1 k (by unfold WU; omega)) (by rw [f8]) (by rw [f8]))
  · rw [o9, o11] at z; exact absurd z nh
  · rw [o9, o12] at z; exact absurd z nn
  · rw [o9, o13] at z; exact absurd z nb
  · rw [o9, o14] at z; exact absurd z np
theorem t_look {G : GT} {k : Nat} {σ : St} (h : Inw k σ) : CJ G m_JS_lookAtText [O 0] σ (fun _ τ => Inw k τ ∧ LKf σ τ ∧ τ.2.1 0 10 = τ.2.1 0 9 ∧ UNx τ τ) := by
  refine CJ.go (fun _ => k_JS_lookAtText_0 ⟨fun z => ?_, fun z => CJ.mono (t_build h.1.1 h.1.2.1) (fun _ υ _ hυ s5 e5 => ?_)⟩)
  · exact ⟨h, ⟨fun _ _ => rfl, fun _ _ _ => rfl, fun _ _ => rfl, rfl⟩, z, h.2.2.1.1 z⟩
  · obtain ⟨hF, hU⟩ := hυ
    have u0 : υ.2.1 0 = σ.2.1 0 := (hF.1 0 (by unfold WU; omega)).2
    have l : LKf σ s5 := by
      rw [e5]
      refine ⟨fun k hk => (hF.1 k hk).1, fun k k0 hk => by rw [sf_ne k0]; exact (hF.1 k hk).2, fun j hj => ?_, hF.2⟩
      rw [sf_nx (show j ≠ 10 from hj), u0]
    have e9 : s5.2.1 0 9 = σ.2.1 0 9 := l.2.2.1 9 (by decide)
    have e10 : s5.2.1 0 10 = σ.2.1 0 9 := by rw [e5, sf_at, u0]
    have hU5 : UNx σ s5 := UNx_keep hU (fun k _ _ => by rw [e5]; rfl) (by rw [e5, sf_ne (by omega)])
    have w := LKf_inw h z l e10 hU5
    exact ⟨w, l, by show s5.2.1 0 10 = s5.2.1 0 9; rw [e10, e9], UNx_ab l.same.ab.1 hU5⟩
theorem t_cutI {G : GT} {k : Nat} {σ : St} (h : Inw k σ) : CJ G m_MO_cut [O 8] σ (fun _ τ => Inv k τ ∧ FrC (sf σ 8 26 1) τ ∧ τ.2.1 8 26 = 1 ∧ CTx τ τ) := by
  obtain ⟨hB, ⟨⟨a1, a2, a3, a4, a5, a6, a7⟩, ⟨b1, b2, b3, b4, b5⟩, c2, c3, c4, c5⟩, hUB, hH, hN, hL, hP⟩ := id h
  refine CJ.mono (t_cut hB.1 hB.2.1 b5 hUB.2) (fun _ τ _ hτ => ?_)
  obtain ⟨hF, hC⟩ := hτ
  have A : ∀ k, (k < 110 ∨ 123 < k) → τ.1 k = σ.1 k := fun k hk => hF.1 k hk
  have O8 : ∀ k, k ≠ 8 → τ.2.1 k = σ.2.1 k := fun k hk => by rw [hF.2.1 k hk, sf_ne hk]
  have f8 : ∀ j, j ≠ 26 → j ≠ 27 → j ≠ 35 → τ.2.1 8 j = σ.2.1 8 j := fun j j1 j2 j3 => by
    have := hF.2.2.1 j j2 j3
    rw [this, sf_nx (show j ≠ 26 from j1)]
  have c26 : τ.2.1 8 26 = 1 := by
    have := hF.2.2.1 26 (by decide) (by decide)
    rw [this]
    exact sf_at
  have hh : τ.2.2 = σ.2.2 := hF.2.2.2
  have hs : Same σ τ := ⟨fun k hk => A k (by unfold SK at hk; omega), fun j => by rw [O8 1 (by omega)], fun j => by rw [O8 2 (by omega)], fun j => by rw [O8 3 (by omega)], f8 6 (by omega) (by omega) (by omega), f8 7 (by omega) (by omega) (by omega), f8 17 (by omega) (by omega) (by omega), f8 21 (by omega) (by omega) (by omega), f8 _ (by decide) (by decide) (by decide), f8 _ (by decide) (by decide) (by decide)⟩
  obtain ⟨ab, af⟩ := hs.ab
  have hC' : CTx τ τ := CTx_ab ab hC
  have f0 : τ.2.1 0 = σ.2.1 0 := O8 0 (by omega)
  have hl : σ.2.2.1 = 9 ∨ σ.2.2.1 = 28 := by rcases hB.2.2.2 with q | q <;> rw [q] <;> simp
  refine ⟨Inw_v ⟨Base_keep hB hs hh, ?_, ⟨fun z => ?_, fun _ => hC'⟩, ?_, ?_, ?_, ?_⟩ (fun _ => c26), hF, c26, hC'⟩
  · unfold Fm
    rw [f0]
    exact ⟨⟨a1, a2, a3, a4, a5, a6, a7⟩, ⟨by rw [f8 68 (by omega) (by omega) (by omega)]; exact b1, by rw [f8 91 (by omega) (by omega) (by omega)]; exact b2, by rw [f8 100 (by omega) (by omega) (by omega)]; exact b3, by rw [f8 109 (by omega) (by omega) (by omega)]; exact b4, Or.inr c26⟩, c2, c3, c4, c5⟩
  · rw [f0] at z
    exact UNx_ab ab (UNx_keep (hUB.1 z) (fun k k1 k2 => A k (by omega)) (O8 4 (by omega)))
  · exact HB_keep hH ab af (by rw [hh]) (fun k k1 k2 => ⟨A k (by omega), O8 k (by omega)⟩) (fun k k1 k2 => A k (by omega)) (fun j j1 j2 => f8 j (by omega) (by omega) (by omega)) (by rw [f0]) (by rw [f0])
  · exact NB_keep hN ab (fun j j1 j2 => f8 j (by omega) (by omega) (by omega)) (by rw [f0]) (by rw [f0]) (by rw [f0]) (by rw [f0])
  · exact LB_keep hL ab (fun k hk => A k (by omega)) (by rw [O8 6 (by omega)]) (by rw [O8 6 (by omega)]) (f8 101 (by omega) (by omega) (by omega)) (f8 108 (by omega) (by omega) (by omega)) (by rw [f0]) (by rw [f0])
  · exact PB_keep hP (fun k hk => A k (by omega)) (by rw [O8 7 (by omega)]) (f8 110 (by omega) (by omega) (by omega)) (by rw [f0]) (by rw [f0])
theorem so_words (G : GT) : SO_words G Inv := by
  intro k σ hk h
  refine CJ.go (fun _ => k_JS_words_0 (CJ.mono (t_look (Inv_w h)) (fun _ τ _ hτ => ?_)))
  obtain ⟨w, l, u, hU⟩ := hτ
  refine CJ.go (fun _ => k_MO_words_0 (CJ.mono (t_cutI w) (fun _ υ _ hυ => ?_)))
  obtain ⟨v, f, c, hC⟩ := hυ
  have e1 : τ.2.1 4 3 = (nW τ : Int) := hU.2.1
  have e2 : υ.2.1 8 27 = (nW υ : Int) := hC.1
  have ab : Ab τ υ := ⟨fun k hk => f.1 k (by omega), by rw [show υ.2.1 8 6 = _ from f.2.2.1 _ (by decide) (by decide)]; rfl, by rw [show υ.2.1 8 21 = _ from f.2.2.1 _ (by decide) (by decide)]; rfl⟩
  exact ⟨by rw [e1, e2, Ab_nW ab], Inv_good.2.1 k υ v⟩
