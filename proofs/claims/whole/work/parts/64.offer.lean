/-! the class's filler: rows -/
def WF (k : Nat) : Prop := k = 5 ∨ k = 0 ∨ k = 6 ∨ k = 7 ∨ (9 ≤ k ∧ k ≤ 46) ∨ (74 ≤ k ∧ k ≤ 88) ∨ 376 ≤ k
def PRow (lim : Nat) (r : Nat) (R : Nat → Int) (τ : St) : Prop := (∀ w, w ≤ lim → τ.1 (376 + r) w = R w) ∧ (0 ≤ τ.1 75 r ∧ τ.1 75 r ≤ 301) ∧ (-1 ≤ τ.1 76 r ∧ τ.1 76 r ≤ lim) ∧ ∀ w : Nat, w ≤ lim → ((w : Int) < τ.1 75 r ∨ τ.1 76 r < w) → R w = NV
/-- other rows, and all that is no row -/
def ORow (r : Nat) (σ τ : St) : Prop := τ.2 = σ.2 ∧ (∀ k, k ≠ 75 → k ≠ 76 → k ≠ 376 + r → τ.1 k = σ.1 k) ∧ (∀ i, i ≠ r → τ.1 75 i = σ.1 75 i ∧ τ.1 76 i = σ.1 76 i)
theorem ORow.refl {r : Nat} {σ : St} : ORow r σ σ := ⟨rfl, fun _ _ _ _ => rfl, fun _ _ => ⟨rfl, rfl⟩⟩
theorem ORow.trans {r : Nat} {σ τ υ : St} (h : ORow r σ τ) (g : ORow r τ υ) : ORow r σ υ := ⟨g.1.trans h.1, fun k a b c => (g.2.1 k a b c).trans (h.2.1 k a b c), fun i hi => ⟨(g.2.2 i hi).1.trans (h.2.2 i hi).1, (g.2.2 i hi).2.trans (h.2.2 i hi).2⟩⟩
theorem ORow.row {r r' lim : Nat} {R : Nat → Int} {σ τ : St} (h : ORow r σ τ) (hr : r' ≠ r) (g : PRow lim r' R σ) : PRow lim r' R τ := by
  obtain ⟨a, b, c, d⟩ := g
  unfold PRow
  rw [(h.2.2 r' hr).1, (h.2.2 r' hr).2, h.2.1 (376 + r') (by omega) (by omega) (by omega)]
  exact ⟨a, b, c, d⟩
theorem ORow.fr {r : Nat} {σ τ : St} (h : ORow r σ τ) : Fr WF σ τ := ⟨fun k hk => ⟨h.2.1 k (by unfold WF at hk; omega) (by unfold WF at hk; omega) (by unfold WF at hk; omega), by rw [h.1]⟩, by rw [h.1]⟩
theorem t_clear {G : GT} {τ : St} {r lim : Nat} (hr : r < 243) (hl : lim ≤ 300) : CJ G m_FI_clear [O 5, I r] τ (fun _ υ => ORow r τ υ ∧ PRow lim r (fun _ => NV) υ) := by
  have ly : lyt (376 + r) = (1, 301) := by
    have := lyr_376 (i := (r : Int)) (by omega)
    rw [Int.toNat_natCast] at this
    exact this
  refine CJ.go (fun _ => k_FI_clear_0 ?_)
  rw [Int.toNat_natCast]
  refine ⟨by omega, ?_⟩
  refine CJ.mono (P := fun _ u => u.2 = τ.2 ∧ (∀ k, k ≠ 376 + r → u.1 k = τ.1 k) ∧ ∀ w, w < 301 → u.1 (376 + r) w = NV) (CJ.go (fun _ => k_AR_fill_0 ly ?_)) (fun _ u2 _ hu => fun s3 e3 s5 e5 => ?_)
  · have loop : ∀ (d i : Nat) (υ : St), i + d = 301 → υ.2 = τ.2 → (∀ k, k ≠ 376 + r → υ.1 k = τ.1 k) → (∀ w, w < i → υ.1 (376 + r) w = NV) → a_AR_fill_5 G (376 + r) 301 536870912 i (301 : Nat) υ (fun _ u => u.2 = τ.2 ∧ (∀ k, k ≠ 376 + r → u.1 k = τ.1 k) ∧ ∀ w, w < 301 → u.1 (376 + r) w = NV) := by
      intro d
      induction d with
      | zero =>
        intro i υ hi h2 ho hw
        exact k_AR_fill_5 ly ⟨⟨by omega, by omega⟩, ⟨by omega, by omega⟩, fun _ => ⟨h2, ho, fun w h => hw w (by omega)⟩, fun z => absurd z (by omega)⟩
      | succ d ih =>
        intro i υ hi h2 ho hw
        refine k_AR_fill_5 ly ⟨⟨by omega, by omega⟩, ⟨by omega, by omega⟩, fun z => absurd z (by omega), fun _ => ⟨by omega, ⟨by decide, by decide⟩, fun s5 e5 => ?_⟩⟩
        rw [Int.toNat_natCast] at e5
        refine ih (i + 1) s5 (by omega) (by rw [e5]; exact h2) (fun k hk => by rw [e5, sa_ne hk]; exact ho k hk) (fun w h => ?_)
        rw [e5]
        by_cases q : w = i
        · rw [q, sa_at]; rfl
        · rw [sa_nx q]; exact hw w (by omega)
    exact loop 301 0 τ (by omega) rfl (fun _ _ => rfl) (fun w h => absurd h (by omega))
  · obtain ⟨a, b, c⟩ := hu
    have r75 : s5.1 75 r = 301 := by rw [e5, e3, sa_ne (by decide), sa_at]
    have r76 : s5.1 76 r = -1 := by rw [e5, sa_at]
    refine ⟨⟨by rw [e5, e3]; exact a, fun k h1 h2 h3 => by rw [e5, e3, sa_ne h2, sa_ne h1]; exact b k h3, fun i hi => ?_⟩, fun w hw => ?_, by omega, by omega, fun w _ _ => rfl⟩
    · rw [e5, e3, sa_nx hi, sa_nx hi, sa_nx hi, sa_nx hi, b 75 (by omega), b 76 (by omega)]
      exact ⟨rfl, rfl⟩
    · rw [e5, e3, sa_ne (by omega), sa_ne (by omega)]
      exact c w (by omega)
theorem t_offer {G : GT} {τ : St} {t s lim wi : Nat} {c : Int} {R S : Nat → Int} (ht : t < 243) (hs : s < 243) (hts : s ≠ t) (hlim : lim ≤ 300) (h6 : τ.2.1 5 6 = lim) (hw1 : 1 ≤ wi) (hw : wi ≤ 112) (hc : 0 ≤ c ∧ c ≤ 8200) (hT : PRow lim t R τ) (hS : PRow lim s S τ) (bR : ∀ w, w ≤ lim → 0 ≤ R w ∧ R w ≤ NV) (bS : ∀ w, w ≤ lim → 0 ≤ S w ∧ S w ≤ NV) : CJ G m_FI_offer [O 5, I t, I s, I wi, I c] τ (fun _ υ => ORow t τ υ ∧ PRow lim t (fun w => if wi ≤ w then min (R w) (S (w - wi) + c) else R w) υ) := by
  have lyt1 : lyt (376 + t) = (1, 301) := by
    have := lyr_376 (i := (t : Int)) (by omega)
    rw [Int.toNat_natCast] at this
    exact this
  have lyt2 : lyt (376 + s) = (1, 301) := by
    have := lyr_376 (i := (s : Int)) (by omega)
    rw [Int.toNat_natCast] at this
    exact this
  have NVe : NV = 536870912 := rfl
  obtain ⟨t1, t2, t3, t4⟩ := id hT
  obtain ⟨s1, s2, s3, s4⟩ := id hS
  refine CJ.go (fun _ => k_FI_offer_0 ?_)
  rw [Int.toNat_natCast, Int.toNat_natCast, h6]
  obtain ⟨fi, hfi⟩ : ∃ fi : Nat, τ.1 75 s = fi := ⟨(τ.1 75 s).toNat, by omega⟩
  obtain ⟨la', hla⟩ : ∃ la' : Int, min (τ.1 76 s) ((lim : Int) - (wi : Int)) = la' := ⟨_, rfl⟩
  rw [hfi, hla]
  refine ⟨by omega, by omega, ⟨by omega, by omega⟩, ⟨by omega, by omega⟩, fun q => ?_, fun q => ⟨ORow.refl, fun w hw2 => ?_, t2, t3, fun w hw2 h => ?_⟩⟩
  · obtain ⟨L, hL⟩ : ∃ L : Nat, la' = L := ⟨la'.toNat, by omega⟩
    rw [hL]
    have loop : ∀ (d w : Nat) (υ : St), w + d = L + 1 → fi ≤ w → υ.2 = τ.2 → (∀ k, k ≠ 376 + t → υ.1 k = τ.1 k) → (∀ w', w' ≤ lim → υ.1 (376 + t) w' = if wi + fi ≤ w' ∧ w' < wi + w then min (R w') (S (w' - wi) + c) else R w') → a_FI_offer_53 G t wi c (376 + t) (376 + s) L fi w υ (fun _ υ => ORow t τ υ ∧ PRow lim t (fun w => if wi ≤ w then min (R w) (S (w - wi) + c) else R w) υ) := by
      intro d
      induction d with
      | zero =>
        intro w υ hw' hfw h2 ho hr
        refine k_FI_offer_53 lyt1 lyt2 ?_
        rw [Int.toNat_natCast, ho 75 (by omega), ho 76 (by omega)]
        refine ⟨⟨by omega, by omega⟩, ⟨by omega, by omega⟩, fun _ => ⟨by omega, ⟨by omega, by omega⟩, ⟨by omega, by omega⟩, fun s19 e19 => ⟨⟨by omega, by omega⟩, ⟨by omega, by omega⟩, fun s24 e24 => ?_⟩⟩, fun z => absurd z (by omega)⟩
        have r75 : s24.1 75 t = min (τ.1 75 t) ((fi : Int) + (wi : Int)) := by rw [e24, e19, sa_ne (by decide), sa_at]
        have r76 : s24.1 76 t = max (τ.1 76 t) ((L : Int) + (wi : Int)) := by rw [e24, sa_at]
        have same : ∀ x, x ≤ lim → (if wi + fi ≤ x ∧ x < wi + w then min (R x) (S (x - wi) + c) else R x) = if wi ≤ x then min (R x) (S (x - wi) + c) else R x := fun x hx => by
          by_cases y : wi + fi ≤ x ∧ x < wi + w
          · rw [if_pos y, if_pos (by omega)]
          · rw [if_neg y]
            by_cases z : wi ≤ x
            · rw [if_pos z]
              have := s4 (x - wi) (by omega) (by omega)
              have b1 := bR x hx
              omega
            · rw [if_neg z]
        refine ⟨⟨by rw [e24, e19]; exact h2, fun k a b e => by rw [e24, e19, sa_ne b, sa_ne a]; exact ho k e, fun i hi => ?_⟩, fun x hx => ?_, by omega, by omega, fun x hx h => ?_⟩
        · rw [e24, e19, sa_nx hi, sa_nx hi, sa_nx hi, sa_nx hi, ho 75 (by omega), ho 76 (by omega)]
          exact ⟨rfl, rfl⟩
        · rw [e24, e19, sa_ne (by omega), sa_ne (by omega), hr x hx]
          exact same x hx
        · rw [r75, r76] at h
          have h1 := t4 x hx (by omega)
          show (if _ then _ else _) = _
          by_cases z : wi ≤ x
          · rw [if_pos z, h1]
            have b2 := bS (x - wi) (by omega)
            have := s4 (x - wi) (by omega) (by omega)
            omega
          · rw [if_neg z, h1]
      | succ d ih =>
        intro w υ hw' hfw h2 ho hr
        have i1 : ((w : Int) + (wi : Int)).toNat = w + wi := by omega
        have rs : υ.1 (376 + s) w = S w := by rw [ho _ (by omega)]; exact s1 w (by omega)
        have rt : υ.1 (376 + t) (w + wi) = R (w + wi) := by rw [hr _ (by omega), if_neg (by omega)]
        have bs := bS w (by omega)
        refine k_FI_offer_53 lyt1 lyt2 ?_
        rw [i1, Int.toNat_natCast, Int.toNat_natCast, rs, rt]
        refine ⟨⟨by omega, by omega⟩, ⟨by omega, by omega⟩, fun z => absurd z (by omega), fun _ => ⟨by omega, by omega, ⟨by omega, by omega⟩, fun z => ?_, fun z s31 e31 => ?_⟩⟩
        · refine ih (w + 1) υ (by omega) (by omega) h2 ho (fun x hx => ?_)
          rw [hr x hx]
          by_cases y : x = w + wi
          · subst y
            rw [if_neg (by omega), if_pos (by omega), show w + wi - wi = w by omega]
            omega
          · by_cases z2 : wi + fi ≤ x ∧ x < wi + w
            · rw [if_pos z2, if_pos (by omega)]
            · rw [if_neg z2, if_neg (by omega)]
        · refine ih (w + 1) s31 (by omega) (by omega) (by rw [e31]; exact h2) (fun k hk => by rw [e31, sa_ne hk]; exact ho k hk) (fun x hx => ?_)
          rw [e31, sa_1]
          by_cases y : x = w + wi
          · subst y
            rw [if_pos ⟨rfl, rfl⟩, if_pos (by omega), show w + wi - wi = w by omega]
            omega
          · rw [if_neg (fun q => y q.2), hr x hx]
            by_cases z2 : wi + fi ≤ x ∧ x < wi + w
            · rw [if_pos z2, if_pos (by omega)]
            · rw [if_neg z2, if_neg (by omega)]
    refine loop (L + 1 - fi) fi τ (by omega) (Nat.le_refl _) rfl (fun _ _ => rfl) (fun w' hw' => ?_)
    rw [if_neg (by omega)]
    exact t1 w' hw'
  · rw [t1 w hw2]
    show _ = (if _ then _ else _)
    by_cases z : wi ≤ w
    · rw [if_pos z]
      have := s4 (w - wi) (by omega) (by omega)
      have b1 := bR w hw2
      omega
    · rw [if_neg z]
  · have h1 := t4 w hw2 h
    show (if _ then _ else _) = _
    by_cases z : wi ≤ w
    · rw [if_pos z, h1]
      have := s4 (w - wi) (by omega) (by omega)
      omega
    · rw [if_neg z, h1]
