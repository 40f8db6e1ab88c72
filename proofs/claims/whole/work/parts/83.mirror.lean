/-! how a line is seen: runs of digits are mirrored -/
def rs (d : Nat → Bool) (f : Nat) : Nat → Nat
  | 0 => 0
  | p + 1 => if f < p + 1 ∧ d p = true then rs d f p else p + 1
def re (d : Nat → Bool) : Nat → Nat → Nat
  | 0, p => p
  | n + 1, p => if d (p + 1) = true then re d n (p + 1) else p
def mir (d : Nat → Bool) (f t p : Nat) : Nat := if d p = true then rs d f p + re d (t - p) p - p else p
theorem rs_eq {d : Nat → Bool} {f s : Nat} (hf : f ≤ s) (hs : s = f ∨ d (s - 1) = false) : ∀ x, s ≤ x → (∀ y, s ≤ y → y < x → d y = true) → rs d f x = s
  | 0, h1, _ => by show 0 = s; omega
  | x + 1, h1, h2 => by
    unfold rs
    by_cases z : s = x + 1
    · rw [if_neg (fun q => ?_), z]
      rcases hs with y | y
      · omega
      · rw [z] at y
        simp at y
        rw [y] at q
        exact absurd q.2 (by decide)
    · rw [if_pos ⟨by omega, h2 x (by omega) (by omega)⟩]
      exact rs_eq hf hs x (by omega) (fun y y1 y2 => h2 y y1 (by omega))
theorem re_eq {d : Nat → Bool} {e t : Nat} (ht : e ≤ t) (he : e = t ∨ d (e + 1) = false) : ∀ n x, x + n = t → x ≤ e → (∀ y, x < y → y ≤ e → d y = true) → re d n x = e
  | 0, x, h1, h2, _ => by show x = e; omega
  | n + 1, x, h1, h2, h3 => by
    unfold re
    by_cases z : x = e
    · subst z
      rcases he with y | y
      · omega
      · rw [y, if_neg (by decide)]
    · rw [if_pos (h3 (x + 1) (by omega) (by omega))]
      exact re_eq ht he n (x + 1) (by omega) (by omega) (fun y y1 y2 => h3 y (by omega) y2)
theorem rs_sp {d : Nat → Bool} {f : Nat} : ∀ p, f ≤ p → d p = true → f ≤ rs d f p ∧ rs d f p ≤ p ∧ (rs d f p = f ∨ d (rs d f p - 1) = false) ∧ ∀ y, rs d f p ≤ y → y ≤ p → d y = true
  | 0, h1, h2 => ⟨by show f ≤ 0; omega, Nat.le_refl _, Or.inl (by show 0 = f; omega), fun y _ y2 => by rw [show y = 0 by omega]; exact h2⟩
  | p + 1, h1, h2 => by
    unfold rs
    by_cases z : f < p + 1 ∧ d p = true
    · rw [if_pos z]
      obtain ⟨a, b, c, e⟩ := rs_sp (f := f) p (by omega) z.2
      refine ⟨a, by omega, c, fun y y1 y2 => ?_⟩
      by_cases q : y = p + 1
      · rw [q]; exact h2
      · exact e y y1 (by omega)
    · rw [if_neg z]
      refine ⟨h1, Nat.le_refl _, ?_, fun y y1 y2 => by rw [show y = p + 1 by omega]; exact h2⟩
      by_cases q : f < p + 1
      · right
        show d p = false
        cases w : d p with
        | false => rfl
        | true => exact absurd ⟨q, w⟩ z
      · left; omega
theorem re_sp {d : Nat → Bool} {t : Nat} : ∀ n p, p + n = t → d p = true → p ≤ re d n p ∧ re d n p ≤ t ∧ (re d n p = t ∨ d (re d n p + 1) = false) ∧ ∀ y, p ≤ y → y ≤ re d n p → d y = true
  | 0, p, h1, h2 => ⟨Nat.le_refl _, by show p ≤ t; omega, Or.inl (by show p = t; omega), fun y y1 y2 => by rw [show y = p from Nat.le_antisymm y2 y1]; exact h2⟩
  | n + 1, p, h1, h2 => by
    unfold re
    by_cases z : d (p + 1) = true
    · rw [if_pos z]
      obtain ⟨a, b, c, e⟩ := re_sp (t := t) n (p + 1) (by omega) z
      refine ⟨by omega, b, c, fun y y1 y2 => ?_⟩
      by_cases q : y = p
      · rw [q]; exact h2
      · exact e y (by omega) y2
    · rw [if_neg z]
      refine ⟨Nat.le_refl _, by omega, Or.inr ?_, fun y y1 y2 => by rw [show y = p from Nat.le_antisymm y2 y1]; exact h2⟩
      cases w : d (p + 1) with
      | false => rfl
      | true => exact absurd w z
theorem mir_run {d : Nat → Bool} {f t s e : Nat} (hf : f ≤ s) (hs : s = f ∨ d (s - 1) = false) (ht : e ≤ t) (he : e = t ∨ d (e + 1) = false) (hd : ∀ y, s ≤ y → y ≤ e → d y = true) {x : Nat} (h1 : s ≤ x) (h2 : x ≤ e) : mir d f t x = s + e - x := by
  unfold mir
  rw [if_pos (hd x h1 h2), rs_eq hf hs x h1 (fun y y1 y2 => hd y y1 (by omega)), re_eq ht he (t - x) x (by omega) h2 (fun y y1 y2 => hd y (by omega) y2)]
theorem mir_b {d : Nat → Bool} {f t p : Nat} (h1 : f ≤ p) (h2 : p ≤ t) : f ≤ mir d f t p ∧ mir d f t p ≤ t ∧ mir d f t (mir d f t p) = p := by
  by_cases z : d p = true
  · obtain ⟨a1, a2, a3, a4⟩ := rs_sp (f := f) p h1 z
    obtain ⟨b1, b2, b3, b4⟩ := re_sp (t := t) (t - p) p (by omega) z
    have hd : ∀ y, rs d f p ≤ y → y ≤ re d (t - p) p → d y = true := fun y y1 y2 => by
      rcases Nat.le_total y p with q | q
      · exact a4 y y1 q
      · exact b4 y q y2
    have e1 := mir_run a1 a3 b2 b3 hd a2 b1
    have e2 := mir_run a1 a3 b2 b3 hd (x := rs d f p + re d (t - p) p - p) (by omega) (by omega)
    rw [e1, e2]
    omega
  · have e : mir d f t p = p := by unfold mir; rw [if_neg z]
    rw [e, e]
    exact ⟨h1, h2, rfl⟩
def DGx (d : Nat → Bool) (f t : Nat) (τ : St) : Prop := ∀ i, f ≤ i → i ≤ t → (0 ≤ τ.1 57 i ∧ τ.1 57 i < 60) ∧ (τ.1 47 (τ.1 57 i).toNat = 5 ↔ d i = true)
theorem t_mirrored {G : GT} {τ : St} {d : Nat → Bool} {f t p : Nat} (hD : DGx d f t τ) (h80 : t < 80) (hL : isL τ.2.2.1) (hf : τ.2.1 τ.2.2.1 4 = f) (ht : τ.2.1 τ.2.2.1 5 = t) (h1 : f ≤ p) (h2 : p ≤ t) : CJ G m_JS_mirrored [O 0, I p] τ (fun r υ => υ = τ ∧ r = (mir d f t p : Int)) := by
  obtain ⟨g1, g2⟩ := hD p h1 h2
  refine CJ.go (fun _ => k_JS_mirrored_0 ?_)
  rw [Int.toNat_natCast p]
  refine ⟨by omega, g1, fun z => ?_, fun z => ⟨⟨by omega, by omega⟩, rfl, ?_⟩⟩
  · have hdp := g2.mp z
    have upw : ∀ (n q : Nat), q + n = t → p ≤ q → re d n q = re d (t - p) p → a_JS_mirrored_41 G p (rs d f p) q τ (fun r υ => υ = τ ∧ r = (mir d f t p : Int)) := by
      have fin : ∀ q, q = re d (t - p) p → q ≤ t → p ≤ q → rng (((rs d f p : Nat) : Int) + (q : Int) - (p : Int)) ∧ τ = τ ∧ ((rs d f p : Nat) : Int) + (q : Int) - (p : Int) = (mir d f t p : Int) := fun q hq hqt hpq => by
        have := (rs_sp (f := f) p h1 hdp).2.1
        refine ⟨⟨by omega, by omega⟩, rfl, ?_⟩
        unfold mir
        rw [if_pos hdp, ← hq]
        omega
      intro n
      induction n with
      | zero =>
        intro q hq hpq hre
        refine k_JS_mirrored_41 ?_
        rw [ht]
        exact ⟨hL, ⟨by omega, by omega⟩, fun _ => fin q hre (by omega) hpq, fun w => absurd w (by omega)⟩
      | succ n ih =>
        intro q hq hpq hre
        obtain ⟨x1, x2⟩ := hD (q + 1) (by omega) (by omega)
        refine k_JS_mirrored_41 ?_
        rw [ht, show ((q : Int) + 1).toNat = q + 1 by omega]
        replace hre : (if d (q + 1) = true then re d n (q + 1) else q) = re d (t - p) p := hre
        refine ⟨hL, ⟨by omega, by omega⟩, fun w => absurd w (by omega), fun _ => ⟨by omega, x1, fun w => ?_, fun w => ?_⟩⟩
        · have : ¬ d (q + 1) = true := fun y => w (x2.mpr y)
          rw [if_neg this] at hre
          exact fin q hre (by omega) hpq
        · rw [if_pos (x2.mp w)] at hre
          exact ih (q + 1) (by omega) (by omega) hre
    have dnw : ∀ q : Nat, f ≤ q → q ≤ p → rs d f q = rs d f p → a_JS_mirrored_14 G p q p τ (fun r υ => υ = τ ∧ r = (mir d f t p : Int)) := by
      intro q
      induction q with
      | zero =>
        intro hq1 hq2 hre
        refine k_JS_mirrored_14 ?_
        rw [hf]
        have hre' : 0 = rs d f p := hre
        have u := upw (t - p) p (by omega) (Nat.le_refl _) rfl
        rw [← hre'] at u
        exact ⟨hL, ⟨by omega, by omega⟩, fun _ => u, fun w => absurd w (by omega)⟩
      | succ q ih =>
        intro hq1 hq2 hre
        have u := upw (t - p) p (by omega) (Nat.le_refl _) rfl
        replace hre : (if f < q + 1 ∧ d q = true then rs d f q else q + 1) = rs d f p := hre
        refine k_JS_mirrored_14 ?_
        rw [hf, show (((q + 1 : Nat) : Int) - 1).toNat = q by omega]
        refine ⟨hL, ⟨by omega, by omega⟩, fun w => ?_, fun w => ?_⟩
        · rw [if_neg (fun y => by have := y.1; omega)] at hre
          rw [← hre] at u
          exact u
        · obtain ⟨x1, x2⟩ := hD q (by omega) (by omega)
          refine ⟨by omega, x1, fun y => ?_, fun y => ?_⟩
          · rw [if_neg (fun v => y (x2.mpr v.2))] at hre
            rw [← hre] at u
            exact u
          · rw [if_pos ⟨by omega, x2.mp y⟩] at hre
            rw [show ((q + 1 : Nat) : Int) + (-1) = (q : Int) by omega]
            exact ih (by omega) (by omega) hre
    exact dnw p h1 (Nat.le_refl _) rfl
  · unfold mir
    rw [if_neg (fun q => z (g2.mpr q))]
/-- the table of the reference -/
def SNx (d : Nat → Bool) (f t : Nat) (τ : St) : Prop := ∀ n, n ≤ t - f → τ.1 152 n = (mir d f t (t - n) : Int)
theorem t_see {G : GT} {τ : St} {d : Nat → Bool} {f t : Nat} (hft : f ≤ t) (hD : ∀ i, f ≤ i → i ≤ t → (0 ≤ τ.1 106 i ∧ τ.1 106 i < 60) ∧ (τ.1 89 (τ.1 106 i).toNat = 5 ↔ d i = true)) (h80 : t < 80) (hf : τ.2.1 8 88 = f) (ht : τ.2.1 8 89 = t) : CJ G m_MO_see [O 8] τ (fun _ υ => SNx d f t υ ∧ υ.2 = τ.2 ∧ ∀ k, k ≠ 152 → υ.1 k = τ.1 k) := by
  refine CJ.go (fun _ => k_MO_see_0 ?_)
  rw [ht]
  obtain ⟨Q, hQ⟩ : ∃ Q : Int → St → Prop, Q = (fun _ υ => SNx d f t υ ∧ υ.2 = τ.2 ∧ ∀ k, k ≠ 152 → υ.1 k = τ.1 k) := ⟨_, rfl⟩
  rw [← hQ]
  -- e1 positions are left: those below e1
  have outer : ∀ (e1 : Nat) (υ : St), f ≤ e1 → e1 ≤ t + 1 → (e1 = t + 1 ∨ e1 = f ∨ ¬ (d (e1 - 1) = true ∧ d e1 = true)) → υ.2 = τ.2 → (∀ k, k ≠ 152 → υ.1 k = τ.1 k) → (∀ n, n + e1 ≤ t → υ.1 152 n = (mir d f t (t - n) : Int)) → a_MO_see_7 G ((t : Int) + 1 - e1) ((e1 : Int) - 1) υ Q := by
    intro e1
    induction e1 using Nat.strongRecOn with
    | _ e1 ih =>
      intro υ h1 h2 h3 h4 h5 h6
      have hf' : υ.2.1 8 88 = f := by rw [h4]; exact hf
      refine k_MO_see_7 ?_
      rw [hf']
      refine ⟨⟨by omega, by omega⟩, fun w => ?_, fun w => ?_⟩
      · rw [hQ]
        exact ⟨fun n hn => h6 n (by omega), h4, h5⟩
      · obtain ⟨e, rfl⟩ : ∃ e, e1 = e + 1 := ⟨e1 - 1, by omega⟩
        rw [show (((e + 1 : Nat) : Int) - 1) = (e : Int) by omega]
        have hD' : ∀ i, f ≤ i → i ≤ t → (0 ≤ υ.1 106 i ∧ υ.1 106 i < 60) ∧ (υ.1 89 (υ.1 106 i).toNat = 5 ↔ d i = true) := fun i i1 i2 => by
          rw [h5 106 (by omega), h5 89 (by omega)]; exact hD i i1 i2
        -- a run is written
        have write : ∀ s, f ≤ s → s ≤ e → (∀ x, s ≤ x → x ≤ e → mir d f t x = s + e - x) → (s = f ∨ ¬ (d (s - 1) = true ∧ d s = true)) → a_MO_see_44 G ((t : Int) + 1 - ((e + 1 : Nat) : Int)) e s s υ Q := by
          intro s s1 s2 s3 s4
          have lp : ∀ (c v : Nat) (υ' : St), v + c = e + 1 → s ≤ v → υ'.2 = τ.2 → (∀ k, k ≠ 152 → υ'.1 k = τ.1 k) → (∀ n, n + (e + 1) ≤ t → υ'.1 152 n = (mir d f t (t - n) : Int)) → (∀ j, j < v - s → υ'.1 152 (t - e + j) = ((s + j : Nat) : Int)) → a_MO_see_44 G ((t : Int) - e + ((v : Int) - s)) e s v υ' Q := by
            intro c
            induction c with
            | zero =>
              intro v υ' hv hsv g1 g2 g3 g4
              refine k_MO_see_44 ⟨⟨by omega, by omega⟩, ⟨by omega, by omega⟩, fun _ => ?_, fun q => absurd q (by omega)⟩
              have := ih s (by omega) υ' s1 (by omega) (Or.inr s4) g1 g2 (fun n hn => ?_)
              · rw [show (t : Int) - e + ((v : Int) - s) = (t : Int) + 1 - s by omega]
                exact this
              · by_cases q : n + (e + 1) ≤ t
                · exact g3 n q
                · have := g4 (n - (t - e)) (by omega)
                  rw [show t - e + (n - (t - e)) = n by omega] at this
                  rw [this, s3 (t - n) (by omega) (by omega)]
                  omega
            | succ c ihc =>
              intro v υ' hv hsv g1 g2 g3 g4
              refine k_MO_see_44 ⟨⟨by omega, by omega⟩, ⟨by omega, by omega⟩, fun q => absurd q (by omega), fun _ => ⟨⟨by omega, by omega⟩, fun s5 e5 => ?_⟩⟩
              rw [show ((t : Int) - e + ((v : Int) - s)).toNat = t - e + (v - s) by omega] at e5
              have := ihc (v + 1) s5 (by omega) (by omega) (by rw [e5]; exact g1) (fun k hk => by rw [e5, sa_ne hk]; exact g2 k hk) (fun n hn => by rw [e5, sa_nx (by omega)]; exact g3 n hn) (fun j hj => ?_)
              · rw [show (t : Int) - e + ((v : Int) - s) + 1 = (t : Int) - e + (((v + 1 : Nat) : Int) - s) by omega]
                exact this
              · by_cases q : j = v - s
                · rw [e5, q, sa_at]
                  omega
                · rw [e5, sa_nx (by omega)]
                  exact g4 j (by omega)
          have := lp (e + 1 - s) s υ (by omega) (Nat.le_refl _) h4 h5 h6 (fun j hj => absurd hj (by omega))
          rw [show (t : Int) - e + ((s : Int) - s) = (t : Int) + 1 - ((e + 1 : Nat) : Int) by omega] at this
          exact this
        -- the run is found
        have hend : e = t ∨ ¬ (d e = true ∧ d (e + 1) = true) := by
          rcases h3 with q | q | q
          · left; omega
          · omega
          · right; simpa using q
        have find : ∀ s, f ≤ s → s ≤ e → (s = e ∨ ∀ x, s ≤ x → x ≤ e → d x = true) → a_MO_see_17 G ((t : Int) + 1 - ((e + 1 : Nat) : Int)) e s υ Q := by
          intro s
          induction s with
          | zero =>
            intro s1 s2 s3
            obtain ⟨x1, x2⟩ := hD' e (by omega) (by omega)
            have w0 := write 0 s1 s2
            refine k_MO_see_17 ?_
            rw [hf', Int.toNat_natCast e]
            refine ⟨⟨by omega, by omega⟩, fun _ => ⟨by omega, x1⟩, fun y => ?_, fun y => ⟨⟨by omega, by omega⟩, fun v => absurd v (by omega), fun v => ?_, fun v => absurd v.1 (by omega)⟩⟩
            · have nd : ¬ d e = true := fun v => y ⟨by omega, x2.mpr v⟩
              have e0 : 0 = e := by
                rcases s3 with v | v
                · exact v
                · exact absurd (v e (by omega) (Nat.le_refl _)) nd
              refine w0 (fun x x1 x2 => ?_) (Or.inl (by omega))
              unfold mir
              rw [if_neg (by rw [show x = e by omega]; exact nd)]
              omega
            · have hde := x2.mp y.2
              have all : ∀ x, 0 ≤ x → x ≤ e → d x = true := fun x x1 x2 => by
                rcases s3 with v | v
                · rw [show x = e by omega]; exact hde
                · exact v x x1 x2
              refine w0 (fun x x1 x2 => mir_run s1 (Or.inl (by omega)) (by omega) ?_ all x1 x2) (Or.inl (by omega))
              rcases hend with v | v
              · exact Or.inl v
              · right
                cases q : d (e + 1) with
                | false => rfl
                | true => exact absurd ⟨hde, q⟩ v
          | succ s ihs =>
            intro s1 s2 s3
            obtain ⟨x1, x2⟩ := hD' e (by omega) (by omega)
            have w0 := write (s + 1) s1 s2
            refine k_MO_see_17 ?_
            rw [hf', Int.toNat_natCast e, show (((s + 1 : Nat) : Int) - 1) = (s : Int) by omega, Int.toNat_natCast s]
            refine ⟨⟨by omega, by omega⟩, fun _ => ⟨by omega, x1⟩, fun y => ?_, fun y => ?_⟩
            · have nd : ¬ d e = true := fun v => y ⟨by omega, x2.mpr v⟩
              have e0 : s + 1 = e := by
                rcases s3 with v | v
                · exact v
                · exact absurd (v e (by omega) (Nat.le_refl _)) nd
              refine w0 (fun x x1 x2 => ?_) (Or.inr (fun v => nd (by rw [← e0]; exact v.2)))
              unfold mir
              rw [if_neg (by rw [show x = e by omega]; exact nd)]
              omega
            · have hde := x2.mp y.2
              have all : ∀ x, s + 1 ≤ x → x ≤ e → d x = true := fun x x1 x2 => by
                rcases s3 with v | v
                · rw [show x = e by omega]; exact hde
                · exact v x x1 x2
              have hend' : e = t ∨ d (e + 1) = false := by
                rcases hend with v | v
                · exact Or.inl v
                · right
                  cases q : d (e + 1) with
                  | false => rfl
                  | true => exact absurd ⟨hde, q⟩ v
              refine ⟨⟨by omega, by omega⟩, fun v => ⟨by omega, (hD' s (by omega) (by omega)).1⟩, fun v => ?_, fun v => ?_⟩
              · have hst : s + 1 = f ∨ d s = false := by
                  by_cases q : f ≤ s
                  · right
                    cases q2 : d s with
                    | false => rfl
                    | true => exact absurd ⟨by omega, (hD' s q (by omega)).2.mpr q2⟩ v
                  · left; omega
                refine w0 (fun x x1 x2 => mir_run s1 hst (by omega) hend' all x1 x2) ?_
                rcases hst with q | q
                · exact Or.inl q
                · exact Or.inr (fun v => by have := v.1; simp only [Nat.add_sub_cancel] at this; rw [q] at this; exact absurd this (by decide))
              · have hds := (hD' s (by omega) (by omega)).2.mp v.2
                have := ihs (by omega) (by omega) (Or.inr (fun x x1 x2 => by
                  by_cases q : x = s
                  · rw [q]; exact hds
                  · exact all x (by omega) x2))
                rw [show ((s + 1 : Nat) : Int) + (-1) = (s : Int) by omega]
                exact this
        exact find e (by omega) (Nat.le_refl _) (Or.inl rfl)
  have := outer (t + 1) τ (by omega) (Nat.le_refl _) (Or.inl rfl) rfl (fun _ _ => rfl) (fun n hn => absurd hn (by omega))
  rw [show (t : Int) + 1 - ((t + 1 : Nat) : Int) = 0 by omega, show ((t + 1 : Nat) : Int) - 1 = (t : Int) by omega] at this
  exact this
