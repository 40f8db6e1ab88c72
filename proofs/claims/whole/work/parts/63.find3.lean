/-! findLeast -/
def Bnd (σ : St) (E : Nat) : Prop := E ≤ nU σ ∧ (E = nU σ ∨ us σ E = 6)
theorem bnd_bh {σ : St} (hS : IS σ) (hT : IT σ) {E : Nat} (h : Bnd σ E) : bh σ E ≤ E := by
  cases E with
  | zero => exact Nat.le_refl _
  | succ E =>
    obtain ⟨a, b⟩ := bb_spec (σ := σ) E
    have := bb_le (σ := σ) E
    have := lb_cross hS hT (u := bb σ E) (E := E + 1) (by omega) h.1 h.2
    omega
def ub (σ : St) (p : Nat) : Nat := pos (bq σ) (nU σ) p
theorem ub_ex {σ : St} {p E : Nat} (hE : E ≤ nU σ) (h : p < bc σ E) : ub σ p < E ∧ bh σ (ub σ p) ≤ ub σ p ∧ bc σ (ub σ p) = p := by
  have hp : p < cnt (bq σ) (nU σ) := Nat.lt_of_lt_of_le h (bc_mono hE)
  obtain ⟨a, b, c⟩ := pos_ex (q := bq σ) (n := nU σ) hp
  have c' : bc σ (ub σ p) = p := c
  have b' : bq σ (ub σ p) = true := b
  refine ⟨?_, by unfold bq at b'; simpa using b', c'⟩
  rcases Nat.lt_or_ge (ub σ p) E with q | q
  · exact q
  · have := bc_mono (σ := σ) q
    omega
def LT (σ : St) (E F : Nat) (τ : St) : Prop := ∀ u, F ≤ u → u ≤ E → bh σ u ≤ u → RowIs τ (bc σ u) (LL σ E u)
theorem t_findLeast {G : GT} {σ : St} (hS : IS σ) (hT : IT σ) (hC : CTx σ σ) {F E : Nat} (hFE : F ≤ E) (hE : Bnd σ E) (hF : bh σ F ≤ F) : CJ G m_MO_findLeast [O 8, I (bc σ F), I (bc σ E)] σ (fun _ τ => FLs σ τ ∧ LT σ E F τ) := by
  have n := hS.1
  unfold NumOk at n
  have n8 := nU_le hT
  have hL : nL σ ≤ 60 := by unfold nL; omega
  have hLe : ((nL σ : Nat) : Int) = σ.2.1 8 6 := by unfold nL; omega
  have mE := bc_le (σ := σ) (u := E)
  have mF := bc_mono (σ := σ) hFE
  have hBS := hC.2.2.2.2.2.1
  have E8 := hE.1
  refine CJ.go (fun _ => k_MO_findLeast_0 ?_)
  -- the pieces, from the last on
  have main : ∀ (d p : Nat) (υ : St), bc σ F + d = p → p ≤ bc σ E → FLs σ υ → (∀ u, F ≤ u → u ≤ E → bh σ u ≤ u → p ≤ bc σ u → RowIs υ (bc σ u) (LL σ E u)) → a_MO_findLeast_57 G (bc σ F) (bc σ E) ((p : Int) - 1) υ (fun _ τ => FLs σ τ ∧ LT σ E F τ) := by
    intro d
    induction d with
    | zero =>
      intro p υ hp hpE g1 g2
      refine k_MO_findLeast_57 ⟨⟨by omega, by omega⟩, ⟨by omega, by omega⟩, fun _ => ⟨g1, fun u h1 h2 h3 => g2 u h1 h2 h3 ?_⟩, fun z => absurd z (by omega)⟩
      have := bc_mono (σ := σ) h1
      omega
    | succ d ih =>
      intro p0 υ hp hpE g1 g2
      obtain ⟨p, hp'⟩ : ∃ p, p0 = p + 1 := ⟨p0 - 1, by omega⟩
      subst hp'
      obtain ⟨u1, u2, u3⟩ := ub_ex (σ := σ) (p := p) (E := E) E8 (by omega)
      obtain ⟨u, hu⟩ : ∃ u, ub σ p = u := ⟨_, rfl⟩
      rw [hu] at u1 u2 u3
      have hFu : F ≤ u := by
        rcases Nat.lt_or_ge u F with q | q
        · have := bc_lt u2 q; omega
        · exact q
      have hun : u < nU σ := by omega
      rw [show (((p + 1 : Nat) : Int) - 1) = (p : Int) by omega]
      refine k_MO_findLeast_57 ⟨⟨by omega, by omega⟩, ⟨by omega, by omega⟩, fun z => absurd z (by omega), fun _ => ?_⟩
      -- what lies behind is known
      have rowq : ∀ (ρ : St), (∀ j, j < 1204 * p ∨ 1204 * p + 1204 ≤ j → ρ.1 124 j = υ.1 124 j) → ∀ l, l ∈ kl σ u → RowIs ρ (bc σ (u + ln3 σ l.toNat)) (LL σ E (u + ln3 σ l.toNat)) := fun ρ hρ l hl => by
        obtain ⟨k1, k2, -⟩ := kl_bc hS hT hBS hun hl
        obtain ⟨-, -, -, -, cr⟩ := kl_mem hS hT hun hl
        have := cr E u1 E8 hE.2
        intro w st hw h4
        rw [hρ _ (by unfold ix; omega)]
        exact g2 _ (by omega) this k2 (by omega) w st hw h4
      have bT : ∀ l, l ∈ kl σ u → ∀ w st, 0 ≤ LL σ E (u + ln3 σ l.toNat) w st ∧ LL σ E (u + ln3 σ l.toNat) w st ≤ NV := fun l hl w st => by
        obtain ⟨-, -, -, -, cr⟩ := kl_mem hS hT hun hl
        have := cr E u1 E8 hE.2
        exact LL_b hS hT E8 (E - (u + ln3 σ l.toNat)) _ (by omega) w st
      have hkl : kl σ u = lb σ u :: opl σ u (nL σ) := by unfold kl; rw [if_pos u2]
      have hlb : lb σ u ∈ kl σ u := by rw [hkl]; exact List.mem_cons_self ..
      -- the ligatures that may be
      have ligs : ∀ (e l : Nat) (ρ : St) (Rl : Nat → Nat → Int), l + e = nL σ → FLs σ ρ → (∀ j, j < 1204 * p ∨ 1204 * p + 1204 ≤ j → ρ.1 124 j = υ.1 124 j) → RowIs ρ p Rl → (∀ w st, (((List.range' l e).filter (opb σ u)).flatMap (fun (g : Nat) => optF σ u (g : Int))).foldl (stp σ u (LL σ E) w st) (Rl w st) = LL σ E u w st) → a_MO_findLeast_127 G (bc σ F) (bc σ E) p l ρ (fun _ τ => FLs σ τ ∧ LT σ E F τ) := by
        intro e
        induction e with
        | zero =>
          intro l ρ Rl hl r1 r2 r3 r4
          refine k_MO_findLeast_127 ?_
          rw [r1.1]
          refine ⟨⟨by omega, by omega⟩, fun _ => ?_, fun z => absurd z (by omega)⟩
          rw [show ((p : Int) + (-1)) = (p : Int) - 1 by omega]
          refine ih p ρ (by omega) (by omega) r1 (fun v h1 h2 h3 h4 => ?_)
          by_cases q : bc σ v = p
          · have ev : v = u := cnt_inj (bq_t h3) (bq_t u2) (by show bc σ v = bc σ u; omega)
            subst ev
            rw [q]
            intro w st hw h4
            rw [r3 w st hw h4]
            have := r4 w st
            simpa using this
          · intro w st hw h4'
            rw [r2 _ (by unfold ix; omega)]
            exact g2 v h1 h2 h3 (by omega) w st hw h4'
        | succ e ihe =>
          intro l ρ Rl hl r1 r2 r3 r4
          have next : opb σ u l = false → a_MO_findLeast_127 G (bc σ F) (bc σ E) p ((l : Int) + 1) ρ (fun _ τ => FLs σ τ ∧ LT σ E F τ) := fun hno => by
            refine ihe (l + 1) ρ Rl (by omega) r1 r2 r3 (fun w st => ?_)
            have := r4 w st
            rw [List.range'_succ, List.filter_cons, if_neg (by rw [hno]; decide)] at this
            exact this
          refine k_MO_findLeast_127 ?_
          rw [r1.1, Int.toNat_natCast, r1.2 89 (by decide)]
          refine ⟨⟨by omega, by omega⟩, fun z => absurd z (by omega), fun _ => ⟨by omega, fun z => next ?_, fun z => ?_⟩⟩
          · unfold opb
            simp [z]
          · have := t_mayBe (G := G) (τ := ρ) hS hT hBS (fun k hk => r1.2 k (by omega)) u1 E8 hE.2 u2 (show l < nL σ by omega) z
            rw [u3] at this
            refine CJ.mono this (fun r v _ hv => ?_)
            obtain ⟨hv, hr⟩ := hv
            rw [hv, hr, r1.2 92 (by decide)]
            by_cases co : opb σ u l = true
            · rw [if_pos co]
              refine ⟨fun w => absurd w (by decide), fun _ => ⟨by split <;> exact ⟨by decide, by decide⟩, ?_⟩⟩
              have hmem : (l : Int) ∈ kl σ u := by
                rw [hkl]
                refine List.mem_cons_of_mem _ (List.mem_map.mpr ⟨l, List.mem_filter.mpr ⟨List.mem_range.mpr (by omega), co⟩, rfl⟩)
              obtain ⟨-, -, -, -, k5⟩ := kl_bc hS hT hBS hun hmem
              have hc : (if 0 ≤ σ.1 92 l then (3 : Int) else 2) = (ln3 σ l : Int) := by
                unfold ln3
                rw [if_pos z]
                by_cases zz : σ.1 92 l < 0
                · rw [if_neg (by omega), if_pos zz]; rfl
                · rw [if_pos (by omega), if_neg zz]; rfl
              have hq : (p : Int) + (ln3 σ l : Int) = (bc σ (u + ln3 σ ((l : Int)).toNat) : Int) := by
                have := k5 l rfl co
                omega
              rw [hc, hq]
              have wp := t_withPiece (G := G) (T := LL σ E) (R := Rl) hS hT hC r1 hun hmem (rowq ρ r2 l hmem) (by rw [u3]; exact r3) (bT l hmem)
              rw [u3] at wp
              refine CJ.mono wp (fun _ ρ' _ hρ' => ?_)
              obtain ⟨v1, v2, v3⟩ := hρ'
              refine ihe (l + 1) ρ' _ (by omega) v1 (fun j hj => by rw [v2 j hj]; exact r2 j hj) v3 (fun w st => ?_)
              have := r4 w st
              rw [List.range'_succ, List.filter_cons, if_pos co, List.flatMap_cons, List.foldl_append] at this
              exact this
            · rw [if_neg co]
              exact ⟨fun _ => next (by simpa using co), fun w => absurd rfl w⟩
      -- the row is cleared
      have clr : ∀ (e w : Nat) (ρ : St), w + e = 301 → FLs σ ρ → (∀ j, j < 1204 * p ∨ 1204 * p + 1204 ≤ j → ρ.1 124 j = υ.1 124 j) → (∀ w' st, w' < w → st < 4 → ρ.1 124 (ix p w' st) = NV) → a_MO_findLeast_65 G (bc σ F) (bc σ E) p w ρ (fun _ τ => FLs σ τ ∧ LT σ E F τ) := by
        intro e
        induction e with
        | zero =>
          intro w ρ hw r1 r2 r3
          refine k_MO_findLeast_65 ⟨⟨by omega, by omega⟩, fun _ => ⟨by omega, ?_⟩, fun z => absurd z (by omega)⟩
          have hx : ρ.1 118 p = lb σ u := by
            rw [r1.2 118 (by decide), ← u3]
            exact (hBS u hun u2).2.1
          obtain ⟨-, -, -, k4, -⟩ := kl_bc hS hT hBS hun hlb
          have hq : (p : Int) + 1 = (bc σ (u + ln3 σ (lb σ u).toNat) : Int) := by
            have := k4 rfl
            omega
          rw [Int.toNat_natCast, hx, hq]
          have wp := t_withPiece (G := G) (T := LL σ E) (R := fun _ _ => NV) hS hT hC r1 hun hlb (rowq ρ r2 _ hlb) (by rw [u3]; exact fun w st h1 h2 => r3 w st (by omega) h2) (bT _ hlb)
          rw [u3] at wp
          refine CJ.mono wp (fun _ ρ' _ hρ' => ?_)
          obtain ⟨v1, v2, v3⟩ := hρ'
          refine ligs (nL σ) 0 ρ' _ (by omega) v1 (fun j hj => by rw [v2 j hj]; exact r2 j hj) v3 (fun w st => ?_)
          rw [LL_step u1]
          unfold opt
          rw [hkl, List.flatMap_cons, List.foldl_append]
          congr 1
          unfold opl
          rw [List.range_eq_range', List.flatMap_map]
        | succ e ihe =>
          intro w ρ hw r1 r2 r3
          refine k_MO_findLeast_65 ⟨⟨by omega, by omega⟩, fun z => absurd z (by omega), fun _ => ?_⟩
          have clr2 : ∀ (i st : Nat) (ρ : St), st + i = 4 → FLs σ ρ → (∀ j, j < 1204 * p ∨ 1204 * p + 1204 ≤ j → ρ.1 124 j = υ.1 124 j) → (∀ w' st', (w' < w ∨ (w' = w ∧ st' < st)) → st' < 4 → ρ.1 124 (ix p w' st') = NV) → a_MO_findLeast_76 G (bc σ F) (bc σ E) p w st ρ (fun _ τ => FLs σ τ ∧ LT σ E F τ) := by
            intro i
            induction i with
            | zero =>
              intro st ρ hst r1 r2 r3
              exact k_MO_findLeast_76 ⟨⟨by omega, by omega⟩, fun _ => ihe (w + 1) ρ (by omega) r1 r2 (fun w' st' h1 h2 => r3 w' st' (by omega) h2), fun z => absurd z (by omega)⟩
            | succ i ihi =>
              intro st ρ hst r1 r2 r3
              refine k_MO_findLeast_76 ⟨⟨by omega, by omega⟩, fun z => absurd z (by omega), fun _ => ⟨⟨by omega, by omega⟩, by omega, fun s39 e39 => ?_⟩⟩
              rw [ix_e] at e39
              refine ihi (st + 1) s39 (by omega) ⟨by rw [e39]; exact r1.1, fun k hk => by rw [e39, sa_ne hk]; exact r1.2 k hk⟩ (fun j hj => by rw [e39, sa_nx (by unfold ix; omega)]; exact r2 j hj) (fun w' st' h1 h2 => ?_)
              rw [e39, sa_1]
              by_cases q : ix p w' st' = ix p w st
              · rw [if_pos ⟨rfl, q⟩]; rfl
              · rw [if_neg (fun z => q z.2)]
                refine r3 w' st' ?_ h2
                rcases h1 with y | y
                · exact Or.inl y
                · right
                  refine ⟨y.1, ?_⟩
                  rcases Nat.lt_or_ge st' st with z | z
                  · exact z
                  · exfalso
                    apply q
                    rw [y.1, show st' = st by omega]
          exact clr2 4 0 ρ (by omega) r1 r2 (fun w' st' h1 h2 => r3 w' st' (by omega) h2)
      exact clr 301 0 υ (by omega) g1 (fun _ _ => rfl) (fun w' st h1 => absurd h1 (by omega))
  -- behind all
  have first : ∀ (e w : Nat) (ρ : St), w + e = 301 → FLs σ ρ → (∀ w' st, w' < w → st < 4 → ρ.1 124 (ix (bc σ E) w' st) = if w' = 0 then 0 else NV) → a_MO_findLeast_2 G (bc σ F) (bc σ E) w ρ (fun _ τ => FLs σ τ ∧ LT σ E F τ) := by
    intro e
    induction e with
    | zero =>
      intro w ρ hw r1 r3
      refine k_MO_findLeast_2 ⟨⟨by omega, by omega⟩, fun _ => ?_, fun z => absurd z (by omega)⟩
      refine main (bc σ E - bc σ F) (bc σ E) ρ (by omega) (Nat.le_refl _) r1 (fun v h1 h2 h3 h4 => ?_)
      have ev : v = E := by
        rcases Nat.lt_or_ge v E with q | q
        · have := bc_lt h3 q; omega
        · omega
      subst ev
      intro w st hw h4
      rw [LL_end]
      exact r3 w st (by omega) h4
    | succ e ihe =>
      intro w ρ hw r1 r3
      refine k_MO_findLeast_2 ⟨⟨by omega, by omega⟩, fun z => absurd z (by omega), fun _ => ?_⟩
      have fst2 : ∀ (i st : Nat) (ρ : St), st + i = 4 → FLs σ ρ → (∀ w' st', (w' < w ∨ (w' = w ∧ st' < st)) → st' < 4 → ρ.1 124 (ix (bc σ E) w' st') = if w' = 0 then 0 else NV) → a_MO_findLeast_12 G (bc σ F) (bc σ E) w st ρ (fun _ τ => FLs σ τ ∧ LT σ E F τ) := by
        intro i
        induction i with
        | zero =>
          intro st ρ hst r1 r3
          exact k_MO_findLeast_12 ⟨⟨by omega, by omega⟩, fun _ => ihe (w + 1) ρ (by omega) r1 (fun w' st' h1 h2 => r3 w' st' (by omega) h2), fun z => absurd z (by omega)⟩
        | succ i ihi =>
          intro st ρ hst r1 r3
          refine k_MO_findLeast_12 ⟨⟨by omega, by omega⟩, fun z => absurd z (by omega), fun _ => ⟨⟨by omega, by omega⟩, ⟨by omega, by omega⟩, by omega, by split <;> exact ⟨by decide, by decide⟩, fun s13 e13 => ?_⟩⟩
          rw [ix_e] at e13
          refine ihi (st + 1) s13 (by omega) ⟨by rw [e13]; exact r1.1, fun k hk => by rw [e13, sa_ne hk]; exact r1.2 k hk⟩ (fun w' st' h1 h2 => ?_)
          rw [e13, sa_1]
          by_cases q : ix (bc σ E) w' st' = ix (bc σ E) w st
          · rw [if_pos ⟨rfl, q⟩]
            have ew : w' = w := by unfold ix at q; omega
            rw [ew]
            by_cases z : w = 0
            · rw [if_neg (by omega), if_pos z]
            · rw [if_pos (by omega), if_neg z]; rfl
          · rw [if_neg (fun z => q z.2)]
            refine r3 w' st' ?_ h2
            rcases h1 with y | y
            · exact Or.inl y
            · right
              refine ⟨y.1, ?_⟩
              rcases Nat.lt_or_ge st' st with z | z
              · exact z
              · exfalso
                apply q
                rw [y.1, show st' = st by omega]
      exact fst2 4 0 ρ (by omega) r1 (fun w' st' h1 h2 => r3 w' st' (by omega) h2)
  exact first 301 0 σ (by omega) ⟨rfl, fun _ _ => rfl⟩ (fun w' st h1 => absurd h1 (by omega))
