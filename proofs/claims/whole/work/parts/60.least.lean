/-! the least price: what both sides fill -/
def NV : Int := 536870912
def plc (σ : St) (u : Nat) (l : Int) : Int := if jp σ u = true then (if jn σ (u + ln3 σ l.toNat - 1) = true then 2 else 3) else (if jn σ (u + ln3 σ l.toNat - 1) = true then 1 else 0)
def slt (σ : St) (u : Nat) (l : Int) : Nat := (4 * l + plc σ u l).toNat
def frm (σ : St) (a : Nat) : List Nat := (List.range (σ.1 105 a).toNat).map (fun k => (σ.1 104 (3 * a + k)).toNat)
def cst (σ : St) (f s : Nat) : Int := σ.1 100 f + σ.1 103 f * s * s
def wd (σ : St) (f s : Nat) : Nat := (σ.1 97 f).toNat + s
def sbA (σ : St) (u : Nat) (st : Nat) (l : Int) (s : Nat) : Int := if us σ u = 6 then 0 else if 0 < s ∧ 0 < st then -1 else (if 0 < s ∨ 1 < st then 2 else 0) + (if σ.1 94 l.toNat ≠ 0 then 1 else 0)
def optS (σ : St) (l : Int) (f : Nat) : List (Int × Nat × Nat) := (List.range ((σ.1 102 f).toNat + 1)).map (fun s => (l, f, s))
def optF (σ : St) (u : Nat) (l : Int) : List (Int × Nat × Nat) := (frm σ (slt σ u l)).flatMap (optS σ l)
def opt (σ : St) (u : Nat) : List (Int × Nat × Nat) := (kl σ u).flatMap (optF σ u)
def stp (σ : St) (u : Nat) (T : Nat → Nat → Nat → Int) (w st : Nat) (acc : Int) (o : Int × Nat × Nat) : Int := if 0 ≤ sbA σ u st o.1 o.2.2 ∧ wd σ o.2.1 o.2.2 ≤ w then min acc (T (u + ln3 σ o.1.toNat) (w - wd σ o.2.1 o.2.2) (sbA σ u st o.1 o.2.2).toNat + cst σ o.2.1 o.2.2) else acc
def LA (σ : St) (E : Nat) : Nat → Nat → Nat → Nat → Int
  | 0, _, w, _ => if w = 0 then 0 else NV
  | n + 1, u, w, st => if E ≤ u then (if w = 0 then 0 else NV) else (opt σ u).foldl (stp σ u (LA σ E n) w st) NV
def LL (σ : St) (E u w st : Nat) : Int := LA σ E (E - u) u w st
theorem stp_congr {σ : St} {u w st : Nat} {T T' : Nat → Nat → Nat → Int} {l : List (Int × Nat × Nat)} (h : ∀ o ∈ l, ∀ w st, T (u + ln3 σ o.1.toNat) w st = T' (u + ln3 σ o.1.toNat) w st) : ∀ acc, l.foldl (stp σ u T w st) acc = l.foldl (stp σ u T' w st) acc := by
  induction l with
  | nil => intro acc; rfl
  | cons o l ih =>
    intro acc
    rw [List.foldl_cons, List.foldl_cons]
    have e : stp σ u T w st acc o = stp σ u T' w st acc o := by
      unfold stp
      rw [h o (List.mem_cons_self ..)]
    rw [e]
    exact ih (fun o ho => h o (List.mem_cons_of_mem _ ho)) _
theorem LA_fuel {σ : St} {E : Nat} : ∀ n m u, E - u ≤ n → E - u ≤ m → ∀ w st, LA σ E n u w st = LA σ E m u w st := by
  intro n
  induction n with
  | zero =>
    intro m u h1 h2 w st
    cases m with
    | zero => rfl
    | succ m =>
      show _ = (if E ≤ u then _ else _)
      rw [if_pos (by omega)]
      rfl
  | succ n ih =>
    intro m u h1 h2 w st
    cases m with
    | zero =>
      show (if E ≤ u then _ else _) = _
      rw [if_pos (by omega)]
      rfl
    | succ m =>
      show (if E ≤ u then _ else _) = (if E ≤ u then _ else _)
      by_cases q : E ≤ u
      · rw [if_pos q, if_pos q]
      · rw [if_neg q, if_neg q]
        refine stp_congr (fun o _ w st => ?_) _
        have := (ln3_pos (σ := σ) (g := o.1.toNat)).1
        exact ih m (u + ln3 σ o.1.toNat) (by omega) (by omega) w st
theorem LL_end {σ : St} {E w st : Nat} : LL σ E E w st = if w = 0 then 0 else NV := by
  unfold LL
  rw [Nat.sub_self]
  rfl
theorem LL_step {σ : St} {E u w st : Nat} (h : u < E) : LL σ E u w st = (opt σ u).foldl (stp σ u (LL σ E) w st) NV := by
  unfold LL
  obtain ⟨n, hn⟩ : ∃ n, E - u = n + 1 := ⟨E - u - 1, by omega⟩
  rw [hn]
  show (if E ≤ u then _ else _) = _
  rw [if_neg (by omega)]
  refine stp_congr (fun o _ w st => ?_) _
  have := (ln3_pos (σ := σ) (g := o.1.toNat)).1
  exact LA_fuel n _ _ (by omega) (Nat.le_refl _) w st
/-! forms: what the bond says of them -/
def FOk (σ : St) (f : Nat) : Prop := (f : Int) < σ.2.1 8 17
theorem form_b {σ : St} (hS : IS σ) {f : Nat} (hf : FOk σ f) : f < 200 ∧ (1 ≤ σ.1 97 f ∧ σ.1 97 f ≤ 100) ∧ (0 ≤ σ.1 98 f ∧ σ.1 98 f ≤ 100) ∧ (0 ≤ σ.1 99 f ∧ σ.1 99 f ≤ 100) ∧ (0 ≤ σ.1 100 f ∧ σ.1 100 f ≤ 1000) ∧ (0 ≤ σ.1 101 f ∧ σ.1 101 f ≤ 100) ∧ (0 ≤ σ.1 102 f ∧ σ.1 102 f ≤ 12) ∧ (0 ≤ σ.1 103 f ∧ σ.1 103 f ≤ 50) := by
  have n := hS.1
  unfold NumOk at n
  unfold FOk at hf
  obtain ⟨-, -, -, -, -, -, -, -, -, -, -, a, b, c, d, e, g, h⟩ := hS.2.2.2.2.2.2.2.1 f hf
  exact ⟨by omega, a, b, c, d, e, g, h⟩
theorem form_J {σ : St} (hS : IS σ) {f : Nat} (hf : FOk σ f) : σ.1 (176 + f) 2 = σ.1 97 f ∧ σ.1 (176 + f) 3 = σ.1 98 f ∧ σ.1 (176 + f) 4 = σ.1 99 f ∧ σ.1 (176 + f) 5 = σ.1 100 f ∧ σ.1 (176 + f) 6 = σ.1 101 f ∧ σ.1 (176 + f) 7 = σ.1 102 f ∧ σ.1 (176 + f) 8 = σ.1 103 f := by
  obtain ⟨-, -, a, b, c, d, e, g, h, -⟩ := hS.2.2.2.2.2.2.2.1 f hf
  exact ⟨a, b, c, d, e, g, h⟩
theorem cst_b {σ : St} (hS : IS σ) {f s : Nat} (hf : FOk σ f) (hs : (s : Int) ≤ σ.1 102 f) : 0 ≤ cst σ f s ∧ cst σ f s ≤ 8200 := by
  obtain ⟨-, -, -, -, a, -, b, c⟩ := form_b hS hf
  unfold cst
  have s12 : (s : Int) ≤ 12 := by omega
  have h0 : (0 : Int) ≤ s := by omega
  have h1 : 0 ≤ σ.1 103 f * s := Int.mul_nonneg c.1 h0
  have h2 : σ.1 103 f * s ≤ 50 * 12 := Int.mul_le_mul c.2 s12 h0 (by decide)
  have h3 : 0 ≤ σ.1 103 f * s * s := Int.mul_nonneg h1 h0
  have h4 : σ.1 103 f * s * s ≤ 50 * 12 * 12 := Int.mul_le_mul h2 s12 h0 (by decide)
  omega
theorem plc_b {σ : St} {u : Nat} {l : Int} : 0 ≤ plc σ u l ∧ plc σ u l ≤ 3 := by
  unfold plc
  split <;> split <;> omega
theorem frm_mem {σ : St} (hS : IS σ) {a f : Nat} (ha : (a : Int) < 4 * σ.2.1 8 6) (h : f ∈ frm σ a) : FOk σ f ∧ 4 * σ.1 95 f + σ.1 96 f = a := by
  unfold frm at h
  obtain ⟨k, k1, k2⟩ := List.mem_map.mp h
  have k3 := List.mem_range.mp k1
  obtain ⟨s1, s2, s3⟩ := hS.2.2.2.2.2.2.2.2.2.1 a ha
  obtain ⟨-, g, g1, g2, g3⟩ := s3 k (by omega)
  rw [g1, Int.toNat_natCast] at k2
  subst k2
  exact ⟨g2, g3⟩
theorem form_of {σ : St} (hS : IS σ) {f : Nat} {l p : Int} (hf : FOk σ f) (h : 4 * σ.1 95 f + σ.1 96 f = 4 * l + p) (hp : 0 ≤ p ∧ p ≤ 3) : σ.1 95 f = l ∧ σ.1 96 f = p := by
  obtain ⟨-, -, -, -, -, -, -, -, -, -, a, -⟩ := hS.2.2.2.2.2.2.2.1 f hf
  omega
/-- a piece that may stand at a unit -/
theorem kl_mem {σ : St} (hS : IS σ) (hT : IT σ) {u : Nat} (hu : u < nU σ) {l : Int} (h : l ∈ kl σ u) : bh σ u ≤ u ∧ (0 ≤ l ∧ l < σ.2.1 8 6) ∧ u + ln3 σ l.toNat ≤ nU σ ∧ (l = lb σ u ∨ ∃ g : Nat, l = g ∧ g < nL σ ∧ opb σ u g = true) ∧ (∀ E, u < E → E ≤ nU σ → (E = nU σ ∨ us σ E = 6) → u + ln3 σ l.toNat ≤ E) := by
  unfold kl at h
  by_cases hb : bh σ u ≤ u
  · rw [if_pos hb] at h
    obtain ⟨a, b, c⟩ := lb_spec hS hT hu
    rcases List.mem_cons.mp h with rfl | h2
    · exact ⟨hb, a, b, Or.inl rfl, fun E h1 h2 h3 => lb_cross hS hT h1 h2 h3⟩
    · unfold opl at h2
      obtain ⟨g, g1, g2⟩ := List.mem_map.mp h2
      obtain ⟨g3, g4⟩ := List.mem_filter.mp g1
      have g5 := List.mem_range.mp g3
      subst g2
      have g6 := g4
      unfold opb at g6
      simp only [Bool.and_eq_true, decide_eq_true_iff] at g6
      refine ⟨hb, by unfold nL at g5; omega, ?_, Or.inr ⟨g, rfl, g5, g4⟩, fun E h1 h2 h3 => ?_⟩
      · rw [Int.toNat_natCast]; exact ((mtb_iff g6.1.1).mp g6.2.1).1
      · rw [Int.toNat_natCast]; exact mtb_cross hS g5 g6.1.1 g6.2.1 h1 h2 h3
  · rw [if_neg hb] at h
    exact absurd h (by simp)
theorem opt_mem {σ : St} (hS : IS σ) (hT : IT σ) {u : Nat} (hu : u < nU σ) {o : Int × Nat × Nat} (h : o ∈ opt σ u) : o.1 ∈ kl σ u ∧ FOk σ o.2.1 ∧ (o.2.2 : Int) ≤ σ.1 102 o.2.1 ∧ σ.1 95 o.2.1 = o.1 ∧ σ.1 96 o.2.1 = plc σ u o.1 := by
  unfold opt at h
  obtain ⟨l, l1, l2⟩ := List.mem_flatMap.mp h
  unfold optF at l2
  obtain ⟨f, f1, f2⟩ := List.mem_flatMap.mp l2
  unfold optS at f2
  obtain ⟨s, s1, s2⟩ := List.mem_map.mp f2
  have s3 := List.mem_range.mp s1
  subst s2
  obtain ⟨-, kl2, -⟩ := kl_mem hS hT hu l1
  have pb := plc_b (σ := σ) (u := u) (l := l)
  unfold slt at f1
  obtain ⟨m1, m2⟩ := frm_mem hS (by omega) f1
  obtain ⟨o1, o2⟩ := form_of hS (l := l) (p := plc σ u l) m1 (by omega) pb
  have := (form_b hS m1).2.2.2.2.2.2.1
  exact ⟨l1, m1, by show (s : Int) ≤ σ.1 102 f; omega, o1, o2⟩
/-- prices lie between 0 and what is never -/
theorem fold_b {σ : St} {u w st : Nat} {T : Nat → Nat → Nat → Int} {l : List (Int × Nat × Nat)} (h : ∀ o ∈ l, (∀ w st, 0 ≤ T (u + ln3 σ o.1.toNat) w st) ∧ 0 ≤ cst σ o.2.1 o.2.2) : ∀ acc, 0 ≤ acc → 0 ≤ l.foldl (stp σ u T w st) acc ∧ l.foldl (stp σ u T w st) acc ≤ acc := by
  induction l with
  | nil => intro acc ha; exact ⟨ha, Int.le_refl _⟩
  | cons o l ih =>
    intro acc ha
    rw [List.foldl_cons]
    obtain ⟨h1, h2⟩ := h o (List.mem_cons_self ..)
    have e : 0 ≤ stp σ u T w st acc o ∧ stp σ u T w st acc o ≤ acc := by
      unfold stp
      split
      · have := h1 (w - wd σ o.2.1 o.2.2) (sbA σ u st o.1 o.2.2).toNat
        omega
      · exact ⟨ha, Int.le_refl _⟩
    obtain ⟨a, b⟩ := ih (fun o ho => h o (List.mem_cons_of_mem _ ho)) _ e.1
    exact ⟨a, Int.le_trans b e.2⟩
theorem LL_b {σ : St} (hS : IS σ) (hT : IT σ) {E : Nat} (hE : E ≤ nU σ) : ∀ d u, u + d = E → ∀ w st, 0 ≤ LL σ E u w st ∧ LL σ E u w st ≤ NV := by
  intro d
  induction d using Nat.strongRecOn with
  | _ d ih =>
    intro u hu w st
    rcases Nat.eq_zero_or_pos d with z | z
    · have : u = E := by omega
      rw [this, LL_end]
      unfold NV
      split <;> omega
    · rw [LL_step (by omega)]
      refine fold_b (fun o ho => ?_) NV (by decide)
      obtain ⟨m1, m2, m3, -⟩ := opt_mem hS hT (show u < nU σ by omega) ho
      refine ⟨fun w st => ?_, (cst_b hS m2 m3).1⟩
      have lp := (ln3_pos (σ := σ) (g := o.1.toNat)).1
      by_cases q : u + ln3 σ o.1.toNat ≤ E
      · exact (ih (E - (u + ln3 σ o.1.toNat)) (by omega) _ (by omega) w st).1
      · unfold LL
        rw [show E - (u + ln3 σ o.1.toNat) = 0 by omega]
        show 0 ≤ (if w = 0 then 0 else NV)
        unfold NV
        split <;> omega
/-- at a blank, and behind all, the state doesn't count; of one that has stretched it doesn't count whether a bar is there -/
theorem LL_blank {σ : St} {E u w st st' : Nat} (h : us σ u = 6) (hu : u < E) : LL σ E u w st = LL σ E u w st' := by
  rw [LL_step hu, LL_step hu]
  have : stp σ u (LL σ E) w st = stp σ u (LL σ E) w st' := by
    funext acc o
    unfold stp
    have e : ∀ s, sbA σ u s o.1 o.2.2 = 0 := fun s => by unfold sbA; rw [if_pos h]
    rw [e, e]
  rw [this]
theorem LL_23 {σ : St} {E u w : Nat} : LL σ E u w 3 = LL σ E u w 2 := by
  rcases Nat.lt_or_ge u E with hu | hu
  · rw [LL_step hu, LL_step hu]
    have : stp σ u (LL σ E) w 3 = stp σ u (LL σ E) w 2 := by
      funext acc o
      unfold stp
      have e : sbA σ u 3 o.1 o.2.2 = sbA σ u 2 o.1 o.2.2 := by
        unfold sbA
        simp
      rw [e]
    rw [this]
  · unfold LL
    rw [show E - u = 0 by omega]
    rfl
