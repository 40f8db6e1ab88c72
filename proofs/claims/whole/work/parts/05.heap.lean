/-! fields -/
/-- the link of a field: class ci, field j -/
def FL (own : String) (index ci j : Nat) : Prop := ∃ (C : String) (T : u_T) (N : Nat), classes[ci]? = some (C, T, N) ∧ j < N ∧ (T j).1 = C ∧ Cond.fieldLink own index C (T j).2.1 (T j).2.2.1 ∈ gt
theorem FL.of {own C : String} {T : u_T} {N index ci j : Nat} (hc : classes[ci]? = some (C, T, N)) (hj : j < N) (h1 : (T j).1 = C) (i : Nat) (h : lw_tbl[i]? = some (Cond.fieldLink own index C (T j).2.1 (T j).2.2.1)) : FL own index ci j := ⟨C, T, N, hc, hj, h1, gt_at i h rfl⟩
theorem ent_o {G : GT} {σ : St} {k ci : Nat} (h : lyt k = (0, ci)) : ent G σ k = .inr (ci, (List.range (nfc ci)).map (fv G σ ci k)) := by
  unfold ent
  rw [h]
  rfl
theorem ent_i {G : GT} {σ : St} {k n : Nat} (h : lyt k = (1, n)) : ent G σ k = .inl (G.2.2.2.1, n, .inl (fun i => Int32.ofInt (σ.1 k i))) := by
  unfold ent
  rw [h]
  rfl
theorem ent_z {G : GT} {σ : St} {k n : Nat} (h : lyt k = (2, n)) : ent G σ k = .inl (G.2.2.2.2.1, n, .inl (fun i => Int32.ofInt (σ.1 k i))) := by
  unfold ent
  rw [h]
  rfl
theorem ent_r {G : GT} {σ : St} {k n : Nat} (h : lyt k = (3, n)) : ent G σ k = .inl (G.2.2.2.2.2, n, .inr (.inr (.inr (.inr (fun i => if i < n then some (aG G (rwb k + i)) else none))))) := by
  unfold ent
  rw [h]
  rfl
theorem nfc_of {ci : Nat} {q : vw_C} (h : classes[ci]? = some q) : nfc ci = q.2.2 := by
  unfold nfc
  rw [h]
section
variable {G : GT} {mi : MI} {pc q : Nat} {l : List (Nat × AV)} {st : List AV} {σ : St} {P : Int → St → Prop}
theorem r_get {k ci j index : Nat} {v : AV} (hL : FL (yM mi).cls index ci j) (hk : lyt k = (0, ci)) (hv : fv G σ ci k j = cv G v) (hd : decode (cM mi) pc = .ok (.getfield index, 3)) (hq : pc + 3 = q) (kk : A G mi q l (v :: st) σ P) : A G mi pc l (O k :: st) σ P := by
  intro p e s m args below meth c s₁ B hml hK hR H locs la hP hS hl
  subst hq
  obtain ⟨C, T, N, hc, hj, h1, hw⟩ := hL
  have hts : ∀ w ∈ gt, w.before args s = true := fun w hw => atoms_spec (ws := WS mi) B.pre w (List.mem_cons_of_mem _ hw)
  have hlt := lyt_lt hk (by decide)
  refine va_get (C := C) (T := T) (N := N) (ci := ci) (v := cv G v) B.exec B.bytes hts (classes_ok ci _ hc).1 (findClass_of_methodNamed B.named) hK.1 hP k (by rw [wG_at hlt, ent_o hk]) hc j hj (hts _ hw) (fun x hx => by rw [h1] at hx; exact hx) ?_ hd (kk p e s m args below meth c s₁ B hml hK hR H locs la hP hS hl)
  rw [List.getElem?_map, List.getElem?_range (by rw [nfc_of hc]; exact hj)]
  exact congrArg some hv
theorem r_getI {k ci j index : Nat} {v : Int} (hL : FL (yM mi).cls index ci j) (hd : decode (cM mi) pc = .ok (.getfield index, 3)) (hq : pc + 3 = q) (hk : lyt k = (0, ci)) (hr : rfo ci k j σ = none) (hv : σ.2.1 k j = v) (kk : rng v → A G mi q l (I v :: st) σ P) : A G mi pc l (O k :: st) σ P :=
  r_get hL hk (by unfold fv; rw [hr, ← hv]; rfl) hd hq (fun p e s m args below meth c s₁ B hml hK hR => kk (hv ▸ hR.2 k j) p e s m args below meth c s₁ B hml hK hR)
theorem r_getO {k ci j index : Nat} {v : Nat} (hL : FL (yM mi).cls index ci j) (hd : decode (cM mi) pc = .ok (.getfield index, 3)) (hq : pc + 3 = q) (hk : lyt k = (0, ci)) (hr : rfo ci k j σ = some v) (kk : A G mi q l (O v :: st) σ P) : A G mi pc l (O k :: st) σ P :=
  r_get hL hk (by unfold fv; rw [hr]; rfl) hd hq kk
theorem ent_ne {G : GT} {σ σ' : St} {k : Nat} (h1 : σ'.1 k = σ.1 k) (h2 : σ'.2.1 k = σ.2.1 k) (h3 : ∀ j, rfo (lyt k).2 k j σ' = rfo (lyt k).2 k j σ) : ent G σ' k = ent G σ k := by
  have e : fv G σ' (lyt k).2 k = fv G σ (lyt k).2 k := by
    funext j
    unfold fv
    rw [h3, h2]
  unfold ent
  rw [h1, e]
theorem rfo_eq {c k j : Nat} {σ σ' : St} (h : σ'.2.2 = σ.2.2) : rfo c k j σ' = rfo c k j σ := by
  unfold rfo
  rw [h]
theorem up2_ne {f : Nat → Nat → Int} {k i k' : Nat} {v : Int} (h : k' ≠ k) : up2 f k i v k' = f k' := by
  funext j
  unfold up2
  rw [if_neg (fun z => h z.1)]
theorem sa_ent {G : GT} {σ : St} {k i : Nat} {v : Int} (j : Nat) (h : j ≠ k) : ent G (sa σ k i v) j = ent G σ j := ent_ne (up2_ne h) rfl (fun _ => rfo_eq rfl)
theorem sf_ent {G : GT} {σ : St} {k i : Nat} {v : Int} (j : Nat) (h : j ≠ k) : ent G (sf σ k i v) j = ent G σ j := ent_ne rfl (up2_ne h) (fun _ => rfo_eq rfl)
theorem Rg.sa {σ : St} {k i : Nat} {v : Int} (h : Rg σ) (hv : rng v) : Rg (sa σ k i v) := ⟨fun k' i' => by show rng (up2 _ _ _ _ _ _); unfold up2; split; exact hv; exact h.1 _ _, h.2⟩
theorem Rg.sf {σ : St} {k i : Nat} {v : Int} (h : Rg σ) (hv : rng v) : Rg (sf σ k i v) := ⟨h.1, fun k' i' => by show rng (up2 _ _ _ _ _ _); unfold up2; split; exact hv; exact h.2 _ _⟩
/-- a number into a field: of a boolean 0 or 1 -/
theorem r_put {k ci j index : Nat} {v : Int} (hL : FL (yM mi).cls index ci j) (hd : decode (cM mi) pc = .ok (.putfield index, 3)) (hq : pc + 3 = q) (hk : lyt k = (0, ci)) (hr : ∀ σ', rfo ci k j σ' = none) (ht : tyc ci j = .int ∨ (tyc ci j = .boolean ∧ (v = 0 ∨ v = 1))) (hf : ∀ C T N, classes[ci]? = some (C, T, N) → (T j).2.2.2 = false) (hv : rng v) (kk : ∀ τ, τ = sf σ k j v → A G mi q l st τ P) : A G mi pc l (I v :: O k :: st) σ P := by
  intro p e s m args below meth c s₁ B hml hK hR H locs la hP hS hl
  subst hq
  obtain ⟨C, T, N, hc, hj, h1, hw⟩ := hL
  have hts : ∀ w ∈ gt, w.before args s = true := fun w hw => atoms_spec (ws := WS mi) B.pre w (List.mem_cons_of_mem _ hw)
  have hlt := lyt_lt hk (by decide)
  obtain ⟨o1, o2, o3⟩ := classes_ok ci _ hc
  have hfit : narrow (tyc ci j) (cv G (I v)) = cv G (I v) ∧ fits (tyc ci j) (cv G (I v)) = true := by
    rcases ht with ht | ⟨ht, rfl | rfl⟩ <;> rw [ht] <;> exact ⟨rfl, rfl⟩
  refine va_put (C := C) (T := T) (N := N) (ci := ci) (v := cv G (I v)) B.exec B.bytes hts o1 (tyc ci) o3 o2 (findClass_of_methodNamed B.named) hK.1 hP (wG_D hK.2.1) hS k (by rw [wG_at hlt, ent_o hk]) hc j hj (hts _ hw) (fun x hx => by rw [h1] at hx; exact hx) (hf C T N hc) (o3 j hj) hfit.1 hfit.2 (by rw [List.length_map, List.length_range, nfc_of hc]; exact hj) hd (fun H1 locs1 hP1 hD1 hS1 => ?_)
  refine kk _ rfl p e s m args below meth c s₁ B hml hK (hR.sf hv) H1 locs1 la ?_ hS1 hl
  unfold PG
  rw [← wG_set (G := G) (σ := σ) (k := k) ?_ (fun j' h => sf_ent j' h)]
  · exact hP1
  · rw [ent_o hk]
    congr 2
    apply List.ext_getElem?
    intro i
    rw [List.getElem?_set, List.getElem?_map, List.getElem?_map, List.length_map, List.length_range]
    by_cases hi : i < nfc ci
    · rw [List.getElem?_range hi]
      by_cases e : j = i
      · subst e
        rw [if_pos rfl, if_pos hi]
        show some (fv G _ ci k j) = _
        unfold fv
        rw [hr]
        show some (Value.int (Int32.ofInt (up2 σ.2.1 k j v k j))) = _
        unfold up2
        rw [if_pos ⟨rfl, rfl⟩]
        rfl
      · rw [if_neg e]
        show some (fv G _ ci k i) = some (fv G _ ci k i)
        unfold fv
        rw [rfo_eq (σ' := sf σ k j v) (σ := σ) rfl]
        split
        · rfl
        · show some (Value.int (Int32.ofInt (up2 σ.2.1 k j v k i))) = _
          unfold up2
          rw [if_neg (fun z => e z.2.symm)]
    · rw [List.getElem?_eq_none (by simpa using hi)]
      by_cases e : j = i
      · rw [if_pos e, if_neg (by rw [e]; exact hi)]
        rfl
      · rw [if_neg e]
        rfl
theorem rfo_c {c k j : Nat} {σ σ' : St} (h : c ≠ 0) : rfo c k j σ' = rfo c k j σ := by
  unfold rfo
  split
  · exact absurd rfl h
  · exact absurd rfl h
  · rfl
theorem sh_ent {G : GT} {σ : St} {v : Nat} (j : Nat) (h : j ≠ 0) : ent G (sh σ v) j = ent G σ j := by
  by_cases h0 : (lyt j).1 = 0
  · refine ent_ne rfl rfl (fun i => ?_)
    have hc : (lyt j).2 ≠ 0 := by
      intro hz
      apply h
      have hj : j < 168 := by
        rcases Nat.lt_or_ge j 168 with q | q
        · exact q
        · exfalso
          unfold lyt at h0
          rw [if_neg (by omega)] at h0
          repeat' split at h0
          all_goals cases h0
      have hall : ∀ i, i < 168 → (lyt i).1 = 0 → (lyt i).2 = 0 → i = 0 := by decide +kernel
      exact hall j hj h0 hz
    exact rfo_c hc
  · unfold ent
    split <;> first | rfl | exact absurd ‹_› h0
theorem sp_ent {G : GT} {σ : St} {v : Nat} (j : Nat) (h : j ≠ 0) : ent G (sp σ v) j = ent G σ j := by
  by_cases h0 : (lyt j).1 = 0
  · refine ent_ne rfl rfl (fun i => ?_)
    have hc : (lyt j).2 ≠ 0 := by
      intro hz
      apply h
      have hj : j < 168 := by
        rcases Nat.lt_or_ge j 168 with q | q
        · exact q
        · exfalso
          unfold lyt at h0
          rw [if_neg (by omega)] at h0
          repeat' split at h0
          all_goals cases h0
      have hall : ∀ i, i < 168 → (lyt i).1 = 0 → (lyt i).2 = 0 → i = 0 := by decide +kernel
      exact hall j hj h0 hz
    exact rfo_c hc
  · unfold ent
    split <;> first | rfl | exact absurd ‹_› h0
/-! arrays -/
theorem lyt_len {k a n : Nat} (h : lyt k = (a, n)) (ha : a ≠ 0) (ha9 : a ≠ 9) : n ≤ 100000 := by
  have hlow : ∀ x ∈ lowt, x.2 ≤ 100000 := by decide +kernel
  unfold lyt at h
  by_cases h1 : k < 168
  · rw [if_pos h1] at h
    have hk : k < lowt.length := h1
    have := hlow (lowt[k]) (List.getElem_mem hk)
    rw [List.getD_eq_getElem?_getD, List.getElem?_eq_getElem hk] at h
    have e : lowt[k] = (a, n) := h
    rw [e] at this
    exact this
  · rw [if_neg h1] at h
    repeat' split at h
    all_goals (cases h; omega)
theorem r_iald {k n : Nat} {i v : Int} (hd : decode (cM mi) pc = .ok (.iaload, 1)) (hq : pc + 1 = q) (hk : lyt k = (1, n)) (hi : 0 ≤ i ∧ i < n) (hv : σ.1 k i.toNat = v) (kk : rng v → A G mi q l (I v :: st) σ P) : A G mi pc l (I i :: O k :: st) σ P := by
  intro p e s m args below meth c s₁ B hml hK hR H locs la hP hS hl
  subst hq
  subst hv
  have hlt := lyt_lt hk (by decide)
  obtain ⟨h1, h2⟩ := oi_in hi (lyt_len hk (by decide) (by decide))
  refine va_iald B.exec B.bytes hK.1 hP k 0 (by rw [wG_at hlt, ent_i hk]) rfl h1 hd ?_
  rw [h2]
  exact kk (hR.1 k _) p e s m args below meth c s₁ B hml hK hR H locs la hP hS hl
theorem r_zald {k n : Nat} {i v : Int} (hd : decode (cM mi) pc = .ok (.baload, 1)) (hq : pc + 1 = q) (hk : lyt k = (2, n)) (hi : 0 ≤ i ∧ i < n) (hv : σ.1 k i.toNat = v) (kk : rng v → A G mi q l (I v :: st) σ P) : A G mi pc l (I i :: O k :: st) σ P := by
  intro p e s m args below meth c s₁ B hml hK hR H locs la hP hS hl
  subst hq
  subst hv
  have hlt := lyt_lt hk (by decide)
  obtain ⟨h1, h2⟩ := oi_in hi (lyt_len hk (by decide) (by decide))
  refine va_zald B.exec B.bytes hK.1 hP k 1 (by rw [wG_at hlt, ent_z hk]) rfl h1 hd ?_
  rw [h2]
  exact kk (hR.1 k _) p e s m args below meth c s₁ B hml hK hR H locs la hP hS hl
theorem r_aald {k n : Nat} {i : Int} {v : Nat} (hd : decode (cM mi) pc = .ok (.aaload, 1)) (hq : pc + 1 = q) (hk : lyt k = (3, n)) (hi : 0 ≤ i ∧ i < n) (hv : rwb k + i.toNat = v) (kk : A G mi q l (O v :: st) σ P) : A G mi pc l (I i :: O k :: st) σ P := by
  intro p e s m args below meth c s₁ B hml hK hR H locs la hP hS hl
  subst hq
  subst hv
  have hlt := lyt_lt hk (by decide)
  obtain ⟨h1, h2⟩ := oi_in hi (lyt_len hk (by decide) (by decide))
  have ha : (wG G σ)[k]? = some (aG G k, .inl (G.2.2.2.2.2, n, .inr (.inr (.inr (.inr (fun i => if i < n then some (aG G (rwb k + i)) else none)))))) := by rw [wG_at hlt, ent_r hk]
  have hin : (Int32.ofInt i).toNatClampNeg < n := Nat.not_le.mp fun z => h1 (Or.inr z)
  refine W.aald (v := va_rf (if (Int32.ofInt i).toNatClampNeg < n then some (aG G (rwb k + (Int32.ofInt i).toNatClampNeg)) else none)) (ty := .array .int) B.exec B.bytes (hP k _ ha) ((hK.1.2 2 _ rfl).1 n (fun j => va_rf (if j < n then some (aG G (rwb k + j)) else none))) rfl (fun z => by cases z) (by show ¬ (_ ∨ (arrV _ _ _).slots.size ≤ _); rw [arrV_size]; exact h1) (by show (arrV _ _ _).slots[_]? = _; rw [arrV_read _ _ hin]) rfl rfl hd ?_
  rw [if_pos hin, h2]
  exact kk p e s m args below meth c s₁ B hml hK hR H locs la hP hS hl
theorem r_iast {k n : Nat} {i v : Int} (hd : decode (cM mi) pc = .ok (.iastore, 1)) (hq : pc + 1 = q) (hk : lyt k = (1, n)) (hi : 0 ≤ i ∧ i < n) (hv : rng v) (kk : ∀ τ, τ = sa σ k i.toNat v → A G mi q l st τ P) : A G mi pc l (I v :: I i :: O k :: st) σ P := by
  intro p e s m args below meth c s₁ B hml hK hR H locs la hP hS hl
  subst hq
  have hlt := lyt_lt hk (by decide)
  obtain ⟨h1, h2⟩ := oi_in hi (lyt_len hk (by decide) (by decide))
  refine va_iast B.exec B.bytes hK.1 hP (wG_D hK.2.1) hS k 0 (by rw [wG_at hlt, ent_i hk]) rfl h1 hd (fun H1 locs1 hP1 hD1 hS1 => ?_)
  refine kk _ rfl p e s m args below meth c s₁ B hml hK (hR.sa hv) H1 locs1 la ?_ hS1 hl
  unfold PG
  rw [← wG_set (G := G) (σ := σ) (k := k) ?_ (fun j' h => sa_ent j' h)]
  · exact hP1
  · rw [ent_i hk, h2]
    refine congrArg (fun f : Nat → Int32 => (Sum.inl (G.2.2.2.1, n, Sum.inl f) : va_E)) (funext fun j => ?_)
    show Int32.ofInt (up2 σ.1 k i.toNat v k j) = upd _ _ _ _
    unfold up2 upd
    by_cases e : j = i.toNat
    · rw [if_pos ⟨rfl, e⟩, if_pos e]
    · rw [if_neg (fun z => e z.2), if_neg e]
theorem r_zast {k n : Nat} {i v : Int} (hd : decode (cM mi) pc = .ok (.bastore, 1)) (hq : pc + 1 = q) (hk : lyt k = (2, n)) (hi : 0 ≤ i ∧ i < n) (hv : v = 0 ∨ v = 1) (kk : ∀ τ, τ = sa σ k i.toNat v → A G mi q l st τ P) : A G mi pc l (I v :: I i :: O k :: st) σ P := by
  intro p e s m args below meth c s₁ B hml hK hR H locs la hP hS hl
  subst hq
  have hlt := lyt_lt hk (by decide)
  obtain ⟨h1, h2⟩ := oi_in hi (lyt_len hk (by decide) (by decide))
  refine va_zast B.exec B.bytes hK.1 hP (wG_D hK.2.1) hS k 1 (by rw [wG_at hlt, ent_z hk]) rfl h1 hd (fun H1 locs1 hP1 hD1 hS1 => ?_)
  refine kk _ rfl p e s m args below meth c s₁ B hml hK (hR.sa (by rcases hv with rfl | rfl <;> exact ⟨by decide, by decide⟩)) H1 locs1 la ?_ hS1 hl
  unfold PG
  rw [← wG_set (G := G) (σ := σ) (k := k) ?_ (fun j' h => sa_ent j' h)]
  · exact hP1
  · rw [ent_z hk, h2]
    refine congrArg (fun f : Nat → Int32 => (Sum.inl (G.2.2.2.2.1, n, Sum.inl f) : va_E)) (funext fun j => ?_)
    show Int32.ofInt (up2 σ.1 k i.toNat v k j) = upd _ _ _ _
    unfold up2 upd
    by_cases e : j = i.toNat
    · rw [if_pos ⟨rfl, e⟩, if_pos e]
      rcases hv with rfl | rfl <;> rfl
    · rw [if_neg (fun z => e z.2), if_neg e]
theorem r_alen {k n : Nat} (hd : decode (cM mi) pc = .ok (.arraylength, 1)) (hq : pc + 1 = q) (hk : lyt k = (1, n)) (kk : A G mi q l (I n :: st) σ P) : A G mi pc l (O k :: st) σ P := by
  intro p e s m args below meth c s₁ B hml hK hR H locs la hP hS hl
  subst hq
  have hlt := lyt_lt hk (by decide)
  exact va_alen B.exec B.bytes hK.1 hP k 0 (by rw [wG_at hlt, ent_i hk]) rfl (by rfl) hd (kk p e s m args below meth c s₁ B hml hK hR H locs la hP hS hl)
/-! returns -/
theorem KG.moved {G : GT} {s t : State} (h : KG G s) (hW : s.WarmedH t.vm) : KG G t := by
  refine ⟨va_K.moved hW.alike h.1, h.2.1, fun w hw => ?_⟩
  have h3 := h.2.2 w hw
  simp only [nestW, List.mem_cons, List.not_mem_nil, or_false] at hw
  rcases hw with rfl | rfl | rfl <;> exact va_Nw.warmM hW h3
theorem r_iret {x : Int} (ht : tM mi = some .int) (hd : decode (cM mi) pc = .ok (.ireturn, 1)) (hx : rng x) (hp : P x σ) : A G mi pc l [I x] σ P := by
  intro p e s m args below meth c s₁ B hml hK hR H locs la hP hS hl
  have hlocks := B.notSynchronized
  refine W.iret B.exec B.bytes (B.returns.trans ht) (fun t h1 h2 => ?_) hS.2.2 hd
  unfold QJ
  rw [ht]
  exact ⟨⟨_, σ, rfl, ⟨x, rfl, hx, hp⟩, by rw [h1]; exact hP, hR, hK.moved h2⟩, hS.F h1⟩
theorem r_zret {x : Int} (ht : tM mi = some .boolean) (hd : decode (cM mi) pc = .ok (.ireturn, 1)) (hx : x = 0 ∨ x = 1) (hp : P x σ) : A G mi pc l [I x] σ P := by
  intro p e s m args below meth c s₁ B hml hK hR H locs la hP hS hl
  have hlocks := B.notSynchronized
  refine W.zret B.exec B.bytes (B.returns.trans ht) (by rcases hx with rfl | rfl <;> rfl) (fun t h1 h2 => ?_) hS.2.2 hd
  unfold QJ
  rw [ht]
  exact ⟨⟨_, σ, rfl, ⟨x, rfl, by rcases hx with rfl | rfl <;> exact ⟨by decide, by decide⟩, hp⟩, by rw [h1]; exact hP, hR, hK.moved h2⟩, hS.F h1⟩
theorem r_vret (ht : tM mi = none) (hd : decode (cM mi) pc = .ok (.return_, 1)) (hp : P 0 σ) : A G mi pc l [] σ P := by
  intro p e s m args below meth c s₁ B hml hK hR H locs la hP hS hl
  have hlocks := B.notSynchronized
  refine W.vret B.exec B.bytes (B.returns.trans ht) (fun t h1 h2 => ?_) hS.2.2 hd
  unfold QJ
  rw [ht]
  exact ⟨⟨σ, rfl, hp, by rw [h1]; exact hP, hR, hK.moved h2⟩, hS.F h1⟩
end
/-! entry -/
def catA (v : AV) : Nat := v.elim (fun _ => 1) (fun z => if z.isLeft then 2 else 1)
theorem cv_catA (G : GT) (v : AV) : (cv G v).category = catA v := by rcases v with x | x | k <;> rfl
theorem cvs_cat (G : GT) (st : List AV) : ((cvs G st).map fun v => v.category).sum = (st.map catA).sum := by
  induction st with
  | nil => rfl
  | cons v st ih => simp only [cvs, List.map_cons, List.sum_cons, cv_catA] at ih ⊢; rw [ih]
def largs : Nat → List AV → List (Nat × AV)
  | _, [] => []
  | i, v :: vs => (i, v) :: largs (i + catA v) vs
theorem largs_cv (G : GT) (vs : List AV) : ∀ i, lv_args i (cvs G vs) = cvl G (largs i vs) := by
  induction vs with
  | nil => intro i; rfl
  | cons v vs ih =>
    intro i
    show (i, cv G v) :: lv_args _ (cvs G vs) = (i, cv G v) :: cvl G (largs (i + catA v) vs)
    rw [ih, cv_catA]
    rcases v with x | x | k <;> rfl
theorem lg_len (G : GT) (vs : List AV) : (lg_sl (cvs G vs)).length = (vs.map catA).sum := by
  induction vs with
  | nil => rfl
  | cons v vs ih =>
    unfold lg_sl at ih ⊢
    simp only [cvs, List.map_cons, List.flatMap_cons, List.length_append, List.sum_cons, cv_catA] at ih ⊢
    rw [ih]
    rcases v with x | x | k <;> rfl
/-- a method is what its body does from its entry on -/
theorem CJ.intro {G : GT} {mi : MI} {av : List AV} {σ : St} {P : Int → St → Prop} (hy : plainName (yM mi).cls = true) (hn : (av.map catA).sum ≤ nM mi) (h : Rg σ → A G mi 0 (largs 0 av) [] σ P) : CJ G mi av σ P := by
  refine Met.ofW (cc := cM mi) (maxL := nM mi) (ret := tM mi) hy rfl ?_
  intro p e s m args below meth c s₁ B hml hv
  obtain ⟨rfl, hP, hR, hK⟩ := hv
  rw [lg_entry_eq]
  refine h hR p e s m _ below meth c s₁ B hml hK hR s.heap [] _ hP va_S.rf ?_
  rw [← largs_cv]
  exact lv_entry _ (by rw [lg_len]; exact hn)
/-- what holds behind a method may be weakened -/
theorem QJ.mono {G : GT} {mi : MI} {P P' : Int → St → Prop} (h : ∀ x u, Rg u → P x u → P' x u) {a : Array Value} {s t : State} {o : Outcome} (hq : QJ G mi P a s o t) : QJ G mi P' a s o t := by
  unfold QJ at hq ⊢
  cases ht : tM mi with
  | none =>
    simp only [ht] at hq ⊢
    obtain ⟨⟨u, h1, h2, h3⟩, h4⟩ := hq
    exact ⟨⟨u, h1, h _ _ h3.2.1 h2, h3⟩, h4⟩
  | some ty =>
    simp only [ht] at hq ⊢
    obtain ⟨⟨r, u, h1, ⟨x, h2, hr, h2'⟩, h3⟩, h4⟩ := hq
    exact ⟨⟨r, u, h1, ⟨x, h2, hr, h _ _ h3.2.1 h2'⟩, h3⟩, h4⟩
