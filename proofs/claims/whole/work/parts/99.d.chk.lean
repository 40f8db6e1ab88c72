/-! check: what both sides do, and the class's side -/
def klen (σ : St) (u : Nat) (v : Int) : Option Int := (kl σ u).find? (fun l => decide ((ln3 σ l.toNat : Int) = v))
def isF (σ : St) (u : Nat) (l f : Int) : Bool := decide ((0 ≤ f ∧ f ≤ σ.2.1 8 17 - 1) ∧ σ.1 95 f.toNat = l ∧ σ.1 96 f.toNat = plc σ u l)
def isS (σ : St) (u st : Nat) (l f s : Int) : Bool := decide ((0 ≤ s ∧ s ≤ σ.1 102 f.toNat) ∧ 0 ≤ sbA σ u st l s.toNat)
def clo (σ : St) (N : Nat) (c : Nat → Int) (k : Nat) (ps : List Pc) : Int := if N ≤ k then (k : Int) else if c k = tw σ ps then (if N ≤ k + 1 then (k : Int) + 1 else if c (k + 1) = tp σ ps then (if N ≤ k + 2 then -6 else (k : Int) + 2) else (k : Int) + 1) else (k : Int)
def ck (σ : St) (N : Nat) (c : Nat → Int) (E : Nat) : Nat → Nat → Nat → Nat → List Pc → Int × List Pc
  | 0, k, _, _, ps => (clo σ N c k ps, ps)
  | n + 1, k, u, st, ps => if E ≤ u then (clo σ N c k ps, ps) else if N ≤ k then ((k : Int), ps) else (klen σ u (c k)).elim ((k : Int), ps) (fun l => if N ≤ k + 1 ∨ isF σ u l (c (k + 1)) = false then ((k : Int) + 1, ps) else if N ≤ k + 2 ∨ isS σ u st l (c (k + 1)) (c (k + 2)) = false then ((k : Int) + 2, ps) else ck σ N c E n (k + 3) (u + ln3 σ l.toNat) (sbA σ u st l (c (k + 2)).toNat).toNat (ps ++ [(u, l, (c (k + 1)).toNat, (c (k + 2)).toNat)]))
theorem clo_b {σ : St} {N k : Nat} {c : Nat → Int} {ps : List Pc} : clo σ N c k ps = -6 ∨ (0 ≤ clo σ N c k ps ∧ clo σ N c k ps ≤ k + 2) := by
  unfold clo
  split
  · right; omega
  · split
    · split
      · right; omega
      · split
        · split
          · left; rfl
          · right; omega
        · right; omega
    · right; omega
theorem ck_b {σ : St} {N : Nat} {c : Nat → Int} {E : Nat} : ∀ (n k u st : Nat) (ps : List Pc), (ck σ N c E n k u st ps).1 = -6 ∨ (0 ≤ (ck σ N c E n k u st ps).1 ∧ (ck σ N c E n k u st ps).1 ≤ k + 3 * n + 2)
  | 0, k, u, st, ps => by
    have := clo_b (σ := σ) (N := N) (c := c) (k := k) (ps := ps)
    show clo σ N c k ps = -6 ∨ (0 ≤ clo σ N c k ps ∧ clo σ N c k ps ≤ k + 3 * (0 : Nat) + 2)
    omega
  | n + 1, k, u, st, ps => by
    have h0 := clo_b (σ := σ) (N := N) (c := c) (k := k) (ps := ps)
    unfold ck
    split
    · show clo σ N c k ps = -6 ∨ (0 ≤ clo σ N c k ps ∧ clo σ N c k ps ≤ k + 3 * (n + 1 : Nat) + 2)
      omega
    · split
      · right
        show 0 ≤ (k : Int) ∧ (k : Int) ≤ k + 3 * (n + 1 : Nat) + 2
        omega
      · cases klen σ u (c k) with
        | none =>
          right
          show 0 ≤ (k : Int) ∧ (k : Int) ≤ k + 3 * (n + 1 : Nat) + 2
          omega
        | some l =>
          simp only [Option.elim]
          split
          · right
            show 0 ≤ (k : Int) + 1 ∧ (k : Int) + 1 ≤ k + 3 * (n + 1 : Nat) + 2
            omega
          · split
            · right
              show 0 ≤ (k : Int) + 2 ∧ (k : Int) + 2 ≤ k + 3 * (n + 1 : Nat) + 2
              omega
            · rcases ck_b n (k + 3) (u + ln3 σ l.toNat) (sbA σ u st l (c (k + 2)).toNat).toNat (ps ++ [(u, l, (c (k + 1)).toNat, (c (k + 2)).toNat)]) with q | q
              · exact Or.inl q
              · right
                omega
theorem klen_some {σ : St} {u : Nat} {v l : Int} (h : klen σ u v = some l) : l ∈ kl σ u ∧ (ln3 σ l.toNat : Int) = v := by
  unfold klen at h
  have h2 := List.find?_some h
  exact ⟨List.mem_of_find?_eq_some h, by simpa using h2⟩
theorem kl_3 {σ : St} (hS : IS σ) {u : Nat} : (kl σ u).length ≤ 3 := by
  unfold kl
  split
  · have := opl_le hS (u := u) (Nat.le_refl (nL σ))
    simp; omega
  · simp
theorem t_kind {G : GT} {σ τ : St} (hS : IS σ) (hT : IT σ) (hU : UNx σ τ) (h49 : τ.1 49 = σ.1 49) {u : Nat} (hu : u < nU σ) {v : Int} (hv : rng v) : CJ G m_UN_kindOfLength [O 4, I u, I v] τ (fun r υ => υ = τ ∧ (klen σ u v = none ∧ r = -6 ∨ ∃ l, klen σ u v = some l ∧ r = l)) := by
  have n := hS.1
  unfold NumOk at n
  have n8 := nU_le hT
  have l3 := kl_3 hS (u := u)
  have hK : KO (kl σ u) (τ.1 72 u) (fun j => τ.1 73 (3 * u + j)) := (hU.2.2.2.1 u hu).2.2.2.2.2.2.2.2
  obtain ⟨hK1, hK2⟩ := hK
  refine CJ.go (fun _ => k_UN_kindOfLength_0 ?_)
  have loop : ∀ (d j : Nat), j + d = (kl σ u).length → ((kl σ u).drop j).find? (fun l => decide ((ln3 σ l.toNat : Int) = v)) = klen σ u v → a_UN_kindOfLength_2 G u v j τ (fun r υ => υ = τ ∧ (klen σ u v = none ∧ r = -6 ∨ ∃ l, klen σ u v = some l ∧ r = l)) := by
    intro d
    induction d with
    | zero =>
      intro j hj hf
      refine k_UN_kindOfLength_2 ?_
      rw [Int.toNat_natCast, hK1]
      refine ⟨by omega, ⟨by omega, by omega⟩, fun _ => ⟨rfl, Or.inl ⟨?_, rfl⟩⟩, fun z => absurd z (by omega)⟩
      rw [← hf, List.drop_eq_nil_of_le (by omega)]
      rfl
    | succ d ih =>
      intro j hj hf
      have hget := hK2 j (by omega)
      obtain ⟨l, hl⟩ : ∃ l, τ.1 73 (3 * u + j) = l := ⟨_, rfl⟩
      have hget' : (kl σ u)[j]? = some l := by rw [hget, ← hl]
      obtain ⟨hlt, hge⟩ := List.getElem?_eq_some_iff.mp hget'
      have hmem : l ∈ kl σ u := List.mem_of_getElem? hget'
      obtain ⟨-, hl0, -, -, -⟩ := kl_mem hS hT hu hmem
      have e49 : τ.1 49 l.toNat = (ln3 σ l.toNat : Int) := by rw [h49]; exact ln3_J hS (by omega)
      refine k_UN_kindOfLength_2 ?_
      rw [Int.toNat_natCast, hK1, show ((u : Int) * 3 + (j : Int)).toNat = 3 * u + j by omega, hl, e49]
      rw [List.drop_eq_getElem_cons hlt, hge, List.find?_cons] at hf
      refine ⟨by omega, ⟨by omega, by omega⟩, fun z => absurd z (by omega), fun _ => ⟨by omega, by omega, hv, fun z => ?_, fun z => ⟨rfl, Or.inr ⟨l, ?_, rfl⟩⟩⟩⟩
      · have e : ((j : Int) + 1) = ((j + 1 : Nat) : Int) := by omega
        rw [e]
        refine ih (j + 1) (by omega) ?_
        have hd : decide ((ln3 σ l.toNat : Int) = v) = false := by simpa using z
        rw [hd] at hf
        exact hf
      · have hd : decide ((ln3 σ l.toNat : Int) = v) = true := by simpa using z
        rw [hd] at hf
        exact hf.symm
  exact loop (kl σ u).length 0 (by omega) (by rw [List.drop_zero]; rfl)
theorem uw_same {σ : St} {u v : Nat} (huv : u ≤ v) (hv : v < nU σ) (h : ∀ x, u ≤ x → x ≤ v → us σ x ≠ 6) : uw σ u = uw σ v := by
  obtain ⟨a1, a2, a3⟩ := up_ex (σ := σ) (u := u) (by omega)
  obtain ⟨b1, b2, b3⟩ := up_ex hv
  have hle : up σ u ≤ up σ v := by
    rcases Nat.lt_or_ge (up σ v) (up σ u) with q | q
    · have := uc_lt b2 q; omega
    · exact q
  have run := wdc_run (σ := σ) (p := up σ u) (up σ v - up σ u) (fun j j1 j2 => by
    intro z
    have hsd : sd (ts σ) j = false := sd_not (by rw [z]; decide)
    have e : up σ (uc σ j) = j := pos_eq (nst_t hsd) (by omega)
    have m1 : uc σ (up σ u) ≤ uc σ j := cnt_mono j1
    have m2 : uc σ j < uc σ (up σ v) := uc_lt hsd (by omega)
    refine h (uc σ j) (by omega) (by omega) ?_
    unfold us
    rw [e]
    exact z)
  unfold uw
  rw [if_neg (h u (Nat.le_refl _) huv), if_neg (h v huv (Nat.le_refl _))]
  rw [show up σ u + (up σ v - up σ u) = up σ v by omega] at run
  rw [run]
/-- the last piece is of the same word and barred -/
def BBp (σ : St) (ps : List Pc) (u : Nat) : Prop := ∃ q, ps.getLast? = some q ∧ uw σ q.1 = uw σ u ∧ σ.1 94 q.2.1.toNat ≠ 0
theorem bar_J {σ υ : St} (hS : IS σ) (hT : IT σ) {L : Nat} (hL : isL L) (hU : UNx σ υ) (h50 : υ.1 50 = σ.1 50) {ps : List Pc} (hps : ∀ q ∈ ps, GPc σ q) (h80 : ps.length ≤ 80) (hLJ : LJ σ L ps υ) {u : Nat} (hu : u < nU σ) : p_CL_isBehindBar υ L u ∧ (b_CL_isBehindBar υ L u ↔ BBp σ ps u) := by
  have n := hS.1
  unfold NumOk at n
  have n8 := nU_le hT
  have ec : υ.2.1 (L + 1) 0 = (ps.length : Int) := hLJ.1
  unfold p_CL_isBehindBar b_CL_isBehindBar BBp
  rw [ec]
  rcases Nat.eq_zero_or_pos ps.length with q0 | q0
  · have e0 : ps = [] := List.eq_nil_of_length_eq_zero q0
    subst e0
    refine ⟨⟨⟨by simp, by simp⟩, fun z => absurd z (by simp)⟩, ⟨fun z => absurd z.1 (by simp), fun ⟨q, h, _⟩ => by simp at h⟩⟩
  · obtain ⟨k, hk⟩ : ∃ k, ps.length = k + 1 := ⟨ps.length - 1, by omega⟩
    obtain ⟨q, hq⟩ : ∃ q, ps[k]? = some q := ⟨ps[k]'(by omega), List.getElem?_eq_getElem (by omega)⟩
    have hlast : ps.getLast? = some q := by rw [List.getLast?_eq_getElem?, hk]; exact hq
    have hg := hps q (List.mem_of_getElem? hq)
    obtain ⟨g1, g2, -⟩ := id hg
    obtain ⟨-, hl0, -, -, -⟩ := kl_mem hS hT g1 g2
    obtain ⟨c1, c2, -⟩ := hLJ.2.2.2 k q hq
    have c1' : υ.1 (L + 15) k = q.2.1 := c1
    have c2' : υ.1 (L + 16) k = (q.1 : Int) := c2
    have w1 : υ.1 64 q.1 = uw σ q.1 := (hU.2.2.2.1 q.1 g1).2.2.2.1
    have w2 : υ.1 64 u = uw σ u := (hU.2.2.2.1 u hu).2.2.2.1
    have r50 : υ.1 50 q.2.1.toNat = σ.1 94 q.2.1.toNat := by rw [h50]; exact (hS.2.1 q.2.1.toNat (by omega)).2.2.1
    rw [show ((ps.length : Int) - 1).toNat = k by omega, c1', c2', Int.toNat_natCast q.1, Int.toNat_natCast u, w1, w2, r50, hlast]
    refine ⟨⟨⟨by omega, by omega⟩, fun _ => ⟨by omega, by omega, by omega, fun _ => by omega⟩⟩, ⟨fun z => ⟨q, rfl, z.2.1, z.2.2⟩, fun ⟨q', h, z1, z2⟩ => ?_⟩⟩
    have e : q = q' := Option.some.inj h
    rw [← e] at z1 z2
    exact ⟨by omega, z1, z2⟩
def Rl (σ : St) (E u st : Nat) (fr : Int) (ps : List Pc) : Prop := u < E → us σ u ≠ 6 → ((fr = 1 ↔ st ≤ 1) ∧ (BBp σ ps u ↔ st = 1 ∨ st = 3))
theorem kl_in {σ : St} (hS : IS σ) (hT : IT σ) {u : Nat} (hu : u < nU σ) {l : Int} (h : l ∈ kl σ u) : ∀ x, u < x → x < u + ln3 σ l.toNat → us σ x ≠ 6 := by
  intro x x1 x2 z
  obtain ⟨-, -, hle, -, cr⟩ := kl_mem hS hT hu h
  have := cr x x1 (by omega) (Or.inr z)
  omega
theorem Rl_step {σ : St} (hS : IS σ) (hT : IT σ) {E u st : Nat} {fr : Int} {ps : List Pc} (hE : E ≤ nU σ) (hu : u < E) (h : Rl σ E u st fr ps) (hfr : fr = 0 ∨ fr = 1) {l : Int} {f s : Nat} (hl : l ∈ kl σ u) (h4 : st < 4) (hs : 0 ≤ sbA σ u st l s) : Rl σ E (u + ln3 σ l.toNat) (sbA σ u st l s).toNat (if (¬ us σ u ≠ 6) ∨ (fr ≠ 0 ∧ s = 0) then 1 else 0) (ps ++ [(u, l, f, s)]) := by
  intro h1 h2
  have lp := (ln3_pos (σ := σ) (g := l.toNat)).1
  have hin := kl_in hS hT (show u < nU σ by omega) hl
  have hla : (ps ++ [((u, l, f, s) : Pc)]).getLast? = some (u, l, f, s) := List.getLast?_concat
  by_cases q : us σ u = 6
  · have e0 : sbA σ u st l s = 0 := by unfold sbA; rw [if_pos q]
    rw [e0, if_pos (Or.inl (fun z => z q))]
    refine ⟨⟨fun _ => by decide, fun _ => rfl⟩, ⟨fun ⟨p, hp, z1, _⟩ => ?_, fun z => ?_⟩⟩
    · exfalso
      rw [hla] at hp
      have e : p = (u, l, f, s) := (Option.some.inj hp).symm
      rw [e] at z1
      have z1' : uw σ u = uw σ (u + ln3 σ l.toNat) := z1
      unfold uw at z1'
      rw [if_pos q, if_neg h2] at z1'
      omega
    · exfalso
      rcases z with z | z
      · exact absurd z (by decide)
      · exact absurd z (by decide)
  · have hw : uw σ u = uw σ (u + ln3 σ l.toNat) := uw_same (by omega) (by omega) (fun x x1 x2 => by
      by_cases e1 : x = u
      · rw [e1]; exact q
      · by_cases e2 : x = u + ln3 σ l.toNat
        · rw [e2]; exact h2
        · exact hin x (by omega) (by omega))
    obtain ⟨r1, r2⟩ := h hu q
    have hn : ¬ (0 < s ∧ 0 < st) := fun z => by
      unfold sbA at hs
      rw [if_neg q, if_pos z] at hs
      omega
    have e : sbA σ u st l s = (if 0 < s ∨ 1 < st then 2 else 0) + (if σ.1 94 l.toNat ≠ 0 then 1 else 0) := by
      unfold sbA
      rw [if_neg q, if_neg hn]
    have hb : BBp σ (ps ++ [(u, l, f, s)]) (u + ln3 σ l.toNat) ↔ σ.1 94 l.toNat ≠ 0 := by
      unfold BBp
      rw [hla]
      constructor
      · rintro ⟨p, hp, -, z⟩
        have e : p = (u, l, f, s) := (Option.some.inj hp).symm
        rw [e] at z
        exact z
      · intro z
        exact ⟨(u, l, f, s), rfl, hw, z⟩
    rw [hb, e]
    have c1 : ((¬ us σ u ≠ 6) ∨ (fr ≠ 0 ∧ s = 0)) ↔ ¬ (0 < s ∨ 1 < st) := by
      constructor
      · rintro (z | ⟨z1, z2⟩)
        · exact absurd q z
        · have : st ≤ 1 := r1.mp (by omega)
          omega
      · intro z
        right
        have : fr = 1 := r1.mpr (by omega)
        omega
    by_cases c : 0 < s ∨ 1 < st
    · rw [if_neg (fun z => c1.mp z c), if_pos c]
      by_cases d : σ.1 94 l.toNat ≠ 0
      · rw [if_pos d]
        exact ⟨⟨fun z => absurd z (by decide), fun z => absurd z (by decide)⟩, ⟨fun _ => Or.inr rfl, fun _ => d⟩⟩
      · rw [if_neg d]
        exact ⟨⟨fun z => absurd z (by decide), fun z => absurd z (by decide)⟩, ⟨fun z => absurd z d, fun z => by rcases z with z | z <;> exact absurd z (by decide)⟩⟩
    · rw [if_pos (c1.mpr c), if_neg c]
      by_cases d : σ.1 94 l.toNat ≠ 0
      · rw [if_pos d]
        exact ⟨⟨fun _ => by decide, fun _ => rfl⟩, ⟨fun _ => Or.inl rfl, fun _ => d⟩⟩
      · rw [if_neg d]
        exact ⟨⟨fun _ => by decide, fun _ => rfl⟩, ⟨fun z => absurd z d, fun z => by rcases z with z | z <;> exact absurd z (by decide)⟩⟩
