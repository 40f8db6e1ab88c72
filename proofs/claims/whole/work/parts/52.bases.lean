/-! what pieces the text has: with what must be alone, and with what may be -/
def ln3 (σ : St) (g : Nat) : Nat := if σ.1 89 g = 7 then (if σ.1 92 g < 0 then 2 else 3) else 1
def mtb (σ : St) (g u : Nat) : Bool := decide (u + ln3 σ g ≤ nU σ ∧ σ.1 90 g = ul σ u ∧ σ.1 91 g = ul σ (u + 1) ∧ (σ.1 92 g < 0 ∨ σ.1 92 g = ul σ (u + 2)))
def lmF (σ : St) (u : Nat) : Nat → Int
  | 0 => -1
  | l + 1 => if σ.1 89 l = 7 ∧ σ.1 93 l = 1 ∧ (lmF σ u l < 0 ∨ ln3 σ (lmF σ u l).toNat < ln3 σ l) ∧ mtb σ l u = true then (l : Int) else lmF σ u l
def nL (σ : St) : Nat := (σ.2.1 8 6).toNat
def lbo (σ : St) (u L : Nat) : Int := if lmF σ u L < 0 then ul σ u else lmF σ u L
def lb (σ : St) (u : Nat) : Int := lbo σ u (nL σ)
def bh (σ : St) : Nat → Nat
  | 0 => 0
  | u + 1 => if bh σ u ≤ u then u + ln3 σ (lb σ u).toNat else bh σ u
def bq (σ : St) (u : Nat) : Bool := decide (bh σ u ≤ u)
def bb (σ : St) : Nat → Nat
  | 0 => 0
  | u + 1 => if bh σ (u + 1) ≤ u + 1 then u + 1 else bb σ u
def jn (σ : St) (u : Nat) : Bool := decide (u + 1 < nU σ ∧ us σ u = 0 ∧ (us σ (u + 1) = 0 ∨ us σ (u + 1) = 1))
def aln (σ : St) (u : Nat) : Nat → Bool
  | 0 => true
  | k + 1 => aln σ u k && decide (bh σ (u + k) ≤ u + k ∧ lb σ (u + k) = ul σ (u + k))
def opb (σ : St) (u g : Nat) : Bool := decide (σ.1 89 g = 7 ∧ σ.1 93 g = 0) && (mtb σ g u && aln σ u (ln3 σ g))
def opl (σ : St) (u L : Nat) : List Int := ((List.range L).filter (opb σ u)).map (fun (g : Nat) => (g : Int))
def kl (σ : St) (u : Nat) : List Int := if bh σ u ≤ u then lb σ u :: opl σ u (nL σ) else []
theorem ln3_pos {σ : St} {g : Nat} : 1 ≤ ln3 σ g ∧ ln3 σ g ≤ 3 := by
  unfold ln3
  split
  · split <;> omega
  · omega
theorem ln3_lig {σ : St} {g : Nat} (h : σ.1 89 g = 7) : 2 ≤ ln3 σ g := by
  unfold ln3
  rw [if_pos h]
  split <;> omega
theorem ln3_one {σ : St} {g : Nat} (h : σ.1 89 g ≠ 7) : ln3 σ g = 1 := by
  unfold ln3
  rw [if_neg h]
theorem lmF_spec {σ : St} {u : Nat} : ∀ L, lmF σ u L = -1 ∨ ∃ l : Nat, l < L ∧ lmF σ u L = l ∧ σ.1 89 l = 7 ∧ σ.1 93 l = 1 ∧ mtb σ l u = true
  | 0 => Or.inl rfl
  | L + 1 => by
    unfold lmF
    split
    · rename_i h
      exact Or.inr ⟨L, by omega, rfl, h.1, h.2.1, h.2.2.2⟩
    · rcases lmF_spec (σ := σ) (u := u) L with h | ⟨l, h1, h2⟩
      · exact Or.inl h
      · exact Or.inr ⟨l, by omega, h2⟩
theorem lmF_const {σ : St} {u a : Nat} : ∀ b, a ≤ b → (∀ l, a ≤ l → l < b → σ.1 89 l ≠ 7) → lmF σ u b = lmF σ u a
  | 0, h, _ => by rw [show a = 0 by omega]
  | b + 1, h, hn => by
    by_cases e : a = b + 1
    · rw [e]
    · have := lmF_const (σ := σ) (u := u) (a := a) b (by omega) (fun l h1 h2 => hn l h1 (by omega))
      rw [← this]
      show (if _ then _ else _) = _
      rw [if_neg (fun z => hn b (by omega) (by omega) z.1)]
theorem opl_const {σ : St} {u a : Nat} : ∀ b, a ≤ b → (∀ l, a ≤ l → l < b → σ.1 89 l ≠ 7) → opl σ u b = opl σ u a
  | 0, h, _ => by rw [show a = 0 by omega]
  | b + 1, h, hn => by
    by_cases e : a = b + 1
    · rw [e]
    · have := opl_const (σ := σ) (u := u) (a := a) b (by omega) (fun l h1 h2 => hn l h1 (by omega))
      rw [← this]
      unfold opl
      have hf : opb σ u b = false := by
        unfold opb
        simp [hn b (by omega) (by omega)]
      rw [List.range_succ, List.filter_append, List.filter_cons, if_neg (by rw [hf]; decide)]
      simp
theorem opl_s {σ : St} {u L : Nat} : opl σ u (L + 1) = opl σ u L ++ (if opb σ u L = true then [(L : Int)] else []) := by
  unfold opl
  rw [List.range_succ, List.filter_append, List.map_append, List.filter_cons]
  split <;> simp
/-- a text's unit: its letter -/
theorem ul_ok {σ : St} (hT : IT σ) {u : Nat} (h : u < nU σ) : LOk σ (ul σ u) := by
  obtain ⟨h1, h2, h3⟩ := up_ex h
  obtain ⟨t1, t2, t3, -⟩ := hT
  have := (t3 (up σ u) (by unfold tn at h1; omega)).2
  exact this
theorem us_ul {σ : St} {u : Nat} : us σ u = σ.1 89 (ul σ u).toNat := rfl
theorem lb_spec {σ : St} (hS : IS σ) (hT : IT σ) {u : Nat} (h : u < nU σ) : (0 ≤ lb σ u ∧ lb σ u < σ.2.1 8 6) ∧ u + ln3 σ (lb σ u).toNat ≤ nU σ ∧ (lb σ u = ul σ u ∧ ln3 σ (lb σ u).toNat = 1 ∨ σ.1 89 (lb σ u).toNat = 7 ∧ σ.1 93 (lb σ u).toNat = 1 ∧ mtb σ (lb σ u).toNat u = true) := by
  have n := hS.1
  unfold NumOk at n
  have hu := ul_ok hT h
  unfold LOk at hu
  unfold lb lbo
  rcases lmF_spec (σ := σ) (u := u) (nL σ) with q | ⟨l, q1, q2, q3, q4, q5⟩
  · rw [if_pos (by omega)]
    have := ln3_one hu.2.2
    exact ⟨⟨hu.1, hu.2.1⟩, by omega, Or.inl ⟨rfl, this⟩⟩
  · rw [if_neg (by omega), q2, Int.toNat_natCast]
    unfold nL at q1
    refine ⟨by omega, ?_, Or.inr ⟨q3, q4, q5⟩⟩
    unfold mtb at q5
    rw [decide_eq_true_iff] at q5
    exact q5.1
theorem bh_le {σ : St} (hS : IS σ) (hT : IT σ) : ∀ u, u ≤ nU σ → bh σ u ≤ nU σ
  | 0, _ => Nat.zero_le _
  | u + 1, h => by
    unfold bh
    split
    · exact (lb_spec hS hT (show u < nU σ by omega)).2.1
    · exact bh_le hS hT u (by omega)
theorem bb_le {σ : St} : ∀ u, bb σ u ≤ u
  | 0 => Nat.le_refl _
  | u + 1 => by
    unfold bb
    split
    · omega
    · have := bb_le (σ := σ) u
      omega
theorem bb_self {σ : St} {u : Nat} (h : bh σ u ≤ u) : bb σ u = u := by
  cases u with
  | zero => rfl
  | succ u => unfold bb; rw [if_pos h]
/-- where a unit's piece begins: there one begins, and it reaches as far as is known -/
theorem bb_spec {σ : St} : ∀ u, bh σ (bb σ u) ≤ bb σ u ∧ bh σ (u + 1) = bb σ u + ln3 σ (lb σ (bb σ u)).toNat
  | 0 => ⟨Nat.le_refl _, rfl⟩
  | u + 1 => by
    by_cases h : bh σ (u + 1) ≤ u + 1
    · rw [bb_self h]
      exact ⟨h, by show (if _ then _ else _) = _; rw [if_pos h]⟩
    · have e : bb σ (u + 1) = bb σ u := by
        show (if _ then _ else _) = _
        rw [if_neg h]
      have := bb_spec (σ := σ) u
      rw [e]
      refine ⟨this.1, ?_⟩
      show (if _ then _ else _) = _
      rw [if_neg h]
      exact this.2
theorem bh_gt {σ : St} : ∀ u, u < bh σ (u + 1) := fun u => by
  have e : bh σ (u + 1) = if bh σ u ≤ u then u + ln3 σ (lb σ u).toNat else bh σ u := rfl
  rw [e]
  split
  · have := (ln3_pos (σ := σ) (g := (lb σ u).toNat)).1
    omega
  · omega
/-- ligatures in their order -/
def gN (σ : St) (m : Nat) : Nat := if (m : Int) < σ.2.1 8 7 then (σ.1 51 m).toNat else nL σ
theorem gN_spec {σ : St} (hS : IS σ) {m : Nat} (hm : (m : Int) < σ.2.1 8 7) : LigOk σ m (gN σ m) ∧ gN σ m < nL σ ∧ gN σ m + 1 ≤ gN σ (m + 1) ∧ gN σ (m + 1) ≤ nL σ ∧ ∀ l, gN σ m + 1 ≤ l → l < gN σ (m + 1) → σ.1 89 l ≠ 7 := by
  have n := hS.1
  unfold NumOk at n
  obtain ⟨g, hg⟩ := hS.2.2.2.1 m hm
  have e : gN σ m = g := by
    unfold gN
    rw [if_pos hm, hg.1]
    omega
  rw [e]
  have hlt : g < nL σ := by have := hg.2.1; unfold nL; omega
  have nx : g + 1 ≤ gN σ (m + 1) ∧ gN σ (m + 1) ≤ nL σ := by
    unfold gN
    by_cases q : ((m + 1 : Nat) : Int) < σ.2.1 8 7
    · rw [if_pos q]
      obtain ⟨g', hg'⟩ := hS.2.2.2.1 (m + 1) q
      have := hS.2.2.2.2.2.1 m (m + 1) (by omega) q
      rw [hg.1, hg'.1] at this
      rw [hg'.1]
      have := hg'.2.1
      unfold nL
      omega
    · rw [if_neg q]
      omega
  refine ⟨hg, hlt, nx.1, nx.2, fun l h1 h2 h7 => ?_⟩
  obtain ⟨i, i1, i2⟩ := hS.2.2.2.2.1 l (by unfold nL at nx; omega) h7
  have him : m < i := by
    rcases Nat.lt_trichotomy m i with z | z | z
    · exact z
    · rw [← z, hg.1] at i2; omega
    · have := hS.2.2.2.2.2.1 i m z hm
      rw [i2, hg.1] at this
      omega
  unfold gN at h2
  by_cases q : ((m + 1 : Nat) : Int) < σ.2.1 8 7
  · rw [if_pos q] at h2
    obtain ⟨g', hg'⟩ := hS.2.2.2.1 (m + 1) q
    rw [hg'.1] at h2
    by_cases e2 : i = m + 1
    · rw [e2, hg'.1] at i2; omega
    · have := hS.2.2.2.2.2.1 (m + 1) i (by omega) i1
      rw [hg'.1, i2] at this
      omega
  · omega
theorem gN_first {σ : St} (hS : IS σ) : ∀ l, l < gN σ 0 → σ.1 89 l ≠ 7 := by
  intro l hl h7
  have n := hS.1
  unfold NumOk at n
  have hlt : (l : Int) < σ.2.1 8 6 := by
    by_cases q : ((0 : Nat) : Int) < σ.2.1 8 7
    · have := (gN_spec hS q).2.1
      unfold nL at this
      omega
    · unfold gN at hl
      rw [if_neg q] at hl
      unfold nL at hl
      omega
  obtain ⟨i, i1, i2⟩ := hS.2.2.2.2.1 l hlt h7
  have q : ((0 : Nat) : Int) < σ.2.1 8 7 := by omega
  obtain ⟨g, hg⟩ := hS.2.2.2.1 0 q
  have e : gN σ 0 = g := by
    unfold gN
    rw [if_pos q, hg.1]
    omega
  by_cases e2 : i = 0
  · rw [e2, hg.1] at i2; omega
  · have := hS.2.2.2.2.2.1 0 i (by omega) i1
    rw [hg.1, i2] at this
    omega
theorem ln3_J {σ : St} (hS : IS σ) {l : Nat} (hl : (l : Int) < σ.2.1 8 6) : σ.1 49 l = (ln3 σ l : Int) := by
  unfold ln3
  by_cases h7 : σ.1 89 l = 7
  · obtain ⟨i, i1, i2⟩ := hS.2.2.2.2.1 l hl h7
    obtain ⟨g, g1, g2, g3, -, -, -, -, -, x, y, x1, x2, x3, y1, y2, rest⟩ := hS.2.2.2.1 i i1
    have e : g = l := by omega
    subst e
    rw [if_pos h7]
    rcases rest with ⟨r1, r2, r3, r4⟩ | ⟨z, z1, z2, z3, z4, z5, z6⟩
    · rw [if_pos (by omega)]; exact r3
    · rw [if_neg (by omega)]; exact z5
  · rw [if_neg h7]
    exact ((hS.2.1 l hl).2.2.2.2 h7).2
/-- two that may be of one length, at one place, are the same -/
theorem opb_inj {σ : St} (hS : IS σ) {u a b : Nat} (ha : a < nL σ) (hb : b < nL σ) (qa : σ.1 89 a = 7) (qb : σ.1 89 b = 7) (ma : mtb σ a u = true) (mb : mtb σ b u = true) (hl : ln3 σ a = ln3 σ b) : a = b := by
  unfold nL at ha hb
  obtain ⟨i, i1, i2⟩ := hS.2.2.2.2.1 a (by omega) qa
  obtain ⟨j, j1, j2⟩ := hS.2.2.2.2.1 b (by omega) qb
  obtain ⟨g, g1, g2, g3, g4, g5, g6, -, -, x, y, x1, x2, x3, y1, y2, rest⟩ := hS.2.2.2.1 i i1
  obtain ⟨g', g1', g2', g3', g4', g5', g6', -, -, x', y', x1', x2', x3', y1', y2', rest'⟩ := hS.2.2.2.1 j j1
  have e : g = a := by omega
  have e' : g' = b := by omega
  subst e
  subst e'
  unfold mtb at ma mb
  rw [decide_eq_true_iff] at ma mb
  obtain ⟨m1, m2, m3, m4⟩ := ma
  obtain ⟨m1', m2', m3', m4'⟩ := mb
  unfold ln3 at hl
  rw [if_pos qa, if_pos qb] at hl
  have hz : σ.1 92 g = σ.1 92 g' := by
    by_cases z : σ.1 92 g < 0
    · rw [if_pos z] at hl
      by_cases z' : σ.1 92 g' < 0
      · rcases rest with ⟨r1, -⟩ | ⟨zz, r1, -⟩
        · rcases rest' with ⟨r1', -⟩ | ⟨zz', r1', -⟩
          · rw [r1, r1']
          · omega
        · omega
      · rw [if_neg z'] at hl; omega
    · rw [if_neg z] at hl
      by_cases z' : σ.1 92 g' < 0
      · rw [if_pos z'] at hl; omega
      · rcases m4 with q | q
        · omega
        · rcases m4' with q' | q'
          · omega
          · rw [q, q']
  have := hS.2.2.2.2.2.2.1 i j i1 j1 (by rw [g4, g4', m2, m2']) (by rw [g5, g5', m3, m3']) (by rw [g6, g6', hz])
  subst this
  omega
