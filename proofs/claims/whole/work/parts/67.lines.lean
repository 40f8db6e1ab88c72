/-! a line that is set: its pieces as a list -/
abbrev Pc : Type := Nat × Int × Nat × Nat
def GPc (σ : St) (q : Pc) : Prop := q.1 < nU σ ∧ q.2.1 ∈ kl σ q.1 ∧ FOk σ q.2.2.1 ∧ (q.2.2.2 : Int) ≤ σ.1 102 q.2.2.1 ∧ σ.1 95 q.2.2.1 = q.2.1 ∧ σ.1 96 q.2.2.1 = plc σ q.1 q.2.1
def Chn (σ : St) : Nat → List Pc → Nat → Prop
  | u, [], v => u = v
  | u, q :: ps, v => q.1 = u ∧ GPc σ q ∧ Chn σ (u + ln3 σ q.2.1.toNat) ps v
theorem Chn_snoc {σ : St} {q : Pc} (hq : GPc σ q) : ∀ {ps : List Pc} {u : Nat}, Chn σ u ps q.1 → Chn σ u (ps ++ [q]) (q.1 + ln3 σ q.2.1.toNat)
  | [], u, h => by
    have e : u = q.1 := h
    subst e
    exact ⟨rfl, hq, rfl⟩
  | p :: ps, u, h => ⟨h.1, h.2.1, Chn_snoc hq h.2.2⟩
theorem Chn_len {σ : St} : ∀ {ps : List Pc} {u v : Nat}, Chn σ u ps v → u + ps.length ≤ v
  | [], u, v, h => by have e : u = v := h; simp; omega
  | p :: ps, u, v, h => by
    have := Chn_len h.2.2
    have := (ln3_pos (σ := σ) (g := p.2.1.toNat)).1
    simp
    omega
theorem Chn_G {σ : St} : ∀ {ps : List Pc} {u v : Nat}, Chn σ u ps v → ∀ q ∈ ps, GPc σ q ∧ u ≤ q.1 ∧ q.1 + ln3 σ q.2.1.toNat ≤ v
  | [], _, _, _ => fun q h => absurd h (by simp)
  | p :: ps, u, v, h => fun q hq => by
    have hl := Chn_len h.2.2
    rcases List.mem_cons.mp hq with rfl | hq
    · exact ⟨h.2.1, by have := h.1; omega, by have := h.1; omega⟩
    · obtain ⟨a, b, c⟩ := Chn_G h.2.2 q hq
      exact ⟨a, by omega, c⟩
def wdp (σ : St) (q : Pc) : Nat := wd σ q.2.2.1 q.2.2.2
def csp (σ : St) (q : Pc) : Int := cst σ q.2.2.1 q.2.2.2
def tw (σ : St) : List Pc → Nat
  | [] => 0
  | q :: ps => wdp σ q + tw σ ps
def tp (σ : St) : List Pc → Int
  | [] => 0
  | q :: ps => csp σ q + tp σ ps
theorem tw_app {σ : St} : ∀ {ps qs : List Pc}, tw σ (ps ++ qs) = tw σ ps + tw σ qs
  | [], _ => by simp [tw]
  | p :: ps, qs => by
    show wdp σ p + tw σ (ps ++ qs) = wdp σ p + tw σ ps + tw σ qs
    rw [tw_app]; omega
theorem tp_app {σ : St} : ∀ {ps qs : List Pc}, tp σ (ps ++ qs) = tp σ ps + tp σ qs
  | [], _ => by simp [tp]
  | p :: ps, qs => by
    show csp σ p + tp σ (ps ++ qs) = csp σ p + tp σ ps + tp σ qs
    rw [tp_app]; omega
theorem piece_b {σ : St} (hS : IS σ) {q : Pc} (hq : GPc σ q) : 1 ≤ wdp σ q ∧ wdp σ q ≤ 112 ∧ 0 ≤ csp σ q ∧ csp σ q ≤ 8200 := by
  obtain ⟨-, -, h3, h4, -⟩ := hq
  obtain ⟨-, a, -, -, -, -, b, -⟩ := form_b hS h3
  obtain ⟨c, d⟩ := cst_b hS h3 h4
  unfold wdp wd csp
  exact ⟨by omega, by omega, c, d⟩
theorem line_b {σ : St} (hS : IS σ) : ∀ {ps : List Pc}, (∀ q ∈ ps, GPc σ q) → tw σ ps ≤ 112 * ps.length ∧ 0 ≤ tp σ ps ∧ tp σ ps ≤ 8200 * ps.length
  | [], _ => by simp [tw, tp]
  | p :: ps, h => by
    have := line_b hS (ps := ps) (fun q hq => h q (List.mem_cons_of_mem _ hq))
    have hp := piece_b hS (h p (List.mem_cons_self ..))
    simp only [tw, tp, List.length_cons]
    omega
/-- the class's line L holds these pieces -/
def LJ (σ : St) (L : Nat) (ps : List Pc) (τ : St) : Prop := τ.2.1 (L + 1) 0 = ps.length ∧ τ.2.1 L 2 = tw σ ps ∧ τ.2.1 L 3 = tp σ ps ∧ ∀ k q, ps[k]? = some q → τ.1 (L + 15) k = q.2.1 ∧ τ.1 (L + 16) k = q.1 ∧ τ.1 (L + 17) k = q.2.2.1 ∧ τ.1 (L + 18) k = q.2.2.2 ∧ τ.1 (L + 2) k = tw σ (ps.take k) ∧ τ.1 (L + 3) k = (tw σ (ps.take k) : Int) + wdp σ q ∧ τ.1 (L + 4) k = -σ.1 99 q.2.2.1 ∧ τ.1 (L + 5) k = σ.1 98 q.2.2.1
def WLn (L k : Nat) : Prop := L ≤ k ∧ k ≤ L + 18
theorem t_addPiece {G : GT} {σ τ : St} {L : Nat} (hS : IS σ) (hL : isL L) (hrow : ∀ f, FOk σ f → τ.1 (176 + f) = σ.1 (176 + f)) {ps : List Pc} {q : Pc} (hps : ∀ p ∈ ps, GPc σ p) (hq : GPc σ q) (h80 : ps.length < 80) (hn8 : nU σ ≤ 80) (h : LJ σ L ps τ) : CJ G m_LN_addPiece [O L, I q.2.1, I q.1, I q.2.2.1, I q.2.2.2] τ (fun _ υ => LJ σ L (ps ++ [q]) υ ∧ Fr (WLn L) τ υ ∧ υ.2.1 L 4 = τ.2.1 L 4 ∧ υ.2.1 L 5 = τ.2.1 L 5) := by
  have n := hS.1
  unfold NumOk at n
  obtain ⟨u, l, f, s⟩ := q
  obtain ⟨g1, g2, g3, g4, g5, g6⟩ := id hq
  simp only at g1 g2 g3 g4 g5 g6
  obtain ⟨b0, b1, b2, b3, b4, b5, b6, b7⟩ := form_b hS g3
  obtain ⟨j1, j2, j3, j4, j5, j6, j7⟩ := form_J hS g3
  obtain ⟨p1, p2, p3, p4⟩ := piece_b hS hq
  obtain ⟨q1, q2, q3⟩ := line_b hS hps
  obtain ⟨a1, a2, a3, a4⟩ := h
  have hl0 : 0 ≤ l ∧ l < σ.2.1 8 6 := by
    obtain ⟨-, -, -, -, -, -, -, -, -, ⟨x, x1, x2⟩, -⟩ := hS.2.2.2.2.2.2.2.1 f g3
    omega
  have hr := hrow f g3
  refine CJ.go (fun _ => k_LN_addPiece_0 hL ?_)
  rw [a1, a2, Int.toNat_natCast, Int.toNat_natCast]
  simp only
  refine ⟨by omega, by omega, ⟨by omega, by omega⟩, fun s5 e5 => ⟨⟨by omega, by omega⟩, fun s8 e8 => ⟨⟨by omega, by omega⟩, fun s11 e11 => ⟨⟨by omega, by omega⟩, fun s14 e14 => ?_⟩⟩⟩⟩
  have hL2 : L = 9 ∨ L = 28 := hL
  have r14 : s14.1 (176 + f) = σ.1 (176 + f) := by rw [e14, e11, e8, e5, sa_ne (by omega), sa_ne (by omega), sa_ne (by omega), sa_ne (by omega)]; exact hr
  rw [r14, j1, j2, j3]
  have hwd : (tw σ ps : Int) + σ.1 97 f + (s : Int) = (tw σ ps : Int) + (wdp σ (u, l, f, s) : Int) := by unfold wdp wd; simp only; omega
  rw [hwd]
  have hB : isB (L + 1) := by rcases hL2 with e | e <;> rw [e]; exact Or.inl rfl; exact Or.inr (Or.inr (Or.inl rfl))
  have c14 : s14.2.1 (L + 1) 0 = ps.length := by rw [e14, e11, e8, e5]; exact a1
  refine CJ.go (fun _ => k_BX_addBox_0 hB ?_)
  rw [c14, Int.toNat_natCast]
  refine ⟨by omega, ⟨by omega, by omega⟩, fun t4 f4 => ⟨⟨by omega, by omega⟩, fun t8 f8 => ⟨⟨by omega, by omega⟩, fun t12 f12 => ⟨⟨by omega, by omega⟩, fun t16 f16 => ⟨⟨by omega, by omega⟩, fun t19 f19 => ⟨⟨by omega, by omega⟩, fun s22 e22 => ?_⟩⟩⟩⟩⟩⟩
  have r22 : s22.1 (176 + f) = σ.1 (176 + f) := by rw [e22, f19, f16, f12, f8, f4, sf_1, sf_1, sa_ne (by omega), sa_ne (by omega), sa_ne (by omega), sa_ne (by omega)]; exact r14
  rw [r22, j4, j7]
  have hcs : σ.1 100 f + σ.1 103 f * s * s = csp σ (u, l, f, s) := rfl
  rw [hcs]
  have p21 : t19.2.1 L 3 = tp σ ps := by
    rw [f19, sf_ne (by omega)]
    show t16.2.1 L 3 = _
    rw [f16, f12, f8, f4, e14, e11, e8, e5]
    exact a3
  rw [p21]
  refine ⟨⟨by omega, by omega⟩, ⟨by omega, by omega⟩, fun s28 e28 => ?_⟩
  have A : ∀ k i, s28.1 k i = if k = L + 5 ∧ i = ps.length then σ.1 98 f else if k = L + 4 ∧ i = ps.length then -σ.1 99 f else if k = L + 3 ∧ i = ps.length then (tw σ ps : Int) + (wdp σ (u, l, f, s) : Int) else if k = L + 2 ∧ i = ps.length then (tw σ ps : Int) else if k = L + 18 ∧ i = ps.length then (s : Int) else if k = L + 17 ∧ i = ps.length then (f : Int) else if k = L + 16 ∧ i = ps.length then (u : Int) else if k = L + 15 ∧ i = ps.length then l else τ.1 k i := fun k i => by
    rw [e28, e22, f19, f16, f12, f8, f4, e14, e11, e8, e5]
    show (sa _ (L + 1 + 4) _ _).1 k i = _
    rw [show L + 1 + 4 = L + 5 by omega, show L + 1 + 3 = L + 4 by omega, show L + 1 + 2 = L + 3 by omega, show L + 1 + 1 = L + 2 by omega]
    rfl
  have E : s28.2 = (sf (sf (sf τ (L + 1) 0 ((ps.length : Int) + 1)) L 2 ((tw σ ps : Int) + (wdp σ (u, l, f, s) : Int))) L 3 (tp σ ps + csp σ (u, l, f, s))).2 := by
    rw [e28, e22, f19, f16, f12, f8, f4, e14, e11, e8, e5]; rfl
  refine ⟨⟨?_, ?_, ?_, fun k p hp => ?_⟩, ⟨fun k hk => ⟨funext fun i => ?_, funext fun j => ?_⟩, by rw [E]; rfl⟩, ?_, ?_⟩
  · rw [E, sf_ne (by omega), sf_ne (by omega), sf_at]; simp
  · rw [E, sf_nx (by decide), sf_at, tw_app]; simp [tw]
  · rw [E, sf_at, tp_app]; simp [tp]
  · by_cases hk : k < ps.length
    · rw [List.getElem?_append_left hk] at hp
      have hne : k ≠ ps.length := by omega
      have R : ∀ a, s28.1 a k = τ.1 a k := fun a => by rw [A]; simp [hne]
      rw [R, R, R, R, R, R, R, R, List.take_append_of_le_length (by omega)]
      exact a4 k p hp
    · have hk2 : k = ps.length := by
        have := (List.getElem?_eq_some_iff.mp hp).1
        simp at this
        omega
      subst hk2
      rw [List.getElem?_concat_length] at hp
      have hp2 := Option.some.inj hp
      subst hp2
      rw [List.take_left' rfl]
      refine ⟨?_, ?_, ?_, ?_, ?_, ?_, ?_, ?_⟩ <;> rw [A] <;> simp
  · unfold WLn at hk
    rw [A, if_neg (by omega), if_neg (by omega), if_neg (by omega), if_neg (by omega), if_neg (by omega), if_neg (by omega), if_neg (by omega), if_neg (by omega)]
  · unfold WLn at hk
    rw [E, sf_ne (by omega), sf_ne (by omega), sf_ne (by omega)]
  · rw [E, sf_nx (by decide), sf_nx (by decide), sf_ne (by omega)]
  · rw [E, sf_nx (by decide), sf_nx (by decide), sf_ne (by omega)]
theorem t_lnBegin {G : GT} {σ τ : St} {L : Nat} (hL : isL L) (hU : UNx σ τ) {F E : Nat} (hF : F < E) (hE : E ≤ nU σ) (h8 : nU σ ≤ 80) : CJ G m_LN_begin [O L, I F, I ((E : Int) - 1)] τ (fun _ υ => LJ σ L [] υ ∧ Fr (WLn L) τ υ ∧ υ.2.1 L 4 = up σ F ∧ υ.2.1 L 5 = la σ (E - 1)) := by
  have hL2 : L = 9 ∨ L = 28 := hL
  refine CJ.go (fun _ => k_LN_begin_0 hL (fun s1 e1 s3 e3 s5 e5 => ⟨by omega, fun s9 e9 => ⟨by omega, fun s13 e13 => ?_⟩⟩))
  rw [Int.toNat_natCast, (hU.2.2.2.1 F (by omega)).1] at e9
  rw [show ((E : Int) - 1).toNat = E - 1 by omega, (hU.2.2.2.1 (E - 1) (by omega)).2.1] at e13
  refine ⟨⟨?_, ?_, ?_, fun k p hp => by simp at hp⟩, ?_, ?_, ?_⟩
  · rw [e13, e9, e5, sf_ne (by omega), sf_ne (by omega), sf_at]; rfl
  · rw [e13, e9, e5, e3, e1, sf_nx (by decide), sf_nx (by decide), sf_ne (by omega), sf_nx (by decide), sf_at]; rfl
  · rw [e13, e9, e5, e3, sf_nx (by decide), sf_nx (by decide), sf_ne (by omega), sf_at]; rfl
  · rw [e13, e9, e5, e3, e1]
    exact ((((Fr.refl.sf ⟨by omega, by omega⟩).sf ⟨by omega, by omega⟩).sf ⟨by omega, by omega⟩).sf ⟨by omega, by omega⟩).sf ⟨by omega, by omega⟩
  · rw [e13, e9, sf_nx (by decide), sf_at]
  · rw [e13, sf_at]
