/-! the marks of a line, one behind another; putMarks of the class -/
def pbl (σ : St) : Nat → List Pc → List Bx
  | _, [] => []
  | x, q :: r => ((x : Int), (x : Int) + wdp σ q, -σ.1 99 q.2.2.1, σ.1 98 q.2.2.1) :: pbl σ (x + wdp σ q) r
theorem pbl_len {σ : St} : ∀ (ps : List Pc) (x : Nat), (pbl σ x ps).length = ps.length
  | [], _ => rfl
  | q :: ps, x => by simp [pbl, pbl_len ps]
theorem pbl_get {σ : St} : ∀ (ps : List Pc) (x k : Nat) (q : Pc), ps[k]? = some q → (pbl σ x ps)[k]? = some (((x + tw σ (ps.take k) : Nat) : Int), ((x + tw σ (ps.take k) : Nat) : Int) + wdp σ q, -σ.1 99 q.2.2.1, σ.1 98 q.2.2.1)
  | [], _, _, _, h => by simp at h
  | p :: ps, x, 0, q, h => by
    have : p = q := by simpa using h
    subst this
    simp [pbl, tw]
  | p :: ps, x, k + 1, q, h => by
    have h2 : ps[k]? = some q := by simpa using h
    have := pbl_get (σ := σ) ps (x + wdp σ p) k q h2
    show (pbl σ (x + wdp σ p) ps)[k]? = _
    rw [this]
    have e : x + wdp σ p + tw σ (ps.take k) = x + tw σ ((p :: ps).take (k + 1)) := by
      simp [tw]; omega
    rw [e]
theorem LJ_bx {σ τ : St} {L : Nat} {ps : List Pc} (h : LJ σ L ps τ) : BXt (L + 1) (pbl σ 0 ps) τ := by
  obtain ⟨a1, a2, a3, a4⟩ := h
  refine ⟨by rw [pbl_len]; exact a1, fun k x hx => ?_⟩
  have hk : k < ps.length := by
    have := (List.getElem?_eq_some_iff.mp hx).1
    rw [pbl_len] at this
    exact this
  have hq : ps[k]? = some ps[k] := List.getElem?_eq_getElem hk
  have := pbl_get (σ := σ) ps 0 k _ hq
  rw [this] at hx
  have hx2 := Option.some.inj hx
  subst hx2
  obtain ⟨-, -, -, -, b1, b2, b3, b4⟩ := a4 k _ hq
  simp only [Nat.zero_add]
  exact ⟨b1, b2, b3, b4⟩
theorem pbl_bb {σ : St} (hS : IS σ) {ps : List Pc} (hps : ∀ q ∈ ps, GPc σ q) (h80 : ps.length ≤ 80) : BB (pbl σ 0 ps) := by
  intro x hx
  obtain ⟨k, hk, e⟩ := List.getElem_of_mem hx
  rw [pbl_len] at hk
  have hq : ps[k]? = some ps[k] := List.getElem?_eq_getElem hk
  have := pbl_get (σ := σ) ps 0 k _ hq
  rw [List.getElem?_eq_getElem (by rw [pbl_len]; exact hk), e] at this
  have hx2 := Option.some.inj this
  have hm := List.getElem_mem hk
  obtain ⟨p1, p2, -⟩ := piece_b hS (hps _ hm)
  obtain ⟨-, -, b2, b3, -⟩ := form_b hS (hps _ hm).2.2.1
  have t1 := (line_b hS (ps := ps.take k) (fun q hq => hps q (List.mem_of_mem_take hq))).1
  have t2 : (ps.take k).length ≤ k := by simp; omega
  rw [hx2]
  simp only
  omega
def mfm (σ : St) (i : Nat) : Nat := (pfM σ (tx σ i) 0).toNat
def fq (ps : List Pc) (k : Nat) : Nat := match ps[k]? with
  | some q => q.2.2.1
  | none => 0
def edg (σ : St) (k : Nat) (ab : Bool) (e0 : Int) (ms : List Mk) : Int := ms.foldl (fun e m => if m.2.1 = k ∧ ts σ m.1 = (if ab = true then 3 else 4) then (if ab = true then m.2.2.1.2.2.2 else m.2.2.1.2.2.1) else e) e0
def abv (σ : St) (i : Nat) : Bool := decide (ts σ i = 3)
def lyE (σ : St) (ps : List Pc) (ms : List Mk) (i k : Nat) : Int := edg σ k (abv σ i) (if abv σ i = true then σ.1 98 (fq ps k) else -σ.1 99 (fq ps k)) ms
def lyL (σ : St) (ps : List Pc) (i k : Nat) : Int := (tw σ (ps.take k) : Int) + σ.1 101 (fq ps k) - σ.1 97 (mfm σ i) / 2
def lyW (σ : St) (ps : List Pc) (ms : List Mk) (i k : Nat) : Nat := wyA (pbl σ 0 ps ++ mbl ms) (abv σ i) (lyL σ ps i k) (lyL σ ps i k + σ.1 97 (mfm σ i)) (if abv σ i = true then lyE σ ps ms i k else lyE σ ps ms i k - σ.1 98 (mfm σ i)) (σ.1 98 (mfm σ i))
def lyB (σ : St) (ps : List Pc) (ms : List Mk) (i k : Nat) : Int := if abv σ i = true then lyE σ ps ms i k + lyW σ ps ms i k else lyE σ ps ms i k - σ.1 98 (mfm σ i) - lyW σ ps ms i k
def lay1 (σ : St) (ps : List Pc) (ms : List Mk) (i k : Nat) : Mk := (i, k, (lyL σ ps i k, lyL σ ps i k + σ.1 97 (mfm σ i), lyB σ ps ms i k, lyB σ ps ms i k + σ.1 98 (mfm σ i)), lyW σ ps ms i k)
/-- how far marks can lie -/
def MBd (ms : List Mk) : Prop := ∀ m ∈ ms, (-300 ≤ m.2.2.1.1 ∧ m.2.2.1.1 ≤ 9300) ∧ (-300 ≤ m.2.2.1.2.1 ∧ m.2.2.1.2.1 ≤ 9400) ∧ (-(100 + 500 * (ms.length : Int)) ≤ m.2.2.1.2.2.1 ∧ m.2.2.1.2.2.1 ≤ 100 + 500 * (ms.length : Int)) ∧ (-(100 + 500 * (ms.length : Int)) ≤ m.2.2.1.2.2.2 ∧ m.2.2.1.2.2.2 ≤ 100 + 500 * (ms.length : Int))
theorem MBd_bb {ms : List Mk} (h : MBd ms) (h80 : ms.length ≤ 80) : BB (mbl ms) := by
  intro x hx
  unfold mbl at hx
  obtain ⟨m, hm, e⟩ := List.mem_map.mp hx
  obtain ⟨a, b, c, d⟩ := h m hm
  rw [← e]
  omega
theorem edg_b {σ : St} {k : Nat} {ab : Bool} {B : Int} : ∀ (ms : List Mk) (e0 : Int), (-B ≤ e0 ∧ e0 ≤ B) → (∀ m ∈ ms, (-B ≤ m.2.2.1.2.2.1 ∧ m.2.2.1.2.2.1 ≤ B) ∧ (-B ≤ m.2.2.1.2.2.2 ∧ m.2.2.1.2.2.2 ≤ B)) → -B ≤ edg σ k ab e0 ms ∧ edg σ k ab e0 ms ≤ B
  | [], e0, h, _ => h
  | m :: ms, e0, h, hm => by
    unfold edg
    rw [List.foldl_cons]
    obtain ⟨a, b⟩ := hm m (List.mem_cons_self ..)
    refine edg_b ms _ ?_ (fun x hx => hm x (List.mem_cons_of_mem _ hx))
    repeat' split
    all_goals first | exact a | exact b | exact h
theorem mark_form {σ : St} (hS : IS σ) (hT : IT σ) {i : Nat} (hi : i < tn σ) (hm : σ.1 105 (4 * (tx σ i).toNat) ≠ 0) : pfM σ (tx σ i) 0 = (mfm σ i : Int) ∧ FOk σ (mfm σ i) := by
  obtain ⟨t1, t2, t3, -⟩ := hT
  obtain ⟨x1, x2, x3, x4⟩ := t3 i (by unfold tn at hi; omega)
  have hl : 0 ≤ tx σ i ∧ tx σ i < σ.2.1 8 6 := ⟨x2, x3⟩
  have e0 : (4 * tx σ i + 0).toNat = 4 * (tx σ i).toNat := by omega
  have hp : pfM σ (tx σ i) 0 = σ.1 104 (3 * (4 * tx σ i + 0)).toNat := by
    unfold pfM
    rw [e0, if_neg hm]
  obtain ⟨s1, s2, s3⟩ := hS.2.2.2.2.2.2.2.2.2.1 (4 * (tx σ i).toNat) (by omega)
  obtain ⟨-, f, f1, f2, -⟩ := s3 0 (by omega)
  rw [show (3 * (4 * tx σ i + 0)).toNat = 3 * (4 * (tx σ i).toNat) + 0 by omega, f1] at hp
  unfold mfm
  rw [hp, Int.toNat_natCast]
  exact ⟨rfl, f2⟩
theorem lay_b {σ : St} (hS : IS σ) (hT : IT σ) {ps : List Pc} {ms : List Mk} {i k : Nat} (hps : ∀ q ∈ ps, GPc σ q) (h80 : ps.length ≤ 80) (hk : k < ps.length) (hi : i < tn σ) (hf : σ.1 105 (4 * (tx σ i).toNat) ≠ 0) (hms : MBd ms) (hm8 : ms.length ≤ 80) : (-(100 + 500 * (ms.length : Int)) ≤ lyE σ ps ms i k ∧ lyE σ ps ms i k ≤ 100 + 500 * (ms.length : Int)) ∧ (-300 ≤ lyL σ ps i k ∧ lyL σ ps i k ≤ 9300) ∧ MBd (ms ++ [lay1 σ ps ms i k]) := by
  obtain ⟨-, hfo⟩ := mark_form hS hT hi hf
  obtain ⟨-, c1, c2, c3, -, -, -, -⟩ := form_b hS hfo
  have hq : ps[k]? = some ps[k] := List.getElem?_eq_getElem hk
  have hG := hps _ (List.getElem_mem hk)
  have hfq : fq ps k = (ps[k]).2.2.1 := by unfold fq; rw [hq]
  obtain ⟨-, d1, d2, d3, -, d5, -, -⟩ := form_b hS hG.2.2.1
  rw [← hfq] at d1 d2 d3 d5
  have t1 := (line_b hS (ps := ps.take k) (fun q hq => hps q (List.mem_of_mem_take hq))).1
  have t2 : (ps.take k).length ≤ k := by simp; omega
  have hE : -(100 + 500 * (ms.length : Int)) ≤ lyE σ ps ms i k ∧ lyE σ ps ms i k ≤ 100 + 500 * (ms.length : Int) := by
    unfold lyE
    refine edg_b ms _ ?_ (fun m hm => ⟨(hms m hm).2.2.1, (hms m hm).2.2.2⟩)
    split <;> omega
  have hLb : -300 ≤ lyL σ ps i k ∧ lyL σ ps i k ≤ 9300 := by
    unfold lyL
    omega
  have hW : lyW σ ps ms i k ≤ 300 := wyA_le
  have hBb : -(100 + 500 * ((ms.length : Int) + 1)) ≤ lyB σ ps ms i k ∧ lyB σ ps ms i k + σ.1 98 (mfm σ i) ≤ 100 + 500 * ((ms.length : Int) + 1) := by
    unfold lyB
    split <;> omega
  refine ⟨hE, hLb, fun m hm => ?_⟩
  simp only [List.length_append, List.length_cons, List.length_nil]
  rcases List.mem_append.mp hm with q | q
  · obtain ⟨a, b, c, d⟩ := hms m q
    omega
  · have e : m = lay1 σ ps ms i k := by simpa using q
    subst e
    unfold lay1
    simp only
    omega
theorem t_putMark {G : GT} {σ τ : St} {L : Nat} (hS : IS σ) (hT : IT σ) (hL : isL L) (hF : Fr WF σ τ) {ps : List Pc} {ms : List Mk} {i k : Nat} (hps : ∀ q ∈ ps, GPc σ q) (h80 : ps.length ≤ 80) (hk : k < ps.length) (hi : i < tn σ) (hf : σ.1 105 (4 * (tx σ i).toNat) ≠ 0) (hms : MBd ms) (hm8 : ms.length < 80) (hLJ : LJ σ L ps τ) (hMK : MKt (L + 6) ms τ) : CJ G m_LN_putMark [O L, I i, I k, I (lyE σ ps ms i k), I (if abv σ i = true then 1 else 0)] τ (fun r υ => r = (if abv σ i = true then lyB σ ps ms i k + σ.1 98 (mfm σ i) else lyB σ ps ms i k) ∧ MKt (L + 6) (ms ++ [lay1 σ ps ms i k]) υ ∧ LJ σ L ps υ ∧ Fr (fun x => L + 7 ≤ x ∧ x ≤ L + 14) τ υ) := by
  have n := hS.1
  unfold NumOk at n
  have hL2 : L = 9 ∨ L = 28 := hL
  obtain ⟨t1, t2, t3, -⟩ := id hT
  have tn8 : tn σ ≤ 80 := by unfold tn; omega
  obtain ⟨x1, x2, x3, x4⟩ := t3 i (by unfold tn at hi; omega)
  have hl : 0 ≤ tx σ i ∧ tx σ i < σ.2.1 8 6 := ⟨x2, x3⟩
  obtain ⟨m1, m2⟩ := mark_form hS hT hi hf
  obtain ⟨c0, c1, c2, c3, -, -, -, -⟩ := form_b hS m2
  obtain ⟨j1, j2, -⟩ := form_J hS m2
  have hq : ps[k]? = some ps[k] := List.getElem?_eq_getElem hk
  have hG := hps _ (List.getElem_mem hk)
  have hfq : fq ps k = (ps[k]).2.2.1 := by unfold fq; rw [hq]
  obtain ⟨d0, d1, d2, d3, -, d5, -, -⟩ := form_b hS hG.2.2.1
  obtain ⟨-, -, -, -, jp, -, -⟩ := form_J hS hG.2.2.1
  rw [← hfq] at d0 d1 d2 d3 d5 jp
  obtain ⟨-, -, a17, -, a2, -, -, -⟩ := hLJ.2.2.2 k _ hq
  rw [← hfq] at a17
  obtain ⟨b1, b2, b3⟩ := lay_b hS hT hps h80 hk hi hf hms (by omega)
  have r57 : τ.1 57 i = tx σ i := by rw [(hF.1 57 (by unfold WF; omega)).1]; exact x1
  have cM : τ.2.1 (L + 7) 0 = ms.length := by have := hMK.1.1; unfold mbl at this; rw [List.length_map] at this; exact this
  refine CJ.go (fun R => k_LN_putMark_0 hL ?_)
  obtain ⟨p1, p2, p3⟩ := pf_J (τ := τ) hS (hF.1 55 (by unfold WF; omega)).1 (hF.1 56 (by unfold WF; omega)).1 R hl (show (0 : Int) ≤ 0 ∧ (0 : Int) ≤ 3 by omega)
  rw [Int.toNat_natCast, Int.toNat_natCast, r57, p2, m1, Int.toNat_natCast, a17, Int.toNat_natCast, (hF.1 (176 + mfm σ i) (by unfold WF; omega)).1, (hF.1 (176 + fq ps k) (by unfold WF; omega)).1, j1, jp, a2, cM, Int.toNat_natCast]
  refine ⟨by omega, p1, fun _ => ⟨by omega, by omega, by omega, by omega, by omega, ⟨by omega, by omega⟩, fun s16 e16 => ⟨⟨by omega, by omega⟩, fun s20 e20 => ?_⟩⟩, fun z => absurd z (by omega)⟩
  have A20 : ∀ y, y ≠ L + 12 → y ≠ L + 13 → s20.1 y = τ.1 y := fun y h1 h2 => by rw [e20, e16, sa_ne h2, sa_ne h1]
  have E20 : s20.2 = τ.2 := by rw [e20, e16]; rfl
  have hcast : ∀ y, y < L + 12 ∨ L + 13 < y → s20.1 y = τ.1 y := fun y hy => A20 y (by omega) (by omega)
  rw [hcast (176 + mfm σ i) (by omega), (hF.1 (176 + mfm σ i) (by unfold WF; omega)).1, j1, j2]
  have hPB : BXt (L + 1) (pbl σ 0 ps) s20 := by
    obtain ⟨u1, u2⟩ := LJ_bx hLJ
    refine ⟨by rw [E20]; exact u1, ?_⟩
    rw [hcast _ (by omega), hcast _ (by omega), hcast _ (by omega), hcast _ (by omega)]
    exact u2
  have hMB : BXt (L + 7) (mbl ms) s20 := by
    obtain ⟨u1, u2⟩ := hMK.1
    refine ⟨by rw [E20]; exact u1, ?_⟩
    rw [hcast _ (by omega), hcast _ (by omega), hcast _ (by omega), hcast _ (by omega)]
    exact u2
  have lenM : (mbl ms).length = ms.length := by unfold mbl; rw [List.length_map]
  refine CJ.mono (t_lift (ab := abv σ i) hL hPB hMB (pbl_bb hS hps h80) (MBd_bb hms (by omega)) (by rw [pbl_len]; exact h80) (by rw [lenM]; exact hm8) (l := lyL σ ps i k) (w := σ.1 97 (mfm σ i)) (e := lyE σ ps ms i k) (h := σ.1 98 (mfm σ i)) (by omega) (by omega) (by omega) c2) (fun r υ _ hυ => ?_)
  obtain ⟨b, wy, w1, w2, w3, w4, w5, w6, w7, w8, w9⟩ := hυ
  have ewy : wy = lyW σ ps ms i k := w1
  have eb : b = lyB σ ps ms i k := by rw [w2, ewy]; rfl
  rw [lenM] at w5 w6
  have F1 : Fr (fun x => L + 7 ≤ x ∧ x ≤ L + 14) τ υ := by
    refine ⟨fun y hy => ⟨?_, ?_⟩, ?_⟩
    · rw [w7 y (by omega)]; exact A20 y (by omega) (by omega)
    · rw [w8 y (by omega), E20]
    · rw [w9, E20]
  refine ⟨by rw [w3, eb], ⟨?_, fun y m hy => ?_⟩, ?_, F1⟩
  · have : mbl (ms ++ [lay1 σ ps ms i k]) = mbl ms ++ [(lyL σ ps i k, lyL σ ps i k + σ.1 97 (mfm σ i), b, b + σ.1 98 (mfm σ i))] := by
      unfold mbl
      rw [List.map_append, eb]
      rfl
    rw [this]
    exact w4
  · show υ.1 (L + 12) y = _ ∧ υ.1 (L + 13) y = _ ∧ υ.1 (L + 14) y = _
    rw [w7 (L + 12) (by omega), w7 (L + 13) (by omega)]
    by_cases hy2 : y < ms.length
    · rw [List.getElem?_append_left hy2] at hy
      have hne : y ≠ ms.length := by omega
      have := hMK.2 y m hy
      rw [w6 y hne, hcast (L + 14) (by omega), e20, e16, sa_nx hne, sa_nx hne, sa_nx hne, sa_nx hne]
      exact this
    · have hy3 : y = ms.length := by
        have := (List.getElem?_eq_some_iff.mp hy).1
        simp at this
        omega
      subst hy3
      rw [List.getElem?_concat_length] at hy
      have hm2 := Option.some.inj hy
      subst hm2
      rw [w5, e20, e16, sa_ne (show L + 12 ≠ L + 13 by omega), sa_at, sa_at, ewy]
      exact ⟨rfl, rfl, rfl⟩
  · unfold LJ at hLJ ⊢
    have o : ∀ y, y ≤ L + 6 ∨ L + 15 ≤ y → υ.1 y = τ.1 y ∧ υ.2.1 y = τ.2.1 y := fun y hy => F1.1 y (by omega)
    rw [(o (L + 1) (by omega)).2, (o L (by omega)).2, (o (L + 15) (by omega)).1, (o (L + 16) (by omega)).1, (o (L + 17) (by omega)).1, (o (L + 18) (by omega)).1, (o (L + 2) (by omega)).1, (o (L + 3) (by omega)).1, (o (L + 4) (by omega)).1, (o (L + 5) (by omega)).1]
    exact hLJ
