/-! counting; the text's units and words -/
def cnt (q : Nat → Bool) : Nat → Nat
  | 0 => 0
  | i + 1 => cnt q i + (if q i = true then 1 else 0)
theorem cnt_s {q : Nat → Bool} {i : Nat} : cnt q (i + 1) = cnt q i + (if q i = true then 1 else 0) := rfl
theorem cnt_t {q : Nat → Bool} {i : Nat} (h : q i = true) : cnt q (i + 1) = cnt q i + 1 := by rw [cnt_s, if_pos h]
theorem cnt_f {q : Nat → Bool} {i : Nat} (h : q i = false) : cnt q (i + 1) = cnt q i := by rw [cnt_s, if_neg (by rw [h]; decide)]; rfl
theorem cnt_le (q : Nat → Bool) : ∀ i, cnt q i ≤ i
  | 0 => Nat.le_refl _
  | i + 1 => by
    have := cnt_le q i
    rw [cnt_s]
    split <;> omega
theorem cnt_mono {q : Nat → Bool} {i : Nat} : ∀ {j : Nat}, i ≤ j → cnt q i ≤ cnt q j
  | 0, h => by rw [show i = 0 by omega]; exact Nat.le_refl _
  | j + 1, h => by
    by_cases e : i = j + 1
    · rw [e]; exact Nat.le_refl _
    · have := cnt_mono (q := q) (i := i) (j := j) (by omega)
      rw [cnt_s]
      omega
theorem cnt_lt {q : Nat → Bool} {i j : Nat} (hq : q i = true) (h : i < j) : cnt q i < cnt q j := by
  have := cnt_mono (q := q) (i := i + 1) (j := j) (by omega)
  rw [cnt_t hq] at this
  omega
theorem cnt_inj {q : Nat → Bool} {i j : Nat} (hi : q i = true) (hj : q j = true) (h : cnt q i = cnt q j) : i = j := by
  rcases Nat.lt_trichotomy i j with z | z | z
  · have := cnt_lt hi z; omega
  · exact z
  · have := cnt_lt hj z; omega
theorem cnt_step {q : Nat → Bool} {i j : Nat} (h : i ≤ j) : cnt q j ≤ cnt q i + (j - i) := by
  induction j with
  | zero => rw [show i = 0 by omega]; omega
  | succ j ih =>
    by_cases e : i = j + 1
    · rw [e]; omega
    · have := ih (by omega)
      rw [cnt_s]
      split <;> omega
def pos (q : Nat → Bool) : Nat → Nat → Nat
  | 0, _ => 0
  | n + 1, c => if q n = true ∧ cnt q n = c then n else pos q n c
theorem pos_eq {q : Nat → Bool} {i : Nat} (hq : q i = true) : ∀ {n : Nat}, i < n → pos q n (cnt q i) = i
  | 0, h => absurd h (by omega)
  | n + 1, h => by
    unfold pos
    by_cases e : i = n
    · rw [if_pos ⟨by rw [← e]; exact hq, by rw [e]⟩, e]
    · have := cnt_lt hq (show i < n by omega)
      rw [if_neg (by omega)]
      exact pos_eq hq (by omega)
theorem pos_ex {q : Nat → Bool} {c : Nat} : ∀ {n : Nat}, c < cnt q n → pos q n c < n ∧ q (pos q n c) = true ∧ cnt q (pos q n c) = c
  | 0, h => absurd h (by show ¬ c < 0; omega)
  | n + 1, h => by
    unfold pos
    by_cases e : q n = true ∧ cnt q n = c
    · rw [if_pos e]
      exact ⟨by omega, e⟩
    · rw [if_neg e]
      have hc : c < cnt q n := by
        rw [cnt_s] at h
        by_cases z : q n = true
        · rw [if_pos z] at h
          have : cnt q n ≠ c := fun w => e ⟨z, w⟩
          omega
        · rw [if_neg z] at h
          exact h
      have := pos_ex (q := q) (c := c) (n := n) hc
      exact ⟨by omega, this.2⟩
/-! the text -/
def cs (s : Nat → Int) : Nat → Bool
  | 0 => false
  | i + 1 => if s i = 6 then false else if s i = 3 ∨ s i = 4 then cs s i else true
def sd (s : Nat → Int) (i : Nat) : Bool := decide (s i = 3 ∨ s i = 4) && cs s i
def nst (s : Nat → Int) (i : Nat) : Bool := !sd s i
def iw (s : Nat → Int) : Nat → Bool
  | 0 => false
  | i + 1 => decide (s i ≠ 6)
def wst (s : Nat → Int) (i : Nat) : Bool := decide (s i ≠ 6) && !iw s i
theorem sd_0 {s : Nat → Int} : sd s 0 = false := by
  unfold sd cs
  simp
theorem sd_mark {s : Nat → Int} {i : Nat} (h : sd s i = true) : (s i = 3 ∨ s i = 4) ∧ cs s i = true := by
  unfold sd at h
  simpa using h
theorem sd_not {s : Nat → Int} {i : Nat} (h : ¬ (s i = 3 ∨ s i = 4)) : sd s i = false := by
  unfold sd
  simp [h]
theorem sd_free {s : Nat → Int} {i : Nat} (h : cs s i = false) : sd s i = false := by
  unfold sd
  rw [h]
  simp
theorem sd_on {s : Nat → Int} {i : Nat} (h : s i = 3 ∨ s i = 4) (h2 : cs s i = true) : sd s i = true := by
  unfold sd
  rw [h2]
  simp [h]
theorem cs_iw {s : Nat → Int} : ∀ {i : Nat}, cs s i = true → iw s i = true
  | 0, h => by unfold cs at h; exact absurd h (by decide)
  | i + 1, h => by
    unfold cs at h
    unfold iw
    by_cases z : s i = 6
    · rw [if_pos z] at h; exact absurd h (by decide)
    · simp [z]
theorem nst_t {s : Nat → Int} {i : Nat} (h : sd s i = false) : nst s i = true := by unfold nst; rw [h]; rfl
theorem nst_f {s : Nat → Int} {i : Nat} (h : sd s i = true) : nst s i = false := by unfold nst; rw [h]; rfl
theorem nst_e {s : Nat → Int} {i : Nat} (h : nst s i = true) : sd s i = false := by unfold nst at h; simpa using h
theorem wst_t {s : Nat → Int} {i : Nat} (h : s i ≠ 6) (h2 : iw s i = false) : wst s i = true := by unfold wst; rw [h2]; simp [h]
theorem wst_b {s : Nat → Int} {i : Nat} (h : s i = 6) : wst s i = false := by unfold wst; simp [h]
theorem wst_w {s : Nat → Int} {i : Nat} (h2 : iw s i = true) : wst s i = false := by unfold wst; rw [h2]; simp
theorem wst_e {s : Nat → Int} {i : Nat} (h : wst s i = true) : s i ≠ 6 ∧ iw s i = false := by unfold wst at h; simpa using h
def tn (σ : St) : Nat := (σ.2.1 8 21).toNat
def tx (σ : St) (i : Nat) : Int := σ.1 106 i
def ts (σ : St) (i : Nat) : Int := σ.1 89 (σ.1 106 i).toNat
def uc (σ : St) (i : Nat) : Nat := cnt (nst (ts σ)) i
def wdc (σ : St) (i : Nat) : Nat := cnt (wst (ts σ)) i
def nU (σ : St) : Nat := uc σ (tn σ)
def nW (σ : St) : Nat := wdc σ (tn σ)
def up (σ : St) (u : Nat) : Nat := pos (nst (ts σ)) (tn σ) u
def ul (σ : St) (u : Nat) : Int := tx σ (up σ u)
def us (σ : St) (u : Nat) : Int := ts σ (up σ u)
theorem uc_pos {σ : St} {i : Nat} : 1 ≤ uc σ (i + 1) := by
  have h : nst (ts σ) 0 = true := nst_t sd_0
  have := cnt_lt h (show 0 < i + 1 by omega)
  unfold uc
  omega
theorem uc_u {σ : St} {i : Nat} (h : sd (ts σ) i = false) : uc σ (i + 1) = uc σ i + 1 := cnt_t (nst_t h)
theorem uc_s {σ : St} {i : Nat} (h : sd (ts σ) i = true) : uc σ (i + 1) = uc σ i := cnt_f (nst_f h)
theorem uc_le {σ : St} {i : Nat} : uc σ i ≤ i := cnt_le _ _
theorem uc_lt {σ : St} {i j : Nat} (h : sd (ts σ) i = false) (hj : i < j) : uc σ i < uc σ j := cnt_lt (nst_t h) hj
theorem uc_mono {σ : St} {i j : Nat} (h : i ≤ j) : uc σ i ≤ uc σ j := cnt_mono h
theorem up_eq {σ : St} {i : Nat} (h : sd (ts σ) i = false) (hi : i < tn σ) : up σ (uc σ i) = i := pos_eq (nst_t h) hi
theorem up_ex {σ : St} {u : Nat} (h : u < nU σ) : up σ u < tn σ ∧ sd (ts σ) (up σ u) = false ∧ uc σ (up σ u) = u := by
  obtain ⟨a, b, c⟩ := pos_ex (q := nst (ts σ)) (n := tn σ) h
  exact ⟨a, nst_e b, c⟩
