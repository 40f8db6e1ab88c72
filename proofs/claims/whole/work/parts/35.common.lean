/-! the common bond: the lines' places, the text, the flags; how a call that changes script or text is closed -/
theorem sa_ne {σ : St} {k i k' : Nat} {v : Int} (h : k' ≠ k) : (sa σ k i v).1 k' = σ.1 k' := up2_ne h
theorem sa_at {σ : St} {k i : Nat} {v : Int} : (sa σ k i v).1 k i = v := if_pos ⟨rfl, rfl⟩
theorem sa_nx {σ : St} {k i k' i' : Nat} {v : Int} (h : i' ≠ i) : (sa σ k i v).1 k' i' = σ.1 k' i' := if_neg (fun z => h z.2)
theorem sf_ne {σ : St} {k i k' : Nat} {v : Int} (h : k' ≠ k) : (sf σ k i v).2.1 k' = σ.2.1 k' := up2_ne h
theorem sf_at {σ : St} {k i : Nat} {v : Int} : (sf σ k i v).2.1 k i = v := if_pos ⟨rfl, rfl⟩
theorem sf_nx {σ : St} {k i k' i' : Nat} {v : Int} (h : i' ≠ i) : (sf σ k i v).2.1 k' i' = σ.2.1 k' i' := if_neg (fun z => h z.2)
def HS (σ : St) : Prop := σ.2.2 = (9, 28) ∨ σ.2.2 = (28, 9)
def LOk (σ : St) (l : Int) : Prop := 0 ≤ l ∧ l < σ.2.1 8 6 ∧ σ.1 89 l.toNat ≠ 7
def TxOk (σ : St) (i : Nat) : Prop := σ.1 57 i = σ.1 106 i ∧ LOk σ (σ.1 106 i)
/-- the edits can be undone, from this count of letters on -/
def EV (pa pr pl : Nat → Int) (ok : Int → Prop) : Nat → Int → Prop
  | 0, _ => True
  | e + 1, c => 0 ≤ pa e ∧ ((pr e = 1 ∧ pa e ≤ c ∧ c < 80 ∧ ok (pl e) ∧ EV pa pr pl ok e (c + 1)) ∨ (pr e = 0 ∧ pa e < c ∧ EV pa pr pl ok e (c - 1)))
theorem EV.mono {pa pr pl : Nat → Int} {ok ok' : Int → Prop} (h : ∀ l, ok l → ok' l) : ∀ (e : Nat) (c : Int), EV pa pr pl ok e c → EV pa pr pl ok' e c
  | 0, _, _ => trivial
  | e + 1, c, z => by
    obtain ⟨z1, z2⟩ := z
    refine ⟨z1, ?_⟩
    rcases z2 with ⟨a, b, d, f, g⟩ | ⟨a, b, g⟩
    · exact Or.inl ⟨a, b, d, h _ f, EV.mono h e _ g⟩
    · exact Or.inr ⟨a, b, EV.mono h e _ g⟩
theorem EV.congr {pa pr pl pa' pr' pl' : Nat → Int} {ok : Int → Prop} : ∀ (e : Nat) (c : Int), (∀ i, i < e → pa' i = pa i ∧ pr' i = pr i ∧ pl' i = pl i) → EV pa pr pl ok e c → EV pa' pr' pl' ok e c
  | 0, _, _, _ => trivial
  | e + 1, c, q, z => by
    obtain ⟨q1, q2, q3⟩ := q e (by omega)
    have q4 : ∀ i, i < e → pa' i = pa i ∧ pr' i = pr i ∧ pl' i = pl i := fun i hi => q i (by omega)
    obtain ⟨z1, z2⟩ := z
    refine ⟨by rw [q1]; exact z1, ?_⟩
    rw [q1, q2, q3]
    rcases z2 with ⟨a, b, d, f, g⟩ | ⟨a, b, g⟩
    · exact Or.inl ⟨a, b, d, f, EV.congr e _ q4 g⟩
    · exact Or.inr ⟨a, b, EV.congr e _ q4 g⟩
theorem EV.shift {pa pr pl : Nat → Int} {ok : Int → Prop} : ∀ (e : Nat) (c : Int), EV pa pr pl ok (e + 1) c → EV (fun i => pa (i + 1)) (fun i => pr (i + 1)) (fun i => pl (i + 1)) ok e c
  | 0, _, _ => trivial
  | e + 1, c, z => by
    obtain ⟨z1, z2⟩ := z
    refine ⟨z1, ?_⟩
    rcases z2 with ⟨a, b, d, f, g⟩ | ⟨a, b, g⟩
    · exact Or.inl ⟨a, b, d, f, EV.shift e _ g⟩
    · exact Or.inr ⟨a, b, EV.shift e _ g⟩
theorem EV.rm {pa pr pl : Nat → Int} {ok : Int → Prop} : ∀ (e : Nat) (c : Int), EV pa pr pl ok e c → ∀ i, i < e → pr i = 0 ∨ pr i = 1
  | 0, _, _, i, hi => absurd hi (by omega)
  | e + 1, c, z, i, hi => by
    obtain ⟨z1, z2⟩ := z
    by_cases q : i = e
    · subst q
      rcases z2 with ⟨a, _⟩ | ⟨a, _⟩
      · exact Or.inr a
      · exact Or.inl a
    · rcases z2 with ⟨_, _, _, _, g⟩ | ⟨_, _, g⟩
      · exact EV.rm e _ g i (by omega)
      · exact EV.rm e _ g i (by omega)
/-- where the class's ring has the k-th of e edits -/
def ri (ne e k : Nat) : Nat := if e ≤ ne + k then ne + k - e else ne + k + 40 - e
def Ring (σ : St) : Prop := ∃ ne e : Nat, σ.2.1 2 3 = ne ∧ ne < 40 ∧ σ.2.1 2 1 = e ∧ e ≤ 40 ∧ σ.2.1 8 25 = e ∧ (∀ k, k < e → σ.1 58 (ri ne e k) = σ.1 108 k ∧ σ.1 59 (ri ne e k) = if σ.1 107 k = 1 then σ.1 109 k else -6) ∧ EV (σ.1 108) (σ.1 107) (σ.1 109) (LOk σ) e (σ.2.1 8 21)
def IT (σ : St) : Prop := σ.2.1 2 0 = σ.2.1 8 21 ∧ (0 ≤ σ.2.1 8 21 ∧ σ.2.1 8 21 ≤ 80) ∧ (∀ i : Nat, (i : Int) < σ.2.1 8 21 → TxOk σ i) ∧ Ring σ
theorem IT_keep {σ τ : St} (h : IT σ) (ha : ∀ k, (k = 57 ∨ k = 58 ∨ k = 59 ∨ (106 ≤ k ∧ k ≤ 109)) → τ.1 k = σ.1 k) (h2 : ∀ j, τ.2.1 2 j = σ.2.1 2 j) (t1 : τ.2.1 8 21 = σ.2.1 8 21) (t2 : τ.2.1 8 25 = σ.2.1 8 25) (hl : ∀ l, LOk σ l → LOk τ l) : IT τ := by
  obtain ⟨a, b, c, ne, e, d1, d2, d3, d4, d5, d6, d7⟩ := h
  have a57 := ha 57 (by omega)
  have a58 := ha 58 (by omega)
  have a59 := ha 59 (by omega)
  have a106 := ha 106 (by omega)
  have a107 := ha 107 (by omega)
  have a108 := ha 108 (by omega)
  have a109 := ha 109 (by omega)
  refine ⟨by rw [h2, t1]; exact a, by rw [t1]; exact b, fun i hi => ?_, ne, e, by rw [h2]; exact d1, d2, by rw [h2]; exact d3, d4, by rw [t2]; exact d5, fun k hk => ?_, ?_⟩
  · rw [t1] at hi
    obtain ⟨q1, q2⟩ := c i hi
    refine ⟨by rw [a57, a106]; exact q1, ?_⟩
    rw [a106]
    exact hl _ q2
  · rw [a58, a59, a107, a108, a109]
    exact d6 k hk
  · rw [a107, a108, a109, t1]
    exact EV.mono hl _ _ d7
theorem RC_keep {σ τ : St} (h : RC σ) (h1 : τ.1 60 = σ.1 60) (h2 : τ.1 153 = σ.1 153) (h3 : τ.2.1 3 0 = σ.2.1 3 0) (h4 : τ.2.1 8 96 = σ.2.1 8 96) : RC τ := by
  unfold RC at h ⊢
  rw [h1, h2, h3, h4]
  exact h
def Base (σ : St) : Prop := IS σ ∧ IT σ ∧ RC σ ∧ HS σ
def Fl (k : Nat) (σ : St) : Prop := 0 ≤ σ.2.1 0 9 ∧ σ.2.1 0 9 ≤ k ∧ σ.2.1 0 10 ≤ σ.2.1 0 9 ∧ σ.2.1 0 11 ≤ σ.2.1 0 9 ∧ σ.2.1 0 12 ≤ σ.2.1 0 9 ∧ σ.2.1 0 13 ≤ σ.2.1 0 9 ∧ σ.2.1 0 14 ≤ σ.2.1 0 9 ∧
  σ.2.1 8 68 = (if σ.2.1 0 11 = σ.2.1 0 9 then 1 else 0) ∧ σ.2.1 8 91 = (if σ.2.1 0 12 = σ.2.1 0 9 then 1 else 0) ∧ σ.2.1 8 100 = (if σ.2.1 0 13 = σ.2.1 0 9 then 1 else 0) ∧ σ.2.1 8 109 = (if σ.2.1 0 14 = σ.2.1 0 9 then 1 else 0) ∧ (σ.2.1 8 26 = 0 ∨ σ.2.1 8 26 = 1) ∧
  (σ.2.1 0 10 = σ.2.1 0 9 → σ.2.1 8 26 = 1) ∧ (σ.2.1 0 11 = σ.2.1 0 9 → σ.2.1 0 10 = σ.2.1 0 9) ∧ (σ.2.1 0 12 = σ.2.1 0 9 → σ.2.1 0 10 = σ.2.1 0 9) ∧ (σ.2.1 0 13 = σ.2.1 0 9 → σ.2.1 0 10 = σ.2.1 0 9) ∧ (σ.2.1 0 14 = σ.2.1 0 9 → σ.2.1 0 13 = σ.2.1 0 9)
/-- nothing that was found holds any more -/
def Cl (k : Nat) (σ : St) : Prop := 0 ≤ σ.2.1 0 9 ∧ σ.2.1 0 9 ≤ k ∧ σ.2.1 0 10 < σ.2.1 0 9 ∧ σ.2.1 0 11 < σ.2.1 0 9 ∧ σ.2.1 0 12 < σ.2.1 0 9 ∧ σ.2.1 0 13 < σ.2.1 0 9 ∧ σ.2.1 0 14 < σ.2.1 0 9 ∧ σ.2.1 8 68 = 0 ∧ σ.2.1 8 91 = 0 ∧ σ.2.1 8 100 = 0 ∧ σ.2.1 8 109 = 0 ∧ σ.2.1 8 26 = 0
theorem Cl.fl {k : Nat} {σ : St} (h : Cl k σ) : Fl k σ := by
  obtain ⟨a, b, c, d, e, f, g, h1, h2, h3, h4, h5⟩ := h
  refine ⟨a, b, by omega, by omega, by omega, by omega, by omega, by rw [if_neg (by omega)]; exact h1, by rw [if_neg (by omega)]; exact h2, by rw [if_neg (by omega)]; exact h3, by rw [if_neg (by omega)]; exact h4, Or.inl h5, fun z => absurd z (by omega), fun z => absurd z (by omega), fun z => absurd z (by omega), fun z => absurd z (by omega), fun z => absurd z (by omega)⟩
/-- one change: the count goes up, the reference's flags go down -/
theorem Cl.step {k : Nat} {σ τ : St} (h : Fl k σ) (h9 : τ.2.1 0 9 = σ.2.1 0 9 + 1) (ho : ∀ j, 10 ≤ j → j ≤ 14 → τ.2.1 0 j = σ.2.1 0 j) (f1 : τ.2.1 8 68 = 0) (f2 : τ.2.1 8 91 = 0) (f3 : τ.2.1 8 100 = 0) (f4 : τ.2.1 8 109 = 0) (f5 : τ.2.1 8 26 = 0) : Cl (k + 1) τ := by
  obtain ⟨a, b, c, d, e, f, g, -⟩ := h
  have o10 := ho 10 (by omega) (by omega)
  have o11 := ho 11 (by omega) (by omega)
  have o12 := ho 12 (by omega) (by omega)
  have o13 := ho 13 (by omega) (by omega)
  have o14 := ho 14 (by omega) (by omega)
  refine ⟨by omega, by omega, by omega, by omega, by omega, by omega, by omega, f1, f2, f3, f4, f5⟩
/-- what is asked of the whole bond here -/
def GoodI (Inv : Nat → St → Prop) : Prop := (∀ k σ, Inv k σ → Base σ ∧ Fl k σ) ∧ (∀ k σ, Inv k σ → Inv (k + 1) σ) ∧ (∀ k σ, Base σ → Cl k σ → Inv k σ)
theorem so_told {Inv : Nat → St → Prop} (hI : GoodI Inv) (G : GT) : SO_told G Inv := by
  intro k σ hk h a hr
  obtain ⟨⟨hS, hT, hC, hH⟩, hF⟩ := hI.1 k σ h
  have hs := hI.2.1 k σ h
  have n := hS.1
  unfold NumOk at n
  obtain ⟨t1, t2, t3, ne, e, d1, d2, d3, d4, d5, d6, d7⟩ := hT
  unfold RC at hC
  refine CJ.go (fun _ => k_JS_told_0 ⟨hr, fun z => ?_, fun z => ?_, fun z => ?_, fun z => ?_, fun z => ?_, fun z => ?_, fun z => ?_⟩) <;> refine CJ.go (fun _ => k_MO_told_0 ?_) <;> ((repeat' (first | with_reducible intro _ | with_reducible apply And.intro)) <;> first | assumption | omega | (exfalso; omega))
theorem so_text {Inv : Nat → St → Prop} (hI : GoodI Inv) (G : GT) : SO_text G Inv := by
  intro k σ hk h a hr
  obtain ⟨⟨hS, hT, hC, hH⟩, hF⟩ := hI.1 k σ h
  have hs := hI.2.1 k σ h
  have n := hS.1
  unfold NumOk at n
  obtain ⟨t1, t2, t3, -⟩ := hT
  refine CJ.go (fun R => k_JS_text_0 ?_)
  rw [t1]
  have e : (if ¬ (0 ≤ a ∧ a ≤ σ.2.1 8 21 - 1) then (-6 : Int) else σ.1 57 a.toNat) = (if ¬ (0 ≤ a ∧ a ≤ σ.2.1 8 21 - 1) then (-6 : Int) else σ.1 106 a.toNat) := by
    by_cases c : 0 ≤ a ∧ a ≤ σ.2.1 8 21 - 1
    · rw [if_neg (by omega), if_neg (by omega)]
      exact (t3 a.toNat (by omega)).1
    · rw [if_pos c, if_pos c]
  rw [e]
  have hr2 : rng (if ¬ (0 ≤ a ∧ a ≤ σ.2.1 8 21 - 1) then (-6 : Int) else σ.1 106 a.toNat) := by
    split
    · exact ⟨by decide, by decide⟩
    · exact R.1 _ _
  refine ⟨hr, fun _ => ⟨by omega, by omega⟩, fun _ => ⟨by omega, by omega⟩, hr2, ?_⟩
  refine CJ.go (fun _ => k_MO_text_0 ⟨hr, ⟨by omega, by omega⟩, fun _ => ⟨by omega, by omega⟩, hr2, rfl, hs⟩)
theorem so_about {Inv : Nat → St → Prop} (hI : GoodI Inv) (G : GT) : SO_about G Inv := by
  intro k σ hk h a b hr hr2
  obtain ⟨⟨hS, hT, hC, hH⟩, hF⟩ := hI.1 k σ h
  have hs := hI.2.1 k σ h
  have n := hS.1
  unfold NumOk at n
  refine CJ.go (fun R => k_JS_about_0 ⟨hr, fun _ => ⟨by omega, by omega⟩, fun c => ⟨hr2, fun _ => ⟨by decide, by decide⟩, fun _ => by omega, ?_, ?_⟩, fun c => ?_⟩)
  · split
    · exact ⟨by decide, by decide⟩
    · exact R.1 _ _
  · have F := hS.2.2.2.2.2.2.2.1 a.toNat (by omega)
    unfold FormOk at F
    obtain ⟨q0, q1, q2, q3, q4, q5, q6, q7, q8, -⟩ := F
    by_cases c2 : 0 ≤ b ∧ b ≤ 8
    · rw [if_neg (by omega)]
      refine CJ.go (fun _ => k_MO_about_0 ⟨hr, ⟨by omega, by omega⟩, fun _ => ⟨hr2, ?_, ?_, ?_, ?_, ?_, ?_, ?_, ?_, ?_, ?_⟩, fun z => absurd z (by omega)⟩)
      · intro z; subst z; exact ⟨by omega, q0, hs⟩
      · intro z; subst z; exact ⟨by omega, q1, hs⟩
      · intro z; subst z; exact ⟨by omega, q2, hs⟩
      · intro z; subst z; exact ⟨by omega, q3, hs⟩
      · intro z; subst z; exact ⟨by omega, q4, hs⟩
      · intro z; subst z; exact ⟨by omega, q5, hs⟩
      · intro z; subst z; exact ⟨by omega, q6, hs⟩
      · intro z; subst z; exact ⟨by omega, q7, hs⟩
      · intro z; subst z; exact ⟨by omega, q8, hs⟩
      · intro z; omega
    · rw [if_pos c2]
      refine CJ.go (fun _ => k_MO_about_0 ⟨hr, ⟨by omega, by omega⟩, fun _ => ⟨hr2, ?_⟩, fun z => absurd z (by omega)⟩)
      refine ⟨?_, ?_, ?_, ?_, ?_, ?_, ?_, ?_, ?_, ?_⟩ <;> intro z <;> first | (exfalso; omega) | exact ⟨rfl, hs⟩
  · refine CJ.go (fun _ => k_MO_about_0 ⟨hr, ⟨by omega, by omega⟩, fun z => absurd z (by omega), fun _ => ⟨rfl, hs⟩⟩)
/-! script tables that a change of facts, of a bar leaves alone -/
theorem IS_facts {σ τ : St} (h : IS σ) (hA : ∀ k, (47 ≤ k ∧ k ≤ 56) ∨ (89 ≤ k ∧ k ≤ 96) ∨ k = 104 ∨ k = 105 ∨ (168 ≤ k ∧ k < 176) → τ.1 k = σ.1 k) (h1 : ∀ j, τ.2.1 1 j = σ.2.1 1 j) (e1 : τ.2.1 8 6 = σ.2.1 8 6) (e2 : τ.2.1 8 7 = σ.2.1 8 7) (e3 : τ.2.1 8 17 = σ.2.1 8 17) (h7 : ∀ f : Nat, (f : Int) < σ.2.1 8 17 → FormOk τ f) (h8 : ∀ f : Nat, σ.2.1 8 17 ≤ f → f < 200 → τ.1 (176 + f) 7 = 0 ∧ τ.1 (176 + f) 8 = 0) : IS τ := by
  have a47 := hA 47 (by omega)
  have a48 := hA 48 (by omega)
  have a49 := hA 49 (by omega)
  have a50 := hA 50 (by omega)
  have a51 := hA 51 (by omega)
  have a53 := hA 53 (by omega)
  have a55 := hA 55 (by omega)
  have a56 := hA 56 (by omega)
  have a89 := hA 89 (by omega)
  have a90 := hA 90 (by omega)
  have a91 := hA 91 (by omega)
  have a92 := hA 92 (by omega)
  have a93 := hA 93 (by omega)
  have a94 := hA 94 (by omega)
  have a95 := hA 95 (by omega)
  have a96 := hA 96 (by omega)
  have a104 := hA 104 (by omega)
  have a105 := hA 105 (by omega)
  have hp : ∀ i : Nat, i < 8 → τ.1 (168 + i) = σ.1 (168 + i) := fun i hi => hA _ (by omega)
  obtain ⟨n, c1, c2, c3, c4, c5, c6, c7, c8, c9, c10⟩ := h
  have n2 := n
  unfold NumOk at n2
  unfold IS
  simp only [a47, a48, a49, a50, a51, a53, a55, a56, a89, a90, a91, a92, a93, a94, a95, a96, a104, a105, e1, e2, e3]
  refine ⟨?_, fun l hl => ?_, c2, fun i hi => ?_, c4, c5, fun i j hi hj => ?_, h7, h8, fun a ha1 => ?_, c10⟩
  · unfold NumOk
    rw [h1, h1, h1, e1, e2, e3]
    exact n
  · have := c1 l hl
    unfold LetOk at this ⊢
    rw [a47, a48, a49, a50, a89, a94]
    exact this
  · obtain ⟨g, hg⟩ := c3 i hi
    refine ⟨g, ?_⟩
    unfold LigOk at hg ⊢
    rw [hp i (by omega)]
    simp only [a47, a48, a49, a51, a53, a89, a90, a91, a92, a93, e1]
    exact hg
  · rw [hp i (by omega), hp j (by omega)]
    exact c6 i j hi hj
  · have := c9 a ha1
    unfold SlotOk at this ⊢
    simp only [a55, a56, a95, a96, a104, a105, e3]
    exact this
