/-! THE ENGINE: methods as steps over a pure picture. A value is an int, a long or a place; the picture of the heap is two tables of Ints (arrays by place and index, fields by place and number) and the two places of the lines. -/
abbrev AV : Type := Int ⊕ (Int ⊕ Nat)
abbrev I (x : Int) : AV := .inl x
abbrev J (x : Int) : AV := .inr (.inl x)
abbrev O (k : Nat) : AV := .inr (.inr k)
/-- launch, class numbers and slots, the address of a place, the classes of int[], boolean[], int[][] -/
abbrev GT : Type := Launch × va_G × (Nat → Nat) × ClassId × ClassId × ClassId
abbrev yM (mi : MI) : MethodName := mi.1
abbrev cM (mi : MI) : ByteArray := mi.2.1
abbrev nM (mi : MI) : Nat := mi.2.2.1
abbrev tM (mi : MI) : Option FieldType := mi.2.2.2.1
abbrev fM (mi : MI) : Nat := mi.2.2.2.2.1
abbrev oM (mi : MI) : Nat := mi.2.2.2.2.2
abbrev aG (G : GT) : Nat → Nat := G.2.2.1
def cv (G : GT) (v : AV) : Value := match v with
  | .inl x => .int (Int32.ofInt x)
  | .inr (.inl x) => .long (Int64.ofInt x)
  | .inr (.inr k) => .ref (aG G k)
abbrev cvs (G : GT) (st : List AV) : List Value := st.map (cv G)
abbrev cvl (G : GT) (l : List (Nat × AV)) : List (Nat × Value) := l.map (fun q => (q.1, cv G q.2))
/-- a number that an int holds -/
def rng (x : Int) : Prop := -2147483648 ≤ x ∧ x < 2147483648
def Rg (σ : St) : Prop := (∀ k i, rng (σ.1 k i)) ∧ ∀ k j, rng (σ.2.1 k j)
/-- stores -/
def up2 (f : Nat → Nat → Int) (k i : Nat) (v : Int) : Nat → Nat → Int := fun k' i' => if k' = k ∧ i' = i then v else f k' i'
def sa (σ : St) (k i : Nat) (v : Int) : St := (up2 σ.1 k i v, σ.2)
def sf (σ : St) (k j : Nat) (v : Int) : St := (σ.1, up2 σ.2.1 k j v, σ.2.2)
def sh (σ : St) (k : Nat) : St := (σ.1, σ.2.1, k, σ.2.2.2)
def sp (σ : St) (k : Nat) : St := (σ.1, σ.2.1, σ.2.2.1, k)
def fv (G : GT) (σ : St) (c k j : Nat) : Value := match rfo c k j σ with
  | some q => .ref (aG G q)
  | none => .int (Int32.ofInt (σ.2.1 k j))
def nfc (c : Nat) : Nat := match classes[c]? with
  | some q => q.2.2
  | none => 0
def ent (G : GT) (σ : St) (k : Nat) : va_E := match (lyt k).1 with
  | 0 => .inr ((lyt k).2, (List.range (nfc (lyt k).2)).map (fv G σ (lyt k).2 k))
  | 1 => .inl (G.2.2.2.1, (lyt k).2, .inl (fun i => Int32.ofInt (σ.1 k i)))
  | 2 => .inl (G.2.2.2.2.1, (lyt k).2, .inl (fun i => Int32.ofInt (σ.1 k i)))
  | _ => .inl (G.2.2.2.2.2, (lyt k).2, .inr (.inr (.inr (.inr (fun i => if i < (lyt k).2 then some (aG G (rwb k + i)) else none)))))
def wG (G : GT) (σ : St) : va_W := (List.range NP).map (fun k => (aG G k, ent G σ k))
def PG (G : GT) (σ : St) (H : Heap) : Prop := va_P G.2.1 classes (wG G σ) H
def AG (G : GT) : Nat → Prop := fun q => ∃ k, k < NP ∧ q = aG G k
abbrev tysG (G : GT) : List (ClassId × FieldType) := [(G.2.2.2.1, .int), (G.2.2.2.2.1, .boolean), (G.2.2.2.2.2, .array .int)]
/-- the links among nest mates -/
def nestW : List Cond := [.methodLinkNest R_SC 55 (yM m_JS_within) "JoinSetter", .methodLinkNest R_TY 31 (yM m_JS_within) "JoinSetter", .methodLinkNest R_CL 56 (yM m_JS_within) "JoinSetter"]
def KG (G : GT) (s : State) : Prop := va_K G.2.1 classes (tysG G) s ∧ (∀ i j, i < NP → j < NP → aG G i = aG G j → i = j) ∧ ∀ w ∈ nestW, va_Nw w s
def Wd (G : GT) (σ : St) (U : State) : Prop := PG G σ U.heap ∧ Rg σ ∧ KG G U
abbrev WS (mi : MI) : List Cond := Cond.code (yM mi) (cM mi) (nM mi) (tM mi) :: gt
abbrev RM (mi : MI) : Room := { frames := fM mi, cells := 0, slots := 0, locals := oM mi }
def QJ (G : GT) (mi : MI) (P : Int → St → Prop) : Array Value → State → Outcome → State → Prop := match tM mi with
  | none => va_Qv (fun u => P 0 u) (Wd G) (AG G)
  | some _ => va_Qi (fun r u => ∃ x : Int, r = Int32.ofInt x ∧ rng x ∧ P x u) (Wd G) (AG G)
/-- from the picture σ the method, called with these values, returns, with an answer and a picture of which P holds -/
def CJ (G : GT) (mi : MI) (av : List AV) (σ : St) (P : Int → St → Prop) : Prop :=
  Met G.1 (yM mi) (WS mi) (RM mi) (va_Pc (cvs G av) (Wd G σ)) (QJ G mi P) 0 0 (AG G)
/-- inside the method: from this instruction, these locals, this stack and picture it comes to its end with P -/
def A (G : GT) (mi : MI) (pc : Nat) (l : List (Nat × AV)) (st : List AV) (σ : St) (P : Int → St → Prop) : Prop :=
  ∀ (p : Program) (e : Env) (s : State) (m : MethodId) (args : Array Value) (below : List Frame) (meth : Method) (c : Code) (s₁ : State), BodyLoose p G.1 (yM mi) (headSpec (WS mi) (RM mi)) (cM mi) (nM mi) (tM mi) e s m args below meth c s₁ → c.maxLocals = nM mi → KG G s → Rg σ →
    ∀ (H : Heap) (locs : List Loc) (la : Array Slot), PG G σ H → va_S (AG G) s.heap H locs → lv_has la (nM mi) (cvl G l) →
    W p G.1 e (headSpec (WS mi) (RM mi)).room s m args below meth c H locs 0 0 (MQ below (QJ G mi P) args s 0 0 (AG G)) (F0 m pc la (cvs G st))
theorem wG_at {G : GT} {σ : St} {k : Nat} (h : k < NP) : (wG G σ)[k]? = some (aG G k, ent G σ k) := by
  unfold wG
  rw [List.getElem?_map, List.getElem?_range h]
  rfl
theorem wG_inv {G : GT} {σ : St} {k : Nat} {q : Nat × va_E} (h : (wG G σ)[k]? = some q) : k < NP ∧ q = (aG G k, ent G σ k) := by
  have hk : k < NP := by
    have := (List.getElem?_eq_some_iff.mp h).1
    simpa [wG] using this
  refine ⟨hk, ?_⟩
  rw [wG_at hk] at h
  exact (Option.some.inj h).symm
theorem wG_D {G : GT} {σ : St} (h : ∀ i j, i < NP → j < NP → aG G i = aG G j → i = j) : va_D (AG G) (wG G σ) := by
  refine ⟨fun i j p q hi hj e => ?_, fun k q hk => ?_⟩
  · obtain ⟨h1, rfl⟩ := wG_inv hi
    obtain ⟨h2, rfl⟩ := wG_inv hj
    exact h i j h1 h2 e
  · obtain ⟨h1, rfl⟩ := wG_inv hk
    exact ⟨k, h1, rfl⟩
theorem wG_set {G : GT} {σ σ' : St} {k : Nat} {e : va_E} (hk : ent G σ' k = e) (ho : ∀ j, j ≠ k → ent G σ' j = ent G σ j) : (wG G σ).set k (aG G k, e) = wG G σ' := by
  apply List.ext_getElem?
  intro j
  by_cases hj : j < NP
  · rw [wG_at hj, List.getElem?_set]
    by_cases h : k = j
    · subst h
      rw [if_pos rfl, if_pos (by simpa [wG] using hj), hk]
    · rw [if_neg h, wG_at hj, ho j (fun q => h q.symm)]
  · rw [List.getElem?_eq_none (by simpa [wG] using hj), List.getElem?_eq_none (by simpa [wG] using hj)]
theorem lyt_lt {k a b : Nat} (h : lyt k = (a, b)) (ha : a ≠ 9) : k < NP := by
  rcases Nat.lt_or_ge k NP with q | q
  · exact q
  · exfalso
    apply ha
    have : lyt k = (9, 0) := by
      unfold lyt
      have : (619 : Nat) ≤ k := q
      rw [if_neg (by omega), if_neg (by omega), if_neg (by omega), if_neg (by omega)]
    rw [this] at h
    exact (congrArg Prod.fst h).symm
/-! numbers -/
theorem oi_toInt {x : Int} (h : rng x) : (Int32.ofInt x).toInt = x := Int32.toInt_ofInt_of_le h.1 h.2
theorem oi_lt {x y : Int} (hx : rng x) (hy : rng y) : Int32.ofInt x < Int32.ofInt y ↔ x < y := by rw [Int32.lt_iff_toInt_lt, oi_toInt hx, oi_toInt hy]
theorem oi_le {x y : Int} (hx : rng x) (hy : rng y) : Int32.ofInt x ≤ Int32.ofInt y ↔ x ≤ y := by rw [Int32.le_iff_toInt_le, oi_toInt hx, oi_toInt hy]
theorem oi_eq {x y : Int} (hx : rng x) (hy : rng y) : Int32.ofInt x = Int32.ofInt y ↔ x = y := by rw [← Int32.toInt_inj, oi_toInt hx, oi_toInt hy]
theorem rng_toInt (v : Int32) : rng v.toInt := ⟨Int32.le_toInt v, Int32.toInt_lt v⟩
theorem rng_ix {x : Int} {n : Nat} (h : 0 ≤ x ∧ x < n) (hn : n ≤ 100000) : rng x := ⟨by omega, by omega⟩
theorem oi_in {x : Int} {n : Nat} (h : 0 ≤ x ∧ x < n) (hn : n ≤ 100000) : vp_in (Int32.ofInt x) n ∧ (Int32.ofInt x).toNatClampNeg = x.toNat := by
  have hr := rng_ix h hn
  have h1 : (Int32.ofInt x).toNatClampNeg = x.toNat := by unfold Int32.toNatClampNeg; rw [oi_toInt hr]
  refine ⟨?_, h1⟩
  unfold vp_in
  rw [h1]
  intro q
  rcases q with q | q
  · have : Int32.ofInt x < Int32.ofInt 0 := q
    rw [oi_lt hr ⟨by decide, by decide⟩] at this
    omega
  · omega
