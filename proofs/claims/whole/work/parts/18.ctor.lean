/-! CONSTRUCTION: the cells in the order in which they are made, as closed data. An entry: kind (0 object, 1 int[], 2 boolean[], 3 int[][]), class or length, fields (of an int[][]: its first row) -/
abbrev CE : Type := Nat × Nat × List (Option AV)
abbrev K3 : Type := ClassId × ClassId × ClassId
def cvo (ad : Nat → Nat) (v : Option AV) : Value := match v with
  | none => .null
  | some (.inl x) => .int (Int32.ofInt x)
  | some (.inr (.inl x)) => .long (Int64.ofInt x)
  | some (.inr (.inr k)) => .ref (ad k)
def rb (e : CE) : Nat := match e.2.2 with
  | [some (.inr (.inr b))] => b
  | _ => 0
def ce (K : K3) (ad : Nat → Nat) (e : CE) : va_E := match e.1 with
  | 0 => .inr (e.2.1, e.2.2.map (cvo ad))
  | 1 => .inl (K.1, e.2.1, .inl (fun _ => 0))
  | 2 => .inl (K.2.1, e.2.1, .inl (fun _ => 0))
  | _ => .inl (K.2.2, e.2.1, .inr (.inr (.inr (.inr (fun i => if i < e.2.1 then some (ad (rb e + i)) else none)))))
def gd (cs : List CE) (k : Nat) : CE := cs.getD k (9, 0, [])
def wc (K : K3) (ad : Nat → Nat) (cs : List CE) : va_W := (List.range cs.length).map (fun k => (ad k, ce K ad (gd cs k)))
def okv (n : Nat) (v : Option AV) : Bool := match v with
  | some (.inr (.inr k)) => Nat.blt k n
  | _ => true
def okc (n : Nat) (e : CE) : Bool := match e.1 with
  | 0 => e.2.2.all (okv n)
  | 1 => true
  | 2 => true
  | _ => Nat.ble (rb e + e.2.1) n
def okl (cs : List CE) : Bool := cs.all (okc cs.length)
theorem cvo_ext {ad ad' : Nat → Nat} {n : Nat} {v : Option AV} (h : ∀ j, j < n → ad' j = ad j) (ho : okv n v = true) : cvo ad' v = cvo ad v := by
  rcases v with _ | x | x | k
  · rfl
  · rfl
  · rfl
  · show Value.ref (ad' k) = Value.ref (ad k)
    rw [h k (Nat.blt_eq.mp ho)]
theorem ce_ext {K : K3} {ad ad' : Nat → Nat} {n : Nat} {e : CE} (h : ∀ j, j < n → ad' j = ad j) (ho : okc n e = true) : ce K ad' e = ce K ad e := by
  obtain ⟨a, b, fs⟩ := e
  unfold okc at ho
  unfold ce
  match a, ho with
  | 0, ho =>
    show Sum.inr (b, fs.map (cvo ad')) = Sum.inr (b, fs.map (cvo ad))
    congr 2
    apply List.map_congr_left
    intro v hv
    exact cvo_ext h (List.all_eq_true.mp ho v hv)
  | 1, ho => rfl
  | 2, ho => rfl
  | a + 3, ho =>
    have ho : rb (a + 3, b, fs) + b ≤ n := Nat.le_of_ble_eq_true ho
    show Sum.inl (K.2.2, b, _) = Sum.inl (K.2.2, b, _)
    congr 7
    funext i
    by_cases hi : i < b
    · rw [if_pos hi, if_pos hi, h _ (by omega)]
    · rw [if_neg hi, if_neg hi]
theorem wc_len {K : K3} {ad : Nat → Nat} {cs : List CE} : (wc K ad cs).length = cs.length := by simp [wc]
theorem wc_at {K : K3} {ad : Nat → Nat} {cs : List CE} {k : Nat} {e : CE} (h : cs[k]? = some e) : (wc K ad cs)[k]? = some (ad k, ce K ad e) := by
  have hk : k < cs.length := (List.getElem?_eq_some_iff.mp h).1
  unfold wc
  rw [List.getElem?_map, List.getElem?_range hk]
  show some (ad k, ce K ad (gd cs k)) = _
  have : gd cs k = e := by unfold gd; rw [List.getD_eq_getElem?_getD, h]; rfl
  rw [this]
theorem wc_ext {K : K3} {ad ad' : Nat → Nat} {cs : List CE} (h : ∀ j, j < cs.length → ad' j = ad j) (ho : okl cs = true) : wc K ad' cs = wc K ad cs := by
  unfold wc
  apply List.map_congr_left
  intro k hk
  have hk : k < cs.length := List.mem_range.mp hk
  have hm : gd cs k ∈ cs := by
    unfold gd
    rw [List.getD_eq_getElem?_getD, List.getElem?_eq_getElem hk]
    exact List.getElem_mem hk
  rw [h k hk, ce_ext h (List.all_eq_true.mp ho _ hm)]
theorem gd_app {cs t : List CE} {k : Nat} (h : k < cs.length) : gd (cs ++ t) k = gd cs k := by
  unfold gd
  rw [List.getD_eq_getElem?_getD, List.getD_eq_getElem?_getD, List.getElem?_append_left h]
theorem wc_app {K : K3} {ad ad' : Nat → Nat} {cs t : List CE} (h : ∀ j, j < cs.length → ad' j = ad j) (ho : okl cs = true) : wc K ad' (cs ++ t) = wc K ad cs ++ (List.range t.length).map (fun i => (ad' (cs.length + i), ce K ad' (gd t i))) := by
  rw [← wc_ext h ho]
  unfold wc
  rw [List.length_append, List.range_add, List.map_append, List.map_map]
  congr 1
  · apply List.map_congr_left
    intro k hk
    rw [gd_app (List.mem_range.mp hk)]
  · apply List.map_congr_left
    intro i hi
    show (ad' (cs.length + i), ce K ad' (gd (cs ++ t) (cs.length + i))) = _
    have : gd (cs ++ t) (cs.length + i) = gd t i := by
      unfold gd
      rw [List.getD_eq_getElem?_getD, List.getD_eq_getElem?_getD, List.getElem?_append_right (by omega)]
      congr 2
      omega
    rw [this]
theorem wc_set {K : K3} {ad : Nat → Nat} {cs : List CE} {k : Nat} {e : CE} : (wc K ad cs).set k (ad k, ce K ad e) = wc K ad (cs.set k e) := by
  apply List.ext_getElem?
  intro j
  rw [List.getElem?_set, wc_len]
  by_cases hj : j < cs.length
  · obtain ⟨x, hx⟩ : ∃ x, cs[j]? = some x := ⟨cs[j], List.getElem?_eq_getElem hj⟩
    by_cases hk : k = j
    · subst hk
      rw [if_pos rfl, if_pos hj, wc_at (e := e) (by rw [List.getElem?_set, if_pos rfl, if_pos hj])]
    · rw [if_neg hk, wc_at hx, wc_at (e := x) (by rw [List.getElem?_set, if_neg hk]; exact hx)]
  · rw [List.getElem?_eq_none (l := wc K ad (cs.set k e)) (by rw [wc_len, List.length_set]; omega)]
    by_cases hk : k = j
    · rw [if_pos hk, if_neg (by omega)]
    · rw [if_neg hk, List.getElem?_eq_none (by rw [wc_len]; omega)]
/-- the links among nest mates, all of them -/
def nestK : List Cond := [.methodLinkNest "JoinSetter" 9 ⟨"JoinSetter$Script", "<init>", "()V"⟩ "JoinSetter", .methodLinkNest "JoinSetter" 18 ⟨"JoinSetter$Typed", "<init>", "()V"⟩ "JoinSetter", .methodLinkNest "JoinSetter" 25 ⟨"JoinSetter$Claims", "<init>", "()V"⟩ "JoinSetter", .methodLinkNest "JoinSetter$Line" 39 ⟨"JoinSetter$Boxes", "<init>", "()V"⟩ "JoinSetter", .methodLinkNest "JoinSetter$Line" 46 ⟨"JoinSetter$Marks", "<init>", "()V"⟩ "JoinSetter", .methodLinkNest "JoinSetter$Marks" 11 ⟨"JoinSetter$Boxes", "<init>", "()V"⟩ "JoinSetter", .methodLinkNest "JoinSetter$Script" 55 ⟨"JoinSetter", "within", "(III)Z"⟩ "JoinSetter", .methodLinkNest "JoinSetter$Typed" 31 ⟨"JoinSetter", "within", "(III)Z"⟩ "JoinSetter", .methodLinkNest "JoinSetter$Claims" 56 ⟨"JoinSetter", "within", "(III)Z"⟩ "JoinSetter"]
def AOA (s : State) : Prop := (Cond.arrayOver (.array .int)).before #[] s = true
theorem AOA.spec {s : State} (h : AOA s) : ∃ comp c k, s.vm.findClass (FieldType.array .int).toString = some comp ∧ (s.vm.classes.findIdx? fun (x : Class) => match x.kind with | .array component _ => component == comp | _ => false) = some c ∧ s.vm.classes[c]? = some k ∧ k.kind = .array comp (.array .int) ∧ s.vm.findClass ("[" ++ (FieldType.array .int).toString) = some c := by
  unfold AOA Cond.before at h
  obtain ⟨comp, c, k, h1, h2, h3, h4, h5⟩ := arrayOverA_spec h
  exact ⟨comp, c, k, h1, h2, h3, h4, h5⟩
theorem AOA.moved {u U : State} (hvm : u.vm.Alike U.vm) (h : AOA u) : AOA U := by
  obtain ⟨comp, c, k, h1, h2, h3, h4, h5⟩ := h.spec
  obtain ⟨k', hk', he⟩ := hvm.2.2 _ _ h3
  have hi : (U.vm.classes.findIdx? fun (x : Class) => match x.kind with | .array component _ => component == comp | _ => false) = some c := by
    have e1 := va_idx_bare U.vm comp
    have e2 := va_idx_bare u.vm comp
    have e3 : U.vm.bare = u.vm.bare := by first | exact hvm.bare_eq | exact hvm.bare_eq.symm
    rw [e3] at e1
    exact e1.symm.trans (e2.trans h2)
  have hkind : k'.kind = .array comp (.array .int) := by rw [he]; exact h4
  have f1 : U.vm.findClass (FieldType.array .int).toString = some comp := by rw [hvm.findClass]; exact h1
  have f2 : U.vm.findClass ("[" ++ (FieldType.array .int).toString) = some c := by rw [hvm.findClass]; exact h5
  unfold AOA Cond.before Cond.holds
  simp only [Cond.value]
  rw [f1, Option.bind_some]
  refine (congrArg (fun o : Option Nat => (o.bind (fun c => (U.vm.classes[c]?).map fun (k : Class) => match k.kind with | .array _ ty => decide (ty = FieldType.array .int) && decide (U.vm.findClass ("[" ++ (FieldType.array .int).toString) = some c) | _ => false) == some true)) hi).trans ?_
  simp [hk', hkind, f2]
def KD (D : va_G) (K : K3) (s : State) : Prop := va_K D classes [(K.1, .int), (K.2.1, .boolean), (K.2.2, .array .int)] s ∧ (∀ w ∈ nestK, va_Nw w s) ∧ AOA s
theorem KD.moved {D : va_G} {K : K3} {s t : State} (h : KD D K s) (hW : s.WarmedH t.vm) : KD D K t := by
  refine ⟨va_K.moved hW.alike h.1, fun w hw => ?_, h.2.2.moved hW.alike⟩
  have h3 := h.2.1 w hw
  simp only [nestK, List.mem_cons, List.not_mem_nil, or_false] at hw
  rcases hw with rfl | rfl | rfl | rfl | rfl | rfl | rfl | rfl | rfl <;> exact va_Nw.warmM hW h3
def KDsame {D : va_G} {K : K3} {s t : State} (h : KD D K s) (hv : s.vm = t.vm) (ha : s.vm.Alike t.vm) : KD D K t := by
  refine ⟨va_K.moved ha h.1, fun w hw => ?_, h.2.2.moved ha⟩
  refine va_Nw.same ?_ hv (h.2.1 w hw)
  simp only [nestK, List.mem_cons, List.not_mem_nil, or_false] at hw
  rcases hw with rfl | rfl | rfl | rfl | rfl | rfl | rfl | rfl | rfl <;> rfl
abbrev RK (mi : MI) (mc ms : Nat) : Room := { frames := fM mi, cells := mc, slots := ms, locals := oM mi }
def QK (D : va_G) (K : K3) (n0 : Nat) (ad0 : Nat → Nat) (out : List CE) (Af : Nat → Prop) : Array Value → State → Outcome → State → Prop :=
  va_Qv (S := Nat → Nat) (fun ad => ∀ j, j < n0 → ad j = ad0 j) (fun ad t => va_P D classes (wc K ad out) t.heap ∧ va_D Af (wc K ad out) ∧ KD D K t) Af
abbrev cvk (ad : Nat → Nat) (st : List AV) : List Value := st.map (fun v => cvo ad (some v))
abbrev cvkl (ad : Nat → Nat) (l : List (Nat × AV)) : List (Nat × Value) := l.map (fun q => (q.1, cvo ad (some q.2)))
def CK (L : Launch) (D : va_G) (K : K3) (mi : MI) (mc ms : Nat) (av : List AV) (cs out : List CE) : Prop :=
  ∀ (ad0 : Nat → Nat) (sz : Nat), Met L (yM mi) (WS mi) (RK mi mc ms) (va_Pc (cvk ad0 av) (fun U => U.heap.size = sz ∧ va_P D classes (wc K ad0 cs) U.heap ∧ va_D (fun _ => True) (wc K ad0 cs) ∧ KD D K U)) (QK D K cs.length ad0 out (va_A (wc K ad0 cs) sz)) mc ms (va_A (wc K ad0 cs) sz)
def BK (L : Launch) (D : va_G) (K : K3) (mi : MI) (mc ms n0 : Nat) (out : List CE) (pc : Nat) (l : List (Nat × AV)) (st : List AV) (cs : List CE) (cells slots : Nat) : Prop :=
  ∀ (p : Program) (e : Env) (s : State) (m : MethodId) (args : Array Value) (below : List Frame) (meth : Method) (c : Code) (s₁ : State), BodyLoose p L (yM mi) (headSpec (WS mi) (RK mi mc ms)) (cM mi) (nM mi) (tM mi) e s m args below meth c s₁ → c.maxLocals = nM mi → KD D K s →
    ∀ (ad0 ad : Nat → Nat) (Af : Nat → Prop) (H : Heap) (locs : List Loc) (la : Array Slot), (∀ j, j < n0 → ad j = ad0 j) → n0 ≤ cs.length → (∀ q, s.heap.size ≤ q → Af q) → va_P D classes (wc K ad cs) H → va_D Af (wc K ad cs) → va_S Af s.heap H locs → lv_has la (nM mi) (cvkl ad l) →
    W p L e (headSpec (WS mi) (RK mi mc ms)).room s m args below meth c H locs cells slots (MQ below (QK D K n0 ad0 out Af) args s mc ms Af) (F0 m pc la (cvk ad st))
section
variable {L : Launch} {D : va_G} {K : K3} {mi : MI} {mc ms n0 : Nat} {out : List CE} {pc q : Nat} {l : List (Nat × AV)} {st : List AV} {cs : List CE} {cells slots : Nat}
theorem cvkl_at {ad : Nat → Nat} {la : Array Slot} {n : Nat} (h : lv_has la n (cvkl ad l)) (k : Nat) {i : Nat} {v : AV} (hk : l[k]? = some (i, v)) : la[i]? = some (.val (cvo ad (some v))) := lv_at h k (by rw [List.getElem?_map, hk]; rfl)
theorem b_aload {f : Fin 4} {i x : Nat} (hd : decode (cM mi) pc = .ok (.aload_n f, 1)) (hq : pc + 1 = q) (hi : (f : Nat) = i) (k : Nat) (hk : l[k]? = some (i, O x)) (kk : BK L D K mi mc ms n0 out q l (O x :: st) cs cells slots) : BK L D K mi mc ms n0 out pc l st cs cells slots := by
  intro p e s m args below meth c s₁ B hml hK ad0 ad Af H locs la h0 hn hA hP hD hS hl
  subst hq
  exact lv_aload_n B.exec B.bytes hd hi (cvkl_at hl k hk) (kk p e s m args below meth c s₁ B hml hK ad0 ad Af H locs la h0 hn hA hP hD hS hl)
theorem b_iconst {n : Int} (hd : decode (cM mi) pc = .ok (.iconst n, 1)) (hq : pc + 1 = q) (kk : BK L D K mi mc ms n0 out q l (I n :: st) cs cells slots) : BK L D K mi mc ms n0 out pc l st cs cells slots := by
  intro p e s m args below meth c s₁ B hml hK ad0 ad Af H locs la h0 hn hA hP hD hS hl
  subst hq
  exact lv_iconst B.exec B.bytes hd rfl (kk p e s m args below meth c s₁ B hml hK ad0 ad Af H locs la h0 hn hA hP hD hS hl)
theorem b_bipush {n : Int} (hd : decode (cM mi) pc = .ok (.bipush n, 2)) (hq : pc + 2 = q) (hv : (Int8.ofInt n).toInt32 = Int32.ofInt n) (kk : BK L D K mi mc ms n0 out q l (I n :: st) cs cells slots) : BK L D K mi mc ms n0 out pc l st cs cells slots := by
  intro p e s m args below meth c s₁ B hml hK ad0 ad Af H locs la h0 hn hA hP hD hS hl
  subst hq
  exact lv_bipush B.exec B.bytes hd hv (kk p e s m args below meth c s₁ B hml hK ad0 ad Af H locs la h0 hn hA hP hD hS hl)
theorem b_sipush {n : Int} (hd : decode (cM mi) pc = .ok (.sipush n, 3)) (hq : pc + 3 = q) (hv : (Int16.ofInt n).toInt32 = Int32.ofInt n) (kk : BK L D K mi mc ms n0 out q l (I n :: st) cs cells slots) : BK L D K mi mc ms n0 out pc l st cs cells slots := by
  intro p e s m args below meth c s₁ B hml hK ad0 ad Af H locs la h0 hn hA hP hD hS hl
  subst hq
  exact lv_sipush B.exec B.bytes hd hv (kk p e s m args below meth c s₁ B hml hK ad0 ad Af H locs la h0 hn hA hP hD hS hl)
theorem b_ldc {n : Int} {ix : Nat} (hd : decode (cM mi) pc = .ok (.ldc ix, 2)) (hq : pc + 2 = q) (hc : Cond.constant (yM mi).cls ix (Int32.ofInt n) ∈ gt) (kk : BK L D K mi mc ms n0 out q l (I n :: st) cs cells slots) : BK L D K mi mc ms n0 out pc l st cs cells slots := by
  intro p e s m args below meth c s₁ B hml hK ad0 ad Af H locs la h0 hn hA hP hD hS hl
  subst hq
  exact lv_ldc B.exec B.bytes (findClass_of_methodNamed B.named) (atoms_spec (ws := WS mi) B.pre _ (List.mem_cons_of_mem _ hc)) hd (kk p e s m args below meth c s₁ B hml hK ad0 ad Af H locs la h0 hn hA hP hD hS hl)
theorem b_dup {x : Nat} (hd : decode (cM mi) pc = .ok (.dup, 1)) (hq : pc + 1 = q) (kk : BK L D K mi mc ms n0 out q l (O x :: O x :: st) cs cells slots) : BK L D K mi mc ms n0 out pc l (O x :: st) cs cells slots := by
  intro p e s m args below meth c s₁ B hml hK ad0 ad Af H locs la h0 hn hA hP hD hS hl
  subst hq
  exact lv_dup B.exec B.bytes hd rfl (kk p e s m args below meth c s₁ B hml hK ad0 ad Af H locs la h0 hn hA hP hD hS hl)
theorem cvk_cat (ad : Nat → Nat) (st : List AV) : ((cvk ad st).map fun v => v.category).sum = (st.map catA).sum := by
  induction st with
  | nil => rfl
  | cons v st ih =>
    simp only [cvk, List.map_cons, List.sum_cons] at ih ⊢
    rw [ih]
    rcases v with x | x | k <;> rfl
theorem b_obj {x ix : Nat} (hlk : Cond.methodLink (yM mi).cls ix Lib.objectInit ∈ gt) (hd : decode (cM mi) pc = .ok (.invokespecial ix, 3)) (hq : pc + 3 = q) (hf : 1 ≤ fM mi) (hcat : (st.map catA).sum + 12 ≤ oM mi) (kk : BK L D K mi mc ms n0 out q l st cs cells slots) : BK L D K mi mc ms n0 out pc l (O x :: st) cs cells slots := by
  intro p e s m args below meth c s₁ B hml hK ad0 ad Af H locs la h0 hn hA hP hD hS hl
  subst hq
  have hts : ∀ w ∈ gt, w.before args s = true := fun w hw => atoms_spec (ws := WS mi) B.pre w (List.mem_cons_of_mem _ hw)
  refine W.objInit B.exec B.bytes (findClass_of_methodNamed B.named) (hts _ hlk) (hts _ (gt_at 91 (by decide +kernel) rfl)) (hts _ (gt_at 92 (by decide +kernel) rfl)) (a := ad x) (rest := cvk ad st) rfl (by rw [hml]; exact hl.1) rfl hd hf (by show 2 * 0 + _ + 12 ≤ _; rw [cvk_cat]; show 2 * 0 + _ + 12 ≤ oM mi; omega) ?_
  exact kk p e s m args below meth c s₁ B hml hK ad0 ad Af H locs la h0 hn hA hP hD hS hl
/-- an address for the next place -/
def ex1 (ad : Nat → Nat) (n q : Nat) : Nat → Nat := fun j => if j = n then q else ad j
theorem ex1_lt {ad : Nat → Nat} {n q j : Nat} (h : j < n) : ex1 ad n q j = ad j := if_neg (by omega)
theorem cvkl_ext {ad ad' : Nat → Nat} {n : Nat} (h : ∀ j, j < n → ad' j = ad j) (ho : l.all (fun q => okv n (some q.2)) = true) : cvkl ad' l = cvkl ad l := by
  apply List.map_congr_left
  intro q hq
  show (q.1, _) = (q.1, _)
  rw [cvo_ext h (List.all_eq_true.mp ho q hq)]
theorem cvk_ext {ad ad' : Nat → Nat} {n : Nat} (h : ∀ j, j < n → ad' j = ad j) (ho : st.all (fun v => okv n (some v)) = true) : cvk ad' st = cvk ad st := by
  apply List.map_congr_left
  intro q hq
  rw [cvo_ext h (List.all_eq_true.mp ho q hq)]
theorem wc_push {K : K3} {ad : Nat → Nat} {cs : List CE} {e : CE} {q : Nat} (ho : okl cs = true) (he : okc cs.length e = true) : wc K (ex1 ad cs.length q) (cs ++ [e]) = wc K ad cs ++ [(q, ce K ad e)] := by
  rw [wc_app (ad := ad) (fun j hj => ex1_lt hj) ho]
  show wc K ad cs ++ [(ex1 ad cs.length q (cs.length + 0), ce K (ex1 ad cs.length q) e)] = _
  rw [ce_ext (fun j hj => ex1_lt hj) he]
  simp [ex1]
theorem b_new {ci ix N : Nat} {C : String} {T : u_T} {fs : List (Option AV)} (hc : classes[ci]? = some (C, T, N)) (hcl : Cond.classLink (yM mi).cls ix C ∈ gt) (hinst : Cond.instantiable C N ∈ gt) (hini : Cond.initialized C ∈ gt) (hd : decode (cM mi) pc = .ok (.new ix, 3)) (hq : pc + 3 = q) (hfs : ∀ j, j < N → ∀ ad, defaultValue (tyc ci j) = cvo ad (fs.getD j none)) (hlen : fs.length = N) (hnr : okc 0 (0, ci, fs) = true) (ho : okl cs = true) (hol : l.all (fun q => okv cs.length (some q.2)) = true) (hos : st.all (fun v => okv cs.length (some v)) = true) (hcells : cells + 1 ≤ mc) (hslots : slots + N ≤ ms) {k : Nat} (hk : cs.length = k) (kk : BK L D K mi mc ms n0 out q l (O k :: st) (cs ++ [(0, ci, fs)]) (cells + 1) (slots + N)) : BK L D K mi mc ms n0 out pc l st cs cells slots := by
  intro p e s m args below meth c s₁ B hml hK ad0 ad Af H locs la h0 hn hA hP hD hS hl
  subst hq
  subst hk
  have hts : ∀ w ∈ gt, w.before args s = true := fun w hw => atoms_spec (ws := WS mi) B.pre w (List.mem_cons_of_mem _ hw)
  obtain ⟨o1, o2, o3⟩ := classes_ok ci _ hc
  have hoe : okc cs.length (0, ci, fs) = true := by
    refine List.all_eq_true.mpr (fun v hv => ?_)
    have := List.all_eq_true.mp hnr v hv
    rcases v with _ | x | x | k
    · rfl
    · rfl
    · rfl
    · exact absurd (Nat.blt_eq.mp this) (Nat.not_lt_zero _)
  refine va_new (ci := ci) (fs := fs.map (cvo ad)) (C := C) (T := T) (N := N) B.exec B.bytes hts o1 (tyc ci) o3 (findClass_of_methodNamed B.named) (hts _ hcl) (hts _ hinst) (hts _ hini) hK.1 hP hD hS hA hc (fun j hj => ?_) hcells hslots hd (fun q0 H1 hP1 hD1 hS1 => ?_)
  · rw [hfs j hj ad]
    unfold vp_V
    rw [List.getD_eq_getElem?_getD, List.getD_eq_getElem?_getD, List.getElem?_map, List.getElem?_eq_getElem (by rw [hlen]; exact hj)]
    rfl
  · have e1 : wc K (ex1 ad cs.length q0) (cs ++ [(0, ci, fs)]) = wc K ad cs ++ [(q0, .inr (ci, fs.map (cvo ad)))] := wc_push ho hoe
    have e2 : cvk (ex1 ad cs.length q0) (O cs.length :: st) = .ref q0 :: cvk ad st := by
      show Value.ref (ex1 ad cs.length q0 cs.length) :: cvk (ex1 ad cs.length q0) st = _
      rw [cvk_ext (fun j hj => ex1_lt hj) hos]
      simp [ex1]
    have := kk p e s m args below meth c s₁ B hml hK ad0 (ex1 ad cs.length q0) Af H1 locs la (fun j hj => by rw [ex1_lt (Nat.lt_of_lt_of_le hj hn)]; exact h0 j hj) (by rw [List.length_append]; omega) hA (by rw [e1]; exact hP1) (by rw [e1]; exact hD1) hS1 (by rw [cvkl_ext (fun j hj => ex1_lt hj) hol]; exact hl)
    rw [e2] at this
    exact this
theorem K_same {D : va_G} {K : K3} {s : State} {cA : ClassId} {ty : FieldType} (hK : KD D K s) (h1 : va_K D classes ([(K.1, .int), (K.2.1, .boolean), (K.2.2, .array .int)] ++ [(cA, ty)]) s) : (ty = .int → cA = K.1) ∧ (ty = .boolean → cA = K.2.1) ∧ (ty = .array .int → cA = K.2.2) := by
  have h := (h1.2 3 (cA, ty) rfl).2
  refine ⟨fun e => ?_, fun e => ?_, fun e => ?_⟩ <;> subst e
  · exact Option.some.inj (Eq.trans (Eq.symm h) (hK.1.2 0 _ rfl).2)
  · exact Option.some.inj (Eq.trans (Eq.symm h) (hK.1.2 1 _ rfl).2)
  · exact Option.some.inj (Eq.trans (Eq.symm h) (hK.1.2 2 _ rfl).2)
theorem b_newaI {n : Int} {N : Nat} (hd : decode (cM mi) pc = .ok (.newarray .int, 2)) (hq : pc + 2 = q) (hn : 0 ≤ n ∧ n < 100000) (hN : n.toNat = N) (ho : okl cs = true) (hol : l.all (fun q => okv cs.length (some q.2)) = true) (hos : st.all (fun v => okv cs.length (some v)) = true) (hcells : cells + 1 ≤ mc) (hslots : slots + N ≤ ms) {k : Nat} (hk : cs.length = k) (kk : BK L D K mi mc ms n0 out q l (O k :: st) (cs ++ [(1, N, [])]) (cells + 1) (slots + N)) : BK L D K mi mc ms n0 out pc l (I n :: st) cs cells slots := by
  intro p e s m args below meth c s₁ B hml hK ad0 ad Af H locs la h0 hn0 hA hP hD hS hl
  subst hq
  subst hk
  have hts : ∀ w ∈ gt, w.before args s = true := fun w hw => atoms_spec (ws := WS mi) B.pre w (List.mem_cons_of_mem _ hw)
  have hr : rng n := ⟨by omega, by omega⟩
  have h1 : (Int32.ofInt n).toNatClampNeg = N := by unfold Int32.toNatClampNeg; rw [oi_toInt hr]; exact hN
  have h2 : ¬ Int32.ofInt n < 0 := fun z => by
    have z : Int32.ofInt n < Int32.ofInt 0 := z
    rw [oi_lt hr ⟨by decide, by decide⟩] at z
    omega
  refine va_newa (a0 := (N, .inl (fun _ => 0))) B.exec B.bytes (hts _ (gt_at 164 (by decide +kernel) rfl)) (ty := .int) rfl hK.1 hP hD hS hA (fun cA => rfl) h2 h1 (by show N * 4 ≤ _; omega) hcells hslots hd (fun q0 cA H1 hK1 hP1 hD1 hS1 => ?_)
  have ec := (K_same hK hK1).1 rfl
  subst ec
  have e1 : wc K (ex1 ad cs.length q0) (cs ++ [(1, N, [])]) = wc K ad cs ++ [(q0, .inl (K.1, N, .inl (fun _ => 0)))] := wc_push ho rfl
  have e2 : cvk (ex1 ad cs.length q0) (O cs.length :: st) = .ref q0 :: cvk ad st := by
    show Value.ref (ex1 ad cs.length q0 cs.length) :: cvk (ex1 ad cs.length q0) st = _
    rw [cvk_ext (fun j hj => ex1_lt hj) hos]
    simp [ex1]
  have := kk p e s m args below meth c s₁ B hml hK ad0 (ex1 ad cs.length q0) Af H1 locs la (fun j hj => by rw [ex1_lt (Nat.lt_of_lt_of_le hj hn0)]; exact h0 j hj) (by rw [List.length_append]; omega) hA (by rw [e1]; exact hP1) (by rw [e1]; exact hD1) hS1 (by rw [cvkl_ext (fun j hj => ex1_lt hj) hol]; exact hl)
  rw [e2] at this
  exact this
theorem b_newaZ {n : Int} {N : Nat} (hd : decode (cM mi) pc = .ok (.newarray .boolean, 2)) (hq : pc + 2 = q) (hn : 0 ≤ n ∧ n < 100000) (hN : n.toNat = N) (ho : okl cs = true) (hol : l.all (fun q => okv cs.length (some q.2)) = true) (hos : st.all (fun v => okv cs.length (some v)) = true) (hcells : cells + 1 ≤ mc) (hslots : slots + N ≤ ms) {k : Nat} (hk : cs.length = k) (kk : BK L D K mi mc ms n0 out q l (O k :: st) (cs ++ [(2, N, [])]) (cells + 1) (slots + N)) : BK L D K mi mc ms n0 out pc l (I n :: st) cs cells slots := by
  intro p e s m args below meth c s₁ B hml hK ad0 ad Af H locs la h0 hn0 hA hP hD hS hl
  subst hq
  subst hk
  have hts : ∀ w ∈ gt, w.before args s = true := fun w hw => atoms_spec (ws := WS mi) B.pre w (List.mem_cons_of_mem _ hw)
  have hr : rng n := ⟨by omega, by omega⟩
  have h1 : (Int32.ofInt n).toNatClampNeg = N := by unfold Int32.toNatClampNeg; rw [oi_toInt hr]; exact hN
  have h2 : ¬ Int32.ofInt n < 0 := fun z => by
    have z : Int32.ofInt n < Int32.ofInt 0 := z
    rw [oi_lt hr ⟨by decide, by decide⟩] at z
    omega
  refine va_newa (a0 := (N, .inl (fun _ => 0))) B.exec B.bytes (hts _ (gt_at 165 (by decide +kernel) rfl)) (ty := .boolean) rfl hK.1 hP hD hS hA (fun cA => rfl) h2 h1 (by show N * 1 ≤ _; omega) hcells hslots hd (fun q0 cA H1 hK1 hP1 hD1 hS1 => ?_)
  have ec := (K_same hK hK1).2.1 rfl
  subst ec
  have e1 : wc K (ex1 ad cs.length q0) (cs ++ [(2, N, [])]) = wc K ad cs ++ [(q0, .inl (K.2.1, N, .inl (fun _ => 0)))] := wc_push ho rfl
  have e2 : cvk (ex1 ad cs.length q0) (O cs.length :: st) = .ref q0 :: cvk ad st := by
    show Value.ref (ex1 ad cs.length q0 cs.length) :: cvk (ex1 ad cs.length q0) st = _
    rw [cvk_ext (fun j hj => ex1_lt hj) hos]
    simp [ex1]
  have := kk p e s m args below meth c s₁ B hml hK ad0 (ex1 ad cs.length q0) Af H1 locs la (fun j hj => by rw [ex1_lt (Nat.lt_of_lt_of_le hj hn0)]; exact h0 j hj) (by rw [List.length_append]; omega) hA (by rw [e1]; exact hP1) (by rw [e1]; exact hD1) hS1 (by rw [cvkl_ext (fun j hj => ex1_lt hj) hol]; exact hl)
  rw [e2] at this
  exact this
end
