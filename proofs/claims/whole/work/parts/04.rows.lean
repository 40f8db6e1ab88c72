theorem r_iconst {G : GT} {mi : MI} {pc q : Nat} {l : List (Nat × AV)} {st : List AV} {σ : St} {P : Int → St → Prop} {n v : Int} (hd : decode (cM mi) pc = .ok (.iconst n, 1)) (hq : pc + 1 = q) (hv : n = v) (kk : A G mi q l (I v :: st) σ P) : A G mi pc l (st) σ P := by
  intro p e s m args below meth c s₁ B hml hK hR H locs la hP hS hl
  subst hq
  subst hv
  exact lv_iconst B.exec B.bytes hd rfl (kk p e s m args below meth c s₁ B hml hK hR H locs la hP hS hl)
theorem r_bipush {G : GT} {mi : MI} {pc q : Nat} {l : List (Nat × AV)} {st : List AV} {σ : St} {P : Int → St → Prop} {n : Int} (hd : decode (cM mi) pc = .ok (.bipush n, 2)) (hq : pc + 2 = q) (hv : (Int8.ofInt n).toInt32 = Int32.ofInt n) (kk : A G mi q l (I n :: st) σ P) : A G mi pc l (st) σ P := by
  intro p e s m args below meth c s₁ B hml hK hR H locs la hP hS hl
  subst hq
  exact lv_bipush B.exec B.bytes hd hv (kk p e s m args below meth c s₁ B hml hK hR H locs la hP hS hl)
theorem r_sipush {G : GT} {mi : MI} {pc q : Nat} {l : List (Nat × AV)} {st : List AV} {σ : St} {P : Int → St → Prop} {n : Int} (hd : decode (cM mi) pc = .ok (.sipush n, 3)) (hq : pc + 3 = q) (hv : (Int16.ofInt n).toInt32 = Int32.ofInt n) (kk : A G mi q l (I n :: st) σ P) : A G mi pc l (st) σ P := by
  intro p e s m args below meth c s₁ B hml hK hR H locs la hP hS hl
  subst hq
  exact lv_sipush B.exec B.bytes hd hv (kk p e s m args below meth c s₁ B hml hK hR H locs la hP hS hl)
theorem r_ldc {G : GT} {mi : MI} {pc q : Nat} {l : List (Nat × AV)} {st : List AV} {σ : St} {P : Int → St → Prop} {n : Int} {ix : Nat} (hd : decode (cM mi) pc = .ok (.ldc ix, 2)) (hq : pc + 2 = q) (hc : Cond.constant (yM mi).cls ix (Int32.ofInt n) ∈ gt) (kk : A G mi q l (I n :: st) σ P) : A G mi pc l (st) σ P := by
  intro p e s m args below meth c s₁ B hml hK hR H locs la hP hS hl
  subst hq
  exact lv_ldc B.exec B.bytes (findClass_of_methodNamed B.named) ((fun w hw => atoms_spec (ws := WS mi) B.pre w (List.mem_cons_of_mem _ hw)) _ hc) hd (kk p e s m args below meth c s₁ B hml hK hR H locs la hP hS hl)
theorem r_ldcw {G : GT} {mi : MI} {pc q : Nat} {l : List (Nat × AV)} {st : List AV} {σ : St} {P : Int → St → Prop} {n : Int} {ix : Nat} (hd : decode (cM mi) pc = .ok (.ldc_w ix, 3)) (hq : pc + 3 = q) (hc : Cond.constant (yM mi).cls ix (Int32.ofInt n) ∈ gt) (kk : A G mi q l (I n :: st) σ P) : A G mi pc l (st) σ P := by
  intro p e s m args below meth c s₁ B hml hK hR H locs la hP hS hl
  subst hq
  exact lv_ldcw B.exec B.bytes (findClass_of_methodNamed B.named) ((fun w hw => atoms_spec (ws := WS mi) B.pre w (List.mem_cons_of_mem _ hw)) _ hc) hd (kk p e s m args below meth c s₁ B hml hK hR H locs la hP hS hl)
theorem r_ldc2 {G : GT} {mi : MI} {pc q : Nat} {l : List (Nat × AV)} {st : List AV} {σ : St} {P : Int → St → Prop} {n : Int} {ix : Nat} (hd : decode (cM mi) pc = .ok (.ldc2_w ix, 3)) (hq : pc + 3 = q) (hc : Cond.constantLong (yM mi).cls ix (Int64.ofInt n) ∈ gt) (kk : A G mi q l (J n :: st) σ P) : A G mi pc l (st) σ P := by
  intro p e s m args below meth c s₁ B hml hK hR H locs la hP hS hl
  subst hq
  exact lv_ldc2 B.exec B.bytes (findClass_of_methodNamed B.named) ((fun w hw => atoms_spec (ws := WS mi) B.pre w (List.mem_cons_of_mem _ hw)) _ hc) hd (kk p e s m args below meth c s₁ B hml hK hR H locs la hP hS hl)
theorem r_lconst {G : GT} {mi : MI} {pc q : Nat} {l : List (Nat × AV)} {st : List AV} {σ : St} {P : Int → St → Prop} {f : Fin 2} {n : Int} (hd : decode (cM mi) pc = .ok (.lconst f, 1)) (hq : pc + 1 = q) (hv : Int64.ofNat (f : Nat) = Int64.ofInt n) (kk : A G mi q l (J n :: st) σ P) : A G mi pc l (st) σ P := by
  intro p e s m args below meth c s₁ B hml hK hR H locs la hP hS hl
  subst hq
  exact lv_lconst B.exec B.bytes hd hv (kk p e s m args below meth c s₁ B hml hK hR H locs la hP hS hl)
theorem cvl_at {G : GT} {la : Array Slot} {n : Nat} {l : List (Nat × AV)} (h : lv_has la n (cvl G l)) (k : Nat) {i : Nat} {v : AV} (hk : l[k]? = some (i, v)) : la[i]? = some (.val (cv G v)) := lv_at h k (by rw [List.getElem?_map, hk]; rfl)
theorem r_iload_n {G : GT} {mi : MI} {pc q : Nat} {l : List (Nat × AV)} {st : List AV} {σ : St} {P : Int → St → Prop} {f : Fin 4} {i : Nat} {x : Int} (hd : decode (cM mi) pc = .ok (.iload_n f, 1)) (hq : pc + 1 = q) (hi : (f : Nat) = i) (k : Nat) (hk : l[k]? = some (i, I x)) (kk : A G mi q l (I x :: st) σ P) : A G mi pc l (st) σ P := by
  intro p e s m args below meth c s₁ B hml hK hR H locs la hP hS hl
  subst hq
  exact lv_iload_n B.exec B.bytes hd hi (cvl_at hl k hk) (kk p e s m args below meth c s₁ B hml hK hR H locs la hP hS hl)
theorem r_iload {G : GT} {mi : MI} {pc q : Nat} {l : List (Nat × AV)} {st : List AV} {σ : St} {P : Int → St → Prop} {i : Nat} {x : Int} (hd : decode (cM mi) pc = .ok (.iload i, 2)) (hq : pc + 2 = q) (k : Nat) (hk : l[k]? = some (i, I x)) (kk : A G mi q l (I x :: st) σ P) : A G mi pc l (st) σ P := by
  intro p e s m args below meth c s₁ B hml hK hR H locs la hP hS hl
  subst hq
  exact lv_iload B.exec B.bytes hd (cvl_at hl k hk) (kk p e s m args below meth c s₁ B hml hK hR H locs la hP hS hl)
theorem r_lload_n {G : GT} {mi : MI} {pc q : Nat} {l : List (Nat × AV)} {st : List AV} {σ : St} {P : Int → St → Prop} {f : Fin 4} {i : Nat} {x : Int} (hd : decode (cM mi) pc = .ok (.lload_n f, 1)) (hq : pc + 1 = q) (hi : (f : Nat) = i) (k : Nat) (hk : l[k]? = some (i, J x)) (kk : A G mi q l (J x :: st) σ P) : A G mi pc l (st) σ P := by
  intro p e s m args below meth c s₁ B hml hK hR H locs la hP hS hl
  subst hq
  exact lv_lload_n B.exec B.bytes hd hi (cvl_at hl k hk) (kk p e s m args below meth c s₁ B hml hK hR H locs la hP hS hl)
theorem r_lload {G : GT} {mi : MI} {pc q : Nat} {l : List (Nat × AV)} {st : List AV} {σ : St} {P : Int → St → Prop} {i : Nat} {x : Int} (hd : decode (cM mi) pc = .ok (.lload i, 2)) (hq : pc + 2 = q) (k : Nat) (hk : l[k]? = some (i, J x)) (kk : A G mi q l (J x :: st) σ P) : A G mi pc l (st) σ P := by
  intro p e s m args below meth c s₁ B hml hK hR H locs la hP hS hl
  subst hq
  exact lv_lload B.exec B.bytes hd (cvl_at hl k hk) (kk p e s m args below meth c s₁ B hml hK hR H locs la hP hS hl)
theorem r_aload_n {G : GT} {mi : MI} {pc q : Nat} {l : List (Nat × AV)} {st : List AV} {σ : St} {P : Int → St → Prop} {f : Fin 4} {i : Nat} {x : Nat} (hd : decode (cM mi) pc = .ok (.aload_n f, 1)) (hq : pc + 1 = q) (hi : (f : Nat) = i) (k : Nat) (hk : l[k]? = some (i, O x)) (kk : A G mi q l (O x :: st) σ P) : A G mi pc l (st) σ P := by
  intro p e s m args below meth c s₁ B hml hK hR H locs la hP hS hl
  subst hq
  exact lv_aload_n B.exec B.bytes hd hi (cvl_at hl k hk) (kk p e s m args below meth c s₁ B hml hK hR H locs la hP hS hl)
theorem r_aload {G : GT} {mi : MI} {pc q : Nat} {l : List (Nat × AV)} {st : List AV} {σ : St} {P : Int → St → Prop} {i : Nat} {x : Nat} (hd : decode (cM mi) pc = .ok (.aload i, 2)) (hq : pc + 2 = q) (k : Nat) (hk : l[k]? = some (i, O x)) (kk : A G mi q l (O x :: st) σ P) : A G mi pc l (st) σ P := by
  intro p e s m args below meth c s₁ B hml hK hR H locs la hP hS hl
  subst hq
  exact lv_aload B.exec B.bytes hd (cvl_at hl k hk) (kk p e s m args below meth c s₁ B hml hK hR H locs la hP hS hl)
def lfil (l : List (Nat × AV)) (i : Nat) : List (Nat × AV) := l.filter (fun q => !(q.1 == i) && !(q.1 + 1 == i && q.2.elim (fun _ => false) (fun z => z.isLeft)))
theorem cv_cat (G : GT) (v : AV) : (cv G v).category = if v.elim (fun _ => false) (fun z => z.isLeft) then 2 else 1 := by
  rcases v with x | x | k <;> rfl
theorem cvl_fil (G : GT) (l : List (Nat × AV)) (i : Nat) : cvl G (lfil l i) = (cvl G l).filter (fun q => !(q.1 == i) && !(q.1 + 1 == i && q.2.category == 2)) := by
  unfold lfil cvl
  rw [List.filter_map]
  congr 1
  apply List.filter_congr
  intro q _
  simp only [Function.comp, cv_cat]
  rcases q with ⟨a, x | x | k⟩ <;> simp
theorem r_istore_n {G : GT} {mi : MI} {pc q : Nat} {l : List (Nat × AV)} {st : List AV} {σ : St} {P : Int → St → Prop} {f : Fin 4} {i : Nat} {x : Int} {l' : List (Nat × AV)} (hd : decode (cM mi) pc = .ok (.istore_n f, 1)) (hq : pc + 1 = q) (hi : (f : Nat) = i) (hn : i < nM mi) (hl' : (i, I x) :: lfil l i = l') (kk : A G mi q l' st σ P) : A G mi pc l (I x :: st) σ P := by
  intro p e s m args below meth c s₁ B hml hK hR H locs la hP hS hl
  subst hq
  subst hl'
  refine lv_istore_n B.exec B.bytes hd hi hl hn rfl (fun ls' h' => ?_)
  refine kk p e s m args below meth c s₁ B hml hK hR H locs ls' hP hS ?_
  have e1 : cvl G ((i, I x) :: lfil l i) = (i, cv G (I x)) :: cvl G (lfil l i) := rfl
  rw [e1, cvl_fil]
  exact h'
theorem r_istore {G : GT} {mi : MI} {pc q : Nat} {l : List (Nat × AV)} {st : List AV} {σ : St} {P : Int → St → Prop} {i : Nat} {x : Int} {l' : List (Nat × AV)} (hd : decode (cM mi) pc = .ok (.istore i, 2)) (hq : pc + 2 = q) (hn : i < nM mi) (hl' : (i, I x) :: lfil l i = l') (kk : A G mi q l' st σ P) : A G mi pc l (I x :: st) σ P := by
  intro p e s m args below meth c s₁ B hml hK hR H locs la hP hS hl
  subst hq
  subst hl'
  refine lv_istore B.exec B.bytes hd hl hn rfl (fun ls' h' => ?_)
  refine kk p e s m args below meth c s₁ B hml hK hR H locs ls' hP hS ?_
  have e1 : cvl G ((i, I x) :: lfil l i) = (i, cv G (I x)) :: cvl G (lfil l i) := rfl
  rw [e1, cvl_fil]
  exact h'
theorem r_astore_n {G : GT} {mi : MI} {pc q : Nat} {l : List (Nat × AV)} {st : List AV} {σ : St} {P : Int → St → Prop} {f : Fin 4} {i : Nat} {x : Nat} {l' : List (Nat × AV)} (hd : decode (cM mi) pc = .ok (.astore_n f, 1)) (hq : pc + 1 = q) (hi : (f : Nat) = i) (hn : i < nM mi) (hl' : (i, O x) :: lfil l i = l') (kk : A G mi q l' st σ P) : A G mi pc l (O x :: st) σ P := by
  intro p e s m args below meth c s₁ B hml hK hR H locs la hP hS hl
  subst hq
  subst hl'
  refine lv_astore_n B.exec B.bytes hd hi hl hn rfl (fun ls' h' => ?_)
  refine kk p e s m args below meth c s₁ B hml hK hR H locs ls' hP hS ?_
  have e1 : cvl G ((i, O x) :: lfil l i) = (i, cv G (O x)) :: cvl G (lfil l i) := rfl
  rw [e1, cvl_fil]
  exact h'
theorem r_astore {G : GT} {mi : MI} {pc q : Nat} {l : List (Nat × AV)} {st : List AV} {σ : St} {P : Int → St → Prop} {i : Nat} {x : Nat} {l' : List (Nat × AV)} (hd : decode (cM mi) pc = .ok (.astore i, 2)) (hq : pc + 2 = q) (hn : i < nM mi) (hl' : (i, O x) :: lfil l i = l') (kk : A G mi q l' st σ P) : A G mi pc l (O x :: st) σ P := by
  intro p e s m args below meth c s₁ B hml hK hR H locs la hP hS hl
  subst hq
  subst hl'
  refine lv_astore B.exec B.bytes hd hl hn rfl (fun ls' h' => ?_)
  refine kk p e s m args below meth c s₁ B hml hK hR H locs ls' hP hS ?_
  have e1 : cvl G ((i, O x) :: lfil l i) = (i, cv G (O x)) :: cvl G (lfil l i) := rfl
  rw [e1, cvl_fil]
  exact h'
theorem r_iinc {G : GT} {mi : MI} {pc q : Nat} {l : List (Nat × AV)} {st : List AV} {σ : St} {P : Int → St → Prop} {i k : Nat} {n x : Int} {l' : List (Nat × AV)} (hd : decode (cM mi) pc = .ok (.iinc i n, 3)) (hq : pc + 3 = q) (hk : l[k]? = some (i, I x)) (hn : i < nM mi) (hl' : (i, I (x + n)) :: lfil l i = l') (kk : A G mi q l' st σ P) : A G mi pc l st σ P := by
  intro p e s m args below meth c s₁ B hml hK hR H locs la hP hS hl
  subst hq
  subst hl'
  refine lv_iinc B.exec B.bytes hd hl (k := k) (x := Int32.ofInt x) (v := Int32.ofInt (x + n)) (by rw [List.getElem?_map, hk]; rfl) (by rw [Int32.ofInt_add]) hn rfl (fun ls' h' => ?_)
  refine kk p e s m args below meth c s₁ B hml hK hR H locs ls' hP hS ?_
  have e1 : cvl G ((i, I (x + n)) :: lfil l i) = (i, cv G (I (x + n))) :: cvl G (lfil l i) := rfl
  rw [e1, cvl_fil]
  exact h'
theorem r_loc {G : GT} {mi : MI} {pc : Nat} {l : List (Nat × AV)} {st : List AV} {σ : St} {P : Int → St → Prop} {l' : List (Nat × AV)} (ks : List Nat) (h : ks.filterMap (fun k => l[k]?) = l') (kk : A G mi pc l' st σ P) : A G mi pc l st σ P := by
  intro p e s m args below meth c s₁ B hml hK hR H locs la hP hS hl
  refine kk p e s m args below meth c s₁ B hml hK hR H locs la hP hS (lv_sub hl ks ?_)
  subst h
  unfold lv_pick cvl
  rw [List.map_filterMap]
  congr 1
  funext k
  rw [List.getElem?_map]
theorem r_iadd {G : GT} {mi : MI} {pc q : Nat} {l : List (Nat × AV)} {st : List AV} {σ : St} {P : Int → St → Prop} {x y : Int} (hd : decode (cM mi) pc = .ok (.iadd, 1)) (hq : pc + 1 = q)  (kk : A G mi q l (I (x + y) :: st) σ P) : A G mi pc l (I y :: I x :: st) σ P := by
  intro p e s m args below meth c s₁ B hml hK hR H locs la hP hS hl
  subst hq
  refine lv_iadd B.exec B.bytes hd ?_
  rw [← Int32.ofInt_add]
  exact kk p e s m args below meth c s₁ B hml hK hR H locs la hP hS hl
theorem r_isub {G : GT} {mi : MI} {pc q : Nat} {l : List (Nat × AV)} {st : List AV} {σ : St} {P : Int → St → Prop} {x y : Int} (hd : decode (cM mi) pc = .ok (.isub, 1)) (hq : pc + 1 = q)  (kk : A G mi q l (I (x - y) :: st) σ P) : A G mi pc l (I y :: I x :: st) σ P := by
  intro p e s m args below meth c s₁ B hml hK hR H locs la hP hS hl
  subst hq
  refine lv_isub B.exec B.bytes hd ?_
  rw [← Int32.ofInt_sub]
  exact kk p e s m args below meth c s₁ B hml hK hR H locs la hP hS hl
theorem r_imul {G : GT} {mi : MI} {pc q : Nat} {l : List (Nat × AV)} {st : List AV} {σ : St} {P : Int → St → Prop} {x y : Int} (hd : decode (cM mi) pc = .ok (.imul, 1)) (hq : pc + 1 = q)  (kk : A G mi q l (I (x * y) :: st) σ P) : A G mi pc l (I y :: I x :: st) σ P := by
  intro p e s m args below meth c s₁ B hml hK hR H locs la hP hS hl
  subst hq
  refine lv_imul B.exec B.bytes hd ?_
  rw [← Int32.ofInt_mul]
  exact kk p e s m args below meth c s₁ B hml hK hR H locs la hP hS hl
theorem r_ineg {G : GT} {mi : MI} {pc q : Nat} {l : List (Nat × AV)} {st : List AV} {σ : St} {P : Int → St → Prop} {x : Int} (hd : decode (cM mi) pc = .ok (.ineg, 1)) (hq : pc + 1 = q)  (kk : A G mi q l (I (-x) :: st) σ P) : A G mi pc l (I x :: st) σ P := by
  intro p e s m args below meth c s₁ B hml hK hR H locs la hP hS hl
  subst hq
  refine lv_ineg B.exec B.bytes hd ?_
  rw [← Int32.ofInt_neg]
  exact kk p e s m args below meth c s₁ B hml hK hR H locs la hP hS hl
theorem r_iand {G : GT} {mi : MI} {pc q : Nat} {l : List (Nat × AV)} {st : List AV} {σ : St} {P : Int → St → Prop} {x y : Int} (hd : decode (cM mi) pc = .ok (.iand, 1)) (hq : pc + 1 = q)  (kk : A G mi q l (I ((Int32.ofInt x &&& Int32.ofInt y).toInt) :: st) σ P) : A G mi pc l (I y :: I x :: st) σ P := by
  intro p e s m args below meth c s₁ B hml hK hR H locs la hP hS hl
  subst hq
  refine lv_iand B.exec B.bytes hd ?_
  have h := kk p e s m args below meth c s₁ B hml hK hR H locs la hP hS hl
  have e1 : cvs G (I ((Int32.ofInt x &&& Int32.ofInt y).toInt) :: st) = Value.int (Int32.ofInt x &&& Int32.ofInt y) :: cvs G st := by show Value.int (Int32.ofInt _) :: _ = _; rw [Int32.ofInt_toInt]
  rw [e1] at h
  exact h
theorem r_ior {G : GT} {mi : MI} {pc q : Nat} {l : List (Nat × AV)} {st : List AV} {σ : St} {P : Int → St → Prop} {x y : Int} (hd : decode (cM mi) pc = .ok (.ior, 1)) (hq : pc + 1 = q)  (kk : A G mi q l (I ((Int32.ofInt x ||| Int32.ofInt y).toInt) :: st) σ P) : A G mi pc l (I y :: I x :: st) σ P := by
  intro p e s m args below meth c s₁ B hml hK hR H locs la hP hS hl
  subst hq
  refine lv_ior B.exec B.bytes hd ?_
  have h := kk p e s m args below meth c s₁ B hml hK hR H locs la hP hS hl
  have e1 : cvs G (I ((Int32.ofInt x ||| Int32.ofInt y).toInt) :: st) = Value.int (Int32.ofInt x ||| Int32.ofInt y) :: cvs G st := by show Value.int (Int32.ofInt _) :: _ = _; rw [Int32.ofInt_toInt]
  rw [e1] at h
  exact h
theorem r_ishl {G : GT} {mi : MI} {pc q : Nat} {l : List (Nat × AV)} {st : List AV} {σ : St} {P : Int → St → Prop} {x y : Int} (hd : decode (cM mi) pc = .ok (.ishl, 1)) (hq : pc + 1 = q)  (kk : A G mi q l (I ((Int32.ofInt x <<< (Int32.ofInt y &&& 31)).toInt) :: st) σ P) : A G mi pc l (I y :: I x :: st) σ P := by
  intro p e s m args below meth c s₁ B hml hK hR H locs la hP hS hl
  subst hq
  refine lv_ishl B.exec B.bytes hd ?_
  have h := kk p e s m args below meth c s₁ B hml hK hR H locs la hP hS hl
  have e1 : cvs G (I ((Int32.ofInt x <<< (Int32.ofInt y &&& 31)).toInt) :: st) = Value.int (Int32.ofInt x <<< (Int32.ofInt y &&& 31)) :: cvs G st := by show Value.int (Int32.ofInt _) :: _ = _; rw [Int32.ofInt_toInt]
  rw [e1] at h
  exact h
theorem r_ishr {G : GT} {mi : MI} {pc q : Nat} {l : List (Nat × AV)} {st : List AV} {σ : St} {P : Int → St → Prop} {x y : Int} (hd : decode (cM mi) pc = .ok (.ishr, 1)) (hq : pc + 1 = q)  (kk : A G mi q l (I ((Int32.ofInt x >>> (Int32.ofInt y &&& 31)).toInt) :: st) σ P) : A G mi pc l (I y :: I x :: st) σ P := by
  intro p e s m args below meth c s₁ B hml hK hR H locs la hP hS hl
  subst hq
  refine lv_ishr B.exec B.bytes hd ?_
  have h := kk p e s m args below meth c s₁ B hml hK hR H locs la hP hS hl
  have e1 : cvs G (I ((Int32.ofInt x >>> (Int32.ofInt y &&& 31)).toInt) :: st) = Value.int (Int32.ofInt x >>> (Int32.ofInt y &&& 31)) :: cvs G st := by show Value.int (Int32.ofInt _) :: _ = _; rw [Int32.ofInt_toInt]
  rw [e1] at h
  exact h
theorem oi_div {x y : Int} (hx : 0 ≤ x) (hx' : x < 2147483648) (hy : 0 < y) (hy' : y < 2147483648) : Int32.ofInt x / Int32.ofInt y = Int32.ofInt (x / y) := by
  have h1 : rng x := ⟨by omega, hx'⟩
  have h2 : rng y := ⟨by omega, hy'⟩
  have h4 : 0 ≤ x / y := Int.ediv_nonneg hx (Int.le_of_lt hy)
  have h5 : x / y ≤ x := Int.ediv_le_self y hx
  have h3 : rng (x / y) := ⟨by omega, by omega⟩
  apply Int32.toInt_inj.mp
  rw [Int32.toInt_div, oi_toInt h1, oi_toInt h2, oi_toInt h3, Int.tdiv_eq_ediv_of_nonneg hx]
  exact Int.bmod_eq_of_le (by have := h3.1; omega) (by have := h3.2; omega)
theorem oi_ne0 {y : Int} (hy : 0 < y) (hy' : y < 2147483648) : ¬ Int32.ofInt y = 0 := by
  intro h
  have : Int32.ofInt y = Int32.ofInt 0 := h
  rw [oi_eq ⟨by omega, hy'⟩ ⟨by decide, by decide⟩] at this
  omega
theorem r_idiv {G : GT} {mi : MI} {pc q : Nat} {l : List (Nat × AV)} {st : List AV} {σ : St} {P : Int → St → Prop} {x y : Int} (hd : decode (cM mi) pc = .ok (.idiv, 1)) (hq : pc + 1 = q) (h1 : 0 ≤ x) (h2 : rng x) (hy : 0 < y) (hy2 : y < 2147483648) (kk : A G mi q l (I (x / y) :: st) σ P) : A G mi pc l (I y :: I x :: st) σ P := by
  intro p e s m args below meth c s₁ B hml hK hR H locs la hP hS hl
  subst hq
  refine lv_idiv B.exec B.bytes hd (oi_ne0 hy hy2) ?_
  rw [oi_div h1 h2.2 hy hy2]
  exact kk p e s m args below meth c s₁ B hml hK hR H locs la hP hS hl
theorem r_irem {G : GT} {mi : MI} {pc q : Nat} {l : List (Nat × AV)} {st : List AV} {σ : St} {P : Int → St → Prop} {x y : Int} (hd : decode (cM mi) pc = .ok (.irem, 1)) (hq : pc + 1 = q) (h1 : 0 ≤ x) (h2 : rng x) (hy : 0 < y) (hy2 : y < 2147483648) (kk : A G mi q l (I (x % y) :: st) σ P) : A G mi pc l (I y :: I x :: st) σ P := by
  intro p e s m args below meth c s₁ B hml hK hR H locs la hP hS hl
  subst hq
  refine lv_irem B.exec B.bytes hd (oi_ne0 hy hy2) ?_
  rw [oi_div h1 h2.2 hy hy2, ← Int32.ofInt_mul, ← Int32.ofInt_sub, show x - x / y * y = x % y by rw [Int.emod_def, Int.mul_comm]]
  exact kk p e s m args below meth c s₁ B hml hK hR H locs la hP hS hl
theorem r_i2l {G : GT} {mi : MI} {pc q : Nat} {l : List (Nat × AV)} {st : List AV} {σ : St} {P : Int → St → Prop} {x : Int} (hd : decode (cM mi) pc = .ok (.i2l, 1)) (hq : pc + 1 = q) (hx : rng x) (kk : A G mi q l (J x :: st) σ P) : A G mi pc l (I x :: st) σ P := by
  intro p e s m args below meth c s₁ B hml hK hR H locs la hP hS hl
  subst hq
  exact lv_i2l B.exec B.bytes hd (by rw [← Int64.ofInt_int32ToInt, oi_toInt hx]) (kk p e s m args below meth c s₁ B hml hK hR H locs la hP hS hl)
theorem r_dup {G : GT} {mi : MI} {pc q : Nat} {l : List (Nat × AV)} {st : List AV} {σ : St} {P : Int → St → Prop} {x : Int} (hd : decode (cM mi) pc = .ok (.dup, 1)) (hq : pc + 1 = q)  (kk : A G mi q l (I x :: I x :: st) σ P) : A G mi pc l (I x :: st) σ P := by
  intro p e s m args below meth c s₁ B hml hK hR H locs la hP hS hl
  subst hq
  exact lv_dup B.exec B.bytes hd rfl (kk p e s m args below meth c s₁ B hml hK hR H locs la hP hS hl)
theorem r_dupo {G : GT} {mi : MI} {pc q : Nat} {l : List (Nat × AV)} {st : List AV} {σ : St} {P : Int → St → Prop} {x : Nat} (hd : decode (cM mi) pc = .ok (.dup, 1)) (hq : pc + 1 = q)  (kk : A G mi q l (O x :: O x :: st) σ P) : A G mi pc l (O x :: st) σ P := by
  intro p e s m args below meth c s₁ B hml hK hR H locs la hP hS hl
  subst hq
  exact lv_dup B.exec B.bytes hd rfl (kk p e s m args below meth c s₁ B hml hK hR H locs la hP hS hl)
theorem r_pop {G : GT} {mi : MI} {pc q : Nat} {l : List (Nat × AV)} {st : List AV} {σ : St} {P : Int → St → Prop} {x : Int} (hd : decode (cM mi) pc = .ok (.pop, 1)) (hq : pc + 1 = q)  (kk : A G mi q l (st) σ P) : A G mi pc l (I x :: st) σ P := by
  intro p e s m args below meth c s₁ B hml hK hR H locs la hP hS hl
  subst hq
  exact lv_pop B.exec B.bytes hd rfl (kk p e s m args below meth c s₁ B hml hK hR H locs la hP hS hl)
theorem r_dup2 {G : GT} {mi : MI} {pc q : Nat} {l : List (Nat × AV)} {st : List AV} {σ : St} {P : Int → St → Prop} {x : Int} {k : Nat} (hd : decode (cM mi) pc = .ok (.dup2, 1)) (hq : pc + 1 = q)  (kk : A G mi q l (I x :: O k :: I x :: O k :: st) σ P) : A G mi pc l (I x :: O k :: st) σ P := by
  intro p e s m args below meth c s₁ B hml hK hR H locs la hP hS hl
  subst hq
  exact lv_dup2_11 B.exec B.bytes hd rfl rfl (kk p e s m args below meth c s₁ B hml hK hR H locs la hP hS hl)
theorem r_goto {G : GT} {mi : MI} {pc q : Nat} {l : List (Nat × AV)} {st : List AV} {σ : St} {P : Int → St → Prop} {off : Int} (hd : decode (cM mi) pc = .ok (.goto off, 3)) (ht : (pc : Int) + off = (q : Int)) (kk : A G mi q l st σ P) : A G mi pc l st σ P := by
  intro p e s m args below meth c s₁ B hml hK hR H locs la hP hS hl
  exact lv_goto B.exec B.bytes hd ht (kk p e s m args below meth c s₁ B hml hK hR H locs la hP hS hl)
theorem r_icmp_eq {G : GT} {mi : MI} {pc q : Nat} {l : List (Nat × AV)} {st : List AV} {σ : St} {P : Int → St → Prop} {t : Nat} {off x y : Int} (hd : decode (cM mi) pc = .ok (.if_icmp .eq off, 3)) (hq : pc + 3 = q) (ht : (pc : Int) + off = (t : Int)) (hx : rng x) (hy : rng y) (kt : x = y → A G mi t l st σ P) (kf : x ≠ y → A G mi q l st σ P) : A G mi pc l (I y :: I x :: st) σ P := by
  intro p e s m args below meth c s₁ B hml hK hR H locs la hP hS hl
  subst hq
  exact lv_icmp_eq B.exec B.bytes hd ht (fun h => kt ((oi_eq hx hy).mp h) p e s m args below meth c s₁ B hml hK hR H locs la hP hS hl) (fun h => (fun h => kf (fun z => h ((oi_eq hx hy).mpr z))) h p e s m args below meth c s₁ B hml hK hR H locs la hP hS hl)
theorem r_if_eq {G : GT} {mi : MI} {pc q : Nat} {l : List (Nat × AV)} {st : List AV} {σ : St} {P : Int → St → Prop} {t : Nat} {off x : Int} (hd : decode (cM mi) pc = .ok (.ifCond .eq off, 3)) (hq : pc + 3 = q) (ht : (pc : Int) + off = (t : Int)) (hx : rng x) (kt : x = 0 → A G mi t l st σ P) (kf : x ≠ 0 → A G mi q l st σ P) : A G mi pc l (I x :: st) σ P := by
  intro p e s m args below meth c s₁ B hml hK hR H locs la hP hS hl
  subst hq
  exact lv_if_eq B.exec B.bytes hd ht (fun h => kt ((oi_eq hx (⟨by decide, by decide⟩ : rng 0)).mp h) p e s m args below meth c s₁ B hml hK hR H locs la hP hS hl) (fun h => (fun h => kf (fun z => h ((oi_eq hx (⟨by decide, by decide⟩ : rng 0)).mpr z))) h p e s m args below meth c s₁ B hml hK hR H locs la hP hS hl)
theorem r_icmp_ne {G : GT} {mi : MI} {pc q : Nat} {l : List (Nat × AV)} {st : List AV} {σ : St} {P : Int → St → Prop} {t : Nat} {off x y : Int} (hd : decode (cM mi) pc = .ok (.if_icmp .ne off, 3)) (hq : pc + 3 = q) (ht : (pc : Int) + off = (t : Int)) (hx : rng x) (hy : rng y) (kt : x ≠ y → A G mi t l st σ P) (kf : x = y → A G mi q l st σ P) : A G mi pc l (I y :: I x :: st) σ P := by
  intro p e s m args below meth c s₁ B hml hK hR H locs la hP hS hl
  subst hq
  exact lv_icmp_ne B.exec B.bytes hd ht (fun h => kt ((not_congr (oi_eq hx hy)).mp h) p e s m args below meth c s₁ B hml hK hR H locs la hP hS hl) (fun h => (fun h => kf ((oi_eq hx hy).mp h)) h p e s m args below meth c s₁ B hml hK hR H locs la hP hS hl)
theorem r_if_ne {G : GT} {mi : MI} {pc q : Nat} {l : List (Nat × AV)} {st : List AV} {σ : St} {P : Int → St → Prop} {t : Nat} {off x : Int} (hd : decode (cM mi) pc = .ok (.ifCond .ne off, 3)) (hq : pc + 3 = q) (ht : (pc : Int) + off = (t : Int)) (hx : rng x) (kt : x ≠ 0 → A G mi t l st σ P) (kf : x = 0 → A G mi q l st σ P) : A G mi pc l (I x :: st) σ P := by
  intro p e s m args below meth c s₁ B hml hK hR H locs la hP hS hl
  subst hq
  exact lv_if_ne B.exec B.bytes hd ht (fun h => kt ((not_congr (oi_eq hx (⟨by decide, by decide⟩ : rng 0))).mp h) p e s m args below meth c s₁ B hml hK hR H locs la hP hS hl) (fun h => (fun h => kf ((oi_eq hx (⟨by decide, by decide⟩ : rng 0)).mp h)) h p e s m args below meth c s₁ B hml hK hR H locs la hP hS hl)
theorem r_icmp_lt {G : GT} {mi : MI} {pc q : Nat} {l : List (Nat × AV)} {st : List AV} {σ : St} {P : Int → St → Prop} {t : Nat} {off x y : Int} (hd : decode (cM mi) pc = .ok (.if_icmp .lt off, 3)) (hq : pc + 3 = q) (ht : (pc : Int) + off = (t : Int)) (hx : rng x) (hy : rng y) (kt : x < y → A G mi t l st σ P) (kf : y ≤ x → A G mi q l st σ P) : A G mi pc l (I y :: I x :: st) σ P := by
  intro p e s m args below meth c s₁ B hml hK hR H locs la hP hS hl
  subst hq
  exact lv_icmp_lt B.exec B.bytes hd ht (fun h => kt ((oi_lt hx hy).mp h) p e s m args below meth c s₁ B hml hK hR H locs la hP hS hl) (fun h => (fun h => kf (Int.not_lt.mp (fun z => h ((oi_lt hx hy).mpr z)))) h p e s m args below meth c s₁ B hml hK hR H locs la hP hS hl)
theorem r_if_lt {G : GT} {mi : MI} {pc q : Nat} {l : List (Nat × AV)} {st : List AV} {σ : St} {P : Int → St → Prop} {t : Nat} {off x : Int} (hd : decode (cM mi) pc = .ok (.ifCond .lt off, 3)) (hq : pc + 3 = q) (ht : (pc : Int) + off = (t : Int)) (hx : rng x) (kt : x < 0 → A G mi t l st σ P) (kf : 0 ≤ x → A G mi q l st σ P) : A G mi pc l (I x :: st) σ P := by
  intro p e s m args below meth c s₁ B hml hK hR H locs la hP hS hl
  subst hq
  exact lv_if_lt B.exec B.bytes hd ht (fun h => kt ((oi_lt hx (⟨by decide, by decide⟩ : rng 0)).mp h) p e s m args below meth c s₁ B hml hK hR H locs la hP hS hl) (fun h => (fun h => kf (Int.not_lt.mp (fun z => h ((oi_lt hx (⟨by decide, by decide⟩ : rng 0)).mpr z)))) h p e s m args below meth c s₁ B hml hK hR H locs la hP hS hl)
theorem r_icmp_ge {G : GT} {mi : MI} {pc q : Nat} {l : List (Nat × AV)} {st : List AV} {σ : St} {P : Int → St → Prop} {t : Nat} {off x y : Int} (hd : decode (cM mi) pc = .ok (.if_icmp .ge off, 3)) (hq : pc + 3 = q) (ht : (pc : Int) + off = (t : Int)) (hx : rng x) (hy : rng y) (kt : y ≤ x → A G mi t l st σ P) (kf : x < y → A G mi q l st σ P) : A G mi pc l (I y :: I x :: st) σ P := by
  intro p e s m args below meth c s₁ B hml hK hR H locs la hP hS hl
  subst hq
  exact lv_icmp_ge B.exec B.bytes hd ht (fun h => kt ((oi_le hy hx).mp h) p e s m args below meth c s₁ B hml hK hR H locs la hP hS hl) (fun h => (fun h => kf (Int.not_le.mp (fun z => h ((oi_le hy hx).mpr z)))) h p e s m args below meth c s₁ B hml hK hR H locs la hP hS hl)
theorem r_if_ge {G : GT} {mi : MI} {pc q : Nat} {l : List (Nat × AV)} {st : List AV} {σ : St} {P : Int → St → Prop} {t : Nat} {off x : Int} (hd : decode (cM mi) pc = .ok (.ifCond .ge off, 3)) (hq : pc + 3 = q) (ht : (pc : Int) + off = (t : Int)) (hx : rng x) (kt : 0 ≤ x → A G mi t l st σ P) (kf : x < 0 → A G mi q l st σ P) : A G mi pc l (I x :: st) σ P := by
  intro p e s m args below meth c s₁ B hml hK hR H locs la hP hS hl
  subst hq
  exact lv_if_ge B.exec B.bytes hd ht (fun h => kt ((oi_le (⟨by decide, by decide⟩ : rng 0) hx).mp h) p e s m args below meth c s₁ B hml hK hR H locs la hP hS hl) (fun h => (fun h => kf (Int.not_le.mp (fun z => h ((oi_le (⟨by decide, by decide⟩ : rng 0) hx).mpr z)))) h p e s m args below meth c s₁ B hml hK hR H locs la hP hS hl)
theorem r_icmp_gt {G : GT} {mi : MI} {pc q : Nat} {l : List (Nat × AV)} {st : List AV} {σ : St} {P : Int → St → Prop} {t : Nat} {off x y : Int} (hd : decode (cM mi) pc = .ok (.if_icmp .gt off, 3)) (hq : pc + 3 = q) (ht : (pc : Int) + off = (t : Int)) (hx : rng x) (hy : rng y) (kt : y < x → A G mi t l st σ P) (kf : x ≤ y → A G mi q l st σ P) : A G mi pc l (I y :: I x :: st) σ P := by
  intro p e s m args below meth c s₁ B hml hK hR H locs la hP hS hl
  subst hq
  exact lv_icmp_gt B.exec B.bytes hd ht (fun h => kt ((oi_lt hy hx).mp h) p e s m args below meth c s₁ B hml hK hR H locs la hP hS hl) (fun h => (fun h => kf (Int.not_lt.mp (fun z => h ((oi_lt hy hx).mpr z)))) h p e s m args below meth c s₁ B hml hK hR H locs la hP hS hl)
theorem r_if_gt {G : GT} {mi : MI} {pc q : Nat} {l : List (Nat × AV)} {st : List AV} {σ : St} {P : Int → St → Prop} {t : Nat} {off x : Int} (hd : decode (cM mi) pc = .ok (.ifCond .gt off, 3)) (hq : pc + 3 = q) (ht : (pc : Int) + off = (t : Int)) (hx : rng x) (kt : 0 < x → A G mi t l st σ P) (kf : x ≤ 0 → A G mi q l st σ P) : A G mi pc l (I x :: st) σ P := by
  intro p e s m args below meth c s₁ B hml hK hR H locs la hP hS hl
  subst hq
  exact lv_if_gt B.exec B.bytes hd ht (fun h => kt ((oi_lt (⟨by decide, by decide⟩ : rng 0) hx).mp h) p e s m args below meth c s₁ B hml hK hR H locs la hP hS hl) (fun h => (fun h => kf (Int.not_lt.mp (fun z => h ((oi_lt (⟨by decide, by decide⟩ : rng 0) hx).mpr z)))) h p e s m args below meth c s₁ B hml hK hR H locs la hP hS hl)
theorem r_icmp_le {G : GT} {mi : MI} {pc q : Nat} {l : List (Nat × AV)} {st : List AV} {σ : St} {P : Int → St → Prop} {t : Nat} {off x y : Int} (hd : decode (cM mi) pc = .ok (.if_icmp .le off, 3)) (hq : pc + 3 = q) (ht : (pc : Int) + off = (t : Int)) (hx : rng x) (hy : rng y) (kt : x ≤ y → A G mi t l st σ P) (kf : y < x → A G mi q l st σ P) : A G mi pc l (I y :: I x :: st) σ P := by
  intro p e s m args below meth c s₁ B hml hK hR H locs la hP hS hl
  subst hq
  exact lv_icmp_le B.exec B.bytes hd ht (fun h => kt ((oi_le hx hy).mp h) p e s m args below meth c s₁ B hml hK hR H locs la hP hS hl) (fun h => (fun h => kf (Int.not_le.mp (fun z => h ((oi_le hx hy).mpr z)))) h p e s m args below meth c s₁ B hml hK hR H locs la hP hS hl)
theorem r_if_le {G : GT} {mi : MI} {pc q : Nat} {l : List (Nat × AV)} {st : List AV} {σ : St} {P : Int → St → Prop} {t : Nat} {off x : Int} (hd : decode (cM mi) pc = .ok (.ifCond .le off, 3)) (hq : pc + 3 = q) (ht : (pc : Int) + off = (t : Int)) (hx : rng x) (kt : x ≤ 0 → A G mi t l st σ P) (kf : 0 < x → A G mi q l st σ P) : A G mi pc l (I x :: st) σ P := by
  intro p e s m args below meth c s₁ B hml hK hR H locs la hP hS hl
  subst hq
  exact lv_if_le B.exec B.bytes hd ht (fun h => kt ((oi_le hx (⟨by decide, by decide⟩ : rng 0)).mp h) p e s m args below meth c s₁ B hml hK hR H locs la hP hS hl) (fun h => (fun h => kf (Int.not_le.mp (fun z => h ((oi_le hx (⟨by decide, by decide⟩ : rng 0)).mpr z)))) h p e s m args below meth c s₁ B hml hK hR H locs la hP hS hl)
theorem b01_rng {c : Prop} [Decidable c] : rng (if c then 1 else 0) := by split <;> exact ⟨by decide, by decide⟩
theorem r_ifb_eq {G : GT} {mi : MI} {pc q : Nat} {l : List (Nat × AV)} {st : List AV} {σ : St} {P : Int → St → Prop} {t : Nat} {off : Int} {c : Prop} [Decidable c] (hd : decode (cM mi) pc = .ok (.ifCond .eq off, 3)) (hq : pc + 3 = q) (ht : (pc : Int) + off = (t : Int)) (kt : (¬ c) → A G mi t l st σ P) (kf : (c) → A G mi q l st σ P) : A G mi pc l (I (if c then 1 else 0) :: st) σ P :=
  r_if_eq hd hq ht b01_rng (fun h => kt (fun z => by rw [if_pos z] at h; omega)) (fun h => kf (Decidable.byContradiction (fun z => by rw [if_neg z] at h; omega)))
theorem r_ifb_ne {G : GT} {mi : MI} {pc q : Nat} {l : List (Nat × AV)} {st : List AV} {σ : St} {P : Int → St → Prop} {t : Nat} {off : Int} {c : Prop} [Decidable c] (hd : decode (cM mi) pc = .ok (.ifCond .ne off, 3)) (hq : pc + 3 = q) (ht : (pc : Int) + off = (t : Int)) (kt : (c) → A G mi t l st σ P) (kf : (¬ c) → A G mi q l st σ P) : A G mi pc l (I (if c then 1 else 0) :: st) σ P :=
  r_if_ne hd hq ht b01_rng (fun h => kt (Decidable.byContradiction (fun z => by rw [if_neg z] at h; omega))) (fun h => kf (fun z => by rw [if_pos z] at h; omega))
theorem r_swOut {G : GT} {mi : MI} {pc : Nat} {l : List (Nat × AV)} {st : List AV} {σ : St} {P : Int → St → Prop} {df lo hi x : Int} {offs : Array Int} {len t : Nat} (hd : decode (cM mi) pc = .ok (.tableswitch df lo hi offs, len)) (ht : (pc : Int) + df = (t : Int)) (hx : rng x) (h : x < lo ∨ hi < x) (kk : A G mi t l st σ P) : A G mi pc l (I x :: st) σ P := by
  intro p e s m args below meth c s₁ B hml hK hR H locs la hP hS hl
  exact lv_tableOut B.exec B.bytes hd (by rw [oi_toInt hx]; exact h) ht (kk p e s m args below meth c s₁ B hml hK hR H locs la hP hS hl)
theorem r_swIn {G : GT} {mi : MI} {pc : Nat} {l : List (Nat × AV)} {st : List AV} {σ : St} {P : Int → St → Prop} {df lo hi x off : Int} {offs : Array Int} {len t : Nat} (hd : decode (cM mi) pc = .ok (.tableswitch df lo hi offs, len)) (hx : rng x) (h1 : ¬ x < lo) (h2 : ¬ hi < x) (ho : offs[(x - lo).toNat]? = some off) (ht : (pc : Int) + off = (t : Int)) (kk : A G mi t l st σ P) : A G mi pc l (I x :: st) σ P := by
  intro p e s m args below meth c s₁ B hml hK hR H locs la hP hS hl
  exact lv_tableIn B.exec B.bytes hd (by rw [oi_toInt hx]; exact h1) (by rw [oi_toInt hx]; exact h2) (by rw [oi_toInt hx]; exact ho) ht (kk p e s m args below meth c s₁ B hml hK hR H locs la hP hS hl)
theorem oj_cmp {x y : Int} (hx : rng x) (hy : rng y) : lg_cmp (Int64.ofInt x) (Int64.ofInt y) = Int32.ofInt (if x < y then -1 else if x = y then 0 else 1) := by
  have h1 : (Int64.ofInt x).toInt = x := Int64.toInt_ofInt_of_le (by have := hx.1; omega) (by have := hx.2; omega)
  have h2 : (Int64.ofInt y).toInt = y := Int64.toInt_ofInt_of_le (by have := hy.1; omega) (by have := hy.2; omega)
  have h3 : (Int64.ofInt x = Int64.ofInt y) = (x = y) := by rw [← Int64.toInt_inj, h1, h2]
  unfold lg_cmp
  simp only [gt_iff_lt, Int64.lt_iff_toInt_lt, h1, h2, h3]
  by_cases a : x < y
  · rw [if_neg (by omega), if_neg (by omega), if_pos a]; rfl
  · by_cases b : x = y
    · rw [if_neg (by omega), if_pos b, if_neg a, if_pos b]; rfl
    · rw [if_pos (by omega), if_neg a, if_neg b]; rfl
theorem r_lcmp {G : GT} {mi : MI} {pc q : Nat} {l : List (Nat × AV)} {st : List AV} {σ : St} {P : Int → St → Prop} {x y : Int} (hd : decode (cM mi) pc = .ok (.lcmp, 1)) (hq : pc + 1 = q) (hx : rng x) (hy : rng y) (kk : A G mi q l (I (if x < y then -1 else if x = y then 0 else 1) :: st) σ P) : A G mi pc l (J y :: J x :: st) σ P := by
  intro p e s m args below meth c s₁ B hml hK hR H locs la hP hS hl
  subst hq
  refine W.lcmp B.exec B.bytes hd ?_
  rw [oj_cmp hx hy]
  exact kk p e s m args below meth c s₁ B hml hK hR H locs la hP hS hl
