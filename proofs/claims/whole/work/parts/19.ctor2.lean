/-! ===== BEGIN new T[n][m]: the outer array a place, the inner ones among the pooled ===== -/
/-- f, but v at every address of l -/
def vr_up {α : Type} (f : Nat → α) (l : List Nat) (v : α) : Nat → α := fun a => if a ∈ l then v else f a
theorem vr_up_in {α : Type} {f : Nat → α} {l : List Nat} {v : α} {a : Nat} (h : a ∈ l) : vr_up f l v a = v := if_pos h
theorem vr_up_ne {α : Type} {f : Nat → α} {l : List Nat} {v : α} {a : Nat} (h : a ∉ l) : vr_up f l v a = f a := if_neg h
theorem vr_rows {L l : List Nat} {f : Nat → va_E} {e : va_E} (h : ∀ a, a ∈ l → a ∉ L) : va_pl L f ++ l.map (fun a => (a, e)) = va_pl (L ++ l) (vr_up f l e) := by
  unfold va_pl
  rw [List.map_append]
  congr 1
  · apply List.map_congr_left
    intro a ha
    rw [vr_up_ne (fun q => h a q ha)]
  · apply List.map_congr_left
    intro a ha
    rw [vr_up_in ha]
theorem vr_lay {X rows : va_W} {x : Nat × va_E} {pl : va_W} {D : va_G} {cl : List vw_C} {H : Heap} (hP : va_P D cl (((X ++ pl) ++ [x]) ++ rows) H) : va_P D cl ((X ++ [x]) ++ (pl ++ rows)) H := by
  rw [List.append_assoc (X ++ pl)] at hP
  have h := va_P.swap hP
  rw [← List.append_assoc X] at h
  have h2 := va_P.swap h
  rw [List.append_assoc (X ++ [x])] at h2
  exact h2
theorem vr_layD {X rows : va_W} {x : Nat × va_E} {pl : va_W} {A : Nat → Prop} (hD : va_D A (((X ++ pl) ++ [x]) ++ rows)) : va_D A ((X ++ [x]) ++ (pl ++ rows)) := by
  rw [List.append_assoc (X ++ pl)] at hD
  have h := va_D.swap hD
  rw [← List.append_assoc X] at h
  have h2 := va_D.swap h
  rw [List.append_assoc (X ++ [x])] at h2
  exact h2
theorem vr_outer (c : ClassId) (N h0 : Nat) : ∀ i : Nat, Jvm.Free.Multi.outerC c N h0 i = arrV c N (fun j => va_rf (if j < i then some (h0 + 1 + j) else none))
  | 0 => by
    show ({ cls := c, slots := Array.replicate N .null, vm := .none } : Cell) = _
    rw [arrV_new]
    refine congrArg (arrV c N) (funext fun j => ?_)
    simp [va_rf]
  | i + 1 => by
    show (Jvm.Free.Multi.outerC c N h0 i).setSlot i (.ref (h0 + 1 + i)) = _
    rw [vr_outer c N h0 i, arrV_store]
    refine congrArg (arrV c N) (funext fun j => ?_)
    by_cases e : j = i
    · subst e
      simp [updV, va_rf]
    · by_cases h : j < i
      · simp [updV, e, h, Nat.lt_succ_of_lt h]
      · simp [updV, e, h, show ¬ j < i + 1 by omega]
section VGM
variable {p : Program} {l : Launch} {e : Env} {R : Room} {s : State} {m : MethodId} {args : Array Value} {below : List Frame} {meth : Method} {c : Code} {H : Heap} {locs : List Loc} {cells slots : Nat} {Q : State → Prop}
variable {cc : ByteArray} {pc : Nat} {ls : Array Slot} {rest : List Value} {D : va_G} {cl : List vw_C} {A : Nat → Prop} {a : Nat} {tys : List (ClassId × FieldType)} {ws : va_W} {H0 : Heap}
theorem va_mna {X : va_W} {L : List Nat} {f : Nat → va_E} {cc : ByteArray} (hexec : p.tables.exec = Jvm.exec) (hb : c.code = cc) {own : String} {index : Nat} {ty : FieldType} {cy : ClassId} (hown : s.vm.findClass own = some m.cls) (hclink : (Cond.classLink own index ("[" ++ (FieldType.array ty).toString)).before args s = true) (hover : (Cond.arrayOver (.array ty)).before args s = true) (harr : (Cond.arrayClass ty).before args s = true) (hcy : s.vm.findClass (FieldType.array ty).toString = some cy)
    (hK : va_K D cl tys s) (hP : va_P D cl (X ++ va_pl L f) H) (hD : va_D A (X ++ va_pl L f)) (hS : va_S A H0 H locs) (hA : ∀ q, H0.size ≤ q → A q) {n k : Int32} {N' K' : Nat} {z : vp_A} (hn : ¬ n < 0) (hk : ¬ k < 0) (hN : n.toNatClampNeg = N') (hM : k.toNatClampNeg = K')
    (hb1 : N' * 4 ≤ 536870912) (hb2 : K' * componentBytes ty ≤ 536870912) (hb3 : K' ≤ 536870912) (hdf : fits ty (defaultValue ty) = true) (hdd : (defaultValue ty).isDefault = true) (hcells : cells + (1 + N') ≤ R.cells) (hslots : slots + (N' + N' * K') ≤ R.slots) (hz : ∀ c : ClassId, Jvm.Free.Multi.innerC c K' (defaultValue ty) = vp_cell c z) (hdg : decode cc pc = .ok (.multianewarray index 2, 4))
    (kk : ∀ (q : Nat) (r : Nat → Nat) (cA : ClassId) (H1 : Heap), (∀ i j : Nat, i < N' → j < N' → r i = r j → i = j) → (∀ i : Nat, i < N' → r i ∉ L) → va_K D cl (tys ++ [(cA, .array ty)]) s →
      va_P D cl ((X ++ [(q, .inl (cA, N', .inr (.inr (.inr (.inr (fun i => if i < N' then some (r i) else none))))))]) ++ va_pl (L ++ (List.range N').map r) (vr_up f ((List.range N').map r) (.inl (cy, z)))) H1 → va_D A ((X ++ [(q, .inl (cA, N', .inr (.inr (.inr (.inr (fun i => if i < N' then some (r i) else none))))))]) ++ va_pl (L ++ (List.range N').map r) (vr_up f ((List.range N').map r) (.inl (cy, z)))) → va_S A H0 H1 locs →
      W p l e R s m args below meth c H1 locs (cells + 1 + N') (slots + N' + N' * K') Q (F0 m (pc + 4) ls (.ref q :: rest))) : W p l e R s m args below meth c H locs cells slots Q (F0 m pc ls (.int k :: .int n :: rest)) := by
  subst hN
  subst hM
  intro T hT Xs
  obtain ⟨vm₁, cA, comp, -, fA, fC, hO, -, X', step⟩ := Xs.multianewarray2F hexec hown hclink hover harr (g := F0 m pc ls (.int k :: .int n :: rest)) rfl (by rw [hb]; exact hdg) rfl hn hk hb1 hb2 hb3 hdf hdd hcells hslots
  have ec : some cy = some comp := hcy.symm.trans fC
  cases ec
  generalize hF : Jvm.Free.Multi.fill (T.setVm vm₁) cA cy n.toNatClampNeg k.toNatClampNeg (defaultValue ty) n.toNatClampNeg = F at X' step
  have hTh : (T.setVm vm₁).heap = H := hT
  obtain ⟨f1, f2, -, -⟩ := Jvm.Free.Multi.fill_facts (T.setVm vm₁) cA cy n.toNatClampNeg k.toNatClampNeg (defaultValue ty) n.toNatClampNeg
  rw [hF, hTh] at f1 f2
  have hold : ∀ x : Nat, x < H.size → F.heap[x]? = H[x]? := fun x hx => by
    have := Jvm.Free.Multi.fill_old (T.setVm vm₁) cA cy n.toNatClampNeg k.toNatClampNeg (defaultValue ty) (a := x) (by rw [hTh]; exact hx) n.toNatClampNeg
    rw [hF, hTh] at this
    exact this
  have hrow : ∀ j : Nat, j < n.toNatClampNeg → F.heap[H.size + 1 + j]? = some (vp_cell cy z) := fun j hj => by
    have := Jvm.Free.Multi.fill_inner (T.setVm vm₁) cA cy n.toNatClampNeg k.toNatClampNeg (defaultValue ty) n.toNatClampNeg j hj
    rw [hF, hTh, hz] at this
    exact this
  have hout : Jvm.Free.Multi.outerC cA n.toNatClampNeg H.size n.toNatClampNeg = vp_cell cA (n.toNatClampNeg, .inr (.inr (.inr (.inr (fun i => if i < n.toNatClampNeg then some (H.size + 1 + i) else none))))) := by
    rw [vp_cell_q]
    exact vr_outer cA n.toNatClampNeg H.size n.toNatClampNeg
  rw [hout] at f2
  have hlt : ∀ a, a ∈ L → a < H.size := fun a ha => by
    obtain ⟨k9, hk9⟩ := va_pl_get (X := X) (f := f) ha
    exact (hP k9 _ hk9).lt
  have hnl : ∀ i : Nat, i < n.toNatClampNeg → H.size + 1 + i ∉ L := fun i _ h => by
    have := hlt _ h
    omega
  have hnm : ∀ a, a ∈ (List.range n.toNatClampNeg).map (fun i => H.size + 1 + i) → a ∉ L := fun a ha h => by
    obtain ⟨i, -, rfl⟩ := List.mem_map.mp ha
    have := hlt _ h
    omega
  have hP0 : va_P D cl (X ++ va_pl L f) F.heap := hP.kept (fun k9 x hx => hold x.1 ((hP k9 x hx).lt))
  have hP1 : va_P D cl ((X ++ va_pl L f) ++ [(H.size, .inl (cA, n.toNatClampNeg, .inr (.inr (.inr (.inr (fun i => if i < n.toNatClampNeg then some (H.size + 1 + i) else none))))))]) F.heap := hP0.app (fun k9 x hx => by
    have h0 : k9 < 1 := (List.getElem?_eq_some_iff.mp hx).1
    rw [show k9 = 0 by omega] at hx
    cases hx
    exact f2)
  have hP2 : va_P D cl (((X ++ va_pl L f) ++ [(H.size, .inl (cA, n.toNatClampNeg, .inr (.inr (.inr (.inr (fun i => if i < n.toNatClampNeg then some (H.size + 1 + i) else none))))))]) ++ ((List.range n.toNatClampNeg).map (fun i => H.size + 1 + i)).map (fun a => (a, .inl (cy, z)))) F.heap := hP1.app (fun k9 x hx => by
    obtain ⟨a, ha, rfl⟩ := List.mem_map.mp (List.mem_of_getElem? hx)
    obtain ⟨i, hi, rfl⟩ := List.mem_map.mp ha
    exact hrow i (List.mem_range.mp hi))
  have hD2 : va_D A (((X ++ va_pl L f) ++ [(H.size, .inl (cA, n.toNatClampNeg, .inr (.inr (.inr (.inr (fun i => if i < n.toNatClampNeg then some (H.size + 1 + i) else none))))))]) ++ ((List.range n.toNatClampNeg).map (fun i => H.size + 1 + i)).map (fun a => (a, .inl (cy, z)))) := by
    have hD1 := hD.push (e := .inl (cA, n.toNatClampNeg, .inr (.inr (.inr (.inr (fun i => if i < n.toNatClampNeg then some (H.size + 1 + i) else none)))))) hP rfl (hA _ hS.1)
    generalize hW1 : (X ++ va_pl L f) ++ [(H.size, .inl (cA, n.toNatClampNeg, .inr (.inr (.inr (.inr (fun i => if i < n.toNatClampNeg then some (H.size + 1 + i) else none))))))] = W1 at hD1 hP1 ⊢
    have hle : ∀ (k9 : Nat) (x : Nat × va_E), W1[k9]? = some x → x.1 ≤ H.size := fun k9 x hx => by
      rw [← hW1] at hx
      by_cases hl : k9 < (X ++ va_pl L f).length
      · rw [List.getElem?_append_left hl] at hx
        exact Nat.le_of_lt ((hP k9 x hx).lt)
      · rw [List.getElem?_append_right (by omega)] at hx
        have h0 : k9 - (X ++ va_pl L f).length < 1 := (List.getElem?_eq_some_iff.mp hx).1
        rw [show k9 - (X ++ va_pl L f).length = 0 by omega] at hx
        cases hx
        exact Nat.le_refl _
    have hr : ∀ (k9 : Nat) (x : Nat × va_E), (((List.range n.toNatClampNeg).map (fun i => H.size + 1 + i)).map (fun a => ((a, .inl (cy, z)) : Nat × va_E)))[k9]? = some x → x.1 = H.size + 1 + k9 := fun k9 x hx => by
      rw [List.getElem?_map, List.getElem?_map] at hx
      by_cases h9 : k9 < n.toNatClampNeg
      · rw [List.getElem?_range h9] at hx
        cases hx
        rfl
      · have hn0 : (List.range n.toNatClampNeg)[k9]? = none := List.getElem?_eq_none (by rw [List.length_range]; omega)
        rw [hn0] at hx
        cases hx
    refine ⟨fun i j x y hi hj hxy => ?_, fun k9 x hx => ?_⟩
    · by_cases h1 : i < W1.length <;> by_cases h2 : j < W1.length
      · rw [List.getElem?_append_left h1] at hi
        rw [List.getElem?_append_left h2] at hj
        exact hD1.1 i j x y hi hj hxy
      · rw [List.getElem?_append_left h1] at hi
        rw [List.getElem?_append_right (by omega)] at hj
        have := hle _ _ hi
        have := hr _ _ hj
        omega
      · rw [List.getElem?_append_right (by omega)] at hi
        rw [List.getElem?_append_left h2] at hj
        have := hle _ _ hj
        have := hr _ _ hi
        omega
      · rw [List.getElem?_append_right (by omega)] at hi hj
        have := hr _ _ hi
        have := hr _ _ hj
        omega
    · by_cases h1 : k9 < W1.length
      · rw [List.getElem?_append_left h1] at hx
        exact hD1.2 k9 x hx
      · rw [List.getElem?_append_right (by omega)] at hx
        have := hr _ _ hx
        exact hA _ (by have := hS.1; omega)
  have hAr : ArrOfT s cA (.array ty) := fun N9 z9 => by
    obtain ⟨-, k9, hk9, cm9, hkk9⟩ := (hO 0 0 0).1
    exact ⟨(fun q hq => by cases hq), k9, hk9, cm9, hkk9⟩
  have hK2 : va_K D cl (tys ++ [(cA, .array ty)]) s := ⟨hK.1, fun k9 x hx => by
    by_cases hl : k9 < tys.length
    · rw [List.getElem?_append_left hl] at hx
      exact hK.2 k9 x hx
    · rw [List.getElem?_append_right (by omega)] at hx
      have h0 : k9 - tys.length < 1 := (List.getElem?_eq_some_iff.mp hx).1
      rw [show k9 - tys.length = 0 by omega] at hx
      cases hx
      exact ⟨hAr, fA⟩⟩
  obtain ⟨t, a1, b1⟩ := kk H.size (fun i => H.size + 1 + i) cA F.heap (fun i j _ _ h => by have h9 : H.size + 1 + i = H.size + 1 + j := h; omega) hnl hK2 (by rw [← vr_rows hnm]; exact vr_lay hP2) (by rw [← vr_rows hnm]; exact vr_layD hD2) ⟨by rw [f1]; have := hS.1; omega, fun x h1 h2 => (hold x (Nat.lt_of_lt_of_le h1 hS.1)).trans (hS.2.1 x h1 h2), hS.2.2⟩ F rfl X'
  refine ⟨t, step t ?_, b1⟩
  have e : T.heap.size = H.size := by rw [hT]
  rw [e]
  exact a1
end VGM
/-! ===== END ===== -/


section
variable {L : Launch} {D : va_G} {K : K3} {mi : MI} {mc ms n0 : Nat} {out : List CE} {pc q : Nat} {l : List (Nat × AV)} {st : List AV} {cs : List CE} {cells slots : Nat}
def exN (ad : Nat → Nat) (n q N : Nat) (r : Nat → Nat) : Nat → Nat := fun j => if j < n then ad j else if j = n then q else if j < n + 1 + N then r (j - n - 1) else ad j
theorem exN_lt {ad r : Nat → Nat} {n q N j : Nat} (h : j < n) : exN ad n q N r j = ad j := if_pos h
theorem exN_at {ad r : Nat → Nat} {n q N : Nat} : exN ad n q N r n = q := by unfold exN; rw [if_neg (by omega), if_pos rfl]
theorem exN_row {ad r : Nat → Nat} {n q N i : Nat} (h : i < N) : exN ad n q N r (n + 1 + i) = r i := by
  unfold exN
  rw [if_neg (by omega), if_neg (by omega), if_pos (by omega)]
  congr 1
  omega
theorem gd_rep {n k i : Nat} {e : CE} (h : i < n) : gd (List.replicate n e) i = e := by
  unfold gd
  rw [List.getD_eq_getElem?_getD, List.getElem?_replicate, if_pos h]
  rfl
theorem wc_mna {K : K3} {ad r : Nat → Nat} {cs : List CE} {q N k : Nat} (ho : okl cs = true) : wc K (exN ad cs.length q N r) (cs ++ ((3, N, [some (O (cs.length + 1))]) :: List.replicate N (1, k, []))) = (wc K ad cs ++ [(q, .inl (K.2.2, N, .inr (.inr (.inr (.inr (fun i => if i < N then some (r i) else none))))))]) ++ (List.range N).map (fun i => (r i, .inl (K.1, k, .inl (fun _ => 0)))) := by
  rw [wc_app (ad := ad) (fun j hj => exN_lt hj) ho, List.append_assoc]
  congr 1
  rw [List.length_cons, List.length_replicate, List.range_succ_eq_map, List.map_cons, List.map_map]
  show (exN ad cs.length q N r (cs.length + 0), ce K _ (3, N, [some (O (cs.length + 1))])) :: _ = _ :: _
  congr 1
  · rw [Nat.add_zero, exN_at]
    show (q, Sum.inl (K.2.2, N, _)) = (q, Sum.inl (K.2.2, N, _))
    congr 8
    funext i
    by_cases hi : i < N
    · rw [if_pos hi, if_pos hi]
      show some (exN ad cs.length q N r (cs.length + 1 + i)) = _
      rw [exN_row hi]
    · rw [if_neg hi, if_neg hi]
  · apply List.map_congr_left
    intro i hi
    have hi : i < N := List.mem_range.mp hi
    show (exN ad cs.length q N r (cs.length + (i + 1)), ce K _ (gd (_ :: List.replicate N (1, k, [])) (i + 1))) = _
    rw [show cs.length + (i + 1) = cs.length + 1 + i by omega, exN_row hi]
    have : gd ((3, N, [some (O (cs.length + 1))]) :: List.replicate N (1, k, [])) (i + 1) = (1, k, []) := gd_rep (k := 0) hi
    rw [this]
    rfl
theorem b_mna {n k : Int} {N M ix : Nat} (hcl : Cond.classLink (yM mi).cls ix "[[I" ∈ gt) (hd : decode (cM mi) pc = .ok (.multianewarray ix 2, 4)) (hq : pc + 4 = q) (hn : 0 ≤ n ∧ n < 100000) (hk : 0 ≤ k ∧ k < 100000) (hN : n.toNat = N) (hM : k.toNat = M) (ho : okl cs = true) (hol : l.all (fun q => okv cs.length (some q.2)) = true) (hos : st.all (fun v => okv cs.length (some v)) = true) (hcells : cells + (1 + N) ≤ mc) (hslots : slots + (N + N * M) ≤ ms) {x : Nat} (hx : cs.length = x) (kk : BK L D K mi mc ms n0 out q l (O x :: st) (cs ++ ((3, N, [some (O (x + 1))]) :: List.replicate N (1, M, []))) (cells + 1 + N) (slots + N + N * M)) : BK L D K mi mc ms n0 out pc l (I k :: I n :: st) cs cells slots := by
  intro p e s m args below meth c s₁ B hml hK ad0 ad Af H locs la h0 hn0 hA hP hD hS hl
  subst hq
  subst hx
  have hts : ∀ w ∈ gt, w.before args s = true := fun w hw => atoms_spec (ws := WS mi) B.pre w (List.mem_cons_of_mem _ hw)
  have hr : rng n := ⟨by omega, by omega⟩
  have hr2 : rng k := ⟨by omega, by omega⟩
  have g1 : (Int32.ofInt n).toNatClampNeg = N := by unfold Int32.toNatClampNeg; rw [oi_toInt hr]; exact hN
  have g2 : (Int32.ofInt k).toNatClampNeg = M := by unfold Int32.toNatClampNeg; rw [oi_toInt hr2]; exact hM
  have g3 : ¬ Int32.ofInt n < 0 := fun z => by
    have z : Int32.ofInt n < Int32.ofInt 0 := z
    rw [oi_lt hr ⟨by decide, by decide⟩] at z
    omega
  have g4 : ¬ Int32.ofInt k < 0 := fun z => by
    have z : Int32.ofInt k < Int32.ofInt 0 := z
    rw [oi_lt hr2 ⟨by decide, by decide⟩] at z
    omega
  have hpl : wc K ad cs ++ va_pl [] (fun _ => (.inr (0, []) : va_E)) = wc K ad cs := by simp [va_pl]
  refine va_mna (X := wc K ad cs) (L := []) (f := fun _ => .inr (0, [])) (ty := .int) (cy := K.1) (z := (M, .inl (fun _ => 0))) B.exec B.bytes (findClass_of_methodNamed B.named) (hts _ hcl) hK.2.2 (hts _ (gt_at 164 (by decide +kernel) rfl)) (hK.1.2 0 _ rfl).2 hK.1 (by rw [hpl]; exact hP) (by rw [hpl]; exact hD) hS hA g3 g4 g1 g2 (by omega) (by show M * 4 ≤ _; omega) (by omega) rfl rfl hcells hslots (fun c => by show ({ cls := c, slots := Array.replicate M (Value.int 0), vm := .none } : Cell) = arrV c M (fun _ => Value.int 0); rw [arrV_new]) hd (fun q0 r cA H1 hr1 hr2 hK1 hP1 hD1 hS1 => ?_)
  have ec := (K_same hK hK1).2.2 rfl
  subst ec
  have e0 : va_pl ([] ++ (List.range N).map r) (vr_up (fun _ => (.inr (0, []) : va_E)) ((List.range N).map r) (.inl (K.1, (M, .inl (fun _ => 0))))) = (List.range N).map (fun i => (r i, .inl (K.1, M, .inl (fun _ => 0)))) := by
    unfold va_pl
    rw [List.nil_append, List.map_map]
    apply List.map_congr_left
    intro i hi
    show (r i, _) = (r i, _)
    rw [vr_up_in (List.mem_map.mpr ⟨i, hi, rfl⟩)]
  rw [e0] at hP1 hD1
  rw [← wc_mna (ad := ad) ho] at hP1 hD1
  have e2 : cvk (exN ad cs.length q0 N r) (O cs.length :: st) = .ref q0 :: cvk ad st := by
    show Value.ref (exN ad cs.length q0 N r cs.length) :: cvk (exN ad cs.length q0 N r) st = _
    rw [cvk_ext (fun j hj => exN_lt hj) hos, exN_at]
  have := kk p e s m args below meth c s₁ B hml hK ad0 (exN ad cs.length q0 N r) Af H1 locs la (fun j hj => by rw [exN_lt (Nat.lt_of_lt_of_le hj hn0)]; exact h0 j hj) (by rw [List.length_append]; omega) hA hP1 hD1 hS1 (by rw [cvkl_ext (fun j hj => exN_lt hj) hol]; exact hl)
  rw [e2] at this
  exact this
theorem b_get {x ci j index : Nat} {v : AV} {fs : List (Option AV)} (hL : FL (yM mi).cls index ci j) (hd : decode (cM mi) pc = .ok (.getfield index, 3)) (hq : pc + 3 = q) (hx : cs[x]? = some (0, ci, fs)) (hv : fs[j]? = some (some v)) (kk : BK L D K mi mc ms n0 out q l (v :: st) cs cells slots) : BK L D K mi mc ms n0 out pc l (O x :: st) cs cells slots := by
  intro p e s m args below meth c s₁ B hml hK ad0 ad Af H locs la h0 hn hA hP hD hS hl
  subst hq
  obtain ⟨C, T, N, hc, hj, h1, hw⟩ := hL
  have hts : ∀ w ∈ gt, w.before args s = true := fun w hw => atoms_spec (ws := WS mi) B.pre w (List.mem_cons_of_mem _ hw)
  exact va_get (C := C) (T := T) (N := N) (ci := ci) (fs := fs.map (cvo ad)) (v := cvo ad (some v)) B.exec B.bytes hts (classes_ok ci _ hc).1 (findClass_of_methodNamed B.named) hK.1 hP x (wc_at hx) hc j hj (hts _ hw) (fun x hx => by rw [h1] at hx; exact hx) (by rw [List.getElem?_map, hv]; rfl) hd (kk p e s m args below meth c s₁ B hml hK ad0 ad Af H locs la h0 hn hA hP hD hS hl)
theorem b_put {x ci j index : Nat} {v : AV} {fs : List (Option AV)} (hL : FL (yM mi).cls index ci j) (hdc : ∀ C T N, classes[ci]? = some (C, T, N) → C = (yM mi).cls) (hnm : (yM mi).name = "<init>") (hd : decode (cM mi) pc = .ok (.putfield index, 3)) (hq : pc + 3 = q) (hx : cs[x]? = some (0, ci, fs)) (hjl : j < fs.length) (hty : ∀ ad, narrow (tyc ci j) (cvo ad (some v)) = cvo ad (some v) ∧ fits (tyc ci j) (cvo ad (some v)) = true) (kk : BK L D K mi mc ms n0 out q l st (cs.set x (0, ci, fs.set j (some v))) cells slots) : BK L D K mi mc ms n0 out pc l (v :: O x :: st) cs cells slots := by
  intro p e s m args below meth c s₁ B hml hK ad0 ad Af H locs la h0 hn hA hP hD hS hl
  subst hq
  obtain ⟨C, T, N, hc, hj, h1, hw⟩ := hL
  have hts : ∀ w ∈ gt, w.before args s = true := fun w hw => atoms_spec (ws := WS mi) B.pre w (List.mem_cons_of_mem _ hw)
  obtain ⟨o1, o2, o3⟩ := classes_ok ci _ hc
  have hin : meth.name = "<init>" := by rw [(name_of_methodNamed B.named B.method).1]; exact hnm
  have hmap : (fs.map (cvo ad)).set j (cvo ad (some v)) = (fs.set j (some v)).map (cvo ad) := by rw [List.map_set]
  have fin : ∀ (H1 : Heap) (locs1 : List Loc), va_P D classes ((wc K ad cs).set x (ad x, .inr (ci, (fs.map (cvo ad)).set j (cvo ad (some v))))) H1 → va_D Af ((wc K ad cs).set x (ad x, .inr (ci, (fs.map (cvo ad)).set j (cvo ad (some v))))) → va_S Af s.heap H1 locs1 → W p L e (headSpec (WS mi) (RK mi mc ms)).room s m args below meth c H1 locs1 cells slots (MQ below (QK D K n0 ad0 out Af) args s mc ms Af) (F0 m (pc + 3) la (cvk ad st)) := by
    intro H1 locs1 hP1 hD1 hS1
    have e1 : (wc K ad cs).set x (ad x, .inr (ci, (fs.map (cvo ad)).set j (cvo ad (some v)))) = wc K ad (cs.set x (0, ci, fs.set j (some v))) := by rw [hmap]; exact wc_set (e := (0, ci, fs.set j (some v)))
    rw [e1] at hP1 hD1
    exact kk p e s m args below meth c s₁ B hml hK ad0 ad Af H1 locs1 la h0 (by rw [List.length_set]; exact hn) hA hP1 hD1 hS1 hl
  by_cases hf : (T j).2.2.2 = true
  · exact va_putF (C := C) (T := T) (N := N) (ci := ci) (v := cvo ad (some v)) B.exec B.bytes hts o1 (tyc ci) o3 o2 (findClass_of_methodNamed B.named) hK.1 hP hD hS x (wc_at hx) hc j hj (hts _ hw) (fun x hx => by rw [h1] at hx; exact hx) hf hin (h1.trans (hdc C T N hc)) (o3 j hj) (hty ad).1 (hty ad).2 (by rw [List.length_map]; exact hjl) hd fin
  · exact va_put (C := C) (T := T) (N := N) (ci := ci) (v := cvo ad (some v)) B.exec B.bytes hts o1 (tyc ci) o3 o2 (findClass_of_methodNamed B.named) hK.1 hP hD hS x (wc_at hx) hc j hj (hts _ hw) (fun x hx => by rw [h1] at hx; exact hx) (by simpa using hf) (o3 j hj) (hty ad).1 (hty ad).2 (by rw [List.length_map]; exact hjl) hd fin
theorem b_ret (ht : tM mi = none) (hd : decode (cM mi) pc = .ok (.return_, 1)) (hc : cs = out) : BK L D K mi cells slots n0 out pc l [] cs cells slots := by
  intro p e s m args below meth c s₁ B hml hK ad0 ad Af H locs la h0 hn hA hP hD hS hl
  subst hc
  have hlocks := B.notSynchronized
  exact W.vret B.exec B.bytes (B.returns.trans ht) (fun t h1 h2 => ⟨⟨ad, rfl, h0, by rw [h1]; exact hP, hD, hK.moved h2⟩, hS.F h1⟩) hS.2.2 hd
theorem CK.intro {av : List AV} (hy : plainName (yM mi).cls = true) (hn : (av.map catA).sum ≤ nM mi) (h : BK L D K mi mc ms cs.length out 0 (largs 0 av) [] cs 0 0) : CK L D K mi mc ms av cs out := by
  intro ad0 sz
  refine Met.ofW (cc := cM mi) (maxL := nM mi) (ret := tM mi) hy rfl ?_
  intro p e s m args below meth c s₁ B hml hv
  obtain ⟨rfl, hsz, hP, hD, hK⟩ := hv
  subst hsz
  rw [lg_entry_eq]
  have hcv : ∀ (vs : List AV) (i : Nat), lv_args i (cvk ad0 vs) = cvkl ad0 (largs i vs) := by
    intro vs
    induction vs with
    | nil => intro i; rfl
    | cons v vs ih =>
      intro i
      show (i, cvo ad0 (some v)) :: lv_args _ (cvk ad0 vs) = (i, cvo ad0 (some v)) :: cvkl ad0 (largs (i + catA v) vs)
      rw [ih]
      rcases v with x | x | k <;> rfl
  have hlen : ∀ vs : List AV, (lg_sl (cvk ad0 vs)).length = (vs.map catA).sum := by
    intro vs
    induction vs with
    | nil => rfl
    | cons v vs ih =>
      unfold lg_sl at ih ⊢
      simp only [cvk, List.map_cons, List.flatMap_cons, List.length_append, List.sum_cons] at ih ⊢
      rw [ih]
      rcases v with x | x | k <;> rfl
  refine h p e s m _ below meth c s₁ B hml hK ad0 ad0 _ s.heap [] _ (fun _ _ => rfl) (Nat.le_refl _) (fun q hq => Or.inr hq) hP hD.self va_S.rf ?_
  rw [← hcv]
  exact lv_entry _ (by rw [hlen]; exact hn)
theorem b_callI {cal : MI} {mc' ms' n index x : Nat} {csin out' : List CE} (av rest stk : List AV) (hM : MKB cal n) (hin : Cond.instanceMethod (yM cal) ∈ gt) (hlk : Cond.methodLink (yM mi).cls index (yM cal) ∈ gt) (hroom : RMO mi cal) (hnm : (yM cal).name = "<init>") (ht : tM cal = none) (hd : decode (cM mi) pc = .ok (.invokespecial index, 3)) (hq : pc + 3 = q) (hn : av.length = n) (hstk : stk = av.reverse ++ O x :: rest) (hcat : (rest.map catA).sum ≤ 8) (hcs : cs = csin) (hol : l.all (fun q => okv cs.length (some q.2)) = true) (hos : rest.all (fun v => okv cs.length (some v)) = true) (hle : cs.length ≤ out'.length) (hcells : cells + mc' ≤ mc) (hslots : slots + ms' ≤ ms) (hC : CK L D K cal mc' ms' (O x :: av) csin out') (kk : BK L D K mi mc ms n0 out q l rest out' (cells + mc') (slots + ms')) : BK L D K mi mc ms n0 out pc l stk cs cells slots := by
  intro p e s m args below meth c s₁ B hml hK ad0 ad Af H locs la h0 hn0 hA hP hD hS hl
  subst hq
  subst hstk
  subst hcs
  have hts : ∀ w ∈ gt, w.before args s = true := fun w hw => atoms_spec (ws := WS mi) B.pre w (List.mem_cons_of_mem _ hw)
  have hown : s.vm.findClass (yM mi).cls = some m.cls := findClass_of_methodNamed B.named
  have hfr : ∀ z, va_A (wc K ad cs) H.size z → Af z := by
    intro z hz
    rcases hz with ⟨k, e', hk⟩ | hz
    · exact hD.2 k _ hk
    · exact hA z (Nat.le_trans hS.1 hz)
  have hbl : FrameBlind (va_Pc (cvk ad (O x :: av)) (fun U => U.heap.size = H.size ∧ va_P D classes (wc K ad cs) U.heap ∧ va_D (fun _ => True) (wc K ad cs) ∧ KD D K U)) := fun a U g mk h => by
    obtain ⟨z0, z1, z2, z3, z4⟩ := h
    exact ⟨z0, z1, z2, z3, KDsame z4 rfl (Vm.Alike.refl U.vm)⟩
  have hcb : CallB (headSpec (WS mi) (RK mi mc ms)).room s args (yM mi).cls index (yM cal) (cM cal) (nM cal) (tM cal) (WS cal) (RK cal mc' ms') mc' ms' n := callB_of n hts (gt_ws cal n hM) rfl rfl rfl (hts _ hM.2.1) (hts _ hlk) hM.2.2 hroom
  rw [ht] at hcb
  have hrun := va_runI (As := cvk ad av) (rest := cvk ad rest) (g := F0 m pc la (cvk ad (av.reverse ++ O x :: rest))) (nL := nM mi) (R := (headSpec (WS mi) (RK mi mc ms)).room) (e := e) (below := below) (meth := meth) (cells := cells) (slots := slots) (H := H) (locs := locs) ⟨B.exec, B.bytes, hml, hown, hts⟩ (hC ad H.size) ⟨hcb, hnm, hts _ hin⟩ ⟨hbl, fun U hU hW => ⟨rfl, by rw [hU], by rw [hU]; exact hP, hD.weaken (fun _ _ _ _ => trivial), hK.moved hW⟩⟩ rfl (by rw [List.length_map]; exact hn) hl.1 (by show cvk ad (av.reverse ++ O x :: rest) = _; simp [cvk, cvo, List.map_append, List.map_reverse]) (lv_room (by rw [cvk_cat]; exact hcat)) hd ⟨hcells, hslots⟩
  refine va_callv hrun hS (fun z _ h => hfr z h) hfr (fun ad' t H1 locs1 hth hvm hw hB _ _ hS1 => ?_)
  obtain ⟨b1, b2, b3⟩ := hB
  have := kk p e s m args below meth c s₁ B hml hK ad0 ad' Af H1 locs1 la (fun j hj => by rw [hw j (Nat.lt_of_lt_of_le hj hn0)]; exact h0 j hj) (Nat.le_trans hn0 hle) hA (by rw [← hth]; exact b1) (b2.weaken (fun k z _ h => hfr z.1 h)) hS1 (by rw [cvkl_ext (fun j hj => hw j hj) hol]; exact hl)
  rw [cvk_ext (fun j hj => hw j hj) hos] at this
  exact this
theorem b_callN {host : String} {cal : MI} {mc' ms' n index x : Nat} {csin out' : List CE} (av rest stk : List AV) (hM : MKB cal n) (hin : Cond.instanceMethod (yM cal) ∈ gt) (hlk : Cond.methodLinkNest (yM mi).cls index (yM cal) host ∈ nestK) (hroom : RMO mi cal) (hnm : (yM cal).name = "<init>") (ht : tM cal = none) (hd : decode (cM mi) pc = .ok (.invokespecial index, 3)) (hq : pc + 3 = q) (hn : av.length = n) (hstk : stk = av.reverse ++ O x :: rest) (hcat : (rest.map catA).sum ≤ 8) (hcs : cs = csin) (hol : l.all (fun q => okv cs.length (some q.2)) = true) (hos : rest.all (fun v => okv cs.length (some v)) = true) (hle : cs.length ≤ out'.length) (hcells : cells + mc' ≤ mc) (hslots : slots + ms' ≤ ms) (hC : CK L D K cal mc' ms' (O x :: av) csin out') (kk : BK L D K mi mc ms n0 out q l rest out' (cells + mc') (slots + ms')) : BK L D K mi mc ms n0 out pc l stk cs cells slots := by
  intro p e s m args below meth c s₁ B hml hK ad0 ad Af H locs la h0 hn0 hA hP hD hS hl
  subst hq
  subst hstk
  subst hcs
  have hts : ∀ w ∈ gt, w.before args s = true := fun w hw => atoms_spec (ws := WS mi) B.pre w (List.mem_cons_of_mem _ hw)
  have hown : s.vm.findClass (yM mi).cls = some m.cls := findClass_of_methodNamed B.named
  have hfr : ∀ z, va_A (wc K ad cs) H.size z → Af z := by
    intro z hz
    rcases hz with ⟨k, e', hk⟩ | hz
    · exact hD.2 k _ hk
    · exact hA z (Nat.le_trans hS.1 hz)
  have hbl : FrameBlind (va_Pc (cvk ad (O x :: av)) (fun U => U.heap.size = H.size ∧ va_P D classes (wc K ad cs) U.heap ∧ va_D (fun _ => True) (wc K ad cs) ∧ KD D K U)) := fun a U g mk h => by
    obtain ⟨z0, z1, z2, z3, z4⟩ := h
    exact ⟨z0, z1, z2, z3, KDsame z4 rfl (Vm.Alike.refl U.vm)⟩
  have hcb : va_CN (headSpec (WS mi) (RK mi mc ms)).room s args (yM mi).cls index (yM cal) host (cM cal) (nM cal) (tM cal) (WS cal) (RK cal mc' ms') mc' ms' n := va_cnB n hts (gt_ws cal n hM) rfl rfl rfl (hK.2.1 _ hlk) (hts _ hM.2.1) hM.2.2 hroom
  rw [ht] at hcb
  have hrun := va_runIN (As := cvk ad av) (rest := cvk ad rest) (g := F0 m pc la (cvk ad (av.reverse ++ O x :: rest))) (nL := nM mi) (R := (headSpec (WS mi) (RK mi mc ms)).room) (e := e) (below := below) (meth := meth) (cells := cells) (slots := slots) (H := H) (locs := locs) ⟨B.exec, B.bytes, hml, hown, hts⟩ (hC ad H.size) ⟨hcb, hnm, hts _ hin⟩ ⟨hbl, fun U hU hW => ⟨rfl, by rw [hU], by rw [hU]; exact hP, hD.weaken (fun _ _ _ _ => trivial), hK.moved hW⟩⟩ rfl (by rw [List.length_map]; exact hn) hl.1 (by show cvk ad (av.reverse ++ O x :: rest) = _; simp [cvk, cvo, List.map_append, List.map_reverse]) (lv_room (by rw [cvk_cat]; exact hcat)) hd ⟨hcells, hslots⟩
  refine va_callv hrun hS (fun z _ h => hfr z h) hfr (fun ad' t H1 locs1 hth hvm hw hB _ _ hS1 => ?_)
  obtain ⟨b1, b2, b3⟩ := hB
  have := kk p e s m args below meth c s₁ B hml hK ad0 ad' Af H1 locs1 la (fun j hj => by rw [hw j (Nat.lt_of_lt_of_le hj hn0)]; exact h0 j hj) (Nat.le_trans hn0 hle) hA (by rw [← hth]; exact b1) (b2.weaken (fun k z _ h => hfr z.1 h)) hS1 (by rw [cvkl_ext (fun j hj => hw j hj) hol]; exact hl)
  rw [cvk_ext (fun j hj => hw j hj) hos] at this
  exact this
end
