/-! calls -/
def MKB (cal : MI) (n : Nat) : Prop := Cond.code (yM cal) (cM cal) (nM cal) (tM cal) ∈ gt ∧ Cond.initialized (yM cal).cls ∈ gt ∧ ((yM cal).cls ≠ "java/lang/invoke/MethodHandle" ∧ (yM cal).cls ≠ "java/lang/invoke/VarHandle" ∧ (parseMethodDescriptor (yM cal).desc).map (fun d => d.parameters.length) = some n)
def MKV (cal : MI) (ci n : Nat) : Prop := MKB cal n ∧ Cond.instanceMethod (yM cal) ∈ gt ∧ Cond.selects (yM cal).cls (yM cal) (yM cal) ∈ gt ∧ ∃ T N, classes[ci]? = some ((yM cal).cls, T, N)
def MKS (cal : MI) (n : Nat) : Prop := MKB cal n ∧ Cond.static (yM cal) ∈ gt
def RMO (mi cal : MI) : Prop := fM cal + 1 ≤ fM mi ∧ 8 + (nM cal + 11) + oM cal ≤ oM mi
theorem RMO.of {mi cal : MI} (h : (Nat.ble (fM cal + 1) (fM mi) && Nat.ble (8 + (nM cal + 11) + oM cal) (oM mi)) = true) : RMO mi cal := by
  rw [Bool.and_eq_true] at h
  exact ⟨Nat.le_of_ble_eq_true h.1, Nat.le_of_ble_eq_true h.2⟩
theorem gt_ws (cal : MI) (n : Nat) (h : MKB cal n) : GoodIn gt (WS cal) := fun w hw => by
  rcases List.mem_cons.mp hw with rfl | hw
  · exact gt_good _ h.1
  · exact gt_good _ hw
theorem Wd_blind (G : GT) (σ : St) (av : List Value) : FrameBlind (va_Pc av (Wd G σ)) := fun a U g mk h => by
  obtain ⟨h0, hP, hR, hK⟩ := h
  exact ⟨h0, hP, hR, va_K.moved (u := U) (U := U.calling g mk a) (Vm.Alike.refl U.vm) hK.1, hK.2.1, fun w hw => va_Nw.same (by simp only [nestW, List.mem_cons, List.not_mem_nil, or_false] at hw; rcases hw with rfl | rfl | rfl <;> rfl) (u := U) (U := U.calling g mk a) rfl (hK.2.2 w hw)⟩
theorem QJ_i {G : GT} {cal : MI} {P : Int → St → Prop} {ty : FieldType} (ht : tM cal = some ty) : QJ G cal P = va_Qi (fun r u => ∃ x : Int, r = Int32.ofInt x ∧ rng x ∧ P x u) (Wd G) (AG G) := by
  unfold QJ
  rw [ht]
theorem QJ_v {G : GT} {cal : MI} {P : Int → St → Prop} (ht : tM cal = none) : QJ G cal P = va_Qv (fun u => P 0 u) (Wd G) (AG G) := by
  unfold QJ
  rw [ht]
section
variable {G : GT} {mi cal : MI} {pc q : Nat} {l : List (Nat × AV)} {stk av rest : List AV} {σ : St} {P P' : Int → St → Prop} {index k ci n : Nat}
theorem r_callVi {ty : FieldType} (hM : MKV cal ci n) (hlk : Cond.methodLink (yM mi).cls index (yM cal) ∈ gt) (hroom : RMO mi cal) (ht : tM cal = some ty) (hd : decode (cM mi) pc = .ok (.invokevirtual index, 3)) (hq : pc + 3 = q) (hk : lyt k = (0, ci)) (av : List AV) (rest : List AV) (hn : av.length = n) (hstk : stk = av.reverse ++ O k :: rest) (hcat : (rest.map catA).sum ≤ 8) (hC : CJ G cal (O k :: av) σ P') (kk : ∀ r u, rng r → P' r u → A G mi q l (I r :: rest) u P) : A G mi pc l stk σ P := by
  intro p e s m args below meth c s₁ B hml hK hR H locs la hP hS hl
  subst hq
  subst hstk
  have hts : ∀ w ∈ gt, w.before args s = true := fun w hw => atoms_spec (ws := WS mi) B.pre w (List.mem_cons_of_mem _ hw)
  have hown : s.vm.findClass (yM mi).cls = some m.cls := findClass_of_methodNamed B.named
  unfold CJ at hC
  rw [QJ_i ht] at hC
  obtain ⟨hb, hin, hse, T, N, hc⟩ := hM
  have hlt := lyt_lt hk (by decide)
  have hrun := va_runV (As := cvs G av) (rest := cvs G rest) (g := F0 m pc la (cvs G (av.reverse ++ O k :: rest))) (C := (yM cal).cls) (nL := nM mi) (R := (headSpec (WS mi) (RM mi)).room) (e := e) (below := below) (meth := meth) (cells := 0) (slots := 0) (locs := locs) ⟨B.exec, B.bytes, hml, hown, hts⟩ hC ⟨callB_of n hts (gt_ws cal n hb) rfl rfl rfl (hts _ hb.2.1) (hts _ hlk) hb.2.2 hroom, hts _ hin, hts _ hse⟩ ⟨Wd_blind G σ _, va_recv hK.1 hP hc (q0 := k) (by rw [wG_at hlt, ent_o hk]), fun U hU hW => ⟨rfl, by rw [hU]; exact hP, hR, hK.moved hW⟩⟩ rfl (by rw [List.length_map]; exact hn) hl.1 (by show cvs G (av.reverse ++ O k :: rest) = _; simp [cvs, cv, List.map_append, List.map_reverse]) (lv_room (by rw [cvs_cat]; exact hcat)) hd ⟨Nat.le_refl _, Nat.le_refl _⟩
  refine va_calli hrun hS (fun _ _ h => h) (fun _ h => h) (fun r u t H1 locs1 hth hvm hw hB _ _ hS1 => ?_)
  obtain ⟨x, rfl, hx, hp⟩ := hw
  exact kk x u hx hp p e s m args below meth c s₁ B hml hK hB.2.1 H1 locs1 la (by rw [← hth]; exact hB.1) hS1 hl
theorem r_callSi {ty : FieldType} (hM : MKS cal n) (hlk : Cond.methodLink (yM mi).cls index (yM cal) ∈ gt) (hroom : RMO mi cal) (ht : tM cal = some ty) (hd : decode (cM mi) pc = .ok (.invokestatic index, 3)) (hq : pc + 3 = q) (av : List AV) (rest : List AV) (hn : av.length = n) (hstk : stk = av.reverse ++ rest) (hcat : (rest.map catA).sum ≤ 8) (hC : CJ G cal (av) σ P') (kk : ∀ r u, rng r → P' r u → A G mi q l (I r :: rest) u P) : A G mi pc l stk σ P := by
  intro p e s m args below meth c s₁ B hml hK hR H locs la hP hS hl
  subst hq
  subst hstk
  have hts : ∀ w ∈ gt, w.before args s = true := fun w hw => atoms_spec (ws := WS mi) B.pre w (List.mem_cons_of_mem _ hw)
  have hown : s.vm.findClass (yM mi).cls = some m.cls := findClass_of_methodNamed B.named
  unfold CJ at hC
  rw [QJ_i ht] at hC
  obtain ⟨hb, hst⟩ := hM
  have hrun := va_runS (As := cvs G av) (rest := cvs G rest) (g := F0 m pc la (cvs G (av.reverse ++ rest))) (nL := nM mi) (R := (headSpec (WS mi) (RM mi)).room) (e := e) (below := below) (meth := meth) (cells := 0) (slots := 0) (H := H) (locs := locs) ⟨B.exec, B.bytes, hml, hown, hts⟩ hC ⟨callB_of n hts (gt_ws cal n hb) rfl rfl rfl (hts _ hb.2.1) (hts _ hlk) hb.2.2 hroom, hts _ hst⟩ ⟨Wd_blind G σ _, fun U hU hW => ⟨rfl, by rw [hU]; exact hP, hR, hK.moved hW⟩⟩ rfl (by rw [List.length_map]; exact hn) hl.1 (by show cvs G (av.reverse ++ rest) = _; simp [cvs, List.map_append, List.map_reverse]) (lv_room (by rw [cvs_cat]; exact hcat)) hd ⟨Nat.le_refl _, Nat.le_refl _⟩
  refine va_calli hrun hS (fun _ _ h => h) (fun _ h => h) (fun r u t H1 locs1 hth hvm hw hB _ _ hS1 => ?_)
  obtain ⟨x, rfl, hx, hp⟩ := hw
  exact kk x u hx hp p e s m args below meth c s₁ B hml hK hB.2.1 H1 locs1 la (by rw [← hth]; exact hB.1) hS1 hl
theorem r_callVv (hM : MKV cal ci n) (hlk : Cond.methodLink (yM mi).cls index (yM cal) ∈ gt) (hroom : RMO mi cal) (ht : tM cal = none) (hd : decode (cM mi) pc = .ok (.invokevirtual index, 3)) (hq : pc + 3 = q) (hk : lyt k = (0, ci)) (av : List AV) (rest : List AV) (hn : av.length = n) (hstk : stk = av.reverse ++ O k :: rest) (hcat : (rest.map catA).sum ≤ 8) (hC : CJ G cal (O k :: av) σ P') (kk : ∀ u, P' 0 u → A G mi q l rest u P) : A G mi pc l stk σ P := by
  intro p e s m args below meth c s₁ B hml hK hR H locs la hP hS hl
  subst hq
  subst hstk
  have hts : ∀ w ∈ gt, w.before args s = true := fun w hw => atoms_spec (ws := WS mi) B.pre w (List.mem_cons_of_mem _ hw)
  have hown : s.vm.findClass (yM mi).cls = some m.cls := findClass_of_methodNamed B.named
  unfold CJ at hC
  rw [QJ_v ht] at hC
  obtain ⟨hb, hin, hse, T, N, hc⟩ := hM
  have hlt := lyt_lt hk (by decide)
  have hrun := va_runV (As := cvs G av) (rest := cvs G rest) (g := F0 m pc la (cvs G (av.reverse ++ O k :: rest))) (C := (yM cal).cls) (nL := nM mi) (R := (headSpec (WS mi) (RM mi)).room) (e := e) (below := below) (meth := meth) (cells := 0) (slots := 0) (locs := locs) ⟨B.exec, B.bytes, hml, hown, hts⟩ hC ⟨callB_of n hts (gt_ws cal n hb) rfl rfl rfl (hts _ hb.2.1) (hts _ hlk) hb.2.2 hroom, hts _ hin, hts _ hse⟩ ⟨Wd_blind G σ _, va_recv hK.1 hP hc (q0 := k) (by rw [wG_at hlt, ent_o hk]), fun U hU hW => ⟨rfl, by rw [hU]; exact hP, hR, hK.moved hW⟩⟩ rfl (by rw [List.length_map]; exact hn) hl.1 (by show cvs G (av.reverse ++ O k :: rest) = _; simp [cvs, cv, List.map_append, List.map_reverse]) (lv_room (by rw [cvs_cat]; exact hcat)) hd ⟨Nat.le_refl _, Nat.le_refl _⟩
  refine va_callv hrun hS (fun _ _ h => h) (fun _ h => h) (fun u t H1 locs1 hth hvm hw hB _ _ hS1 => ?_)
  exact kk u hw p e s m args below meth c s₁ B hml hK hB.2.1 H1 locs1 la (by rw [← hth]; exact hB.1) hS1 hl
theorem r_callSv (hM : MKS cal n) (hlk : Cond.methodLink (yM mi).cls index (yM cal) ∈ gt) (hroom : RMO mi cal) (ht : tM cal = none) (hd : decode (cM mi) pc = .ok (.invokestatic index, 3)) (hq : pc + 3 = q) (av : List AV) (rest : List AV) (hn : av.length = n) (hstk : stk = av.reverse ++ rest) (hcat : (rest.map catA).sum ≤ 8) (hC : CJ G cal (av) σ P') (kk : ∀ u, P' 0 u → A G mi q l rest u P) : A G mi pc l stk σ P := by
  intro p e s m args below meth c s₁ B hml hK hR H locs la hP hS hl
  subst hq
  subst hstk
  have hts : ∀ w ∈ gt, w.before args s = true := fun w hw => atoms_spec (ws := WS mi) B.pre w (List.mem_cons_of_mem _ hw)
  have hown : s.vm.findClass (yM mi).cls = some m.cls := findClass_of_methodNamed B.named
  unfold CJ at hC
  rw [QJ_v ht] at hC
  obtain ⟨hb, hst⟩ := hM
  have hrun := va_runS (As := cvs G av) (rest := cvs G rest) (g := F0 m pc la (cvs G (av.reverse ++ rest))) (nL := nM mi) (R := (headSpec (WS mi) (RM mi)).room) (e := e) (below := below) (meth := meth) (cells := 0) (slots := 0) (H := H) (locs := locs) ⟨B.exec, B.bytes, hml, hown, hts⟩ hC ⟨callB_of n hts (gt_ws cal n hb) rfl rfl rfl (hts _ hb.2.1) (hts _ hlk) hb.2.2 hroom, hts _ hst⟩ ⟨Wd_blind G σ _, fun U hU hW => ⟨rfl, by rw [hU]; exact hP, hR, hK.moved hW⟩⟩ rfl (by rw [List.length_map]; exact hn) hl.1 (by show cvs G (av.reverse ++ rest) = _; simp [cvs, List.map_append, List.map_reverse]) (lv_room (by rw [cvs_cat]; exact hcat)) hd ⟨Nat.le_refl _, Nat.le_refl _⟩
  refine va_callv hrun hS (fun _ _ h => h) (fun _ h => h) (fun u t H1 locs1 hth hvm hw hB _ _ hS1 => ?_)
  exact kk u hw p e s m args below meth c s₁ B hml hK hB.2.1 H1 locs1 la (by rw [← hth]; exact hB.1) hS1 hl
theorem r_callNi {host : String} {ty : FieldType} (hM : MKS cal n) (hlk : Cond.methodLinkNest (yM mi).cls index (yM cal) host ∈ nestW) (hroom : RMO mi cal) (ht : tM cal = some ty) (hd : decode (cM mi) pc = .ok (.invokestatic index, 3)) (hq : pc + 3 = q) (av : List AV) (rest : List AV) (hn : av.length = n) (hstk : stk = av.reverse ++ rest) (hcat : (rest.map catA).sum ≤ 8) (hC : CJ G cal (av) σ P') (kk : ∀ r u, rng r → P' r u → A G mi q l (I r :: rest) u P) : A G mi pc l stk σ P := by
  intro p e s m args below meth c s₁ B hml hK hR H locs la hP hS hl
  subst hq
  subst hstk
  have hts : ∀ w ∈ gt, w.before args s = true := fun w hw => atoms_spec (ws := WS mi) B.pre w (List.mem_cons_of_mem _ hw)
  have hown : s.vm.findClass (yM mi).cls = some m.cls := findClass_of_methodNamed B.named
  unfold CJ at hC
  rw [QJ_i ht] at hC
  obtain ⟨hb, hst⟩ := hM
  have hrun := va_runSN (As := cvs G av) (rest := cvs G rest) (g := F0 m pc la (cvs G (av.reverse ++ rest))) (nL := nM mi) (R := (headSpec (WS mi) (RM mi)).room) (e := e) (below := below) (meth := meth) (cells := 0) (slots := 0) (H := H) (locs := locs) ⟨B.exec, B.bytes, hml, hown, hts⟩ hC ⟨va_cnB n hts (gt_ws cal n hb) rfl rfl rfl (hK.2.2 _ hlk) (hts _ hb.2.1) hb.2.2 hroom, hts _ hst, trivial⟩ ⟨Wd_blind G σ _, fun U hU hW => ⟨rfl, by rw [hU]; exact hP, hR, hK.moved hW⟩⟩ rfl (by rw [List.length_map]; exact hn) hl.1 (by show cvs G (av.reverse ++ rest) = _; simp [cvs, List.map_append, List.map_reverse]) (lv_room (by rw [cvs_cat]; exact hcat)) hd ⟨Nat.le_refl _, Nat.le_refl _⟩
  refine va_calli hrun hS (fun _ _ h => h) (fun _ h => h) (fun r u t H1 locs1 hth hvm hw hB _ _ hS1 => ?_)
  obtain ⟨x, rfl, hx, hp⟩ := hw
  exact kk x u hx hp p e s m args below meth c s₁ B hml hK hB.2.1 H1 locs1 la (by rw [← hth]; exact hB.1) hS1 hl
end
section
variable {G : GT} {mi : MI} {pc q : Nat} {l : List (Nat × AV)} {st : List AV} {σ : St} {P : Int → St → Prop} {index : Nat} {x y : Int}
theorem mmin_code : Cond.code Lib.Math.min.name Lib.Math.min.code 2 (some .int) ∈ gt := gt_at 685 (by decide +kernel) rfl
theorem mmax_code : Cond.code Lib.Math.max.name Lib.Math.max.code 2 (some .int) ∈ gt := gt_at 853 (by decide +kernel) rfl
theorem r_mmax (hlk : Cond.methodLink (yM mi).cls index Lib.Math.max.name ∈ gt) (hf : 1 ≤ fM mi) (hd : decode (cM mi) pc = .ok (.invokestatic index, 3)) (hq : pc + 3 = q) (hcat : (st.map catA).sum + 13 ≤ oM mi) (hx : rng x) (hy : rng y) (kk : A G mi q l (I (max x y) :: st) σ P) : A G mi pc l (I y :: I x :: st) σ P := by
  intro p e s m args below meth c s₁ B hml hK hR H locs la hP hS hl
  subst hq
  have hts : ∀ w ∈ gt, w.before args s = true := fun w hw => atoms_spec (ws := WS mi) B.pre w (List.mem_cons_of_mem _ hw)
  refine va_mmax B.exec B.bytes (hml.trans hl.1.symm) (findClass_of_methodNamed B.named) (hts _ hlk) (hts _ (gt_at 852 (by decide +kernel) rfl)) (hts _ (gt_at 83 (by decide +kernel) rfl)) (hts _ mmax_code) hf (by rw [cvs_cat]; exact hcat) (Nat.le_refl _) (Nat.le_refl _) hd ?_
  have e1 : (if Int32.ofInt x < Int32.ofInt y then Int32.ofInt y else Int32.ofInt x) = Int32.ofInt (max x y) := by
    by_cases h : x < y
    · rw [if_pos ((oi_lt hx hy).mpr h), show max x y = y by omega]
    · rw [if_neg (fun z => h ((oi_lt hx hy).mp z)), show max x y = x by omega]
  rw [e1]
  exact kk p e s m args below meth c s₁ B hml hK hR H locs la hP hS hl
theorem r_mmin (hlk : Cond.methodLink (yM mi).cls index Lib.Math.min.name ∈ gt) (hf : 1 ≤ fM mi) (hd : decode (cM mi) pc = .ok (.invokestatic index, 3)) (hq : pc + 3 = q) (hcat : (st.map catA).sum + 13 ≤ oM mi) (hx : rng x) (hy : rng y) (kk : A G mi q l (I (min x y) :: st) σ P) : A G mi pc l (I y :: I x :: st) σ P := by
  intro p e s m args below meth c s₁ B hml hK hR H locs la hP hS hl
  subst hq
  have hts : ∀ w ∈ gt, w.before args s = true := fun w hw => atoms_spec (ws := WS mi) B.pre w (List.mem_cons_of_mem _ hw)
  refine va_mmin B.exec B.bytes (hml.trans hl.1.symm) (findClass_of_methodNamed B.named) (hts _ hlk) (hts _ (gt_at 684 (by decide +kernel) rfl)) (hts _ (gt_at 83 (by decide +kernel) rfl)) (hts _ mmin_code) hf (by rw [cvs_cat]; exact hcat) (Nat.le_refl _) (Nat.le_refl _) hd ?_
  have e1 : (if Int32.ofInt y < Int32.ofInt x then Int32.ofInt y else Int32.ofInt x) = Int32.ofInt (min x y) := by
    by_cases h : y < x
    · rw [if_pos ((oi_lt hy hx).mpr h), show min x y = y by omega]
    · rw [if_neg (fun z => h ((oi_lt hy hx).mp z)), show min x y = x by omega]
  rw [e1]
  exact kk p e s m args below meth c s₁ B hml hK hR H locs la hP hS hl
theorem r_putsh {v : Nat} (hL : FL (yM mi).cls index 0 7) (hd : decode (cM mi) pc = .ok (.putfield index, 3)) (hq : pc + 3 = q) (kk : ∀ τ, τ = sh σ v → A G mi q l st τ P) : A G mi pc l (O v :: O 0 :: st) σ P := by
  intro p e s m args below meth c s₁ B hml hK hR H locs la hP hS hl
  subst hq
  obtain ⟨C, T, N, hc, hj, h1, hw⟩ := hL
  have hts : ∀ w ∈ gt, w.before args s = true := fun w hw => atoms_spec (ws := WS mi) B.pre w (List.mem_cons_of_mem _ hw)
  have hk : lyt 0 = (0, 0) := by decide +kernel
  have hlt := lyt_lt hk (by decide)
  obtain ⟨o1, o2, o3⟩ := classes_ok 0 _ hc
  have hf : (T 7).2.2.2 = false := by cases hc; rfl
  refine va_put (C := C) (T := T) (N := N) (ci := 0) (v := cv G (O v)) B.exec B.bytes hts o1 (tyc 0) o3 o2 (findClass_of_methodNamed B.named) hK.1 hP (wG_D hK.2.1) hS 0 (by rw [wG_at hlt, ent_o hk]) hc 7 hj (hts _ hw) (fun x hx => by rw [h1] at hx; exact hx) hf (o3 7 hj) rfl rfl (by rw [List.length_map, List.length_range, nfc_of hc]; exact hj) hd (fun H1 locs1 hP1 hD1 hS1 => ?_)
  refine kk _ rfl p e s m args below meth c s₁ B hml hK hR H1 locs1 la ?_ hS1 hl
  unfold PG
  rw [← wG_set (G := G) (σ := σ) (k := 0) ?_ (fun j' h => sh_ent j' h)]
  · exact hP1
  · rw [ent_o hk]
    congr 2
theorem r_putsp {v : Nat} (hL : FL (yM mi).cls index 0 8) (hd : decode (cM mi) pc = .ok (.putfield index, 3)) (hq : pc + 3 = q) (kk : ∀ τ, τ = sp σ v → A G mi q l st τ P) : A G mi pc l (O v :: O 0 :: st) σ P := by
  intro p e s m args below meth c s₁ B hml hK hR H locs la hP hS hl
  subst hq
  obtain ⟨C, T, N, hc, hj, h1, hw⟩ := hL
  have hts : ∀ w ∈ gt, w.before args s = true := fun w hw => atoms_spec (ws := WS mi) B.pre w (List.mem_cons_of_mem _ hw)
  have hk : lyt 0 = (0, 0) := by decide +kernel
  have hlt := lyt_lt hk (by decide)
  obtain ⟨o1, o2, o3⟩ := classes_ok 0 _ hc
  have hf : (T 8).2.2.2 = false := by cases hc; rfl
  refine va_put (C := C) (T := T) (N := N) (ci := 0) (v := cv G (O v)) B.exec B.bytes hts o1 (tyc 0) o3 o2 (findClass_of_methodNamed B.named) hK.1 hP (wG_D hK.2.1) hS 0 (by rw [wG_at hlt, ent_o hk]) hc 8 hj (hts _ hw) (fun x hx => by rw [h1] at hx; exact hx) hf (o3 8 hj) rfl rfl (by rw [List.length_map, List.length_range, nfc_of hc]; exact hj) hd (fun H1 locs1 hP1 hD1 hS1 => ?_)
  refine kk _ rfl p e s m args below meth c s₁ B hml hK hR H1 locs1 la ?_ hS1 hl
  unfold PG
  rw [← wG_set (G := G) (σ := σ) (k := 0) ?_ (fun j' h => sp_ent j' h)]
  · exact hP1
  · rw [ent_o hk]
    congr 2
end
/-- behind a method more may be said, less asked -/
theorem CJ.mono {G : GT} {mi : MI} {av : List AV} {σ : St} {P P' : Int → St → Prop} (hC : CJ G mi av σ P) (h : ∀ x u, Rg u → P x u → P' x u) : CJ G mi av σ P' := by
  intro p e ha hc hk s m args below hf hpre hP hT
  obtain ⟨t, o, h1, h2, h3, h4, h5⟩ := hC p e ha hc hk s m args below hf hpre hP hT
  exact ⟨t, o, h1, h2, h3, QJ.mono h h4, h5⟩
