
theorem K_arr {s : State} {args : Array Value} {ty : FieldType} (hty : ty = .int ∨ ty = .boolean) (h : (Cond.arrayClass ty).before args s = true) : ∃ c, ArrOfT s c ty ∧ va_RA s c ty := by
  obtain ⟨c, k, comp, h1, h2, h3⟩ := Cond.arrayClass_spec h
  refine ⟨c, fun n z => ⟨fun _ h => (by cases h), k, h2, comp, h3⟩, ?_⟩
  rcases hty with rfl | rfl <;> exact h1
/-- what the law's start says of the classes -/
theorem start_K {s : State} {b : Nat} (hts : ∀ w ∈ lw_tbl, w.before #[Value.ref b] s = true) : ∃ (D : va_G) (K : K3), KD D K s := by
  obtain ⟨c0, iS0, hKn0⟩ := u_known (C := R_JS) (T := T_JS) (N := 17) (n := 17) hts (fun w hw => gt_sub (in_JS w hw)) (hts (.instantiable R_JS 17) (List.mem_of_getElem? (i := 86) (by decide +kernel)))
  obtain ⟨c1, iS1, hKn1⟩ := u_known (C := R_SC) (T := T_SC) (N := 13) (n := 13) hts (fun w hw => gt_sub (in_SC w hw)) (hts (.instantiable R_SC 13) (List.mem_of_getElem? (i := 94) (by decide +kernel)))
  obtain ⟨c2, iS2, hKn2⟩ := u_known (C := R_TY) (T := T_TY) (N := 6) (n := 6) hts (fun w hw => gt_sub (in_TY w hw)) (hts (.instantiable R_TY 6) (List.mem_of_getElem? (i := 167) (by decide +kernel)))
  obtain ⟨c3, iS3, hKn3⟩ := u_known (C := R_CL) (T := T_CL) (N := 2) (n := 2) hts (fun w hw => gt_sub (in_CL w hw)) (hts (.instantiable R_CL 2) (List.mem_of_getElem? (i := 198) (by decide +kernel)))
  obtain ⟨c4, iS4, hKn4⟩ := u_known (C := R_UN) (T := T_UN) (N := 17) (n := 17) hts (fun w hw => gt_sub (in_UN w hw)) (hts (.instantiable R_UN 17) (List.mem_of_getElem? (i := 212) (by decide +kernel)))
  obtain ⟨c5, iS5, hKn5⟩ := u_known (C := R_FI) (T := T_FI) (N := 12) (n := 12) hts (fun w hw => gt_sub (in_FI w hw)) (hts (.instantiable R_FI 12) (List.mem_of_getElem? (i := 289) (by decide +kernel)))
  obtain ⟨c6, iS6, hKn6⟩ := u_known (C := R_PA) (T := T_PA) (N := 11) (n := 11) hts (fun w hw => gt_sub (in_PA w hw)) (hts (.instantiable R_PA 11) (List.mem_of_getElem? (i := 333) (by decide +kernel)))
  obtain ⟨c7, iS7, hKn7⟩ := u_known (C := R_PG) (T := T_PG) (N := 7) (n := 7) hts (fun w hw => gt_sub (in_PG w hw)) (hts (.instantiable R_PG 7) (List.mem_of_getElem? (i := 383) (by decide +kernel)))
  obtain ⟨c8, iS8, hKn8⟩ := u_known (C := R_MO) (T := T_MO) (N := 116) (n := 116) hts (fun w hw => gt_sub (in_MO w hw)) (hts (.instantiable R_MO 116) (List.mem_of_getElem? (i := 1100) (by decide +kernel)))
  obtain ⟨c9, iS9, hKn9⟩ := u_known (C := R_LN) (T := T_LN) (N := 12) (n := 12) hts (fun w hw => gt_sub (in_LN w hw)) (hts (.instantiable R_LN 12) (List.mem_of_getElem? (i := 416) (by decide +kernel)))
  obtain ⟨c10, iS10, hKn10⟩ := u_known (C := R_BX) (T := T_BX) (N := 5) (n := 5) hts (fun w hw => gt_sub (in_BX w hw)) (hts (.instantiable R_BX 5) (List.mem_of_getElem? (i := 422) (by decide +kernel)))
  obtain ⟨c11, iS11, hKn11⟩ := u_known (C := R_MK) (T := T_MK) (N := 4) (n := 4) hts (fun w hw => gt_sub (in_MK w hw)) (hts (.instantiable R_MK 4) (List.mem_of_getElem? (i := 454) (by decide +kernel)))
  obtain ⟨cI, a1, a2⟩ := K_arr (Or.inl rfl) (hts (.arrayClass .int) (List.mem_of_getElem? (i := 164) (by decide +kernel)))
  obtain ⟨cZ, b1, b2⟩ := K_arr (Or.inr rfl) (hts (.arrayClass .boolean) (List.mem_of_getElem? (i := 165) (by decide +kernel)))
  have hao : AOA s := hts (.arrayOver (.array .int)) (List.mem_of_getElem? (i := 100) (by decide +kernel))
  obtain ⟨comp, cR, kR, f1, -, f3, f4, f5⟩ := hao.spec
  refine ⟨(fun k => if k = 0 then c0 else if k = 1 then c1 else if k = 2 then c2 else if k = 3 then c3 else if k = 4 then c4 else if k = 5 then c5 else if k = 6 then c6 else if k = 7 then c7 else if k = 8 then c8 else if k = 9 then c9 else if k = 10 then c10 else c11, fun k => if k = 0 then iS0 else if k = 1 then iS1 else if k = 2 then iS2 else if k = 3 then iS3 else if k = 4 then iS4 else if k = 5 then iS5 else if k = 6 then iS6 else if k = 7 then iS7 else if k = 8 then iS8 else if k = 9 then iS9 else if k = 10 then iS10 else iS11), (cI, cZ, cR), ⟨?_, ?_⟩, ?_, hao⟩
  · intro k q hq
    match k, hq with
    | 0, hq => cases hq; exact hKn0
    | 1, hq => cases hq; exact hKn1
    | 2, hq => cases hq; exact hKn2
    | 3, hq => cases hq; exact hKn3
    | 4, hq => cases hq; exact hKn4
    | 5, hq => cases hq; exact hKn5
    | 6, hq => cases hq; exact hKn6
    | 7, hq => cases hq; exact hKn7
    | 8, hq => cases hq; exact hKn8
    | 9, hq => cases hq; exact hKn9
    | 10, hq => cases hq; exact hKn10
    | 11, hq => cases hq; exact hKn11
    | k + 12, hq => simp [classes] at hq
  · intro k q hq
    match k, hq with
    | 0, hq => cases hq; exact ⟨a1, a2⟩
    | 1, hq => cases hq; exact ⟨b1, b2⟩
    | 2, hq => cases hq; exact ⟨fun n z => ⟨fun _ h => (by cases h), kR, f3, comp, f4⟩, f5⟩
    | k + 3, hq => simp at hq
  · intro w hw
    simp only [nestK, List.mem_cons, List.not_mem_nil, or_false] at hw
    rcases hw with rfl | rfl | rfl | rfl | rfl | rfl | rfl | rfl | rfl
    · exact va_Nw.of rfl (hts _ (List.mem_of_getElem? (i := 95) (by decide +kernel)))
    · exact va_Nw.of rfl (hts _ (List.mem_of_getElem? (i := 168) (by decide +kernel)))
    · exact va_Nw.of rfl (hts _ (List.mem_of_getElem? (i := 199) (by decide +kernel)))
    · exact va_Nw.of rfl (hts _ (List.mem_of_getElem? (i := 423) (by decide +kernel)))
    · exact va_Nw.of rfl (hts _ (List.mem_of_getElem? (i := 455) (by decide +kernel)))
    · exact va_Nw.of rfl (hts _ (List.mem_of_getElem? (i := 460) (by decide +kernel)))
    · exact va_Nw.of rfl (hts _ (List.mem_of_getElem? (i := 601) (by decide +kernel)))
    · exact va_Nw.of rfl (hts _ (List.mem_of_getElem? (i := 695) (by decide +kernel)))
    · exact va_Nw.of rfl (hts _ (List.mem_of_getElem? (i := 1021) (by decide +kernel)))
set_option maxHeartbeats 4000000 in
set_option maxRecDepth 20000 in
/-- THE LAW, from its entry, given that each call's two answers are one and the bond holds on -/
theorem whole_of {Inv : Nat → St → Prop} (h0 : Inv 0 σ0) (hA : ∀ G, SOA G Inv) {p : Program} {e : Env} {s : State} {m : MethodId} {below : List Frame} {meth : Method} {c : Code} (l : Launch) {b L : Nat} {xs : Nat → Int32} (hL : L ≤ 3584) (C0 : lw_At p s m meth c b L xs) : W p l e room_1 s m #[Value.ref b] below meth c s.heap [] 0 0 (lw_Z below #[Value.ref b] s) (entryFrame m ([Value.ref b] : List Value).toArray 4) := by
  obtain ⟨hx, hb, hr, hml, hown, hts, hX, hbl, hlocks, hgv⟩ := id C0
  have htg : ∀ w ∈ gt, w.before #[Value.ref b] s = true := fun w hw => hts w (gt_sub hw)
  have hAA : ∀ q : Nat, s.heap.size ≤ q → (fun q : Nat => s.heap.size ≤ q) q := fun _ h => h
  obtain ⟨D, K, hK⟩ := start_K hts
  have hS : va_S (fun q : Nat => s.heap.size ≤ q) s.heap s.heap [] := va_S.rf
  have hP : va_P D classes (wc K (fun _ => 0) []) s.heap := fun k q h => by simp [wc] at h
  have hD : va_D (fun q : Nat => s.heap.size ≤ q) (wc K (fun _ => 0) []) := ⟨fun i j p q h => by simp [wc] at h, fun k q h => by simp [wc] at h⟩
  have hl := lv_entry ([.ref b]) (n := 4) (Nat.le_of_ble_eq_true rfl)
  rw [lg_entry_eq]
  generalize (lg_sl ([.ref b]) ++ List.replicate (4 - (lg_sl ([.ref b])).length) Slot.unset).toArray = ls at hl ⊢
  have hl : lv_has ls 4 [(0, .ref b)] := hl
  have fsj : ∀ ad, (fsd_JS.map (cvo ad)) = fsd_JS.map (cvo (fun _ => 0)) := fun ad => rfl
  refine va_new (ci := 0) (fs := fsd_JS.map (cvo (fun _ => 0))) (C := R_JS) (T := T_JS) (N := 17) hx hb htg in_JS ty_JS to_JS hown (htg _ (gt_at 85 (by decide +kernel) rfl)) (htg (.instantiable R_JS 17) (gt_at 86 (by decide +kernel) rfl)) (htg (.initialized R_JS) (gt_at 71 (by decide +kernel) rfl)) hK.1 hP hD hS hAA rfl (fun j hj => ?_) (Nat.le_of_ble_eq_true rfl) (Nat.le_of_ble_eq_true rfl) (dc dl_0 0 rfl) (fun q0 H hP hD hS => ?_)
  · have := dfl (ci := 0) (N := 17) (fs := fsd_JS) (by decide +kernel) j hj (fun _ => 0)
    refine this.trans ?_
    unfold vp_V
    rw [List.getD_eq_getElem?_getD, List.getD_eq_getElem?_getD, List.getElem?_map, List.getElem?_eq_getElem (show j < fsd_JS.length from hj)]
    rfl
  refine lv_dup hx hb (dc dl_0 1 rfl) rfl ?_
  have e1 : wc K (ex1 (fun _ => 0) 0 q0) [(0, 0, fsd_JS)] = wc K (fun _ => 0) [] ++ [(q0, .inr (0, fsd_JS.map (cvo (fun _ => 0))))] := wc_push (cs := []) rfl rfl
  rw [← e1] at hP hD
  have hz1 : [(0, 0, fsd_JS)] = zi_1 := cseq_of (by decide +kernel)
  rw [hz1] at hP hD
  have hfr : ∀ z, va_A (wc K (ex1 (fun _ => 0) 0 q0) zi_1) H.size z → s.heap.size ≤ z := by
    intro z hz
    rcases hz with ⟨k, e', hk⟩ | hz
    · exact hD.2 k _ hk
    · exact Nat.le_trans hS.1 hz
  have hbl1 : FrameBlind (va_Pc (cvk (ex1 (fun _ => 0) 0 q0) [O 0]) (fun U => U.heap.size = H.size ∧ va_P D classes (wc K (ex1 (fun _ => 0) 0 q0) zi_1) U.heap ∧ va_D (fun _ => True) (wc K (ex1 (fun _ => 0) 0 q0) zi_1) ∧ KD D K U)) := fun a U g mk h => by
    obtain ⟨z0, z1, z2, z3, z4⟩ := h
    exact ⟨z0, z1, z2, z3, KDsame z4 rfl (Vm.Alike.refl U.vm)⟩
  have hcb : CallB room_1 s #[Value.ref b] R_LW 9 (yM m_JS_init) (cM m_JS_init) (nM m_JS_init) none (WS m_JS_init) (RK m_JS_init 538 82222) 538 82222 0 := callB_of 0 htg (gt_ws m_JS_init 0 mk_JS_init) rfl rfl rfl (htg _ mk_JS_init.2.1) (htg _ (gt_at 87 (by decide +kernel) rfl)) mk_JS_init.2.2 ⟨Nat.le_of_ble_eq_true rfl, Nat.le_of_ble_eq_true rfl⟩
  have hrun := va_runI (As := []) (rest := [.ref q0]) (g := F0 m 4 ls [.ref q0, .ref q0]) (b := q0) (nL := 4) (R := room_1) (e := e) (below := below) (meth := meth) (cells := 0 + 1) (slots := 0 + 17) (H := H) (locs := []) ⟨hx, hb, hml, hown, htg⟩ (kc_1 (L := l) (D := D) (K := K) (ex1 (fun _ => 0) 0 q0) H.size) ⟨hcb, rfl, htg _ (gt_at 88 (by decide +kernel) rfl)⟩ ⟨hbl1, fun U hU hW => ⟨by show _ = [Value.ref (ex1 (fun _ => 0) 0 q0 0)].toArray; simp [ex1], by rw [hU], by rw [hU]; exact hP, hD.weaken (fun _ _ _ _ => trivial), hK.moved hW⟩⟩ rfl rfl hl.1 rfl (lv_room (Nat.le_of_ble_eq_true rfl)) (dc dl_0 2 rfl) ⟨by decide, by decide⟩
  refine va_callv hrun hS (fun z _ h => hfr z h) hfr (fun ad1 t H1 locs1 hth hvm hw hB _ _ hS => ?_)
  obtain ⟨b1, b2, b3⟩ := hB
  have hP : va_P D classes (wc K ad1 zo_1) H1 := by rw [← hth]; exact b1
  have hD : va_D (fun q : Nat => s.heap.size ≤ q) (wc K ad1 zo_1) := b2.weaken (fun k z _ h => hfr z.1 h)
  have ha0 : ad1 0 = q0 := hw 0 (by decide +kernel)
  refine lv_astore_n (lv' := [(1, .ref q0), (0, .ref b)]) hx hb (dc dl_0 3 rfl) rfl hl (by decide) rfl (fun ls hl => ?_)
  refine va_new (ci := 8) (fs := fsd_MO.map (cvo ad1)) (C := R_MO) (T := T_MO) (N := 116) hx hb htg in_MO ty_MO to_MO hown (htg _ (gt_at 1099 (by decide +kernel) rfl)) (htg (.instantiable R_MO 116) (gt_at 1100 (by decide +kernel) rfl)) (htg (.initialized R_MO) (gt_at 82 (by decide +kernel) rfl)) hK.1 hP hD hS hAA rfl (fun j hj => ?_) (Nat.le_of_ble_eq_true rfl) (Nat.le_of_ble_eq_true rfl) (dc dl_0 4 rfl) (fun q1 H2 hP hD hS => ?_)
  · have := dfl (ci := 8) (N := 116) (fs := fsd_MO) (by decide +kernel) j hj ad1
    refine this.trans ?_
    unfold vp_V
    rw [List.getD_eq_getElem?_getD, List.getD_eq_getElem?_getD, List.getElem?_map, List.getElem?_eq_getElem (show j < fsd_MO.length from hj)]
    rfl
  refine lv_dup hx hb (dc dl_0 5 rfl) rfl ?_
  have hlen : zo_1.length = 539 := by decide +kernel
  have e2 : wc K (ex1 ad1 zo_1.length q1) (zo_1 ++ [(0, 8, fsd_MO)]) = wc K ad1 zo_1 ++ [(q1, .inr (8, fsd_MO.map (cvo ad1)))] := wc_push (by decide +kernel) (by decide +kernel)
  rw [← e2] at hP hD
  have hz2 : zo_1 ++ [(0, 8, fsd_MO)] = zi_17 := cseq_of (by decide +kernel)
  rw [hz2] at hP hD
  generalize had : ex1 ad1 zo_1.length q1 = ad2 at hP hD
  have hq1 : ad2 539 = q1 := by rw [← had, hlen]; simp [ex1]
  have hq0 : ad2 0 = q0 := by rw [← had, hlen]; simp [ex1, ha0]
  have hfr : ∀ z, va_A (wc K ad2 zi_17) H2.size z → s.heap.size ≤ z := by
    intro z hz
    rcases hz with ⟨k, e', hk⟩ | hz
    · exact hD.2 k _ hk
    · exact Nat.le_trans hS.1 hz
  have hbl2 : FrameBlind (va_Pc (cvk ad2 [O 539]) (fun U => U.heap.size = H2.size ∧ va_P D classes (wc K ad2 zi_17) U.heap ∧ va_D (fun _ => True) (wc K ad2 zi_17) ∧ KD D K U)) := fun a U g mk h => by
    obtain ⟨z0, z1, z2, z3, z4⟩ := h
    exact ⟨z0, z1, z2, z3, KDsame z4 rfl (Vm.Alike.refl U.vm)⟩
  have hcb : CallB room_1 s #[Value.ref b] R_LW 12 (yM m_MO_init) (cM m_MO_init) (nM m_MO_init) none (WS m_MO_init) (RK m_MO_init 79 111908) 79 111908 0 := callB_of 0 htg (gt_ws m_MO_init 0 mk_MO_init) rfl rfl rfl (htg _ mk_MO_init.2.1) (htg _ (gt_at 1101 (by decide +kernel) rfl)) mk_MO_init.2.2 ⟨Nat.le_of_ble_eq_true rfl, Nat.le_of_ble_eq_true rfl⟩
  have hrun := va_runI (As := []) (rest := [.ref q1]) (g := F0 m 12 ls [.ref q1, .ref q1]) (b := q1) (nL := 4) (R := room_1) (e := e) (below := below) (meth := meth) (cells := 0 + 1 + 538 + 1) (slots := 0 + 17 + 82222 + 116) (H := H2) (locs := locs1) ⟨hx, hb, hml, hown, htg⟩ (kc_17 (L := l) (D := D) (K := K) ad2 H2.size) ⟨hcb, rfl, htg _ (gt_at 1102 (by decide +kernel) rfl)⟩ ⟨hbl2, fun U hU hW => ⟨by show _ = [Value.ref (ad2 539)].toArray; rw [hq1], by rw [hU], by rw [hU]; exact hP, hD.weaken (fun _ _ _ _ => trivial), hK.moved hW⟩⟩ rfl rfl hl.1 rfl (lv_room (Nat.le_of_ble_eq_true rfl)) (dc dl_0 6 rfl) ⟨by decide, by decide⟩
  refine va_callv hrun hS (fun z _ h => hfr z h) hfr (fun ad t H3 locs2 hth hvm hw hB _ _ hS => ?_)
  obtain ⟨b1, b2, b3⟩ := hB
  have hP : va_P D classes (wc K ad zo_17) H3 := by rw [← hth]; exact b1
  have hD : va_D (fun q : Nat => s.heap.size ≤ q) (wc K ad zo_17) := b2.weaken (fun k z _ h => hfr z.1 h)
  have hlen2 : zi_17.length = 540 := by decide +kernel
  have h00 : ad 0 = q0 := by rw [hw 0 (by rw [hlen2]; decide)]; exact hq0
  have h01 : ad 539 = q1 := by rw [hw 539 (by rw [hlen2]; decide)]; exact hq1
  refine lv_astore_n (lv' := [(2, .ref q1), (1, .ref q0), (0, .ref b)]) hx hb (dc dl_0 7 rfl) rfl hl (by decide) rfl (fun ls hl => ?_)
  refine lv_iconst (v := 0) hx hb (dc dl_0 8 rfl) (by decide) ?_
  refine lv_istore_n (lv' := [(3, .int 0), (2, .ref q1), (1, .ref q0), (0, .ref b)]) hx hb (dc dl_0 9 rfl) rfl hl (by decide) rfl (fun ls hl => ?_)
  have hPG : PG (GC l D K ad) σ0 H3 := born_PG hP
  obtain ⟨hinj, hAG⟩ := born_inj (L := l) (D := D) hD
  have hKG : KG (GC l D K ad) s := by
    refine ⟨hK.1, hinj, fun w hw => hK.2.1 w ?_⟩
    simp only [nestW, List.mem_cons, List.not_mem_nil, or_false] at hw
    rcases hw with rfl | rfl | rfl
    · exact List.mem_of_getElem? (i := 6) rfl
    · exact List.mem_of_getElem? (i := 7) rfl
    · exact List.mem_of_getElem? (i := 8) rfl
  have e00 : aG (GC l D K ad) 0 = q0 := h00
  have e01 : aG (GC l D K ad) 8 = q1 := h01
  refine W.widen (k := 619) (n := 194263) (by decide) (by decide) ?_
  exact law_loop (G := GC l D K ad) (xs := xs) hL (hA _) (L + 1) 0 σ0 h0 (by decide) (by omega) p e s m below meth c C0 hKG Rg0 hAG H3 locs2 ls hPG hS (lv_sub hl [3, 2, 1, 0] (by rw [e00, e01]; rfl))
