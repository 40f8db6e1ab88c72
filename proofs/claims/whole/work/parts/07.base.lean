def DT (c : ByteArray) (tb : List (Nat × Instr × Nat)) : Prop := ∀ q ∈ tb, decode c q.1 = .ok (q.2.1, q.2.2)
theorem dc {c : ByteArray} {tb : List (Nat × Instr × Nat)} (h : DT c tb) (i : Nat) {pc n : Nat} {x : Instr} (hi : tb[i]? = some (pc, x, n)) : decode c pc = .ok (x, n) := h (pc, x, n) (List.mem_of_getElem? hi)
theorem up2_at {f : Nat → Nat → Int} {k i : Nat} {v : Int} : up2 f k i v k i = v := if_pos ⟨rfl, rfl⟩
theorem b01_or {c : Prop} [Decidable c] : (if c then (1 : Int) else 0) = 0 ∨ (if c then (1 : Int) else 0) = 1 := by split <;> simp
theorem rng_cmp {x y : Int} : rng (if x < y then -1 else if x = y then 0 else 1) := by split <;> (try split) <;> exact ⟨by decide, by decide⟩
theorem r_ifc_lt {G : GT} {mi : MI} {pc q t : Nat} {l : List (Nat × AV)} {st : List AV} {σ : St} {P : Int → St → Prop} {off x y : Int} (hd : decode (cM mi) pc = .ok (.ifCond .lt off, 3)) (hq : pc + 3 = q) (ht : (pc : Int) + off = (t : Int)) (kt : x < y → A G mi t l st σ P) (kf : y ≤ x → A G mi q l st σ P) : A G mi pc l (I (if x < y then -1 else if x = y then 0 else 1) :: st) σ P :=
  r_if_lt hd hq ht rng_cmp (fun h => kt (by split at h <;> (try split at h) <;> omega)) (fun h => kf (by split at h <;> (try split at h) <;> omega))
theorem r_ifc_gt {G : GT} {mi : MI} {pc q t : Nat} {l : List (Nat × AV)} {st : List AV} {σ : St} {P : Int → St → Prop} {off x y : Int} (hd : decode (cM mi) pc = .ok (.ifCond .gt off, 3)) (hq : pc + 3 = q) (ht : (pc : Int) + off = (t : Int)) (kt : y < x → A G mi t l st σ P) (kf : x ≤ y → A G mi q l st σ P) : A G mi pc l (I (if x < y then -1 else if x = y then 0 else 1) :: st) σ P :=
  r_if_gt hd hq ht rng_cmp (fun h => kt (by split at h <;> (try split at h) <;> omega)) (fun h => kf (by split at h <;> (try split at h) <;> omega))
theorem r_lk {G : GT} {mi : MI} {pc t : Nat} {l : List (Nat × AV)} {st : List AV} {σ : St} {P : Int → St → Prop} {df x off : Int} {ps : Array (Int × Int)} {len : Nat} (hd : decode (cM mi) pc = .ok (.lookupswitch df ps, len)) (hx : rng x) (hp : (ps.toList.zip (ps.toList.drop 1)).all (fun (a, next) => a.1 < next.1) = true) (ho : Op.lookupswitch.offset ps.toList df x = off) (ht : (pc : Int) + off = (t : Int)) (kk : A G mi t l st σ P) : A G mi pc l (I x :: st) σ P := by
  intro p e s m args below meth c s₁ B hml hK hR H locs la hP hS hl
  exact lv_lookup B.exec B.bytes hd hp (by rw [oi_toInt hx]; exact ho) ht (kk p e s m args below meth c s₁ B hml hK hR H locs la hP hS hl)
theorem ite_iff {p q : Prop} [Decidable p] [Decidable q] (h : p ↔ q) : (if p then (1 : Int) else 0) = (if q then 1 else 0) := by
  by_cases z : p
  · rw [if_pos z, if_pos (h.mp z)]
  · rw [if_neg z, if_neg (fun w => z (h.mpr w))]
def isL (k : Nat) : Prop := k = 9 ∨ k = 28
def isB (k : Nat) : Prop := k = 10 ∨ k = 16 ∨ k = 29 ∨ k = 35
def isM (k : Nat) : Prop := k = 15 ∨ k = 34
theorem ly0 : lyt 0 = (0, 0) := rfl
theorem ly1 : lyt 1 = (0, 1) := rfl
theorem ly2 : lyt 2 = (0, 2) := rfl
theorem ly3 : lyt 3 = (0, 3) := rfl
theorem ly4 : lyt 4 = (0, 4) := rfl
theorem ly5 : lyt 5 = (0, 5) := rfl
theorem ly6 : lyt 6 = (0, 6) := rfl
theorem ly7 : lyt 7 = (0, 7) := rfl
theorem ly8 : lyt 8 = (0, 8) := rfl
theorem ly9 : lyt 9 = (0, 9) := rfl
theorem ly10 : lyt 10 = (0, 10) := rfl
theorem ly11 : lyt 11 = (1, 80) := rfl
theorem ly12 : lyt 12 = (1, 80) := rfl
theorem ly13 : lyt 13 = (1, 80) := rfl
theorem ly14 : lyt 14 = (1, 80) := rfl
theorem ly15 : lyt 15 = (0, 11) := rfl
theorem ly16 : lyt 16 = (0, 10) := rfl
theorem ly17 : lyt 17 = (1, 80) := rfl
theorem ly18 : lyt 18 = (1, 80) := rfl
theorem ly19 : lyt 19 = (1, 80) := rfl
theorem ly20 : lyt 20 = (1, 80) := rfl
theorem ly21 : lyt 21 = (1, 80) := rfl
theorem ly22 : lyt 22 = (1, 80) := rfl
theorem ly23 : lyt 23 = (1, 80) := rfl
theorem ly24 : lyt 24 = (1, 80) := rfl
theorem ly25 : lyt 25 = (1, 80) := rfl
theorem ly26 : lyt 26 = (1, 80) := rfl
theorem ly27 : lyt 27 = (1, 80) := rfl
theorem ly28 : lyt 28 = (0, 9) := rfl
theorem ly29 : lyt 29 = (0, 10) := rfl
theorem ly30 : lyt 30 = (1, 80) := rfl
theorem ly31 : lyt 31 = (1, 80) := rfl
theorem ly32 : lyt 32 = (1, 80) := rfl
theorem ly33 : lyt 33 = (1, 80) := rfl
theorem ly34 : lyt 34 = (0, 11) := rfl
theorem ly35 : lyt 35 = (0, 10) := rfl
theorem ly36 : lyt 36 = (1, 80) := rfl
theorem ly37 : lyt 37 = (1, 80) := rfl
theorem ly38 : lyt 38 = (1, 80) := rfl
theorem ly39 : lyt 39 = (1, 80) := rfl
theorem ly40 : lyt 40 = (1, 80) := rfl
theorem ly41 : lyt 41 = (1, 80) := rfl
theorem ly42 : lyt 42 = (1, 80) := rfl
theorem ly43 : lyt 43 = (1, 80) := rfl
theorem ly44 : lyt 44 = (1, 80) := rfl
theorem ly45 : lyt 45 = (1, 80) := rfl
theorem ly46 : lyt 46 = (1, 80) := rfl
theorem ly47 : lyt 47 = (1, 60) := rfl
theorem ly48 : lyt 48 = (1, 60) := rfl
theorem ly49 : lyt 49 = (1, 60) := rfl
theorem ly50 : lyt 50 = (2, 60) := rfl
theorem ly51 : lyt 51 = (1, 8) := rfl
theorem ly52 : lyt 52 = (3, 8) := rfl
theorem ly53 : lyt 53 = (2, 8) := rfl
theorem ly54 : lyt 54 = (3, 200) := rfl
theorem ly55 : lyt 55 = (1, 240) := rfl
theorem ly56 : lyt 56 = (1, 720) := rfl
theorem ly57 : lyt 57 = (1, 80) := rfl
theorem ly58 : lyt 58 = (1, 40) := rfl
theorem ly59 : lyt 59 = (1, 40) := rfl
theorem ly60 : lyt 60 = (1, 260) := rfl
theorem ly61 : lyt 61 = (1, 80) := rfl
theorem ly62 : lyt 62 = (1, 80) := rfl
theorem ly63 : lyt 63 = (1, 80) := rfl
theorem ly64 : lyt 64 = (1, 80) := rfl
theorem ly65 : lyt 65 = (2, 80) := rfl
theorem ly66 : lyt 66 = (1, 80) := rfl
theorem ly67 : lyt 67 = (1, 80) := rfl
theorem ly68 : lyt 68 = (1, 80) := rfl
theorem ly69 : lyt 69 = (2, 80) := rfl
theorem ly70 : lyt 70 = (2, 80) := rfl
theorem ly71 : lyt 71 = (1, 80) := rfl
theorem ly72 : lyt 72 = (1, 80) := rfl
theorem ly73 : lyt 73 = (1, 240) := rfl
theorem ly74 : lyt 74 = (3, 243) := rfl
theorem ly75 : lyt 75 = (1, 243) := rfl
theorem ly76 : lyt 76 = (1, 243) := rfl
theorem ly77 : lyt 77 = (1, 80) := rfl
theorem ly78 : lyt 78 = (1, 80) := rfl
theorem ly79 : lyt 79 = (1, 80) := rfl
theorem ly80 : lyt 80 = (1, 80) := rfl
theorem ly81 : lyt 81 = (1, 80) := rfl
theorem ly82 : lyt 82 = (1, 81) := rfl
theorem ly83 : lyt 83 = (1, 80) := rfl
theorem ly84 : lyt 84 = (1, 80) := rfl
theorem ly85 : lyt 85 = (1, 80) := rfl
theorem ly86 : lyt 86 = (1, 80) := rfl
theorem ly87 : lyt 87 = (1, 81) := rfl
theorem ly88 : lyt 88 = (1, 80) := rfl
theorem ly89 : lyt 89 = (1, 60) := rfl
theorem ly90 : lyt 90 = (1, 60) := rfl
theorem ly91 : lyt 91 = (1, 60) := rfl
theorem ly92 : lyt 92 = (1, 60) := rfl
theorem ly93 : lyt 93 = (2, 60) := rfl
theorem ly94 : lyt 94 = (2, 60) := rfl
theorem ly95 : lyt 95 = (1, 200) := rfl
theorem ly96 : lyt 96 = (1, 200) := rfl
theorem ly97 : lyt 97 = (1, 200) := rfl
theorem ly98 : lyt 98 = (1, 200) := rfl
theorem ly99 : lyt 99 = (1, 200) := rfl
theorem ly100 : lyt 100 = (1, 200) := rfl
theorem ly101 : lyt 101 = (1, 200) := rfl
theorem ly102 : lyt 102 = (1, 200) := rfl
theorem ly103 : lyt 103 = (1, 200) := rfl
theorem ly104 : lyt 104 = (1, 720) := rfl
theorem ly105 : lyt 105 = (1, 240) := rfl
theorem ly106 : lyt 106 = (1, 80) := rfl
theorem ly107 : lyt 107 = (2, 40) := rfl
theorem ly108 : lyt 108 = (1, 40) := rfl
theorem ly109 : lyt 109 = (1, 40) := rfl
theorem ly110 : lyt 110 = (1, 80) := rfl
theorem ly111 : lyt 111 = (1, 80) := rfl
theorem ly112 : lyt 112 = (1, 80) := rfl
theorem ly113 : lyt 113 = (1, 80) := rfl
theorem ly114 : lyt 114 = (1, 80) := rfl
theorem ly115 : lyt 115 = (1, 80) := rfl
theorem ly116 : lyt 116 = (2, 80) := rfl
theorem ly117 : lyt 117 = (1, 80) := rfl
theorem ly118 : lyt 118 = (1, 80) := rfl
theorem ly119 : lyt 119 = (1, 80) := rfl
theorem ly120 : lyt 120 = (1, 80) := rfl
theorem ly121 : lyt 121 = (2, 80) := rfl
theorem ly122 : lyt 122 = (2, 80) := rfl
theorem ly123 : lyt 123 = (1, 80) := rfl
theorem ly124 : lyt 124 = (1, 97524) := rfl
theorem ly125 : lyt 125 = (1, 80) := rfl
theorem ly126 : lyt 126 = (1, 80) := rfl
theorem ly127 : lyt 127 = (1, 80) := rfl
theorem ly128 : lyt 128 = (1, 80) := rfl
theorem ly129 : lyt 129 = (1, 80) := rfl
theorem ly130 : lyt 130 = (1, 80) := rfl
theorem ly131 : lyt 131 = (1, 80) := rfl
theorem ly132 : lyt 132 = (1, 80) := rfl
theorem ly133 : lyt 133 = (1, 80) := rfl
theorem ly134 : lyt 134 = (1, 80) := rfl
theorem ly135 : lyt 135 = (1, 80) := rfl
theorem ly136 : lyt 136 = (1, 80) := rfl
theorem ly137 : lyt 137 = (1, 80) := rfl
theorem ly138 : lyt 138 = (1, 80) := rfl
theorem ly139 : lyt 139 = (1, 80) := rfl
theorem ly140 : lyt 140 = (1, 80) := rfl
theorem ly141 : lyt 141 = (1, 80) := rfl
theorem ly142 : lyt 142 = (1, 80) := rfl
theorem ly143 : lyt 143 = (1, 80) := rfl
theorem ly144 : lyt 144 = (1, 80) := rfl
theorem ly145 : lyt 145 = (1, 80) := rfl
theorem ly146 : lyt 146 = (1, 80) := rfl
theorem ly147 : lyt 147 = (1, 80) := rfl
theorem ly148 : lyt 148 = (1, 80) := rfl
theorem ly149 : lyt 149 = (1, 80) := rfl
theorem ly150 : lyt 150 = (1, 80) := rfl
theorem ly151 : lyt 151 = (1, 80) := rfl
theorem ly152 : lyt 152 = (1, 80) := rfl
theorem ly153 : lyt 153 = (1, 260) := rfl
theorem ly154 : lyt 154 = (1, 6400) := rfl
theorem ly155 : lyt 155 = (1, 81) := rfl
theorem ly156 : lyt 156 = (1, 81) := rfl
theorem ly157 : lyt 157 = (1, 80) := rfl
theorem ly158 : lyt 158 = (1, 80) := rfl
theorem ly159 : lyt 159 = (1, 80) := rfl
theorem ly160 : lyt 160 = (1, 80) := rfl
theorem ly161 : lyt 161 = (1, 80) := rfl
theorem ly162 : lyt 162 = (2, 80) := rfl
theorem ly163 : lyt 163 = (1, 80) := rfl
theorem ly164 : lyt 164 = (1, 80) := rfl
theorem ly165 : lyt 165 = (1, 80) := rfl
theorem ly166 : lyt 166 = (1, 81) := rfl
theorem ly167 : lyt 167 = (1, 81) := rfl
theorem lyL_0 {k : Nat} (h : isL k) : lyt (k) = (0, 9) := by rcases h with rfl | rfl <;> rfl
theorem lyL_1 {k : Nat} (h : isL k) : lyt (k + 1) = (0, 10) := by rcases h with rfl | rfl <;> rfl
theorem lyL_2 {k : Nat} (h : isL k) : lyt (k + 2) = (1, 80) := by rcases h with rfl | rfl <;> rfl
theorem lyL_3 {k : Nat} (h : isL k) : lyt (k + 3) = (1, 80) := by rcases h with rfl | rfl <;> rfl
theorem lyL_4 {k : Nat} (h : isL k) : lyt (k + 4) = (1, 80) := by rcases h with rfl | rfl <;> rfl
theorem lyL_5 {k : Nat} (h : isL k) : lyt (k + 5) = (1, 80) := by rcases h with rfl | rfl <;> rfl
theorem lyL_6 {k : Nat} (h : isL k) : lyt (k + 6) = (0, 11) := by rcases h with rfl | rfl <;> rfl
theorem lyL_7 {k : Nat} (h : isL k) : lyt (k + 7) = (0, 10) := by rcases h with rfl | rfl <;> rfl
theorem lyL_8 {k : Nat} (h : isL k) : lyt (k + 8) = (1, 80) := by rcases h with rfl | rfl <;> rfl
theorem lyL_9 {k : Nat} (h : isL k) : lyt (k + 9) = (1, 80) := by rcases h with rfl | rfl <;> rfl
theorem lyL_10 {k : Nat} (h : isL k) : lyt (k + 10) = (1, 80) := by rcases h with rfl | rfl <;> rfl
theorem lyL_11 {k : Nat} (h : isL k) : lyt (k + 11) = (1, 80) := by rcases h with rfl | rfl <;> rfl
theorem lyL_12 {k : Nat} (h : isL k) : lyt (k + 12) = (1, 80) := by rcases h with rfl | rfl <;> rfl
theorem lyL_13 {k : Nat} (h : isL k) : lyt (k + 13) = (1, 80) := by rcases h with rfl | rfl <;> rfl
theorem lyL_14 {k : Nat} (h : isL k) : lyt (k + 14) = (1, 80) := by rcases h with rfl | rfl <;> rfl
theorem lyL_15 {k : Nat} (h : isL k) : lyt (k + 15) = (1, 80) := by rcases h with rfl | rfl <;> rfl
theorem lyL_16 {k : Nat} (h : isL k) : lyt (k + 16) = (1, 80) := by rcases h with rfl | rfl <;> rfl
theorem lyL_17 {k : Nat} (h : isL k) : lyt (k + 17) = (1, 80) := by rcases h with rfl | rfl <;> rfl
theorem lyL_18 {k : Nat} (h : isL k) : lyt (k + 18) = (1, 80) := by rcases h with rfl | rfl <;> rfl
theorem lyr_168 {i : Int} (h : 0 ≤ i ∧ i < 8) : lyt (168 + i.toNat) = (1, 3) := by
  unfold lyt
  rw [if_neg (by omega), if_pos (by omega)]
theorem lyr_176 {i : Int} (h : 0 ≤ i ∧ i < 200) : lyt (176 + i.toNat) = (1, 9) := by
  unfold lyt
  rw [if_neg (by omega), if_neg (by omega), if_pos (by omega)]
theorem lyr_376 {i : Int} (h : 0 ≤ i ∧ i < 243) : lyt (376 + i.toNat) = (1, 301) := by
  unfold lyt
  rw [if_neg (by omega), if_neg (by omega), if_neg (by omega), if_pos (by omega)]
