def prm : List Nat := [0, 1, 220, 224, 226, 240, 487, 495, 539, 501, 506, 507, 508, 509, 510, 511, 512, 513, 514, 515, 516, 517, 518, 519, 502, 503, 504, 505, 520, 525, 526, 527, 528, 529, 530, 531, 532, 533, 534, 535, 536, 537, 538, 521, 522, 523, 524, 2, 3, 4, 5, 6, 7, 16, 17, 218, 219, 221, 222, 223, 225, 227, 228, 229, 230, 231, 232, 233, 234, 235, 236, 237, 238, 239, 241, 485, 486, 488, 489, 490, 491, 492, 493, 494, 496, 497, 498, 499, 500, 540, 541, 542, 543, 544, 545, 546, 547, 548, 549, 550, 551, 552, 553, 554, 555, 556, 557, 558, 559, 560, 561, 562, 563, 564, 565, 566, 567, 568, 569, 570, 571, 572, 573, 574, 575, 576, 577, 578, 579, 580, 581, 582, 583, 584, 585, 586, 587, 588, 589, 590, 591, 592, 593, 594, 595, 596, 597, 598, 599, 600, 601, 602, 603, 604, 605, 606, 607, 608, 609, 610, 611, 612, 613, 614, 615, 616, 617, 618]
def prmI : List Nat := [0, 1, 47, 48, 49, 50, 51, 52, 168, 169, 170, 171, 172, 173, 174, 175, 53, 54, 176, 177, 178, 179, 180, 181, 182, 183, 184, 185, 186, 187, 188, 189, 190, 191, 192, 193, 194, 195, 196, 197, 198, 199, 200, 201, 202, 203, 204, 205, 206, 207, 208, 209, 210, 211, 212, 213, 214, 215, 216, 217, 218, 219, 220, 221, 222, 223, 224, 225, 226, 227, 228, 229, 230, 231, 232, 233, 234, 235, 236, 237, 238, 239, 240, 241, 242, 243, 244, 245, 246, 247, 248, 249, 250, 251, 252, 253, 254, 255, 256, 257, 258, 259, 260, 261, 262, 263, 264, 265, 266, 267, 268, 269, 270, 271, 272, 273, 274, 275, 276, 277, 278, 279, 280, 281, 282, 283, 284, 285, 286, 287, 288, 289, 290, 291, 292, 293, 294, 295, 296, 297, 298, 299, 300, 301, 302, 303, 304, 305, 306, 307, 308, 309, 310, 311, 312, 313, 314, 315, 316, 317, 318, 319, 320, 321, 322, 323, 324, 325, 326, 327, 328, 329, 330, 331, 332, 333, 334, 335, 336, 337, 338, 339, 340, 341, 342, 343, 344, 345, 346, 347, 348, 349, 350, 351, 352, 353, 354, 355, 356, 357, 358, 359, 360, 361, 362, 363, 364, 365, 366, 367, 368, 369, 370, 371, 372, 373, 374, 375, 55, 56, 2, 57, 58, 59, 3, 60, 4, 61, 62, 63, 64, 65, 66, 67, 68, 69, 70, 71, 72, 73, 5, 74, 376, 377, 378, 379, 380, 381, 382, 383, 384, 385, 386, 387, 388, 389, 390, 391, 392, 393, 394, 395, 396, 397, 398, 399, 400, 401, 402, 403, 404, 405, 406, 407, 408, 409, 410, 411, 412, 413, 414, 415, 416, 417, 418, 419, 420, 421, 422, 423, 424, 425, 426, 427, 428, 429, 430, 431, 432, 433, 434, 435, 436, 437, 438, 439, 440, 441, 442, 443, 444, 445, 446, 447, 448, 449, 450, 451, 452, 453, 454, 455, 456, 457, 458, 459, 460, 461, 462, 463, 464, 465, 466, 467, 468, 469, 470, 471, 472, 473, 474, 475, 476, 477, 478, 479, 480, 481, 482, 483, 484, 485, 486, 487, 488, 489, 490, 491, 492, 493, 494, 495, 496, 497, 498, 499, 500, 501, 502, 503, 504, 505, 506, 507, 508, 509, 510, 511, 512, 513, 514, 515, 516, 517, 518, 519, 520, 521, 522, 523, 524, 525, 526, 527, 528, 529, 530, 531, 532, 533, 534, 535, 536, 537, 538, 539, 540, 541, 542, 543, 544, 545, 546, 547, 548, 549, 550, 551, 552, 553, 554, 555, 556, 557, 558, 559, 560, 561, 562, 563, 564, 565, 566, 567, 568, 569, 570, 571, 572, 573, 574, 575, 576, 577, 578, 579, 580, 581, 582, 583, 584, 585, 586, 587, 588, 589, 590, 591, 592, 593, 594, 595, 596, 597, 598, 599, 600, 601, 602, 603, 604, 605, 606, 607, 608, 609, 610, 611, 612, 613, 614, 615, 616, 617, 618, 75, 76, 6, 77, 78, 79, 80, 81, 82, 83, 7, 84, 85, 86, 87, 88, 9, 24, 25, 26, 27, 10, 11, 12, 13, 14, 15, 16, 17, 18, 19, 20, 21, 22, 23, 28, 43, 44, 45, 46, 29, 30, 31, 32, 33, 34, 35, 36, 37, 38, 39, 40, 41, 42, 8, 89, 90, 91, 92, 93, 94, 95, 96, 97, 98, 99, 100, 101, 102, 103, 104, 105, 106, 107, 108, 109, 110, 111, 112, 113, 114, 115, 116, 117, 118, 119, 120, 121, 122, 123, 124, 125, 126, 127, 128, 129, 130, 131, 132, 133, 134, 135, 136, 137, 138, 139, 140, 141, 142, 143, 144, 145, 146, 147, 148, 149, 150, 151, 152, 153, 154, 155, 156, 157, 158, 159, 160, 161, 162, 163, 164, 165, 166, 167]
/-- the number in the order of making of a place -/
def pi (k : Nat) : Nat := if k < 168 then prm.getD k 0 else if k < 176 then 8 + (k - 168) else if k < 376 then 18 + (k - 176) else 242 + (k - 376)
/-- the picture behind the constructors -/
def σ0 : St := (fun _ _ => 0, fun k j => if k = 0 ∧ 10 ≤ j ∧ j ≤ 16 then -6 else 0, 9, 28)
def eA (k : Nat) : CE := match (lyt k).1 with
  | 0 => (0, (lyt k).2, (List.range (nfc (lyt k).2)).map (fun j => match rfo (lyt k).2 k j σ0 with
    | some q => some (O (pi q))
    | none => some (I (σ0.2.1 k j))))
  | 1 => (1, (lyt k).2, [])
  | 2 => (2, (lyt k).2, [])
  | _ => (3, (lyt k).2, [some (O (pi (rwb k)))])
theorem eA_ok : (List.range NP).all (fun k => ceq (gd zo_17 (pi k)) (eA k) && Nat.blt (pi k) zo_17.length) = true := by decide +kernel
theorem pi_inj : (List.range NP).all (fun k => decide (prmI.getD (pi k) 0 = k)) = true := by decide +kernel
theorem rows_of {k i n : Nat} (h : lyt k = (3, n)) (hi : i < n) : pi (rwb k + i) = pi (rwb k) + i := by
  have hk : k = 52 ∨ k = 54 ∨ k = 74 := by
    have hl : k < 168 := by
      rcases Nat.lt_or_ge k 168 with q | q
      · exact q
      · exfalso
        unfold lyt at h
        rw [if_neg (by omega)] at h
        repeat' split at h
        all_goals cases h
    have hall : ∀ i, i < 168 → (lyt i).1 = 3 → (i = 52 ∨ i = 54 ∨ i = 74) := by decide +kernel
    exact hall k hl (by rw [h])
  rcases hk with rfl | rfl | rfl
  · have e : n = 8 := (congrArg Prod.snd (h.symm.trans ly52))
    subst e
    show pi (168 + i) = pi 168 + i
    unfold pi
    rw [if_neg (by omega), if_pos (by omega), if_neg (by omega), if_pos (by omega)]
    omega
  · have e : n = 200 := (congrArg Prod.snd (h.symm.trans ly54))
    subst e
    show pi (176 + i) = pi 176 + i
    unfold pi
    rw [if_neg (by omega), if_neg (by omega), if_pos (by omega), if_neg (by omega), if_neg (by omega), if_pos (by omega)]
    omega
  · have e : n = 243 := (congrArg Prod.snd (h.symm.trans ly74))
    subst e
    show pi (376 + i) = pi 376 + i
    unfold pi
    rw [if_neg (by omega), if_neg (by omega), if_neg (by omega), if_neg (by omega), if_neg (by omega), if_neg (by omega)]
    omega
abbrev GC (L : Launch) (D : va_G) (K : K3) (ad : Nat → Nat) : GT := (L, D, fun k => ad (pi k), K.1, K.2.1, K.2.2)
theorem ent_eA {L : Launch} {D : va_G} {K : K3} {ad : Nat → Nat} {k : Nat} (hk : k < NP) : ent (GC L D K ad) σ0 k = ce K ad (eA k) := by
  obtain ⟨a, n, h⟩ : ∃ a n, lyt k = (a, n) := ⟨_, _, rfl⟩
  match a, h with
  | 0, h =>
    rw [ent_o h]
    unfold eA ce
    rw [h]
    show Sum.inr (n, _) = Sum.inr (n, List.map (cvo ad) (List.map _ _))
    rw [List.map_map]
    congr 2
    apply List.map_congr_left
    intro j _
    show fv _ σ0 n k j = cvo ad _
    unfold fv
    cases hr : rfo n k j σ0 with
    | none => first | (rw [hr]; rfl) | (simp only [hr]; rfl) | rw [hr]
    | some q => first | (rw [hr]; rfl) | (simp only [hr]; rfl) | rw [hr]
  | 1, h =>
    rw [ent_i h]
    unfold eA ce
    rw [h]
    rfl
  | 2, h =>
    rw [ent_z h]
    unfold eA ce
    rw [h]
    rfl
  | 3, h =>
    have e3 : eA k = (3, n, [some (O (pi (rwb k)))]) := by
      unfold eA
      rw [h]
      rfl
    rw [ent_r h, e3]
    show Sum.inl (K.2.2, n, _) = Sum.inl (K.2.2, n, Sum.inr (Sum.inr (Sum.inr (Sum.inr (fun i => if i < n then some (ad (pi (rwb k) + i)) else none)))))
    congr 7
    funext i
    by_cases hi : i < n
    · rw [if_pos hi, if_pos hi]
      show some (ad (pi (rwb k + i))) = some (ad (pi (rwb k) + i))
      rw [rows_of h hi]
    · rw [if_neg hi, if_neg hi]
  | a + 4, h =>
    exfalso
    have hall : ∀ i, i < NP → (lyt i).1 < 4 := by decide +kernel
    have := hall k hk
    rw [h] at this
    have : a + 4 < 4 := this
    omega
theorem pi_lt {k : Nat} (hk : k < NP) : pi k < zo_17.length := by
  have := List.all_eq_true.mp eA_ok k (List.mem_range.mpr hk)
  rw [Bool.and_eq_true] at this
  exact Nat.blt_eq.mp this.2
theorem born_PG {L : Launch} {D : va_G} {K : K3} {ad : Nat → Nat} {H : Heap} (hP : va_P D classes (wc K ad zo_17) H) : PG (GC L D K ad) σ0 H := by
  intro k q hq
  obtain ⟨hk, rfl⟩ := wG_inv hq
  have h1 := List.all_eq_true.mp eA_ok k (List.mem_range.mpr hk)
  rw [Bool.and_eq_true] at h1
  have hl := pi_lt hk
  have hx : zo_17[pi k]? = some (eA k) := by
    rw [List.getElem?_eq_getElem hl]
    have : gd zo_17 (pi k) = zo_17[pi k] := by unfold gd; rw [List.getD_eq_getElem?_getD, List.getElem?_eq_getElem hl]; rfl
    rw [← this, ceq_of h1.1]
  have := hP (pi k) _ (wc_at hx)
  rw [← ent_eA (L := L) (D := D) hk] at this
  exact this
theorem born_inj {L : Launch} {D : va_G} {K : K3} {ad : Nat → Nat} {A : Nat → Prop} (hD : va_D A (wc K ad zo_17)) : (∀ i j, i < NP → j < NP → aG (GC L D K ad) i = aG (GC L D K ad) j → i = j) ∧ ∀ q, AG (GC L D K ad) q → A q := by
  have hat : ∀ k, k < NP → ∃ e, (wc K ad zo_17)[pi k]? = some (ad (pi k), e) := fun k hk => ⟨_, wc_at (List.getElem?_eq_getElem (pi_lt hk))⟩
  have hinv : ∀ k, k < NP → prmI.getD (pi k) 0 = k := fun k hk => of_decide_eq_true (List.all_eq_true.mp pi_inj k (List.mem_range.mpr hk))
  refine ⟨fun i j hi hj e => ?_, fun q hq => ?_⟩
  · obtain ⟨a, ha⟩ := hat i hi
    obtain ⟨b, hb⟩ := hat j hj
    have := hD.1 (pi i) (pi j) _ _ ha hb e
    rw [← hinv i hi, ← hinv j hj, this]
  · obtain ⟨k, hk, rfl⟩ := hq
    obtain ⟨a, ha⟩ := hat k hk
    exact hD.2 _ _ ha
theorem Rg0 : Rg σ0 := ⟨fun _ _ => (⟨by decide, by decide⟩ : rng 0), fun k j => by
  show rng (if k = 0 ∧ _ then -6 else 0)
  split <;> exact ⟨by decide, by decide⟩⟩
