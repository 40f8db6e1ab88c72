/-! THE CLAIM OUT OF ONE WALK OF THE LAW'S BODY. Your part is whole_start (and what it stands on); all else here is the same for every law, but numbers. -/
def R_law : String := "JoinSetterLaw"
def lw_P (b : Addr) (xs : List Int32) (args : Array Value) (s : State) : Prop := args = #[.ref b] ∧ s.IntsAt b xs ∧ xs.length ≤ 3584 ∧ (Jvm.Cond.and given_1 narrow_1).before args s = true
def lw_Q (_ : Array Value) (s : State) (o : Outcome) (t : State) : Prop := o = .returned (some (.int 1)) ∧ Framed s o t [] 600000 7302250
def lw_Z (below : List Frame) (a : Array Value) (s : State) : State → Prop := fun t => ∃ o, t.status = .running ∧ Ended t below o ∧ lw_Q a s o t
/-- the law's own end, with 1 on the stack, nothing written that was there before, its room as the claim has it -/
theorem lw_ret {p : Program} {l : Launch} {e : Env} {s : State} {m : MethodId} {below : List Frame} {meth : Method} {c : Code} {b : Nat} (hx : p.tables.exec = Jvm.exec) (hb : c.code = code) (hr : meth.sig.returnType = ret) (hlocks : meth.locks = false) {pc : Nat} {H : Heap} {ls : Array Slot} (hdg : decode code pc = .ok (.ireturn, 1)) : W p l e room_1 s m #[Value.ref b] below meth c H [] 600000 7302250 (lw_Z below #[Value.ref b] s) (F0 m pc ls [.int 1]) := by
  intro T hT X
  obtain ⟨fs, hret, hrun, hended, hW, hframe⟩ := X.leave (v := some (.int 1)) (hlocks := hlocks) (fun h => by rw [hr] at h; cases h)
  have hmeth' : T.vm.method? m = some meth := X.method'
  refine ⟨T.setFrames fs, ?_, .returned (some (.int 1)), hrun, hended, rfl, ⟨_, rfl⟩, hW, hframe⟩
  jvm_step X.here [X.here.top, hx, hb, hdg, hmeth', hr, ret, narrow_b1]
  (try refine ⟨rfl, ?_⟩); (try refine ⟨rfl, ?_⟩)
  first | (intro acts; rw [hret _ acts rfl rfl rfl]) | rw [hret _ _ rfl rfl rfl]
  exact Steps.refl _
/-- what holds at the law's entry: the machine, the code, the tables' words (any of lw_tbl by 'hts w (by decide +kernel)'), the script of L ints xs at the cell b, what the Statement gives of the start (any of its parts by flat_of_before) -/
def lw_At (p : Program) (s : State) (m : MethodId) (meth : Method) (c : Code) (b L : Nat) (xs : Nat → Int32) : Prop :=
  p.tables.exec = Jvm.exec ∧ c.code = code ∧ meth.sig.returnType = ret ∧ c.maxLocals = 4 ∧ s.vm.findClass R_law = some m.cls ∧ (∀ w ∈ lw_tbl, w.before #[Value.ref b] s = true) ∧ va_X b L xs s s.heap ∧ b < s.heap.size ∧ meth.locks = false ∧ (Jvm.Cond.and given_1 narrow_1).before #[Value.ref b] s = true

def tl_0 : List (Nat × Instr × Nat) := [(0, .new 7, 3), (3, .dup, 1), (4, .invokespecial 9, 3), (7, .astore_n 1, 1), (8, .new 10, 3), (11, .dup, 1), (12, .invokespecial 12, 3), (15, .astore_n 2, 1), (16, .iconst 0, 1), (17, .istore_n 3, 1), (18, .iload_n 3, 1), (19, .aload_n 0, 1), (20, .arraylength, 1), (21, .bipush 7, 2), (23, .isub, 1), (24, .if_icmp .gt 1128, 3), (27, .aload_n 0, 1), (28, .iload_n 3, 1), (29, .iaload, 1), (30, .bipush 31, 2), (32, .iand, 1), (33, .tableswitch 1113 0 31 #[143, 166, 235, 310, 353, 386, 435, 468, 491, 524, 547, 560, 583, 616, 629, 672, 695, 728, 751, 784, 817, 840, 863, 886, 909, 922, 955, 978, 1011, 1034, 1057, 1090], 143), (176, .aload_n 1, 1), (177, .aload_n 0, 1), (178, .iload_n 3, 1), (179, .iconst 1, 1), (180, .iadd, 1), (181, .iaload, 1), (182, .invokevirtual 13, 3), (185, .aload_n 2, 1), (186, .aload_n 0, 1), (187, .iload_n 3, 1), (188, .iconst 1, 1), (189, .iadd, 1), (190, .iaload, 1), (191, .invokevirtual 17, 3), (194, .if_icmp .eq 952, 3), (197, .iconst 0, 1), (198, .ireturn, 1), (199, .aload_n 1, 1), (200, .aload_n 0, 1), (201, .iload_n 3, 1), (202, .iconst 1, 1), (203, .iadd, 1), (204, .iaload, 1), (205, .aload_n 0, 1), (206, .iload_n 3, 1), (207, .iconst 2, 1), (208, .iadd, 1), (209, .iaload, 1)]
theorem dl_0 : DT code tl_0 := by unfold DT; decide +kernel
def tl_1 : List (Nat × Instr × Nat) := [(210, .aload_n 0, 1), (211, .iload_n 3, 1), (212, .iconst 3, 1), (213, .iadd, 1), (214, .iaload, 1), (215, .aload_n 0, 1), (216, .iload_n 3, 1), (217, .iconst 4, 1), (218, .iadd, 1), (219, .iaload, 1), (220, .ifCond .eq 7, 3), (223, .iconst 1, 1), (224, .goto 4, 3), (227, .iconst 0, 1), (228, .invokevirtual 18, 3), (231, .aload_n 2, 1), (232, .aload_n 0, 1), (233, .iload_n 3, 1), (234, .iconst 1, 1), (235, .iadd, 1), (236, .iaload, 1), (237, .aload_n 0, 1), (238, .iload_n 3, 1), (239, .iconst 2, 1), (240, .iadd, 1), (241, .iaload, 1), (242, .aload_n 0, 1), (243, .iload_n 3, 1), (244, .iconst 3, 1), (245, .iadd, 1), (246, .iaload, 1), (247, .aload_n 0, 1), (248, .iload_n 3, 1), (249, .iconst 4, 1), (250, .iadd, 1), (251, .iaload, 1), (252, .ifCond .eq 7, 3), (255, .iconst 1, 1), (256, .goto 4, 3), (259, .iconst 0, 1), (260, .invokevirtual 22, 3), (263, .if_icmp .eq 883, 3), (266, .iconst 0, 1), (267, .ireturn, 1), (268, .aload_n 1, 1), (269, .aload_n 0, 1), (270, .iload_n 3, 1), (271, .iconst 1, 1), (272, .iadd, 1), (273, .iaload, 1)]
theorem dl_1 : DT code tl_1 := by unfold DT; decide +kernel
def tl_2 : List (Nat × Instr × Nat) := [(274, .aload_n 0, 1), (275, .iload_n 3, 1), (276, .iconst 2, 1), (277, .iadd, 1), (278, .iaload, 1), (279, .aload_n 0, 1), (280, .iload_n 3, 1), (281, .iconst 3, 1), (282, .iadd, 1), (283, .iaload, 1), (284, .aload_n 0, 1), (285, .iload_n 3, 1), (286, .iconst 4, 1), (287, .iadd, 1), (288, .iaload, 1), (289, .aload_n 0, 1), (290, .iload_n 3, 1), (291, .iconst 5, 1), (292, .iadd, 1), (293, .iaload, 1), (294, .aload_n 0, 1), (295, .iload_n 3, 1), (296, .bipush 6, 2), (298, .iadd, 1), (299, .iaload, 1), (300, .invokevirtual 23, 3), (303, .aload_n 2, 1), (304, .aload_n 0, 1), (305, .iload_n 3, 1), (306, .iconst 1, 1), (307, .iadd, 1), (308, .iaload, 1), (309, .aload_n 0, 1), (310, .iload_n 3, 1), (311, .iconst 2, 1), (312, .iadd, 1), (313, .iaload, 1), (314, .aload_n 0, 1), (315, .iload_n 3, 1), (316, .iconst 3, 1), (317, .iadd, 1), (318, .iaload, 1), (319, .aload_n 0, 1), (320, .iload_n 3, 1), (321, .iconst 4, 1), (322, .iadd, 1), (323, .iaload, 1), (324, .aload_n 0, 1), (325, .iload_n 3, 1), (326, .iconst 5, 1)]
theorem dl_2 : DT code tl_2 := by unfold DT; decide +kernel
def tl_3 : List (Nat × Instr × Nat) := [(327, .iadd, 1), (328, .iaload, 1), (329, .aload_n 0, 1), (330, .iload_n 3, 1), (331, .bipush 6, 2), (333, .iadd, 1), (334, .iaload, 1), (335, .invokevirtual 27, 3), (338, .if_icmp .eq 808, 3), (341, .iconst 0, 1), (342, .ireturn, 1), (343, .aload_n 1, 1), (344, .aload_n 0, 1), (345, .iload_n 3, 1), (346, .iconst 1, 1), (347, .iadd, 1), (348, .iaload, 1), (349, .aload_n 0, 1), (350, .iload_n 3, 1), (351, .iconst 2, 1), (352, .iadd, 1), (353, .iaload, 1), (354, .aload_n 0, 1), (355, .iload_n 3, 1), (356, .iconst 3, 1), (357, .iadd, 1), (358, .iaload, 1), (359, .invokevirtual 28, 3), (362, .aload_n 2, 1), (363, .aload_n 0, 1), (364, .iload_n 3, 1), (365, .iconst 1, 1), (366, .iadd, 1), (367, .iaload, 1), (368, .aload_n 0, 1), (369, .iload_n 3, 1), (370, .iconst 2, 1), (371, .iadd, 1), (372, .iaload, 1), (373, .aload_n 0, 1), (374, .iload_n 3, 1), (375, .iconst 3, 1), (376, .iadd, 1), (377, .iaload, 1), (378, .invokevirtual 32, 3), (381, .if_icmp .eq 765, 3), (384, .iconst 0, 1), (385, .ireturn, 1), (386, .aload_n 1, 1), (387, .aload_n 0, 1)]
theorem dl_3 : DT code tl_3 := by unfold DT; decide +kernel
def tl_4 : List (Nat × Instr × Nat) := [(388, .iload_n 3, 1), (389, .iconst 1, 1), (390, .iadd, 1), (391, .iaload, 1), (392, .aload_n 0, 1), (393, .iload_n 3, 1), (394, .iconst 2, 1), (395, .iadd, 1), (396, .iaload, 1), (397, .invokevirtual 33, 3), (400, .aload_n 2, 1), (401, .aload_n 0, 1), (402, .iload_n 3, 1), (403, .iconst 1, 1), (404, .iadd, 1), (405, .iaload, 1), (406, .aload_n 0, 1), (407, .iload_n 3, 1), (408, .iconst 2, 1), (409, .iadd, 1), (410, .iaload, 1), (411, .invokevirtual 37, 3), (414, .if_icmp .eq 732, 3), (417, .iconst 0, 1), (418, .ireturn, 1), (419, .aload_n 1, 1), (420, .aload_n 0, 1), (421, .iload_n 3, 1), (422, .iconst 1, 1), (423, .iadd, 1), (424, .iaload, 1), (425, .aload_n 0, 1), (426, .iload_n 3, 1), (427, .iconst 2, 1), (428, .iadd, 1), (429, .iaload, 1), (430, .ifCond .eq 7, 3), (433, .iconst 1, 1), (434, .goto 4, 3), (437, .iconst 0, 1), (438, .invokevirtual 38, 3), (441, .aload_n 2, 1), (442, .aload_n 0, 1), (443, .iload_n 3, 1), (444, .iconst 1, 1), (445, .iadd, 1), (446, .iaload, 1), (447, .aload_n 0, 1), (448, .iload_n 3, 1), (449, .iconst 2, 1)]
theorem dl_4 : DT code tl_4 := by unfold DT; decide +kernel
def tl_5 : List (Nat × Instr × Nat) := [(450, .iadd, 1), (451, .iaload, 1), (452, .ifCond .eq 7, 3), (455, .iconst 1, 1), (456, .goto 4, 3), (459, .iconst 0, 1), (460, .invokevirtual 42, 3), (463, .if_icmp .eq 683, 3), (466, .iconst 0, 1), (467, .ireturn, 1), (468, .aload_n 1, 1), (469, .aload_n 0, 1), (470, .iload_n 3, 1), (471, .iconst 1, 1), (472, .iadd, 1), (473, .iaload, 1), (474, .aload_n 0, 1), (475, .iload_n 3, 1), (476, .iconst 2, 1), (477, .iadd, 1), (478, .iaload, 1), (479, .invokevirtual 43, 3), (482, .aload_n 2, 1), (483, .aload_n 0, 1), (484, .iload_n 3, 1), (485, .iconst 1, 1), (486, .iadd, 1), (487, .iaload, 1), (488, .aload_n 0, 1), (489, .iload_n 3, 1), (490, .iconst 2, 1), (491, .iadd, 1), (492, .iaload, 1), (493, .invokevirtual 46, 3), (496, .if_icmp .eq 650, 3), (499, .iconst 0, 1), (500, .ireturn, 1), (501, .aload_n 1, 1), (502, .aload_n 0, 1), (503, .iload_n 3, 1), (504, .iconst 1, 1), (505, .iadd, 1), (506, .iaload, 1), (507, .invokevirtual 47, 3), (510, .aload_n 2, 1), (511, .aload_n 0, 1), (512, .iload_n 3, 1), (513, .iconst 1, 1), (514, .iadd, 1), (515, .iaload, 1)]
theorem dl_5 : DT code tl_5 := by unfold DT; decide +kernel
def tl_6 : List (Nat × Instr × Nat) := [(516, .invokevirtual 50, 3), (519, .if_icmp .eq 627, 3), (522, .iconst 0, 1), (523, .ireturn, 1), (524, .aload_n 1, 1), (525, .aload_n 0, 1), (526, .iload_n 3, 1), (527, .iconst 1, 1), (528, .iadd, 1), (529, .iaload, 1), (530, .aload_n 0, 1), (531, .iload_n 3, 1), (532, .iconst 2, 1), (533, .iadd, 1), (534, .iaload, 1), (535, .invokevirtual 51, 3), (538, .aload_n 2, 1), (539, .aload_n 0, 1), (540, .iload_n 3, 1), (541, .iconst 1, 1), (542, .iadd, 1), (543, .iaload, 1), (544, .aload_n 0, 1), (545, .iload_n 3, 1), (546, .iconst 2, 1), (547, .iadd, 1), (548, .iaload, 1), (549, .invokevirtual 54, 3), (552, .if_icmp .eq 594, 3), (555, .iconst 0, 1), (556, .ireturn, 1), (557, .aload_n 1, 1), (558, .aload_n 0, 1), (559, .iload_n 3, 1), (560, .iconst 1, 1), (561, .iadd, 1), (562, .iaload, 1), (563, .invokevirtual 55, 3), (566, .aload_n 2, 1), (567, .aload_n 0, 1), (568, .iload_n 3, 1), (569, .iconst 1, 1), (570, .iadd, 1), (571, .iaload, 1), (572, .invokevirtual 58, 3), (575, .if_icmp .eq 571, 3), (578, .iconst 0, 1), (579, .ireturn, 1), (580, .aload_n 1, 1), (581, .invokevirtual 59, 3)]
theorem dl_6 : DT code tl_6 := by unfold DT; decide +kernel
def tl_7 : List (Nat × Instr × Nat) := [(584, .aload_n 2, 1), (585, .invokevirtual 63, 3), (588, .if_icmp .eq 558, 3), (591, .iconst 0, 1), (592, .ireturn, 1), (593, .aload_n 1, 1), (594, .aload_n 0, 1), (595, .iload_n 3, 1), (596, .iconst 1, 1), (597, .iadd, 1), (598, .iaload, 1), (599, .invokevirtual 64, 3), (602, .aload_n 2, 1), (603, .aload_n 0, 1), (604, .iload_n 3, 1), (605, .iconst 1, 1), (606, .iadd, 1), (607, .iaload, 1), (608, .invokevirtual 67, 3), (611, .if_icmp .eq 535, 3), (614, .iconst 0, 1), (615, .ireturn, 1), (616, .aload_n 1, 1), (617, .aload_n 0, 1), (618, .iload_n 3, 1), (619, .iconst 1, 1), (620, .iadd, 1), (621, .iaload, 1), (622, .aload_n 0, 1), (623, .iload_n 3, 1), (624, .iconst 2, 1), (625, .iadd, 1), (626, .iaload, 1), (627, .invokevirtual 68, 3), (630, .aload_n 2, 1), (631, .aload_n 0, 1), (632, .iload_n 3, 1), (633, .iconst 1, 1), (634, .iadd, 1), (635, .iaload, 1), (636, .aload_n 0, 1), (637, .iload_n 3, 1), (638, .iconst 2, 1), (639, .iadd, 1), (640, .iaload, 1), (641, .invokevirtual 71, 3), (644, .if_icmp .eq 502, 3), (647, .iconst 0, 1), (648, .ireturn, 1), (649, .aload_n 1, 1)]
theorem dl_7 : DT code tl_7 := by unfold DT; decide +kernel
def tl_8 : List (Nat × Instr × Nat) := [(650, .invokevirtual 72, 3), (653, .aload_n 2, 1), (654, .invokevirtual 75, 3), (657, .if_icmp .eq 489, 3), (660, .iconst 0, 1), (661, .ireturn, 1), (662, .aload_n 1, 1), (663, .aload_n 0, 1), (664, .iload_n 3, 1), (665, .iconst 1, 1), (666, .iadd, 1), (667, .iaload, 1), (668, .aload_n 0, 1), (669, .iload_n 3, 1), (670, .iconst 2, 1), (671, .iadd, 1), (672, .iaload, 1), (673, .aload_n 0, 1), (674, .iload_n 3, 1), (675, .iconst 3, 1), (676, .iadd, 1), (677, .iaload, 1), (678, .invokevirtual 76, 3), (681, .aload_n 2, 1), (682, .aload_n 0, 1), (683, .iload_n 3, 1), (684, .iconst 1, 1), (685, .iadd, 1), (686, .iaload, 1), (687, .aload_n 0, 1), (688, .iload_n 3, 1), (689, .iconst 2, 1), (690, .iadd, 1), (691, .iaload, 1), (692, .aload_n 0, 1), (693, .iload_n 3, 1), (694, .iconst 3, 1), (695, .iadd, 1), (696, .iaload, 1), (697, .invokevirtual 79, 3), (700, .if_icmp .eq 446, 3), (703, .iconst 0, 1), (704, .ireturn, 1), (705, .aload_n 1, 1), (706, .aload_n 0, 1), (707, .iload_n 3, 1), (708, .iconst 1, 1), (709, .iadd, 1), (710, .iaload, 1), (711, .invokevirtual 80, 3)]
theorem dl_8 : DT code tl_8 := by unfold DT; decide +kernel
def tl_9 : List (Nat × Instr × Nat) := [(714, .aload_n 2, 1), (715, .aload_n 0, 1), (716, .iload_n 3, 1), (717, .iconst 1, 1), (718, .iadd, 1), (719, .iaload, 1), (720, .invokevirtual 83, 3), (723, .if_icmp .eq 423, 3), (726, .iconst 0, 1), (727, .ireturn, 1), (728, .aload_n 1, 1), (729, .aload_n 0, 1), (730, .iload_n 3, 1), (731, .iconst 1, 1), (732, .iadd, 1), (733, .iaload, 1), (734, .aload_n 0, 1), (735, .iload_n 3, 1), (736, .iconst 2, 1), (737, .iadd, 1), (738, .iaload, 1), (739, .invokevirtual 84, 3), (742, .aload_n 2, 1), (743, .aload_n 0, 1), (744, .iload_n 3, 1), (745, .iconst 1, 1), (746, .iadd, 1), (747, .iaload, 1), (748, .aload_n 0, 1), (749, .iload_n 3, 1), (750, .iconst 2, 1), (751, .iadd, 1), (752, .iaload, 1), (753, .invokevirtual 87, 3), (756, .if_icmp .eq 390, 3), (759, .iconst 0, 1), (760, .ireturn, 1), (761, .aload_n 1, 1), (762, .aload_n 0, 1), (763, .iload_n 3, 1), (764, .iconst 1, 1), (765, .iadd, 1), (766, .iaload, 1), (767, .invokevirtual 88, 3), (770, .aload_n 2, 1), (771, .aload_n 0, 1), (772, .iload_n 3, 1), (773, .iconst 1, 1), (774, .iadd, 1), (775, .iaload, 1)]
theorem dl_9 : DT code tl_9 := by unfold DT; decide +kernel
def tl_10 : List (Nat × Instr × Nat) := [(776, .invokevirtual 91, 3), (779, .if_icmp .eq 367, 3), (782, .iconst 0, 1), (783, .ireturn, 1), (784, .aload_n 1, 1), (785, .aload_n 0, 1), (786, .iload_n 3, 1), (787, .iconst 1, 1), (788, .iadd, 1), (789, .iaload, 1), (790, .aload_n 0, 1), (791, .iload_n 3, 1), (792, .iconst 2, 1), (793, .iadd, 1), (794, .iaload, 1), (795, .invokevirtual 92, 3), (798, .aload_n 2, 1), (799, .aload_n 0, 1), (800, .iload_n 3, 1), (801, .iconst 1, 1), (802, .iadd, 1), (803, .iaload, 1), (804, .aload_n 0, 1), (805, .iload_n 3, 1), (806, .iconst 2, 1), (807, .iadd, 1), (808, .iaload, 1), (809, .invokevirtual 95, 3), (812, .if_icmp .eq 334, 3), (815, .iconst 0, 1), (816, .ireturn, 1), (817, .aload_n 1, 1), (818, .aload_n 0, 1), (819, .iload_n 3, 1), (820, .iconst 1, 1), (821, .iadd, 1), (822, .iaload, 1), (823, .aload_n 0, 1), (824, .iload_n 3, 1), (825, .iconst 2, 1), (826, .iadd, 1), (827, .iaload, 1), (828, .invokevirtual 96, 3), (831, .aload_n 2, 1), (832, .aload_n 0, 1), (833, .iload_n 3, 1), (834, .iconst 1, 1), (835, .iadd, 1), (836, .iaload, 1), (837, .aload_n 0, 1)]
theorem dl_10 : DT code tl_10 := by unfold DT; decide +kernel
def tl_11 : List (Nat × Instr × Nat) := [(838, .iload_n 3, 1), (839, .iconst 2, 1), (840, .iadd, 1), (841, .iaload, 1), (842, .invokevirtual 99, 3), (845, .if_icmp .eq 301, 3), (848, .iconst 0, 1), (849, .ireturn, 1), (850, .aload_n 1, 1), (851, .aload_n 0, 1), (852, .iload_n 3, 1), (853, .iconst 1, 1), (854, .iadd, 1), (855, .iaload, 1), (856, .invokevirtual 100, 3), (859, .aload_n 2, 1), (860, .aload_n 0, 1), (861, .iload_n 3, 1), (862, .iconst 1, 1), (863, .iadd, 1), (864, .iaload, 1), (865, .invokevirtual 103, 3), (868, .if_icmp .eq 278, 3), (871, .iconst 0, 1), (872, .ireturn, 1), (873, .aload_n 1, 1), (874, .aload_n 0, 1), (875, .iload_n 3, 1), (876, .iconst 1, 1), (877, .iadd, 1), (878, .iaload, 1), (879, .invokevirtual 104, 3), (882, .aload_n 2, 1), (883, .aload_n 0, 1), (884, .iload_n 3, 1), (885, .iconst 1, 1), (886, .iadd, 1), (887, .iaload, 1), (888, .invokevirtual 107, 3), (891, .if_icmp .eq 255, 3), (894, .iconst 0, 1), (895, .ireturn, 1), (896, .aload_n 1, 1), (897, .aload_n 0, 1), (898, .iload_n 3, 1), (899, .iconst 1, 1), (900, .iadd, 1), (901, .iaload, 1), (902, .invokevirtual 108, 3), (905, .aload_n 2, 1)]
theorem dl_11 : DT code tl_11 := by unfold DT; decide +kernel
def tl_12 : List (Nat × Instr × Nat) := [(906, .aload_n 0, 1), (907, .iload_n 3, 1), (908, .iconst 1, 1), (909, .iadd, 1), (910, .iaload, 1), (911, .invokevirtual 111, 3), (914, .if_icmp .eq 232, 3), (917, .iconst 0, 1), (918, .ireturn, 1), (919, .aload_n 1, 1), (920, .aload_n 0, 1), (921, .iload_n 3, 1), (922, .iconst 1, 1), (923, .iadd, 1), (924, .iaload, 1), (925, .invokevirtual 112, 3), (928, .aload_n 2, 1), (929, .aload_n 0, 1), (930, .iload_n 3, 1), (931, .iconst 1, 1), (932, .iadd, 1), (933, .iaload, 1), (934, .invokevirtual 115, 3), (937, .if_icmp .eq 209, 3), (940, .iconst 0, 1), (941, .ireturn, 1), (942, .aload_n 1, 1), (943, .invokevirtual 116, 3), (946, .aload_n 2, 1), (947, .invokevirtual 119, 3), (950, .if_icmp .eq 196, 3), (953, .iconst 0, 1), (954, .ireturn, 1), (955, .aload_n 1, 1), (956, .aload_n 0, 1), (957, .iload_n 3, 1), (958, .iconst 1, 1), (959, .iadd, 1), (960, .iaload, 1), (961, .aload_n 0, 1), (962, .iload_n 3, 1), (963, .iconst 2, 1), (964, .iadd, 1), (965, .iaload, 1), (966, .invokevirtual 120, 3), (969, .aload_n 2, 1), (970, .aload_n 0, 1), (971, .iload_n 3, 1), (972, .iconst 1, 1), (973, .iadd, 1)]
theorem dl_12 : DT code tl_12 := by unfold DT; decide +kernel
def tl_13 : List (Nat × Instr × Nat) := [(974, .iaload, 1), (975, .aload_n 0, 1), (976, .iload_n 3, 1), (977, .iconst 2, 1), (978, .iadd, 1), (979, .iaload, 1), (980, .invokevirtual 123, 3), (983, .if_icmp .eq 163, 3), (986, .iconst 0, 1), (987, .ireturn, 1), (988, .aload_n 1, 1), (989, .aload_n 0, 1), (990, .iload_n 3, 1), (991, .iconst 1, 1), (992, .iadd, 1), (993, .iaload, 1), (994, .invokevirtual 124, 3), (997, .aload_n 2, 1), (998, .aload_n 0, 1), (999, .iload_n 3, 1), (1000, .iconst 1, 1), (1001, .iadd, 1), (1002, .iaload, 1), (1003, .invokevirtual 127, 3), (1006, .if_icmp .eq 140, 3), (1009, .iconst 0, 1), (1010, .ireturn, 1), (1011, .aload_n 1, 1), (1012, .aload_n 0, 1), (1013, .iload_n 3, 1), (1014, .iconst 1, 1), (1015, .iadd, 1), (1016, .iaload, 1), (1017, .aload_n 0, 1), (1018, .iload_n 3, 1), (1019, .iconst 2, 1), (1020, .iadd, 1), (1021, .iaload, 1), (1022, .invokevirtual 128, 3), (1025, .aload_n 2, 1), (1026, .aload_n 0, 1), (1027, .iload_n 3, 1), (1028, .iconst 1, 1), (1029, .iadd, 1), (1030, .iaload, 1), (1031, .aload_n 0, 1), (1032, .iload_n 3, 1), (1033, .iconst 2, 1), (1034, .iadd, 1), (1035, .iaload, 1)]
theorem dl_13 : DT code tl_13 := by unfold DT; decide +kernel
def tl_14 : List (Nat × Instr × Nat) := [(1036, .invokevirtual 131, 3), (1039, .if_icmp .eq 107, 3), (1042, .iconst 0, 1), (1043, .ireturn, 1), (1044, .aload_n 1, 1), (1045, .aload_n 0, 1), (1046, .iload_n 3, 1), (1047, .iconst 1, 1), (1048, .iadd, 1), (1049, .iaload, 1), (1050, .invokevirtual 132, 3), (1053, .aload_n 2, 1), (1054, .aload_n 0, 1), (1055, .iload_n 3, 1), (1056, .iconst 1, 1), (1057, .iadd, 1), (1058, .iaload, 1), (1059, .invokevirtual 135, 3), (1062, .if_icmp .eq 84, 3), (1065, .iconst 0, 1), (1066, .ireturn, 1), (1067, .aload_n 1, 1), (1068, .aload_n 0, 1), (1069, .iload_n 3, 1), (1070, .iconst 1, 1), (1071, .iadd, 1), (1072, .iaload, 1), (1073, .invokevirtual 136, 3), (1076, .aload_n 2, 1), (1077, .aload_n 0, 1), (1078, .iload_n 3, 1), (1079, .iconst 1, 1), (1080, .iadd, 1), (1081, .iaload, 1), (1082, .invokevirtual 139, 3), (1085, .if_icmp .eq 61, 3), (1088, .iconst 0, 1), (1089, .ireturn, 1), (1090, .aload_n 1, 1), (1091, .aload_n 0, 1), (1092, .iload_n 3, 1), (1093, .iconst 1, 1), (1094, .iadd, 1), (1095, .iaload, 1), (1096, .aload_n 0, 1), (1097, .iload_n 3, 1), (1098, .iconst 2, 1), (1099, .iadd, 1), (1100, .iaload, 1), (1101, .invokevirtual 140, 3)]
theorem dl_14 : DT code tl_14 := by unfold DT; decide +kernel
def tl_15 : List (Nat × Instr × Nat) := [(1104, .aload_n 2, 1), (1105, .aload_n 0, 1), (1106, .iload_n 3, 1), (1107, .iconst 1, 1), (1108, .iadd, 1), (1109, .iaload, 1), (1110, .aload_n 0, 1), (1111, .iload_n 3, 1), (1112, .iconst 2, 1), (1113, .iadd, 1), (1114, .iaload, 1), (1115, .invokevirtual 143, 3), (1118, .if_icmp .eq 28, 3), (1121, .iconst 0, 1), (1122, .ireturn, 1), (1123, .aload_n 1, 1), (1124, .aload_n 0, 1), (1125, .iload_n 3, 1), (1126, .iconst 1, 1), (1127, .iadd, 1), (1128, .iaload, 1), (1129, .invokevirtual 144, 3), (1132, .aload_n 2, 1), (1133, .aload_n 0, 1), (1134, .iload_n 3, 1), (1135, .iconst 1, 1), (1136, .iadd, 1), (1137, .iaload, 1), (1138, .invokevirtual 147, 3), (1141, .if_icmp .eq 5, 3), (1144, .iconst 0, 1), (1145, .ireturn, 1), (1146, .iinc 3 7, 3), (1149, .goto (-1131), 3), (1152, .iconst 1, 1), (1153, .ireturn, 1)]
theorem dl_15 : DT code tl_15 := by unfold DT; decide +kernel
def AL (G : GT) (b Ln : Nat) (xs : Nat → Int32) (pc : Nat) (l : List (Nat × Value)) (st : List Value) (σ : St) : Prop :=
  ∀ (p : Program) (e : Env) (s : State) (m : MethodId) (below : List Frame) (meth : Method) (c : Code), lw_At p s m meth c b Ln xs → KG G s → Rg σ → (∀ q, AG G q → s.heap.size ≤ q) → ∀ (H : Heap) (locs : List Loc) (la : Array Slot), PG G σ H → va_S (fun q : Nat => s.heap.size ≤ q) s.heap H locs → lv_has la 4 l →
    W p G.1 e room_1 s m #[Value.ref b] below meth c H locs 619 194263 (lw_Z below #[Value.ref b] s) (F0 m pc la st)
section
variable {G : GT} {b Ln : Nat} {xs : Nat → Int32} {pc q : Nat} {l : List (Nat × Value)} {st : List Value} {σ : St}
theorem l_aload {f : Fin 4} {i x : Nat} (hd : decode code pc = .ok (.aload_n f, 1)) (hq : pc + 1 = q) (hi : (f : Nat) = i) (k : Nat) (hk : l[k]? = some (i, .ref x)) (kk : AL G b Ln xs q l (.ref x :: st) σ) : AL G b Ln xs pc l (st) σ := by
  intro p e s m below meth c C0 hK hR hAG H locs la hP hS hl
  obtain ⟨hx, hb, hr, hml, hown, hts, hX, hbl, hlocks, hgv⟩ := id C0
  subst hq
  exact lv_aload_n hx hb hd hi (lv_at hl k hk) (kk p e s m below meth c C0 hK hR hAG H locs la hP hS hl)
theorem l_iload {f : Fin 4} {i : Nat} {x : Int32} (hd : decode code pc = .ok (.iload_n f, 1)) (hq : pc + 1 = q) (hi : (f : Nat) = i) (k : Nat) (hk : l[k]? = some (i, .int x)) (kk : AL G b Ln xs q l (.int x :: st) σ) : AL G b Ln xs pc l (st) σ := by
  intro p e s m below meth c C0 hK hR hAG H locs la hP hS hl
  obtain ⟨hx, hb, hr, hml, hown, hts, hX, hbl, hlocks, hgv⟩ := id C0
  subst hq
  exact lv_iload_n hx hb hd hi (lv_at hl k hk) (kk p e s m below meth c C0 hK hR hAG H locs la hP hS hl)
theorem l_iconst {n : Int} (hd : decode code pc = .ok (.iconst n, 1)) (hq : pc + 1 = q) (kk : AL G b Ln xs q l (.int (Int32.ofInt n) :: st) σ) : AL G b Ln xs pc l (st) σ := by
  intro p e s m below meth c C0 hK hR hAG H locs la hP hS hl
  obtain ⟨hx, hb, hr, hml, hown, hts, hX, hbl, hlocks, hgv⟩ := id C0
  subst hq
  exact lv_iconst hx hb hd rfl (kk p e s m below meth c C0 hK hR hAG H locs la hP hS hl)
theorem l_bipush {n : Int} (hd : decode code pc = .ok (.bipush n, 2)) (hq : pc + 2 = q) (hv : (Int8.ofInt n).toInt32 = Int32.ofInt n) (kk : AL G b Ln xs q l (.int (Int32.ofInt n) :: st) σ) : AL G b Ln xs pc l (st) σ := by
  intro p e s m below meth c C0 hK hR hAG H locs la hP hS hl
  obtain ⟨hx, hb, hr, hml, hown, hts, hX, hbl, hlocks, hgv⟩ := id C0
  subst hq
  exact lv_bipush hx hb hd hv (kk p e s m below meth c C0 hK hR hAG H locs la hP hS hl)
theorem l_iadd {x y : Int} (hd : decode code pc = .ok (.iadd, 1)) (hq : pc + 1 = q) (kk : AL G b Ln xs q l (.int (Int32.ofInt (x + y)) :: st) σ) : AL G b Ln xs pc l (.int (Int32.ofInt y) :: .int (Int32.ofInt x) :: st) σ := by
  intro p e s m below meth c C0 hK hR hAG H locs la hP hS hl
  obtain ⟨hx, hb, hr, hml, hown, hts, hX, hbl, hlocks, hgv⟩ := id C0
  subst hq
  refine lv_iadd hx hb hd ?_
  rw [← Int32.ofInt_add]
  exact kk p e s m below meth c C0 hK hR hAG H locs la hP hS hl
theorem l_isub {x y : Int} (hd : decode code pc = .ok (.isub, 1)) (hq : pc + 1 = q) (kk : AL G b Ln xs q l (.int (Int32.ofInt (x - y)) :: st) σ) : AL G b Ln xs pc l (.int (Int32.ofInt y) :: .int (Int32.ofInt x) :: st) σ := by
  intro p e s m below meth c C0 hK hR hAG H locs la hP hS hl
  obtain ⟨hx, hb, hr, hml, hown, hts, hX, hbl, hlocks, hgv⟩ := id C0
  subst hq
  refine lv_isub hx hb hd ?_
  rw [← Int32.ofInt_sub]
  exact kk p e s m below meth c C0 hK hR hAG H locs la hP hS hl
theorem l_iand {x y : Int32} (hd : decode code pc = .ok (.iand, 1)) (hq : pc + 1 = q) (kk : AL G b Ln xs q l (.int (x &&& y) :: st) σ) : AL G b Ln xs pc l (.int y :: .int x :: st) σ := by
  intro p e s m below meth c C0 hK hR hAG H locs la hP hS hl
  obtain ⟨hx, hb, hr, hml, hown, hts, hX, hbl, hlocks, hgv⟩ := id C0
  subst hq
  exact lv_iand hx hb hd (kk p e s m below meth c C0 hK hR hAG H locs la hP hS hl)
theorem l_sld {x : Int} (hd : decode code pc = .ok (.iaload, 1)) (hq : pc + 1 = q) (hi : 0 ≤ x ∧ x < Ln) (hLn : Ln ≤ 100000) (kk : AL G b Ln xs q l (.int (Int32.ofInt (xs x.toNat).toInt) :: st) σ) : AL G b Ln xs pc l (.int (Int32.ofInt x) :: .ref b :: st) σ := by
  intro p e s m below meth c C0 hK hR hAG H locs la hP hS hl
  obtain ⟨hx, hb, hr, hml, hown, hts, hX, hbl, hlocks, hgv⟩ := id C0
  subst hq
  obtain ⟨h1, h2⟩ := oi_in hi hLn
  have hbA : ¬ (fun q : Nat => s.heap.size ≤ q) b := Nat.not_le.mpr hbl
  refine va_sld hx hb hX hbl hbA hS h1 hd ?_
  rw [h2, ← Int32.ofInt_toInt (xs x.toNat)]
  exact kk p e s m below meth c C0 hK hR hAG H locs la hP hS hl
theorem l_slen (hd : decode code pc = .ok (.arraylength, 1)) (hq : pc + 1 = q) (kk : AL G b Ln xs q l (.int (Int32.ofInt Ln) :: st) σ) : AL G b Ln xs pc l (.ref b :: st) σ := by
  intro p e s m below meth c C0 hK hR hAG H locs la hP hS hl
  obtain ⟨hx, hb, hr, hml, hown, hts, hX, hbl, hlocks, hgv⟩ := id C0
  subst hq
  have hbA : ¬ (fun q : Nat => s.heap.size ≤ q) b := Nat.not_le.mpr hbl
  refine va_slen hx hb hX hbl hbA hS hd ?_
  rw [show Int32.ofNat Ln = Int32.ofInt (Ln : Int) from by first | exact Int32.ofInt_eq_ofNat.symm | simp]
  exact kk p e s m below meth c C0 hK hR hAG H locs la hP hS hl
theorem l_goto {off : Int} (hd : decode code pc = .ok (.goto off, 3)) (ht : (pc : Int) + off = (q : Int)) (kk : AL G b Ln xs q l st σ) : AL G b Ln xs pc l st σ := by
  intro p e s m below meth c C0 hK hR hAG H locs la hP hS hl
  obtain ⟨hx, hb, hr, hml, hown, hts, hX, hbl, hlocks, hgv⟩ := id C0
  exact lv_goto hx hb hd ht (kk p e s m below meth c C0 hK hR hAG H locs la hP hS hl)
theorem l_icmpgt {t : Nat} {off x y : Int} (hd : decode code pc = .ok (.if_icmp .gt off, 3)) (hq : pc + 3 = q) (ht : (pc : Int) + off = (t : Int)) (h1 : rng x) (h2 : rng y) (kt : y < x → AL G b Ln xs t l st σ) (kf : x ≤ y → AL G b Ln xs q l st σ) : AL G b Ln xs pc l (.int (Int32.ofInt y) :: .int (Int32.ofInt x) :: st) σ := by
  intro p e s m below meth c C0 hK hR hAG H locs la hP hS hl
  obtain ⟨hx, hb, hr, hml, hown, hts, hX, hbl, hlocks, hgv⟩ := id C0
  subst hq
  exact lv_icmp_gt hx hb hd ht (fun h => kt ((oi_lt h2 h1).mp h) p e s m below meth c C0 hK hR hAG H locs la hP hS hl) (fun h => kf (Int.not_lt.mp (fun z => h ((oi_lt h2 h1).mpr z))) p e s m below meth c C0 hK hR hAG H locs la hP hS hl)
/-- the two answers are one -/
theorem l_same {t : Nat} {off : Int} {x : Int32} (hd : decode code pc = .ok (.if_icmp .eq off, 3)) (ht : (pc : Int) + off = (t : Int)) (kk : AL G b Ln xs t l st σ) : AL G b Ln xs pc l (.int x :: .int x :: st) σ := by
  intro p e s m below meth c C0 hK hR hAG H locs la hP hS hl
  obtain ⟨hx, hb, hr, hml, hown, hts, hX, hbl, hlocks, hgv⟩ := id C0
  exact lv_icmp_eq hx hb hd ht (fun _ => kk p e s m below meth c C0 hK hR hAG H locs la hP hS hl) (fun h => absurd rfl h)
theorem l_eqT {t : Nat} {off : Int} {x : Int32} (hd : decode code pc = .ok (.ifCond .eq off, 3)) (ht : (pc : Int) + off = (t : Int)) (h0 : x = 0) (kk : AL G b Ln xs t l st σ) : AL G b Ln xs pc l (.int x :: st) σ := by
  intro p e s m below meth c C0 hK hR hAG H locs la hP hS hl
  obtain ⟨hx, hb, hr, hml, hown, hts, hX, hbl, hlocks, hgv⟩ := id C0
  exact lv_if_eq hx hb hd ht (fun _ => kk p e s m below meth c C0 hK hR hAG H locs la hP hS hl) (fun h => absurd h0 h)
theorem l_eqF {off : Int} {t : Nat} {x : Int32} (hd : decode code pc = .ok (.ifCond .eq off, 3)) (hq : pc + 3 = q) (ht : (pc : Int) + off = (t : Int)) (h0 : ¬ x = 0) (kk : AL G b Ln xs q l st σ) : AL G b Ln xs pc l (.int x :: st) σ := by
  intro p e s m below meth c C0 hK hR hAG H locs la hP hS hl
  obtain ⟨hx, hb, hr, hml, hown, hts, hX, hbl, hlocks, hgv⟩ := id C0
  subst hq
  exact lv_if_eq hx hb hd ht (fun h => absurd h h0) (fun _ => kk p e s m below meth c C0 hK hR hAG H locs la hP hS hl)
theorem l_iinc {i k : Nat} {n x : Int} {l' : List (Nat × Value)} (hd : decode code pc = .ok (.iinc i n, 3)) (hq : pc + 3 = q) (hk : l[k]? = some (i, .int (Int32.ofInt x))) (hn : i < 4) (hl' : (i, Value.int (Int32.ofInt (x + n))) :: l.filter (fun q => !(q.1 == i) && !(q.1 + 1 == i && q.2.category == 2)) = l') (kk : AL G b Ln xs q l' st σ) : AL G b Ln xs pc l st σ := by
  intro p e s m below meth c C0 hK hR hAG H locs la hP hS hl
  obtain ⟨hx, hb, hr, hml, hown, hts, hX, hbl, hlocks, hgv⟩ := id C0
  subst hq
  refine lv_iinc (v := Int32.ofInt (x + n)) (lv' := l') hx hb hd hl (k := k) hk (by rw [Int32.ofInt_add]) hn hl' (fun ls' h' => ?_)
  exact kk p e s m below meth c C0 hK hR hAG H locs ls' hP hS h'
theorem l_loc {l' : List (Nat × Value)} (ks : List Nat) (h : lv_pick l ks = l') (kk : AL G b Ln xs pc l' st σ) : AL G b Ln xs pc l st σ := by
  intro p e s m below meth c C0 hK hR hAG H locs la hP hS hl
  obtain ⟨hx, hb, hr, hml, hown, hts, hX, hbl, hlocks, hgv⟩ := id C0
  exact kk p e s m below meth c C0 hK hR hAG H locs la hP hS (lv_sub hl ks h)
theorem l_sw {t : Nat} {df : Int} {off : Int} {offs : Array Int} {len : Nat} {x : Int32} {k : Nat} (hd : decode code pc = .ok (.tableswitch df 0 31 offs, len)) (hk : x.toInt = (k : Int)) (hk2 : k < 32) (ho : offs[k]? = some off) (ht : (pc : Int) + off = (t : Int)) (kk : AL G b Ln xs t l st σ) : AL G b Ln xs pc l (.int x :: st) σ := by
  intro p e s m below meth c C0 hK hR hAG H locs la hP hS hl
  obtain ⟨hx, hb, hr, hml, hown, hts, hX, hbl, hlocks, hgv⟩ := id C0
  exact lv_tableIn hx hb hd (by omega) (by omega) (by rw [hk]; simpa using ho) ht (kk p e s m below meth c C0 hK hR hAG H locs la hP hS hl)
theorem l_call {cal : MI} {ty : FieldType} {index k ci n : Nat} {stk rest : List Value} {P' : Int → St → Prop} (av : List AV) (hM : MKV cal ci n) (hlk : Cond.methodLink R_LW index (yM cal) ∈ gt) (hroom : fM cal + 1 ≤ 10 ∧ 8 + (nM cal + 11) + oM cal ≤ 412) (ht : tM cal = some ty) (hd : decode code pc = .ok (.invokevirtual index, 3)) (hq : pc + 3 = q) (hk : lyt k = (0, ci)) (hn : av.length = n) (hstk : stk = (cvs G av).reverse ++ .ref (aG G k) :: rest) (hcat : (rest.map fun v => v.category).sum ≤ 8) (hC : CJ G cal (O k :: av) σ P') (kk : ∀ r u, rng r → P' r u → AL G b Ln xs q l (.int (Int32.ofInt r) :: rest) u) : AL G b Ln xs pc l stk σ := by
  intro p e s m below meth c C0 hK hR hAG H locs la hP hS hl
  obtain ⟨hx, hb, hr, hml, hown, hts, hX, hbl, hlocks, hgv⟩ := id C0
  subst hq
  subst hstk
  have htg : ∀ w ∈ gt, w.before #[Value.ref b] s = true := fun w hw => hts w (gt_sub hw)
  unfold CJ at hC
  rw [QJ_i ht] at hC
  obtain ⟨hb', hin, hse, T, N, hc⟩ := hM
  have hlt := lyt_lt hk (by decide)
  have hrun := va_runV (As := cvs G av) (rest := rest) (g := F0 m pc la ((cvs G av).reverse ++ .ref (aG G k) :: rest)) (C := (yM cal).cls) (nL := 4) (R := room_1) (e := e) (below := below) (meth := meth) (cells := 619) (slots := 194263) (locs := locs) ⟨hx, hb, hml, hown, htg⟩ hC ⟨callB_of n htg (gt_ws cal n hb') rfl rfl rfl (htg _ hb'.2.1) (htg _ hlk) hb'.2.2 hroom, htg _ hin, htg _ hse⟩ ⟨Wd_blind G σ _, va_recv hK.1 hP hc (q0 := k) (by rw [wG_at hlt, ent_o hk]), fun U hU hW => ⟨rfl, by rw [hU]; exact hP, hR, hK.moved hW⟩⟩ rfl (by rw [List.length_map]; exact hn) hl.1 rfl (lv_room hcat) hd ⟨by decide, by decide⟩
  refine va_calli hrun hS (fun z _ h => hAG z h) (fun z h => hAG z h) (fun r u t H1 locs1 hth hvm hw hB _ _ hS1 => ?_)
  obtain ⟨x, rfl, hx', hp⟩ := hw
  exact kk x u hx' hp p e s m below meth c C0 hK hB.2.1 hAG H1 locs1 la (by rw [← hth]; exact hB.1) hS1 hl
end
