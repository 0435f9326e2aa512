/-! THE CLAIM OUT OF ONE WALK OF THE LAW'S BODY. Your part is whole_start (and what it stands on); all else here is the same for every law, but numbers. -/
def R_law : String := "CopiedFireLaw"
def lw_P (b : Addr) (xs : List Int32) (args : Array Value) (s : State) : Prop := args = #[.ref b] ∧ s.IntsAt b xs ∧ xs.length ≤ 3072 ∧ (Jvm.Cond.and given_1 narrow_1).before args s = true
def lw_Q (_ : Array Value) (s : State) (o : Outcome) (t : State) : Prop := o = .returned (some (.int 1)) ∧ Framed s o t [] 600000 7302250
def lw_Z (below : List Frame) (a : Array Value) (s : State) : State → Prop := fun t => ∃ o, t.status = .running ∧ Ended t below o ∧ lw_Q a s o t
/-- the law's own end, with 1 on the stack, nothing written that was there before, its room as the claim has it -/
theorem lw_ret {p : Program} {l : Launch} {e : Env} {s : State} {m : MethodId} {below : List Frame} {meth : Method} {c : Code} {b : Nat} (hx : p.tables.exec = Jvm.exec) (hb : c.code = code) (hr : meth.sig.returnType = ret) (hlocks : meth.locks = false) {pc : Nat} {H : Heap} {ls : Array Slot} (hdg : decode code pc = .ok (.ireturn, 1)) : W p l e room_1 s m #[Value.ref b] below meth c H [] 600000 7302250 (lw_Z below #[Value.ref b] s) (F0 m pc ls [.int 1]) := by
  intro T hT X
  obtain ⟨fs, hret, hrun, hended, hW, hframe⟩ := X.leave (v := some (.int 1)) (hlocks := hlocks) (fun h => by rw [hr] at h; cases h)
  have hmeth' : T.vm.method? m = some meth := X.method'
  refine ⟨T.setFrames fs, ?_, .returned (some (.int 1)), hrun, hended, rfl, ⟨_, rfl⟩, hW, hframe⟩
  jvm_step X.here [X.here.top, hx, hb, hdg, hmeth', hr, ret, narrow_b1]
  (try refine ⟨rfl, ?_⟩); (try refine ⟨rfl, ?_⟩)
  first | (intro acts; rw [hret _ acts rfl rfl rfl]) | rw [hret _ _ rfl rfl rfl]
  exact Steps.refl _
/-- what holds at the law's entry: the machine, the code, the tables' words (any of lw_tbl by 'hts w (by decide +kernel)'), the script of L ints xs at the cell b, what the Statement gives of the start (any of its parts by flat_of_before) -/
def lw_At (p : Program) (s : State) (m : MethodId) (meth : Method) (c : Code) (b L : Nat) (xs : Nat → Int32) : Prop :=
  p.tables.exec = Jvm.exec ∧ c.code = code ∧ meth.sig.returnType = ret ∧ c.maxLocals = 4 ∧ s.vm.findClass R_law = some m.cls ∧ (∀ w ∈ lw_tbl, w.before #[Value.ref b] s = true) ∧ va_X b L xs s s.heap ∧ b < s.heap.size ∧ meth.locks = false ∧ (Jvm.Cond.and given_1 narrow_1).before #[Value.ref b] s = true
set_option maxRecDepth 20000 in
def T_L : List (Nat × Instr × Nat) := [(0, .new 7, 3), (3, .dup, 1), (4, .invokespecial 9, 3), (7, .astore_n 1, 1), (8, .new 10, 3), (11, .dup, 1), (12, .invokespecial 12, 3), (15, .astore_n 2, 1), (16, .iconst 0, 1), (17, .istore_n 3, 1), (18, .iload_n 3, 1), (19, .aload_n 0, 1), (20, .arraylength, 1), (21, .bipush 6, 2), (23, .isub, 1), (24, .if_icmp .gt 1619, 3), (27, .aload_n 0, 1), (28, .iload_n 3, 1), (29, .iaload, 1), (30, .bipush 63, 2), (32, .iand, 1), (33, .tableswitch 1604 0 46 #[203, 256, 289, 322, 355, 398, 421, 444, 467, 500, 543, 576, 609, 632, 665, 688, 721, 744, 767, 800, 813, 836, 869, 902, 945, 968, 1001, 1014, 1037, 1080, 1103, 1116, 1149, 1172, 1215, 1258, 1281, 1304, 1367, 1410, 1443, 1476, 1509, 1532, 1555, 1568, 1581], 203), (236, .aload_n 1, 1), (237, .aload_n 0, 1), (238, .iload_n 3, 1), (239, .iconst 1, 1), (240, .iadd, 1), (241, .iaload, 1), (242, .aload_n 0, 1), (243, .iload_n 3, 1), (244, .iconst 2, 1), (245, .iadd, 1), (246, .iaload, 1), (247, .aload_n 0, 1), (248, .iload_n 3, 1), (249, .iconst 3, 1), (250, .iadd, 1), (251, .iaload, 1), (252, .aload_n 0, 1), (253, .iload_n 3, 1), (254, .iconst 4, 1), (255, .iadd, 1), (256, .iaload, 1), (257, .invokevirtual 13, 3), (260, .aload_n 2, 1), (261, .aload_n 0, 1), (262, .iload_n 3, 1), (263, .iconst 1, 1), (264, .iadd, 1), (265, .iaload, 1), (266, .aload_n 0, 1), (267, .iload_n 3, 1), (268, .iconst 2, 1), (269, .iadd, 1), (270, .iaload, 1), (271, .aload_n 0, 1), (272, .iload_n 3, 1), (273, .iconst 3, 1), (274, .iadd, 1), (275, .iaload, 1), (276, .aload_n 0, 1), (277, .iload_n 3, 1), (278, .iconst 4, 1), (279, .iadd, 1), (280, .iaload, 1), (281, .invokevirtual 17, 3), (284, .if_icmp .eq 1353, 3), (287, .iconst 0, 1), (288, .ireturn, 1), (289, .aload_n 1, 1), (290, .aload_n 0, 1), (291, .iload_n 3, 1), (292, .iconst 1, 1), (293, .iadd, 1), (294, .iaload, 1), (295, .aload_n 0, 1), (296, .iload_n 3, 1), (297, .iconst 2, 1), (298, .iadd, 1), (299, .iaload, 1), (300, .invokevirtual 18, 3), (303, .aload_n 2, 1), (304, .aload_n 0, 1), (305, .iload_n 3, 1), (306, .iconst 1, 1), (307, .iadd, 1), (308, .iaload, 1), (309, .aload_n 0, 1), (310, .iload_n 3, 1), (311, .iconst 2, 1), (312, .iadd, 1), (313, .iaload, 1), (314, .invokevirtual 22, 3), (317, .if_icmp .eq 1320, 3), (320, .iconst 0, 1), (321, .ireturn, 1), (322, .aload_n 1, 1), (323, .aload_n 0, 1), (324, .iload_n 3, 1), (325, .iconst 1, 1), (326, .iadd, 1), (327, .iaload, 1), (328, .aload_n 0, 1), (329, .iload_n 3, 1), (330, .iconst 2, 1), (331, .iadd, 1), (332, .iaload, 1), (333, .invokevirtual 23, 3), (336, .aload_n 2, 1), (337, .aload_n 0, 1), (338, .iload_n 3, 1), (339, .iconst 1, 1), (340, .iadd, 1), (341, .iaload, 1), (342, .aload_n 0, 1), (343, .iload_n 3, 1), (344, .iconst 2, 1), (345, .iadd, 1), (346, .iaload, 1), (347, .invokevirtual 26, 3), (350, .if_icmp .eq 1287, 3), (353, .iconst 0, 1), (354, .ireturn, 1), (355, .aload_n 1, 1), (356, .aload_n 0, 1), (357, .iload_n 3, 1), (358, .iconst 1, 1), (359, .iadd, 1), (360, .iaload, 1), (361, .aload_n 0, 1), (362, .iload_n 3, 1), (363, .iconst 2, 1), (364, .iadd, 1), (365, .iaload, 1), (366, .invokevirtual 27, 3), (369, .aload_n 2, 1), (370, .aload_n 0, 1), (371, .iload_n 3, 1), (372, .iconst 1, 1), (373, .iadd, 1), (374, .iaload, 1), (375, .aload_n 0, 1), (376, .iload_n 3, 1), (377, .iconst 2, 1), (378, .iadd, 1), (379, .iaload, 1), (380, .invokevirtual 30, 3), (383, .if_icmp .eq 1254, 3), (386, .iconst 0, 1), (387, .ireturn, 1), (388, .aload_n 1, 1), (389, .aload_n 0, 1), (390, .iload_n 3, 1), (391, .iconst 1, 1), (392, .iadd, 1), (393, .iaload, 1), (394, .aload_n 0, 1), (395, .iload_n 3, 1), (396, .iconst 2, 1), (397, .iadd, 1), (398, .iaload, 1), (399, .aload_n 0, 1), (400, .iload_n 3, 1), (401, .iconst 3, 1), (402, .iadd, 1), (403, .iaload, 1), (404, .invokevirtual 31, 3), (407, .aload_n 2, 1), (408, .aload_n 0, 1), (409, .iload_n 3, 1), (410, .iconst 1, 1), (411, .iadd, 1), (412, .iaload, 1), (413, .aload_n 0, 1), (414, .iload_n 3, 1), (415, .iconst 2, 1), (416, .iadd, 1), (417, .iaload, 1), (418, .aload_n 0, 1), (419, .iload_n 3, 1), (420, .iconst 3, 1), (421, .iadd, 1), (422, .iaload, 1), (423, .invokevirtual 35, 3), (426, .if_icmp .eq 1211, 3), (429, .iconst 0, 1), (430, .ireturn, 1), (431, .aload_n 1, 1), (432, .aload_n 0, 1), (433, .iload_n 3, 1), (434, .iconst 1, 1), (435, .iadd, 1), (436, .iaload, 1), (437, .invokevirtual 36, 3), (440, .aload_n 2, 1), (441, .aload_n 0, 1), (442, .iload_n 3, 1), (443, .iconst 1, 1), (444, .iadd, 1), (445, .iaload, 1), (446, .invokevirtual 40, 3), (449, .if_icmp .eq 1188, 3), (452, .iconst 0, 1), (453, .ireturn, 1), (454, .aload_n 1, 1), (455, .aload_n 0, 1), (456, .iload_n 3, 1), (457, .iconst 1, 1), (458, .iadd, 1), (459, .iaload, 1), (460, .invokevirtual 41, 3), (463, .aload_n 2, 1), (464, .aload_n 0, 1), (465, .iload_n 3, 1), (466, .iconst 1, 1), (467, .iadd, 1), (468, .iaload, 1), (469, .invokevirtual 44, 3), (472, .if_icmp .eq 1165, 3), (475, .iconst 0, 1), (476, .ireturn, 1), (477, .aload_n 1, 1), (478, .aload_n 0, 1), (479, .iload_n 3, 1), (480, .iconst 1, 1), (481, .iadd, 1), (482, .iaload, 1), (483, .invokevirtual 45, 3), (486, .aload_n 2, 1), (487, .aload_n 0, 1), (488, .iload_n 3, 1), (489, .iconst 1, 1), (490, .iadd, 1), (491, .iaload, 1), (492, .invokevirtual 48, 3), (495, .if_icmp .eq 1142, 3), (498, .iconst 0, 1), (499, .ireturn, 1), (500, .aload_n 1, 1), (501, .aload_n 0, 1), (502, .iload_n 3, 1), (503, .iconst 1, 1), (504, .iadd, 1), (505, .iaload, 1), (506, .aload_n 0, 1), (507, .iload_n 3, 1), (508, .iconst 2, 1), (509, .iadd, 1), (510, .iaload, 1), (511, .invokevirtual 49, 3), (514, .aload_n 2, 1), (515, .aload_n 0, 1), (516, .iload_n 3, 1), (517, .iconst 1, 1), (518, .iadd, 1), (519, .iaload, 1), (520, .aload_n 0, 1), (521, .iload_n 3, 1), (522, .iconst 2, 1), (523, .iadd, 1), (524, .iaload, 1), (525, .invokevirtual 52, 3), (528, .if_icmp .eq 1109, 3), (531, .iconst 0, 1), (532, .ireturn, 1), (533, .aload_n 1, 1), (534, .aload_n 0, 1), (535, .iload_n 3, 1), (536, .iconst 1, 1), (537, .iadd, 1), (538, .iaload, 1), (539, .aload_n 0, 1), (540, .iload_n 3, 1), (541, .iconst 2, 1), (542, .iadd, 1), (543, .iaload, 1), (544, .aload_n 0, 1), (545, .iload_n 3, 1), (546, .iconst 3, 1), (547, .iadd, 1), (548, .iaload, 1), (549, .invokevirtual 53, 3), (552, .aload_n 2, 1), (553, .aload_n 0, 1), (554, .iload_n 3, 1), (555, .iconst 1, 1), (556, .iadd, 1), (557, .iaload, 1), (558, .aload_n 0, 1), (559, .iload_n 3, 1), (560, .iconst 2, 1), (561, .iadd, 1), (562, .iaload, 1), (563, .aload_n 0, 1), (564, .iload_n 3, 1), (565, .iconst 3, 1), (566, .iadd, 1), (567, .iaload, 1), (568, .invokevirtual 56, 3), (571, .if_icmp .eq 1066, 3), (574, .iconst 0, 1), (575, .ireturn, 1), (576, .aload_n 1, 1), (577, .aload_n 0, 1), (578, .iload_n 3, 1), (579, .iconst 1, 1), (580, .iadd, 1), (581, .iaload, 1), (582, .aload_n 0, 1), (583, .iload_n 3, 1), (584, .iconst 2, 1), (585, .iadd, 1), (586, .iaload, 1), (587, .invokevirtual 57, 3), (590, .aload_n 2, 1), (591, .aload_n 0, 1), (592, .iload_n 3, 1), (593, .iconst 1, 1), (594, .iadd, 1), (595, .iaload, 1), (596, .aload_n 0, 1), (597, .iload_n 3, 1), (598, .iconst 2, 1), (599, .iadd, 1), (600, .iaload, 1), (601, .invokevirtual 60, 3), (604, .if_icmp .eq 1033, 3), (607, .iconst 0, 1), (608, .ireturn, 1), (609, .aload_n 1, 1), (610, .aload_n 0, 1), (611, .iload_n 3, 1), (612, .iconst 1, 1), (613, .iadd, 1), (614, .iaload, 1), (615, .aload_n 0, 1), (616, .iload_n 3, 1), (617, .iconst 2, 1), (618, .iadd, 1), (619, .iaload, 1), (620, .invokevirtual 61, 3), (623, .aload_n 2, 1), (624, .aload_n 0, 1), (625, .iload_n 3, 1), (626, .iconst 1, 1), (627, .iadd, 1), (628, .iaload, 1), (629, .aload_n 0, 1), (630, .iload_n 3, 1), (631, .iconst 2, 1), (632, .iadd, 1), (633, .iaload, 1), (634, .invokevirtual 64, 3), (637, .if_icmp .eq 1000, 3), (640, .iconst 0, 1), (641, .ireturn, 1), (642, .aload_n 1, 1), (643, .aload_n 0, 1), (644, .iload_n 3, 1), (645, .iconst 1, 1), (646, .iadd, 1), (647, .iaload, 1), (648, .invokevirtual 65, 3), (651, .aload_n 2, 1), (652, .aload_n 0, 1), (653, .iload_n 3, 1), (654, .iconst 1, 1), (655, .iadd, 1), (656, .iaload, 1), (657, .invokevirtual 68, 3), (660, .if_icmp .eq 977, 3), (663, .iconst 0, 1), (664, .ireturn, 1), (665, .aload_n 1, 1), (666, .aload_n 0, 1), (667, .iload_n 3, 1), (668, .iconst 1, 1), (669, .iadd, 1), (670, .iaload, 1), (671, .aload_n 0, 1), (672, .iload_n 3, 1), (673, .iconst 2, 1), (674, .iadd, 1), (675, .iaload, 1), (676, .invokevirtual 69, 3), (679, .aload_n 2, 1), (680, .aload_n 0, 1), (681, .iload_n 3, 1), (682, .iconst 1, 1), (683, .iadd, 1), (684, .iaload, 1), (685, .aload_n 0, 1), (686, .iload_n 3, 1), (687, .iconst 2, 1), (688, .iadd, 1), (689, .iaload, 1), (690, .invokevirtual 72, 3), (693, .if_icmp .eq 944, 3), (696, .iconst 0, 1), (697, .ireturn, 1), (698, .aload_n 1, 1), (699, .aload_n 0, 1), (700, .iload_n 3, 1), (701, .iconst 1, 1), (702, .iadd, 1), (703, .iaload, 1), (704, .invokevirtual 73, 3), (707, .aload_n 2, 1), (708, .aload_n 0, 1), (709, .iload_n 3, 1), (710, .iconst 1, 1), (711, .iadd, 1), (712, .iaload, 1), (713, .invokevirtual 76, 3), (716, .if_icmp .eq 921, 3), (719, .iconst 0, 1), (720, .ireturn, 1), (721, .aload_n 1, 1), (722, .aload_n 0, 1), (723, .iload_n 3, 1), (724, .iconst 1, 1), (725, .iadd, 1), (726, .iaload, 1), (727, .aload_n 0, 1), (728, .iload_n 3, 1), (729, .iconst 2, 1), (730, .iadd, 1), (731, .iaload, 1), (732, .invokevirtual 77, 3), (735, .aload_n 2, 1), (736, .aload_n 0, 1), (737, .iload_n 3, 1), (738, .iconst 1, 1), (739, .iadd, 1), (740, .iaload, 1), (741, .aload_n 0, 1), (742, .iload_n 3, 1), (743, .iconst 2, 1), (744, .iadd, 1), (745, .iaload, 1), (746, .invokevirtual 80, 3), (749, .if_icmp .eq 888, 3), (752, .iconst 0, 1), (753, .ireturn, 1), (754, .aload_n 1, 1), (755, .aload_n 0, 1), (756, .iload_n 3, 1), (757, .iconst 1, 1), (758, .iadd, 1), (759, .iaload, 1), (760, .invokevirtual 81, 3), (763, .aload_n 2, 1), (764, .aload_n 0, 1), (765, .iload_n 3, 1), (766, .iconst 1, 1), (767, .iadd, 1), (768, .iaload, 1), (769, .invokevirtual 84, 3), (772, .if_icmp .eq 865, 3), (775, .iconst 0, 1), (776, .ireturn, 1), (777, .aload_n 1, 1), (778, .aload_n 0, 1), (779, .iload_n 3, 1), (780, .iconst 1, 1), (781, .iadd, 1), (782, .iaload, 1), (783, .invokevirtual 85, 3), (786, .aload_n 2, 1), (787, .aload_n 0, 1), (788, .iload_n 3, 1), (789, .iconst 1, 1), (790, .iadd, 1), (791, .iaload, 1), (792, .invokevirtual 88, 3), (795, .if_icmp .eq 842, 3), (798, .iconst 0, 1), (799, .ireturn, 1), (800, .aload_n 1, 1), (801, .aload_n 0, 1), (802, .iload_n 3, 1), (803, .iconst 1, 1), (804, .iadd, 1), (805, .iaload, 1), (806, .aload_n 0, 1), (807, .iload_n 3, 1), (808, .iconst 2, 1), (809, .iadd, 1), (810, .iaload, 1), (811, .invokevirtual 89, 3), (814, .aload_n 2, 1), (815, .aload_n 0, 1), (816, .iload_n 3, 1), (817, .iconst 1, 1), (818, .iadd, 1), (819, .iaload, 1), (820, .aload_n 0, 1), (821, .iload_n 3, 1), (822, .iconst 2, 1), (823, .iadd, 1), (824, .iaload, 1), (825, .invokevirtual 92, 3), (828, .if_icmp .eq 809, 3), (831, .iconst 0, 1), (832, .ireturn, 1), (833, .aload_n 1, 1), (834, .invokevirtual 93, 3), (837, .aload_n 2, 1), (838, .invokevirtual 97, 3), (841, .if_icmp .eq 796, 3), (844, .iconst 0, 1), (845, .ireturn, 1), (846, .aload_n 1, 1), (847, .aload_n 0, 1), (848, .iload_n 3, 1), (849, .iconst 1, 1), (850, .iadd, 1), (851, .iaload, 1), (852, .invokevirtual 98, 3), (855, .aload_n 2, 1), (856, .aload_n 0, 1), (857, .iload_n 3, 1), (858, .iconst 1, 1), (859, .iadd, 1), (860, .iaload, 1), (861, .invokevirtual 101, 3), (864, .if_icmp .eq 773, 3), (867, .iconst 0, 1), (868, .ireturn, 1), (869, .aload_n 1, 1), (870, .aload_n 0, 1), (871, .iload_n 3, 1), (872, .iconst 1, 1), (873, .iadd, 1), (874, .iaload, 1), (875, .aload_n 0, 1), (876, .iload_n 3, 1), (877, .iconst 2, 1), (878, .iadd, 1), (879, .iaload, 1), (880, .invokevirtual 102, 3), (883, .aload_n 2, 1), (884, .aload_n 0, 1), (885, .iload_n 3, 1), (886, .iconst 1, 1), (887, .iadd, 1), (888, .iaload, 1), (889, .aload_n 0, 1), (890, .iload_n 3, 1), (891, .iconst 2, 1), (892, .iadd, 1), (893, .iaload, 1), (894, .invokevirtual 105, 3), (897, .if_icmp .eq 740, 3), (900, .iconst 0, 1), (901, .ireturn, 1), (902, .aload_n 1, 1), (903, .aload_n 0, 1), (904, .iload_n 3, 1), (905, .iconst 1, 1), (906, .iadd, 1), (907, .iaload, 1), (908, .aload_n 0, 1), (909, .iload_n 3, 1), (910, .iconst 2, 1), (911, .iadd, 1), (912, .iaload, 1), (913, .invokevirtual 106, 3), (916, .aload_n 2, 1), (917, .aload_n 0, 1), (918, .iload_n 3, 1), (919, .iconst 1, 1), (920, .iadd, 1), (921, .iaload, 1), (922, .aload_n 0, 1), (923, .iload_n 3, 1), (924, .iconst 2, 1), (925, .iadd, 1), (926, .iaload, 1), (927, .invokevirtual 109, 3), (930, .if_icmp .eq 707, 3), (933, .iconst 0, 1), (934, .ireturn, 1), (935, .aload_n 1, 1), (936, .aload_n 0, 1), (937, .iload_n 3, 1), (938, .iconst 1, 1), (939, .iadd, 1), (940, .iaload, 1), (941, .aload_n 0, 1), (942, .iload_n 3, 1), (943, .iconst 2, 1), (944, .iadd, 1), (945, .iaload, 1), (946, .aload_n 0, 1), (947, .iload_n 3, 1), (948, .iconst 3, 1), (949, .iadd, 1), (950, .iaload, 1), (951, .invokevirtual 110, 3), (954, .aload_n 2, 1), (955, .aload_n 0, 1), (956, .iload_n 3, 1), (957, .iconst 1, 1), (958, .iadd, 1), (959, .iaload, 1), (960, .aload_n 0, 1), (961, .iload_n 3, 1), (962, .iconst 2, 1), (963, .iadd, 1), (964, .iaload, 1), (965, .aload_n 0, 1), (966, .iload_n 3, 1), (967, .iconst 3, 1), (968, .iadd, 1), (969, .iaload, 1), (970, .invokevirtual 113, 3), (973, .if_icmp .eq 664, 3), (976, .iconst 0, 1), (977, .ireturn, 1), (978, .aload_n 1, 1), (979, .aload_n 0, 1), (980, .iload_n 3, 1), (981, .iconst 1, 1), (982, .iadd, 1), (983, .iaload, 1), (984, .invokevirtual 114, 3), (987, .aload_n 2, 1), (988, .aload_n 0, 1), (989, .iload_n 3, 1), (990, .iconst 1, 1), (991, .iadd, 1), (992, .iaload, 1), (993, .invokevirtual 117, 3), (996, .if_icmp .eq 641, 3), (999, .iconst 0, 1), (1000, .ireturn, 1), (1001, .aload_n 1, 1), (1002, .aload_n 0, 1), (1003, .iload_n 3, 1), (1004, .iconst 1, 1), (1005, .iadd, 1), (1006, .iaload, 1), (1007, .aload_n 0, 1), (1008, .iload_n 3, 1), (1009, .iconst 2, 1), (1010, .iadd, 1), (1011, .iaload, 1), (1012, .invokevirtual 118, 3), (1015, .aload_n 2, 1), (1016, .aload_n 0, 1), (1017, .iload_n 3, 1), (1018, .iconst 1, 1), (1019, .iadd, 1), (1020, .iaload, 1), (1021, .aload_n 0, 1), (1022, .iload_n 3, 1), (1023, .iconst 2, 1), (1024, .iadd, 1), (1025, .iaload, 1), (1026, .invokevirtual 121, 3), (1029, .if_icmp .eq 608, 3), (1032, .iconst 0, 1), (1033, .ireturn, 1), (1034, .aload_n 1, 1), (1035, .invokevirtual 122, 3), (1038, .aload_n 2, 1), (1039, .invokevirtual 125, 3), (1042, .if_icmp .eq 595, 3), (1045, .iconst 0, 1), (1046, .ireturn, 1), (1047, .aload_n 1, 1), (1048, .aload_n 0, 1), (1049, .iload_n 3, 1), (1050, .iconst 1, 1), (1051, .iadd, 1), (1052, .iaload, 1), (1053, .invokevirtual 126, 3), (1056, .aload_n 2, 1), (1057, .aload_n 0, 1), (1058, .iload_n 3, 1), (1059, .iconst 1, 1), (1060, .iadd, 1), (1061, .iaload, 1), (1062, .invokevirtual 129, 3), (1065, .if_icmp .eq 572, 3), (1068, .iconst 0, 1), (1069, .ireturn, 1), (1070, .aload_n 1, 1), (1071, .aload_n 0, 1), (1072, .iload_n 3, 1), (1073, .iconst 1, 1), (1074, .iadd, 1), (1075, .iaload, 1), (1076, .aload_n 0, 1), (1077, .iload_n 3, 1), (1078, .iconst 2, 1), (1079, .iadd, 1), (1080, .iaload, 1), (1081, .aload_n 0, 1), (1082, .iload_n 3, 1), (1083, .iconst 3, 1), (1084, .iadd, 1), (1085, .iaload, 1), (1086, .invokevirtual 130, 3), (1089, .aload_n 2, 1), (1090, .aload_n 0, 1), (1091, .iload_n 3, 1), (1092, .iconst 1, 1), (1093, .iadd, 1), (1094, .iaload, 1), (1095, .aload_n 0, 1), (1096, .iload_n 3, 1), (1097, .iconst 2, 1), (1098, .iadd, 1), (1099, .iaload, 1), (1100, .aload_n 0, 1), (1101, .iload_n 3, 1), (1102, .iconst 3, 1), (1103, .iadd, 1), (1104, .iaload, 1), (1105, .invokevirtual 133, 3), (1108, .if_icmp .eq 529, 3), (1111, .iconst 0, 1), (1112, .ireturn, 1), (1113, .aload_n 1, 1), (1114, .aload_n 0, 1), (1115, .iload_n 3, 1), (1116, .iconst 1, 1), (1117, .iadd, 1), (1118, .iaload, 1), (1119, .invokevirtual 134, 3), (1122, .aload_n 2, 1), (1123, .aload_n 0, 1), (1124, .iload_n 3, 1), (1125, .iconst 1, 1), (1126, .iadd, 1), (1127, .iaload, 1), (1128, .invokevirtual 137, 3), (1131, .if_icmp .eq 506, 3), (1134, .iconst 0, 1), (1135, .ireturn, 1), (1136, .aload_n 1, 1), (1137, .invokevirtual 138, 3), (1140, .aload_n 2, 1), (1141, .invokevirtual 141, 3), (1144, .if_icmp .eq 493, 3), (1147, .iconst 0, 1), (1148, .ireturn, 1), (1149, .aload_n 1, 1), (1150, .aload_n 0, 1), (1151, .iload_n 3, 1), (1152, .iconst 1, 1), (1153, .iadd, 1), (1154, .iaload, 1), (1155, .aload_n 0, 1), (1156, .iload_n 3, 1), (1157, .iconst 2, 1), (1158, .iadd, 1), (1159, .iaload, 1), (1160, .invokevirtual 142, 3), (1163, .aload_n 2, 1), (1164, .aload_n 0, 1), (1165, .iload_n 3, 1), (1166, .iconst 1, 1), (1167, .iadd, 1), (1168, .iaload, 1), (1169, .aload_n 0, 1), (1170, .iload_n 3, 1), (1171, .iconst 2, 1), (1172, .iadd, 1), (1173, .iaload, 1), (1174, .invokevirtual 145, 3), (1177, .if_icmp .eq 460, 3), (1180, .iconst 0, 1), (1181, .ireturn, 1), (1182, .aload_n 1, 1), (1183, .aload_n 0, 1), (1184, .iload_n 3, 1), (1185, .iconst 1, 1), (1186, .iadd, 1), (1187, .iaload, 1), (1188, .invokevirtual 146, 3), (1191, .aload_n 2, 1), (1192, .aload_n 0, 1), (1193, .iload_n 3, 1), (1194, .iconst 1, 1), (1195, .iadd, 1), (1196, .iaload, 1), (1197, .invokevirtual 149, 3), (1200, .if_icmp .eq 437, 3), (1203, .iconst 0, 1), (1204, .ireturn, 1), (1205, .aload_n 1, 1), (1206, .aload_n 0, 1), (1207, .iload_n 3, 1), (1208, .iconst 1, 1), (1209, .iadd, 1), (1210, .iaload, 1), (1211, .aload_n 0, 1), (1212, .iload_n 3, 1), (1213, .iconst 2, 1), (1214, .iadd, 1), (1215, .iaload, 1), (1216, .aload_n 0, 1), (1217, .iload_n 3, 1), (1218, .iconst 3, 1), (1219, .iadd, 1), (1220, .iaload, 1), (1221, .invokevirtual 150, 3), (1224, .aload_n 2, 1), (1225, .aload_n 0, 1), (1226, .iload_n 3, 1), (1227, .iconst 1, 1), (1228, .iadd, 1), (1229, .iaload, 1), (1230, .aload_n 0, 1), (1231, .iload_n 3, 1), (1232, .iconst 2, 1), (1233, .iadd, 1), (1234, .iaload, 1), (1235, .aload_n 0, 1), (1236, .iload_n 3, 1), (1237, .iconst 3, 1), (1238, .iadd, 1), (1239, .iaload, 1), (1240, .invokevirtual 153, 3), (1243, .if_icmp .eq 394, 3), (1246, .iconst 0, 1), (1247, .ireturn, 1), (1248, .aload_n 1, 1), (1249, .aload_n 0, 1), (1250, .iload_n 3, 1), (1251, .iconst 1, 1), (1252, .iadd, 1), (1253, .iaload, 1), (1254, .aload_n 0, 1), (1255, .iload_n 3, 1), (1256, .iconst 2, 1), (1257, .iadd, 1), (1258, .iaload, 1), (1259, .aload_n 0, 1), (1260, .iload_n 3, 1), (1261, .iconst 3, 1), (1262, .iadd, 1), (1263, .iaload, 1), (1264, .invokevirtual 154, 3), (1267, .aload_n 2, 1), (1268, .aload_n 0, 1), (1269, .iload_n 3, 1), (1270, .iconst 1, 1), (1271, .iadd, 1), (1272, .iaload, 1), (1273, .aload_n 0, 1), (1274, .iload_n 3, 1), (1275, .iconst 2, 1), (1276, .iadd, 1), (1277, .iaload, 1), (1278, .aload_n 0, 1), (1279, .iload_n 3, 1), (1280, .iconst 3, 1), (1281, .iadd, 1), (1282, .iaload, 1), (1283, .invokevirtual 157, 3), (1286, .if_icmp .eq 351, 3), (1289, .iconst 0, 1), (1290, .ireturn, 1), (1291, .aload_n 1, 1), (1292, .aload_n 0, 1), (1293, .iload_n 3, 1), (1294, .iconst 1, 1), (1295, .iadd, 1), (1296, .iaload, 1), (1297, .invokevirtual 158, 3), (1300, .aload_n 2, 1), (1301, .aload_n 0, 1), (1302, .iload_n 3, 1), (1303, .iconst 1, 1), (1304, .iadd, 1), (1305, .iaload, 1), (1306, .invokevirtual 161, 3), (1309, .if_icmp .eq 328, 3), (1312, .iconst 0, 1), (1313, .ireturn, 1), (1314, .aload_n 1, 1), (1315, .aload_n 0, 1), (1316, .iload_n 3, 1), (1317, .iconst 1, 1), (1318, .iadd, 1), (1319, .iaload, 1), (1320, .invokevirtual 162, 3), (1323, .aload_n 2, 1), (1324, .aload_n 0, 1), (1325, .iload_n 3, 1), (1326, .iconst 1, 1), (1327, .iadd, 1), (1328, .iaload, 1), (1329, .invokevirtual 165, 3), (1332, .if_icmp .eq 305, 3), (1335, .iconst 0, 1), (1336, .ireturn, 1), (1337, .aload_n 1, 1), (1338, .aload_n 0, 1), (1339, .iload_n 3, 1), (1340, .iconst 1, 1), (1341, .iadd, 1), (1342, .iaload, 1), (1343, .aload_n 0, 1), (1344, .iload_n 3, 1), (1345, .iconst 2, 1), (1346, .iadd, 1), (1347, .iaload, 1), (1348, .aload_n 0, 1), (1349, .iload_n 3, 1), (1350, .iconst 3, 1), (1351, .iadd, 1), (1352, .iaload, 1), (1353, .aload_n 0, 1), (1354, .iload_n 3, 1), (1355, .iconst 4, 1), (1356, .iadd, 1), (1357, .iaload, 1), (1358, .aload_n 0, 1), (1359, .iload_n 3, 1), (1360, .iconst 5, 1), (1361, .iadd, 1), (1362, .iaload, 1), (1363, .invokevirtual 166, 3), (1366, .aload_n 2, 1), (1367, .aload_n 0, 1), (1368, .iload_n 3, 1), (1369, .iconst 1, 1), (1370, .iadd, 1), (1371, .iaload, 1), (1372, .aload_n 0, 1), (1373, .iload_n 3, 1), (1374, .iconst 2, 1), (1375, .iadd, 1), (1376, .iaload, 1), (1377, .aload_n 0, 1), (1378, .iload_n 3, 1), (1379, .iconst 3, 1), (1380, .iadd, 1), (1381, .iaload, 1), (1382, .aload_n 0, 1), (1383, .iload_n 3, 1), (1384, .iconst 4, 1), (1385, .iadd, 1), (1386, .iaload, 1), (1387, .aload_n 0, 1), (1388, .iload_n 3, 1), (1389, .iconst 5, 1), (1390, .iadd, 1), (1391, .iaload, 1), (1392, .invokevirtual 170, 3), (1395, .if_icmp .eq 242, 3), (1398, .iconst 0, 1), (1399, .ireturn, 1), (1400, .aload_n 1, 1), (1401, .aload_n 0, 1), (1402, .iload_n 3, 1), (1403, .iconst 1, 1), (1404, .iadd, 1), (1405, .iaload, 1), (1406, .aload_n 0, 1), (1407, .iload_n 3, 1), (1408, .iconst 2, 1), (1409, .iadd, 1), (1410, .iaload, 1), (1411, .aload_n 0, 1), (1412, .iload_n 3, 1), (1413, .iconst 3, 1), (1414, .iadd, 1), (1415, .iaload, 1), (1416, .invokevirtual 171, 3), (1419, .aload_n 2, 1), (1420, .aload_n 0, 1), (1421, .iload_n 3, 1), (1422, .iconst 1, 1), (1423, .iadd, 1), (1424, .iaload, 1), (1425, .aload_n 0, 1), (1426, .iload_n 3, 1), (1427, .iconst 2, 1), (1428, .iadd, 1), (1429, .iaload, 1), (1430, .aload_n 0, 1), (1431, .iload_n 3, 1), (1432, .iconst 3, 1), (1433, .iadd, 1), (1434, .iaload, 1), (1435, .invokevirtual 174, 3), (1438, .if_icmp .eq 199, 3), (1441, .iconst 0, 1), (1442, .ireturn, 1), (1443, .aload_n 1, 1), (1444, .aload_n 0, 1), (1445, .iload_n 3, 1), (1446, .iconst 1, 1), (1447, .iadd, 1), (1448, .iaload, 1), (1449, .aload_n 0, 1), (1450, .iload_n 3, 1), (1451, .iconst 2, 1), (1452, .iadd, 1), (1453, .iaload, 1), (1454, .invokevirtual 175, 3), (1457, .aload_n 2, 1), (1458, .aload_n 0, 1), (1459, .iload_n 3, 1), (1460, .iconst 1, 1), (1461, .iadd, 1), (1462, .iaload, 1), (1463, .aload_n 0, 1), (1464, .iload_n 3, 1), (1465, .iconst 2, 1), (1466, .iadd, 1), (1467, .iaload, 1), (1468, .invokevirtual 178, 3), (1471, .if_icmp .eq 166, 3), (1474, .iconst 0, 1), (1475, .ireturn, 1), (1476, .aload_n 1, 1), (1477, .aload_n 0, 1), (1478, .iload_n 3, 1), (1479, .iconst 1, 1), (1480, .iadd, 1), (1481, .iaload, 1), (1482, .aload_n 0, 1), (1483, .iload_n 3, 1), (1484, .iconst 2, 1), (1485, .iadd, 1), (1486, .iaload, 1), (1487, .invokevirtual 179, 3), (1490, .aload_n 2, 1), (1491, .aload_n 0, 1), (1492, .iload_n 3, 1), (1493, .iconst 1, 1), (1494, .iadd, 1), (1495, .iaload, 1), (1496, .aload_n 0, 1), (1497, .iload_n 3, 1), (1498, .iconst 2, 1), (1499, .iadd, 1), (1500, .iaload, 1), (1501, .invokevirtual 182, 3), (1504, .if_icmp .eq 133, 3), (1507, .iconst 0, 1), (1508, .ireturn, 1), (1509, .aload_n 1, 1), (1510, .aload_n 0, 1), (1511, .iload_n 3, 1), (1512, .iconst 1, 1), (1513, .iadd, 1), (1514, .iaload, 1), (1515, .aload_n 0, 1), (1516, .iload_n 3, 1), (1517, .iconst 2, 1), (1518, .iadd, 1), (1519, .iaload, 1), (1520, .invokevirtual 183, 3), (1523, .aload_n 2, 1), (1524, .aload_n 0, 1), (1525, .iload_n 3, 1), (1526, .iconst 1, 1), (1527, .iadd, 1), (1528, .iaload, 1), (1529, .aload_n 0, 1), (1530, .iload_n 3, 1), (1531, .iconst 2, 1), (1532, .iadd, 1), (1533, .iaload, 1), (1534, .invokevirtual 186, 3), (1537, .if_icmp .eq 100, 3), (1540, .iconst 0, 1), (1541, .ireturn, 1), (1542, .aload_n 1, 1), (1543, .aload_n 0, 1), (1544, .iload_n 3, 1), (1545, .iconst 1, 1), (1546, .iadd, 1), (1547, .iaload, 1), (1548, .invokevirtual 187, 3), (1551, .aload_n 2, 1), (1552, .aload_n 0, 1), (1553, .iload_n 3, 1), (1554, .iconst 1, 1), (1555, .iadd, 1), (1556, .iaload, 1), (1557, .invokevirtual 190, 3), (1560, .if_icmp .eq 77, 3), (1563, .iconst 0, 1), (1564, .ireturn, 1), (1565, .aload_n 1, 1), (1566, .aload_n 0, 1), (1567, .iload_n 3, 1), (1568, .iconst 1, 1), (1569, .iadd, 1), (1570, .iaload, 1), (1571, .invokevirtual 191, 3), (1574, .aload_n 2, 1), (1575, .aload_n 0, 1), (1576, .iload_n 3, 1), (1577, .iconst 1, 1), (1578, .iadd, 1), (1579, .iaload, 1), (1580, .invokevirtual 194, 3), (1583, .if_icmp .eq 54, 3), (1586, .iconst 0, 1), (1587, .ireturn, 1), (1588, .aload_n 1, 1), (1589, .invokevirtual 195, 3), (1592, .aload_n 2, 1), (1593, .invokevirtual 198, 3), (1596, .if_icmp .eq 41, 3), (1599, .iconst 0, 1), (1600, .ireturn, 1), (1601, .aload_n 1, 1), (1602, .invokevirtual 199, 3), (1605, .aload_n 2, 1), (1606, .invokevirtual 202, 3), (1609, .if_icmp .eq 28, 3), (1612, .iconst 0, 1), (1613, .ireturn, 1), (1614, .aload_n 1, 1), (1615, .aload_n 0, 1), (1616, .iload_n 3, 1), (1617, .iconst 1, 1), (1618, .iadd, 1), (1619, .iaload, 1), (1620, .invokevirtual 203, 3), (1623, .aload_n 2, 1), (1624, .aload_n 0, 1), (1625, .iload_n 3, 1), (1626, .iconst 1, 1), (1627, .iadd, 1), (1628, .iaload, 1), (1629, .invokevirtual 206, 3), (1632, .if_icmp .eq 5, 3), (1635, .iconst 0, 1), (1636, .ireturn, 1), (1637, .iinc 3 6, 3), (1640, .goto (-1622), 3), (1643, .iconst 1, 1), (1644, .ireturn, 1)]
theorem gTb_app {cc : ByteArray} {a b : List (Nat × Instr × Nat)} (h1 : gTb cc a = true) (h2 : gTb cc b = true) : gTb cc (a ++ b) = true := by
  unfold gTb at h1 h2 ⊢
  rw [List.all_append, h1, h2]; rfl
def T_L0 : List (Nat × Instr × Nat) := [(0, .new 7, 3), (3, .dup, 1), (4, .invokespecial 9, 3), (7, .astore_n 1, 1), (8, .new 10, 3), (11, .dup, 1), (12, .invokespecial 12, 3), (15, .astore_n 2, 1), (16, .iconst 0, 1), (17, .istore_n 3, 1), (18, .iload_n 3, 1), (19, .aload_n 0, 1), (20, .arraylength, 1), (21, .bipush 6, 2), (23, .isub, 1), (24, .if_icmp .gt 1619, 3), (27, .aload_n 0, 1), (28, .iload_n 3, 1), (29, .iaload, 1), (30, .bipush 63, 2), (32, .iand, 1), (33, .tableswitch 1604 0 46 #[203, 256, 289, 322, 355, 398, 421, 444, 467, 500, 543, 576, 609, 632, 665, 688, 721, 744, 767, 800, 813, 836, 869, 902, 945, 968, 1001, 1014, 1037, 1080, 1103, 1116, 1149, 1172, 1215, 1258, 1281, 1304, 1367, 1410, 1443, 1476, 1509, 1532, 1555, 1568, 1581], 203), (236, .aload_n 1, 1), (237, .aload_n 0, 1), (238, .iload_n 3, 1)]
theorem T_L0_ok : gTb code T_L0 = true := by decide +kernel
def T_L1 : List (Nat × Instr × Nat) := [(239, .iconst 1, 1), (240, .iadd, 1), (241, .iaload, 1), (242, .aload_n 0, 1), (243, .iload_n 3, 1), (244, .iconst 2, 1), (245, .iadd, 1), (246, .iaload, 1), (247, .aload_n 0, 1), (248, .iload_n 3, 1), (249, .iconst 3, 1), (250, .iadd, 1), (251, .iaload, 1), (252, .aload_n 0, 1), (253, .iload_n 3, 1), (254, .iconst 4, 1), (255, .iadd, 1), (256, .iaload, 1), (257, .invokevirtual 13, 3), (260, .aload_n 2, 1), (261, .aload_n 0, 1), (262, .iload_n 3, 1), (263, .iconst 1, 1), (264, .iadd, 1), (265, .iaload, 1)]
theorem T_L1_ok : gTb code T_L1 = true := by decide +kernel
def T_L2 : List (Nat × Instr × Nat) := [(266, .aload_n 0, 1), (267, .iload_n 3, 1), (268, .iconst 2, 1), (269, .iadd, 1), (270, .iaload, 1), (271, .aload_n 0, 1), (272, .iload_n 3, 1), (273, .iconst 3, 1), (274, .iadd, 1), (275, .iaload, 1), (276, .aload_n 0, 1), (277, .iload_n 3, 1), (278, .iconst 4, 1), (279, .iadd, 1), (280, .iaload, 1), (281, .invokevirtual 17, 3), (284, .if_icmp .eq 1353, 3), (287, .iconst 0, 1), (288, .ireturn, 1), (289, .aload_n 1, 1), (290, .aload_n 0, 1), (291, .iload_n 3, 1), (292, .iconst 1, 1), (293, .iadd, 1), (294, .iaload, 1)]
theorem T_L2_ok : gTb code T_L2 = true := by decide +kernel
def T_L3 : List (Nat × Instr × Nat) := [(295, .aload_n 0, 1), (296, .iload_n 3, 1), (297, .iconst 2, 1), (298, .iadd, 1), (299, .iaload, 1), (300, .invokevirtual 18, 3), (303, .aload_n 2, 1), (304, .aload_n 0, 1), (305, .iload_n 3, 1), (306, .iconst 1, 1), (307, .iadd, 1), (308, .iaload, 1), (309, .aload_n 0, 1), (310, .iload_n 3, 1), (311, .iconst 2, 1), (312, .iadd, 1), (313, .iaload, 1), (314, .invokevirtual 22, 3), (317, .if_icmp .eq 1320, 3), (320, .iconst 0, 1), (321, .ireturn, 1), (322, .aload_n 1, 1), (323, .aload_n 0, 1), (324, .iload_n 3, 1), (325, .iconst 1, 1)]
theorem T_L3_ok : gTb code T_L3 = true := by decide +kernel
def T_L4 : List (Nat × Instr × Nat) := [(326, .iadd, 1), (327, .iaload, 1), (328, .aload_n 0, 1), (329, .iload_n 3, 1), (330, .iconst 2, 1), (331, .iadd, 1), (332, .iaload, 1), (333, .invokevirtual 23, 3), (336, .aload_n 2, 1), (337, .aload_n 0, 1), (338, .iload_n 3, 1), (339, .iconst 1, 1), (340, .iadd, 1), (341, .iaload, 1), (342, .aload_n 0, 1), (343, .iload_n 3, 1), (344, .iconst 2, 1), (345, .iadd, 1), (346, .iaload, 1), (347, .invokevirtual 26, 3), (350, .if_icmp .eq 1287, 3), (353, .iconst 0, 1), (354, .ireturn, 1), (355, .aload_n 1, 1), (356, .aload_n 0, 1)]
theorem T_L4_ok : gTb code T_L4 = true := by decide +kernel
def T_L5 : List (Nat × Instr × Nat) := [(357, .iload_n 3, 1), (358, .iconst 1, 1), (359, .iadd, 1), (360, .iaload, 1), (361, .aload_n 0, 1), (362, .iload_n 3, 1), (363, .iconst 2, 1), (364, .iadd, 1), (365, .iaload, 1), (366, .invokevirtual 27, 3), (369, .aload_n 2, 1), (370, .aload_n 0, 1), (371, .iload_n 3, 1), (372, .iconst 1, 1), (373, .iadd, 1), (374, .iaload, 1), (375, .aload_n 0, 1), (376, .iload_n 3, 1), (377, .iconst 2, 1), (378, .iadd, 1), (379, .iaload, 1), (380, .invokevirtual 30, 3), (383, .if_icmp .eq 1254, 3), (386, .iconst 0, 1), (387, .ireturn, 1)]
theorem T_L5_ok : gTb code T_L5 = true := by decide +kernel
def T_L6 : List (Nat × Instr × Nat) := [(388, .aload_n 1, 1), (389, .aload_n 0, 1), (390, .iload_n 3, 1), (391, .iconst 1, 1), (392, .iadd, 1), (393, .iaload, 1), (394, .aload_n 0, 1), (395, .iload_n 3, 1), (396, .iconst 2, 1), (397, .iadd, 1), (398, .iaload, 1), (399, .aload_n 0, 1), (400, .iload_n 3, 1), (401, .iconst 3, 1), (402, .iadd, 1), (403, .iaload, 1), (404, .invokevirtual 31, 3), (407, .aload_n 2, 1), (408, .aload_n 0, 1), (409, .iload_n 3, 1), (410, .iconst 1, 1), (411, .iadd, 1), (412, .iaload, 1), (413, .aload_n 0, 1), (414, .iload_n 3, 1)]
theorem T_L6_ok : gTb code T_L6 = true := by decide +kernel
def T_L7 : List (Nat × Instr × Nat) := [(415, .iconst 2, 1), (416, .iadd, 1), (417, .iaload, 1), (418, .aload_n 0, 1), (419, .iload_n 3, 1), (420, .iconst 3, 1), (421, .iadd, 1), (422, .iaload, 1), (423, .invokevirtual 35, 3), (426, .if_icmp .eq 1211, 3), (429, .iconst 0, 1), (430, .ireturn, 1), (431, .aload_n 1, 1), (432, .aload_n 0, 1), (433, .iload_n 3, 1), (434, .iconst 1, 1), (435, .iadd, 1), (436, .iaload, 1), (437, .invokevirtual 36, 3), (440, .aload_n 2, 1), (441, .aload_n 0, 1), (442, .iload_n 3, 1), (443, .iconst 1, 1), (444, .iadd, 1), (445, .iaload, 1)]
theorem T_L7_ok : gTb code T_L7 = true := by decide +kernel
def T_L8 : List (Nat × Instr × Nat) := [(446, .invokevirtual 40, 3), (449, .if_icmp .eq 1188, 3), (452, .iconst 0, 1), (453, .ireturn, 1), (454, .aload_n 1, 1), (455, .aload_n 0, 1), (456, .iload_n 3, 1), (457, .iconst 1, 1), (458, .iadd, 1), (459, .iaload, 1), (460, .invokevirtual 41, 3), (463, .aload_n 2, 1), (464, .aload_n 0, 1), (465, .iload_n 3, 1), (466, .iconst 1, 1), (467, .iadd, 1), (468, .iaload, 1), (469, .invokevirtual 44, 3), (472, .if_icmp .eq 1165, 3), (475, .iconst 0, 1), (476, .ireturn, 1), (477, .aload_n 1, 1), (478, .aload_n 0, 1), (479, .iload_n 3, 1), (480, .iconst 1, 1)]
theorem T_L8_ok : gTb code T_L8 = true := by decide +kernel
def T_L9 : List (Nat × Instr × Nat) := [(481, .iadd, 1), (482, .iaload, 1), (483, .invokevirtual 45, 3), (486, .aload_n 2, 1), (487, .aload_n 0, 1), (488, .iload_n 3, 1), (489, .iconst 1, 1), (490, .iadd, 1), (491, .iaload, 1), (492, .invokevirtual 48, 3), (495, .if_icmp .eq 1142, 3), (498, .iconst 0, 1), (499, .ireturn, 1), (500, .aload_n 1, 1), (501, .aload_n 0, 1), (502, .iload_n 3, 1), (503, .iconst 1, 1), (504, .iadd, 1), (505, .iaload, 1), (506, .aload_n 0, 1), (507, .iload_n 3, 1), (508, .iconst 2, 1), (509, .iadd, 1), (510, .iaload, 1), (511, .invokevirtual 49, 3)]
theorem T_L9_ok : gTb code T_L9 = true := by decide +kernel
def T_L10 : List (Nat × Instr × Nat) := [(514, .aload_n 2, 1), (515, .aload_n 0, 1), (516, .iload_n 3, 1), (517, .iconst 1, 1), (518, .iadd, 1), (519, .iaload, 1), (520, .aload_n 0, 1), (521, .iload_n 3, 1), (522, .iconst 2, 1), (523, .iadd, 1), (524, .iaload, 1), (525, .invokevirtual 52, 3), (528, .if_icmp .eq 1109, 3), (531, .iconst 0, 1), (532, .ireturn, 1), (533, .aload_n 1, 1), (534, .aload_n 0, 1), (535, .iload_n 3, 1), (536, .iconst 1, 1), (537, .iadd, 1), (538, .iaload, 1), (539, .aload_n 0, 1), (540, .iload_n 3, 1), (541, .iconst 2, 1), (542, .iadd, 1)]
theorem T_L10_ok : gTb code T_L10 = true := by decide +kernel
def T_L11 : List (Nat × Instr × Nat) := [(543, .iaload, 1), (544, .aload_n 0, 1), (545, .iload_n 3, 1), (546, .iconst 3, 1), (547, .iadd, 1), (548, .iaload, 1), (549, .invokevirtual 53, 3), (552, .aload_n 2, 1), (553, .aload_n 0, 1), (554, .iload_n 3, 1), (555, .iconst 1, 1), (556, .iadd, 1), (557, .iaload, 1), (558, .aload_n 0, 1), (559, .iload_n 3, 1), (560, .iconst 2, 1), (561, .iadd, 1), (562, .iaload, 1), (563, .aload_n 0, 1), (564, .iload_n 3, 1), (565, .iconst 3, 1), (566, .iadd, 1), (567, .iaload, 1), (568, .invokevirtual 56, 3), (571, .if_icmp .eq 1066, 3)]
theorem T_L11_ok : gTb code T_L11 = true := by decide +kernel
def T_L12 : List (Nat × Instr × Nat) := [(574, .iconst 0, 1), (575, .ireturn, 1), (576, .aload_n 1, 1), (577, .aload_n 0, 1), (578, .iload_n 3, 1), (579, .iconst 1, 1), (580, .iadd, 1), (581, .iaload, 1), (582, .aload_n 0, 1), (583, .iload_n 3, 1), (584, .iconst 2, 1), (585, .iadd, 1), (586, .iaload, 1), (587, .invokevirtual 57, 3), (590, .aload_n 2, 1), (591, .aload_n 0, 1), (592, .iload_n 3, 1), (593, .iconst 1, 1), (594, .iadd, 1), (595, .iaload, 1), (596, .aload_n 0, 1), (597, .iload_n 3, 1), (598, .iconst 2, 1), (599, .iadd, 1), (600, .iaload, 1)]
theorem T_L12_ok : gTb code T_L12 = true := by decide +kernel
def T_L13 : List (Nat × Instr × Nat) := [(601, .invokevirtual 60, 3), (604, .if_icmp .eq 1033, 3), (607, .iconst 0, 1), (608, .ireturn, 1), (609, .aload_n 1, 1), (610, .aload_n 0, 1), (611, .iload_n 3, 1), (612, .iconst 1, 1), (613, .iadd, 1), (614, .iaload, 1), (615, .aload_n 0, 1), (616, .iload_n 3, 1), (617, .iconst 2, 1), (618, .iadd, 1), (619, .iaload, 1), (620, .invokevirtual 61, 3), (623, .aload_n 2, 1), (624, .aload_n 0, 1), (625, .iload_n 3, 1), (626, .iconst 1, 1), (627, .iadd, 1), (628, .iaload, 1), (629, .aload_n 0, 1), (630, .iload_n 3, 1), (631, .iconst 2, 1)]
theorem T_L13_ok : gTb code T_L13 = true := by decide +kernel
def T_L14 : List (Nat × Instr × Nat) := [(632, .iadd, 1), (633, .iaload, 1), (634, .invokevirtual 64, 3), (637, .if_icmp .eq 1000, 3), (640, .iconst 0, 1), (641, .ireturn, 1), (642, .aload_n 1, 1), (643, .aload_n 0, 1), (644, .iload_n 3, 1), (645, .iconst 1, 1), (646, .iadd, 1), (647, .iaload, 1), (648, .invokevirtual 65, 3), (651, .aload_n 2, 1), (652, .aload_n 0, 1), (653, .iload_n 3, 1), (654, .iconst 1, 1), (655, .iadd, 1), (656, .iaload, 1), (657, .invokevirtual 68, 3), (660, .if_icmp .eq 977, 3), (663, .iconst 0, 1), (664, .ireturn, 1), (665, .aload_n 1, 1), (666, .aload_n 0, 1)]
theorem T_L14_ok : gTb code T_L14 = true := by decide +kernel
def T_L15 : List (Nat × Instr × Nat) := [(667, .iload_n 3, 1), (668, .iconst 1, 1), (669, .iadd, 1), (670, .iaload, 1), (671, .aload_n 0, 1), (672, .iload_n 3, 1), (673, .iconst 2, 1), (674, .iadd, 1), (675, .iaload, 1), (676, .invokevirtual 69, 3), (679, .aload_n 2, 1), (680, .aload_n 0, 1), (681, .iload_n 3, 1), (682, .iconst 1, 1), (683, .iadd, 1), (684, .iaload, 1), (685, .aload_n 0, 1), (686, .iload_n 3, 1), (687, .iconst 2, 1), (688, .iadd, 1), (689, .iaload, 1), (690, .invokevirtual 72, 3), (693, .if_icmp .eq 944, 3), (696, .iconst 0, 1), (697, .ireturn, 1)]
theorem T_L15_ok : gTb code T_L15 = true := by decide +kernel
def T_L16 : List (Nat × Instr × Nat) := [(698, .aload_n 1, 1), (699, .aload_n 0, 1), (700, .iload_n 3, 1), (701, .iconst 1, 1), (702, .iadd, 1), (703, .iaload, 1), (704, .invokevirtual 73, 3), (707, .aload_n 2, 1), (708, .aload_n 0, 1), (709, .iload_n 3, 1), (710, .iconst 1, 1), (711, .iadd, 1), (712, .iaload, 1), (713, .invokevirtual 76, 3), (716, .if_icmp .eq 921, 3), (719, .iconst 0, 1), (720, .ireturn, 1), (721, .aload_n 1, 1), (722, .aload_n 0, 1), (723, .iload_n 3, 1), (724, .iconst 1, 1), (725, .iadd, 1), (726, .iaload, 1), (727, .aload_n 0, 1), (728, .iload_n 3, 1)]
theorem T_L16_ok : gTb code T_L16 = true := by decide +kernel
def T_L17 : List (Nat × Instr × Nat) := [(729, .iconst 2, 1), (730, .iadd, 1), (731, .iaload, 1), (732, .invokevirtual 77, 3), (735, .aload_n 2, 1), (736, .aload_n 0, 1), (737, .iload_n 3, 1), (738, .iconst 1, 1), (739, .iadd, 1), (740, .iaload, 1), (741, .aload_n 0, 1), (742, .iload_n 3, 1), (743, .iconst 2, 1), (744, .iadd, 1), (745, .iaload, 1), (746, .invokevirtual 80, 3), (749, .if_icmp .eq 888, 3), (752, .iconst 0, 1), (753, .ireturn, 1), (754, .aload_n 1, 1), (755, .aload_n 0, 1), (756, .iload_n 3, 1), (757, .iconst 1, 1), (758, .iadd, 1), (759, .iaload, 1)]
theorem T_L17_ok : gTb code T_L17 = true := by decide +kernel
def T_L18 : List (Nat × Instr × Nat) := [(760, .invokevirtual 81, 3), (763, .aload_n 2, 1), (764, .aload_n 0, 1), (765, .iload_n 3, 1), (766, .iconst 1, 1), (767, .iadd, 1), (768, .iaload, 1), (769, .invokevirtual 84, 3), (772, .if_icmp .eq 865, 3), (775, .iconst 0, 1), (776, .ireturn, 1), (777, .aload_n 1, 1), (778, .aload_n 0, 1), (779, .iload_n 3, 1), (780, .iconst 1, 1), (781, .iadd, 1), (782, .iaload, 1), (783, .invokevirtual 85, 3), (786, .aload_n 2, 1), (787, .aload_n 0, 1), (788, .iload_n 3, 1), (789, .iconst 1, 1), (790, .iadd, 1), (791, .iaload, 1), (792, .invokevirtual 88, 3)]
theorem T_L18_ok : gTb code T_L18 = true := by decide +kernel
def T_L19 : List (Nat × Instr × Nat) := [(795, .if_icmp .eq 842, 3), (798, .iconst 0, 1), (799, .ireturn, 1), (800, .aload_n 1, 1), (801, .aload_n 0, 1), (802, .iload_n 3, 1), (803, .iconst 1, 1), (804, .iadd, 1), (805, .iaload, 1), (806, .aload_n 0, 1), (807, .iload_n 3, 1), (808, .iconst 2, 1), (809, .iadd, 1), (810, .iaload, 1), (811, .invokevirtual 89, 3), (814, .aload_n 2, 1), (815, .aload_n 0, 1), (816, .iload_n 3, 1), (817, .iconst 1, 1), (818, .iadd, 1), (819, .iaload, 1), (820, .aload_n 0, 1), (821, .iload_n 3, 1), (822, .iconst 2, 1), (823, .iadd, 1)]
theorem T_L19_ok : gTb code T_L19 = true := by decide +kernel
def T_L20 : List (Nat × Instr × Nat) := [(824, .iaload, 1), (825, .invokevirtual 92, 3), (828, .if_icmp .eq 809, 3), (831, .iconst 0, 1), (832, .ireturn, 1), (833, .aload_n 1, 1), (834, .invokevirtual 93, 3), (837, .aload_n 2, 1), (838, .invokevirtual 97, 3), (841, .if_icmp .eq 796, 3), (844, .iconst 0, 1), (845, .ireturn, 1), (846, .aload_n 1, 1), (847, .aload_n 0, 1), (848, .iload_n 3, 1), (849, .iconst 1, 1), (850, .iadd, 1), (851, .iaload, 1), (852, .invokevirtual 98, 3), (855, .aload_n 2, 1), (856, .aload_n 0, 1), (857, .iload_n 3, 1), (858, .iconst 1, 1), (859, .iadd, 1), (860, .iaload, 1)]
theorem T_L20_ok : gTb code T_L20 = true := by decide +kernel
def T_L21 : List (Nat × Instr × Nat) := [(861, .invokevirtual 101, 3), (864, .if_icmp .eq 773, 3), (867, .iconst 0, 1), (868, .ireturn, 1), (869, .aload_n 1, 1), (870, .aload_n 0, 1), (871, .iload_n 3, 1), (872, .iconst 1, 1), (873, .iadd, 1), (874, .iaload, 1), (875, .aload_n 0, 1), (876, .iload_n 3, 1), (877, .iconst 2, 1), (878, .iadd, 1), (879, .iaload, 1), (880, .invokevirtual 102, 3), (883, .aload_n 2, 1), (884, .aload_n 0, 1), (885, .iload_n 3, 1), (886, .iconst 1, 1), (887, .iadd, 1), (888, .iaload, 1), (889, .aload_n 0, 1), (890, .iload_n 3, 1), (891, .iconst 2, 1)]
theorem T_L21_ok : gTb code T_L21 = true := by decide +kernel
def T_L22 : List (Nat × Instr × Nat) := [(892, .iadd, 1), (893, .iaload, 1), (894, .invokevirtual 105, 3), (897, .if_icmp .eq 740, 3), (900, .iconst 0, 1), (901, .ireturn, 1), (902, .aload_n 1, 1), (903, .aload_n 0, 1), (904, .iload_n 3, 1), (905, .iconst 1, 1), (906, .iadd, 1), (907, .iaload, 1), (908, .aload_n 0, 1), (909, .iload_n 3, 1), (910, .iconst 2, 1), (911, .iadd, 1), (912, .iaload, 1), (913, .invokevirtual 106, 3), (916, .aload_n 2, 1), (917, .aload_n 0, 1), (918, .iload_n 3, 1), (919, .iconst 1, 1), (920, .iadd, 1), (921, .iaload, 1), (922, .aload_n 0, 1)]
theorem T_L22_ok : gTb code T_L22 = true := by decide +kernel
def T_L23 : List (Nat × Instr × Nat) := [(923, .iload_n 3, 1), (924, .iconst 2, 1), (925, .iadd, 1), (926, .iaload, 1), (927, .invokevirtual 109, 3), (930, .if_icmp .eq 707, 3), (933, .iconst 0, 1), (934, .ireturn, 1), (935, .aload_n 1, 1), (936, .aload_n 0, 1), (937, .iload_n 3, 1), (938, .iconst 1, 1), (939, .iadd, 1), (940, .iaload, 1), (941, .aload_n 0, 1), (942, .iload_n 3, 1), (943, .iconst 2, 1), (944, .iadd, 1), (945, .iaload, 1), (946, .aload_n 0, 1), (947, .iload_n 3, 1), (948, .iconst 3, 1), (949, .iadd, 1), (950, .iaload, 1), (951, .invokevirtual 110, 3)]
theorem T_L23_ok : gTb code T_L23 = true := by decide +kernel
def T_L24 : List (Nat × Instr × Nat) := [(954, .aload_n 2, 1), (955, .aload_n 0, 1), (956, .iload_n 3, 1), (957, .iconst 1, 1), (958, .iadd, 1), (959, .iaload, 1), (960, .aload_n 0, 1), (961, .iload_n 3, 1), (962, .iconst 2, 1), (963, .iadd, 1), (964, .iaload, 1), (965, .aload_n 0, 1), (966, .iload_n 3, 1), (967, .iconst 3, 1), (968, .iadd, 1), (969, .iaload, 1), (970, .invokevirtual 113, 3), (973, .if_icmp .eq 664, 3), (976, .iconst 0, 1), (977, .ireturn, 1), (978, .aload_n 1, 1), (979, .aload_n 0, 1), (980, .iload_n 3, 1), (981, .iconst 1, 1), (982, .iadd, 1)]
theorem T_L24_ok : gTb code T_L24 = true := by decide +kernel
def T_L25 : List (Nat × Instr × Nat) := [(983, .iaload, 1), (984, .invokevirtual 114, 3), (987, .aload_n 2, 1), (988, .aload_n 0, 1), (989, .iload_n 3, 1), (990, .iconst 1, 1), (991, .iadd, 1), (992, .iaload, 1), (993, .invokevirtual 117, 3), (996, .if_icmp .eq 641, 3), (999, .iconst 0, 1), (1000, .ireturn, 1), (1001, .aload_n 1, 1), (1002, .aload_n 0, 1), (1003, .iload_n 3, 1), (1004, .iconst 1, 1), (1005, .iadd, 1), (1006, .iaload, 1), (1007, .aload_n 0, 1), (1008, .iload_n 3, 1), (1009, .iconst 2, 1), (1010, .iadd, 1), (1011, .iaload, 1), (1012, .invokevirtual 118, 3), (1015, .aload_n 2, 1)]
theorem T_L25_ok : gTb code T_L25 = true := by decide +kernel
def T_L26 : List (Nat × Instr × Nat) := [(1016, .aload_n 0, 1), (1017, .iload_n 3, 1), (1018, .iconst 1, 1), (1019, .iadd, 1), (1020, .iaload, 1), (1021, .aload_n 0, 1), (1022, .iload_n 3, 1), (1023, .iconst 2, 1), (1024, .iadd, 1), (1025, .iaload, 1), (1026, .invokevirtual 121, 3), (1029, .if_icmp .eq 608, 3), (1032, .iconst 0, 1), (1033, .ireturn, 1), (1034, .aload_n 1, 1), (1035, .invokevirtual 122, 3), (1038, .aload_n 2, 1), (1039, .invokevirtual 125, 3), (1042, .if_icmp .eq 595, 3), (1045, .iconst 0, 1), (1046, .ireturn, 1), (1047, .aload_n 1, 1), (1048, .aload_n 0, 1), (1049, .iload_n 3, 1), (1050, .iconst 1, 1)]
theorem T_L26_ok : gTb code T_L26 = true := by decide +kernel
def T_L27 : List (Nat × Instr × Nat) := [(1051, .iadd, 1), (1052, .iaload, 1), (1053, .invokevirtual 126, 3), (1056, .aload_n 2, 1), (1057, .aload_n 0, 1), (1058, .iload_n 3, 1), (1059, .iconst 1, 1), (1060, .iadd, 1), (1061, .iaload, 1), (1062, .invokevirtual 129, 3), (1065, .if_icmp .eq 572, 3), (1068, .iconst 0, 1), (1069, .ireturn, 1), (1070, .aload_n 1, 1), (1071, .aload_n 0, 1), (1072, .iload_n 3, 1), (1073, .iconst 1, 1), (1074, .iadd, 1), (1075, .iaload, 1), (1076, .aload_n 0, 1), (1077, .iload_n 3, 1), (1078, .iconst 2, 1), (1079, .iadd, 1), (1080, .iaload, 1), (1081, .aload_n 0, 1)]
theorem T_L27_ok : gTb code T_L27 = true := by decide +kernel
def T_L28 : List (Nat × Instr × Nat) := [(1082, .iload_n 3, 1), (1083, .iconst 3, 1), (1084, .iadd, 1), (1085, .iaload, 1), (1086, .invokevirtual 130, 3), (1089, .aload_n 2, 1), (1090, .aload_n 0, 1), (1091, .iload_n 3, 1), (1092, .iconst 1, 1), (1093, .iadd, 1), (1094, .iaload, 1), (1095, .aload_n 0, 1), (1096, .iload_n 3, 1), (1097, .iconst 2, 1), (1098, .iadd, 1), (1099, .iaload, 1), (1100, .aload_n 0, 1), (1101, .iload_n 3, 1), (1102, .iconst 3, 1), (1103, .iadd, 1), (1104, .iaload, 1), (1105, .invokevirtual 133, 3), (1108, .if_icmp .eq 529, 3), (1111, .iconst 0, 1), (1112, .ireturn, 1)]
theorem T_L28_ok : gTb code T_L28 = true := by decide +kernel
def T_L29 : List (Nat × Instr × Nat) := [(1113, .aload_n 1, 1), (1114, .aload_n 0, 1), (1115, .iload_n 3, 1), (1116, .iconst 1, 1), (1117, .iadd, 1), (1118, .iaload, 1), (1119, .invokevirtual 134, 3), (1122, .aload_n 2, 1), (1123, .aload_n 0, 1), (1124, .iload_n 3, 1), (1125, .iconst 1, 1), (1126, .iadd, 1), (1127, .iaload, 1), (1128, .invokevirtual 137, 3), (1131, .if_icmp .eq 506, 3), (1134, .iconst 0, 1), (1135, .ireturn, 1), (1136, .aload_n 1, 1), (1137, .invokevirtual 138, 3), (1140, .aload_n 2, 1), (1141, .invokevirtual 141, 3), (1144, .if_icmp .eq 493, 3), (1147, .iconst 0, 1), (1148, .ireturn, 1), (1149, .aload_n 1, 1)]
theorem T_L29_ok : gTb code T_L29 = true := by decide +kernel
def T_L30 : List (Nat × Instr × Nat) := [(1150, .aload_n 0, 1), (1151, .iload_n 3, 1), (1152, .iconst 1, 1), (1153, .iadd, 1), (1154, .iaload, 1), (1155, .aload_n 0, 1), (1156, .iload_n 3, 1), (1157, .iconst 2, 1), (1158, .iadd, 1), (1159, .iaload, 1), (1160, .invokevirtual 142, 3), (1163, .aload_n 2, 1), (1164, .aload_n 0, 1), (1165, .iload_n 3, 1), (1166, .iconst 1, 1), (1167, .iadd, 1), (1168, .iaload, 1), (1169, .aload_n 0, 1), (1170, .iload_n 3, 1), (1171, .iconst 2, 1), (1172, .iadd, 1), (1173, .iaload, 1), (1174, .invokevirtual 145, 3), (1177, .if_icmp .eq 460, 3), (1180, .iconst 0, 1)]
theorem T_L30_ok : gTb code T_L30 = true := by decide +kernel
def T_L31 : List (Nat × Instr × Nat) := [(1181, .ireturn, 1), (1182, .aload_n 1, 1), (1183, .aload_n 0, 1), (1184, .iload_n 3, 1), (1185, .iconst 1, 1), (1186, .iadd, 1), (1187, .iaload, 1), (1188, .invokevirtual 146, 3), (1191, .aload_n 2, 1), (1192, .aload_n 0, 1), (1193, .iload_n 3, 1), (1194, .iconst 1, 1), (1195, .iadd, 1), (1196, .iaload, 1), (1197, .invokevirtual 149, 3), (1200, .if_icmp .eq 437, 3), (1203, .iconst 0, 1), (1204, .ireturn, 1), (1205, .aload_n 1, 1), (1206, .aload_n 0, 1), (1207, .iload_n 3, 1), (1208, .iconst 1, 1), (1209, .iadd, 1), (1210, .iaload, 1), (1211, .aload_n 0, 1)]
theorem T_L31_ok : gTb code T_L31 = true := by decide +kernel
def T_L32 : List (Nat × Instr × Nat) := [(1212, .iload_n 3, 1), (1213, .iconst 2, 1), (1214, .iadd, 1), (1215, .iaload, 1), (1216, .aload_n 0, 1), (1217, .iload_n 3, 1), (1218, .iconst 3, 1), (1219, .iadd, 1), (1220, .iaload, 1), (1221, .invokevirtual 150, 3), (1224, .aload_n 2, 1), (1225, .aload_n 0, 1), (1226, .iload_n 3, 1), (1227, .iconst 1, 1), (1228, .iadd, 1), (1229, .iaload, 1), (1230, .aload_n 0, 1), (1231, .iload_n 3, 1), (1232, .iconst 2, 1), (1233, .iadd, 1), (1234, .iaload, 1), (1235, .aload_n 0, 1), (1236, .iload_n 3, 1), (1237, .iconst 3, 1), (1238, .iadd, 1)]
theorem T_L32_ok : gTb code T_L32 = true := by decide +kernel
def T_L33 : List (Nat × Instr × Nat) := [(1239, .iaload, 1), (1240, .invokevirtual 153, 3), (1243, .if_icmp .eq 394, 3), (1246, .iconst 0, 1), (1247, .ireturn, 1), (1248, .aload_n 1, 1), (1249, .aload_n 0, 1), (1250, .iload_n 3, 1), (1251, .iconst 1, 1), (1252, .iadd, 1), (1253, .iaload, 1), (1254, .aload_n 0, 1), (1255, .iload_n 3, 1), (1256, .iconst 2, 1), (1257, .iadd, 1), (1258, .iaload, 1), (1259, .aload_n 0, 1), (1260, .iload_n 3, 1), (1261, .iconst 3, 1), (1262, .iadd, 1), (1263, .iaload, 1), (1264, .invokevirtual 154, 3), (1267, .aload_n 2, 1), (1268, .aload_n 0, 1), (1269, .iload_n 3, 1)]
theorem T_L33_ok : gTb code T_L33 = true := by decide +kernel
def T_L34 : List (Nat × Instr × Nat) := [(1270, .iconst 1, 1), (1271, .iadd, 1), (1272, .iaload, 1), (1273, .aload_n 0, 1), (1274, .iload_n 3, 1), (1275, .iconst 2, 1), (1276, .iadd, 1), (1277, .iaload, 1), (1278, .aload_n 0, 1), (1279, .iload_n 3, 1), (1280, .iconst 3, 1), (1281, .iadd, 1), (1282, .iaload, 1), (1283, .invokevirtual 157, 3), (1286, .if_icmp .eq 351, 3), (1289, .iconst 0, 1), (1290, .ireturn, 1), (1291, .aload_n 1, 1), (1292, .aload_n 0, 1), (1293, .iload_n 3, 1), (1294, .iconst 1, 1), (1295, .iadd, 1), (1296, .iaload, 1), (1297, .invokevirtual 158, 3), (1300, .aload_n 2, 1)]
theorem T_L34_ok : gTb code T_L34 = true := by decide +kernel
def T_L35 : List (Nat × Instr × Nat) := [(1301, .aload_n 0, 1), (1302, .iload_n 3, 1), (1303, .iconst 1, 1), (1304, .iadd, 1), (1305, .iaload, 1), (1306, .invokevirtual 161, 3), (1309, .if_icmp .eq 328, 3), (1312, .iconst 0, 1), (1313, .ireturn, 1), (1314, .aload_n 1, 1), (1315, .aload_n 0, 1), (1316, .iload_n 3, 1), (1317, .iconst 1, 1), (1318, .iadd, 1), (1319, .iaload, 1), (1320, .invokevirtual 162, 3), (1323, .aload_n 2, 1), (1324, .aload_n 0, 1), (1325, .iload_n 3, 1), (1326, .iconst 1, 1), (1327, .iadd, 1), (1328, .iaload, 1), (1329, .invokevirtual 165, 3), (1332, .if_icmp .eq 305, 3), (1335, .iconst 0, 1)]
theorem T_L35_ok : gTb code T_L35 = true := by decide +kernel
def T_L36 : List (Nat × Instr × Nat) := [(1336, .ireturn, 1), (1337, .aload_n 1, 1), (1338, .aload_n 0, 1), (1339, .iload_n 3, 1), (1340, .iconst 1, 1), (1341, .iadd, 1), (1342, .iaload, 1), (1343, .aload_n 0, 1), (1344, .iload_n 3, 1), (1345, .iconst 2, 1), (1346, .iadd, 1), (1347, .iaload, 1), (1348, .aload_n 0, 1), (1349, .iload_n 3, 1), (1350, .iconst 3, 1), (1351, .iadd, 1), (1352, .iaload, 1), (1353, .aload_n 0, 1), (1354, .iload_n 3, 1), (1355, .iconst 4, 1), (1356, .iadd, 1), (1357, .iaload, 1), (1358, .aload_n 0, 1), (1359, .iload_n 3, 1), (1360, .iconst 5, 1)]
theorem T_L36_ok : gTb code T_L36 = true := by decide +kernel
def T_L37 : List (Nat × Instr × Nat) := [(1361, .iadd, 1), (1362, .iaload, 1), (1363, .invokevirtual 166, 3), (1366, .aload_n 2, 1), (1367, .aload_n 0, 1), (1368, .iload_n 3, 1), (1369, .iconst 1, 1), (1370, .iadd, 1), (1371, .iaload, 1), (1372, .aload_n 0, 1), (1373, .iload_n 3, 1), (1374, .iconst 2, 1), (1375, .iadd, 1), (1376, .iaload, 1), (1377, .aload_n 0, 1), (1378, .iload_n 3, 1), (1379, .iconst 3, 1), (1380, .iadd, 1), (1381, .iaload, 1), (1382, .aload_n 0, 1), (1383, .iload_n 3, 1), (1384, .iconst 4, 1), (1385, .iadd, 1), (1386, .iaload, 1), (1387, .aload_n 0, 1)]
theorem T_L37_ok : gTb code T_L37 = true := by decide +kernel
def T_L38 : List (Nat × Instr × Nat) := [(1388, .iload_n 3, 1), (1389, .iconst 5, 1), (1390, .iadd, 1), (1391, .iaload, 1), (1392, .invokevirtual 170, 3), (1395, .if_icmp .eq 242, 3), (1398, .iconst 0, 1), (1399, .ireturn, 1), (1400, .aload_n 1, 1), (1401, .aload_n 0, 1), (1402, .iload_n 3, 1), (1403, .iconst 1, 1), (1404, .iadd, 1), (1405, .iaload, 1), (1406, .aload_n 0, 1), (1407, .iload_n 3, 1), (1408, .iconst 2, 1), (1409, .iadd, 1), (1410, .iaload, 1), (1411, .aload_n 0, 1), (1412, .iload_n 3, 1), (1413, .iconst 3, 1), (1414, .iadd, 1), (1415, .iaload, 1), (1416, .invokevirtual 171, 3)]
theorem T_L38_ok : gTb code T_L38 = true := by decide +kernel
def T_L39 : List (Nat × Instr × Nat) := [(1419, .aload_n 2, 1), (1420, .aload_n 0, 1), (1421, .iload_n 3, 1), (1422, .iconst 1, 1), (1423, .iadd, 1), (1424, .iaload, 1), (1425, .aload_n 0, 1), (1426, .iload_n 3, 1), (1427, .iconst 2, 1), (1428, .iadd, 1), (1429, .iaload, 1), (1430, .aload_n 0, 1), (1431, .iload_n 3, 1), (1432, .iconst 3, 1), (1433, .iadd, 1), (1434, .iaload, 1), (1435, .invokevirtual 174, 3), (1438, .if_icmp .eq 199, 3), (1441, .iconst 0, 1), (1442, .ireturn, 1), (1443, .aload_n 1, 1), (1444, .aload_n 0, 1), (1445, .iload_n 3, 1), (1446, .iconst 1, 1), (1447, .iadd, 1)]
theorem T_L39_ok : gTb code T_L39 = true := by decide +kernel
def T_L40 : List (Nat × Instr × Nat) := [(1448, .iaload, 1), (1449, .aload_n 0, 1), (1450, .iload_n 3, 1), (1451, .iconst 2, 1), (1452, .iadd, 1), (1453, .iaload, 1), (1454, .invokevirtual 175, 3), (1457, .aload_n 2, 1), (1458, .aload_n 0, 1), (1459, .iload_n 3, 1), (1460, .iconst 1, 1), (1461, .iadd, 1), (1462, .iaload, 1), (1463, .aload_n 0, 1), (1464, .iload_n 3, 1), (1465, .iconst 2, 1), (1466, .iadd, 1), (1467, .iaload, 1), (1468, .invokevirtual 178, 3), (1471, .if_icmp .eq 166, 3), (1474, .iconst 0, 1), (1475, .ireturn, 1), (1476, .aload_n 1, 1), (1477, .aload_n 0, 1), (1478, .iload_n 3, 1)]
theorem T_L40_ok : gTb code T_L40 = true := by decide +kernel
def T_L41 : List (Nat × Instr × Nat) := [(1479, .iconst 1, 1), (1480, .iadd, 1), (1481, .iaload, 1), (1482, .aload_n 0, 1), (1483, .iload_n 3, 1), (1484, .iconst 2, 1), (1485, .iadd, 1), (1486, .iaload, 1), (1487, .invokevirtual 179, 3), (1490, .aload_n 2, 1), (1491, .aload_n 0, 1), (1492, .iload_n 3, 1), (1493, .iconst 1, 1), (1494, .iadd, 1), (1495, .iaload, 1), (1496, .aload_n 0, 1), (1497, .iload_n 3, 1), (1498, .iconst 2, 1), (1499, .iadd, 1), (1500, .iaload, 1), (1501, .invokevirtual 182, 3), (1504, .if_icmp .eq 133, 3), (1507, .iconst 0, 1), (1508, .ireturn, 1), (1509, .aload_n 1, 1)]
theorem T_L41_ok : gTb code T_L41 = true := by decide +kernel
def T_L42 : List (Nat × Instr × Nat) := [(1510, .aload_n 0, 1), (1511, .iload_n 3, 1), (1512, .iconst 1, 1), (1513, .iadd, 1), (1514, .iaload, 1), (1515, .aload_n 0, 1), (1516, .iload_n 3, 1), (1517, .iconst 2, 1), (1518, .iadd, 1), (1519, .iaload, 1), (1520, .invokevirtual 183, 3), (1523, .aload_n 2, 1), (1524, .aload_n 0, 1), (1525, .iload_n 3, 1), (1526, .iconst 1, 1), (1527, .iadd, 1), (1528, .iaload, 1), (1529, .aload_n 0, 1), (1530, .iload_n 3, 1), (1531, .iconst 2, 1), (1532, .iadd, 1), (1533, .iaload, 1), (1534, .invokevirtual 186, 3), (1537, .if_icmp .eq 100, 3), (1540, .iconst 0, 1)]
theorem T_L42_ok : gTb code T_L42 = true := by decide +kernel
def T_L43 : List (Nat × Instr × Nat) := [(1541, .ireturn, 1), (1542, .aload_n 1, 1), (1543, .aload_n 0, 1), (1544, .iload_n 3, 1), (1545, .iconst 1, 1), (1546, .iadd, 1), (1547, .iaload, 1), (1548, .invokevirtual 187, 3), (1551, .aload_n 2, 1), (1552, .aload_n 0, 1), (1553, .iload_n 3, 1), (1554, .iconst 1, 1), (1555, .iadd, 1), (1556, .iaload, 1), (1557, .invokevirtual 190, 3), (1560, .if_icmp .eq 77, 3), (1563, .iconst 0, 1), (1564, .ireturn, 1), (1565, .aload_n 1, 1), (1566, .aload_n 0, 1), (1567, .iload_n 3, 1), (1568, .iconst 1, 1), (1569, .iadd, 1), (1570, .iaload, 1), (1571, .invokevirtual 191, 3)]
theorem T_L43_ok : gTb code T_L43 = true := by decide +kernel
def T_L44 : List (Nat × Instr × Nat) := [(1574, .aload_n 2, 1), (1575, .aload_n 0, 1), (1576, .iload_n 3, 1), (1577, .iconst 1, 1), (1578, .iadd, 1), (1579, .iaload, 1), (1580, .invokevirtual 194, 3), (1583, .if_icmp .eq 54, 3), (1586, .iconst 0, 1), (1587, .ireturn, 1), (1588, .aload_n 1, 1), (1589, .invokevirtual 195, 3), (1592, .aload_n 2, 1), (1593, .invokevirtual 198, 3), (1596, .if_icmp .eq 41, 3), (1599, .iconst 0, 1), (1600, .ireturn, 1), (1601, .aload_n 1, 1), (1602, .invokevirtual 199, 3), (1605, .aload_n 2, 1), (1606, .invokevirtual 202, 3), (1609, .if_icmp .eq 28, 3), (1612, .iconst 0, 1), (1613, .ireturn, 1), (1614, .aload_n 1, 1)]
theorem T_L44_ok : gTb code T_L44 = true := by decide +kernel
def T_L45 : List (Nat × Instr × Nat) := [(1615, .aload_n 0, 1), (1616, .iload_n 3, 1), (1617, .iconst 1, 1), (1618, .iadd, 1), (1619, .iaload, 1), (1620, .invokevirtual 203, 3), (1623, .aload_n 2, 1), (1624, .aload_n 0, 1), (1625, .iload_n 3, 1), (1626, .iconst 1, 1), (1627, .iadd, 1), (1628, .iaload, 1), (1629, .invokevirtual 206, 3), (1632, .if_icmp .eq 5, 3), (1635, .iconst 0, 1), (1636, .ireturn, 1), (1637, .iinc 3 6, 3), (1640, .goto (-1622), 3), (1643, .iconst 1, 1), (1644, .ireturn, 1)]
theorem T_L45_ok : gTb code T_L45 = true := by decide +kernel
set_option maxRecDepth 20000 in
theorem T_L_eq : T_L = (T_L0 ++ (T_L1 ++ (T_L2 ++ (T_L3 ++ (T_L4 ++ (T_L5 ++ (T_L6 ++ (T_L7 ++ (T_L8 ++ (T_L9 ++ (T_L10 ++ (T_L11 ++ (T_L12 ++ (T_L13 ++ (T_L14 ++ (T_L15 ++ (T_L16 ++ (T_L17 ++ (T_L18 ++ (T_L19 ++ (T_L20 ++ (T_L21 ++ (T_L22 ++ (T_L23 ++ (T_L24 ++ (T_L25 ++ (T_L26 ++ (T_L27 ++ (T_L28 ++ (T_L29 ++ (T_L30 ++ (T_L31 ++ (T_L32 ++ (T_L33 ++ (T_L34 ++ (T_L35 ++ (T_L36 ++ (T_L37 ++ (T_L38 ++ (T_L39 ++ (T_L40 ++ (T_L41 ++ (T_L42 ++ (T_L43 ++ (T_L44 ++ T_L45))))))))))))))))))))))))))))))))))))))))))))) := by decide +kernel
theorem T_L_ok : gTb code T_L = true := by
  rw [T_L_eq]
  exact (gTb_app T_L0_ok (gTb_app T_L1_ok (gTb_app T_L2_ok (gTb_app T_L3_ok (gTb_app T_L4_ok (gTb_app T_L5_ok (gTb_app T_L6_ok (gTb_app T_L7_ok (gTb_app T_L8_ok (gTb_app T_L9_ok (gTb_app T_L10_ok (gTb_app T_L11_ok (gTb_app T_L12_ok (gTb_app T_L13_ok (gTb_app T_L14_ok (gTb_app T_L15_ok (gTb_app T_L16_ok (gTb_app T_L17_ok (gTb_app T_L18_ok (gTb_app T_L19_ok (gTb_app T_L20_ok (gTb_app T_L21_ok (gTb_app T_L22_ok (gTb_app T_L23_ok (gTb_app T_L24_ok (gTb_app T_L25_ok (gTb_app T_L26_ok (gTb_app T_L27_ok (gTb_app T_L28_ok (gTb_app T_L29_ok (gTb_app T_L30_ok (gTb_app T_L31_ok (gTb_app T_L32_ok (gTb_app T_L33_ok (gTb_app T_L34_ok (gTb_app T_L35_ok (gTb_app T_L36_ok (gTb_app T_L37_ok (gTb_app T_L38_ok (gTb_app T_L39_ok (gTb_app T_L40_ok (gTb_app T_L41_ok (gTb_app T_L42_ok (gTb_app T_L43_ok (gTb_app T_L44_ok T_L45_ok)))))))))))))))))))))))))))))))))))))))))))))
/-- what stands beside the law's body -/
def ELaw (b L : Nat) (xs : Nat → Int32) : (p : Program) → (l : Launch) → (e : Env) → (s : State) → (m : MethodId) → (args : Array Value) → (below : List Frame) → (meth : Method) → (c : Code) → (A : Nat → Prop) → (D : va_G) → (cy : Nat → ClassId) → (Q : State → Prop) → Prop :=
  fun _ _ _ s _ args below _ c A _ _ Q => args = #[Value.ref b] ∧ Q = lw_Z below #[Value.ref b] s ∧ va_X b L xs s s.heap ∧ b < s.heap.size ∧ (∀ q, A q → s.heap.size ≤ q) ∧ c.code = code
def lawls (b : Nat) (ad : Nat → Nat) (i : Nat) : List (Nat × Value) := [(0, .ref b), (1, .ref (ad 0)), (2, .ref (ad 65)), (3, .int (Int32.ofNat i))]
theorem g_sld {g : Nat → List (Nat × Value) → List Value → gS → Prop} {Z : List gH} {ad : Nat → Nat} {nc ns b L i : Nat} {xs : Nat → Int32} {pc : Nat} {st : List Value} {σ : gS} {ls : List (Nat × Value)} (C : gOkQ g T_L RL 4 ret room_1 Z ad nc ns (ELaw b L xs)) (j : Nat) {x : Int32} (hd : T_L[j]? = some (pc, .iaload, 1)) (hxi : x = Int32.ofNat i) (hi : i < L) (hL : L < 2 ^ 31) (k : g (pc + 1) ls (.int (xs i) :: st) σ) : g pc ls (.int x :: .ref b :: st) σ := by
  obtain ⟨p, l, e, s, m, args, below, meth, c, A, D, cy, Q, hx, hT, hr, hml, hown, hts, hlk, hK, hA, hY, hE, hnc, hns, rfl⟩ := C
  obtain ⟨hargs, hQ, hX, hbl, hAA, hcode⟩ := id hE
  have hbA : ¬ A b := fun q => absurd (hAA b q) (Nat.not_le.mpr hbl)
  intro H locs la hP hD hS hl
  subst hxi
  have hk := k H locs la hP hD hS hl
  have e1 : (Int32.ofNat i).toNatClampNeg = i := nnk (by omega)
  exact va_sld hx rfl hX hbl hbA hS (vink hi hL) (hT j _ _ _ hd) (by rw [e1]; exact hk)
theorem g_slen {g : Nat → List (Nat × Value) → List Value → gS → Prop} {Z : List gH} {ad : Nat → Nat} {nc ns b L : Nat} {xs : Nat → Int32} {pc : Nat} {st : List Value} {σ : gS} {ls : List (Nat × Value)} (C : gOkQ g T_L RL 4 ret room_1 Z ad nc ns (ELaw b L xs)) (j : Nat) (hd : T_L[j]? = some (pc, .arraylength, 1)) (k : g (pc + 1) ls (.int (Int32.ofNat L) :: st) σ) : g pc ls (.ref b :: st) σ := by
  obtain ⟨p, l, e, s, m, args, below, meth, c, A, D, cy, Q, hx, hT, hr, hml, hown, hts, hlk, hK, hA, hY, hE, hnc, hns, rfl⟩ := C
  obtain ⟨hargs, hQ, hX, hbl, hAA, hcode⟩ := id hE
  have hbA : ¬ A b := fun q => absurd (hAA b q) (Nat.not_le.mpr hbl)
  intro H locs la hP hD hS hl
  exact va_slen hx rfl hX hbl hbA hS (hT j _ _ _ hd) (k H locs la hP hD hS hl)
theorem g_arg {g : Nat → List (Nat × Value) → List Value → gS → Prop} {Z : List gH} {ad : Nat → Nat} {nc ns b L i : Nat} {xs : Nat → Int32} {pc : Nat} {st : List Value} {σ : gS} (C : gOkQ g T_L RL 4 ret room_1 Z ad nc ns (ELaw b L xs)) (j q : Nat) (hd0 : T_L[j]? = some (pc, .aload_n 0, 1)) (hd1 : T_L[j + 1]? = some (pc + 1, .iload_n 3, 1)) (hd2 : T_L[j + 2]? = some (pc + 2, .iconst (Int.ofNat q), 1)) (hd3 : T_L[j + 3]? = some (pc + 3, .iadd, 1)) (hd4 : T_L[j + 4]? = some (pc + 4, .iaload, 1)) (hi : i + 6 ≤ L) (hq : q < 6) (hL : L ≤ 3072) (k : g (pc + 5) (lawls b ad i) (.int (xs (i + q)) :: st) σ) : g pc (lawls b ad i) st σ := by
  refine g_aload_n C j 0 hd0 rfl ?_
  refine g_iload_n C (j + 1) 3 hd1 rfl ?_
  refine g_iconst (v := Int32.ofNat q) C (j + 2) hd2 rfl ?_
  refine g_iadd C (j + 3) hd3 ?_
  exact g_sld (i := i + q) C (j + 4) hd4 (addk i q) (by omega) (by omega) k
theorem g_widen {g : Nat → List (Nat × Value) → List Value → gS → Prop} {Z : List gH} {ad : Nat → Nat} {nc ns b L : Nat} {xs : Nat → Int32} {pc : Nat} {st : List Value} {σ : gS} {ls : List (Nat × Value)} (C : gOkQ g T_L RL 4 ret room_1 Z ad nc ns (ELaw b L xs)) (hc : nc + 2 ≤ 600000) (hs : ns + 99 ≤ 7302250) (k : ∀ g2, gOkQ g2 T_L RL 4 ret room_1 Z ad (nc + 2) (ns + 99) (ELaw b L xs) → g2 pc ls st σ) : g pc ls st σ := by
  obtain ⟨p, l, e, s, m, args, below, meth, c, A, D, cy, Q, hx, hT, hr, hml, hown, hts, hlk, hK, hA, hY, hE, hnc, hns, rfl⟩ := C
  obtain ⟨hargs, hQ, hX, hbl, hAA, hcode⟩ := id hE
  have hbA : ¬ A b := fun q => absurd (hAA b q) (Nat.not_le.mpr hbl)
  intro H locs la hP hD hS hl
  exact W.widen (by omega) (by omega) (k _ ⟨p, l, e, s, m, args, below, meth, c, A, D, cy, Q, hx, hT, hr, hml, hown, hts, hlk, hK, hA, hY, hE, hc, hs, rfl⟩ H locs la hP hD hS hl)
theorem g_end {g : Nat → List (Nat × Value) → List Value → gS → Prop} {Z : List gH} {ad : Nat → Nat} {nc ns b L : Nat} {xs : Nat → Int32} {pc : Nat} {σ : gS} {ls : List (Nat × Value)} (C : gOkQ g T_L RL 4 ret room_1 Z ad nc ns (ELaw b L xs)) (j : Nat) (hd : T_L[j]? = some (pc, .ireturn, 1)) : g pc ls [.int 1] σ := by
  obtain ⟨p, l, e, s, m, args, below, meth, c, A, D, cy, Q, hx, hT, hr, hml, hown, hts, hlk, hK, hA, hY, hE, hnc, hns, rfl⟩ := C
  obtain ⟨hargs, hQ, hX, hbl, hAA, hcode⟩ := id hE
  have hbA : ¬ A b := fun q => absurd (hAA b q) (Nat.not_le.mpr hbl)
  intro H locs la hP hD hS hl
  subst hQ; subst hargs
  refine va_forget (fun q hq => hAA _ (hS.2.2 q hq)) ?_
  refine W.widen (k := 600000) (n := 7302250) hnc hns ?_
  have hdd : decode code pc = .ok (.ireturn, 1) := by rw [← hcode]; exact hT j _ _ _ hd
  exact lw_ret hx hcode hr hlk hdd
def F_op0 (a b c d e : Int32) (Z : List gH) (σ : gS) : Option (Int32 × Int32 × gS × List gH) := mCall (F_X9_thing Z a b c d σ) (fun r1 s1 => mCall (F_X10_thing Z a b c d s1) (fun r2 s2 => some (r1, r2, s2, Z)))
set_option maxRecDepth 20000 in
set_option maxHeartbeats 4000000 in
theorem law_c0 {g : Nat → List (Nat × Value) → List Value → gS → Prop} {Z : List gH} {ad : Nat → Nat} {nc ns b L i : Nat} {xs : Nat → Int32} {σ : gS} (C : gOkQ g T_L RL 4 ret room_1 Z ad nc ns (ELaw b L xs)) (hZ : Lay Z) (hgc : gcl Z Z.length) (hn2 : Z.length + 2 < 100000) (hi : i + 6 ≤ L) (hL : L ≤ 3072) (hc : nc + 2 ≤ 600000) (hs : ns + 99 ≤ 7302250) {r : Int32} {σ2 : gS} {Z2 : List gH} (h : F_op0 (xs (i + 1)) (xs (i + 2)) (xs (i + 3)) (xs (i + 4)) (xs (i + 5)) Z σ = some (r, r, σ2, Z2)) (hZ2 : Lay Z2) (K : ∀ g2 ad2, gOkQ g2 T_L RL 4 ret room_1 Z2 ad2 (nc + 2) (ns + 99) (ELaw b L xs) → g2 1637 (lawls b ad2 i) [] σ2) : g 236 (lawls b ad i) [] σ := by
  unfold F_op0 at h
  refine g_aload_n C 22 1 rfl rfl ?_
  refine g_arg C 23 1 rfl rfl rfl rfl rfl hi (by decide) hL ?_
  refine g_arg C 28 2 rfl rfl rfl rfl rfl hi (by decide) hL ?_
  refine g_arg C 33 3 rfl rfl rfl rfl rfl hi (by decide) hL ?_
  refine g_arg C 38 4 rfl rfl rfl rfl rfl hi (by decide) hL ?_
  refine g_callVi C 43 [.int (xs (i + 1)), .int (xs (i + 2)), .int (xs (i + 3)), .int (xs (i + 4))] [] rfl (M_X9_thing hZ (xs (i + 1)) (xs (i + 2)) (xs (i + 3)) (xs (i + 4))) cnL_13 cwX9_thing ciX9_thing (hZ.at (i := 0) rfl) rfl rfl rfl rfl (Nat.le_of_ble_eq_true rfl) ⟨Nat.le_of_ble_eq_true rfl, Nat.le_of_ble_eq_true rfl⟩ h (fun r1 s1 h => ?_)
  refine g_aload_n C 44 2 rfl rfl ?_
  refine g_arg C 45 1 rfl rfl rfl rfl rfl hi (by decide) hL ?_
  refine g_arg C 50 2 rfl rfl rfl rfl rfl hi (by decide) hL ?_
  refine g_arg C 55 3 rfl rfl rfl rfl rfl hi (by decide) hL ?_
  refine g_arg C 60 4 rfl rfl rfl rfl rfl hi (by decide) hL ?_
  refine g_callVi C 65 [.int (xs (i + 1)), .int (xs (i + 2)), .int (xs (i + 3)), .int (xs (i + 4))] [.int r1] rfl (M_X10_thing hZ (xs (i + 1)) (xs (i + 2)) (xs (i + 3)) (xs (i + 4))) cnL_17 cwX10_thing ciX10_thing (hZ.at (i := 65) rfl) rfl rfl rfl rfl (Nat.le_of_ble_eq_true rfl) ⟨Nat.le_of_ble_eq_true rfl, Nat.le_of_ble_eq_true rfl⟩ h (fun r2 s2 h => ?_)
  have h := Option.some.inj h
  obtain ⟨e1, h⟩ := Prod.mk.inj h
  obtain ⟨e2, h⟩ := Prod.mk.inj h
  obtain ⟨e3, e4⟩ := Prod.mk.inj h
  subst e3; subst e4
  refine g_icmp_eq_T C 66 1637 rfl rfl (e1.trans e2.symm) ?_
  exact g_widen C hc hs (fun g2 C2 => K g2 ad C2)
def F_op1 (a b c d e : Int32) (Z : List gH) (σ : gS) : Option (Int32 × Int32 × gS × List gH) := mCall (F_X9_told Z a b σ) (fun r1 s1 => mCall (F_X10_told Z a b s1) (fun r2 s2 => some (r1, r2, s2, Z)))
set_option maxRecDepth 20000 in
set_option maxHeartbeats 4000000 in
theorem law_c1 {g : Nat → List (Nat × Value) → List Value → gS → Prop} {Z : List gH} {ad : Nat → Nat} {nc ns b L i : Nat} {xs : Nat → Int32} {σ : gS} (C : gOkQ g T_L RL 4 ret room_1 Z ad nc ns (ELaw b L xs)) (hZ : Lay Z) (hgc : gcl Z Z.length) (hn2 : Z.length + 2 < 100000) (hi : i + 6 ≤ L) (hL : L ≤ 3072) (hc : nc + 2 ≤ 600000) (hs : ns + 99 ≤ 7302250) {r : Int32} {σ2 : gS} {Z2 : List gH} (h : F_op1 (xs (i + 1)) (xs (i + 2)) (xs (i + 3)) (xs (i + 4)) (xs (i + 5)) Z σ = some (r, r, σ2, Z2)) (hZ2 : Lay Z2) (K : ∀ g2 ad2, gOkQ g2 T_L RL 4 ret room_1 Z2 ad2 (nc + 2) (ns + 99) (ELaw b L xs) → g2 1637 (lawls b ad2 i) [] σ2) : g 289 (lawls b ad i) [] σ := by
  unfold F_op1 at h
  refine g_aload_n C 69 1 rfl rfl ?_
  refine g_arg C 70 1 rfl rfl rfl rfl rfl hi (by decide) hL ?_
  refine g_arg C 75 2 rfl rfl rfl rfl rfl hi (by decide) hL ?_
  refine g_callVi C 80 [.int (xs (i + 1)), .int (xs (i + 2))] [] rfl (M_X9_told hZ (xs (i + 1)) (xs (i + 2))) cnL_18 cwX9_told ciX9_told (hZ.at (i := 0) rfl) rfl rfl rfl rfl (Nat.le_of_ble_eq_true rfl) ⟨Nat.le_of_ble_eq_true rfl, Nat.le_of_ble_eq_true rfl⟩ h (fun r1 s1 h => ?_)
  refine g_aload_n C 81 2 rfl rfl ?_
  refine g_arg C 82 1 rfl rfl rfl rfl rfl hi (by decide) hL ?_
  refine g_arg C 87 2 rfl rfl rfl rfl rfl hi (by decide) hL ?_
  refine g_callVi C 92 [.int (xs (i + 1)), .int (xs (i + 2))] [.int r1] rfl (M_X10_told hZ (xs (i + 1)) (xs (i + 2))) cnL_22 cwX10_told ciX10_told (hZ.at (i := 65) rfl) rfl rfl rfl rfl (Nat.le_of_ble_eq_true rfl) ⟨Nat.le_of_ble_eq_true rfl, Nat.le_of_ble_eq_true rfl⟩ h (fun r2 s2 h => ?_)
  have h := Option.some.inj h
  obtain ⟨e1, h⟩ := Prod.mk.inj h
  obtain ⟨e2, h⟩ := Prod.mk.inj h
  obtain ⟨e3, e4⟩ := Prod.mk.inj h
  subst e3; subst e4
  refine g_icmp_eq_T C 93 1637 rfl rfl (e1.trans e2.symm) ?_
  exact g_widen C hc hs (fun g2 C2 => K g2 ad C2)
def F_op2 (a b c d e : Int32) (Z : List gH) (σ : gS) : Option (Int32 × Int32 × gS × List gH) := mCall (F_X9_as Z a b σ) (fun r1 s1 => mCall (F_X10_as Z a b s1) (fun r2 s2 => some (r1, r2, s2, Z)))
set_option maxRecDepth 20000 in
set_option maxHeartbeats 4000000 in
theorem law_c2 {g : Nat → List (Nat × Value) → List Value → gS → Prop} {Z : List gH} {ad : Nat → Nat} {nc ns b L i : Nat} {xs : Nat → Int32} {σ : gS} (C : gOkQ g T_L RL 4 ret room_1 Z ad nc ns (ELaw b L xs)) (hZ : Lay Z) (hgc : gcl Z Z.length) (hn2 : Z.length + 2 < 100000) (hi : i + 6 ≤ L) (hL : L ≤ 3072) (hc : nc + 2 ≤ 600000) (hs : ns + 99 ≤ 7302250) {r : Int32} {σ2 : gS} {Z2 : List gH} (h : F_op2 (xs (i + 1)) (xs (i + 2)) (xs (i + 3)) (xs (i + 4)) (xs (i + 5)) Z σ = some (r, r, σ2, Z2)) (hZ2 : Lay Z2) (K : ∀ g2 ad2, gOkQ g2 T_L RL 4 ret room_1 Z2 ad2 (nc + 2) (ns + 99) (ELaw b L xs) → g2 1637 (lawls b ad2 i) [] σ2) : g 322 (lawls b ad i) [] σ := by
  unfold F_op2 at h
  refine g_aload_n C 96 1 rfl rfl ?_
  refine g_arg C 97 1 rfl rfl rfl rfl rfl hi (by decide) hL ?_
  refine g_arg C 102 2 rfl rfl rfl rfl rfl hi (by decide) hL ?_
  refine g_callVi C 107 [.int (xs (i + 1)), .int (xs (i + 2))] [] rfl (M_X9_as hZ (xs (i + 1)) (xs (i + 2))) cnL_23 cwX9_as ciX9_as (hZ.at (i := 0) rfl) rfl rfl rfl rfl (Nat.le_of_ble_eq_true rfl) ⟨Nat.le_of_ble_eq_true rfl, Nat.le_of_ble_eq_true rfl⟩ h (fun r1 s1 h => ?_)
  refine g_aload_n C 108 2 rfl rfl ?_
  refine g_arg C 109 1 rfl rfl rfl rfl rfl hi (by decide) hL ?_
  refine g_arg C 114 2 rfl rfl rfl rfl rfl hi (by decide) hL ?_
  refine g_callVi C 119 [.int (xs (i + 1)), .int (xs (i + 2))] [.int r1] rfl (M_X10_as hZ (xs (i + 1)) (xs (i + 2))) cnL_26 cwX10_as ciX10_as (hZ.at (i := 65) rfl) rfl rfl rfl rfl (Nat.le_of_ble_eq_true rfl) ⟨Nat.le_of_ble_eq_true rfl, Nat.le_of_ble_eq_true rfl⟩ h (fun r2 s2 h => ?_)
  have h := Option.some.inj h
  obtain ⟨e1, h⟩ := Prod.mk.inj h
  obtain ⟨e2, h⟩ := Prod.mk.inj h
  obtain ⟨e3, e4⟩ := Prod.mk.inj h
  subst e3; subst e4
  refine g_icmp_eq_T C 120 1637 rfl rfl (e1.trans e2.symm) ?_
  exact g_widen C hc hs (fun g2 C2 => K g2 ad C2)
def F_op3 (a b c d e : Int32) (Z : List gH) (σ : gS) : Option (Int32 × Int32 × gS × List gH) := mCall (F_X9_turns Z a b σ) (fun r1 s1 => mCall (F_X10_turns Z a b s1) (fun r2 s2 => some (r1, r2, s2, Z)))
set_option maxRecDepth 20000 in
set_option maxHeartbeats 4000000 in
theorem law_c3 {g : Nat → List (Nat × Value) → List Value → gS → Prop} {Z : List gH} {ad : Nat → Nat} {nc ns b L i : Nat} {xs : Nat → Int32} {σ : gS} (C : gOkQ g T_L RL 4 ret room_1 Z ad nc ns (ELaw b L xs)) (hZ : Lay Z) (hgc : gcl Z Z.length) (hn2 : Z.length + 2 < 100000) (hi : i + 6 ≤ L) (hL : L ≤ 3072) (hc : nc + 2 ≤ 600000) (hs : ns + 99 ≤ 7302250) {r : Int32} {σ2 : gS} {Z2 : List gH} (h : F_op3 (xs (i + 1)) (xs (i + 2)) (xs (i + 3)) (xs (i + 4)) (xs (i + 5)) Z σ = some (r, r, σ2, Z2)) (hZ2 : Lay Z2) (K : ∀ g2 ad2, gOkQ g2 T_L RL 4 ret room_1 Z2 ad2 (nc + 2) (ns + 99) (ELaw b L xs) → g2 1637 (lawls b ad2 i) [] σ2) : g 355 (lawls b ad i) [] σ := by
  unfold F_op3 at h
  refine g_aload_n C 123 1 rfl rfl ?_
  refine g_arg C 124 1 rfl rfl rfl rfl rfl hi (by decide) hL ?_
  refine g_arg C 129 2 rfl rfl rfl rfl rfl hi (by decide) hL ?_
  refine g_callVi C 134 [.int (xs (i + 1)), .int (xs (i + 2))] [] rfl (M_X9_turns hZ (xs (i + 1)) (xs (i + 2))) cnL_27 cwX9_turns ciX9_turns (hZ.at (i := 0) rfl) rfl rfl rfl rfl (Nat.le_of_ble_eq_true rfl) ⟨Nat.le_of_ble_eq_true rfl, Nat.le_of_ble_eq_true rfl⟩ h (fun r1 s1 h => ?_)
  refine g_aload_n C 135 2 rfl rfl ?_
  refine g_arg C 136 1 rfl rfl rfl rfl rfl hi (by decide) hL ?_
  refine g_arg C 141 2 rfl rfl rfl rfl rfl hi (by decide) hL ?_
  refine g_callVi C 146 [.int (xs (i + 1)), .int (xs (i + 2))] [.int r1] rfl (M_X10_turns hZ (xs (i + 1)) (xs (i + 2))) cnL_30 cwX10_turns ciX10_turns (hZ.at (i := 65) rfl) rfl rfl rfl rfl (Nat.le_of_ble_eq_true rfl) ⟨Nat.le_of_ble_eq_true rfl, Nat.le_of_ble_eq_true rfl⟩ h (fun r2 s2 h => ?_)
  have h := Option.some.inj h
  obtain ⟨e1, h⟩ := Prod.mk.inj h
  obtain ⟨e2, h⟩ := Prod.mk.inj h
  obtain ⟨e3, e4⟩ := Prod.mk.inj h
  subst e3; subst e4
  refine g_icmp_eq_T C 147 1637 rfl rfl (e1.trans e2.symm) ?_
  exact g_widen C hc hs (fun g2 C2 => K g2 ad C2)
def F_op4 (a b c d e : Int32) (Z : List gH) (σ : gS) : Option (Int32 × Int32 × gS × List gH) := mCall (F_X9_set Z a b c σ) (fun r1 s1 => mCall (F_X10_set Z a b c s1) (fun r2 s2 => some (r1, r2, s2, Z)))
set_option maxRecDepth 20000 in
set_option maxHeartbeats 4000000 in
theorem law_c4 {g : Nat → List (Nat × Value) → List Value → gS → Prop} {Z : List gH} {ad : Nat → Nat} {nc ns b L i : Nat} {xs : Nat → Int32} {σ : gS} (C : gOkQ g T_L RL 4 ret room_1 Z ad nc ns (ELaw b L xs)) (hZ : Lay Z) (hgc : gcl Z Z.length) (hn2 : Z.length + 2 < 100000) (hi : i + 6 ≤ L) (hL : L ≤ 3072) (hc : nc + 2 ≤ 600000) (hs : ns + 99 ≤ 7302250) {r : Int32} {σ2 : gS} {Z2 : List gH} (h : F_op4 (xs (i + 1)) (xs (i + 2)) (xs (i + 3)) (xs (i + 4)) (xs (i + 5)) Z σ = some (r, r, σ2, Z2)) (hZ2 : Lay Z2) (K : ∀ g2 ad2, gOkQ g2 T_L RL 4 ret room_1 Z2 ad2 (nc + 2) (ns + 99) (ELaw b L xs) → g2 1637 (lawls b ad2 i) [] σ2) : g 388 (lawls b ad i) [] σ := by
  unfold F_op4 at h
  refine g_aload_n C 150 1 rfl rfl ?_
  refine g_arg C 151 1 rfl rfl rfl rfl rfl hi (by decide) hL ?_
  refine g_arg C 156 2 rfl rfl rfl rfl rfl hi (by decide) hL ?_
  refine g_arg C 161 3 rfl rfl rfl rfl rfl hi (by decide) hL ?_
  refine g_callVi C 166 [.int (xs (i + 1)), .int (xs (i + 2)), .int (xs (i + 3))] [] rfl (M_X9_set hZ (xs (i + 1)) (xs (i + 2)) (xs (i + 3))) cnL_31 cwX9_set ciX9_set (hZ.at (i := 0) rfl) rfl rfl rfl rfl (Nat.le_of_ble_eq_true rfl) ⟨Nat.le_of_ble_eq_true rfl, Nat.le_of_ble_eq_true rfl⟩ h (fun r1 s1 h => ?_)
  refine g_aload_n C 167 2 rfl rfl ?_
  refine g_arg C 168 1 rfl rfl rfl rfl rfl hi (by decide) hL ?_
  refine g_arg C 173 2 rfl rfl rfl rfl rfl hi (by decide) hL ?_
  refine g_arg C 178 3 rfl rfl rfl rfl rfl hi (by decide) hL ?_
  refine g_callVi C 183 [.int (xs (i + 1)), .int (xs (i + 2)), .int (xs (i + 3))] [.int r1] rfl (M_X10_set hZ (xs (i + 1)) (xs (i + 2)) (xs (i + 3))) cnL_35 cwX10_set ciX10_set (hZ.at (i := 65) rfl) rfl rfl rfl rfl (Nat.le_of_ble_eq_true rfl) ⟨Nat.le_of_ble_eq_true rfl, Nat.le_of_ble_eq_true rfl⟩ h (fun r2 s2 h => ?_)
  have h := Option.some.inj h
  obtain ⟨e1, h⟩ := Prod.mk.inj h
  obtain ⟨e2, h⟩ := Prod.mk.inj h
  obtain ⟨e3, e4⟩ := Prod.mk.inj h
  subst e3; subst e4
  refine g_icmp_eq_T C 184 1637 rfl rfl (e1.trans e2.symm) ?_
  exact g_widen C hc hs (fun g2 C2 => K g2 ad C2)
def F_op5 (a b c d e : Int32) (Z : List gH) (σ : gS) : Option (Int32 × Int32 × gS × List gH) := mCall (F_X9_deal Z a σ) (fun r1 s1 => mCall (F_X10_deal Z a s1) (fun r2 s2 => some (r1, r2, s2, Z)))
set_option maxRecDepth 20000 in
set_option maxHeartbeats 4000000 in
theorem law_c5 {g : Nat → List (Nat × Value) → List Value → gS → Prop} {Z : List gH} {ad : Nat → Nat} {nc ns b L i : Nat} {xs : Nat → Int32} {σ : gS} (C : gOkQ g T_L RL 4 ret room_1 Z ad nc ns (ELaw b L xs)) (hZ : Lay Z) (hgc : gcl Z Z.length) (hn2 : Z.length + 2 < 100000) (hi : i + 6 ≤ L) (hL : L ≤ 3072) (hc : nc + 2 ≤ 600000) (hs : ns + 99 ≤ 7302250) {r : Int32} {σ2 : gS} {Z2 : List gH} (h : F_op5 (xs (i + 1)) (xs (i + 2)) (xs (i + 3)) (xs (i + 4)) (xs (i + 5)) Z σ = some (r, r, σ2, Z2)) (hZ2 : Lay Z2) (K : ∀ g2 ad2, gOkQ g2 T_L RL 4 ret room_1 Z2 ad2 (nc + 2) (ns + 99) (ELaw b L xs) → g2 1637 (lawls b ad2 i) [] σ2) : g 431 (lawls b ad i) [] σ := by
  unfold F_op5 at h
  refine g_aload_n C 187 1 rfl rfl ?_
  refine g_arg C 188 1 rfl rfl rfl rfl rfl hi (by decide) hL ?_
  refine g_callVi C 193 [.int (xs (i + 1))] [] rfl (M_X9_deal hZ (xs (i + 1))) cnL_36 cwX9_deal ciX9_deal (hZ.at (i := 0) rfl) rfl rfl rfl rfl (Nat.le_of_ble_eq_true rfl) ⟨Nat.le_of_ble_eq_true rfl, Nat.le_of_ble_eq_true rfl⟩ h (fun r1 s1 h => ?_)
  refine g_aload_n C 194 2 rfl rfl ?_
  refine g_arg C 195 1 rfl rfl rfl rfl rfl hi (by decide) hL ?_
  refine g_callVi C 200 [.int (xs (i + 1))] [.int r1] rfl (M_X10_deal hZ (xs (i + 1))) cnL_40 cwX10_deal ciX10_deal (hZ.at (i := 65) rfl) rfl rfl rfl rfl (Nat.le_of_ble_eq_true rfl) ⟨Nat.le_of_ble_eq_true rfl, Nat.le_of_ble_eq_true rfl⟩ h (fun r2 s2 h => ?_)
  have h := Option.some.inj h
  obtain ⟨e1, h⟩ := Prod.mk.inj h
  obtain ⟨e2, h⟩ := Prod.mk.inj h
  obtain ⟨e3, e4⟩ := Prod.mk.inj h
  subst e3; subst e4
  refine g_icmp_eq_T C 201 1637 rfl rfl (e1.trans e2.symm) ?_
  exact g_widen C hc hs (fun g2 C2 => K g2 ad C2)
def F_op6 (a b c d e : Int32) (Z : List gH) (σ : gS) : Option (Int32 × Int32 × gS × List gH) := mCall (F_X9_seed Z a σ) (fun r1 s1 => mCall (F_X10_seed Z a s1) (fun r2 s2 => some (r1, r2, s2, Z)))
set_option maxRecDepth 20000 in
set_option maxHeartbeats 4000000 in
theorem law_c6 {g : Nat → List (Nat × Value) → List Value → gS → Prop} {Z : List gH} {ad : Nat → Nat} {nc ns b L i : Nat} {xs : Nat → Int32} {σ : gS} (C : gOkQ g T_L RL 4 ret room_1 Z ad nc ns (ELaw b L xs)) (hZ : Lay Z) (hgc : gcl Z Z.length) (hn2 : Z.length + 2 < 100000) (hi : i + 6 ≤ L) (hL : L ≤ 3072) (hc : nc + 2 ≤ 600000) (hs : ns + 99 ≤ 7302250) {r : Int32} {σ2 : gS} {Z2 : List gH} (h : F_op6 (xs (i + 1)) (xs (i + 2)) (xs (i + 3)) (xs (i + 4)) (xs (i + 5)) Z σ = some (r, r, σ2, Z2)) (hZ2 : Lay Z2) (K : ∀ g2 ad2, gOkQ g2 T_L RL 4 ret room_1 Z2 ad2 (nc + 2) (ns + 99) (ELaw b L xs) → g2 1637 (lawls b ad2 i) [] σ2) : g 454 (lawls b ad i) [] σ := by
  unfold F_op6 at h
  refine g_aload_n C 204 1 rfl rfl ?_
  refine g_arg C 205 1 rfl rfl rfl rfl rfl hi (by decide) hL ?_
  refine g_callVi C 210 [.int (xs (i + 1))] [] rfl (M_X9_seed hZ (xs (i + 1))) cnL_41 cwX9_seed ciX9_seed (hZ.at (i := 0) rfl) rfl rfl rfl rfl (Nat.le_of_ble_eq_true rfl) ⟨Nat.le_of_ble_eq_true rfl, Nat.le_of_ble_eq_true rfl⟩ h (fun r1 s1 h => ?_)
  refine g_aload_n C 211 2 rfl rfl ?_
  refine g_arg C 212 1 rfl rfl rfl rfl rfl hi (by decide) hL ?_
  refine g_callVi C 217 [.int (xs (i + 1))] [.int r1] rfl (M_X10_seed hZ (xs (i + 1))) cnL_44 cwX10_seed ciX10_seed (hZ.at (i := 65) rfl) rfl rfl rfl rfl (Nat.le_of_ble_eq_true rfl) ⟨Nat.le_of_ble_eq_true rfl, Nat.le_of_ble_eq_true rfl⟩ h (fun r2 s2 h => ?_)
  have h := Option.some.inj h
  obtain ⟨e1, h⟩ := Prod.mk.inj h
  obtain ⟨e2, h⟩ := Prod.mk.inj h
  obtain ⟨e3, e4⟩ := Prod.mk.inj h
  subst e3; subst e4
  refine g_icmp_eq_T C 218 1637 rfl rfl (e1.trans e2.symm) ?_
  exact g_widen C hc hs (fun g2 C2 => K g2 ad C2)
def F_op7 (a b c d e : Int32) (Z : List gH) (σ : gS) : Option (Int32 × Int32 × gS × List gH) := mCall (F_X9_heat Z a σ) (fun r1 s1 => mCall (F_X10_heat Z a s1) (fun r2 s2 => some (r1, r2, s2, Z)))
set_option maxRecDepth 20000 in
set_option maxHeartbeats 4000000 in
theorem law_c7 {g : Nat → List (Nat × Value) → List Value → gS → Prop} {Z : List gH} {ad : Nat → Nat} {nc ns b L i : Nat} {xs : Nat → Int32} {σ : gS} (C : gOkQ g T_L RL 4 ret room_1 Z ad nc ns (ELaw b L xs)) (hZ : Lay Z) (hgc : gcl Z Z.length) (hn2 : Z.length + 2 < 100000) (hi : i + 6 ≤ L) (hL : L ≤ 3072) (hc : nc + 2 ≤ 600000) (hs : ns + 99 ≤ 7302250) {r : Int32} {σ2 : gS} {Z2 : List gH} (h : F_op7 (xs (i + 1)) (xs (i + 2)) (xs (i + 3)) (xs (i + 4)) (xs (i + 5)) Z σ = some (r, r, σ2, Z2)) (hZ2 : Lay Z2) (K : ∀ g2 ad2, gOkQ g2 T_L RL 4 ret room_1 Z2 ad2 (nc + 2) (ns + 99) (ELaw b L xs) → g2 1637 (lawls b ad2 i) [] σ2) : g 477 (lawls b ad i) [] σ := by
  unfold F_op7 at h
  refine g_aload_n C 221 1 rfl rfl ?_
  refine g_arg C 222 1 rfl rfl rfl rfl rfl hi (by decide) hL ?_
  refine g_callVi C 227 [.int (xs (i + 1))] [] rfl (M_X9_heat hZ (xs (i + 1))) cnL_45 cwX9_heat ciX9_heat (hZ.at (i := 0) rfl) rfl rfl rfl rfl (Nat.le_of_ble_eq_true rfl) ⟨Nat.le_of_ble_eq_true rfl, Nat.le_of_ble_eq_true rfl⟩ h (fun r1 s1 h => ?_)
  refine g_aload_n C 228 2 rfl rfl ?_
  refine g_arg C 229 1 rfl rfl rfl rfl rfl hi (by decide) hL ?_
  refine g_callVi C 234 [.int (xs (i + 1))] [.int r1] rfl (M_X10_heat hZ (xs (i + 1))) cnL_48 cwX10_heat ciX10_heat (hZ.at (i := 65) rfl) rfl rfl rfl rfl (Nat.le_of_ble_eq_true rfl) ⟨Nat.le_of_ble_eq_true rfl, Nat.le_of_ble_eq_true rfl⟩ h (fun r2 s2 h => ?_)
  have h := Option.some.inj h
  obtain ⟨e1, h⟩ := Prod.mk.inj h
  obtain ⟨e2, h⟩ := Prod.mk.inj h
  obtain ⟨e3, e4⟩ := Prod.mk.inj h
  subst e3; subst e4
  refine g_icmp_eq_T C 235 1637 rfl rfl (e1.trans e2.symm) ?_
  exact g_widen C hc hs (fun g2 C2 => K g2 ad C2)
def F_op8 (a b c d e : Int32) (Z : List gH) (σ : gS) : Option (Int32 × Int32 × gS × List gH) := mCall (F_X9_heats Z a b σ) (fun r1 s1 => mCall (F_X10_heats Z a b s1) (fun r2 s2 => some (r1, r2, s2, Z)))
set_option maxRecDepth 20000 in
set_option maxHeartbeats 4000000 in
theorem law_c8 {g : Nat → List (Nat × Value) → List Value → gS → Prop} {Z : List gH} {ad : Nat → Nat} {nc ns b L i : Nat} {xs : Nat → Int32} {σ : gS} (C : gOkQ g T_L RL 4 ret room_1 Z ad nc ns (ELaw b L xs)) (hZ : Lay Z) (hgc : gcl Z Z.length) (hn2 : Z.length + 2 < 100000) (hi : i + 6 ≤ L) (hL : L ≤ 3072) (hc : nc + 2 ≤ 600000) (hs : ns + 99 ≤ 7302250) {r : Int32} {σ2 : gS} {Z2 : List gH} (h : F_op8 (xs (i + 1)) (xs (i + 2)) (xs (i + 3)) (xs (i + 4)) (xs (i + 5)) Z σ = some (r, r, σ2, Z2)) (hZ2 : Lay Z2) (K : ∀ g2 ad2, gOkQ g2 T_L RL 4 ret room_1 Z2 ad2 (nc + 2) (ns + 99) (ELaw b L xs) → g2 1637 (lawls b ad2 i) [] σ2) : g 500 (lawls b ad i) [] σ := by
  unfold F_op8 at h
  refine g_aload_n C 238 1 rfl rfl ?_
  refine g_arg C 239 1 rfl rfl rfl rfl rfl hi (by decide) hL ?_
  refine g_arg C 244 2 rfl rfl rfl rfl rfl hi (by decide) hL ?_
  refine g_callVi C 249 [.int (xs (i + 1)), .int (xs (i + 2))] [] rfl (M_X9_heats hZ (xs (i + 1)) (xs (i + 2))) cnL_49 cwX9_heats ciX9_heats (hZ.at (i := 0) rfl) rfl rfl rfl rfl (Nat.le_of_ble_eq_true rfl) ⟨Nat.le_of_ble_eq_true rfl, Nat.le_of_ble_eq_true rfl⟩ h (fun r1 s1 h => ?_)
  refine g_aload_n C 250 2 rfl rfl ?_
  refine g_arg C 251 1 rfl rfl rfl rfl rfl hi (by decide) hL ?_
  refine g_arg C 256 2 rfl rfl rfl rfl rfl hi (by decide) hL ?_
  refine g_callVi C 261 [.int (xs (i + 1)), .int (xs (i + 2))] [.int r1] rfl (M_X10_heats hZ (xs (i + 1)) (xs (i + 2))) cnL_52 cwX10_heats ciX10_heats (hZ.at (i := 65) rfl) rfl rfl rfl rfl (Nat.le_of_ble_eq_true rfl) ⟨Nat.le_of_ble_eq_true rfl, Nat.le_of_ble_eq_true rfl⟩ h (fun r2 s2 h => ?_)
  have h := Option.some.inj h
  obtain ⟨e1, h⟩ := Prod.mk.inj h
  obtain ⟨e2, h⟩ := Prod.mk.inj h
  obtain ⟨e3, e4⟩ := Prod.mk.inj h
  subst e3; subst e4
  refine g_icmp_eq_T C 262 1637 rfl rfl (e1.trans e2.symm) ?_
  exact g_widen C hc hs (fun g2 C2 => K g2 ad C2)
def F_op9 (a b c d e : Int32) (Z : List gH) (σ : gS) : Option (Int32 × Int32 × gS × List gH) := mCall (F_X9_door Z a b c σ) (fun r1 s1 => mCall (F_X10_door Z a b c s1) (fun r2 s2 => some (r1, r2, s2, Z)))
set_option maxRecDepth 20000 in
set_option maxHeartbeats 4000000 in
theorem law_c9 {g : Nat → List (Nat × Value) → List Value → gS → Prop} {Z : List gH} {ad : Nat → Nat} {nc ns b L i : Nat} {xs : Nat → Int32} {σ : gS} (C : gOkQ g T_L RL 4 ret room_1 Z ad nc ns (ELaw b L xs)) (hZ : Lay Z) (hgc : gcl Z Z.length) (hn2 : Z.length + 2 < 100000) (hi : i + 6 ≤ L) (hL : L ≤ 3072) (hc : nc + 2 ≤ 600000) (hs : ns + 99 ≤ 7302250) {r : Int32} {σ2 : gS} {Z2 : List gH} (h : F_op9 (xs (i + 1)) (xs (i + 2)) (xs (i + 3)) (xs (i + 4)) (xs (i + 5)) Z σ = some (r, r, σ2, Z2)) (hZ2 : Lay Z2) (K : ∀ g2 ad2, gOkQ g2 T_L RL 4 ret room_1 Z2 ad2 (nc + 2) (ns + 99) (ELaw b L xs) → g2 1637 (lawls b ad2 i) [] σ2) : g 533 (lawls b ad i) [] σ := by
  unfold F_op9 at h
  refine g_aload_n C 265 1 rfl rfl ?_
  refine g_arg C 266 1 rfl rfl rfl rfl rfl hi (by decide) hL ?_
  refine g_arg C 271 2 rfl rfl rfl rfl rfl hi (by decide) hL ?_
  refine g_arg C 276 3 rfl rfl rfl rfl rfl hi (by decide) hL ?_
  refine g_callVi C 281 [.int (xs (i + 1)), .int (xs (i + 2)), .int (xs (i + 3))] [] rfl (M_X9_door hZ (xs (i + 1)) (xs (i + 2)) (xs (i + 3))) cnL_53 cwX9_door ciX9_door (hZ.at (i := 0) rfl) rfl rfl rfl rfl (Nat.le_of_ble_eq_true rfl) ⟨Nat.le_of_ble_eq_true rfl, Nat.le_of_ble_eq_true rfl⟩ h (fun r1 s1 h => ?_)
  refine g_aload_n C 282 2 rfl rfl ?_
  refine g_arg C 283 1 rfl rfl rfl rfl rfl hi (by decide) hL ?_
  refine g_arg C 288 2 rfl rfl rfl rfl rfl hi (by decide) hL ?_
  refine g_arg C 293 3 rfl rfl rfl rfl rfl hi (by decide) hL ?_
  refine g_callVi C 298 [.int (xs (i + 1)), .int (xs (i + 2)), .int (xs (i + 3))] [.int r1] rfl (M_X10_door hZ (xs (i + 1)) (xs (i + 2)) (xs (i + 3))) cnL_56 cwX10_door ciX10_door (hZ.at (i := 65) rfl) rfl rfl rfl rfl (Nat.le_of_ble_eq_true rfl) ⟨Nat.le_of_ble_eq_true rfl, Nat.le_of_ble_eq_true rfl⟩ h (fun r2 s2 h => ?_)
  have h := Option.some.inj h
  obtain ⟨e1, h⟩ := Prod.mk.inj h
  obtain ⟨e2, h⟩ := Prod.mk.inj h
  obtain ⟨e3, e4⟩ := Prod.mk.inj h
  subst e3; subst e4
  refine g_icmp_eq_T C 299 1637 rfl rfl (e1.trans e2.symm) ?_
  exact g_widen C hc hs (fun g2 C2 => K g2 ad C2)
def F_op10 (a b c d e : Int32) (Z : List gH) (σ : gS) : Option (Int32 × Int32 × gS × List gH) := mCall (F_X9_doorTold Z a b σ) (fun r1 s1 => mCall (F_X10_doorTold Z a b s1) (fun r2 s2 => some (r1, r2, s2, Z)))
set_option maxRecDepth 20000 in
set_option maxHeartbeats 4000000 in
theorem law_c10 {g : Nat → List (Nat × Value) → List Value → gS → Prop} {Z : List gH} {ad : Nat → Nat} {nc ns b L i : Nat} {xs : Nat → Int32} {σ : gS} (C : gOkQ g T_L RL 4 ret room_1 Z ad nc ns (ELaw b L xs)) (hZ : Lay Z) (hgc : gcl Z Z.length) (hn2 : Z.length + 2 < 100000) (hi : i + 6 ≤ L) (hL : L ≤ 3072) (hc : nc + 2 ≤ 600000) (hs : ns + 99 ≤ 7302250) {r : Int32} {σ2 : gS} {Z2 : List gH} (h : F_op10 (xs (i + 1)) (xs (i + 2)) (xs (i + 3)) (xs (i + 4)) (xs (i + 5)) Z σ = some (r, r, σ2, Z2)) (hZ2 : Lay Z2) (K : ∀ g2 ad2, gOkQ g2 T_L RL 4 ret room_1 Z2 ad2 (nc + 2) (ns + 99) (ELaw b L xs) → g2 1637 (lawls b ad2 i) [] σ2) : g 576 (lawls b ad i) [] σ := by
  unfold F_op10 at h
  refine g_aload_n C 302 1 rfl rfl ?_
  refine g_arg C 303 1 rfl rfl rfl rfl rfl hi (by decide) hL ?_
  refine g_arg C 308 2 rfl rfl rfl rfl rfl hi (by decide) hL ?_
  refine g_callVi C 313 [.int (xs (i + 1)), .int (xs (i + 2))] [] rfl (M_X9_doorTold hZ (xs (i + 1)) (xs (i + 2))) cnL_57 cwX9_doorTold ciX9_doorTold (hZ.at (i := 0) rfl) rfl rfl rfl rfl (Nat.le_of_ble_eq_true rfl) ⟨Nat.le_of_ble_eq_true rfl, Nat.le_of_ble_eq_true rfl⟩ h (fun r1 s1 h => ?_)
  refine g_aload_n C 314 2 rfl rfl ?_
  refine g_arg C 315 1 rfl rfl rfl rfl rfl hi (by decide) hL ?_
  refine g_arg C 320 2 rfl rfl rfl rfl rfl hi (by decide) hL ?_
  refine g_callVi C 325 [.int (xs (i + 1)), .int (xs (i + 2))] [.int r1] rfl (M_X10_doorTold hZ (xs (i + 1)) (xs (i + 2))) cnL_60 cwX10_doorTold ciX10_doorTold (hZ.at (i := 65) rfl) rfl rfl rfl rfl (Nat.le_of_ble_eq_true rfl) ⟨Nat.le_of_ble_eq_true rfl, Nat.le_of_ble_eq_true rfl⟩ h (fun r2 s2 h => ?_)
  have h := Option.some.inj h
  obtain ⟨e1, h⟩ := Prod.mk.inj h
  obtain ⟨e2, h⟩ := Prod.mk.inj h
  obtain ⟨e3, e4⟩ := Prod.mk.inj h
  subst e3; subst e4
  refine g_icmp_eq_T C 326 1637 rfl rfl (e1.trans e2.symm) ?_
  exact g_widen C hc hs (fun g2 C2 => K g2 ad C2)
def F_op11 (a b c d e : Int32) (Z : List gH) (σ : gS) : Option (Int32 × Int32 × gS × List gH) := mCall (F_X9_rule Z a b σ) (fun r1 s1 => mCall (F_X10_rule Z a b s1) (fun r2 s2 => some (r1, r2, s2, Z)))
set_option maxRecDepth 20000 in
set_option maxHeartbeats 4000000 in
theorem law_c11 {g : Nat → List (Nat × Value) → List Value → gS → Prop} {Z : List gH} {ad : Nat → Nat} {nc ns b L i : Nat} {xs : Nat → Int32} {σ : gS} (C : gOkQ g T_L RL 4 ret room_1 Z ad nc ns (ELaw b L xs)) (hZ : Lay Z) (hgc : gcl Z Z.length) (hn2 : Z.length + 2 < 100000) (hi : i + 6 ≤ L) (hL : L ≤ 3072) (hc : nc + 2 ≤ 600000) (hs : ns + 99 ≤ 7302250) {r : Int32} {σ2 : gS} {Z2 : List gH} (h : F_op11 (xs (i + 1)) (xs (i + 2)) (xs (i + 3)) (xs (i + 4)) (xs (i + 5)) Z σ = some (r, r, σ2, Z2)) (hZ2 : Lay Z2) (K : ∀ g2 ad2, gOkQ g2 T_L RL 4 ret room_1 Z2 ad2 (nc + 2) (ns + 99) (ELaw b L xs) → g2 1637 (lawls b ad2 i) [] σ2) : g 609 (lawls b ad i) [] σ := by
  unfold F_op11 at h
  refine g_aload_n C 329 1 rfl rfl ?_
  refine g_arg C 330 1 rfl rfl rfl rfl rfl hi (by decide) hL ?_
  refine g_arg C 335 2 rfl rfl rfl rfl rfl hi (by decide) hL ?_
  refine g_callVi C 340 [.int (xs (i + 1)), .int (xs (i + 2))] [] rfl (M_X9_rule hZ (xs (i + 1)) (xs (i + 2))) cnL_61 cwX9_rule ciX9_rule (hZ.at (i := 0) rfl) rfl rfl rfl rfl (Nat.le_of_ble_eq_true rfl) ⟨Nat.le_of_ble_eq_true rfl, Nat.le_of_ble_eq_true rfl⟩ h (fun r1 s1 h => ?_)
  refine g_aload_n C 341 2 rfl rfl ?_
  refine g_arg C 342 1 rfl rfl rfl rfl rfl hi (by decide) hL ?_
  refine g_arg C 347 2 rfl rfl rfl rfl rfl hi (by decide) hL ?_
  refine g_callVi C 352 [.int (xs (i + 1)), .int (xs (i + 2))] [.int r1] rfl (M_X10_rule hZ (xs (i + 1)) (xs (i + 2))) cnL_64 cwX10_rule ciX10_rule (hZ.at (i := 65) rfl) rfl rfl rfl rfl (Nat.le_of_ble_eq_true rfl) ⟨Nat.le_of_ble_eq_true rfl, Nat.le_of_ble_eq_true rfl⟩ h (fun r2 s2 h => ?_)
  have h := Option.some.inj h
  obtain ⟨e1, h⟩ := Prod.mk.inj h
  obtain ⟨e2, h⟩ := Prod.mk.inj h
  obtain ⟨e3, e4⟩ := Prod.mk.inj h
  subst e3; subst e4
  refine g_icmp_eq_T C 353 1637 rfl rfl (e1.trans e2.symm) ?_
  exact g_widen C hc hs (fun g2 C2 => K g2 ad C2)
def F_op12 (a b c d e : Int32) (Z : List gH) (σ : gS) : Option (Int32 × Int32 × gS × List gH) := mCall (F_X9_visitor Z a σ) (fun r1 s1 => mCall (F_X10_visitor Z a s1) (fun r2 s2 => some (r1, r2, s2, Z)))
set_option maxRecDepth 20000 in
set_option maxHeartbeats 4000000 in
theorem law_c12 {g : Nat → List (Nat × Value) → List Value → gS → Prop} {Z : List gH} {ad : Nat → Nat} {nc ns b L i : Nat} {xs : Nat → Int32} {σ : gS} (C : gOkQ g T_L RL 4 ret room_1 Z ad nc ns (ELaw b L xs)) (hZ : Lay Z) (hgc : gcl Z Z.length) (hn2 : Z.length + 2 < 100000) (hi : i + 6 ≤ L) (hL : L ≤ 3072) (hc : nc + 2 ≤ 600000) (hs : ns + 99 ≤ 7302250) {r : Int32} {σ2 : gS} {Z2 : List gH} (h : F_op12 (xs (i + 1)) (xs (i + 2)) (xs (i + 3)) (xs (i + 4)) (xs (i + 5)) Z σ = some (r, r, σ2, Z2)) (hZ2 : Lay Z2) (K : ∀ g2 ad2, gOkQ g2 T_L RL 4 ret room_1 Z2 ad2 (nc + 2) (ns + 99) (ELaw b L xs) → g2 1637 (lawls b ad2 i) [] σ2) : g 642 (lawls b ad i) [] σ := by
  unfold F_op12 at h
  refine g_aload_n C 356 1 rfl rfl ?_
  refine g_arg C 357 1 rfl rfl rfl rfl rfl hi (by decide) hL ?_
  refine g_callVi C 362 [.int (xs (i + 1))] [] rfl (M_X9_visitor hZ (xs (i + 1))) cnL_65 cwX9_visitor ciX9_visitor (hZ.at (i := 0) rfl) rfl rfl rfl rfl (Nat.le_of_ble_eq_true rfl) ⟨Nat.le_of_ble_eq_true rfl, Nat.le_of_ble_eq_true rfl⟩ h (fun r1 s1 h => ?_)
  refine g_aload_n C 363 2 rfl rfl ?_
  refine g_arg C 364 1 rfl rfl rfl rfl rfl hi (by decide) hL ?_
  refine g_callVi C 369 [.int (xs (i + 1))] [.int r1] rfl (M_X10_visitor hZ (xs (i + 1))) cnL_68 cwX10_visitor ciX10_visitor (hZ.at (i := 65) rfl) rfl rfl rfl rfl (Nat.le_of_ble_eq_true rfl) ⟨Nat.le_of_ble_eq_true rfl, Nat.le_of_ble_eq_true rfl⟩ h (fun r2 s2 h => ?_)
  have h := Option.some.inj h
  obtain ⟨e1, h⟩ := Prod.mk.inj h
  obtain ⟨e2, h⟩ := Prod.mk.inj h
  obtain ⟨e3, e4⟩ := Prod.mk.inj h
  subst e3; subst e4
  refine g_icmp_eq_T C 370 1637 rfl rfl (e1.trans e2.symm) ?_
  exact g_widen C hc hs (fun g2 C2 => K g2 ad C2)
def F_op13 (a b c d e : Int32) (Z : List gH) (σ : gS) : Option (Int32 × Int32 × gS × List gH) := mCall (F_X9_likes Z a b σ) (fun r1 s1 => mCall (F_X10_likes Z a b s1) (fun r2 s2 => some (r1, r2, s2, Z)))
set_option maxRecDepth 20000 in
set_option maxHeartbeats 4000000 in
theorem law_c13 {g : Nat → List (Nat × Value) → List Value → gS → Prop} {Z : List gH} {ad : Nat → Nat} {nc ns b L i : Nat} {xs : Nat → Int32} {σ : gS} (C : gOkQ g T_L RL 4 ret room_1 Z ad nc ns (ELaw b L xs)) (hZ : Lay Z) (hgc : gcl Z Z.length) (hn2 : Z.length + 2 < 100000) (hi : i + 6 ≤ L) (hL : L ≤ 3072) (hc : nc + 2 ≤ 600000) (hs : ns + 99 ≤ 7302250) {r : Int32} {σ2 : gS} {Z2 : List gH} (h : F_op13 (xs (i + 1)) (xs (i + 2)) (xs (i + 3)) (xs (i + 4)) (xs (i + 5)) Z σ = some (r, r, σ2, Z2)) (hZ2 : Lay Z2) (K : ∀ g2 ad2, gOkQ g2 T_L RL 4 ret room_1 Z2 ad2 (nc + 2) (ns + 99) (ELaw b L xs) → g2 1637 (lawls b ad2 i) [] σ2) : g 665 (lawls b ad i) [] σ := by
  unfold F_op13 at h
  refine g_aload_n C 373 1 rfl rfl ?_
  refine g_arg C 374 1 rfl rfl rfl rfl rfl hi (by decide) hL ?_
  refine g_arg C 379 2 rfl rfl rfl rfl rfl hi (by decide) hL ?_
  refine g_callVi C 384 [.int (xs (i + 1)), .int (xs (i + 2))] [] rfl (M_X9_likes hZ (xs (i + 1)) (xs (i + 2))) cnL_69 cwX9_likes ciX9_likes (hZ.at (i := 0) rfl) rfl rfl rfl rfl (Nat.le_of_ble_eq_true rfl) ⟨Nat.le_of_ble_eq_true rfl, Nat.le_of_ble_eq_true rfl⟩ h (fun r1 s1 h => ?_)
  refine g_aload_n C 385 2 rfl rfl ?_
  refine g_arg C 386 1 rfl rfl rfl rfl rfl hi (by decide) hL ?_
  refine g_arg C 391 2 rfl rfl rfl rfl rfl hi (by decide) hL ?_
  refine g_callVi C 396 [.int (xs (i + 1)), .int (xs (i + 2))] [.int r1] rfl (M_X10_likes hZ (xs (i + 1)) (xs (i + 2))) cnL_72 cwX10_likes ciX10_likes (hZ.at (i := 65) rfl) rfl rfl rfl rfl (Nat.le_of_ble_eq_true rfl) ⟨Nat.le_of_ble_eq_true rfl, Nat.le_of_ble_eq_true rfl⟩ h (fun r2 s2 h => ?_)
  have h := Option.some.inj h
  obtain ⟨e1, h⟩ := Prod.mk.inj h
  obtain ⟨e2, h⟩ := Prod.mk.inj h
  obtain ⟨e3, e4⟩ := Prod.mk.inj h
  subst e3; subst e4
  refine g_icmp_eq_T C 397 1637 rfl rfl (e1.trans e2.symm) ?_
  exact g_widen C hc hs (fun g2 C2 => K g2 ad C2)
def F_op14 (a b c d e : Int32) (Z : List gH) (σ : gS) : Option (Int32 × Int32 × gS × List gH) := mCall (F_X9_seats Z a σ) (fun r1 s1 => mCall (F_X10_seats Z a s1) (fun r2 s2 => some (r1, r2, s2, Z)))
set_option maxRecDepth 20000 in
set_option maxHeartbeats 4000000 in
theorem law_c14 {g : Nat → List (Nat × Value) → List Value → gS → Prop} {Z : List gH} {ad : Nat → Nat} {nc ns b L i : Nat} {xs : Nat → Int32} {σ : gS} (C : gOkQ g T_L RL 4 ret room_1 Z ad nc ns (ELaw b L xs)) (hZ : Lay Z) (hgc : gcl Z Z.length) (hn2 : Z.length + 2 < 100000) (hi : i + 6 ≤ L) (hL : L ≤ 3072) (hc : nc + 2 ≤ 600000) (hs : ns + 99 ≤ 7302250) {r : Int32} {σ2 : gS} {Z2 : List gH} (h : F_op14 (xs (i + 1)) (xs (i + 2)) (xs (i + 3)) (xs (i + 4)) (xs (i + 5)) Z σ = some (r, r, σ2, Z2)) (hZ2 : Lay Z2) (K : ∀ g2 ad2, gOkQ g2 T_L RL 4 ret room_1 Z2 ad2 (nc + 2) (ns + 99) (ELaw b L xs) → g2 1637 (lawls b ad2 i) [] σ2) : g 698 (lawls b ad i) [] σ := by
  unfold F_op14 at h
  refine g_aload_n C 400 1 rfl rfl ?_
  refine g_arg C 401 1 rfl rfl rfl rfl rfl hi (by decide) hL ?_
  refine g_callVi C 406 [.int (xs (i + 1))] [] rfl (M_X9_seats hZ (xs (i + 1))) cnL_73 cwX9_seats ciX9_seats (hZ.at (i := 0) rfl) rfl rfl rfl rfl (Nat.le_of_ble_eq_true rfl) ⟨Nat.le_of_ble_eq_true rfl, Nat.le_of_ble_eq_true rfl⟩ h (fun r1 s1 h => ?_)
  refine g_aload_n C 407 2 rfl rfl ?_
  refine g_arg C 408 1 rfl rfl rfl rfl rfl hi (by decide) hL ?_
  refine g_callVi C 413 [.int (xs (i + 1))] [.int r1] rfl (M_X10_seats hZ (xs (i + 1))) cnL_76 cwX10_seats ciX10_seats (hZ.at (i := 65) rfl) rfl rfl rfl rfl (Nat.le_of_ble_eq_true rfl) ⟨Nat.le_of_ble_eq_true rfl, Nat.le_of_ble_eq_true rfl⟩ h (fun r2 s2 h => ?_)
  have h := Option.some.inj h
  obtain ⟨e1, h⟩ := Prod.mk.inj h
  obtain ⟨e2, h⟩ := Prod.mk.inj h
  obtain ⟨e3, e4⟩ := Prod.mk.inj h
  subst e3; subst e4
  refine g_icmp_eq_T C 414 1637 rfl rfl (e1.trans e2.symm) ?_
  exact g_widen C hc hs (fun g2 C2 => K g2 ad C2)
def F_op15 (a b c d e : Int32) (Z : List gH) (σ : gS) : Option (Int32 × Int32 × gS × List gH) := mCall (F_X9_way Z a b σ) (fun r1 s1 => mCall (F_X10_way Z a b s1) (fun r2 s2 => some (r1, r2, s2, Z)))
set_option maxRecDepth 20000 in
set_option maxHeartbeats 4000000 in
theorem law_c15 {g : Nat → List (Nat × Value) → List Value → gS → Prop} {Z : List gH} {ad : Nat → Nat} {nc ns b L i : Nat} {xs : Nat → Int32} {σ : gS} (C : gOkQ g T_L RL 4 ret room_1 Z ad nc ns (ELaw b L xs)) (hZ : Lay Z) (hgc : gcl Z Z.length) (hn2 : Z.length + 2 < 100000) (hi : i + 6 ≤ L) (hL : L ≤ 3072) (hc : nc + 2 ≤ 600000) (hs : ns + 99 ≤ 7302250) {r : Int32} {σ2 : gS} {Z2 : List gH} (h : F_op15 (xs (i + 1)) (xs (i + 2)) (xs (i + 3)) (xs (i + 4)) (xs (i + 5)) Z σ = some (r, r, σ2, Z2)) (hZ2 : Lay Z2) (K : ∀ g2 ad2, gOkQ g2 T_L RL 4 ret room_1 Z2 ad2 (nc + 2) (ns + 99) (ELaw b L xs) → g2 1637 (lawls b ad2 i) [] σ2) : g 721 (lawls b ad i) [] σ := by
  unfold F_op15 at h
  refine g_aload_n C 417 1 rfl rfl ?_
  refine g_arg C 418 1 rfl rfl rfl rfl rfl hi (by decide) hL ?_
  refine g_arg C 423 2 rfl rfl rfl rfl rfl hi (by decide) hL ?_
  refine g_callVi C 428 [.int (xs (i + 1)), .int (xs (i + 2))] [] rfl (M_X9_way hZ (xs (i + 1)) (xs (i + 2))) cnL_77 cwX9_way ciX9_way (hZ.at (i := 0) rfl) rfl rfl rfl rfl (Nat.le_of_ble_eq_true rfl) ⟨Nat.le_of_ble_eq_true rfl, Nat.le_of_ble_eq_true rfl⟩ h (fun r1 s1 h => ?_)
  refine g_aload_n C 429 2 rfl rfl ?_
  refine g_arg C 430 1 rfl rfl rfl rfl rfl hi (by decide) hL ?_
  refine g_arg C 435 2 rfl rfl rfl rfl rfl hi (by decide) hL ?_
  refine g_callVi C 440 [.int (xs (i + 1)), .int (xs (i + 2))] [.int r1] rfl (M_X10_way hZ (xs (i + 1)) (xs (i + 2))) cnL_80 cwX10_way ciX10_way (hZ.at (i := 65) rfl) rfl rfl rfl rfl (Nat.le_of_ble_eq_true rfl) ⟨Nat.le_of_ble_eq_true rfl, Nat.le_of_ble_eq_true rfl⟩ h (fun r2 s2 h => ?_)
  have h := Option.some.inj h
  obtain ⟨e1, h⟩ := Prod.mk.inj h
  obtain ⟨e2, h⟩ := Prod.mk.inj h
  obtain ⟨e3, e4⟩ := Prod.mk.inj h
  subst e3; subst e4
  refine g_icmp_eq_T C 441 1637 rfl rfl (e1.trans e2.symm) ?_
  exact g_widen C hc hs (fun g2 C2 => K g2 ad C2)
def F_op16 (a b c d e : Int32) (Z : List gH) (σ : gS) : Option (Int32 × Int32 × gS × List gH) := mCall (F_X9_minutes Z a σ) (fun r1 s1 => mCall (F_X10_minutes Z a s1) (fun r2 s2 => some (r1, r2, s2, Z)))
set_option maxRecDepth 20000 in
set_option maxHeartbeats 4000000 in
theorem law_c16 {g : Nat → List (Nat × Value) → List Value → gS → Prop} {Z : List gH} {ad : Nat → Nat} {nc ns b L i : Nat} {xs : Nat → Int32} {σ : gS} (C : gOkQ g T_L RL 4 ret room_1 Z ad nc ns (ELaw b L xs)) (hZ : Lay Z) (hgc : gcl Z Z.length) (hn2 : Z.length + 2 < 100000) (hi : i + 6 ≤ L) (hL : L ≤ 3072) (hc : nc + 2 ≤ 600000) (hs : ns + 99 ≤ 7302250) {r : Int32} {σ2 : gS} {Z2 : List gH} (h : F_op16 (xs (i + 1)) (xs (i + 2)) (xs (i + 3)) (xs (i + 4)) (xs (i + 5)) Z σ = some (r, r, σ2, Z2)) (hZ2 : Lay Z2) (K : ∀ g2 ad2, gOkQ g2 T_L RL 4 ret room_1 Z2 ad2 (nc + 2) (ns + 99) (ELaw b L xs) → g2 1637 (lawls b ad2 i) [] σ2) : g 754 (lawls b ad i) [] σ := by
  unfold F_op16 at h
  refine g_aload_n C 444 1 rfl rfl ?_
  refine g_arg C 445 1 rfl rfl rfl rfl rfl hi (by decide) hL ?_
  refine g_callVi C 450 [.int (xs (i + 1))] [] rfl (M_X9_minutes hZ (xs (i + 1))) cnL_81 cwX9_minutes ciX9_minutes (hZ.at (i := 0) rfl) rfl rfl rfl rfl (Nat.le_of_ble_eq_true rfl) ⟨Nat.le_of_ble_eq_true rfl, Nat.le_of_ble_eq_true rfl⟩ h (fun r1 s1 h => ?_)
  refine g_aload_n C 451 2 rfl rfl ?_
  refine g_arg C 452 1 rfl rfl rfl rfl rfl hi (by decide) hL ?_
  refine g_callVi C 457 [.int (xs (i + 1))] [.int r1] rfl (M_X10_minutes hZ (xs (i + 1))) cnL_84 cwX10_minutes ciX10_minutes (hZ.at (i := 65) rfl) rfl rfl rfl rfl (Nat.le_of_ble_eq_true rfl) ⟨Nat.le_of_ble_eq_true rfl, Nat.le_of_ble_eq_true rfl⟩ h (fun r2 s2 h => ?_)
  have h := Option.some.inj h
  obtain ⟨e1, h⟩ := Prod.mk.inj h
  obtain ⟨e2, h⟩ := Prod.mk.inj h
  obtain ⟨e3, e4⟩ := Prod.mk.inj h
  subst e3; subst e4
  refine g_icmp_eq_T C 458 1637 rfl rfl (e1.trans e2.symm) ?_
  exact g_widen C hc hs (fun g2 C2 => K g2 ad C2)
def F_op17 (a b c d e : Int32) (Z : List gH) (σ : gS) : Option (Int32 × Int32 × gS × List gH) := mCall (F_X9_house Z a σ) (fun r1 s1 => mCall (F_X10_house Z a s1) (fun r2 s2 => some (r1, r2, s2, Z)))
set_option maxRecDepth 20000 in
set_option maxHeartbeats 4000000 in
theorem law_c17 {g : Nat → List (Nat × Value) → List Value → gS → Prop} {Z : List gH} {ad : Nat → Nat} {nc ns b L i : Nat} {xs : Nat → Int32} {σ : gS} (C : gOkQ g T_L RL 4 ret room_1 Z ad nc ns (ELaw b L xs)) (hZ : Lay Z) (hgc : gcl Z Z.length) (hn2 : Z.length + 2 < 100000) (hi : i + 6 ≤ L) (hL : L ≤ 3072) (hc : nc + 2 ≤ 600000) (hs : ns + 99 ≤ 7302250) {r : Int32} {σ2 : gS} {Z2 : List gH} (h : F_op17 (xs (i + 1)) (xs (i + 2)) (xs (i + 3)) (xs (i + 4)) (xs (i + 5)) Z σ = some (r, r, σ2, Z2)) (hZ2 : Lay Z2) (K : ∀ g2 ad2, gOkQ g2 T_L RL 4 ret room_1 Z2 ad2 (nc + 2) (ns + 99) (ELaw b L xs) → g2 1637 (lawls b ad2 i) [] σ2) : g 777 (lawls b ad i) [] σ := by
  unfold F_op17 at h
  refine g_aload_n C 461 1 rfl rfl ?_
  refine g_arg C 462 1 rfl rfl rfl rfl rfl hi (by decide) hL ?_
  refine g_callVi C 467 [.int (xs (i + 1))] [] rfl (M_X9_house hZ (xs (i + 1))) cnL_85 cwX9_house ciX9_house (hZ.at (i := 0) rfl) rfl rfl rfl rfl (Nat.le_of_ble_eq_true rfl) ⟨Nat.le_of_ble_eq_true rfl, Nat.le_of_ble_eq_true rfl⟩ h (fun r1 s1 h => ?_)
  refine g_aload_n C 468 2 rfl rfl ?_
  refine g_arg C 469 1 rfl rfl rfl rfl rfl hi (by decide) hL ?_
  refine g_callVi C 474 [.int (xs (i + 1))] [.int r1] rfl (M_X10_house hZ (xs (i + 1))) cnL_88 cwX10_house ciX10_house (hZ.at (i := 65) rfl) rfl rfl rfl rfl (Nat.le_of_ble_eq_true rfl) ⟨Nat.le_of_ble_eq_true rfl, Nat.le_of_ble_eq_true rfl⟩ h (fun r2 s2 h => ?_)
  have h := Option.some.inj h
  obtain ⟨e1, h⟩ := Prod.mk.inj h
  obtain ⟨e2, h⟩ := Prod.mk.inj h
  obtain ⟨e3, e4⟩ := Prod.mk.inj h
  subst e3; subst e4
  refine g_icmp_eq_T C 475 1637 rfl rfl (e1.trans e2.symm) ?_
  exact g_widen C hc hs (fun g2 C2 => K g2 ad C2)
def F_op18 (a b c d e : Int32) (Z : List gH) (σ : gS) : Option (Int32 × Int32 × gS × List gH) := mCall (F_X9_behind Z a b σ) (fun r1 s1 => mCall (F_X10_behind Z a b s1) (fun r2 s2 => some (r1, r2, s2, Z)))
set_option maxRecDepth 20000 in
set_option maxHeartbeats 4000000 in
theorem law_c18 {g : Nat → List (Nat × Value) → List Value → gS → Prop} {Z : List gH} {ad : Nat → Nat} {nc ns b L i : Nat} {xs : Nat → Int32} {σ : gS} (C : gOkQ g T_L RL 4 ret room_1 Z ad nc ns (ELaw b L xs)) (hZ : Lay Z) (hgc : gcl Z Z.length) (hn2 : Z.length + 2 < 100000) (hi : i + 6 ≤ L) (hL : L ≤ 3072) (hc : nc + 2 ≤ 600000) (hs : ns + 99 ≤ 7302250) {r : Int32} {σ2 : gS} {Z2 : List gH} (h : F_op18 (xs (i + 1)) (xs (i + 2)) (xs (i + 3)) (xs (i + 4)) (xs (i + 5)) Z σ = some (r, r, σ2, Z2)) (hZ2 : Lay Z2) (K : ∀ g2 ad2, gOkQ g2 T_L RL 4 ret room_1 Z2 ad2 (nc + 2) (ns + 99) (ELaw b L xs) → g2 1637 (lawls b ad2 i) [] σ2) : g 800 (lawls b ad i) [] σ := by
  unfold F_op18 at h
  refine g_aload_n C 478 1 rfl rfl ?_
  refine g_arg C 479 1 rfl rfl rfl rfl rfl hi (by decide) hL ?_
  refine g_arg C 484 2 rfl rfl rfl rfl rfl hi (by decide) hL ?_
  refine g_callVi C 489 [.int (xs (i + 1)), .int (xs (i + 2))] [] rfl (M_X9_behind hZ (xs (i + 1)) (xs (i + 2))) cnL_89 cwX9_behind ciX9_behind (hZ.at (i := 0) rfl) rfl rfl rfl rfl (Nat.le_of_ble_eq_true rfl) ⟨Nat.le_of_ble_eq_true rfl, Nat.le_of_ble_eq_true rfl⟩ h (fun r1 s1 h => ?_)
  refine g_aload_n C 490 2 rfl rfl ?_
  refine g_arg C 491 1 rfl rfl rfl rfl rfl hi (by decide) hL ?_
  refine g_arg C 496 2 rfl rfl rfl rfl rfl hi (by decide) hL ?_
  refine g_callVi C 501 [.int (xs (i + 1)), .int (xs (i + 2))] [.int r1] rfl (M_X10_behind hZ (xs (i + 1)) (xs (i + 2))) cnL_92 cwX10_behind ciX10_behind (hZ.at (i := 65) rfl) rfl rfl rfl rfl (Nat.le_of_ble_eq_true rfl) ⟨Nat.le_of_ble_eq_true rfl, Nat.le_of_ble_eq_true rfl⟩ h (fun r2 s2 h => ?_)
  have h := Option.some.inj h
  obtain ⟨e1, h⟩ := Prod.mk.inj h
  obtain ⟨e2, h⟩ := Prod.mk.inj h
  obtain ⟨e3, e4⟩ := Prod.mk.inj h
  subst e3; subst e4
  refine g_icmp_eq_T C 502 1637 rfl rfl (e1.trans e2.symm) ?_
  exact g_widen C hc hs (fun g2 C2 => K g2 ad C2)
def F_op19 (a b c d e : Int32) (Z : List gH) (σ : gS) : Option (Int32 × Int32 × gS × List gH) := mCall (F_X9_out Z  σ) (fun r1 s1 => mCall (F_X10_out Z  s1) (fun r2 s2 => some (r1, r2, s2, Z)))
set_option maxRecDepth 20000 in
set_option maxHeartbeats 4000000 in
theorem law_c19 {g : Nat → List (Nat × Value) → List Value → gS → Prop} {Z : List gH} {ad : Nat → Nat} {nc ns b L i : Nat} {xs : Nat → Int32} {σ : gS} (C : gOkQ g T_L RL 4 ret room_1 Z ad nc ns (ELaw b L xs)) (hZ : Lay Z) (hgc : gcl Z Z.length) (hn2 : Z.length + 2 < 100000) (hi : i + 6 ≤ L) (hL : L ≤ 3072) (hc : nc + 2 ≤ 600000) (hs : ns + 99 ≤ 7302250) {r : Int32} {σ2 : gS} {Z2 : List gH} (h : F_op19 (xs (i + 1)) (xs (i + 2)) (xs (i + 3)) (xs (i + 4)) (xs (i + 5)) Z σ = some (r, r, σ2, Z2)) (hZ2 : Lay Z2) (K : ∀ g2 ad2, gOkQ g2 T_L RL 4 ret room_1 Z2 ad2 (nc + 2) (ns + 99) (ELaw b L xs) → g2 1637 (lawls b ad2 i) [] σ2) : g 833 (lawls b ad i) [] σ := by
  unfold F_op19 at h
  refine g_aload_n C 505 1 rfl rfl ?_
  refine g_callVi C 506 [] [] rfl (M_X9_out hZ ) cnL_93 cwX9_out ciX9_out (hZ.at (i := 0) rfl) rfl rfl rfl rfl (Nat.le_of_ble_eq_true rfl) ⟨Nat.le_of_ble_eq_true rfl, Nat.le_of_ble_eq_true rfl⟩ h (fun r1 s1 h => ?_)
  refine g_aload_n C 507 2 rfl rfl ?_
  refine g_callVi C 508 [] [.int r1] rfl (M_X10_out hZ ) cnL_97 cwX10_out ciX10_out (hZ.at (i := 65) rfl) rfl rfl rfl rfl (Nat.le_of_ble_eq_true rfl) ⟨Nat.le_of_ble_eq_true rfl, Nat.le_of_ble_eq_true rfl⟩ h (fun r2 s2 h => ?_)
  have h := Option.some.inj h
  obtain ⟨e1, h⟩ := Prod.mk.inj h
  obtain ⟨e2, h⟩ := Prod.mk.inj h
  obtain ⟨e3, e4⟩ := Prod.mk.inj h
  subst e3; subst e4
  refine g_icmp_eq_T C 509 1637 rfl rfl (e1.trans e2.symm) ?_
  exact g_widen C hc hs (fun g2 C2 => K g2 ad C2)
def F_op20 (a b c d e : Int32) (Z : List gH) (σ : gS) : Option (Int32 × Int32 × gS × List gH) := mCall (F_X9_hot Z a σ) (fun r1 s1 => mCall (F_X10_hot Z a s1) (fun r2 s2 => some (r1, r2, s2, Z)))
set_option maxRecDepth 20000 in
set_option maxHeartbeats 4000000 in
theorem law_c20 {g : Nat → List (Nat × Value) → List Value → gS → Prop} {Z : List gH} {ad : Nat → Nat} {nc ns b L i : Nat} {xs : Nat → Int32} {σ : gS} (C : gOkQ g T_L RL 4 ret room_1 Z ad nc ns (ELaw b L xs)) (hZ : Lay Z) (hgc : gcl Z Z.length) (hn2 : Z.length + 2 < 100000) (hi : i + 6 ≤ L) (hL : L ≤ 3072) (hc : nc + 2 ≤ 600000) (hs : ns + 99 ≤ 7302250) {r : Int32} {σ2 : gS} {Z2 : List gH} (h : F_op20 (xs (i + 1)) (xs (i + 2)) (xs (i + 3)) (xs (i + 4)) (xs (i + 5)) Z σ = some (r, r, σ2, Z2)) (hZ2 : Lay Z2) (K : ∀ g2 ad2, gOkQ g2 T_L RL 4 ret room_1 Z2 ad2 (nc + 2) (ns + 99) (ELaw b L xs) → g2 1637 (lawls b ad2 i) [] σ2) : g 846 (lawls b ad i) [] σ := by
  unfold F_op20 at h
  refine g_aload_n C 512 1 rfl rfl ?_
  refine g_arg C 513 1 rfl rfl rfl rfl rfl hi (by decide) hL ?_
  refine g_callVi C 518 [.int (xs (i + 1))] [] rfl (M_X9_hot hZ (xs (i + 1))) cnL_98 cwX9_hot ciX9_hot (hZ.at (i := 0) rfl) rfl rfl rfl rfl (Nat.le_of_ble_eq_true rfl) ⟨Nat.le_of_ble_eq_true rfl, Nat.le_of_ble_eq_true rfl⟩ h (fun r1 s1 h => ?_)
  refine g_aload_n C 519 2 rfl rfl ?_
  refine g_arg C 520 1 rfl rfl rfl rfl rfl hi (by decide) hL ?_
  refine g_callVi C 525 [.int (xs (i + 1))] [.int r1] rfl (M_X10_hot hZ (xs (i + 1))) cnL_101 cwX10_hot ciX10_hot (hZ.at (i := 65) rfl) rfl rfl rfl rfl (Nat.le_of_ble_eq_true rfl) ⟨Nat.le_of_ble_eq_true rfl, Nat.le_of_ble_eq_true rfl⟩ h (fun r2 s2 h => ?_)
  have h := Option.some.inj h
  obtain ⟨e1, h⟩ := Prod.mk.inj h
  obtain ⟨e2, h⟩ := Prod.mk.inj h
  obtain ⟨e3, e4⟩ := Prod.mk.inj h
  subst e3; subst e4
  refine g_icmp_eq_T C 526 1637 rfl rfl (e1.trans e2.symm) ?_
  exact g_widen C hc hs (fun g2 C2 => K g2 ad C2)
def F_op21 (a b c d e : Int32) (Z : List gH) (σ : gS) : Option (Int32 × Int32 × gS × List gH) := mCall (F_X9_shut Z a b σ) (fun r1 s1 => mCall (F_X10_shut Z a b s1) (fun r2 s2 => some (r1, r2, s2, Z)))
set_option maxRecDepth 20000 in
set_option maxHeartbeats 4000000 in
theorem law_c21 {g : Nat → List (Nat × Value) → List Value → gS → Prop} {Z : List gH} {ad : Nat → Nat} {nc ns b L i : Nat} {xs : Nat → Int32} {σ : gS} (C : gOkQ g T_L RL 4 ret room_1 Z ad nc ns (ELaw b L xs)) (hZ : Lay Z) (hgc : gcl Z Z.length) (hn2 : Z.length + 2 < 100000) (hi : i + 6 ≤ L) (hL : L ≤ 3072) (hc : nc + 2 ≤ 600000) (hs : ns + 99 ≤ 7302250) {r : Int32} {σ2 : gS} {Z2 : List gH} (h : F_op21 (xs (i + 1)) (xs (i + 2)) (xs (i + 3)) (xs (i + 4)) (xs (i + 5)) Z σ = some (r, r, σ2, Z2)) (hZ2 : Lay Z2) (K : ∀ g2 ad2, gOkQ g2 T_L RL 4 ret room_1 Z2 ad2 (nc + 2) (ns + 99) (ELaw b L xs) → g2 1637 (lawls b ad2 i) [] σ2) : g 869 (lawls b ad i) [] σ := by
  unfold F_op21 at h
  refine g_aload_n C 529 1 rfl rfl ?_
  refine g_arg C 530 1 rfl rfl rfl rfl rfl hi (by decide) hL ?_
  refine g_arg C 535 2 rfl rfl rfl rfl rfl hi (by decide) hL ?_
  refine g_callVi C 540 [.int (xs (i + 1)), .int (xs (i + 2))] [] rfl (M_X9_shut hZ (xs (i + 1)) (xs (i + 2))) cnL_102 cwX9_shut ciX9_shut (hZ.at (i := 0) rfl) rfl rfl rfl rfl (Nat.le_of_ble_eq_true rfl) ⟨Nat.le_of_ble_eq_true rfl, Nat.le_of_ble_eq_true rfl⟩ h (fun r1 s1 h => ?_)
  refine g_aload_n C 541 2 rfl rfl ?_
  refine g_arg C 542 1 rfl rfl rfl rfl rfl hi (by decide) hL ?_
  refine g_arg C 547 2 rfl rfl rfl rfl rfl hi (by decide) hL ?_
  refine g_callVi C 552 [.int (xs (i + 1)), .int (xs (i + 2))] [.int r1] rfl (M_X10_shut hZ (xs (i + 1)) (xs (i + 2))) cnL_105 cwX10_shut ciX10_shut (hZ.at (i := 65) rfl) rfl rfl rfl rfl (Nat.le_of_ble_eq_true rfl) ⟨Nat.le_of_ble_eq_true rfl, Nat.le_of_ble_eq_true rfl⟩ h (fun r2 s2 h => ?_)
  have h := Option.some.inj h
  obtain ⟨e1, h⟩ := Prod.mk.inj h
  obtain ⟨e2, h⟩ := Prod.mk.inj h
  obtain ⟨e3, e4⟩ := Prod.mk.inj h
  subst e3; subst e4
  refine g_icmp_eq_T C 553 1637 rfl rfl (e1.trans e2.symm) ?_
  exact g_widen C hc hs (fun g2 C2 => K g2 ad C2)
def F_op22 (a b c d e : Int32) (Z : List gH) (σ : gS) : Option (Int32 × Int32 × gS × List gH) := mCall (F_X9_hired Z a b σ) (fun r1 s1 => mCall (F_X10_hired Z a b s1) (fun r2 s2 => some (r1, r2, s2, Z)))
set_option maxRecDepth 20000 in
set_option maxHeartbeats 4000000 in
theorem law_c22 {g : Nat → List (Nat × Value) → List Value → gS → Prop} {Z : List gH} {ad : Nat → Nat} {nc ns b L i : Nat} {xs : Nat → Int32} {σ : gS} (C : gOkQ g T_L RL 4 ret room_1 Z ad nc ns (ELaw b L xs)) (hZ : Lay Z) (hgc : gcl Z Z.length) (hn2 : Z.length + 2 < 100000) (hi : i + 6 ≤ L) (hL : L ≤ 3072) (hc : nc + 2 ≤ 600000) (hs : ns + 99 ≤ 7302250) {r : Int32} {σ2 : gS} {Z2 : List gH} (h : F_op22 (xs (i + 1)) (xs (i + 2)) (xs (i + 3)) (xs (i + 4)) (xs (i + 5)) Z σ = some (r, r, σ2, Z2)) (hZ2 : Lay Z2) (K : ∀ g2 ad2, gOkQ g2 T_L RL 4 ret room_1 Z2 ad2 (nc + 2) (ns + 99) (ELaw b L xs) → g2 1637 (lawls b ad2 i) [] σ2) : g 902 (lawls b ad i) [] σ := by
  unfold F_op22 at h
  refine g_aload_n C 556 1 rfl rfl ?_
  refine g_arg C 557 1 rfl rfl rfl rfl rfl hi (by decide) hL ?_
  refine g_arg C 562 2 rfl rfl rfl rfl rfl hi (by decide) hL ?_
  refine g_callVi C 567 [.int (xs (i + 1)), .int (xs (i + 2))] [] rfl (M_X9_hired hZ (xs (i + 1)) (xs (i + 2))) cnL_106 cwX9_hired ciX9_hired (hZ.at (i := 0) rfl) rfl rfl rfl rfl (Nat.le_of_ble_eq_true rfl) ⟨Nat.le_of_ble_eq_true rfl, Nat.le_of_ble_eq_true rfl⟩ h (fun r1 s1 h => ?_)
  refine g_aload_n C 568 2 rfl rfl ?_
  refine g_arg C 569 1 rfl rfl rfl rfl rfl hi (by decide) hL ?_
  refine g_arg C 574 2 rfl rfl rfl rfl rfl hi (by decide) hL ?_
  refine g_callVi C 579 [.int (xs (i + 1)), .int (xs (i + 2))] [.int r1] rfl (M_X10_hired hZ (xs (i + 1)) (xs (i + 2))) cnL_109 cwX10_hired ciX10_hired (hZ.at (i := 65) rfl) rfl rfl rfl rfl (Nat.le_of_ble_eq_true rfl) ⟨Nat.le_of_ble_eq_true rfl, Nat.le_of_ble_eq_true rfl⟩ h (fun r2 s2 h => ?_)
  have h := Option.some.inj h
  obtain ⟨e1, h⟩ := Prod.mk.inj h
  obtain ⟨e2, h⟩ := Prod.mk.inj h
  obtain ⟨e3, e4⟩ := Prod.mk.inj h
  subst e3; subst e4
  refine g_icmp_eq_T C 580 1637 rfl rfl (e1.trans e2.symm) ?_
  exact g_widen C hc hs (fun g2 C2 => K g2 ad C2)
def F_op23 (a b c d e : Int32) (Z : List gH) (σ : gS) : Option (Int32 × Int32 × gS × List gH) := mCall (F_X9_becomes Z a b c σ) (fun r1 s1 => mCall (F_X10_becomes Z a b c s1) (fun r2 s2 => some (r1, r2, s2, Z)))
set_option maxRecDepth 20000 in
set_option maxHeartbeats 4000000 in
theorem law_c23 {g : Nat → List (Nat × Value) → List Value → gS → Prop} {Z : List gH} {ad : Nat → Nat} {nc ns b L i : Nat} {xs : Nat → Int32} {σ : gS} (C : gOkQ g T_L RL 4 ret room_1 Z ad nc ns (ELaw b L xs)) (hZ : Lay Z) (hgc : gcl Z Z.length) (hn2 : Z.length + 2 < 100000) (hi : i + 6 ≤ L) (hL : L ≤ 3072) (hc : nc + 2 ≤ 600000) (hs : ns + 99 ≤ 7302250) {r : Int32} {σ2 : gS} {Z2 : List gH} (h : F_op23 (xs (i + 1)) (xs (i + 2)) (xs (i + 3)) (xs (i + 4)) (xs (i + 5)) Z σ = some (r, r, σ2, Z2)) (hZ2 : Lay Z2) (K : ∀ g2 ad2, gOkQ g2 T_L RL 4 ret room_1 Z2 ad2 (nc + 2) (ns + 99) (ELaw b L xs) → g2 1637 (lawls b ad2 i) [] σ2) : g 935 (lawls b ad i) [] σ := by
  unfold F_op23 at h
  refine g_aload_n C 583 1 rfl rfl ?_
  refine g_arg C 584 1 rfl rfl rfl rfl rfl hi (by decide) hL ?_
  refine g_arg C 589 2 rfl rfl rfl rfl rfl hi (by decide) hL ?_
  refine g_arg C 594 3 rfl rfl rfl rfl rfl hi (by decide) hL ?_
  refine g_callVi C 599 [.int (xs (i + 1)), .int (xs (i + 2)), .int (xs (i + 3))] [] rfl (M_X9_becomes hZ (xs (i + 1)) (xs (i + 2)) (xs (i + 3))) cnL_110 cwX9_becomes ciX9_becomes (hZ.at (i := 0) rfl) rfl rfl rfl rfl (Nat.le_of_ble_eq_true rfl) ⟨Nat.le_of_ble_eq_true rfl, Nat.le_of_ble_eq_true rfl⟩ h (fun r1 s1 h => ?_)
  refine g_aload_n C 600 2 rfl rfl ?_
  refine g_arg C 601 1 rfl rfl rfl rfl rfl hi (by decide) hL ?_
  refine g_arg C 606 2 rfl rfl rfl rfl rfl hi (by decide) hL ?_
  refine g_arg C 611 3 rfl rfl rfl rfl rfl hi (by decide) hL ?_
  refine g_callVi C 616 [.int (xs (i + 1)), .int (xs (i + 2)), .int (xs (i + 3))] [.int r1] rfl (M_X10_becomes hZ (xs (i + 1)) (xs (i + 2)) (xs (i + 3))) cnL_113 cwX10_becomes ciX10_becomes (hZ.at (i := 65) rfl) rfl rfl rfl rfl (Nat.le_of_ble_eq_true rfl) ⟨Nat.le_of_ble_eq_true rfl, Nat.le_of_ble_eq_true rfl⟩ h (fun r2 s2 h => ?_)
  have h := Option.some.inj h
  obtain ⟨e1, h⟩ := Prod.mk.inj h
  obtain ⟨e2, h⟩ := Prod.mk.inj h
  obtain ⟨e3, e4⟩ := Prod.mk.inj h
  subst e3; subst e4
  refine g_icmp_eq_T C 617 1637 rfl rfl (e1.trans e2.symm) ?_
  exact g_widen C hc hs (fun g2 C2 => K g2 ad C2)
def F_op24 (a b c d e : Int32) (Z : List gH) (σ : gS) : Option (Int32 × Int32 × gS × List gH) := mCall (F_X9_began Z a σ) (fun r1 s1 => mCall (F_X10_began Z a s1) (fun r2 s2 => some (r1, r2, s2, Z)))
set_option maxRecDepth 20000 in
set_option maxHeartbeats 4000000 in
theorem law_c24 {g : Nat → List (Nat × Value) → List Value → gS → Prop} {Z : List gH} {ad : Nat → Nat} {nc ns b L i : Nat} {xs : Nat → Int32} {σ : gS} (C : gOkQ g T_L RL 4 ret room_1 Z ad nc ns (ELaw b L xs)) (hZ : Lay Z) (hgc : gcl Z Z.length) (hn2 : Z.length + 2 < 100000) (hi : i + 6 ≤ L) (hL : L ≤ 3072) (hc : nc + 2 ≤ 600000) (hs : ns + 99 ≤ 7302250) {r : Int32} {σ2 : gS} {Z2 : List gH} (h : F_op24 (xs (i + 1)) (xs (i + 2)) (xs (i + 3)) (xs (i + 4)) (xs (i + 5)) Z σ = some (r, r, σ2, Z2)) (hZ2 : Lay Z2) (K : ∀ g2 ad2, gOkQ g2 T_L RL 4 ret room_1 Z2 ad2 (nc + 2) (ns + 99) (ELaw b L xs) → g2 1637 (lawls b ad2 i) [] σ2) : g 978 (lawls b ad i) [] σ := by
  unfold F_op24 at h
  refine g_aload_n C 620 1 rfl rfl ?_
  refine g_arg C 621 1 rfl rfl rfl rfl rfl hi (by decide) hL ?_
  refine g_callVi C 626 [.int (xs (i + 1))] [] rfl (M_X9_began hZ (xs (i + 1))) cnL_114 cwX9_began ciX9_began (hZ.at (i := 0) rfl) rfl rfl rfl rfl (Nat.le_of_ble_eq_true rfl) ⟨Nat.le_of_ble_eq_true rfl, Nat.le_of_ble_eq_true rfl⟩ h (fun r1 s1 h => ?_)
  refine g_aload_n C 627 2 rfl rfl ?_
  refine g_arg C 628 1 rfl rfl rfl rfl rfl hi (by decide) hL ?_
  refine g_callVi C 633 [.int (xs (i + 1))] [.int r1] rfl (M_X10_began hZ (xs (i + 1))) cnL_117 cwX10_began ciX10_began (hZ.at (i := 65) rfl) rfl rfl rfl rfl (Nat.le_of_ble_eq_true rfl) ⟨Nat.le_of_ble_eq_true rfl, Nat.le_of_ble_eq_true rfl⟩ h (fun r2 s2 h => ?_)
  have h := Option.some.inj h
  obtain ⟨e1, h⟩ := Prod.mk.inj h
  obtain ⟨e2, h⟩ := Prod.mk.inj h
  obtain ⟨e3, e4⟩ := Prod.mk.inj h
  subst e3; subst e4
  refine g_icmp_eq_T C 634 1637 rfl rfl (e1.trans e2.symm) ?_
  exact g_widen C hc hs (fun g2 C2 => K g2 ad C2)
def F_op25 (a b c d e : Int32) (Z : List gH) (σ : gS) : Option (Int32 × Int32 × gS × List gH) := mCall (F_X9_like Z a b σ) (fun r1 s1 => mCall (F_X10_like Z a b s1) (fun r2 s2 => some (r1, r2, s2, Z)))
set_option maxRecDepth 20000 in
set_option maxHeartbeats 4000000 in
theorem law_c25 {g : Nat → List (Nat × Value) → List Value → gS → Prop} {Z : List gH} {ad : Nat → Nat} {nc ns b L i : Nat} {xs : Nat → Int32} {σ : gS} (C : gOkQ g T_L RL 4 ret room_1 Z ad nc ns (ELaw b L xs)) (hZ : Lay Z) (hgc : gcl Z Z.length) (hn2 : Z.length + 2 < 100000) (hi : i + 6 ≤ L) (hL : L ≤ 3072) (hc : nc + 2 ≤ 600000) (hs : ns + 99 ≤ 7302250) {r : Int32} {σ2 : gS} {Z2 : List gH} (h : F_op25 (xs (i + 1)) (xs (i + 2)) (xs (i + 3)) (xs (i + 4)) (xs (i + 5)) Z σ = some (r, r, σ2, Z2)) (hZ2 : Lay Z2) (K : ∀ g2 ad2, gOkQ g2 T_L RL 4 ret room_1 Z2 ad2 (nc + 2) (ns + 99) (ELaw b L xs) → g2 1637 (lawls b ad2 i) [] σ2) : g 1001 (lawls b ad i) [] σ := by
  unfold F_op25 at h
  refine g_aload_n C 637 1 rfl rfl ?_
  refine g_arg C 638 1 rfl rfl rfl rfl rfl hi (by decide) hL ?_
  refine g_arg C 643 2 rfl rfl rfl rfl rfl hi (by decide) hL ?_
  refine g_callVi C 648 [.int (xs (i + 1)), .int (xs (i + 2))] [] rfl (M_X9_like hZ (xs (i + 1)) (xs (i + 2))) cnL_118 cwX9_like ciX9_like (hZ.at (i := 0) rfl) rfl rfl rfl rfl (Nat.le_of_ble_eq_true rfl) ⟨Nat.le_of_ble_eq_true rfl, Nat.le_of_ble_eq_true rfl⟩ h (fun r1 s1 h => ?_)
  refine g_aload_n C 649 2 rfl rfl ?_
  refine g_arg C 650 1 rfl rfl rfl rfl rfl hi (by decide) hL ?_
  refine g_arg C 655 2 rfl rfl rfl rfl rfl hi (by decide) hL ?_
  refine g_callVi C 660 [.int (xs (i + 1)), .int (xs (i + 2))] [.int r1] rfl (M_X10_like hZ (xs (i + 1)) (xs (i + 2))) cnL_121 cwX10_like ciX10_like (hZ.at (i := 65) rfl) rfl rfl rfl rfl (Nat.le_of_ble_eq_true rfl) ⟨Nat.le_of_ble_eq_true rfl, Nat.le_of_ble_eq_true rfl⟩ h (fun r2 s2 h => ?_)
  have h := Option.some.inj h
  obtain ⟨e1, h⟩ := Prod.mk.inj h
  obtain ⟨e2, h⟩ := Prod.mk.inj h
  obtain ⟨e3, e4⟩ := Prod.mk.inj h
  subst e3; subst e4
  refine g_icmp_eq_T C 661 1637 rfl rfl (e1.trans e2.symm) ?_
  exact g_widen C hc hs (fun g2 C2 => K g2 ad C2)
def F_op26 (a b c d e : Int32) (Z : List gH) (σ : gS) : Option (Int32 × Int32 × gS × List gH) := mCall (F_X9_fee Z  σ) (fun r1 s1 => mCall (F_X10_fee Z  s1) (fun r2 s2 => some (r1, r2, s2, Z)))
set_option maxRecDepth 20000 in
set_option maxHeartbeats 4000000 in
theorem law_c26 {g : Nat → List (Nat × Value) → List Value → gS → Prop} {Z : List gH} {ad : Nat → Nat} {nc ns b L i : Nat} {xs : Nat → Int32} {σ : gS} (C : gOkQ g T_L RL 4 ret room_1 Z ad nc ns (ELaw b L xs)) (hZ : Lay Z) (hgc : gcl Z Z.length) (hn2 : Z.length + 2 < 100000) (hi : i + 6 ≤ L) (hL : L ≤ 3072) (hc : nc + 2 ≤ 600000) (hs : ns + 99 ≤ 7302250) {r : Int32} {σ2 : gS} {Z2 : List gH} (h : F_op26 (xs (i + 1)) (xs (i + 2)) (xs (i + 3)) (xs (i + 4)) (xs (i + 5)) Z σ = some (r, r, σ2, Z2)) (hZ2 : Lay Z2) (K : ∀ g2 ad2, gOkQ g2 T_L RL 4 ret room_1 Z2 ad2 (nc + 2) (ns + 99) (ELaw b L xs) → g2 1637 (lawls b ad2 i) [] σ2) : g 1034 (lawls b ad i) [] σ := by
  unfold F_op26 at h
  refine g_aload_n C 664 1 rfl rfl ?_
  refine g_callVi C 665 [] [] rfl (M_X9_fee hZ ) cnL_122 cwX9_fee ciX9_fee (hZ.at (i := 0) rfl) rfl rfl rfl rfl (Nat.le_of_ble_eq_true rfl) ⟨Nat.le_of_ble_eq_true rfl, Nat.le_of_ble_eq_true rfl⟩ h (fun r1 s1 h => ?_)
  refine g_aload_n C 666 2 rfl rfl ?_
  refine g_callVi C 667 [] [.int r1] rfl (M_X10_fee hZ ) cnL_125 cwX10_fee ciX10_fee (hZ.at (i := 65) rfl) rfl rfl rfl rfl (Nat.le_of_ble_eq_true rfl) ⟨Nat.le_of_ble_eq_true rfl, Nat.le_of_ble_eq_true rfl⟩ h (fun r2 s2 h => ?_)
  have h := Option.some.inj h
  obtain ⟨e1, h⟩ := Prod.mk.inj h
  obtain ⟨e2, h⟩ := Prod.mk.inj h
  obtain ⟨e3, e4⟩ := Prod.mk.inj h
  subst e3; subst e4
  refine g_icmp_eq_T C 668 1637 rfl rfl (e1.trans e2.symm) ?_
  exact g_widen C hc hs (fun g2 C2 => K g2 ad C2)
def F_op27 (a b c d e : Int32) (Z : List gH) (σ : gS) : Option (Int32 × Int32 × gS × List gH) := mCall (F_X9_fine Z a σ) (fun r1 s1 => mCall (F_X10_fine Z a s1) (fun r2 s2 => some (r1, r2, s2, Z)))
set_option maxRecDepth 20000 in
set_option maxHeartbeats 4000000 in
theorem law_c27 {g : Nat → List (Nat × Value) → List Value → gS → Prop} {Z : List gH} {ad : Nat → Nat} {nc ns b L i : Nat} {xs : Nat → Int32} {σ : gS} (C : gOkQ g T_L RL 4 ret room_1 Z ad nc ns (ELaw b L xs)) (hZ : Lay Z) (hgc : gcl Z Z.length) (hn2 : Z.length + 2 < 100000) (hi : i + 6 ≤ L) (hL : L ≤ 3072) (hc : nc + 2 ≤ 600000) (hs : ns + 99 ≤ 7302250) {r : Int32} {σ2 : gS} {Z2 : List gH} (h : F_op27 (xs (i + 1)) (xs (i + 2)) (xs (i + 3)) (xs (i + 4)) (xs (i + 5)) Z σ = some (r, r, σ2, Z2)) (hZ2 : Lay Z2) (K : ∀ g2 ad2, gOkQ g2 T_L RL 4 ret room_1 Z2 ad2 (nc + 2) (ns + 99) (ELaw b L xs) → g2 1637 (lawls b ad2 i) [] σ2) : g 1047 (lawls b ad i) [] σ := by
  unfold F_op27 at h
  refine g_aload_n C 671 1 rfl rfl ?_
  refine g_arg C 672 1 rfl rfl rfl rfl rfl hi (by decide) hL ?_
  refine g_callVi C 677 [.int (xs (i + 1))] [] rfl (M_X9_fine hZ (xs (i + 1))) cnL_126 cwX9_fine ciX9_fine (hZ.at (i := 0) rfl) rfl rfl rfl rfl (Nat.le_of_ble_eq_true rfl) ⟨Nat.le_of_ble_eq_true rfl, Nat.le_of_ble_eq_true rfl⟩ h (fun r1 s1 h => ?_)
  refine g_aload_n C 678 2 rfl rfl ?_
  refine g_arg C 679 1 rfl rfl rfl rfl rfl hi (by decide) hL ?_
  refine g_callVi C 684 [.int (xs (i + 1))] [.int r1] rfl (M_X10_fine hZ (xs (i + 1))) cnL_129 cwX10_fine ciX10_fine (hZ.at (i := 65) rfl) rfl rfl rfl rfl (Nat.le_of_ble_eq_true rfl) ⟨Nat.le_of_ble_eq_true rfl, Nat.le_of_ble_eq_true rfl⟩ h (fun r2 s2 h => ?_)
  have h := Option.some.inj h
  obtain ⟨e1, h⟩ := Prod.mk.inj h
  obtain ⟨e2, h⟩ := Prod.mk.inj h
  obtain ⟨e3, e4⟩ := Prod.mk.inj h
  subst e3; subst e4
  refine g_icmp_eq_T C 685 1637 rfl rfl (e1.trans e2.symm) ?_
  exact g_widen C hc hs (fun g2 C2 => K g2 ad C2)
def F_op28 (a b c d e : Int32) (Z : List gH) (σ : gS) : Option (Int32 × Int32 × gS × List gH) := mCall (F_X9_feed Z a b c σ) (fun r1 s1 => mCall (F_X10_feed Z a b c s1) (fun r2 s2 => some (r1, r2, s2, Z)))
set_option maxRecDepth 20000 in
set_option maxHeartbeats 4000000 in
theorem law_c28 {g : Nat → List (Nat × Value) → List Value → gS → Prop} {Z : List gH} {ad : Nat → Nat} {nc ns b L i : Nat} {xs : Nat → Int32} {σ : gS} (C : gOkQ g T_L RL 4 ret room_1 Z ad nc ns (ELaw b L xs)) (hZ : Lay Z) (hgc : gcl Z Z.length) (hn2 : Z.length + 2 < 100000) (hi : i + 6 ≤ L) (hL : L ≤ 3072) (hc : nc + 2 ≤ 600000) (hs : ns + 99 ≤ 7302250) {r : Int32} {σ2 : gS} {Z2 : List gH} (h : F_op28 (xs (i + 1)) (xs (i + 2)) (xs (i + 3)) (xs (i + 4)) (xs (i + 5)) Z σ = some (r, r, σ2, Z2)) (hZ2 : Lay Z2) (K : ∀ g2 ad2, gOkQ g2 T_L RL 4 ret room_1 Z2 ad2 (nc + 2) (ns + 99) (ELaw b L xs) → g2 1637 (lawls b ad2 i) [] σ2) : g 1070 (lawls b ad i) [] σ := by
  unfold F_op28 at h
  refine g_aload_n C 688 1 rfl rfl ?_
  refine g_arg C 689 1 rfl rfl rfl rfl rfl hi (by decide) hL ?_
  refine g_arg C 694 2 rfl rfl rfl rfl rfl hi (by decide) hL ?_
  refine g_arg C 699 3 rfl rfl rfl rfl rfl hi (by decide) hL ?_
  refine g_callVi C 704 [.int (xs (i + 1)), .int (xs (i + 2)), .int (xs (i + 3))] [] rfl (M_X9_feed hZ (xs (i + 1)) (xs (i + 2)) (xs (i + 3))) cnL_130 cwX9_feed ciX9_feed (hZ.at (i := 0) rfl) rfl rfl rfl rfl (Nat.le_of_ble_eq_true rfl) ⟨Nat.le_of_ble_eq_true rfl, Nat.le_of_ble_eq_true rfl⟩ h (fun r1 s1 h => ?_)
  refine g_aload_n C 705 2 rfl rfl ?_
  refine g_arg C 706 1 rfl rfl rfl rfl rfl hi (by decide) hL ?_
  refine g_arg C 711 2 rfl rfl rfl rfl rfl hi (by decide) hL ?_
  refine g_arg C 716 3 rfl rfl rfl rfl rfl hi (by decide) hL ?_
  refine g_callVi C 721 [.int (xs (i + 1)), .int (xs (i + 2)), .int (xs (i + 3))] [.int r1] rfl (M_X10_feed hZ (xs (i + 1)) (xs (i + 2)) (xs (i + 3))) cnL_133 cwX10_feed ciX10_feed (hZ.at (i := 65) rfl) rfl rfl rfl rfl (Nat.le_of_ble_eq_true rfl) ⟨Nat.le_of_ble_eq_true rfl, Nat.le_of_ble_eq_true rfl⟩ h (fun r2 s2 h => ?_)
  have h := Option.some.inj h
  obtain ⟨e1, h⟩ := Prod.mk.inj h
  obtain ⟨e2, h⟩ := Prod.mk.inj h
  obtain ⟨e3, e4⟩ := Prod.mk.inj h
  subst e3; subst e4
  refine g_icmp_eq_T C 722 1637 rfl rfl (e1.trans e2.symm) ?_
  exact g_widen C hc hs (fun g2 C2 => K g2 ad C2)
def F_op29 (a b c d e : Int32) (Z : List gH) (σ : gS) : Option (Int32 × Int32 × gS × List gH) := mCall (F_X9_trim Z a σ) (fun r1 s1 => mCall (F_X10_trim Z a s1) (fun r2 s2 => some (r1, r2, s2, Z)))
set_option maxRecDepth 20000 in
set_option maxHeartbeats 4000000 in
theorem law_c29 {g : Nat → List (Nat × Value) → List Value → gS → Prop} {Z : List gH} {ad : Nat → Nat} {nc ns b L i : Nat} {xs : Nat → Int32} {σ : gS} (C : gOkQ g T_L RL 4 ret room_1 Z ad nc ns (ELaw b L xs)) (hZ : Lay Z) (hgc : gcl Z Z.length) (hn2 : Z.length + 2 < 100000) (hi : i + 6 ≤ L) (hL : L ≤ 3072) (hc : nc + 2 ≤ 600000) (hs : ns + 99 ≤ 7302250) {r : Int32} {σ2 : gS} {Z2 : List gH} (h : F_op29 (xs (i + 1)) (xs (i + 2)) (xs (i + 3)) (xs (i + 4)) (xs (i + 5)) Z σ = some (r, r, σ2, Z2)) (hZ2 : Lay Z2) (K : ∀ g2 ad2, gOkQ g2 T_L RL 4 ret room_1 Z2 ad2 (nc + 2) (ns + 99) (ELaw b L xs) → g2 1637 (lawls b ad2 i) [] σ2) : g 1113 (lawls b ad i) [] σ := by
  unfold F_op29 at h
  refine g_aload_n C 725 1 rfl rfl ?_
  refine g_arg C 726 1 rfl rfl rfl rfl rfl hi (by decide) hL ?_
  refine g_callVi C 731 [.int (xs (i + 1))] [] rfl (M_X9_trim hZ (xs (i + 1))) cnL_134 cwX9_trim ciX9_trim (hZ.at (i := 0) rfl) rfl rfl rfl rfl (Nat.le_of_ble_eq_true rfl) ⟨Nat.le_of_ble_eq_true rfl, Nat.le_of_ble_eq_true rfl⟩ h (fun r1 s1 h => ?_)
  refine g_aload_n C 732 2 rfl rfl ?_
  refine g_arg C 733 1 rfl rfl rfl rfl rfl hi (by decide) hL ?_
  refine g_callVi C 738 [.int (xs (i + 1))] [.int r1] rfl (M_X10_trim hZ (xs (i + 1))) cnL_137 cwX10_trim ciX10_trim (hZ.at (i := 65) rfl) rfl rfl rfl rfl (Nat.le_of_ble_eq_true rfl) ⟨Nat.le_of_ble_eq_true rfl, Nat.le_of_ble_eq_true rfl⟩ h (fun r2 s2 h => ?_)
  have h := Option.some.inj h
  obtain ⟨e1, h⟩ := Prod.mk.inj h
  obtain ⟨e2, h⟩ := Prod.mk.inj h
  obtain ⟨e3, e4⟩ := Prod.mk.inj h
  subst e3; subst e4
  refine g_icmp_eq_T C 739 1637 rfl rfl (e1.trans e2.symm) ?_
  exact g_widen C hc hs (fun g2 C2 => K g2 ad C2)
def F_op30 (a b c d e : Int32) (Z : List gH) (σ : gS) : Option (Int32 × Int32 × gS × List gH) := match F_text Z σ with
  | none => none
  | some q => mCall (F_X10_text q.2.2 q.2.1) (fun r2 s2 => some (q.1, r2, s2, q.2.2))
set_option maxRecDepth 20000 in
set_option maxHeartbeats 4000000 in
theorem law_c30 {g : Nat → List (Nat × Value) → List Value → gS → Prop} {Z : List gH} {ad : Nat → Nat} {nc ns b L i : Nat} {xs : Nat → Int32} {σ : gS} (C : gOkQ g T_L RL 4 ret room_1 Z ad nc ns (ELaw b L xs)) (hZ : Lay Z) (hgc : gcl Z Z.length) (hn2 : Z.length + 2 < 100000) (hi : i + 6 ≤ L) (hL : L ≤ 3072) (hc : nc + 2 ≤ 600000) (hs : ns + 99 ≤ 7302250) {r : Int32} {σ2 : gS} {Z2 : List gH} (h : F_op30 (xs (i + 1)) (xs (i + 2)) (xs (i + 3)) (xs (i + 4)) (xs (i + 5)) Z σ = some (r, r, σ2, Z2)) (hZ2 : Lay Z2) (K : ∀ g2 ad2, gOkQ g2 T_L RL 4 ret room_1 Z2 ad2 (nc + 2) (ns + 99) (ELaw b L xs) → g2 1637 (lawls b ad2 i) [] σ2) : g 1136 (lawls b ad i) [] σ := by
  unfold F_op30 at h
  cases hF : F_text Z σ with
  | none => rw [hF] at h; cases h
  | some q =>
  rw [hF] at h
  obtain ⟨r1, s1, Z1⟩ := q
  dsimp only at h
  have h89 : 89 < Z.length := lt_of_at (hZ.at (i := 89) rfl)
  refine g_aload_n C 742 1 rfl rfl ?_
  refine g2_callVi C 743 [] [] rfl (K_text hZ hgc hn2 hF) wd943 cwX9_text ciX9_text (hZ.at (i := 0) rfl) rfl rfl rfl (n := Z.length) rfl (fun ad => lawls b ad i) (fun ad => []) rfl rfl (fun _ h => ⟨by unfold lawls; simp only [h 0 (Or.inl (by omega)), h 65 (Or.inl (by omega))], rfl⟩) rfl (Nat.le_of_ble_eq_true rfl) ⟨Nat.le_of_ble_eq_true rfl, Nat.le_of_ble_eq_true rfl⟩ hc hs (fun ad2 g2 hg2 C2 => ?_)
  have hZ1 : Lay Z1 := by
    cases hM : F_X10_text Z1 s1 with
    | none => rw [hM] at h; cases h
    | some q =>
      rw [hM] at h
      have h := Option.some.inj h
      have e := congrArg (fun q => q.2.2.2) h
      dsimp only at e
      rw [e]; exact hZ2
  refine g_aload_n C2 744 2 rfl rfl ?_
  refine g_callVi C2 745 [] [.int r1] rfl (M_X10_text hZ1) cnL_141 cwX10_text ciX10_text (hZ1.at (i := 65) rfl) rfl rfl rfl rfl (Nat.le_of_ble_eq_true rfl) ⟨Nat.le_of_ble_eq_true rfl, Nat.le_of_ble_eq_true rfl⟩ h (fun r2 s2 h => ?_)
  have h := Option.some.inj h
  obtain ⟨e1, h⟩ := Prod.mk.inj h
  obtain ⟨e2, h⟩ := Prod.mk.inj h
  obtain ⟨e3, e4⟩ := Prod.mk.inj h
  subst e3; subst e4
  refine g_icmp_eq_T C2 746 1637 rfl rfl (e1.trans e2.symm) ?_
  exact K g2 ad2 C2
def F_op31 (a b c d e : Int32) (Z : List gH) (σ : gS) : Option (Int32 × Int32 × gS × List gH) := mCall (F_X9_textTold Z a b σ) (fun r1 s1 => mCall (F_X10_textTold Z a b s1) (fun r2 s2 => some (r1, r2, s2, Z)))
set_option maxRecDepth 20000 in
set_option maxHeartbeats 4000000 in
theorem law_c31 {g : Nat → List (Nat × Value) → List Value → gS → Prop} {Z : List gH} {ad : Nat → Nat} {nc ns b L i : Nat} {xs : Nat → Int32} {σ : gS} (C : gOkQ g T_L RL 4 ret room_1 Z ad nc ns (ELaw b L xs)) (hZ : Lay Z) (hgc : gcl Z Z.length) (hn2 : Z.length + 2 < 100000) (hi : i + 6 ≤ L) (hL : L ≤ 3072) (hc : nc + 2 ≤ 600000) (hs : ns + 99 ≤ 7302250) {r : Int32} {σ2 : gS} {Z2 : List gH} (h : F_op31 (xs (i + 1)) (xs (i + 2)) (xs (i + 3)) (xs (i + 4)) (xs (i + 5)) Z σ = some (r, r, σ2, Z2)) (hZ2 : Lay Z2) (K : ∀ g2 ad2, gOkQ g2 T_L RL 4 ret room_1 Z2 ad2 (nc + 2) (ns + 99) (ELaw b L xs) → g2 1637 (lawls b ad2 i) [] σ2) : g 1149 (lawls b ad i) [] σ := by
  unfold F_op31 at h
  refine g_aload_n C 749 1 rfl rfl ?_
  refine g_arg C 750 1 rfl rfl rfl rfl rfl hi (by decide) hL ?_
  refine g_arg C 755 2 rfl rfl rfl rfl rfl hi (by decide) hL ?_
  refine g_callVi C 760 [.int (xs (i + 1)), .int (xs (i + 2))] [] rfl (M_X9_textTold hZ (xs (i + 1)) (xs (i + 2))) cnL_142 cwX9_textTold ciX9_textTold (hZ.at (i := 0) rfl) rfl rfl rfl rfl (Nat.le_of_ble_eq_true rfl) ⟨Nat.le_of_ble_eq_true rfl, Nat.le_of_ble_eq_true rfl⟩ h (fun r1 s1 h => ?_)
  refine g_aload_n C 761 2 rfl rfl ?_
  refine g_arg C 762 1 rfl rfl rfl rfl rfl hi (by decide) hL ?_
  refine g_arg C 767 2 rfl rfl rfl rfl rfl hi (by decide) hL ?_
  refine g_callVi C 772 [.int (xs (i + 1)), .int (xs (i + 2))] [.int r1] rfl (M_X10_textTold hZ (xs (i + 1)) (xs (i + 2))) cnL_145 cwX10_textTold ciX10_textTold (hZ.at (i := 65) rfl) rfl rfl rfl rfl (Nat.le_of_ble_eq_true rfl) ⟨Nat.le_of_ble_eq_true rfl, Nat.le_of_ble_eq_true rfl⟩ h (fun r2 s2 h => ?_)
  have h := Option.some.inj h
  obtain ⟨e1, h⟩ := Prod.mk.inj h
  obtain ⟨e2, h⟩ := Prod.mk.inj h
  obtain ⟨e3, e4⟩ := Prod.mk.inj h
  subst e3; subst e4
  refine g_icmp_eq_T C 773 1637 rfl rfl (e1.trans e2.symm) ?_
  exact g_widen C hc hs (fun g2 C2 => K g2 ad C2)
def F_op32 (a b c d e : Int32) (Z : List gH) (σ : gS) : Option (Int32 × Int32 × gS × List gH) := mCall (F_X9_why Z a σ) (fun r1 s1 => mCall (F_X10_why Z a s1) (fun r2 s2 => some (r1, r2, s2, Z)))
set_option maxRecDepth 20000 in
set_option maxHeartbeats 4000000 in
theorem law_c32 {g : Nat → List (Nat × Value) → List Value → gS → Prop} {Z : List gH} {ad : Nat → Nat} {nc ns b L i : Nat} {xs : Nat → Int32} {σ : gS} (C : gOkQ g T_L RL 4 ret room_1 Z ad nc ns (ELaw b L xs)) (hZ : Lay Z) (hgc : gcl Z Z.length) (hn2 : Z.length + 2 < 100000) (hi : i + 6 ≤ L) (hL : L ≤ 3072) (hc : nc + 2 ≤ 600000) (hs : ns + 99 ≤ 7302250) {r : Int32} {σ2 : gS} {Z2 : List gH} (h : F_op32 (xs (i + 1)) (xs (i + 2)) (xs (i + 3)) (xs (i + 4)) (xs (i + 5)) Z σ = some (r, r, σ2, Z2)) (hZ2 : Lay Z2) (K : ∀ g2 ad2, gOkQ g2 T_L RL 4 ret room_1 Z2 ad2 (nc + 2) (ns + 99) (ELaw b L xs) → g2 1637 (lawls b ad2 i) [] σ2) : g 1182 (lawls b ad i) [] σ := by
  unfold F_op32 at h
  refine g_aload_n C 776 1 rfl rfl ?_
  refine g_arg C 777 1 rfl rfl rfl rfl rfl hi (by decide) hL ?_
  refine g_callVi C 782 [.int (xs (i + 1))] [] rfl (M_X9_why hZ (xs (i + 1))) cnL_146 cwX9_why ciX9_why (hZ.at (i := 0) rfl) rfl rfl rfl rfl (Nat.le_of_ble_eq_true rfl) ⟨Nat.le_of_ble_eq_true rfl, Nat.le_of_ble_eq_true rfl⟩ h (fun r1 s1 h => ?_)
  refine g_aload_n C 783 2 rfl rfl ?_
  refine g_arg C 784 1 rfl rfl rfl rfl rfl hi (by decide) hL ?_
  refine g_callVi C 789 [.int (xs (i + 1))] [.int r1] rfl (M_X10_why hZ (xs (i + 1))) cnL_149 cwX10_why ciX10_why (hZ.at (i := 65) rfl) rfl rfl rfl rfl (Nat.le_of_ble_eq_true rfl) ⟨Nat.le_of_ble_eq_true rfl, Nat.le_of_ble_eq_true rfl⟩ h (fun r2 s2 h => ?_)
  have h := Option.some.inj h
  obtain ⟨e1, h⟩ := Prod.mk.inj h
  obtain ⟨e2, h⟩ := Prod.mk.inj h
  obtain ⟨e3, e4⟩ := Prod.mk.inj h
  subst e3; subst e4
  refine g_icmp_eq_T C 790 1637 rfl rfl (e1.trans e2.symm) ?_
  exact g_widen C hc hs (fun g2 C2 => K g2 ad C2)
def F_op33 (a b c d e : Int32) (Z : List gH) (σ : gS) : Option (Int32 × Int32 × gS × List gH) := mCall (F_X9_sheet Z a b c σ) (fun r1 s1 => mCall (F_X10_sheet Z a b c s1) (fun r2 s2 => some (r1, r2, s2, Z)))
set_option maxRecDepth 20000 in
set_option maxHeartbeats 4000000 in
theorem law_c33 {g : Nat → List (Nat × Value) → List Value → gS → Prop} {Z : List gH} {ad : Nat → Nat} {nc ns b L i : Nat} {xs : Nat → Int32} {σ : gS} (C : gOkQ g T_L RL 4 ret room_1 Z ad nc ns (ELaw b L xs)) (hZ : Lay Z) (hgc : gcl Z Z.length) (hn2 : Z.length + 2 < 100000) (hi : i + 6 ≤ L) (hL : L ≤ 3072) (hc : nc + 2 ≤ 600000) (hs : ns + 99 ≤ 7302250) {r : Int32} {σ2 : gS} {Z2 : List gH} (h : F_op33 (xs (i + 1)) (xs (i + 2)) (xs (i + 3)) (xs (i + 4)) (xs (i + 5)) Z σ = some (r, r, σ2, Z2)) (hZ2 : Lay Z2) (K : ∀ g2 ad2, gOkQ g2 T_L RL 4 ret room_1 Z2 ad2 (nc + 2) (ns + 99) (ELaw b L xs) → g2 1637 (lawls b ad2 i) [] σ2) : g 1205 (lawls b ad i) [] σ := by
  unfold F_op33 at h
  refine g_aload_n C 793 1 rfl rfl ?_
  refine g_arg C 794 1 rfl rfl rfl rfl rfl hi (by decide) hL ?_
  refine g_arg C 799 2 rfl rfl rfl rfl rfl hi (by decide) hL ?_
  refine g_arg C 804 3 rfl rfl rfl rfl rfl hi (by decide) hL ?_
  refine g_callVi C 809 [.int (xs (i + 1)), .int (xs (i + 2)), .int (xs (i + 3))] [] rfl (M_X9_sheet hZ (xs (i + 1)) (xs (i + 2)) (xs (i + 3))) cnL_150 cwX9_sheet ciX9_sheet (hZ.at (i := 0) rfl) rfl rfl rfl rfl (Nat.le_of_ble_eq_true rfl) ⟨Nat.le_of_ble_eq_true rfl, Nat.le_of_ble_eq_true rfl⟩ h (fun r1 s1 h => ?_)
  refine g_aload_n C 810 2 rfl rfl ?_
  refine g_arg C 811 1 rfl rfl rfl rfl rfl hi (by decide) hL ?_
  refine g_arg C 816 2 rfl rfl rfl rfl rfl hi (by decide) hL ?_
  refine g_arg C 821 3 rfl rfl rfl rfl rfl hi (by decide) hL ?_
  refine g_callVi C 826 [.int (xs (i + 1)), .int (xs (i + 2)), .int (xs (i + 3))] [.int r1] rfl (M_X10_sheet hZ (xs (i + 1)) (xs (i + 2)) (xs (i + 3))) cnL_153 cwX10_sheet ciX10_sheet (hZ.at (i := 65) rfl) rfl rfl rfl rfl (Nat.le_of_ble_eq_true rfl) ⟨Nat.le_of_ble_eq_true rfl, Nat.le_of_ble_eq_true rfl⟩ h (fun r2 s2 h => ?_)
  have h := Option.some.inj h
  obtain ⟨e1, h⟩ := Prod.mk.inj h
  obtain ⟨e2, h⟩ := Prod.mk.inj h
  obtain ⟨e3, e4⟩ := Prod.mk.inj h
  subst e3; subst e4
  refine g_icmp_eq_T C 827 1637 rfl rfl (e1.trans e2.symm) ?_
  exact g_widen C hc hs (fun g2 C2 => K g2 ad C2)
def F_op34 (a b c d e : Int32) (Z : List gH) (σ : gS) : Option (Int32 × Int32 × gS × List gH) := mCall (F_X9_mark Z a b c σ) (fun r1 s1 => mCall (F_X10_mark Z a b c s1) (fun r2 s2 => some (r1, r2, s2, Z)))
set_option maxRecDepth 20000 in
set_option maxHeartbeats 4000000 in
theorem law_c34 {g : Nat → List (Nat × Value) → List Value → gS → Prop} {Z : List gH} {ad : Nat → Nat} {nc ns b L i : Nat} {xs : Nat → Int32} {σ : gS} (C : gOkQ g T_L RL 4 ret room_1 Z ad nc ns (ELaw b L xs)) (hZ : Lay Z) (hgc : gcl Z Z.length) (hn2 : Z.length + 2 < 100000) (hi : i + 6 ≤ L) (hL : L ≤ 3072) (hc : nc + 2 ≤ 600000) (hs : ns + 99 ≤ 7302250) {r : Int32} {σ2 : gS} {Z2 : List gH} (h : F_op34 (xs (i + 1)) (xs (i + 2)) (xs (i + 3)) (xs (i + 4)) (xs (i + 5)) Z σ = some (r, r, σ2, Z2)) (hZ2 : Lay Z2) (K : ∀ g2 ad2, gOkQ g2 T_L RL 4 ret room_1 Z2 ad2 (nc + 2) (ns + 99) (ELaw b L xs) → g2 1637 (lawls b ad2 i) [] σ2) : g 1248 (lawls b ad i) [] σ := by
  unfold F_op34 at h
  refine g_aload_n C 830 1 rfl rfl ?_
  refine g_arg C 831 1 rfl rfl rfl rfl rfl hi (by decide) hL ?_
  refine g_arg C 836 2 rfl rfl rfl rfl rfl hi (by decide) hL ?_
  refine g_arg C 841 3 rfl rfl rfl rfl rfl hi (by decide) hL ?_
  refine g_callVi C 846 [.int (xs (i + 1)), .int (xs (i + 2)), .int (xs (i + 3))] [] rfl (M_X9_mark hZ (xs (i + 1)) (xs (i + 2)) (xs (i + 3))) cnL_154 cwX9_mark ciX9_mark (hZ.at (i := 0) rfl) rfl rfl rfl rfl (Nat.le_of_ble_eq_true rfl) ⟨Nat.le_of_ble_eq_true rfl, Nat.le_of_ble_eq_true rfl⟩ h (fun r1 s1 h => ?_)
  refine g_aload_n C 847 2 rfl rfl ?_
  refine g_arg C 848 1 rfl rfl rfl rfl rfl hi (by decide) hL ?_
  refine g_arg C 853 2 rfl rfl rfl rfl rfl hi (by decide) hL ?_
  refine g_arg C 858 3 rfl rfl rfl rfl rfl hi (by decide) hL ?_
  refine g_callVi C 863 [.int (xs (i + 1)), .int (xs (i + 2)), .int (xs (i + 3))] [.int r1] rfl (M_X10_mark hZ (xs (i + 1)) (xs (i + 2)) (xs (i + 3))) cnL_157 cwX10_mark ciX10_mark (hZ.at (i := 65) rfl) rfl rfl rfl rfl (Nat.le_of_ble_eq_true rfl) ⟨Nat.le_of_ble_eq_true rfl, Nat.le_of_ble_eq_true rfl⟩ h (fun r2 s2 h => ?_)
  have h := Option.some.inj h
  obtain ⟨e1, h⟩ := Prod.mk.inj h
  obtain ⟨e2, h⟩ := Prod.mk.inj h
  obtain ⟨e3, e4⟩ := Prod.mk.inj h
  subst e3; subst e4
  refine g_icmp_eq_T C 864 1637 rfl rfl (e1.trans e2.symm) ?_
  exact g_widen C hc hs (fun g2 C2 => K g2 ad C2)
def F_op35 (a b c d e : Int32) (Z : List gH) (σ : gS) : Option (Int32 × Int32 × gS × List gH) := mCall (F_X9_pour Z a σ) (fun r1 s1 => mCall (F_X10_pour Z a s1) (fun r2 s2 => some (r1, r2, s2, Z)))
set_option maxRecDepth 20000 in
set_option maxHeartbeats 4000000 in
theorem law_c35 {g : Nat → List (Nat × Value) → List Value → gS → Prop} {Z : List gH} {ad : Nat → Nat} {nc ns b L i : Nat} {xs : Nat → Int32} {σ : gS} (C : gOkQ g T_L RL 4 ret room_1 Z ad nc ns (ELaw b L xs)) (hZ : Lay Z) (hgc : gcl Z Z.length) (hn2 : Z.length + 2 < 100000) (hi : i + 6 ≤ L) (hL : L ≤ 3072) (hc : nc + 2 ≤ 600000) (hs : ns + 99 ≤ 7302250) {r : Int32} {σ2 : gS} {Z2 : List gH} (h : F_op35 (xs (i + 1)) (xs (i + 2)) (xs (i + 3)) (xs (i + 4)) (xs (i + 5)) Z σ = some (r, r, σ2, Z2)) (hZ2 : Lay Z2) (K : ∀ g2 ad2, gOkQ g2 T_L RL 4 ret room_1 Z2 ad2 (nc + 2) (ns + 99) (ELaw b L xs) → g2 1637 (lawls b ad2 i) [] σ2) : g 1291 (lawls b ad i) [] σ := by
  unfold F_op35 at h
  refine g_aload_n C 867 1 rfl rfl ?_
  refine g_arg C 868 1 rfl rfl rfl rfl rfl hi (by decide) hL ?_
  refine g_callVi C 873 [.int (xs (i + 1))] [] rfl (M_X9_pour hZ (xs (i + 1))) cnL_158 cwX9_pour ciX9_pour (hZ.at (i := 0) rfl) rfl rfl rfl rfl (Nat.le_of_ble_eq_true rfl) ⟨Nat.le_of_ble_eq_true rfl, Nat.le_of_ble_eq_true rfl⟩ h (fun r1 s1 h => ?_)
  refine g_aload_n C 874 2 rfl rfl ?_
  refine g_arg C 875 1 rfl rfl rfl rfl rfl hi (by decide) hL ?_
  refine g_callVi C 880 [.int (xs (i + 1))] [.int r1] rfl (M_X10_pour hZ (xs (i + 1))) cnL_161 cwX10_pour ciX10_pour (hZ.at (i := 65) rfl) rfl rfl rfl rfl (Nat.le_of_ble_eq_true rfl) ⟨Nat.le_of_ble_eq_true rfl, Nat.le_of_ble_eq_true rfl⟩ h (fun r2 s2 h => ?_)
  have h := Option.some.inj h
  obtain ⟨e1, h⟩ := Prod.mk.inj h
  obtain ⟨e2, h⟩ := Prod.mk.inj h
  obtain ⟨e3, e4⟩ := Prod.mk.inj h
  subst e3; subst e4
  refine g_icmp_eq_T C 881 1637 rfl rfl (e1.trans e2.symm) ?_
  exact g_widen C hc hs (fun g2 C2 => K g2 ad C2)
def F_op36 (a b c d e : Int32) (Z : List gH) (σ : gS) : Option (Int32 × Int32 × gS × List gH) := mCall (F_X9_reads Z a σ) (fun r1 s1 => mCall (F_X10_reads Z a s1) (fun r2 s2 => some (r1, r2, s2, Z)))
set_option maxRecDepth 20000 in
set_option maxHeartbeats 4000000 in
theorem law_c36 {g : Nat → List (Nat × Value) → List Value → gS → Prop} {Z : List gH} {ad : Nat → Nat} {nc ns b L i : Nat} {xs : Nat → Int32} {σ : gS} (C : gOkQ g T_L RL 4 ret room_1 Z ad nc ns (ELaw b L xs)) (hZ : Lay Z) (hgc : gcl Z Z.length) (hn2 : Z.length + 2 < 100000) (hi : i + 6 ≤ L) (hL : L ≤ 3072) (hc : nc + 2 ≤ 600000) (hs : ns + 99 ≤ 7302250) {r : Int32} {σ2 : gS} {Z2 : List gH} (h : F_op36 (xs (i + 1)) (xs (i + 2)) (xs (i + 3)) (xs (i + 4)) (xs (i + 5)) Z σ = some (r, r, σ2, Z2)) (hZ2 : Lay Z2) (K : ∀ g2 ad2, gOkQ g2 T_L RL 4 ret room_1 Z2 ad2 (nc + 2) (ns + 99) (ELaw b L xs) → g2 1637 (lawls b ad2 i) [] σ2) : g 1314 (lawls b ad i) [] σ := by
  unfold F_op36 at h
  refine g_aload_n C 884 1 rfl rfl ?_
  refine g_arg C 885 1 rfl rfl rfl rfl rfl hi (by decide) hL ?_
  refine g_callVi C 890 [.int (xs (i + 1))] [] rfl (M_X9_reads hZ (xs (i + 1))) cnL_162 cwX9_reads ciX9_reads (hZ.at (i := 0) rfl) rfl rfl rfl rfl (Nat.le_of_ble_eq_true rfl) ⟨Nat.le_of_ble_eq_true rfl, Nat.le_of_ble_eq_true rfl⟩ h (fun r1 s1 h => ?_)
  refine g_aload_n C 891 2 rfl rfl ?_
  refine g_arg C 892 1 rfl rfl rfl rfl rfl hi (by decide) hL ?_
  refine g_callVi C 897 [.int (xs (i + 1))] [.int r1] rfl (M_X10_reads hZ (xs (i + 1))) cnL_165 cwX10_reads ciX10_reads (hZ.at (i := 65) rfl) rfl rfl rfl rfl (Nat.le_of_ble_eq_true rfl) ⟨Nat.le_of_ble_eq_true rfl, Nat.le_of_ble_eq_true rfl⟩ h (fun r2 s2 h => ?_)
  have h := Option.some.inj h
  obtain ⟨e1, h⟩ := Prod.mk.inj h
  obtain ⟨e2, h⟩ := Prod.mk.inj h
  obtain ⟨e3, e4⟩ := Prod.mk.inj h
  subst e3; subst e4
  refine g_icmp_eq_T C 898 1637 rfl rfl (e1.trans e2.symm) ?_
  exact g_widen C hc hs (fun g2 C2 => K g2 ad C2)
def F_op37 (a b c d e : Int32) (Z : List gH) (σ : gS) : Option (Int32 × Int32 × gS × List gH) := mCall (F_X9_copy Z a b c d e σ) (fun r1 s1 => mCall (F_X10_copy Z a b c d e s1) (fun r2 s2 => some (r1, r2, s2, Z)))
set_option maxRecDepth 20000 in
set_option maxHeartbeats 4000000 in
theorem law_c37 {g : Nat → List (Nat × Value) → List Value → gS → Prop} {Z : List gH} {ad : Nat → Nat} {nc ns b L i : Nat} {xs : Nat → Int32} {σ : gS} (C : gOkQ g T_L RL 4 ret room_1 Z ad nc ns (ELaw b L xs)) (hZ : Lay Z) (hgc : gcl Z Z.length) (hn2 : Z.length + 2 < 100000) (hi : i + 6 ≤ L) (hL : L ≤ 3072) (hc : nc + 2 ≤ 600000) (hs : ns + 99 ≤ 7302250) {r : Int32} {σ2 : gS} {Z2 : List gH} (h : F_op37 (xs (i + 1)) (xs (i + 2)) (xs (i + 3)) (xs (i + 4)) (xs (i + 5)) Z σ = some (r, r, σ2, Z2)) (hZ2 : Lay Z2) (K : ∀ g2 ad2, gOkQ g2 T_L RL 4 ret room_1 Z2 ad2 (nc + 2) (ns + 99) (ELaw b L xs) → g2 1637 (lawls b ad2 i) [] σ2) : g 1337 (lawls b ad i) [] σ := by
  unfold F_op37 at h
  refine g_aload_n C 901 1 rfl rfl ?_
  refine g_arg C 902 1 rfl rfl rfl rfl rfl hi (by decide) hL ?_
  refine g_arg C 907 2 rfl rfl rfl rfl rfl hi (by decide) hL ?_
  refine g_arg C 912 3 rfl rfl rfl rfl rfl hi (by decide) hL ?_
  refine g_arg C 917 4 rfl rfl rfl rfl rfl hi (by decide) hL ?_
  refine g_arg C 922 5 rfl rfl rfl rfl rfl hi (by decide) hL ?_
  refine g_callVi C 927 [.int (xs (i + 1)), .int (xs (i + 2)), .int (xs (i + 3)), .int (xs (i + 4)), .int (xs (i + 5))] [] rfl (M_X9_copy hZ (xs (i + 1)) (xs (i + 2)) (xs (i + 3)) (xs (i + 4)) (xs (i + 5))) cnL_166 cwX9_copy ciX9_copy (hZ.at (i := 0) rfl) rfl rfl rfl rfl (Nat.le_of_ble_eq_true rfl) ⟨Nat.le_of_ble_eq_true rfl, Nat.le_of_ble_eq_true rfl⟩ h (fun r1 s1 h => ?_)
  refine g_aload_n C 928 2 rfl rfl ?_
  refine g_arg C 929 1 rfl rfl rfl rfl rfl hi (by decide) hL ?_
  refine g_arg C 934 2 rfl rfl rfl rfl rfl hi (by decide) hL ?_
  refine g_arg C 939 3 rfl rfl rfl rfl rfl hi (by decide) hL ?_
  refine g_arg C 944 4 rfl rfl rfl rfl rfl hi (by decide) hL ?_
  refine g_arg C 949 5 rfl rfl rfl rfl rfl hi (by decide) hL ?_
  refine g_callVi C 954 [.int (xs (i + 1)), .int (xs (i + 2)), .int (xs (i + 3)), .int (xs (i + 4)), .int (xs (i + 5))] [.int r1] rfl (M_X10_copy hZ (xs (i + 1)) (xs (i + 2)) (xs (i + 3)) (xs (i + 4)) (xs (i + 5))) cnL_170 cwX10_copy ciX10_copy (hZ.at (i := 65) rfl) rfl rfl rfl rfl (Nat.le_of_ble_eq_true rfl) ⟨Nat.le_of_ble_eq_true rfl, Nat.le_of_ble_eq_true rfl⟩ h (fun r2 s2 h => ?_)
  have h := Option.some.inj h
  obtain ⟨e1, h⟩ := Prod.mk.inj h
  obtain ⟨e2, h⟩ := Prod.mk.inj h
  obtain ⟨e3, e4⟩ := Prod.mk.inj h
  subst e3; subst e4
  refine g_icmp_eq_T C 955 1637 rfl rfl (e1.trans e2.symm) ?_
  exact g_widen C hc hs (fun g2 C2 => K g2 ad C2)
def F_op38 (a b c d e : Int32) (Z : List gH) (σ : gS) : Option (Int32 × Int32 × gS × List gH) := mCall (F_X9_lay Z a b c σ) (fun r1 s1 => mCall (F_X10_lay Z a b c s1) (fun r2 s2 => some (r1, r2, s2, Z)))
set_option maxRecDepth 20000 in
set_option maxHeartbeats 4000000 in
theorem law_c38 {g : Nat → List (Nat × Value) → List Value → gS → Prop} {Z : List gH} {ad : Nat → Nat} {nc ns b L i : Nat} {xs : Nat → Int32} {σ : gS} (C : gOkQ g T_L RL 4 ret room_1 Z ad nc ns (ELaw b L xs)) (hZ : Lay Z) (hgc : gcl Z Z.length) (hn2 : Z.length + 2 < 100000) (hi : i + 6 ≤ L) (hL : L ≤ 3072) (hc : nc + 2 ≤ 600000) (hs : ns + 99 ≤ 7302250) {r : Int32} {σ2 : gS} {Z2 : List gH} (h : F_op38 (xs (i + 1)) (xs (i + 2)) (xs (i + 3)) (xs (i + 4)) (xs (i + 5)) Z σ = some (r, r, σ2, Z2)) (hZ2 : Lay Z2) (K : ∀ g2 ad2, gOkQ g2 T_L RL 4 ret room_1 Z2 ad2 (nc + 2) (ns + 99) (ELaw b L xs) → g2 1637 (lawls b ad2 i) [] σ2) : g 1400 (lawls b ad i) [] σ := by
  unfold F_op38 at h
  refine g_aload_n C 958 1 rfl rfl ?_
  refine g_arg C 959 1 rfl rfl rfl rfl rfl hi (by decide) hL ?_
  refine g_arg C 964 2 rfl rfl rfl rfl rfl hi (by decide) hL ?_
  refine g_arg C 969 3 rfl rfl rfl rfl rfl hi (by decide) hL ?_
  refine g_callVi C 974 [.int (xs (i + 1)), .int (xs (i + 2)), .int (xs (i + 3))] [] rfl (M_X9_lay hZ (xs (i + 1)) (xs (i + 2)) (xs (i + 3))) cnL_171 cwX9_lay ciX9_lay (hZ.at (i := 0) rfl) rfl rfl rfl rfl (Nat.le_of_ble_eq_true rfl) ⟨Nat.le_of_ble_eq_true rfl, Nat.le_of_ble_eq_true rfl⟩ h (fun r1 s1 h => ?_)
  refine g_aload_n C 975 2 rfl rfl ?_
  refine g_arg C 976 1 rfl rfl rfl rfl rfl hi (by decide) hL ?_
  refine g_arg C 981 2 rfl rfl rfl rfl rfl hi (by decide) hL ?_
  refine g_arg C 986 3 rfl rfl rfl rfl rfl hi (by decide) hL ?_
  refine g_callVi C 991 [.int (xs (i + 1)), .int (xs (i + 2)), .int (xs (i + 3))] [.int r1] rfl (M_X10_lay hZ (xs (i + 1)) (xs (i + 2)) (xs (i + 3))) cnL_174 cwX10_lay ciX10_lay (hZ.at (i := 65) rfl) rfl rfl rfl rfl (Nat.le_of_ble_eq_true rfl) ⟨Nat.le_of_ble_eq_true rfl, Nat.le_of_ble_eq_true rfl⟩ h (fun r2 s2 h => ?_)
  have h := Option.some.inj h
  obtain ⟨e1, h⟩ := Prod.mk.inj h
  obtain ⟨e2, h⟩ := Prod.mk.inj h
  obtain ⟨e3, e4⟩ := Prod.mk.inj h
  subst e3; subst e4
  refine g_icmp_eq_T C 992 1637 rfl rfl (e1.trans e2.symm) ?_
  exact g_widen C hc hs (fun g2 C2 => K g2 ad C2)
def F_op39 (a b c d e : Int32) (Z : List gH) (σ : gS) : Option (Int32 × Int32 × gS × List gH) := mCall (F_X9_ask Z a b σ) (fun r1 s1 => mCall (F_X10_ask Z a b s1) (fun r2 s2 => some (r1, r2, s2, Z)))
set_option maxRecDepth 20000 in
set_option maxHeartbeats 4000000 in
theorem law_c39 {g : Nat → List (Nat × Value) → List Value → gS → Prop} {Z : List gH} {ad : Nat → Nat} {nc ns b L i : Nat} {xs : Nat → Int32} {σ : gS} (C : gOkQ g T_L RL 4 ret room_1 Z ad nc ns (ELaw b L xs)) (hZ : Lay Z) (hgc : gcl Z Z.length) (hn2 : Z.length + 2 < 100000) (hi : i + 6 ≤ L) (hL : L ≤ 3072) (hc : nc + 2 ≤ 600000) (hs : ns + 99 ≤ 7302250) {r : Int32} {σ2 : gS} {Z2 : List gH} (h : F_op39 (xs (i + 1)) (xs (i + 2)) (xs (i + 3)) (xs (i + 4)) (xs (i + 5)) Z σ = some (r, r, σ2, Z2)) (hZ2 : Lay Z2) (K : ∀ g2 ad2, gOkQ g2 T_L RL 4 ret room_1 Z2 ad2 (nc + 2) (ns + 99) (ELaw b L xs) → g2 1637 (lawls b ad2 i) [] σ2) : g 1443 (lawls b ad i) [] σ := by
  unfold F_op39 at h
  refine g_aload_n C 995 1 rfl rfl ?_
  refine g_arg C 996 1 rfl rfl rfl rfl rfl hi (by decide) hL ?_
  refine g_arg C 1001 2 rfl rfl rfl rfl rfl hi (by decide) hL ?_
  refine g_callVi C 1006 [.int (xs (i + 1)), .int (xs (i + 2))] [] rfl (M_X9_ask hZ (xs (i + 1)) (xs (i + 2))) cnL_175 cwX9_ask ciX9_ask (hZ.at (i := 0) rfl) rfl rfl rfl rfl (Nat.le_of_ble_eq_true rfl) ⟨Nat.le_of_ble_eq_true rfl, Nat.le_of_ble_eq_true rfl⟩ h (fun r1 s1 h => ?_)
  refine g_aload_n C 1007 2 rfl rfl ?_
  refine g_arg C 1008 1 rfl rfl rfl rfl rfl hi (by decide) hL ?_
  refine g_arg C 1013 2 rfl rfl rfl rfl rfl hi (by decide) hL ?_
  refine g_callVi C 1018 [.int (xs (i + 1)), .int (xs (i + 2))] [.int r1] rfl (M_X10_ask hZ (xs (i + 1)) (xs (i + 2))) cnL_178 cwX10_ask ciX10_ask (hZ.at (i := 65) rfl) rfl rfl rfl rfl (Nat.le_of_ble_eq_true rfl) ⟨Nat.le_of_ble_eq_true rfl, Nat.le_of_ble_eq_true rfl⟩ h (fun r2 s2 h => ?_)
  have h := Option.some.inj h
  obtain ⟨e1, h⟩ := Prod.mk.inj h
  obtain ⟨e2, h⟩ := Prod.mk.inj h
  obtain ⟨e3, e4⟩ := Prod.mk.inj h
  subst e3; subst e4
  refine g_icmp_eq_T C 1019 1637 rfl rfl (e1.trans e2.symm) ?_
  exact g_widen C hc hs (fun g2 C2 => K g2 ad C2)
def F_op40 (a b c d e : Int32) (Z : List gH) (σ : gS) : Option (Int32 × Int32 × gS × List gH) := mCall (F_X9_item Z a b σ) (fun r1 s1 => mCall (F_X10_item Z a b s1) (fun r2 s2 => some (r1, r2, s2, Z)))
set_option maxRecDepth 20000 in
set_option maxHeartbeats 4000000 in
theorem law_c40 {g : Nat → List (Nat × Value) → List Value → gS → Prop} {Z : List gH} {ad : Nat → Nat} {nc ns b L i : Nat} {xs : Nat → Int32} {σ : gS} (C : gOkQ g T_L RL 4 ret room_1 Z ad nc ns (ELaw b L xs)) (hZ : Lay Z) (hgc : gcl Z Z.length) (hn2 : Z.length + 2 < 100000) (hi : i + 6 ≤ L) (hL : L ≤ 3072) (hc : nc + 2 ≤ 600000) (hs : ns + 99 ≤ 7302250) {r : Int32} {σ2 : gS} {Z2 : List gH} (h : F_op40 (xs (i + 1)) (xs (i + 2)) (xs (i + 3)) (xs (i + 4)) (xs (i + 5)) Z σ = some (r, r, σ2, Z2)) (hZ2 : Lay Z2) (K : ∀ g2 ad2, gOkQ g2 T_L RL 4 ret room_1 Z2 ad2 (nc + 2) (ns + 99) (ELaw b L xs) → g2 1637 (lawls b ad2 i) [] σ2) : g 1476 (lawls b ad i) [] σ := by
  unfold F_op40 at h
  refine g_aload_n C 1022 1 rfl rfl ?_
  refine g_arg C 1023 1 rfl rfl rfl rfl rfl hi (by decide) hL ?_
  refine g_arg C 1028 2 rfl rfl rfl rfl rfl hi (by decide) hL ?_
  refine g_callVi C 1033 [.int (xs (i + 1)), .int (xs (i + 2))] [] rfl (M_X9_item hZ (xs (i + 1)) (xs (i + 2))) cnL_179 cwX9_item ciX9_item (hZ.at (i := 0) rfl) rfl rfl rfl rfl (Nat.le_of_ble_eq_true rfl) ⟨Nat.le_of_ble_eq_true rfl, Nat.le_of_ble_eq_true rfl⟩ h (fun r1 s1 h => ?_)
  refine g_aload_n C 1034 2 rfl rfl ?_
  refine g_arg C 1035 1 rfl rfl rfl rfl rfl hi (by decide) hL ?_
  refine g_arg C 1040 2 rfl rfl rfl rfl rfl hi (by decide) hL ?_
  refine g_callVi C 1045 [.int (xs (i + 1)), .int (xs (i + 2))] [.int r1] rfl (M_X10_item hZ (xs (i + 1)) (xs (i + 2))) cnL_182 cwX10_item ciX10_item (hZ.at (i := 65) rfl) rfl rfl rfl rfl (Nat.le_of_ble_eq_true rfl) ⟨Nat.le_of_ble_eq_true rfl, Nat.le_of_ble_eq_true rfl⟩ h (fun r2 s2 h => ?_)
  have h := Option.some.inj h
  obtain ⟨e1, h⟩ := Prod.mk.inj h
  obtain ⟨e2, h⟩ := Prod.mk.inj h
  obtain ⟨e3, e4⟩ := Prod.mk.inj h
  subst e3; subst e4
  refine g_icmp_eq_T C 1046 1637 rfl rfl (e1.trans e2.symm) ?_
  exact g_widen C hc hs (fun g2 C2 => K g2 ad C2)
def F_op41 (a b c d e : Int32) (Z : List gH) (σ : gS) : Option (Int32 × Int32 × gS × List gH) := mCall (F_X9_rest Z a b σ) (fun r1 s1 => mCall (F_X10_rest Z a b s1) (fun r2 s2 => some (r1, r2, s2, Z)))
set_option maxRecDepth 20000 in
set_option maxHeartbeats 4000000 in
theorem law_c41 {g : Nat → List (Nat × Value) → List Value → gS → Prop} {Z : List gH} {ad : Nat → Nat} {nc ns b L i : Nat} {xs : Nat → Int32} {σ : gS} (C : gOkQ g T_L RL 4 ret room_1 Z ad nc ns (ELaw b L xs)) (hZ : Lay Z) (hgc : gcl Z Z.length) (hn2 : Z.length + 2 < 100000) (hi : i + 6 ≤ L) (hL : L ≤ 3072) (hc : nc + 2 ≤ 600000) (hs : ns + 99 ≤ 7302250) {r : Int32} {σ2 : gS} {Z2 : List gH} (h : F_op41 (xs (i + 1)) (xs (i + 2)) (xs (i + 3)) (xs (i + 4)) (xs (i + 5)) Z σ = some (r, r, σ2, Z2)) (hZ2 : Lay Z2) (K : ∀ g2 ad2, gOkQ g2 T_L RL 4 ret room_1 Z2 ad2 (nc + 2) (ns + 99) (ELaw b L xs) → g2 1637 (lawls b ad2 i) [] σ2) : g 1509 (lawls b ad i) [] σ := by
  unfold F_op41 at h
  refine g_aload_n C 1049 1 rfl rfl ?_
  refine g_arg C 1050 1 rfl rfl rfl rfl rfl hi (by decide) hL ?_
  refine g_arg C 1055 2 rfl rfl rfl rfl rfl hi (by decide) hL ?_
  refine g_callVi C 1060 [.int (xs (i + 1)), .int (xs (i + 2))] [] rfl (M_X9_rest hZ (xs (i + 1)) (xs (i + 2))) cnL_183 cwX9_rest ciX9_rest (hZ.at (i := 0) rfl) rfl rfl rfl rfl (Nat.le_of_ble_eq_true rfl) ⟨Nat.le_of_ble_eq_true rfl, Nat.le_of_ble_eq_true rfl⟩ h (fun r1 s1 h => ?_)
  refine g_aload_n C 1061 2 rfl rfl ?_
  refine g_arg C 1062 1 rfl rfl rfl rfl rfl hi (by decide) hL ?_
  refine g_arg C 1067 2 rfl rfl rfl rfl rfl hi (by decide) hL ?_
  refine g_callVi C 1072 [.int (xs (i + 1)), .int (xs (i + 2))] [.int r1] rfl (M_X10_rest hZ (xs (i + 1)) (xs (i + 2))) cnL_186 cwX10_rest ciX10_rest (hZ.at (i := 65) rfl) rfl rfl rfl rfl (Nat.le_of_ble_eq_true rfl) ⟨Nat.le_of_ble_eq_true rfl, Nat.le_of_ble_eq_true rfl⟩ h (fun r2 s2 h => ?_)
  have h := Option.some.inj h
  obtain ⟨e1, h⟩ := Prod.mk.inj h
  obtain ⟨e2, h⟩ := Prod.mk.inj h
  obtain ⟨e3, e4⟩ := Prod.mk.inj h
  subst e3; subst e4
  refine g_icmp_eq_T C 1073 1637 rfl rfl (e1.trans e2.symm) ?_
  exact g_widen C hc hs (fun g2 C2 => K g2 ad C2)
def F_op42 (a b c d e : Int32) (Z : List gH) (σ : gS) : Option (Int32 × Int32 × gS × List gH) := mCall (F_X9_tell Z a σ) (fun r1 s1 => mCall (F_X10_tell Z a s1) (fun r2 s2 => some (r1, r2, s2, Z)))
set_option maxRecDepth 20000 in
set_option maxHeartbeats 4000000 in
theorem law_c42 {g : Nat → List (Nat × Value) → List Value → gS → Prop} {Z : List gH} {ad : Nat → Nat} {nc ns b L i : Nat} {xs : Nat → Int32} {σ : gS} (C : gOkQ g T_L RL 4 ret room_1 Z ad nc ns (ELaw b L xs)) (hZ : Lay Z) (hgc : gcl Z Z.length) (hn2 : Z.length + 2 < 100000) (hi : i + 6 ≤ L) (hL : L ≤ 3072) (hc : nc + 2 ≤ 600000) (hs : ns + 99 ≤ 7302250) {r : Int32} {σ2 : gS} {Z2 : List gH} (h : F_op42 (xs (i + 1)) (xs (i + 2)) (xs (i + 3)) (xs (i + 4)) (xs (i + 5)) Z σ = some (r, r, σ2, Z2)) (hZ2 : Lay Z2) (K : ∀ g2 ad2, gOkQ g2 T_L RL 4 ret room_1 Z2 ad2 (nc + 2) (ns + 99) (ELaw b L xs) → g2 1637 (lawls b ad2 i) [] σ2) : g 1542 (lawls b ad i) [] σ := by
  unfold F_op42 at h
  refine g_aload_n C 1076 1 rfl rfl ?_
  refine g_arg C 1077 1 rfl rfl rfl rfl rfl hi (by decide) hL ?_
  refine g_callVi C 1082 [.int (xs (i + 1))] [] rfl (M_X9_tell hZ (xs (i + 1))) cnL_187 cwX9_tell ciX9_tell (hZ.at (i := 0) rfl) rfl rfl rfl rfl (Nat.le_of_ble_eq_true rfl) ⟨Nat.le_of_ble_eq_true rfl, Nat.le_of_ble_eq_true rfl⟩ h (fun r1 s1 h => ?_)
  refine g_aload_n C 1083 2 rfl rfl ?_
  refine g_arg C 1084 1 rfl rfl rfl rfl rfl hi (by decide) hL ?_
  refine g_callVi C 1089 [.int (xs (i + 1))] [.int r1] rfl (M_X10_tell hZ (xs (i + 1))) cnL_190 cwX10_tell ciX10_tell (hZ.at (i := 65) rfl) rfl rfl rfl rfl (Nat.le_of_ble_eq_true rfl) ⟨Nat.le_of_ble_eq_true rfl, Nat.le_of_ble_eq_true rfl⟩ h (fun r2 s2 h => ?_)
  have h := Option.some.inj h
  obtain ⟨e1, h⟩ := Prod.mk.inj h
  obtain ⟨e2, h⟩ := Prod.mk.inj h
  obtain ⟨e3, e4⟩ := Prod.mk.inj h
  subst e3; subst e4
  refine g_icmp_eq_T C 1090 1637 rfl rfl (e1.trans e2.symm) ?_
  exact g_widen C hc hs (fun g2 C2 => K g2 ad C2)
def F_op43 (a b c d e : Int32) (Z : List gH) (σ : gS) : Option (Int32 × Int32 × gS × List gH) := mCall (F_X9_check Z a σ) (fun r1 s1 => mCall (F_X10_check Z a s1) (fun r2 s2 => some (r1, r2, s2, Z)))
set_option maxRecDepth 20000 in
set_option maxHeartbeats 4000000 in
theorem law_c43 {g : Nat → List (Nat × Value) → List Value → gS → Prop} {Z : List gH} {ad : Nat → Nat} {nc ns b L i : Nat} {xs : Nat → Int32} {σ : gS} (C : gOkQ g T_L RL 4 ret room_1 Z ad nc ns (ELaw b L xs)) (hZ : Lay Z) (hgc : gcl Z Z.length) (hn2 : Z.length + 2 < 100000) (hi : i + 6 ≤ L) (hL : L ≤ 3072) (hc : nc + 2 ≤ 600000) (hs : ns + 99 ≤ 7302250) {r : Int32} {σ2 : gS} {Z2 : List gH} (h : F_op43 (xs (i + 1)) (xs (i + 2)) (xs (i + 3)) (xs (i + 4)) (xs (i + 5)) Z σ = some (r, r, σ2, Z2)) (hZ2 : Lay Z2) (K : ∀ g2 ad2, gOkQ g2 T_L RL 4 ret room_1 Z2 ad2 (nc + 2) (ns + 99) (ELaw b L xs) → g2 1637 (lawls b ad2 i) [] σ2) : g 1565 (lawls b ad i) [] σ := by
  unfold F_op43 at h
  refine g_aload_n C 1093 1 rfl rfl ?_
  refine g_arg C 1094 1 rfl rfl rfl rfl rfl hi (by decide) hL ?_
  refine g_callVi C 1099 [.int (xs (i + 1))] [] rfl (M_X9_check hZ (xs (i + 1))) cnL_191 cwX9_check ciX9_check (hZ.at (i := 0) rfl) rfl rfl rfl rfl (Nat.le_of_ble_eq_true rfl) ⟨Nat.le_of_ble_eq_true rfl, Nat.le_of_ble_eq_true rfl⟩ h (fun r1 s1 h => ?_)
  refine g_aload_n C 1100 2 rfl rfl ?_
  refine g_arg C 1101 1 rfl rfl rfl rfl rfl hi (by decide) hL ?_
  refine g_callVi C 1106 [.int (xs (i + 1))] [.int r1] rfl (M_X10_check hZ (xs (i + 1))) cnL_194 cwX10_check ciX10_check (hZ.at (i := 65) rfl) rfl rfl rfl rfl (Nat.le_of_ble_eq_true rfl) ⟨Nat.le_of_ble_eq_true rfl, Nat.le_of_ble_eq_true rfl⟩ h (fun r2 s2 h => ?_)
  have h := Option.some.inj h
  obtain ⟨e1, h⟩ := Prod.mk.inj h
  obtain ⟨e2, h⟩ := Prod.mk.inj h
  obtain ⟨e3, e4⟩ := Prod.mk.inj h
  subst e3; subst e4
  refine g_icmp_eq_T C 1107 1637 rfl rfl (e1.trans e2.symm) ?_
  exact g_widen C hc hs (fun g2 C2 => K g2 ad C2)
def F_op44 (a b c d e : Int32) (Z : List gH) (σ : gS) : Option (Int32 × Int32 × gS × List gH) := mCall (F_X9_keep Z  σ) (fun r1 s1 => mCall (F_X10_keep Z  s1) (fun r2 s2 => some (r1, r2, s2, Z)))
set_option maxRecDepth 20000 in
set_option maxHeartbeats 4000000 in
theorem law_c44 {g : Nat → List (Nat × Value) → List Value → gS → Prop} {Z : List gH} {ad : Nat → Nat} {nc ns b L i : Nat} {xs : Nat → Int32} {σ : gS} (C : gOkQ g T_L RL 4 ret room_1 Z ad nc ns (ELaw b L xs)) (hZ : Lay Z) (hgc : gcl Z Z.length) (hn2 : Z.length + 2 < 100000) (hi : i + 6 ≤ L) (hL : L ≤ 3072) (hc : nc + 2 ≤ 600000) (hs : ns + 99 ≤ 7302250) {r : Int32} {σ2 : gS} {Z2 : List gH} (h : F_op44 (xs (i + 1)) (xs (i + 2)) (xs (i + 3)) (xs (i + 4)) (xs (i + 5)) Z σ = some (r, r, σ2, Z2)) (hZ2 : Lay Z2) (K : ∀ g2 ad2, gOkQ g2 T_L RL 4 ret room_1 Z2 ad2 (nc + 2) (ns + 99) (ELaw b L xs) → g2 1637 (lawls b ad2 i) [] σ2) : g 1588 (lawls b ad i) [] σ := by
  unfold F_op44 at h
  refine g_aload_n C 1110 1 rfl rfl ?_
  refine g_callVi C 1111 [] [] rfl (M_X9_keep hZ ) cnL_195 cwX9_keep ciX9_keep (hZ.at (i := 0) rfl) rfl rfl rfl rfl (Nat.le_of_ble_eq_true rfl) ⟨Nat.le_of_ble_eq_true rfl, Nat.le_of_ble_eq_true rfl⟩ h (fun r1 s1 h => ?_)
  refine g_aload_n C 1112 2 rfl rfl ?_
  refine g_callVi C 1113 [] [.int r1] rfl (M_X10_keep hZ ) cnL_198 cwX10_keep ciX10_keep (hZ.at (i := 65) rfl) rfl rfl rfl rfl (Nat.le_of_ble_eq_true rfl) ⟨Nat.le_of_ble_eq_true rfl, Nat.le_of_ble_eq_true rfl⟩ h (fun r2 s2 h => ?_)
  have h := Option.some.inj h
  obtain ⟨e1, h⟩ := Prod.mk.inj h
  obtain ⟨e2, h⟩ := Prod.mk.inj h
  obtain ⟨e3, e4⟩ := Prod.mk.inj h
  subst e3; subst e4
  refine g_icmp_eq_T C 1114 1637 rfl rfl (e1.trans e2.symm) ?_
  exact g_widen C hc hs (fun g2 C2 => K g2 ad C2)
def F_op45 (a b c d e : Int32) (Z : List gH) (σ : gS) : Option (Int32 × Int32 × gS × List gH) := mCall (F_X9_back Z  σ) (fun r1 s1 => mCall (F_X10_back Z  s1) (fun r2 s2 => some (r1, r2, s2, Z)))
set_option maxRecDepth 20000 in
set_option maxHeartbeats 4000000 in
theorem law_c45 {g : Nat → List (Nat × Value) → List Value → gS → Prop} {Z : List gH} {ad : Nat → Nat} {nc ns b L i : Nat} {xs : Nat → Int32} {σ : gS} (C : gOkQ g T_L RL 4 ret room_1 Z ad nc ns (ELaw b L xs)) (hZ : Lay Z) (hgc : gcl Z Z.length) (hn2 : Z.length + 2 < 100000) (hi : i + 6 ≤ L) (hL : L ≤ 3072) (hc : nc + 2 ≤ 600000) (hs : ns + 99 ≤ 7302250) {r : Int32} {σ2 : gS} {Z2 : List gH} (h : F_op45 (xs (i + 1)) (xs (i + 2)) (xs (i + 3)) (xs (i + 4)) (xs (i + 5)) Z σ = some (r, r, σ2, Z2)) (hZ2 : Lay Z2) (K : ∀ g2 ad2, gOkQ g2 T_L RL 4 ret room_1 Z2 ad2 (nc + 2) (ns + 99) (ELaw b L xs) → g2 1637 (lawls b ad2 i) [] σ2) : g 1601 (lawls b ad i) [] σ := by
  unfold F_op45 at h
  refine g_aload_n C 1117 1 rfl rfl ?_
  refine g_callVi C 1118 [] [] rfl (M_X9_back hZ ) cnL_199 cwX9_back ciX9_back (hZ.at (i := 0) rfl) rfl rfl rfl rfl (Nat.le_of_ble_eq_true rfl) ⟨Nat.le_of_ble_eq_true rfl, Nat.le_of_ble_eq_true rfl⟩ h (fun r1 s1 h => ?_)
  refine g_aload_n C 1119 2 rfl rfl ?_
  refine g_callVi C 1120 [] [.int r1] rfl (M_X10_back hZ ) cnL_202 cwX10_back ciX10_back (hZ.at (i := 65) rfl) rfl rfl rfl rfl (Nat.le_of_ble_eq_true rfl) ⟨Nat.le_of_ble_eq_true rfl, Nat.le_of_ble_eq_true rfl⟩ h (fun r2 s2 h => ?_)
  have h := Option.some.inj h
  obtain ⟨e1, h⟩ := Prod.mk.inj h
  obtain ⟨e2, h⟩ := Prod.mk.inj h
  obtain ⟨e3, e4⟩ := Prod.mk.inj h
  subst e3; subst e4
  refine g_icmp_eq_T C 1121 1637 rfl rfl (e1.trans e2.symm) ?_
  exact g_widen C hc hs (fun g2 C2 => K g2 ad C2)
def F_op46 (a b c d e : Int32) (Z : List gH) (σ : gS) : Option (Int32 × Int32 × gS × List gH) := mCall (F_X9_count Z a σ) (fun r1 s1 => mCall (F_X10_count Z a s1) (fun r2 s2 => some (r1, r2, s2, Z)))
set_option maxRecDepth 20000 in
set_option maxHeartbeats 4000000 in
theorem law_c46 {g : Nat → List (Nat × Value) → List Value → gS → Prop} {Z : List gH} {ad : Nat → Nat} {nc ns b L i : Nat} {xs : Nat → Int32} {σ : gS} (C : gOkQ g T_L RL 4 ret room_1 Z ad nc ns (ELaw b L xs)) (hZ : Lay Z) (hgc : gcl Z Z.length) (hn2 : Z.length + 2 < 100000) (hi : i + 6 ≤ L) (hL : L ≤ 3072) (hc : nc + 2 ≤ 600000) (hs : ns + 99 ≤ 7302250) {r : Int32} {σ2 : gS} {Z2 : List gH} (h : F_op46 (xs (i + 1)) (xs (i + 2)) (xs (i + 3)) (xs (i + 4)) (xs (i + 5)) Z σ = some (r, r, σ2, Z2)) (hZ2 : Lay Z2) (K : ∀ g2 ad2, gOkQ g2 T_L RL 4 ret room_1 Z2 ad2 (nc + 2) (ns + 99) (ELaw b L xs) → g2 1637 (lawls b ad2 i) [] σ2) : g 1614 (lawls b ad i) [] σ := by
  unfold F_op46 at h
  refine g_aload_n C 1124 1 rfl rfl ?_
  refine g_arg C 1125 1 rfl rfl rfl rfl rfl hi (by decide) hL ?_
  refine g_callVi C 1130 [.int (xs (i + 1))] [] rfl (M_X9_count hZ (xs (i + 1))) cnL_203 cwX9_count ciX9_count (hZ.at (i := 0) rfl) rfl rfl rfl rfl (Nat.le_of_ble_eq_true rfl) ⟨Nat.le_of_ble_eq_true rfl, Nat.le_of_ble_eq_true rfl⟩ h (fun r1 s1 h => ?_)
  refine g_aload_n C 1131 2 rfl rfl ?_
  refine g_arg C 1132 1 rfl rfl rfl rfl rfl hi (by decide) hL ?_
  refine g_callVi C 1137 [.int (xs (i + 1))] [.int r1] rfl (M_X10_count hZ (xs (i + 1))) cnL_206 cwX10_count ciX10_count (hZ.at (i := 65) rfl) rfl rfl rfl rfl (Nat.le_of_ble_eq_true rfl) ⟨Nat.le_of_ble_eq_true rfl, Nat.le_of_ble_eq_true rfl⟩ h (fun r2 s2 h => ?_)
  have h := Option.some.inj h
  obtain ⟨e1, h⟩ := Prod.mk.inj h
  obtain ⟨e2, h⟩ := Prod.mk.inj h
  obtain ⟨e3, e4⟩ := Prod.mk.inj h
  subst e3; subst e4
  refine g_icmp_eq_T C 1138 1637 rfl rfl (e1.trans e2.symm) ?_
  exact g_widen C hc hs (fun g2 C2 => K g2 ad C2)
def F_step (o a b c d e : Int32) (Z : List gH) (σ : gS) : Option (Int32 × Int32 × gS × List gH) := if o = 0 then F_op0 a b c d e Z σ else if o = 1 then F_op1 a b c d e Z σ else if o = 2 then F_op2 a b c d e Z σ else if o = 3 then F_op3 a b c d e Z σ else if o = 4 then F_op4 a b c d e Z σ else if o = 5 then F_op5 a b c d e Z σ else if o = 6 then F_op6 a b c d e Z σ else if o = 7 then F_op7 a b c d e Z σ else if o = 8 then F_op8 a b c d e Z σ else if o = 9 then F_op9 a b c d e Z σ else if o = 10 then F_op10 a b c d e Z σ else if o = 11 then F_op11 a b c d e Z σ else if o = 12 then F_op12 a b c d e Z σ else if o = 13 then F_op13 a b c d e Z σ else if o = 14 then F_op14 a b c d e Z σ else if o = 15 then F_op15 a b c d e Z σ else if o = 16 then F_op16 a b c d e Z σ else if o = 17 then F_op17 a b c d e Z σ else if o = 18 then F_op18 a b c d e Z σ else if o = 19 then F_op19 a b c d e Z σ else if o = 20 then F_op20 a b c d e Z σ else if o = 21 then F_op21 a b c d e Z σ else if o = 22 then F_op22 a b c d e Z σ else if o = 23 then F_op23 a b c d e Z σ else if o = 24 then F_op24 a b c d e Z σ else if o = 25 then F_op25 a b c d e Z σ else if o = 26 then F_op26 a b c d e Z σ else if o = 27 then F_op27 a b c d e Z σ else if o = 28 then F_op28 a b c d e Z σ else if o = 29 then F_op29 a b c d e Z σ else if o = 30 then F_op30 a b c d e Z σ else if o = 31 then F_op31 a b c d e Z σ else if o = 32 then F_op32 a b c d e Z σ else if o = 33 then F_op33 a b c d e Z σ else if o = 34 then F_op34 a b c d e Z σ else if o = 35 then F_op35 a b c d e Z σ else if o = 36 then F_op36 a b c d e Z σ else if o = 37 then F_op37 a b c d e Z σ else if o = 38 then F_op38 a b c d e Z σ else if o = 39 then F_op39 a b c d e Z σ else if o = 40 then F_op40 a b c d e Z σ else if o = 41 then F_op41 a b c d e Z σ else if o = 42 then F_op42 a b c d e Z σ else if o = 43 then F_op43 a b c d e Z σ else if o = 44 then F_op44 a b c d e Z σ else if o = 45 then F_op45 a b c d e Z σ else if o = 46 then F_op46 a b c d e Z σ else some (0, 0, σ, Z)
theorem sub6 {L i : Nat} (hL : L ≤ 3072) (hi : i ≤ 4000) : Int32.ofNat L - 6 < Int32.ofNat i ↔ L < i + 6 := by
  rw [Int32.lt_iff_toInt_lt, Int32.toInt_sub, Int32.toInt_ofNat_of_lt (by omega), Int32.toInt_ofNat_of_lt (by omega), show (6 : Int32).toInt = 6 from rfl, Int.bmod_eq_of_le_mul_two (by omega) (by omega)]
  omega
set_option maxRecDepth 20000 in
set_option maxHeartbeats 8000000 in
theorem law_body {g : Nat → List (Nat × Value) → List Value → gS → Prop} {Z : List gH} {ad : Nat → Nat} {nc ns b L i : Nat} {xs : Nat → Int32} {σ : gS} (C : gOkQ g T_L RL 4 ret room_1 Z ad nc ns (ELaw b L xs)) (hZ : Lay Z) (hgc : gcl Z Z.length) (hn2 : Z.length + 2 < 100000) (hi : i + 6 ≤ L) (hL : L ≤ 3072) (hc : nc + 2 ≤ 600000) (hs : ns + 99 ≤ 7302250) {r : Int32} {σ2 : gS} {Z2 : List gH} (hst : F_step (xs i &&& 63) (xs (i + 1)) (xs (i + 2)) (xs (i + 3)) (xs (i + 4)) (xs (i + 5)) Z σ = some (r, r, σ2, Z2)) (hZ2 : Lay Z2) (K : ∀ g2 ad2, gOkQ g2 T_L RL 4 ret room_1 Z2 ad2 (nc + 2) (ns + 99) (ELaw b L xs) → g2 1637 (lawls b ad2 i) [] σ2) : g 33 (lawls b ad i) [.int (xs i &&& 63)] σ := by
  unfold F_step at hst
  by_cases hx0 : (xs i &&& 63) = 0
  · rw [if_pos hx0] at hst
    refine g_tblAt C 21 0 hx0 236 rfl (by decide) (by decide) rfl rfl ?_
    exact law_c0 C hZ hgc hn2 hi hL hc hs hst hZ2 K
  rw [if_neg hx0] at hst
  by_cases hx1 : (xs i &&& 63) = 1
  · rw [if_pos hx1] at hst
    refine g_tblAt C 21 1 hx1 289 rfl (by decide) (by decide) rfl rfl ?_
    exact law_c1 C hZ hgc hn2 hi hL hc hs hst hZ2 K
  rw [if_neg hx1] at hst
  by_cases hx2 : (xs i &&& 63) = 2
  · rw [if_pos hx2] at hst
    refine g_tblAt C 21 2 hx2 322 rfl (by decide) (by decide) rfl rfl ?_
    exact law_c2 C hZ hgc hn2 hi hL hc hs hst hZ2 K
  rw [if_neg hx2] at hst
  by_cases hx3 : (xs i &&& 63) = 3
  · rw [if_pos hx3] at hst
    refine g_tblAt C 21 3 hx3 355 rfl (by decide) (by decide) rfl rfl ?_
    exact law_c3 C hZ hgc hn2 hi hL hc hs hst hZ2 K
  rw [if_neg hx3] at hst
  by_cases hx4 : (xs i &&& 63) = 4
  · rw [if_pos hx4] at hst
    refine g_tblAt C 21 4 hx4 388 rfl (by decide) (by decide) rfl rfl ?_
    exact law_c4 C hZ hgc hn2 hi hL hc hs hst hZ2 K
  rw [if_neg hx4] at hst
  by_cases hx5 : (xs i &&& 63) = 5
  · rw [if_pos hx5] at hst
    refine g_tblAt C 21 5 hx5 431 rfl (by decide) (by decide) rfl rfl ?_
    exact law_c5 C hZ hgc hn2 hi hL hc hs hst hZ2 K
  rw [if_neg hx5] at hst
  by_cases hx6 : (xs i &&& 63) = 6
  · rw [if_pos hx6] at hst
    refine g_tblAt C 21 6 hx6 454 rfl (by decide) (by decide) rfl rfl ?_
    exact law_c6 C hZ hgc hn2 hi hL hc hs hst hZ2 K
  rw [if_neg hx6] at hst
  by_cases hx7 : (xs i &&& 63) = 7
  · rw [if_pos hx7] at hst
    refine g_tblAt C 21 7 hx7 477 rfl (by decide) (by decide) rfl rfl ?_
    exact law_c7 C hZ hgc hn2 hi hL hc hs hst hZ2 K
  rw [if_neg hx7] at hst
  by_cases hx8 : (xs i &&& 63) = 8
  · rw [if_pos hx8] at hst
    refine g_tblAt C 21 8 hx8 500 rfl (by decide) (by decide) rfl rfl ?_
    exact law_c8 C hZ hgc hn2 hi hL hc hs hst hZ2 K
  rw [if_neg hx8] at hst
  by_cases hx9 : (xs i &&& 63) = 9
  · rw [if_pos hx9] at hst
    refine g_tblAt C 21 9 hx9 533 rfl (by decide) (by decide) rfl rfl ?_
    exact law_c9 C hZ hgc hn2 hi hL hc hs hst hZ2 K
  rw [if_neg hx9] at hst
  by_cases hx10 : (xs i &&& 63) = 10
  · rw [if_pos hx10] at hst
    refine g_tblAt C 21 10 hx10 576 rfl (by decide) (by decide) rfl rfl ?_
    exact law_c10 C hZ hgc hn2 hi hL hc hs hst hZ2 K
  rw [if_neg hx10] at hst
  by_cases hx11 : (xs i &&& 63) = 11
  · rw [if_pos hx11] at hst
    refine g_tblAt C 21 11 hx11 609 rfl (by decide) (by decide) rfl rfl ?_
    exact law_c11 C hZ hgc hn2 hi hL hc hs hst hZ2 K
  rw [if_neg hx11] at hst
  by_cases hx12 : (xs i &&& 63) = 12
  · rw [if_pos hx12] at hst
    refine g_tblAt C 21 12 hx12 642 rfl (by decide) (by decide) rfl rfl ?_
    exact law_c12 C hZ hgc hn2 hi hL hc hs hst hZ2 K
  rw [if_neg hx12] at hst
  by_cases hx13 : (xs i &&& 63) = 13
  · rw [if_pos hx13] at hst
    refine g_tblAt C 21 13 hx13 665 rfl (by decide) (by decide) rfl rfl ?_
    exact law_c13 C hZ hgc hn2 hi hL hc hs hst hZ2 K
  rw [if_neg hx13] at hst
  by_cases hx14 : (xs i &&& 63) = 14
  · rw [if_pos hx14] at hst
    refine g_tblAt C 21 14 hx14 698 rfl (by decide) (by decide) rfl rfl ?_
    exact law_c14 C hZ hgc hn2 hi hL hc hs hst hZ2 K
  rw [if_neg hx14] at hst
  by_cases hx15 : (xs i &&& 63) = 15
  · rw [if_pos hx15] at hst
    refine g_tblAt C 21 15 hx15 721 rfl (by decide) (by decide) rfl rfl ?_
    exact law_c15 C hZ hgc hn2 hi hL hc hs hst hZ2 K
  rw [if_neg hx15] at hst
  by_cases hx16 : (xs i &&& 63) = 16
  · rw [if_pos hx16] at hst
    refine g_tblAt C 21 16 hx16 754 rfl (by decide) (by decide) rfl rfl ?_
    exact law_c16 C hZ hgc hn2 hi hL hc hs hst hZ2 K
  rw [if_neg hx16] at hst
  by_cases hx17 : (xs i &&& 63) = 17
  · rw [if_pos hx17] at hst
    refine g_tblAt C 21 17 hx17 777 rfl (by decide) (by decide) rfl rfl ?_
    exact law_c17 C hZ hgc hn2 hi hL hc hs hst hZ2 K
  rw [if_neg hx17] at hst
  by_cases hx18 : (xs i &&& 63) = 18
  · rw [if_pos hx18] at hst
    refine g_tblAt C 21 18 hx18 800 rfl (by decide) (by decide) rfl rfl ?_
    exact law_c18 C hZ hgc hn2 hi hL hc hs hst hZ2 K
  rw [if_neg hx18] at hst
  by_cases hx19 : (xs i &&& 63) = 19
  · rw [if_pos hx19] at hst
    refine g_tblAt C 21 19 hx19 833 rfl (by decide) (by decide) rfl rfl ?_
    exact law_c19 C hZ hgc hn2 hi hL hc hs hst hZ2 K
  rw [if_neg hx19] at hst
  by_cases hx20 : (xs i &&& 63) = 20
  · rw [if_pos hx20] at hst
    refine g_tblAt C 21 20 hx20 846 rfl (by decide) (by decide) rfl rfl ?_
    exact law_c20 C hZ hgc hn2 hi hL hc hs hst hZ2 K
  rw [if_neg hx20] at hst
  by_cases hx21 : (xs i &&& 63) = 21
  · rw [if_pos hx21] at hst
    refine g_tblAt C 21 21 hx21 869 rfl (by decide) (by decide) rfl rfl ?_
    exact law_c21 C hZ hgc hn2 hi hL hc hs hst hZ2 K
  rw [if_neg hx21] at hst
  by_cases hx22 : (xs i &&& 63) = 22
  · rw [if_pos hx22] at hst
    refine g_tblAt C 21 22 hx22 902 rfl (by decide) (by decide) rfl rfl ?_
    exact law_c22 C hZ hgc hn2 hi hL hc hs hst hZ2 K
  rw [if_neg hx22] at hst
  by_cases hx23 : (xs i &&& 63) = 23
  · rw [if_pos hx23] at hst
    refine g_tblAt C 21 23 hx23 935 rfl (by decide) (by decide) rfl rfl ?_
    exact law_c23 C hZ hgc hn2 hi hL hc hs hst hZ2 K
  rw [if_neg hx23] at hst
  by_cases hx24 : (xs i &&& 63) = 24
  · rw [if_pos hx24] at hst
    refine g_tblAt C 21 24 hx24 978 rfl (by decide) (by decide) rfl rfl ?_
    exact law_c24 C hZ hgc hn2 hi hL hc hs hst hZ2 K
  rw [if_neg hx24] at hst
  by_cases hx25 : (xs i &&& 63) = 25
  · rw [if_pos hx25] at hst
    refine g_tblAt C 21 25 hx25 1001 rfl (by decide) (by decide) rfl rfl ?_
    exact law_c25 C hZ hgc hn2 hi hL hc hs hst hZ2 K
  rw [if_neg hx25] at hst
  by_cases hx26 : (xs i &&& 63) = 26
  · rw [if_pos hx26] at hst
    refine g_tblAt C 21 26 hx26 1034 rfl (by decide) (by decide) rfl rfl ?_
    exact law_c26 C hZ hgc hn2 hi hL hc hs hst hZ2 K
  rw [if_neg hx26] at hst
  by_cases hx27 : (xs i &&& 63) = 27
  · rw [if_pos hx27] at hst
    refine g_tblAt C 21 27 hx27 1047 rfl (by decide) (by decide) rfl rfl ?_
    exact law_c27 C hZ hgc hn2 hi hL hc hs hst hZ2 K
  rw [if_neg hx27] at hst
  by_cases hx28 : (xs i &&& 63) = 28
  · rw [if_pos hx28] at hst
    refine g_tblAt C 21 28 hx28 1070 rfl (by decide) (by decide) rfl rfl ?_
    exact law_c28 C hZ hgc hn2 hi hL hc hs hst hZ2 K
  rw [if_neg hx28] at hst
  by_cases hx29 : (xs i &&& 63) = 29
  · rw [if_pos hx29] at hst
    refine g_tblAt C 21 29 hx29 1113 rfl (by decide) (by decide) rfl rfl ?_
    exact law_c29 C hZ hgc hn2 hi hL hc hs hst hZ2 K
  rw [if_neg hx29] at hst
  by_cases hx30 : (xs i &&& 63) = 30
  · rw [if_pos hx30] at hst
    refine g_tblAt C 21 30 hx30 1136 rfl (by decide) (by decide) rfl rfl ?_
    exact law_c30 C hZ hgc hn2 hi hL hc hs hst hZ2 K
  rw [if_neg hx30] at hst
  by_cases hx31 : (xs i &&& 63) = 31
  · rw [if_pos hx31] at hst
    refine g_tblAt C 21 31 hx31 1149 rfl (by decide) (by decide) rfl rfl ?_
    exact law_c31 C hZ hgc hn2 hi hL hc hs hst hZ2 K
  rw [if_neg hx31] at hst
  by_cases hx32 : (xs i &&& 63) = 32
  · rw [if_pos hx32] at hst
    refine g_tblAt C 21 32 hx32 1182 rfl (by decide) (by decide) rfl rfl ?_
    exact law_c32 C hZ hgc hn2 hi hL hc hs hst hZ2 K
  rw [if_neg hx32] at hst
  by_cases hx33 : (xs i &&& 63) = 33
  · rw [if_pos hx33] at hst
    refine g_tblAt C 21 33 hx33 1205 rfl (by decide) (by decide) rfl rfl ?_
    exact law_c33 C hZ hgc hn2 hi hL hc hs hst hZ2 K
  rw [if_neg hx33] at hst
  by_cases hx34 : (xs i &&& 63) = 34
  · rw [if_pos hx34] at hst
    refine g_tblAt C 21 34 hx34 1248 rfl (by decide) (by decide) rfl rfl ?_
    exact law_c34 C hZ hgc hn2 hi hL hc hs hst hZ2 K
  rw [if_neg hx34] at hst
  by_cases hx35 : (xs i &&& 63) = 35
  · rw [if_pos hx35] at hst
    refine g_tblAt C 21 35 hx35 1291 rfl (by decide) (by decide) rfl rfl ?_
    exact law_c35 C hZ hgc hn2 hi hL hc hs hst hZ2 K
  rw [if_neg hx35] at hst
  by_cases hx36 : (xs i &&& 63) = 36
  · rw [if_pos hx36] at hst
    refine g_tblAt C 21 36 hx36 1314 rfl (by decide) (by decide) rfl rfl ?_
    exact law_c36 C hZ hgc hn2 hi hL hc hs hst hZ2 K
  rw [if_neg hx36] at hst
  by_cases hx37 : (xs i &&& 63) = 37
  · rw [if_pos hx37] at hst
    refine g_tblAt C 21 37 hx37 1337 rfl (by decide) (by decide) rfl rfl ?_
    exact law_c37 C hZ hgc hn2 hi hL hc hs hst hZ2 K
  rw [if_neg hx37] at hst
  by_cases hx38 : (xs i &&& 63) = 38
  · rw [if_pos hx38] at hst
    refine g_tblAt C 21 38 hx38 1400 rfl (by decide) (by decide) rfl rfl ?_
    exact law_c38 C hZ hgc hn2 hi hL hc hs hst hZ2 K
  rw [if_neg hx38] at hst
  by_cases hx39 : (xs i &&& 63) = 39
  · rw [if_pos hx39] at hst
    refine g_tblAt C 21 39 hx39 1443 rfl (by decide) (by decide) rfl rfl ?_
    exact law_c39 C hZ hgc hn2 hi hL hc hs hst hZ2 K
  rw [if_neg hx39] at hst
  by_cases hx40 : (xs i &&& 63) = 40
  · rw [if_pos hx40] at hst
    refine g_tblAt C 21 40 hx40 1476 rfl (by decide) (by decide) rfl rfl ?_
    exact law_c40 C hZ hgc hn2 hi hL hc hs hst hZ2 K
  rw [if_neg hx40] at hst
  by_cases hx41 : (xs i &&& 63) = 41
  · rw [if_pos hx41] at hst
    refine g_tblAt C 21 41 hx41 1509 rfl (by decide) (by decide) rfl rfl ?_
    exact law_c41 C hZ hgc hn2 hi hL hc hs hst hZ2 K
  rw [if_neg hx41] at hst
  by_cases hx42 : (xs i &&& 63) = 42
  · rw [if_pos hx42] at hst
    refine g_tblAt C 21 42 hx42 1542 rfl (by decide) (by decide) rfl rfl ?_
    exact law_c42 C hZ hgc hn2 hi hL hc hs hst hZ2 K
  rw [if_neg hx42] at hst
  by_cases hx43 : (xs i &&& 63) = 43
  · rw [if_pos hx43] at hst
    refine g_tblAt C 21 43 hx43 1565 rfl (by decide) (by decide) rfl rfl ?_
    exact law_c43 C hZ hgc hn2 hi hL hc hs hst hZ2 K
  rw [if_neg hx43] at hst
  by_cases hx44 : (xs i &&& 63) = 44
  · rw [if_pos hx44] at hst
    refine g_tblAt C 21 44 hx44 1588 rfl (by decide) (by decide) rfl rfl ?_
    exact law_c44 C hZ hgc hn2 hi hL hc hs hst hZ2 K
  rw [if_neg hx44] at hst
  by_cases hx45 : (xs i &&& 63) = 45
  · rw [if_pos hx45] at hst
    refine g_tblAt C 21 45 hx45 1601 rfl (by decide) (by decide) rfl rfl ?_
    exact law_c45 C hZ hgc hn2 hi hL hc hs hst hZ2 K
  rw [if_neg hx45] at hst
  by_cases hx46 : (xs i &&& 63) = 46
  · rw [if_pos hx46] at hst
    refine g_tblAt C 21 46 hx46 1614 rfl (by decide) (by decide) rfl rfl ?_
    exact law_c46 C hZ hgc hn2 hi hL hc hs hst hZ2 K
  rw [if_neg hx46] at hst
  refine g_tblOut C 21 1637 rfl (by have e0 := i32ne hx0 0 rfl; have e1 := i32ne hx1 1 rfl; have e2 := i32ne hx2 2 rfl; have e3 := i32ne hx3 3 rfl; have e4 := i32ne hx4 4 rfl; have e5 := i32ne hx5 5 rfl; have e6 := i32ne hx6 6 rfl; have e7 := i32ne hx7 7 rfl; have e8 := i32ne hx8 8 rfl; have e9 := i32ne hx9 9 rfl; have e10 := i32ne hx10 10 rfl; have e11 := i32ne hx11 11 rfl; have e12 := i32ne hx12 12 rfl; have e13 := i32ne hx13 13 rfl; have e14 := i32ne hx14 14 rfl; have e15 := i32ne hx15 15 rfl; have e16 := i32ne hx16 16 rfl; have e17 := i32ne hx17 17 rfl; have e18 := i32ne hx18 18 rfl; have e19 := i32ne hx19 19 rfl; have e20 := i32ne hx20 20 rfl; have e21 := i32ne hx21 21 rfl; have e22 := i32ne hx22 22 rfl; have e23 := i32ne hx23 23 rfl; have e24 := i32ne hx24 24 rfl; have e25 := i32ne hx25 25 rfl; have e26 := i32ne hx26 26 rfl; have e27 := i32ne hx27 27 rfl; have e28 := i32ne hx28 28 rfl; have e29 := i32ne hx29 29 rfl; have e30 := i32ne hx30 30 rfl; have e31 := i32ne hx31 31 rfl; have e32 := i32ne hx32 32 rfl; have e33 := i32ne hx33 33 rfl; have e34 := i32ne hx34 34 rfl; have e35 := i32ne hx35 35 rfl; have e36 := i32ne hx36 36 rfl; have e37 := i32ne hx37 37 rfl; have e38 := i32ne hx38 38 rfl; have e39 := i32ne hx39 39 rfl; have e40 := i32ne hx40 40 rfl; have e41 := i32ne hx41 41 rfl; have e42 := i32ne hx42 42 rfl; have e43 := i32ne hx43 43 rfl; have e44 := i32ne hx44 44 rfl; have e45 := i32ne hx45 45 rfl; have e46 := i32ne hx46 46 rfl; omega) rfl ?_
  have h := Option.some.inj hst
  obtain ⟨e1, h⟩ := Prod.mk.inj h
  obtain ⟨e2, h⟩ := Prod.mk.inj h
  obtain ⟨e3, e4⟩ := Prod.mk.inj h
  subst e3; subst e4
  exact g_widen C hc hs (fun g2 C2 => K g2 ad C2)
set_option maxRecDepth 20000 in
set_option maxHeartbeats 4000000 in
theorem law_loop {b L : Nat} {xs : Nat → Int32} (hL : L ≤ 3072) {Inv : Nat → gS → List gH → Prop} (hInv : ∀ n σ Z, Inv n σ Z → Lay Z ∧ gcl Z Z.length ∧ Z.length + 2 < 100000) (hstep : ∀ n o a b c d e σ Z, Inv (n + 1) σ Z → ∃ r σ2 Z2, F_step o a b c d e Z σ = some (r, r, σ2, Z2) ∧ Inv n σ2 Z2) :
    ∀ (n i nc ns : Nat) (g : Nat → List (Nat × Value) → List Value → gS → Prop) (Z : List gH) (ad : Nat → Nat) (σ : gS), gOkQ g T_L RL 4 ret room_1 Z ad nc ns (ELaw b L xs) → Inv n σ Z → i ≤ L → L < i + 6 * n + 6 → nc + 2 * n ≤ 600000 → ns + 99 * n ≤ 7302250 → g 18 (lawls b ad i) [] σ := by
  intro n
  induction n with
  | zero =>
    intro i nc ns g Z ad σ C hI hiL h1 h2 h3
    refine g_iload_n C 10 3 rfl rfl ?_
    refine g_aload_n C 11 0 rfl rfl ?_
    refine g_slen C 12 rfl ?_
    refine g_bipush (v := 6) C 13 rfl rfl ?_
    refine g_isub C 14 rfl ?_
    refine g_icmp_gt_T C 15 1643 rfl rfl ((sub6 hL (by omega)).mpr (by omega)) ?_
    refine g_iconst (v := 1) C 1143 rfl rfl ?_
    exact g_end C 1144 rfl
  | succ n ih =>
    intro i nc ns g Z ad σ C hI hiL h1 h2 h3
    refine g_iload_n C 10 3 rfl rfl ?_
    refine g_aload_n C 11 0 rfl rfl ?_
    refine g_slen C 12 rfl ?_
    refine g_bipush (v := 6) C 13 rfl rfl ?_
    refine g_isub C 14 rfl ?_
    by_cases hi : i + 6 ≤ L
    · refine g_icmp_gt_F C 15 1643 rfl rfl (fun q => absurd ((sub6 hL (by omega)).mp q) (by omega)) ?_
      refine g_aload_n C 16 0 rfl rfl ?_
      refine g_iload_n C 17 3 rfl rfl ?_
      refine g_sld (i := i) C 18 rfl rfl (by omega) (by omega) ?_
      refine g_bipush (v := 63) C 19 rfl rfl ?_
      refine g_iand C 20 rfl ?_
      obtain ⟨r, σ2, Z2, hst, hI2⟩ := hstep n (xs i &&& 63) (xs (i + 1)) (xs (i + 2)) (xs (i + 3)) (xs (i + 4)) (xs (i + 5)) σ Z hI
      obtain ⟨hZ, hgc, hn2⟩ := hInv _ _ _ hI
      refine law_body C hZ hgc hn2 hi hL (by omega) (by omega) hst (hInv _ _ _ hI2).1 (fun g2 ad2 C2 => ?_)
      refine g_iinc C2 1141 3 (Int32.ofNat (i + 6)) [(3, .int (Int32.ofNat (i + 6))), (0, .ref b), (1, .ref (ad2 0)), (2, .ref (ad2 65))] rfl rfl (by decide) (addk i 6) rfl ?_
      refine g_goto C2 1142 18 rfl rfl ?_
      refine g_sub C2 [1, 2, 3, 0] (lawls b ad2 (i + 6)) rfl ?_
      exact ih (i + 6) (nc + 2) (ns + 99) g2 Z2 ad2 σ2 C2 hI2 (by omega) (by omega) (by omega) (by omega)
    · refine g_icmp_gt_T C 15 1643 rfl rfl ((sub6 hL (by omega)).mpr (by omega)) ?_
      refine g_iconst (v := 1) C 1143 rfl rfl ?_
      exact g_end C 1144 rfl
theorem wc1191 : Cond.instanceMethod ⟨"CopiedFire", "<init>", "()V"⟩ ∈ TB := TBm (tk1 (List.mem_of_getElem? (i := 24) (by decide +kernel))) rfl
theorem wc1192 : Cond.instanceMethod ⟨"CopiedFireModel", "<init>", "()V"⟩ ∈ TB := TBm (tk4 (List.mem_of_getElem? (i := 203) (by decide +kernel))) rfl
def S_start (σ : gS) : gS := S_X10_init_65 (gp (S_X9_init_0 (gp σ 0 (fun _ => 0))) 65 (fun _ => 0))
set_option maxRecDepth 20000 in
set_option maxHeartbeats 4000000 in
theorem law_start {b L : Nat} {xs : Nat → Int32} (hL : L ≤ 3072) {Inv : Nat → gS → List gH → Prop} (hInv : ∀ n σ Z, Inv n σ Z → Lay Z ∧ gcl Z Z.length ∧ Z.length + 2 < 100000) (hstep : ∀ n o a b c d e σ Z, Inv (n + 1) σ Z → ∃ r σ2 Z2, F_step o a b c d e Z σ = some (r, r, σ2, Z2) ∧ Inv n σ2 Z2) (h0 : ∀ σ, Inv 512 (S_start σ) Zs182)
    {g : Nat → List (Nat × Value) → List Value → gS → Prop} {ad : Nat → Nat} {σ : gS} (C : gOkQ g T_L RL 4 ret room_1 Zs0 ad 0 0 (ELaw b L xs)) : g 0 [(0, .ref b)] [] σ := by
  refine g2_new C 0 [some none, some none, some none, some none, some none, some none, some none, some none, some none, some none, some none, none, none] rfl (ci := 8) (N := 13) rfl itX9 tyX9 tyX9_ok clL_7 inX9 (by decide +kernel) (nr_of rfl) (n := 0) rfl (by decide) gc0 (Nat.le_of_ble_eq_true rfl) (Nat.le_of_ble_eq_true rfl) (fun ad => [(0, .ref b)]) (fun ad => []) rfl rfl (fun _ _ => ⟨rfl, rfl⟩) Zs1 rfl (fun ad1 g1 hg1 C1 _ => ?_)
  show g1 3 [(0, .ref b)] [.ref (ad1 0)] _
  refine g_dup C1 1 rfl rfl ?_
  refine g2_callIv C1 2 [] [.ref (ad1 0)] rfl (K_X9_init_0 _) cnL_9 cwX9_init wc1191 rfl rfl rfl (n := 1) rfl (fun ad => [(0, .ref b)]) (fun ad => [.ref (ad 0)]) rfl rfl (fun _ h => ⟨rfl, by simp only [h 0 (Or.inl (by decide))]⟩) rfl (Nat.le_of_ble_eq_true rfl) ⟨Nat.le_of_ble_eq_true rfl, Nat.le_of_ble_eq_true rfl⟩ (Nat.le_of_ble_eq_true rfl) (Nat.le_of_ble_eq_true rfl) (fun ad2 g2 hg2 C2 => ?_)
  show g2 7 [(0, .ref b)] [.ref (ad2 0)] _
  refine g_astore_n C2 3 [(1, .ref (ad2 0)), (0, .ref b)] rfl (by decide) rfl ?_
  refine g2_new C2 4 [some none, some none, some none, none, some none, some none, none, some none, some none, some none, none, none, none, none, none, none, none, some none, some none, some none, none, none, some none, none, some none, some none, some none, some none, some none, some none, some none, some none, some none, some none, some none, some none, none] rfl (ci := 9) (N := 37) rfl itX10 tyX10 tyX10_ok clL_10 inX10 (by decide +kernel) (nr_of rfl) (n := 65) rfl (by decide) gc133 (Nat.le_of_ble_eq_true rfl) (Nat.le_of_ble_eq_true rfl) (fun ad => [(1, .ref (ad 0)), (0, .ref b)]) (fun ad => []) rfl rfl (fun _ h => ⟨by simp only [h 0 (Or.inl (by decide))], rfl⟩) Zs134 rfl (fun ad3 g3 hg3 C3 _ => ?_)
  show g3 11 [(1, .ref (ad3 0)), (0, .ref b)] [.ref (ad3 65)] _
  refine g_dup C3 5 rfl rfl ?_
  refine g2_callIv C3 6 [] [.ref (ad3 65)] rfl (K_X10_init_65 _) cnL_12 cwX10_init wc1192 rfl rfl rfl (n := 66) rfl (fun ad => [(1, .ref (ad 0)), (0, .ref b)]) (fun ad => [.ref (ad 65)]) rfl rfl (fun _ h => ⟨by simp only [h 0 (Or.inl (by decide))], by simp only [h 65 (Or.inl (by decide))]⟩) rfl (Nat.le_of_ble_eq_true rfl) ⟨Nat.le_of_ble_eq_true rfl, Nat.le_of_ble_eq_true rfl⟩ (Nat.le_of_ble_eq_true rfl) (Nat.le_of_ble_eq_true rfl) (fun ad4 g4 hg4 C4 => ?_)
  show g4 15 [(1, .ref (ad4 0)), (0, .ref b)] [.ref (ad4 65)] _
  refine g_astore_n C4 7 [(2, .ref (ad4 65)), (1, .ref (ad4 0)), (0, .ref b)] rfl (by decide) rfl ?_
  refine g_iconst (v := 0) C4 8 rfl rfl ?_
  refine g_istore_n C4 9 [(3, .int 0), (2, .ref (ad4 65)), (1, .ref (ad4 0)), (0, .ref b)] rfl (by decide) rfl ?_
  refine g_sub C4 [3, 2, 1, 0] (lawls b ad4 0) rfl ?_
  exact law_loop hL hInv hstep 512 0 _ _ g4 Zs182 ad4 _ C4 (h0 σ) (Nat.zero_le L) (by omega) (Nat.le_of_ble_eq_true rfl) (Nat.le_of_ble_eq_true rfl)
