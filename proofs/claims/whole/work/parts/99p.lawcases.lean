/-! the cases of the law, each by its two calls -/
section LAW
variable {l : Launch} {G : va_G} {cy ad tt : Nat → Nat} {Go : Nat → List (Option Value) → List Value → Mem → Prop} {b : Nat} {Lz : Int} {X : Int → Int}
def LK (b : Nat) (ad : Nat → Nat) (i : Int) : List (Option Value) := [some (.ref b), some (.ref (ad 0)), some (.ref (ad 83)), some (iv i)]
/-- the script is read -/
def SLD (Go : Nat → List (Option Value) → List Value → Mem → Prop) (b : Nat) (Lz : Int) (X : Int → Int) : Prop := ∀ {pc : Nat} {L : List (Option Value)} {st : List Value} {m : Mem} {j : Int}, decode cL_law pc = .ok (.iaload, 1) → 0 ≤ j → j < Lz → Go (pc + 1) L (iv (X j) :: st) m → Go pc L (iv j :: .ref b :: st) m
theorem l_arg (hR : RS l G cy ad tt RL cL_law 4 1000 Go) (hS : SLD Go b Lz X) {pc : Nat} {i kk : Int} {m : Mem} {st : List Value} (d0 : decode cL_law pc = .ok (.aload_n 0, 1)) (d1 : decode cL_law (pc + 1) = .ok (.iload_n 3, 1)) (d2 : decode cL_law (pc + 2) = .ok (.iconst kk, 1)) (d3 : decode cL_law (pc + 3) = .ok (.iadd, 1)) (d4 : decode cL_law (pc + 4) = .ok (.iaload, 1)) (hi : 0 ≤ i) (hk : 0 ≤ kk ∧ kk ≤ 5) (hl : i + 6 ≤ Lz) (hz : Lz ≤ 384) (k : Go (pc + 5) (LK b ad i) (iv (X (i + kk)) :: st) m) : Go pc (LK b ad i) st m := by
  refine r_aload_n (x := b) hR d0 rfl ?_
  refine r_iload_n (x := i) hR d1 rfl ?_
  refine r_iconst hR d2 ?_
  refine r_iadd hR d3 ?_
  rw [w32_id (x := i + kk) (by omega) (by omega)]
  exact hS d4 (by omega) (by omega) k

def tb_Lz : List (Nat × (Instr × Nat)) := [(0, (.new 7, 3)), (3, (.dup, 1)), (4, (.invokespecial 9, 3)), (7, (.astore_n 1, 1)), (8, (.new 10, 3)), (11, (.dup, 1)), (12, (.invokespecial 12, 3)), (15, (.astore_n 2, 1)), (16, (.iconst 0, 1)), (17, (.istore_n 3, 1)), (18, (.iload_n 3, 1)), (19, (.aload_n 0, 1)), (20, (.arraylength, 1)), (21, (.bipush 6, 2)), (23, (.isub, 1)), (24, (.if_icmp .gt 1401, 3)), (27, (.aload_n 0, 1)), (28, (.iload_n 3, 1)), (29, (.iaload, 1)), (30, (.bipush 63, 2)), (32, (.iand, 1)), (33, (.tableswitch 1386 0 39 #[175, 208, 221, 234, 267, 310, 363, 396, 439, 472, 495, 528, 561, 584, 597, 620, 653, 676, 699, 722, 755, 778, 791, 814, 847, 880, 913, 946, 959, 972, 985, 1018, 1061, 1084, 1117, 1160, 1233, 1267, 1330, 1363], 175)), (1419, (.iinc 3 6, 3)), (1422, (.goto (-1404), 3)), (1425, (.iconst 1, 1)), (1426, (.ireturn, 1))]
set_option maxRecDepth 100000 in
theorem dt_Lz : (tb_Lz.all fun q => decide (decode cL_law q.1 = .ok q.2)) = true := by decide +kernel
def tb_L0 : List (Nat × (Instr × Nat)) := [(208, (.aload_n 1, 1)), (209, (.aload_n 0, 1)), (210, (.iload_n 3, 1)), (211, (.iconst 1, 1)), (212, (.iadd, 1)), (213, (.iaload, 1)), (214, (.aload_n 0, 1)), (215, (.iload_n 3, 1)), (216, (.iconst 2, 1)), (217, (.iadd, 1)), (218, (.iaload, 1)), (219, (.invokevirtual 13, 3)), (222, (.aload_n 2, 1)), (223, (.aload_n 0, 1)), (224, (.iload_n 3, 1)), (225, (.iconst 1, 1)), (226, (.iadd, 1)), (227, (.iaload, 1)), (228, (.aload_n 0, 1)), (229, (.iload_n 3, 1)), (230, (.iconst 2, 1)), (231, (.iadd, 1)), (232, (.iaload, 1)), (233, (.invokevirtual 17, 3)), (236, (.if_icmp .eq 1183, 3)), (239, (.iconst 0, 1)), (240, (.ireturn, 1))]
set_option maxRecDepth 100000 in
theorem dt_L0 : (tb_L0.all fun q => decide (decode cL_law q.1 = .ok q.2)) = true := by decide +kernel
def tb_L1 : List (Nat × (Instr × Nat)) := [(241, (.aload_n 1, 1)), (242, (.invokevirtual 18, 3)), (245, (.aload_n 2, 1)), (246, (.invokevirtual 22, 3)), (249, (.if_icmp .eq 1170, 3)), (252, (.iconst 0, 1)), (253, (.ireturn, 1))]
set_option maxRecDepth 100000 in
theorem dt_L1 : (tb_L1.all fun q => decide (decode cL_law q.1 = .ok q.2)) = true := by decide +kernel
def tb_L2 : List (Nat × (Instr × Nat)) := [(254, (.aload_n 1, 1)), (255, (.invokevirtual 23, 3)), (258, (.aload_n 2, 1)), (259, (.invokevirtual 26, 3)), (262, (.if_icmp .eq 1157, 3)), (265, (.iconst 0, 1)), (266, (.ireturn, 1))]
set_option maxRecDepth 100000 in
theorem dt_L2 : (tb_L2.all fun q => decide (decode cL_law q.1 = .ok q.2)) = true := by decide +kernel
def tb_L3 : List (Nat × (Instr × Nat)) := [(267, (.aload_n 1, 1)), (268, (.aload_n 0, 1)), (269, (.iload_n 3, 1)), (270, (.iconst 1, 1)), (271, (.iadd, 1)), (272, (.iaload, 1)), (273, (.aload_n 0, 1)), (274, (.iload_n 3, 1)), (275, (.iconst 2, 1)), (276, (.iadd, 1)), (277, (.iaload, 1)), (278, (.invokevirtual 27, 3)), (281, (.aload_n 2, 1)), (282, (.aload_n 0, 1)), (283, (.iload_n 3, 1)), (284, (.iconst 1, 1)), (285, (.iadd, 1)), (286, (.iaload, 1)), (287, (.aload_n 0, 1)), (288, (.iload_n 3, 1)), (289, (.iconst 2, 1)), (290, (.iadd, 1)), (291, (.iaload, 1)), (292, (.invokevirtual 30, 3)), (295, (.if_icmp .eq 1124, 3)), (298, (.iconst 0, 1)), (299, (.ireturn, 1))]
set_option maxRecDepth 100000 in
theorem dt_L3 : (tb_L3.all fun q => decide (decode cL_law q.1 = .ok q.2)) = true := by decide +kernel
def tb_L4 : List (Nat × (Instr × Nat)) := [(300, (.aload_n 1, 1)), (301, (.aload_n 0, 1)), (302, (.iload_n 3, 1)), (303, (.iconst 1, 1)), (304, (.iadd, 1)), (305, (.iaload, 1)), (306, (.aload_n 0, 1)), (307, (.iload_n 3, 1)), (308, (.iconst 2, 1)), (309, (.iadd, 1)), (310, (.iaload, 1)), (311, (.aload_n 0, 1)), (312, (.iload_n 3, 1)), (313, (.iconst 3, 1)), (314, (.iadd, 1)), (315, (.iaload, 1)), (316, (.invokevirtual 31, 3)), (319, (.aload_n 2, 1)), (320, (.aload_n 0, 1)), (321, (.iload_n 3, 1)), (322, (.iconst 1, 1)), (323, (.iadd, 1)), (324, (.iaload, 1)), (325, (.aload_n 0, 1)), (326, (.iload_n 3, 1)), (327, (.iconst 2, 1)), (328, (.iadd, 1)), (329, (.iaload, 1)), (330, (.aload_n 0, 1)), (331, (.iload_n 3, 1)), (332, (.iconst 3, 1)), (333, (.iadd, 1)), (334, (.iaload, 1)), (335, (.invokevirtual 35, 3)), (338, (.if_icmp .eq 1081, 3)), (341, (.iconst 0, 1)), (342, (.ireturn, 1))]
set_option maxRecDepth 100000 in
theorem dt_L4 : (tb_L4.all fun q => decide (decode cL_law q.1 = .ok q.2)) = true := by decide +kernel
def tb_L5 : List (Nat × (Instr × Nat)) := [(343, (.aload_n 1, 1)), (344, (.aload_n 0, 1)), (345, (.iload_n 3, 1)), (346, (.iconst 1, 1)), (347, (.iadd, 1)), (348, (.iaload, 1)), (349, (.aload_n 0, 1)), (350, (.iload_n 3, 1)), (351, (.iconst 2, 1)), (352, (.iadd, 1)), (353, (.iaload, 1)), (354, (.aload_n 0, 1)), (355, (.iload_n 3, 1)), (356, (.iconst 3, 1)), (357, (.iadd, 1)), (358, (.iaload, 1)), (359, (.aload_n 0, 1)), (360, (.iload_n 3, 1)), (361, (.iconst 4, 1)), (362, (.iadd, 1)), (363, (.iaload, 1)), (364, (.invokevirtual 36, 3)), (367, (.aload_n 2, 1)), (368, (.aload_n 0, 1)), (369, (.iload_n 3, 1)), (370, (.iconst 1, 1)), (371, (.iadd, 1)), (372, (.iaload, 1)), (373, (.aload_n 0, 1)), (374, (.iload_n 3, 1)), (375, (.iconst 2, 1)), (376, (.iadd, 1)), (377, (.iaload, 1)), (378, (.aload_n 0, 1)), (379, (.iload_n 3, 1)), (380, (.iconst 3, 1)), (381, (.iadd, 1)), (382, (.iaload, 1)), (383, (.aload_n 0, 1)), (384, (.iload_n 3, 1)), (385, (.iconst 4, 1)), (386, (.iadd, 1)), (387, (.iaload, 1)), (388, (.invokevirtual 40, 3)), (391, (.if_icmp .eq 1028, 3)), (394, (.iconst 0, 1)), (395, (.ireturn, 1))]
set_option maxRecDepth 100000 in
theorem dt_L5 : (tb_L5.all fun q => decide (decode cL_law q.1 = .ok q.2)) = true := by decide +kernel
def tb_L6 : List (Nat × (Instr × Nat)) := [(396, (.aload_n 1, 1)), (397, (.aload_n 0, 1)), (398, (.iload_n 3, 1)), (399, (.iconst 1, 1)), (400, (.iadd, 1)), (401, (.iaload, 1)), (402, (.aload_n 0, 1)), (403, (.iload_n 3, 1)), (404, (.iconst 2, 1)), (405, (.iadd, 1)), (406, (.iaload, 1)), (407, (.invokevirtual 41, 3)), (410, (.aload_n 2, 1)), (411, (.aload_n 0, 1)), (412, (.iload_n 3, 1)), (413, (.iconst 1, 1)), (414, (.iadd, 1)), (415, (.iaload, 1)), (416, (.aload_n 0, 1)), (417, (.iload_n 3, 1)), (418, (.iconst 2, 1)), (419, (.iadd, 1)), (420, (.iaload, 1)), (421, (.invokevirtual 44, 3)), (424, (.if_icmp .eq 995, 3)), (427, (.iconst 0, 1)), (428, (.ireturn, 1))]
set_option maxRecDepth 100000 in
theorem dt_L6 : (tb_L6.all fun q => decide (decode cL_law q.1 = .ok q.2)) = true := by decide +kernel
def tb_L7 : List (Nat × (Instr × Nat)) := [(429, (.aload_n 1, 1)), (430, (.aload_n 0, 1)), (431, (.iload_n 3, 1)), (432, (.iconst 1, 1)), (433, (.iadd, 1)), (434, (.iaload, 1)), (435, (.aload_n 0, 1)), (436, (.iload_n 3, 1)), (437, (.iconst 2, 1)), (438, (.iadd, 1)), (439, (.iaload, 1)), (440, (.aload_n 0, 1)), (441, (.iload_n 3, 1)), (442, (.iconst 3, 1)), (443, (.iadd, 1)), (444, (.iaload, 1)), (445, (.invokevirtual 45, 3)), (448, (.aload_n 2, 1)), (449, (.aload_n 0, 1)), (450, (.iload_n 3, 1)), (451, (.iconst 1, 1)), (452, (.iadd, 1)), (453, (.iaload, 1)), (454, (.aload_n 0, 1)), (455, (.iload_n 3, 1)), (456, (.iconst 2, 1)), (457, (.iadd, 1)), (458, (.iaload, 1)), (459, (.aload_n 0, 1)), (460, (.iload_n 3, 1)), (461, (.iconst 3, 1)), (462, (.iadd, 1)), (463, (.iaload, 1)), (464, (.invokevirtual 48, 3)), (467, (.if_icmp .eq 952, 3)), (470, (.iconst 0, 1)), (471, (.ireturn, 1))]
set_option maxRecDepth 100000 in
theorem dt_L7 : (tb_L7.all fun q => decide (decode cL_law q.1 = .ok q.2)) = true := by decide +kernel
def tb_L8 : List (Nat × (Instr × Nat)) := [(472, (.aload_n 1, 1)), (473, (.aload_n 0, 1)), (474, (.iload_n 3, 1)), (475, (.iconst 1, 1)), (476, (.iadd, 1)), (477, (.iaload, 1)), (478, (.aload_n 0, 1)), (479, (.iload_n 3, 1)), (480, (.iconst 2, 1)), (481, (.iadd, 1)), (482, (.iaload, 1)), (483, (.invokevirtual 49, 3)), (486, (.aload_n 2, 1)), (487, (.aload_n 0, 1)), (488, (.iload_n 3, 1)), (489, (.iconst 1, 1)), (490, (.iadd, 1)), (491, (.iaload, 1)), (492, (.aload_n 0, 1)), (493, (.iload_n 3, 1)), (494, (.iconst 2, 1)), (495, (.iadd, 1)), (496, (.iaload, 1)), (497, (.invokevirtual 52, 3)), (500, (.if_icmp .eq 919, 3)), (503, (.iconst 0, 1)), (504, (.ireturn, 1))]
set_option maxRecDepth 100000 in
theorem dt_L8 : (tb_L8.all fun q => decide (decode cL_law q.1 = .ok q.2)) = true := by decide +kernel
def tb_L9 : List (Nat × (Instr × Nat)) := [(505, (.aload_n 1, 1)), (506, (.aload_n 0, 1)), (507, (.iload_n 3, 1)), (508, (.iconst 1, 1)), (509, (.iadd, 1)), (510, (.iaload, 1)), (511, (.invokevirtual 53, 3)), (514, (.aload_n 2, 1)), (515, (.aload_n 0, 1)), (516, (.iload_n 3, 1)), (517, (.iconst 1, 1)), (518, (.iadd, 1)), (519, (.iaload, 1)), (520, (.invokevirtual 57, 3)), (523, (.if_icmp .eq 896, 3)), (526, (.iconst 0, 1)), (527, (.ireturn, 1))]
set_option maxRecDepth 100000 in
theorem dt_L9 : (tb_L9.all fun q => decide (decode cL_law q.1 = .ok q.2)) = true := by decide +kernel
def tb_L10 : List (Nat × (Instr × Nat)) := [(528, (.aload_n 1, 1)), (529, (.aload_n 0, 1)), (530, (.iload_n 3, 1)), (531, (.iconst 1, 1)), (532, (.iadd, 1)), (533, (.iaload, 1)), (534, (.aload_n 0, 1)), (535, (.iload_n 3, 1)), (536, (.iconst 2, 1)), (537, (.iadd, 1)), (538, (.iaload, 1)), (539, (.invokevirtual 58, 3)), (542, (.aload_n 2, 1)), (543, (.aload_n 0, 1)), (544, (.iload_n 3, 1)), (545, (.iconst 1, 1)), (546, (.iadd, 1)), (547, (.iaload, 1)), (548, (.aload_n 0, 1)), (549, (.iload_n 3, 1)), (550, (.iconst 2, 1)), (551, (.iadd, 1)), (552, (.iaload, 1)), (553, (.invokevirtual 61, 3)), (556, (.if_icmp .eq 863, 3)), (559, (.iconst 0, 1)), (560, (.ireturn, 1))]
set_option maxRecDepth 100000 in
theorem dt_L10 : (tb_L10.all fun q => decide (decode cL_law q.1 = .ok q.2)) = true := by decide +kernel
def tb_L11 : List (Nat × (Instr × Nat)) := [(561, (.aload_n 1, 1)), (562, (.aload_n 0, 1)), (563, (.iload_n 3, 1)), (564, (.iconst 1, 1)), (565, (.iadd, 1)), (566, (.iaload, 1)), (567, (.aload_n 0, 1)), (568, (.iload_n 3, 1)), (569, (.iconst 2, 1)), (570, (.iadd, 1)), (571, (.iaload, 1)), (572, (.invokevirtual 62, 3)), (575, (.aload_n 2, 1)), (576, (.aload_n 0, 1)), (577, (.iload_n 3, 1)), (578, (.iconst 1, 1)), (579, (.iadd, 1)), (580, (.iaload, 1)), (581, (.aload_n 0, 1)), (582, (.iload_n 3, 1)), (583, (.iconst 2, 1)), (584, (.iadd, 1)), (585, (.iaload, 1)), (586, (.invokevirtual 65, 3)), (589, (.if_icmp .eq 830, 3)), (592, (.iconst 0, 1)), (593, (.ireturn, 1))]
set_option maxRecDepth 100000 in
theorem dt_L11 : (tb_L11.all fun q => decide (decode cL_law q.1 = .ok q.2)) = true := by decide +kernel
def tb_L12 : List (Nat × (Instr × Nat)) := [(594, (.aload_n 1, 1)), (595, (.aload_n 0, 1)), (596, (.iload_n 3, 1)), (597, (.iconst 1, 1)), (598, (.iadd, 1)), (599, (.iaload, 1)), (600, (.invokevirtual 66, 3)), (603, (.aload_n 2, 1)), (604, (.aload_n 0, 1)), (605, (.iload_n 3, 1)), (606, (.iconst 1, 1)), (607, (.iadd, 1)), (608, (.iaload, 1)), (609, (.invokevirtual 69, 3)), (612, (.if_icmp .eq 807, 3)), (615, (.iconst 0, 1)), (616, (.ireturn, 1))]
set_option maxRecDepth 100000 in
theorem dt_L12 : (tb_L12.all fun q => decide (decode cL_law q.1 = .ok q.2)) = true := by decide +kernel
def tb_L13 : List (Nat × (Instr × Nat)) := [(617, (.aload_n 1, 1)), (618, (.invokevirtual 70, 3)), (621, (.aload_n 2, 1)), (622, (.invokevirtual 73, 3)), (625, (.if_icmp .eq 794, 3)), (628, (.iconst 0, 1)), (629, (.ireturn, 1))]
set_option maxRecDepth 100000 in
theorem dt_L13 : (tb_L13.all fun q => decide (decode cL_law q.1 = .ok q.2)) = true := by decide +kernel
def tb_L14 : List (Nat × (Instr × Nat)) := [(630, (.aload_n 1, 1)), (631, (.aload_n 0, 1)), (632, (.iload_n 3, 1)), (633, (.iconst 1, 1)), (634, (.iadd, 1)), (635, (.iaload, 1)), (636, (.invokevirtual 74, 3)), (639, (.aload_n 2, 1)), (640, (.aload_n 0, 1)), (641, (.iload_n 3, 1)), (642, (.iconst 1, 1)), (643, (.iadd, 1)), (644, (.iaload, 1)), (645, (.invokevirtual 77, 3)), (648, (.if_icmp .eq 771, 3)), (651, (.iconst 0, 1)), (652, (.ireturn, 1))]
set_option maxRecDepth 100000 in
theorem dt_L14 : (tb_L14.all fun q => decide (decode cL_law q.1 = .ok q.2)) = true := by decide +kernel
def tb_L15 : List (Nat × (Instr × Nat)) := [(653, (.aload_n 1, 1)), (654, (.aload_n 0, 1)), (655, (.iload_n 3, 1)), (656, (.iconst 1, 1)), (657, (.iadd, 1)), (658, (.iaload, 1)), (659, (.aload_n 0, 1)), (660, (.iload_n 3, 1)), (661, (.iconst 2, 1)), (662, (.iadd, 1)), (663, (.iaload, 1)), (664, (.invokevirtual 78, 3)), (667, (.aload_n 2, 1)), (668, (.aload_n 0, 1)), (669, (.iload_n 3, 1)), (670, (.iconst 1, 1)), (671, (.iadd, 1)), (672, (.iaload, 1)), (673, (.aload_n 0, 1)), (674, (.iload_n 3, 1)), (675, (.iconst 2, 1)), (676, (.iadd, 1)), (677, (.iaload, 1)), (678, (.invokevirtual 81, 3)), (681, (.if_icmp .eq 738, 3)), (684, (.iconst 0, 1)), (685, (.ireturn, 1))]
set_option maxRecDepth 100000 in
theorem dt_L15 : (tb_L15.all fun q => decide (decode cL_law q.1 = .ok q.2)) = true := by decide +kernel
def tb_L16 : List (Nat × (Instr × Nat)) := [(686, (.aload_n 1, 1)), (687, (.aload_n 0, 1)), (688, (.iload_n 3, 1)), (689, (.iconst 1, 1)), (690, (.iadd, 1)), (691, (.iaload, 1)), (692, (.invokevirtual 82, 3)), (695, (.aload_n 2, 1)), (696, (.aload_n 0, 1)), (697, (.iload_n 3, 1)), (698, (.iconst 1, 1)), (699, (.iadd, 1)), (700, (.iaload, 1)), (701, (.invokevirtual 85, 3)), (704, (.if_icmp .eq 715, 3)), (707, (.iconst 0, 1)), (708, (.ireturn, 1))]
set_option maxRecDepth 100000 in
theorem dt_L16 : (tb_L16.all fun q => decide (decode cL_law q.1 = .ok q.2)) = true := by decide +kernel
def tb_L17 : List (Nat × (Instr × Nat)) := [(709, (.aload_n 1, 1)), (710, (.aload_n 0, 1)), (711, (.iload_n 3, 1)), (712, (.iconst 1, 1)), (713, (.iadd, 1)), (714, (.iaload, 1)), (715, (.invokevirtual 86, 3)), (718, (.aload_n 2, 1)), (719, (.aload_n 0, 1)), (720, (.iload_n 3, 1)), (721, (.iconst 1, 1)), (722, (.iadd, 1)), (723, (.iaload, 1)), (724, (.invokevirtual 89, 3)), (727, (.if_icmp .eq 692, 3)), (730, (.iconst 0, 1)), (731, (.ireturn, 1))]
set_option maxRecDepth 100000 in
theorem dt_L17 : (tb_L17.all fun q => decide (decode cL_law q.1 = .ok q.2)) = true := by decide +kernel
def tb_L18 : List (Nat × (Instr × Nat)) := [(732, (.aload_n 1, 1)), (733, (.aload_n 0, 1)), (734, (.iload_n 3, 1)), (735, (.iconst 1, 1)), (736, (.iadd, 1)), (737, (.iaload, 1)), (738, (.invokevirtual 90, 3)), (741, (.aload_n 2, 1)), (742, (.aload_n 0, 1)), (743, (.iload_n 3, 1)), (744, (.iconst 1, 1)), (745, (.iadd, 1)), (746, (.iaload, 1)), (747, (.invokevirtual 93, 3)), (750, (.if_icmp .eq 669, 3)), (753, (.iconst 0, 1)), (754, (.ireturn, 1))]
set_option maxRecDepth 100000 in
theorem dt_L18 : (tb_L18.all fun q => decide (decode cL_law q.1 = .ok q.2)) = true := by decide +kernel
def tb_L19 : List (Nat × (Instr × Nat)) := [(755, (.aload_n 1, 1)), (756, (.aload_n 0, 1)), (757, (.iload_n 3, 1)), (758, (.iconst 1, 1)), (759, (.iadd, 1)), (760, (.iaload, 1)), (761, (.aload_n 0, 1)), (762, (.iload_n 3, 1)), (763, (.iconst 2, 1)), (764, (.iadd, 1)), (765, (.iaload, 1)), (766, (.invokevirtual 94, 3)), (769, (.aload_n 2, 1)), (770, (.aload_n 0, 1)), (771, (.iload_n 3, 1)), (772, (.iconst 1, 1)), (773, (.iadd, 1)), (774, (.iaload, 1)), (775, (.aload_n 0, 1)), (776, (.iload_n 3, 1)), (777, (.iconst 2, 1)), (778, (.iadd, 1)), (779, (.iaload, 1)), (780, (.invokevirtual 97, 3)), (783, (.if_icmp .eq 636, 3)), (786, (.iconst 0, 1)), (787, (.ireturn, 1))]
set_option maxRecDepth 100000 in
theorem dt_L19 : (tb_L19.all fun q => decide (decode cL_law q.1 = .ok q.2)) = true := by decide +kernel
def tb_L20 : List (Nat × (Instr × Nat)) := [(788, (.aload_n 1, 1)), (789, (.aload_n 0, 1)), (790, (.iload_n 3, 1)), (791, (.iconst 1, 1)), (792, (.iadd, 1)), (793, (.iaload, 1)), (794, (.invokevirtual 98, 3)), (797, (.aload_n 2, 1)), (798, (.aload_n 0, 1)), (799, (.iload_n 3, 1)), (800, (.iconst 1, 1)), (801, (.iadd, 1)), (802, (.iaload, 1)), (803, (.invokevirtual 101, 3)), (806, (.if_icmp .eq 613, 3)), (809, (.iconst 0, 1)), (810, (.ireturn, 1))]
set_option maxRecDepth 100000 in
theorem dt_L20 : (tb_L20.all fun q => decide (decode cL_law q.1 = .ok q.2)) = true := by decide +kernel
def tb_L21 : List (Nat × (Instr × Nat)) := [(811, (.aload_n 1, 1)), (812, (.invokevirtual 102, 3)), (815, (.aload_n 2, 1)), (816, (.invokevirtual 105, 3)), (819, (.if_icmp .eq 600, 3)), (822, (.iconst 0, 1)), (823, (.ireturn, 1))]
set_option maxRecDepth 100000 in
theorem dt_L21 : (tb_L21.all fun q => decide (decode cL_law q.1 = .ok q.2)) = true := by decide +kernel
def tb_L22 : List (Nat × (Instr × Nat)) := [(824, (.aload_n 1, 1)), (825, (.aload_n 0, 1)), (826, (.iload_n 3, 1)), (827, (.iconst 1, 1)), (828, (.iadd, 1)), (829, (.iaload, 1)), (830, (.invokevirtual 106, 3)), (833, (.aload_n 2, 1)), (834, (.aload_n 0, 1)), (835, (.iload_n 3, 1)), (836, (.iconst 1, 1)), (837, (.iadd, 1)), (838, (.iaload, 1)), (839, (.invokevirtual 109, 3)), (842, (.if_icmp .eq 577, 3)), (845, (.iconst 0, 1)), (846, (.ireturn, 1))]
set_option maxRecDepth 100000 in
theorem dt_L22 : (tb_L22.all fun q => decide (decode cL_law q.1 = .ok q.2)) = true := by decide +kernel
def tb_L23 : List (Nat × (Instr × Nat)) := [(847, (.aload_n 1, 1)), (848, (.aload_n 0, 1)), (849, (.iload_n 3, 1)), (850, (.iconst 1, 1)), (851, (.iadd, 1)), (852, (.iaload, 1)), (853, (.aload_n 0, 1)), (854, (.iload_n 3, 1)), (855, (.iconst 2, 1)), (856, (.iadd, 1)), (857, (.iaload, 1)), (858, (.invokevirtual 110, 3)), (861, (.aload_n 2, 1)), (862, (.aload_n 0, 1)), (863, (.iload_n 3, 1)), (864, (.iconst 1, 1)), (865, (.iadd, 1)), (866, (.iaload, 1)), (867, (.aload_n 0, 1)), (868, (.iload_n 3, 1)), (869, (.iconst 2, 1)), (870, (.iadd, 1)), (871, (.iaload, 1)), (872, (.invokevirtual 113, 3)), (875, (.if_icmp .eq 544, 3)), (878, (.iconst 0, 1)), (879, (.ireturn, 1))]
set_option maxRecDepth 100000 in
theorem dt_L23 : (tb_L23.all fun q => decide (decode cL_law q.1 = .ok q.2)) = true := by decide +kernel
def tb_L24 : List (Nat × (Instr × Nat)) := [(880, (.aload_n 1, 1)), (881, (.aload_n 0, 1)), (882, (.iload_n 3, 1)), (883, (.iconst 1, 1)), (884, (.iadd, 1)), (885, (.iaload, 1)), (886, (.aload_n 0, 1)), (887, (.iload_n 3, 1)), (888, (.iconst 2, 1)), (889, (.iadd, 1)), (890, (.iaload, 1)), (891, (.invokevirtual 114, 3)), (894, (.aload_n 2, 1)), (895, (.aload_n 0, 1)), (896, (.iload_n 3, 1)), (897, (.iconst 1, 1)), (898, (.iadd, 1)), (899, (.iaload, 1)), (900, (.aload_n 0, 1)), (901, (.iload_n 3, 1)), (902, (.iconst 2, 1)), (903, (.iadd, 1)), (904, (.iaload, 1)), (905, (.invokevirtual 117, 3)), (908, (.if_icmp .eq 511, 3)), (911, (.iconst 0, 1)), (912, (.ireturn, 1))]
set_option maxRecDepth 100000 in
theorem dt_L24 : (tb_L24.all fun q => decide (decode cL_law q.1 = .ok q.2)) = true := by decide +kernel
def tb_L25 : List (Nat × (Instr × Nat)) := [(913, (.aload_n 1, 1)), (914, (.aload_n 0, 1)), (915, (.iload_n 3, 1)), (916, (.iconst 1, 1)), (917, (.iadd, 1)), (918, (.iaload, 1)), (919, (.aload_n 0, 1)), (920, (.iload_n 3, 1)), (921, (.iconst 2, 1)), (922, (.iadd, 1)), (923, (.iaload, 1)), (924, (.invokevirtual 118, 3)), (927, (.aload_n 2, 1)), (928, (.aload_n 0, 1)), (929, (.iload_n 3, 1)), (930, (.iconst 1, 1)), (931, (.iadd, 1)), (932, (.iaload, 1)), (933, (.aload_n 0, 1)), (934, (.iload_n 3, 1)), (935, (.iconst 2, 1)), (936, (.iadd, 1)), (937, (.iaload, 1)), (938, (.invokevirtual 121, 3)), (941, (.if_icmp .eq 478, 3)), (944, (.iconst 0, 1)), (945, (.ireturn, 1))]
set_option maxRecDepth 100000 in
theorem dt_L25 : (tb_L25.all fun q => decide (decode cL_law q.1 = .ok q.2)) = true := by decide +kernel
def tb_L26 : List (Nat × (Instr × Nat)) := [(946, (.aload_n 1, 1)), (947, (.aload_n 0, 1)), (948, (.iload_n 3, 1)), (949, (.iconst 1, 1)), (950, (.iadd, 1)), (951, (.iaload, 1)), (952, (.aload_n 0, 1)), (953, (.iload_n 3, 1)), (954, (.iconst 2, 1)), (955, (.iadd, 1)), (956, (.iaload, 1)), (957, (.invokevirtual 122, 3)), (960, (.aload_n 2, 1)), (961, (.aload_n 0, 1)), (962, (.iload_n 3, 1)), (963, (.iconst 1, 1)), (964, (.iadd, 1)), (965, (.iaload, 1)), (966, (.aload_n 0, 1)), (967, (.iload_n 3, 1)), (968, (.iconst 2, 1)), (969, (.iadd, 1)), (970, (.iaload, 1)), (971, (.invokevirtual 125, 3)), (974, (.if_icmp .eq 445, 3)), (977, (.iconst 0, 1)), (978, (.ireturn, 1))]
set_option maxRecDepth 100000 in
theorem dt_L26 : (tb_L26.all fun q => decide (decode cL_law q.1 = .ok q.2)) = true := by decide +kernel
def tb_L27 : List (Nat × (Instr × Nat)) := [(979, (.aload_n 1, 1)), (980, (.invokevirtual 126, 3)), (983, (.aload_n 2, 1)), (984, (.invokevirtual 129, 3)), (987, (.if_icmp .eq 432, 3)), (990, (.iconst 0, 1)), (991, (.ireturn, 1))]
set_option maxRecDepth 100000 in
theorem dt_L27 : (tb_L27.all fun q => decide (decode cL_law q.1 = .ok q.2)) = true := by decide +kernel
def tb_L28 : List (Nat × (Instr × Nat)) := [(992, (.aload_n 1, 1)), (993, (.invokevirtual 130, 3)), (996, (.aload_n 2, 1)), (997, (.invokevirtual 133, 3)), (1000, (.if_icmp .eq 419, 3)), (1003, (.iconst 0, 1)), (1004, (.ireturn, 1))]
set_option maxRecDepth 100000 in
theorem dt_L28 : (tb_L28.all fun q => decide (decode cL_law q.1 = .ok q.2)) = true := by decide +kernel
def tb_L29 : List (Nat × (Instr × Nat)) := [(1005, (.aload_n 1, 1)), (1006, (.invokevirtual 134, 3)), (1009, (.aload_n 2, 1)), (1010, (.invokevirtual 137, 3)), (1013, (.if_icmp .eq 406, 3)), (1016, (.iconst 0, 1)), (1017, (.ireturn, 1))]
set_option maxRecDepth 100000 in
theorem dt_L29 : (tb_L29.all fun q => decide (decode cL_law q.1 = .ok q.2)) = true := by decide +kernel
def tb_L30 : List (Nat × (Instr × Nat)) := [(1018, (.aload_n 1, 1)), (1019, (.aload_n 0, 1)), (1020, (.iload_n 3, 1)), (1021, (.iconst 1, 1)), (1022, (.iadd, 1)), (1023, (.iaload, 1)), (1024, (.aload_n 0, 1)), (1025, (.iload_n 3, 1)), (1026, (.iconst 2, 1)), (1027, (.iadd, 1)), (1028, (.iaload, 1)), (1029, (.invokevirtual 138, 3)), (1032, (.aload_n 2, 1)), (1033, (.aload_n 0, 1)), (1034, (.iload_n 3, 1)), (1035, (.iconst 1, 1)), (1036, (.iadd, 1)), (1037, (.iaload, 1)), (1038, (.aload_n 0, 1)), (1039, (.iload_n 3, 1)), (1040, (.iconst 2, 1)), (1041, (.iadd, 1)), (1042, (.iaload, 1)), (1043, (.invokevirtual 141, 3)), (1046, (.if_icmp .eq 373, 3)), (1049, (.iconst 0, 1)), (1050, (.ireturn, 1))]
set_option maxRecDepth 100000 in
theorem dt_L30 : (tb_L30.all fun q => decide (decode cL_law q.1 = .ok q.2)) = true := by decide +kernel
def tb_L31 : List (Nat × (Instr × Nat)) := [(1051, (.aload_n 1, 1)), (1052, (.aload_n 0, 1)), (1053, (.iload_n 3, 1)), (1054, (.iconst 1, 1)), (1055, (.iadd, 1)), (1056, (.iaload, 1)), (1057, (.aload_n 0, 1)), (1058, (.iload_n 3, 1)), (1059, (.iconst 2, 1)), (1060, (.iadd, 1)), (1061, (.iaload, 1)), (1062, (.aload_n 0, 1)), (1063, (.iload_n 3, 1)), (1064, (.iconst 3, 1)), (1065, (.iadd, 1)), (1066, (.iaload, 1)), (1067, (.invokevirtual 142, 3)), (1070, (.aload_n 2, 1)), (1071, (.aload_n 0, 1)), (1072, (.iload_n 3, 1)), (1073, (.iconst 1, 1)), (1074, (.iadd, 1)), (1075, (.iaload, 1)), (1076, (.aload_n 0, 1)), (1077, (.iload_n 3, 1)), (1078, (.iconst 2, 1)), (1079, (.iadd, 1)), (1080, (.iaload, 1)), (1081, (.aload_n 0, 1)), (1082, (.iload_n 3, 1)), (1083, (.iconst 3, 1)), (1084, (.iadd, 1)), (1085, (.iaload, 1)), (1086, (.invokevirtual 145, 3)), (1089, (.if_icmp .eq 330, 3)), (1092, (.iconst 0, 1)), (1093, (.ireturn, 1))]
set_option maxRecDepth 100000 in
theorem dt_L31 : (tb_L31.all fun q => decide (decode cL_law q.1 = .ok q.2)) = true := by decide +kernel
def tb_L32 : List (Nat × (Instr × Nat)) := [(1094, (.aload_n 1, 1)), (1095, (.aload_n 0, 1)), (1096, (.iload_n 3, 1)), (1097, (.iconst 1, 1)), (1098, (.iadd, 1)), (1099, (.iaload, 1)), (1100, (.invokevirtual 146, 3)), (1103, (.aload_n 2, 1)), (1104, (.aload_n 0, 1)), (1105, (.iload_n 3, 1)), (1106, (.iconst 1, 1)), (1107, (.iadd, 1)), (1108, (.iaload, 1)), (1109, (.invokevirtual 149, 3)), (1112, (.if_icmp .eq 307, 3)), (1115, (.iconst 0, 1)), (1116, (.ireturn, 1))]
set_option maxRecDepth 100000 in
theorem dt_L32 : (tb_L32.all fun q => decide (decode cL_law q.1 = .ok q.2)) = true := by decide +kernel
def tb_L33 : List (Nat × (Instr × Nat)) := [(1117, (.aload_n 1, 1)), (1118, (.aload_n 0, 1)), (1119, (.iload_n 3, 1)), (1120, (.iconst 1, 1)), (1121, (.iadd, 1)), (1122, (.iaload, 1)), (1123, (.aload_n 0, 1)), (1124, (.iload_n 3, 1)), (1125, (.iconst 2, 1)), (1126, (.iadd, 1)), (1127, (.iaload, 1)), (1128, (.invokevirtual 150, 3)), (1131, (.aload_n 2, 1)), (1132, (.aload_n 0, 1)), (1133, (.iload_n 3, 1)), (1134, (.iconst 1, 1)), (1135, (.iadd, 1)), (1136, (.iaload, 1)), (1137, (.aload_n 0, 1)), (1138, (.iload_n 3, 1)), (1139, (.iconst 2, 1)), (1140, (.iadd, 1)), (1141, (.iaload, 1)), (1142, (.invokevirtual 153, 3)), (1145, (.if_icmp .eq 274, 3)), (1148, (.iconst 0, 1)), (1149, (.ireturn, 1))]
set_option maxRecDepth 100000 in
theorem dt_L33 : (tb_L33.all fun q => decide (decode cL_law q.1 = .ok q.2)) = true := by decide +kernel
def tb_L34 : List (Nat × (Instr × Nat)) := [(1150, (.aload_n 1, 1)), (1151, (.aload_n 0, 1)), (1152, (.iload_n 3, 1)), (1153, (.iconst 1, 1)), (1154, (.iadd, 1)), (1155, (.iaload, 1)), (1156, (.aload_n 0, 1)), (1157, (.iload_n 3, 1)), (1158, (.iconst 2, 1)), (1159, (.iadd, 1)), (1160, (.iaload, 1)), (1161, (.aload_n 0, 1)), (1162, (.iload_n 3, 1)), (1163, (.iconst 3, 1)), (1164, (.iadd, 1)), (1165, (.iaload, 1)), (1166, (.invokevirtual 154, 3)), (1169, (.aload_n 2, 1)), (1170, (.aload_n 0, 1)), (1171, (.iload_n 3, 1)), (1172, (.iconst 1, 1)), (1173, (.iadd, 1)), (1174, (.iaload, 1)), (1175, (.aload_n 0, 1)), (1176, (.iload_n 3, 1)), (1177, (.iconst 2, 1)), (1178, (.iadd, 1)), (1179, (.iaload, 1)), (1180, (.aload_n 0, 1)), (1181, (.iload_n 3, 1)), (1182, (.iconst 3, 1)), (1183, (.iadd, 1)), (1184, (.iaload, 1)), (1185, (.invokevirtual 157, 3)), (1188, (.if_icmp .eq 231, 3)), (1191, (.iconst 0, 1)), (1192, (.ireturn, 1))]
set_option maxRecDepth 100000 in
theorem dt_L34 : (tb_L34.all fun q => decide (decode cL_law q.1 = .ok q.2)) = true := by decide +kernel
def tb_L35 : List (Nat × (Instr × Nat)) := [(1193, (.aload_n 1, 1)), (1194, (.aload_n 0, 1)), (1195, (.iload_n 3, 1)), (1196, (.iconst 1, 1)), (1197, (.iadd, 1)), (1198, (.iaload, 1)), (1199, (.aload_n 0, 1)), (1200, (.iload_n 3, 1)), (1201, (.iconst 2, 1)), (1202, (.iadd, 1)), (1203, (.iaload, 1)), (1204, (.aload_n 0, 1)), (1205, (.iload_n 3, 1)), (1206, (.iconst 3, 1)), (1207, (.iadd, 1)), (1208, (.iaload, 1)), (1209, (.i2l, 1)), (1210, (.bipush 32, 2)), (1212, (.lshl, 1)), (1213, (.aload_n 0, 1)), (1214, (.iload_n 3, 1)), (1215, (.iconst 4, 1)), (1216, (.iadd, 1)), (1217, (.iaload, 1)), (1218, (.i2l, 1)), (1219, (.ldc2_w 158, 3)), (1222, (.land, 1)), (1223, (.lor, 1)), (1224, (.invokevirtual 160, 3)), (1227, (.aload_n 2, 1)), (1228, (.aload_n 0, 1)), (1229, (.iload_n 3, 1)), (1230, (.iconst 1, 1)), (1231, (.iadd, 1)), (1232, (.iaload, 1)), (1233, (.aload_n 0, 1)), (1234, (.iload_n 3, 1)), (1235, (.iconst 2, 1)), (1236, (.iadd, 1)), (1237, (.iaload, 1)), (1238, (.aload_n 0, 1)), (1239, (.iload_n 3, 1)), (1240, (.iconst 3, 1)), (1241, (.iadd, 1)), (1242, (.iaload, 1)), (1243, (.i2l, 1)), (1244, (.bipush 32, 2)), (1246, (.lshl, 1)), (1247, (.aload_n 0, 1)), (1248, (.iload_n 3, 1)), (1249, (.iconst 4, 1)), (1250, (.iadd, 1)), (1251, (.iaload, 1)), (1252, (.i2l, 1)), (1253, (.ldc2_w 158, 3)), (1256, (.land, 1)), (1257, (.lor, 1)), (1258, (.invokevirtual 164, 3)), (1261, (.if_icmp .eq 158, 3)), (1264, (.iconst 0, 1)), (1265, (.ireturn, 1))]
set_option maxRecDepth 100000 in
theorem dt_L35 : (tb_L35.all fun q => decide (decode cL_law q.1 = .ok q.2)) = true := by decide +kernel
def tb_L36 : List (Nat × (Instr × Nat)) := [(1266, (.aload_n 1, 1)), (1267, (.aload_n 0, 1)), (1268, (.iload_n 3, 1)), (1269, (.iconst 1, 1)), (1270, (.iadd, 1)), (1271, (.iaload, 1)), (1272, (.aload_n 0, 1)), (1273, (.iload_n 3, 1)), (1274, (.iconst 2, 1)), (1275, (.iadd, 1)), (1276, (.iaload, 1)), (1277, (.invokevirtual 165, 3)), (1280, (.aload_n 2, 1)), (1281, (.aload_n 0, 1)), (1282, (.iload_n 3, 1)), (1283, (.iconst 1, 1)), (1284, (.iadd, 1)), (1285, (.iaload, 1)), (1286, (.aload_n 0, 1)), (1287, (.iload_n 3, 1)), (1288, (.iconst 2, 1)), (1289, (.iadd, 1)), (1290, (.iaload, 1)), (1291, (.invokevirtual 169, 3)), (1294, (.lcmp, 1)), (1295, (.ifCond .eq 124, 3)), (1298, (.iconst 0, 1)), (1299, (.ireturn, 1))]
set_option maxRecDepth 100000 in
theorem dt_L36 : (tb_L36.all fun q => decide (decode cL_law q.1 = .ok q.2)) = true := by decide +kernel
def tb_L37 : List (Nat × (Instr × Nat)) := [(1300, (.aload_n 1, 1)), (1301, (.aload_n 0, 1)), (1302, (.iload_n 3, 1)), (1303, (.iconst 1, 1)), (1304, (.iadd, 1)), (1305, (.iaload, 1)), (1306, (.aload_n 0, 1)), (1307, (.iload_n 3, 1)), (1308, (.iconst 2, 1)), (1309, (.iadd, 1)), (1310, (.iaload, 1)), (1311, (.aload_n 0, 1)), (1312, (.iload_n 3, 1)), (1313, (.iconst 3, 1)), (1314, (.iadd, 1)), (1315, (.iaload, 1)), (1316, (.aload_n 0, 1)), (1317, (.iload_n 3, 1)), (1318, (.iconst 4, 1)), (1319, (.iadd, 1)), (1320, (.iaload, 1)), (1321, (.aload_n 0, 1)), (1322, (.iload_n 3, 1)), (1323, (.iconst 5, 1)), (1324, (.iadd, 1)), (1325, (.iaload, 1)), (1326, (.invokevirtual 170, 3)), (1329, (.aload_n 2, 1)), (1330, (.aload_n 0, 1)), (1331, (.iload_n 3, 1)), (1332, (.iconst 1, 1)), (1333, (.iadd, 1)), (1334, (.iaload, 1)), (1335, (.aload_n 0, 1)), (1336, (.iload_n 3, 1)), (1337, (.iconst 2, 1)), (1338, (.iadd, 1)), (1339, (.iaload, 1)), (1340, (.aload_n 0, 1)), (1341, (.iload_n 3, 1)), (1342, (.iconst 3, 1)), (1343, (.iadd, 1)), (1344, (.iaload, 1)), (1345, (.aload_n 0, 1)), (1346, (.iload_n 3, 1)), (1347, (.iconst 4, 1)), (1348, (.iadd, 1)), (1349, (.iaload, 1)), (1350, (.aload_n 0, 1)), (1351, (.iload_n 3, 1)), (1352, (.iconst 5, 1)), (1353, (.iadd, 1)), (1354, (.iaload, 1)), (1355, (.invokevirtual 174, 3)), (1358, (.if_icmp .eq 61, 3)), (1361, (.iconst 0, 1)), (1362, (.ireturn, 1))]
set_option maxRecDepth 100000 in
theorem dt_L37 : (tb_L37.all fun q => decide (decode cL_law q.1 = .ok q.2)) = true := by decide +kernel
def tb_L38 : List (Nat × (Instr × Nat)) := [(1363, (.aload_n 1, 1)), (1364, (.aload_n 0, 1)), (1365, (.iload_n 3, 1)), (1366, (.iconst 1, 1)), (1367, (.iadd, 1)), (1368, (.iaload, 1)), (1369, (.aload_n 0, 1)), (1370, (.iload_n 3, 1)), (1371, (.iconst 2, 1)), (1372, (.iadd, 1)), (1373, (.iaload, 1)), (1374, (.invokevirtual 175, 3)), (1377, (.aload_n 2, 1)), (1378, (.aload_n 0, 1)), (1379, (.iload_n 3, 1)), (1380, (.iconst 1, 1)), (1381, (.iadd, 1)), (1382, (.iaload, 1)), (1383, (.aload_n 0, 1)), (1384, (.iload_n 3, 1)), (1385, (.iconst 2, 1)), (1386, (.iadd, 1)), (1387, (.iaload, 1)), (1388, (.invokevirtual 178, 3)), (1391, (.if_icmp .eq 28, 3)), (1394, (.iconst 0, 1)), (1395, (.ireturn, 1))]
set_option maxRecDepth 100000 in
theorem dt_L38 : (tb_L38.all fun q => decide (decode cL_law q.1 = .ok q.2)) = true := by decide +kernel
def tb_L39 : List (Nat × (Instr × Nat)) := [(1396, (.aload_n 1, 1)), (1397, (.aload_n 0, 1)), (1398, (.iload_n 3, 1)), (1399, (.iconst 1, 1)), (1400, (.iadd, 1)), (1401, (.iaload, 1)), (1402, (.invokevirtual 179, 3)), (1405, (.aload_n 2, 1)), (1406, (.aload_n 0, 1)), (1407, (.iload_n 3, 1)), (1408, (.iconst 1, 1)), (1409, (.iadd, 1)), (1410, (.iaload, 1)), (1411, (.invokevirtual 182, 3)), (1414, (.if_icmp .eq 5, 3)), (1417, (.iconst 0, 1)), (1418, (.ireturn, 1))]
set_option maxRecDepth 100000 in
theorem dt_L39 : (tb_L39.all fun q => decide (decode cL_law q.1 = .ok q.2)) = true := by decide +kernel
theorem lc_0 (hR : RS l G cy ad tt RL cL_law 4 1000 Go) (hS : SLD Go b Lz X) {i : Int} (hi : 0 ≤ i) (hl : i + 6 ≤ Lz) (hz : Lz ≤ 384) (hX : ∀ j, inR (X j)) {n : Nat} {m : Mem} (hI : Inv n m) (hn : n < 100000000) (kk : ∀ m2, Inv (n + 1) m2 → Go 1419 (LK b ad i) [] m2) : Go 208 (LK b ad i) [] m := by
  obtain ⟨r, m1, m2, e1, e2, hI2⟩ := st_feed ((X (i + 1))) ((X (i + 2))) hI
  have e1 : F10_feed m ((X (i + 1))) ((X (i + 2))) = some (r, m1) := e1
  have e2 : F11_feed m1 ((X (i + 1))) ((X (i + 2))) = some (r, m2) := e2
  refine r_aload_n (pc := 208) hR (dc dt_L0 0 rfl) rfl ?_
  refine l_arg (pc := 209) hR hS (dc dt_L0 1 rfl) (dc dt_L0 2 rfl) (dc dt_L0 3 rfl) (dc dt_L0 4 rfl) (dc dt_L0 5 rfl) hi (by decide) hl hz ?_
  refine l_arg (pc := 214) hR hS (dc dt_L0 6 rfl) (dc dt_L0 7 rfl) (dc dt_L0 8 rfl) (dc dt_L0 9 rfl) (dc dt_L0 10 rfl) hi (by decide) hl hz ?_
  refine r_callV (pc := 219) (k := 0) (rest := []) hR (dc dt_L0 11 rfl) cl_L_13 tc_0 rfl (ok_F10_feed (hX _) (hX _) e1) (by decide) rfl (Nat.le_of_ble_eq_true rfl) rfl (fun q219 => ?_)
  show Go 222 (LK b ad i) [iv (r)] m1
  refine r_aload_n (pc := 222) hR (dc dt_L0 12 rfl) rfl ?_
  refine l_arg (pc := 223) hR hS (dc dt_L0 13 rfl) (dc dt_L0 14 rfl) (dc dt_L0 15 rfl) (dc dt_L0 16 rfl) (dc dt_L0 17 rfl) hi (by decide) hl hz ?_
  refine l_arg (pc := 228) hR hS (dc dt_L0 18 rfl) (dc dt_L0 19 rfl) (dc dt_L0 20 rfl) (dc dt_L0 21 rfl) (dc dt_L0 22 rfl) hi (by decide) hl hz ?_
  refine r_callV (pc := 233) (k := 83) (rest := [iv (r)]) hR (dc dt_L0 23 rfl) cl_L_17 tc_83 rfl (ok_F11_feed (hX _) (hX _) e2) (by decide) rfl (Nat.le_of_ble_eq_true rfl) rfl (fun q233 => ?_)
  show Go 236 (LK b ad i) [iv (r), iv (r)] m2
  exact r_icmp_eq (pc := 236) (tgt := 1419) hR (dc dt_L0 24 rfl) (by decide) q219 q219 (fun _ => kk m2 hI2) (fun h => absurd rfl h)
theorem lc_1 (hR : RS l G cy ad tt RL cL_law 4 1000 Go) (hS : SLD Go b Lz X) {i : Int} (hi : 0 ≤ i) (hl : i + 6 ≤ Lz) (hz : Lz ≤ 384) (hX : ∀ j, inR (X j)) {n : Nat} {m : Mem} (hI : Inv n m) (hn : n < 100000000) (kk : ∀ m2, Inv (n + 1) m2 → Go 1419 (LK b ad i) [] m2) : Go 241 (LK b ad i) [] m := by
  obtain ⟨r, m1, m2, e1, e2, hI2⟩ := st_charter hI
  have e1 : F10_charter m = some (r, m1) := e1
  have e2 : F11_charter m1 = some (r, m2) := e2
  refine r_aload_n (pc := 241) hR (dc dt_L1 0 rfl) rfl ?_
  refine r_callV (pc := 242) (k := 0) (rest := []) hR (dc dt_L1 1 rfl) cl_L_18 tc_0 rfl (ok_F10_charter  e1) (by decide) rfl (Nat.le_of_ble_eq_true rfl) rfl (fun q242 => ?_)
  show Go 245 (LK b ad i) [iv (r)] m1
  refine r_aload_n (pc := 245) hR (dc dt_L1 2 rfl) rfl ?_
  refine r_callV (pc := 246) (k := 83) (rest := [iv (r)]) hR (dc dt_L1 3 rfl) cl_L_22 tc_83 rfl (ok_F11_charter  e2) (by decide) rfl (Nat.le_of_ble_eq_true rfl) rfl (fun q246 => ?_)
  show Go 249 (LK b ad i) [iv (r), iv (r)] m2
  exact r_icmp_eq (pc := 249) (tgt := 1419) hR (dc dt_L1 4 rfl) (by decide) q242 q242 (fun _ => kk m2 hI2) (fun h => absurd rfl h)
theorem lc_2 (hR : RS l G cy ad tt RL cL_law 4 1000 Go) (hS : SLD Go b Lz X) {i : Int} (hi : 0 ≤ i) (hl : i + 6 ≤ Lz) (hz : Lz ≤ 384) (hX : ∀ j, inR (X j)) {n : Nat} {m : Mem} (hI : Inv n m) (hn : n < 100000000) (kk : ∀ m2, Inv (n + 1) m2 → Go 1419 (LK b ad i) [] m2) : Go 254 (LK b ad i) [] m := by
  obtain ⟨r, m1, m2, e1, e2, hI2⟩ := st_lost hI
  have e1 : F10_lost m = some (r, m1) := e1
  have e2 : F11_lost m1 = some (r, m2) := e2
  refine r_aload_n (pc := 254) hR (dc dt_L2 0 rfl) rfl ?_
  refine r_callV (pc := 255) (k := 0) (rest := []) hR (dc dt_L2 1 rfl) cl_L_23 tc_0 rfl (ok_F10_lost  e1) (by decide) rfl (Nat.le_of_ble_eq_true rfl) rfl (fun q255 => ?_)
  show Go 258 (LK b ad i) [iv (r)] m1
  refine r_aload_n (pc := 258) hR (dc dt_L2 2 rfl) rfl ?_
  refine r_callV (pc := 259) (k := 83) (rest := [iv (r)]) hR (dc dt_L2 3 rfl) cl_L_26 tc_83 rfl (ok_F11_lost  e2) (by decide) rfl (Nat.le_of_ble_eq_true rfl) rfl (fun q259 => ?_)
  show Go 262 (LK b ad i) [iv (r), iv (r)] m2
  exact r_icmp_eq (pc := 262) (tgt := 1419) hR (dc dt_L2 4 rfl) (by decide) q255 q255 (fun _ => kk m2 hI2) (fun h => absurd rfl h)
theorem lc_3 (hR : RS l G cy ad tt RL cL_law 4 1000 Go) (hS : SLD Go b Lz X) {i : Int} (hi : 0 ≤ i) (hl : i + 6 ≤ Lz) (hz : Lz ≤ 384) (hX : ∀ j, inR (X j)) {n : Nat} {m : Mem} (hI : Inv n m) (hn : n < 100000000) (kk : ∀ m2, Inv (n + 1) m2 → Go 1419 (LK b ad i) [] m2) : Go 267 (LK b ad i) [] m := by
  obtain ⟨r, e1, e2⟩ := st_ofCharter ((X (i + 1))) ((X (i + 2))) hI (hX _) (hX _)
  have hI2 : Inv (n + 1) m := Inv_mono (by omega) hI
  refine r_aload_n (pc := 267) hR (dc dt_L3 0 rfl) rfl ?_
  refine l_arg (pc := 268) hR hS (dc dt_L3 1 rfl) (dc dt_L3 2 rfl) (dc dt_L3 3 rfl) (dc dt_L3 4 rfl) (dc dt_L3 5 rfl) hi (by decide) hl hz ?_
  refine l_arg (pc := 273) hR hS (dc dt_L3 6 rfl) (dc dt_L3 7 rfl) (dc dt_L3 8 rfl) (dc dt_L3 9 rfl) (dc dt_L3 10 rfl) hi (by decide) hl hz ?_
  refine r_callV (pc := 278) (k := 0) (rest := []) hR (dc dt_L3 11 rfl) cl_L_27 tc_0 rfl (ok_F10_ofCharter (hX _) (hX _) e1) (by decide) rfl (Nat.le_of_ble_eq_true rfl) rfl (fun q278 => ?_)
  show Go 281 (LK b ad i) [iv (r)] m
  refine r_aload_n (pc := 281) hR (dc dt_L3 12 rfl) rfl ?_
  refine l_arg (pc := 282) hR hS (dc dt_L3 13 rfl) (dc dt_L3 14 rfl) (dc dt_L3 15 rfl) (dc dt_L3 16 rfl) (dc dt_L3 17 rfl) hi (by decide) hl hz ?_
  refine l_arg (pc := 287) hR hS (dc dt_L3 18 rfl) (dc dt_L3 19 rfl) (dc dt_L3 20 rfl) (dc dt_L3 21 rfl) (dc dt_L3 22 rfl) hi (by decide) hl hz ?_
  refine r_callV (pc := 292) (k := 83) (rest := [iv (r)]) hR (dc dt_L3 23 rfl) cl_L_30 tc_83 rfl (ok_F11_ofCharter (hX _) (hX _) e2) (by decide) rfl (Nat.le_of_ble_eq_true rfl) rfl (fun q292 => ?_)
  show Go 295 (LK b ad i) [iv (r), iv (r)] m
  exact r_icmp_eq (pc := 295) (tgt := 1419) hR (dc dt_L3 24 rfl) (by decide) q278 q278 (fun _ => kk m hI2) (fun h => absurd rfl h)
theorem lc_4 (hR : RS l G cy ad tt RL cL_law 4 1000 Go) (hS : SLD Go b Lz X) {i : Int} (hi : 0 ≤ i) (hl : i + 6 ≤ Lz) (hz : Lz ≤ 384) (hX : ∀ j, inR (X j)) {n : Nat} {m : Mem} (hI : Inv n m) (hn : n < 100000000) (kk : ∀ m2, Inv (n + 1) m2 → Go 1419 (LK b ad i) [] m2) : Go 300 (LK b ad i) [] m := by
  obtain ⟨r, m1, m2, e1, e2, hI2⟩ := st_form ((X (i + 1))) ((X (i + 2))) ((X (i + 3))) hI hn (hX _)
  have e1 : F10_form m ((X (i + 1))) ((X (i + 2))) ((X (i + 3))) = some (r, m1) := e1
  have e2 : F11_form m1 ((X (i + 1))) ((X (i + 2))) ((X (i + 3))) = some (r, m2) := e2
  refine r_aload_n (pc := 300) hR (dc dt_L4 0 rfl) rfl ?_
  refine l_arg (pc := 301) hR hS (dc dt_L4 1 rfl) (dc dt_L4 2 rfl) (dc dt_L4 3 rfl) (dc dt_L4 4 rfl) (dc dt_L4 5 rfl) hi (by decide) hl hz ?_
  refine l_arg (pc := 306) hR hS (dc dt_L4 6 rfl) (dc dt_L4 7 rfl) (dc dt_L4 8 rfl) (dc dt_L4 9 rfl) (dc dt_L4 10 rfl) hi (by decide) hl hz ?_
  refine l_arg (pc := 311) hR hS (dc dt_L4 11 rfl) (dc dt_L4 12 rfl) (dc dt_L4 13 rfl) (dc dt_L4 14 rfl) (dc dt_L4 15 rfl) hi (by decide) hl hz ?_
  refine r_callV (pc := 316) (k := 0) (rest := []) hR (dc dt_L4 16 rfl) cl_L_31 tc_0 rfl (ok_F10_form (hX _) (hX _) (hX _) e1) (by decide) rfl (Nat.le_of_ble_eq_true rfl) rfl (fun q316 => ?_)
  show Go 319 (LK b ad i) [iv (r)] m1
  refine r_aload_n (pc := 319) hR (dc dt_L4 17 rfl) rfl ?_
  refine l_arg (pc := 320) hR hS (dc dt_L4 18 rfl) (dc dt_L4 19 rfl) (dc dt_L4 20 rfl) (dc dt_L4 21 rfl) (dc dt_L4 22 rfl) hi (by decide) hl hz ?_
  refine l_arg (pc := 325) hR hS (dc dt_L4 23 rfl) (dc dt_L4 24 rfl) (dc dt_L4 25 rfl) (dc dt_L4 26 rfl) (dc dt_L4 27 rfl) hi (by decide) hl hz ?_
  refine l_arg (pc := 330) hR hS (dc dt_L4 28 rfl) (dc dt_L4 29 rfl) (dc dt_L4 30 rfl) (dc dt_L4 31 rfl) (dc dt_L4 32 rfl) hi (by decide) hl hz ?_
  refine r_callV (pc := 335) (k := 83) (rest := [iv (r)]) hR (dc dt_L4 33 rfl) cl_L_35 tc_83 rfl (ok_F11_form (hX _) (hX _) (hX _) e2) (by decide) rfl (Nat.le_of_ble_eq_true rfl) rfl (fun q335 => ?_)
  show Go 338 (LK b ad i) [iv (r), iv (r)] m2
  exact r_icmp_eq (pc := 338) (tgt := 1419) hR (dc dt_L4 34 rfl) (by decide) q316 q316 (fun _ => kk m2 hI2) (fun h => absurd rfl h)
theorem lc_5 (hR : RS l G cy ad tt RL cL_law 4 1000 Go) (hS : SLD Go b Lz X) {i : Int} (hi : 0 ≤ i) (hl : i + 6 ≤ Lz) (hz : Lz ≤ 384) (hX : ∀ j, inR (X j)) {n : Nat} {m : Mem} (hI : Inv n m) (hn : n < 100000000) (kk : ∀ m2, Inv (n + 1) m2 → Go 1419 (LK b ad i) [] m2) : Go 343 (LK b ad i) [] m := by
  obtain ⟨r, m1, m2, e1, e2, hI2⟩ := st_forms ((X (i + 1))) ((X (i + 2))) ((X (i + 3))) ((X (i + 4))) hI hn (hX _) (hX _)
  have e1 : F10_forms m ((X (i + 1))) ((X (i + 2))) ((X (i + 3))) ((X (i + 4))) = some (r, m1) := e1
  have e2 : F11_forms m1 ((X (i + 1))) ((X (i + 2))) ((X (i + 3))) ((X (i + 4))) = some (r, m2) := e2
  refine r_aload_n (pc := 343) hR (dc dt_L5 0 rfl) rfl ?_
  refine l_arg (pc := 344) hR hS (dc dt_L5 1 rfl) (dc dt_L5 2 rfl) (dc dt_L5 3 rfl) (dc dt_L5 4 rfl) (dc dt_L5 5 rfl) hi (by decide) hl hz ?_
  refine l_arg (pc := 349) hR hS (dc dt_L5 6 rfl) (dc dt_L5 7 rfl) (dc dt_L5 8 rfl) (dc dt_L5 9 rfl) (dc dt_L5 10 rfl) hi (by decide) hl hz ?_
  refine l_arg (pc := 354) hR hS (dc dt_L5 11 rfl) (dc dt_L5 12 rfl) (dc dt_L5 13 rfl) (dc dt_L5 14 rfl) (dc dt_L5 15 rfl) hi (by decide) hl hz ?_
  refine l_arg (pc := 359) hR hS (dc dt_L5 16 rfl) (dc dt_L5 17 rfl) (dc dt_L5 18 rfl) (dc dt_L5 19 rfl) (dc dt_L5 20 rfl) hi (by decide) hl hz ?_
  refine r_callV (pc := 364) (k := 0) (rest := []) hR (dc dt_L5 21 rfl) cl_L_36 tc_0 rfl (ok_F10_forms (hX _) (hX _) (hX _) (hX _) e1) (by decide) rfl (Nat.le_of_ble_eq_true rfl) rfl (fun q364 => ?_)
  show Go 367 (LK b ad i) [iv (r)] m1
  refine r_aload_n (pc := 367) hR (dc dt_L5 22 rfl) rfl ?_
  refine l_arg (pc := 368) hR hS (dc dt_L5 23 rfl) (dc dt_L5 24 rfl) (dc dt_L5 25 rfl) (dc dt_L5 26 rfl) (dc dt_L5 27 rfl) hi (by decide) hl hz ?_
  refine l_arg (pc := 373) hR hS (dc dt_L5 28 rfl) (dc dt_L5 29 rfl) (dc dt_L5 30 rfl) (dc dt_L5 31 rfl) (dc dt_L5 32 rfl) hi (by decide) hl hz ?_
  refine l_arg (pc := 378) hR hS (dc dt_L5 33 rfl) (dc dt_L5 34 rfl) (dc dt_L5 35 rfl) (dc dt_L5 36 rfl) (dc dt_L5 37 rfl) hi (by decide) hl hz ?_
  refine l_arg (pc := 383) hR hS (dc dt_L5 38 rfl) (dc dt_L5 39 rfl) (dc dt_L5 40 rfl) (dc dt_L5 41 rfl) (dc dt_L5 42 rfl) hi (by decide) hl hz ?_
  refine r_callV (pc := 388) (k := 83) (rest := [iv (r)]) hR (dc dt_L5 43 rfl) cl_L_40 tc_83 rfl (ok_F11_forms (hX _) (hX _) (hX _) (hX _) e2) (by decide) rfl (Nat.le_of_ble_eq_true rfl) rfl (fun q388 => ?_)
  show Go 391 (LK b ad i) [iv (r), iv (r)] m2
  exact r_icmp_eq (pc := 391) (tgt := 1419) hR (dc dt_L5 44 rfl) (by decide) q364 q364 (fun _ => kk m2 hI2) (fun h => absurd rfl h)
theorem lc_6 (hR : RS l G cy ad tt RL cL_law 4 1000 Go) (hS : SLD Go b Lz X) {i : Int} (hi : 0 ≤ i) (hl : i + 6 ≤ Lz) (hz : Lz ≤ 384) (hX : ∀ j, inR (X j)) {n : Nat} {m : Mem} (hI : Inv n m) (hn : n < 100000000) (kk : ∀ m2, Inv (n + 1) m2 → Go 1419 (LK b ad i) [] m2) : Go 396 (LK b ad i) [] m := by
  obtain ⟨r, m1, m2, e1, e2, hI2⟩ := st_price ((X (i + 1))) ((X (i + 2))) hI hn
  have e1 : F10_price m ((X (i + 1))) ((X (i + 2))) = some (r, m1) := e1
  have e2 : F11_price m1 ((X (i + 1))) ((X (i + 2))) = some (r, m2) := e2
  refine r_aload_n (pc := 396) hR (dc dt_L6 0 rfl) rfl ?_
  refine l_arg (pc := 397) hR hS (dc dt_L6 1 rfl) (dc dt_L6 2 rfl) (dc dt_L6 3 rfl) (dc dt_L6 4 rfl) (dc dt_L6 5 rfl) hi (by decide) hl hz ?_
  refine l_arg (pc := 402) hR hS (dc dt_L6 6 rfl) (dc dt_L6 7 rfl) (dc dt_L6 8 rfl) (dc dt_L6 9 rfl) (dc dt_L6 10 rfl) hi (by decide) hl hz ?_
  refine r_callV (pc := 407) (k := 0) (rest := []) hR (dc dt_L6 11 rfl) cl_L_41 tc_0 rfl (ok_F10_price (hX _) (hX _) e1) (by decide) rfl (Nat.le_of_ble_eq_true rfl) rfl (fun q407 => ?_)
  show Go 410 (LK b ad i) [iv (r)] m1
  refine r_aload_n (pc := 410) hR (dc dt_L6 12 rfl) rfl ?_
  refine l_arg (pc := 411) hR hS (dc dt_L6 13 rfl) (dc dt_L6 14 rfl) (dc dt_L6 15 rfl) (dc dt_L6 16 rfl) (dc dt_L6 17 rfl) hi (by decide) hl hz ?_
  refine l_arg (pc := 416) hR hS (dc dt_L6 18 rfl) (dc dt_L6 19 rfl) (dc dt_L6 20 rfl) (dc dt_L6 21 rfl) (dc dt_L6 22 rfl) hi (by decide) hl hz ?_
  refine r_callV (pc := 421) (k := 83) (rest := [iv (r)]) hR (dc dt_L6 23 rfl) cl_L_44 tc_83 rfl (ok_F11_price (hX _) (hX _) e2) (by decide) rfl (Nat.le_of_ble_eq_true rfl) rfl (fun q421 => ?_)
  show Go 424 (LK b ad i) [iv (r), iv (r)] m2
  exact r_icmp_eq (pc := 424) (tgt := 1419) hR (dc dt_L6 24 rfl) (by decide) q407 q407 (fun _ => kk m2 hI2) (fun h => absurd rfl h)
theorem lc_7 (hR : RS l G cy ad tt RL cL_law 4 1000 Go) (hS : SLD Go b Lz X) {i : Int} (hi : 0 ≤ i) (hl : i + 6 ≤ Lz) (hz : Lz ≤ 384) (hX : ∀ j, inR (X j)) {n : Nat} {m : Mem} (hI : Inv n m) (hn : n < 100000000) (kk : ∀ m2, Inv (n + 1) m2 → Go 1419 (LK b ad i) [] m2) : Go 429 (LK b ad i) [] m := by
  obtain ⟨r, e1, e2⟩ := st_same ((X (i + 1))) ((X (i + 2))) ((X (i + 3))) hI
  have hI2 : Inv (n + 1) m := Inv_mono (by omega) hI
  refine r_aload_n (pc := 429) hR (dc dt_L7 0 rfl) rfl ?_
  refine l_arg (pc := 430) hR hS (dc dt_L7 1 rfl) (dc dt_L7 2 rfl) (dc dt_L7 3 rfl) (dc dt_L7 4 rfl) (dc dt_L7 5 rfl) hi (by decide) hl hz ?_
  refine l_arg (pc := 435) hR hS (dc dt_L7 6 rfl) (dc dt_L7 7 rfl) (dc dt_L7 8 rfl) (dc dt_L7 9 rfl) (dc dt_L7 10 rfl) hi (by decide) hl hz ?_
  refine l_arg (pc := 440) hR hS (dc dt_L7 11 rfl) (dc dt_L7 12 rfl) (dc dt_L7 13 rfl) (dc dt_L7 14 rfl) (dc dt_L7 15 rfl) hi (by decide) hl hz ?_
  refine r_callV (pc := 445) (k := 0) (rest := []) hR (dc dt_L7 16 rfl) cl_L_45 tc_0 rfl (ok_F10_same (hX _) (hX _) (hX _) e1) (by decide) rfl (Nat.le_of_ble_eq_true rfl) rfl (fun q445 => ?_)
  show Go 448 (LK b ad i) [iv (r)] m
  refine r_aload_n (pc := 448) hR (dc dt_L7 17 rfl) rfl ?_
  refine l_arg (pc := 449) hR hS (dc dt_L7 18 rfl) (dc dt_L7 19 rfl) (dc dt_L7 20 rfl) (dc dt_L7 21 rfl) (dc dt_L7 22 rfl) hi (by decide) hl hz ?_
  refine l_arg (pc := 454) hR hS (dc dt_L7 23 rfl) (dc dt_L7 24 rfl) (dc dt_L7 25 rfl) (dc dt_L7 26 rfl) (dc dt_L7 27 rfl) hi (by decide) hl hz ?_
  refine l_arg (pc := 459) hR hS (dc dt_L7 28 rfl) (dc dt_L7 29 rfl) (dc dt_L7 30 rfl) (dc dt_L7 31 rfl) (dc dt_L7 32 rfl) hi (by decide) hl hz ?_
  refine r_callV (pc := 464) (k := 83) (rest := [iv (r)]) hR (dc dt_L7 33 rfl) cl_L_48 tc_83 rfl (ok_F11_same (hX _) (hX _) (hX _) e2) (by decide) rfl (Nat.le_of_ble_eq_true rfl) rfl (fun q464 => ?_)
  show Go 467 (LK b ad i) [iv (r), iv (r)] m
  exact r_icmp_eq (pc := 467) (tgt := 1419) hR (dc dt_L7 34 rfl) (by decide) q445 q445 (fun _ => kk m hI2) (fun h => absurd rfl h)
theorem lc_8 (hR : RS l G cy ad tt RL cL_law 4 1000 Go) (hS : SLD Go b Lz X) {i : Int} (hi : 0 ≤ i) (hl : i + 6 ≤ Lz) (hz : Lz ≤ 384) (hX : ∀ j, inR (X j)) {n : Nat} {m : Mem} (hI : Inv n m) (hn : n < 100000000) (kk : ∀ m2, Inv (n + 1) m2 → Go 1419 (LK b ad i) [] m2) : Go 472 (LK b ad i) [] m := by
  obtain ⟨r, m1, m2, e1, e2, hI2⟩ := st_mother ((X (i + 1))) ((X (i + 2))) hI hn (hX _) (hX _)
  have e1 : F10_mother m ((X (i + 1))) ((X (i + 2))) = some (r, m1) := e1
  have e2 : F11_mother m1 ((X (i + 1))) ((X (i + 2))) = some (r, m2) := e2
  refine r_aload_n (pc := 472) hR (dc dt_L8 0 rfl) rfl ?_
  refine l_arg (pc := 473) hR hS (dc dt_L8 1 rfl) (dc dt_L8 2 rfl) (dc dt_L8 3 rfl) (dc dt_L8 4 rfl) (dc dt_L8 5 rfl) hi (by decide) hl hz ?_
  refine l_arg (pc := 478) hR hS (dc dt_L8 6 rfl) (dc dt_L8 7 rfl) (dc dt_L8 8 rfl) (dc dt_L8 9 rfl) (dc dt_L8 10 rfl) hi (by decide) hl hz ?_
  refine r_callV (pc := 483) (k := 0) (rest := []) hR (dc dt_L8 11 rfl) cl_L_49 tc_0 rfl (ok_F10_mother (hX _) (hX _) e1) (by decide) rfl (Nat.le_of_ble_eq_true rfl) rfl (fun q483 => ?_)
  show Go 486 (LK b ad i) [iv (r)] m1
  refine r_aload_n (pc := 486) hR (dc dt_L8 12 rfl) rfl ?_
  refine l_arg (pc := 487) hR hS (dc dt_L8 13 rfl) (dc dt_L8 14 rfl) (dc dt_L8 15 rfl) (dc dt_L8 16 rfl) (dc dt_L8 17 rfl) hi (by decide) hl hz ?_
  refine l_arg (pc := 492) hR hS (dc dt_L8 18 rfl) (dc dt_L8 19 rfl) (dc dt_L8 20 rfl) (dc dt_L8 21 rfl) (dc dt_L8 22 rfl) hi (by decide) hl hz ?_
  refine r_callV (pc := 497) (k := 83) (rest := [iv (r)]) hR (dc dt_L8 23 rfl) cl_L_52 tc_83 rfl (ok_F11_mother (hX _) (hX _) e2) (by decide) rfl (Nat.le_of_ble_eq_true rfl) rfl (fun q497 => ?_)
  show Go 500 (LK b ad i) [iv (r), iv (r)] m2
  exact r_icmp_eq (pc := 500) (tgt := 1419) hR (dc dt_L8 24 rfl) (by decide) q483 q483 (fun _ => kk m2 hI2) (fun h => absurd rfl h)
theorem lc_9 (hR : RS l G cy ad tt RL cL_law 4 1000 Go) (hS : SLD Go b Lz X) {i : Int} (hi : 0 ≤ i) (hl : i + 6 ≤ Lz) (hz : Lz ≤ 384) (hX : ∀ j, inR (X j)) {n : Nat} {m : Mem} (hI : Inv n m) (hn : n < 100000000) (kk : ∀ m2, Inv (n + 1) m2 → Go 1419 (LK b ad i) [] m2) : Go 505 (LK b ad i) [] m := by
  obtain ⟨r, m1, m2, e1, e2, hI2⟩ := st_cost ((X (i + 1))) hI
  have e1 : F10_cost m ((X (i + 1))) = some (r, m1) := e1
  have e2 : F11_cost m1 ((X (i + 1))) = some (r, m2) := e2
  refine r_aload_n (pc := 505) hR (dc dt_L9 0 rfl) rfl ?_
  refine l_arg (pc := 506) hR hS (dc dt_L9 1 rfl) (dc dt_L9 2 rfl) (dc dt_L9 3 rfl) (dc dt_L9 4 rfl) (dc dt_L9 5 rfl) hi (by decide) hl hz ?_
  refine r_callV (pc := 511) (k := 0) (rest := []) hR (dc dt_L9 6 rfl) cl_L_53 tc_0 rfl (ok_F10_cost (hX _) e1) (by decide) rfl (Nat.le_of_ble_eq_true rfl) rfl (fun q511 => ?_)
  show Go 514 (LK b ad i) [iv (r)] m1
  refine r_aload_n (pc := 514) hR (dc dt_L9 7 rfl) rfl ?_
  refine l_arg (pc := 515) hR hS (dc dt_L9 8 rfl) (dc dt_L9 9 rfl) (dc dt_L9 10 rfl) (dc dt_L9 11 rfl) (dc dt_L9 12 rfl) hi (by decide) hl hz ?_
  refine r_callV (pc := 520) (k := 83) (rest := [iv (r)]) hR (dc dt_L9 13 rfl) cl_L_57 tc_83 rfl (ok_F11_cost (hX _) e2) (by decide) rfl (Nat.le_of_ble_eq_true rfl) rfl (fun q520 => ?_)
  show Go 523 (LK b ad i) [iv (r), iv (r)] m2
  exact r_icmp_eq (pc := 523) (tgt := 1419) hR (dc dt_L9 14 rfl) (by decide) q511 q511 (fun _ => kk m2 hI2) (fun h => absurd rfl h)
theorem lc_10 (hR : RS l G cy ad tt RL cL_law 4 1000 Go) (hS : SLD Go b Lz X) {i : Int} (hi : 0 ≤ i) (hl : i + 6 ≤ Lz) (hz : Lz ≤ 384) (hX : ∀ j, inR (X j)) {n : Nat} {m : Mem} (hI : Inv n m) (hn : n < 100000000) (kk : ∀ m2, Inv (n + 1) m2 → Go 1419 (LK b ad i) [] m2) : Go 528 (LK b ad i) [] m := by
  obtain ⟨r, m1, m2, e1, e2, hI2⟩ := st_filled ((X (i + 1))) ((X (i + 2))) hI
  have e1 : F10_filled m ((X (i + 1))) ((X (i + 2))) = some (r, m1) := e1
  have e2 : F11_filled m1 ((X (i + 1))) ((X (i + 2))) = some (r, m2) := e2
  refine r_aload_n (pc := 528) hR (dc dt_L10 0 rfl) rfl ?_
  refine l_arg (pc := 529) hR hS (dc dt_L10 1 rfl) (dc dt_L10 2 rfl) (dc dt_L10 3 rfl) (dc dt_L10 4 rfl) (dc dt_L10 5 rfl) hi (by decide) hl hz ?_
  refine l_arg (pc := 534) hR hS (dc dt_L10 6 rfl) (dc dt_L10 7 rfl) (dc dt_L10 8 rfl) (dc dt_L10 9 rfl) (dc dt_L10 10 rfl) hi (by decide) hl hz ?_
  refine r_callV (pc := 539) (k := 0) (rest := []) hR (dc dt_L10 11 rfl) cl_L_58 tc_0 rfl (ok_F10_filled (hX _) (hX _) e1) (by decide) rfl (Nat.le_of_ble_eq_true rfl) rfl (fun q539 => ?_)
  show Go 542 (LK b ad i) [iv (r)] m1
  refine r_aload_n (pc := 542) hR (dc dt_L10 12 rfl) rfl ?_
  refine l_arg (pc := 543) hR hS (dc dt_L10 13 rfl) (dc dt_L10 14 rfl) (dc dt_L10 15 rfl) (dc dt_L10 16 rfl) (dc dt_L10 17 rfl) hi (by decide) hl hz ?_
  refine l_arg (pc := 548) hR hS (dc dt_L10 18 rfl) (dc dt_L10 19 rfl) (dc dt_L10 20 rfl) (dc dt_L10 21 rfl) (dc dt_L10 22 rfl) hi (by decide) hl hz ?_
  refine r_callV (pc := 553) (k := 83) (rest := [iv (r)]) hR (dc dt_L10 23 rfl) cl_L_61 tc_83 rfl (ok_F11_filled (hX _) (hX _) e2) (by decide) rfl (Nat.le_of_ble_eq_true rfl) rfl (fun q553 => ?_)
  show Go 556 (LK b ad i) [iv (r), iv (r)] m2
  exact r_icmp_eq (pc := 556) (tgt := 1419) hR (dc dt_L10 24 rfl) (by decide) q539 q539 (fun _ => kk m2 hI2) (fun h => absurd rfl h)
theorem lc_11 (hR : RS l G cy ad tt RL cL_law 4 1000 Go) (hS : SLD Go b Lz X) {i : Int} (hi : 0 ≤ i) (hl : i + 6 ≤ Lz) (hz : Lz ≤ 384) (hX : ∀ j, inR (X j)) {n : Nat} {m : Mem} (hI : Inv n m) (hn : n < 100000000) (kk : ∀ m2, Inv (n + 1) m2 → Go 1419 (LK b ad i) [] m2) : Go 561 (LK b ad i) [] m := by
  obtain ⟨r, m1, m2, e1, e2, hI2⟩ := st_days ((X (i + 1))) ((X (i + 2))) hI
  have e1 : F10_days m ((X (i + 1))) ((X (i + 2))) = some (r, m1) := e1
  have e2 : F11_days m1 ((X (i + 1))) ((X (i + 2))) = some (r, m2) := e2
  refine r_aload_n (pc := 561) hR (dc dt_L11 0 rfl) rfl ?_
  refine l_arg (pc := 562) hR hS (dc dt_L11 1 rfl) (dc dt_L11 2 rfl) (dc dt_L11 3 rfl) (dc dt_L11 4 rfl) (dc dt_L11 5 rfl) hi (by decide) hl hz ?_
  refine l_arg (pc := 567) hR hS (dc dt_L11 6 rfl) (dc dt_L11 7 rfl) (dc dt_L11 8 rfl) (dc dt_L11 9 rfl) (dc dt_L11 10 rfl) hi (by decide) hl hz ?_
  refine r_callV (pc := 572) (k := 0) (rest := []) hR (dc dt_L11 11 rfl) cl_L_62 tc_0 rfl (ok_F10_days (hX _) (hX _) e1) (by decide) rfl (Nat.le_of_ble_eq_true rfl) rfl (fun q572 => ?_)
  show Go 575 (LK b ad i) [iv (r)] m1
  refine r_aload_n (pc := 575) hR (dc dt_L11 12 rfl) rfl ?_
  refine l_arg (pc := 576) hR hS (dc dt_L11 13 rfl) (dc dt_L11 14 rfl) (dc dt_L11 15 rfl) (dc dt_L11 16 rfl) (dc dt_L11 17 rfl) hi (by decide) hl hz ?_
  refine l_arg (pc := 581) hR hS (dc dt_L11 18 rfl) (dc dt_L11 19 rfl) (dc dt_L11 20 rfl) (dc dt_L11 21 rfl) (dc dt_L11 22 rfl) hi (by decide) hl hz ?_
  refine r_callV (pc := 586) (k := 83) (rest := [iv (r)]) hR (dc dt_L11 23 rfl) cl_L_65 tc_83 rfl (ok_F11_days (hX _) (hX _) e2) (by decide) rfl (Nat.le_of_ble_eq_true rfl) rfl (fun q586 => ?_)
  show Go 589 (LK b ad i) [iv (r), iv (r)] m2
  exact r_icmp_eq (pc := 589) (tgt := 1419) hR (dc dt_L11 24 rfl) (by decide) q572 q572 (fun _ => kk m2 hI2) (fun h => absurd rfl h)
theorem lc_12 (hR : RS l G cy ad tt RL cL_law 4 1000 Go) (hS : SLD Go b Lz X) {i : Int} (hi : 0 ≤ i) (hl : i + 6 ≤ Lz) (hz : Lz ≤ 384) (hX : ∀ j, inR (X j)) {n : Nat} {m : Mem} (hI : Inv n m) (hn : n < 100000000) (kk : ∀ m2, Inv (n + 1) m2 → Go 1419 (LK b ad i) [] m2) : Go 594 (LK b ad i) [] m := by
  obtain ⟨r, m1, m2, e1, e2, hI2⟩ := st_list ((X (i + 1))) hI (hX _)
  have e1 : F10_list m ((X (i + 1))) = some (r, m1) := e1
  have e2 : F11_list m1 ((X (i + 1))) = some (r, m2) := e2
  refine r_aload_n (pc := 594) hR (dc dt_L12 0 rfl) rfl ?_
  refine l_arg (pc := 595) hR hS (dc dt_L12 1 rfl) (dc dt_L12 2 rfl) (dc dt_L12 3 rfl) (dc dt_L12 4 rfl) (dc dt_L12 5 rfl) hi (by decide) hl hz ?_
  refine r_callV (pc := 600) (k := 0) (rest := []) hR (dc dt_L12 6 rfl) cl_L_66 tc_0 rfl (ok_F10_list (hX _) e1) (by decide) rfl (Nat.le_of_ble_eq_true rfl) rfl (fun q600 => ?_)
  show Go 603 (LK b ad i) [iv (r)] m1
  refine r_aload_n (pc := 603) hR (dc dt_L12 7 rfl) rfl ?_
  refine l_arg (pc := 604) hR hS (dc dt_L12 8 rfl) (dc dt_L12 9 rfl) (dc dt_L12 10 rfl) (dc dt_L12 11 rfl) (dc dt_L12 12 rfl) hi (by decide) hl hz ?_
  refine r_callV (pc := 609) (k := 83) (rest := [iv (r)]) hR (dc dt_L12 13 rfl) cl_L_69 tc_83 rfl (ok_F11_list (hX _) e2) (by decide) rfl (Nat.le_of_ble_eq_true rfl) rfl (fun q609 => ?_)
  show Go 612 (LK b ad i) [iv (r), iv (r)] m2
  exact r_icmp_eq (pc := 612) (tgt := 1419) hR (dc dt_L12 14 rfl) (by decide) q600 q600 (fun _ => kk m2 hI2) (fun h => absurd rfl h)
theorem lc_13 (hR : RS l G cy ad tt RL cL_law 4 1000 Go) (hS : SLD Go b Lz X) {i : Int} (hi : 0 ≤ i) (hl : i + 6 ≤ Lz) (hz : Lz ≤ 384) (hX : ∀ j, inR (X j)) {n : Nat} {m : Mem} (hI : Inv n m) (hn : n < 100000000) (kk : ∀ m2, Inv (n + 1) m2 → Go 1419 (LK b ad i) [] m2) : Go 617 (LK b ad i) [] m := by
  obtain ⟨r, m1, m2, e1, e2, hI2⟩ := st_unlist hI
  have e1 : F10_unlist m = some (r, m1) := e1
  have e2 : F11_unlist m1 = some (r, m2) := e2
  refine r_aload_n (pc := 617) hR (dc dt_L13 0 rfl) rfl ?_
  refine r_callV (pc := 618) (k := 0) (rest := []) hR (dc dt_L13 1 rfl) cl_L_70 tc_0 rfl (ok_F10_unlist  e1) (by decide) rfl (Nat.le_of_ble_eq_true rfl) rfl (fun q618 => ?_)
  show Go 621 (LK b ad i) [iv (r)] m1
  refine r_aload_n (pc := 621) hR (dc dt_L13 2 rfl) rfl ?_
  refine r_callV (pc := 622) (k := 83) (rest := [iv (r)]) hR (dc dt_L13 3 rfl) cl_L_73 tc_83 rfl (ok_F11_unlist  e2) (by decide) rfl (Nat.le_of_ble_eq_true rfl) rfl (fun q622 => ?_)
  show Go 625 (LK b ad i) [iv (r), iv (r)] m2
  exact r_icmp_eq (pc := 625) (tgt := 1419) hR (dc dt_L13 4 rfl) (by decide) q618 q618 (fun _ => kk m2 hI2) (fun h => absurd rfl h)
theorem lc_14 (hR : RS l G cy ad tt RL cL_law 4 1000 Go) (hS : SLD Go b Lz X) {i : Int} (hi : 0 ≤ i) (hl : i + 6 ≤ Lz) (hz : Lz ≤ 384) (hX : ∀ j, inR (X j)) {n : Nat} {m : Mem} (hI : Inv n m) (hn : n < 100000000) (kk : ∀ m2, Inv (n + 1) m2 → Go 1419 (LK b ad i) [] m2) : Go 630 (LK b ad i) [] m := by
  obtain ⟨r, m1, m2, e1, e2, hI2⟩ := st_best ((X (i + 1))) hI hn
  have e1 : F10_best m ((X (i + 1))) = some (r, m1) := e1
  have e2 : F11_best m1 ((X (i + 1))) = some (r, m2) := e2
  refine r_aload_n (pc := 630) hR (dc dt_L14 0 rfl) rfl ?_
  refine l_arg (pc := 631) hR hS (dc dt_L14 1 rfl) (dc dt_L14 2 rfl) (dc dt_L14 3 rfl) (dc dt_L14 4 rfl) (dc dt_L14 5 rfl) hi (by decide) hl hz ?_
  refine r_callV (pc := 636) (k := 0) (rest := []) hR (dc dt_L14 6 rfl) cl_L_74 tc_0 rfl (ok_F10_best (hX _) e1) (by decide) rfl (Nat.le_of_ble_eq_true rfl) rfl (fun q636 => ?_)
  show Go 639 (LK b ad i) [iv (r)] m1
  refine r_aload_n (pc := 639) hR (dc dt_L14 7 rfl) rfl ?_
  refine l_arg (pc := 640) hR hS (dc dt_L14 8 rfl) (dc dt_L14 9 rfl) (dc dt_L14 10 rfl) (dc dt_L14 11 rfl) (dc dt_L14 12 rfl) hi (by decide) hl hz ?_
  refine r_callV (pc := 645) (k := 83) (rest := [iv (r)]) hR (dc dt_L14 13 rfl) cl_L_77 tc_83 rfl (ok_F11_best (hX _) e2) (by decide) rfl (Nat.le_of_ble_eq_true rfl) rfl (fun q645 => ?_)
  show Go 648 (LK b ad i) [iv (r), iv (r)] m2
  exact r_icmp_eq (pc := 648) (tgt := 1419) hR (dc dt_L14 14 rfl) (by decide) q636 q636 (fun _ => kk m2 hI2) (fun h => absurd rfl h)
theorem lc_15 (hR : RS l G cy ad tt RL cL_law 4 1000 Go) (hS : SLD Go b Lz X) {i : Int} (hi : 0 ≤ i) (hl : i + 6 ≤ Lz) (hz : Lz ≤ 384) (hX : ∀ j, inR (X j)) {n : Nat} {m : Mem} (hI : Inv n m) (hn : n < 100000000) (kk : ∀ m2, Inv (n + 1) m2 → Go 1419 (LK b ad i) [] m2) : Go 653 (LK b ad i) [] m := by
  obtain ⟨r, m1, m2, e1, e2, hI2⟩ := st_tree ((X (i + 1))) ((X (i + 2))) hI hn
  have e1 : F10_tree m ((X (i + 1))) ((X (i + 2))) = some (r, m1) := e1
  have e2 : F11_tree m1 ((X (i + 1))) ((X (i + 2))) = some (r, m2) := e2
  refine r_aload_n (pc := 653) hR (dc dt_L15 0 rfl) rfl ?_
  refine l_arg (pc := 654) hR hS (dc dt_L15 1 rfl) (dc dt_L15 2 rfl) (dc dt_L15 3 rfl) (dc dt_L15 4 rfl) (dc dt_L15 5 rfl) hi (by decide) hl hz ?_
  refine l_arg (pc := 659) hR hS (dc dt_L15 6 rfl) (dc dt_L15 7 rfl) (dc dt_L15 8 rfl) (dc dt_L15 9 rfl) (dc dt_L15 10 rfl) hi (by decide) hl hz ?_
  refine r_callV (pc := 664) (k := 0) (rest := []) hR (dc dt_L15 11 rfl) cl_L_78 tc_0 rfl (ok_F10_tree (hX _) (hX _) e1) (by decide) rfl (Nat.le_of_ble_eq_true rfl) rfl (fun q664 => ?_)
  show Go 667 (LK b ad i) [iv (r)] m1
  refine r_aload_n (pc := 667) hR (dc dt_L15 12 rfl) rfl ?_
  refine l_arg (pc := 668) hR hS (dc dt_L15 13 rfl) (dc dt_L15 14 rfl) (dc dt_L15 15 rfl) (dc dt_L15 16 rfl) (dc dt_L15 17 rfl) hi (by decide) hl hz ?_
  refine l_arg (pc := 673) hR hS (dc dt_L15 18 rfl) (dc dt_L15 19 rfl) (dc dt_L15 20 rfl) (dc dt_L15 21 rfl) (dc dt_L15 22 rfl) hi (by decide) hl hz ?_
  refine r_callV (pc := 678) (k := 83) (rest := [iv (r)]) hR (dc dt_L15 23 rfl) cl_L_81 tc_83 rfl (ok_F11_tree (hX _) (hX _) e2) (by decide) rfl (Nat.le_of_ble_eq_true rfl) rfl (fun q678 => ?_)
  show Go 681 (LK b ad i) [iv (r), iv (r)] m2
  exact r_icmp_eq (pc := 681) (tgt := 1419) hR (dc dt_L15 24 rfl) (by decide) q664 q664 (fun _ => kk m2 hI2) (fun h => absurd rfl h)
theorem lc_16 (hR : RS l G cy ad tt RL cL_law 4 1000 Go) (hS : SLD Go b Lz X) {i : Int} (hi : 0 ≤ i) (hl : i + 6 ≤ Lz) (hz : Lz ≤ 384) (hX : ∀ j, inR (X j)) {n : Nat} {m : Mem} (hI : Inv n m) (hn : n < 100000000) (kk : ∀ m2, Inv (n + 1) m2 → Go 1419 (LK b ad i) [] m2) : Go 686 (LK b ad i) [] m := by
  obtain ⟨r, m1, m2, e1, e2, hI2⟩ := st_never ((X (i + 1))) hI hn
  have e1 : F10_never m ((X (i + 1))) = some (r, m1) := e1
  have e2 : F11_never m1 ((X (i + 1))) = some (r, m2) := e2
  refine r_aload_n (pc := 686) hR (dc dt_L16 0 rfl) rfl ?_
  refine l_arg (pc := 687) hR hS (dc dt_L16 1 rfl) (dc dt_L16 2 rfl) (dc dt_L16 3 rfl) (dc dt_L16 4 rfl) (dc dt_L16 5 rfl) hi (by decide) hl hz ?_
  refine r_callV (pc := 692) (k := 0) (rest := []) hR (dc dt_L16 6 rfl) cl_L_82 tc_0 rfl (ok_F10_never (hX _) e1) (by decide) rfl (Nat.le_of_ble_eq_true rfl) rfl (fun q692 => ?_)
  show Go 695 (LK b ad i) [iv (r)] m1
  refine r_aload_n (pc := 695) hR (dc dt_L16 7 rfl) rfl ?_
  refine l_arg (pc := 696) hR hS (dc dt_L16 8 rfl) (dc dt_L16 9 rfl) (dc dt_L16 10 rfl) (dc dt_L16 11 rfl) (dc dt_L16 12 rfl) hi (by decide) hl hz ?_
  refine r_callV (pc := 701) (k := 83) (rest := [iv (r)]) hR (dc dt_L16 13 rfl) cl_L_85 tc_83 rfl (ok_F11_never (hX _) e2) (by decide) rfl (Nat.le_of_ble_eq_true rfl) rfl (fun q701 => ?_)
  show Go 704 (LK b ad i) [iv (r), iv (r)] m2
  exact r_icmp_eq (pc := 704) (tgt := 1419) hR (dc dt_L16 14 rfl) (by decide) q692 q692 (fun _ => kk m2 hI2) (fun h => absurd rfl h)
theorem lc_17 (hR : RS l G cy ad tt RL cL_law 4 1000 Go) (hS : SLD Go b Lz X) {i : Int} (hi : 0 ≤ i) (hl : i + 6 ≤ Lz) (hz : Lz ≤ 384) (hX : ∀ j, inR (X j)) {n : Nat} {m : Mem} (hI : Inv n m) (hn : n < 100000000) (kk : ∀ m2, Inv (n + 1) m2 → Go 1419 (LK b ad i) [] m2) : Go 709 (LK b ad i) [] m := by
  obtain ⟨r, m1, m2, e1, e2, hI2⟩ := st_claim ((X (i + 1))) hI hn
  have e1 : F10_claim m ((X (i + 1))) = some (r, m1) := e1
  have e2 : F11_claim m1 ((X (i + 1))) = some (r, m2) := e2
  refine r_aload_n (pc := 709) hR (dc dt_L17 0 rfl) rfl ?_
  refine l_arg (pc := 710) hR hS (dc dt_L17 1 rfl) (dc dt_L17 2 rfl) (dc dt_L17 3 rfl) (dc dt_L17 4 rfl) (dc dt_L17 5 rfl) hi (by decide) hl hz ?_
  refine r_callV (pc := 715) (k := 0) (rest := []) hR (dc dt_L17 6 rfl) cl_L_86 tc_0 rfl (ok_F10_claim (hX _) e1) (by decide) rfl (Nat.le_of_ble_eq_true rfl) rfl (fun q715 => ?_)
  show Go 718 (LK b ad i) [iv (r)] m1
  refine r_aload_n (pc := 718) hR (dc dt_L17 7 rfl) rfl ?_
  refine l_arg (pc := 719) hR hS (dc dt_L17 8 rfl) (dc dt_L17 9 rfl) (dc dt_L17 10 rfl) (dc dt_L17 11 rfl) (dc dt_L17 12 rfl) hi (by decide) hl hz ?_
  refine r_callV (pc := 724) (k := 83) (rest := [iv (r)]) hR (dc dt_L17 13 rfl) cl_L_89 tc_83 rfl (ok_F11_claim (hX _) e2) (by decide) rfl (Nat.le_of_ble_eq_true rfl) rfl (fun q724 => ?_)
  show Go 727 (LK b ad i) [iv (r), iv (r)] m2
  exact r_icmp_eq (pc := 727) (tgt := 1419) hR (dc dt_L17 14 rfl) (by decide) q715 q715 (fun _ => kk m2 hI2) (fun h => absurd rfl h)
theorem lc_18 (hR : RS l G cy ad tt RL cL_law 4 1000 Go) (hS : SLD Go b Lz X) {i : Int} (hi : 0 ≤ i) (hl : i + 6 ≤ Lz) (hz : Lz ≤ 384) (hX : ∀ j, inR (X j)) {n : Nat} {m : Mem} (hI : Inv n m) (hn : n < 100000000) (kk : ∀ m2, Inv (n + 1) m2 → Go 1419 (LK b ad i) [] m2) : Go 732 (LK b ad i) [] m := by
  obtain ⟨r, m1, m2, e1, e2, hI2⟩ := st_few ((X (i + 1))) hI
  have e1 : F10_few m ((X (i + 1))) = some (r, m1) := e1
  have e2 : F11_few m1 ((X (i + 1))) = some (r, m2) := e2
  refine r_aload_n (pc := 732) hR (dc dt_L18 0 rfl) rfl ?_
  refine l_arg (pc := 733) hR hS (dc dt_L18 1 rfl) (dc dt_L18 2 rfl) (dc dt_L18 3 rfl) (dc dt_L18 4 rfl) (dc dt_L18 5 rfl) hi (by decide) hl hz ?_
  refine r_callV (pc := 738) (k := 0) (rest := []) hR (dc dt_L18 6 rfl) cl_L_90 tc_0 rfl (ok_F10_few (hX _) e1) (by decide) rfl (Nat.le_of_ble_eq_true rfl) rfl (fun q738 => ?_)
  show Go 741 (LK b ad i) [iv (r)] m1
  refine r_aload_n (pc := 741) hR (dc dt_L18 7 rfl) rfl ?_
  refine l_arg (pc := 742) hR hS (dc dt_L18 8 rfl) (dc dt_L18 9 rfl) (dc dt_L18 10 rfl) (dc dt_L18 11 rfl) (dc dt_L18 12 rfl) hi (by decide) hl hz ?_
  refine r_callV (pc := 747) (k := 83) (rest := [iv (r)]) hR (dc dt_L18 13 rfl) cl_L_93 tc_83 rfl (ok_F11_few (hX _) e2) (by decide) rfl (Nat.le_of_ble_eq_true rfl) rfl (fun q747 => ?_)
  show Go 750 (LK b ad i) [iv (r), iv (r)] m2
  exact r_icmp_eq (pc := 750) (tgt := 1419) hR (dc dt_L18 14 rfl) (by decide) q738 q738 (fun _ => kk m2 hI2) (fun h => absurd rfl h)
theorem lc_19 (hR : RS l G cy ad tt RL cL_law 4 1000 Go) (hS : SLD Go b Lz X) {i : Int} (hi : 0 ≤ i) (hl : i + 6 ≤ Lz) (hz : Lz ≤ 384) (hX : ∀ j, inR (X j)) {n : Nat} {m : Mem} (hI : Inv n m) (hn : n < 100000000) (kk : ∀ m2, Inv (n + 1) m2 → Go 1419 (LK b ad i) [] m2) : Go 755 (LK b ad i) [] m := by
  obtain ⟨r, m1, m2, e1, e2, hI2⟩ := st_from ((X (i + 1))) ((X (i + 2))) hI
  have e1 : F10_from m ((X (i + 1))) ((X (i + 2))) = some (r, m1) := e1
  have e2 : F11_from m1 ((X (i + 1))) ((X (i + 2))) = some (r, m2) := e2
  refine r_aload_n (pc := 755) hR (dc dt_L19 0 rfl) rfl ?_
  refine l_arg (pc := 756) hR hS (dc dt_L19 1 rfl) (dc dt_L19 2 rfl) (dc dt_L19 3 rfl) (dc dt_L19 4 rfl) (dc dt_L19 5 rfl) hi (by decide) hl hz ?_
  refine l_arg (pc := 761) hR hS (dc dt_L19 6 rfl) (dc dt_L19 7 rfl) (dc dt_L19 8 rfl) (dc dt_L19 9 rfl) (dc dt_L19 10 rfl) hi (by decide) hl hz ?_
  refine r_callV (pc := 766) (k := 0) (rest := []) hR (dc dt_L19 11 rfl) cl_L_94 tc_0 rfl (ok_F10_from (hX _) (hX _) e1) (by decide) rfl (Nat.le_of_ble_eq_true rfl) rfl (fun q766 => ?_)
  show Go 769 (LK b ad i) [iv (r)] m1
  refine r_aload_n (pc := 769) hR (dc dt_L19 12 rfl) rfl ?_
  refine l_arg (pc := 770) hR hS (dc dt_L19 13 rfl) (dc dt_L19 14 rfl) (dc dt_L19 15 rfl) (dc dt_L19 16 rfl) (dc dt_L19 17 rfl) hi (by decide) hl hz ?_
  refine l_arg (pc := 775) hR hS (dc dt_L19 18 rfl) (dc dt_L19 19 rfl) (dc dt_L19 20 rfl) (dc dt_L19 21 rfl) (dc dt_L19 22 rfl) hi (by decide) hl hz ?_
  refine r_callV (pc := 780) (k := 83) (rest := [iv (r)]) hR (dc dt_L19 23 rfl) cl_L_97 tc_83 rfl (ok_F11_from (hX _) (hX _) e2) (by decide) rfl (Nat.le_of_ble_eq_true rfl) rfl (fun q780 => ?_)
  show Go 783 (LK b ad i) [iv (r), iv (r)] m2
  exact r_icmp_eq (pc := 783) (tgt := 1419) hR (dc dt_L19 24 rfl) (by decide) q766 q766 (fun _ => kk m2 hI2) (fun h => absurd rfl h)
theorem lc_20 (hR : RS l G cy ad tt RL cL_law 4 1000 Go) (hS : SLD Go b Lz X) {i : Int} (hi : 0 ≤ i) (hl : i + 6 ≤ Lz) (hz : Lz ≤ 384) (hX : ∀ j, inR (X j)) {n : Nat} {m : Mem} (hI : Inv n m) (hn : n < 100000000) (kk : ∀ m2, Inv (n + 1) m2 → Go 1419 (LK b ad i) [] m2) : Go 788 (LK b ad i) [] m := by
  obtain ⟨r, m2, e1, e2, hI2⟩ := st_pairs ((X (i + 1))) hI
  refine r_aload_n (pc := 788) hR (dc dt_L20 0 rfl) rfl ?_
  refine l_arg (pc := 789) hR hS (dc dt_L20 1 rfl) (dc dt_L20 2 rfl) (dc dt_L20 3 rfl) (dc dt_L20 4 rfl) (dc dt_L20 5 rfl) hi (by decide) hl hz ?_
  refine r_callV (pc := 794) (k := 0) (rest := []) hR (dc dt_L20 6 rfl) cl_L_98 tc_0 rfl (ok_F10_pairs (hX _) e1) (by decide) rfl (Nat.le_of_ble_eq_true rfl) rfl (fun q794 => ?_)
  show Go 797 (LK b ad i) [iv (r)] m
  refine r_aload_n (pc := 797) hR (dc dt_L20 7 rfl) rfl ?_
  refine l_arg (pc := 798) hR hS (dc dt_L20 8 rfl) (dc dt_L20 9 rfl) (dc dt_L20 10 rfl) (dc dt_L20 11 rfl) (dc dt_L20 12 rfl) hi (by decide) hl hz ?_
  refine r_callV (pc := 803) (k := 83) (rest := [iv (r)]) hR (dc dt_L20 13 rfl) cl_L_101 tc_83 rfl (ok_F11_pairs (hX _) e2) (by decide) rfl (Nat.le_of_ble_eq_true rfl) rfl (fun q803 => ?_)
  show Go 806 (LK b ad i) [iv (r), iv (r)] m2
  exact r_icmp_eq (pc := 806) (tgt := 1419) hR (dc dt_L20 14 rfl) (by decide) q794 q794 (fun _ => kk m2 hI2) (fun h => absurd rfl h)
theorem lc_21 (hR : RS l G cy ad tt RL cL_law 4 1000 Go) (hS : SLD Go b Lz X) {i : Int} (hi : 0 ≤ i) (hl : i + 6 ≤ Lz) (hz : Lz ≤ 384) (hX : ∀ j, inR (X j)) {n : Nat} {m : Mem} (hI : Inv n m) (hn : n < 100000000) (kk : ∀ m2, Inv (n + 1) m2 → Go 1419 (LK b ad i) [] m2) : Go 811 (LK b ad i) [] m := by
  obtain ⟨r, m1, m2, e1, e2, hI2⟩ := st_freed hI
  have e1 : F10_freed m = some (r, m1) := e1
  have e2 : F11_freed m1 = some (r, m2) := e2
  refine r_aload_n (pc := 811) hR (dc dt_L21 0 rfl) rfl ?_
  refine r_callV (pc := 812) (k := 0) (rest := []) hR (dc dt_L21 1 rfl) cl_L_102 tc_0 rfl (ok_F10_freed  e1) (by decide) rfl (Nat.le_of_ble_eq_true rfl) rfl (fun q812 => ?_)
  show Go 815 (LK b ad i) [iv (r)] m1
  refine r_aload_n (pc := 815) hR (dc dt_L21 2 rfl) rfl ?_
  refine r_callV (pc := 816) (k := 83) (rest := [iv (r)]) hR (dc dt_L21 3 rfl) cl_L_105 tc_83 rfl (ok_F11_freed  e2) (by decide) rfl (Nat.le_of_ble_eq_true rfl) rfl (fun q816 => ?_)
  show Go 819 (LK b ad i) [iv (r), iv (r)] m2
  exact r_icmp_eq (pc := 819) (tgt := 1419) hR (dc dt_L21 4 rfl) (by decide) q812 q812 (fun _ => kk m2 hI2) (fun h => absurd rfl h)
theorem lc_22 (hR : RS l G cy ad tt RL cL_law 4 1000 Go) (hS : SLD Go b Lz X) {i : Int} (hi : 0 ≤ i) (hl : i + 6 ≤ Lz) (hz : Lz ≤ 384) (hX : ∀ j, inR (X j)) {n : Nat} {m : Mem} (hI : Inv n m) (hn : n < 100000000) (kk : ∀ m2, Inv (n + 1) m2 → Go 1419 (LK b ad i) [] m2) : Go 824 (LK b ad i) [] m := by
  obtain ⟨r, m1, m2, e1, e2, hI2⟩ := st_doubt ((X (i + 1))) hI
  have e1 : F10_doubt m ((X (i + 1))) = some (r, m1) := e1
  have e2 : F11_doubt m1 ((X (i + 1))) = some (r, m2) := e2
  refine r_aload_n (pc := 824) hR (dc dt_L22 0 rfl) rfl ?_
  refine l_arg (pc := 825) hR hS (dc dt_L22 1 rfl) (dc dt_L22 2 rfl) (dc dt_L22 3 rfl) (dc dt_L22 4 rfl) (dc dt_L22 5 rfl) hi (by decide) hl hz ?_
  refine r_callV (pc := 830) (k := 0) (rest := []) hR (dc dt_L22 6 rfl) cl_L_106 tc_0 rfl (ok_F10_doubt (hX _) e1) (by decide) rfl (Nat.le_of_ble_eq_true rfl) rfl (fun q830 => ?_)
  show Go 833 (LK b ad i) [iv (r)] m1
  refine r_aload_n (pc := 833) hR (dc dt_L22 7 rfl) rfl ?_
  refine l_arg (pc := 834) hR hS (dc dt_L22 8 rfl) (dc dt_L22 9 rfl) (dc dt_L22 10 rfl) (dc dt_L22 11 rfl) (dc dt_L22 12 rfl) hi (by decide) hl hz ?_
  refine r_callV (pc := 839) (k := 83) (rest := [iv (r)]) hR (dc dt_L22 13 rfl) cl_L_109 tc_83 rfl (ok_F11_doubt (hX _) e2) (by decide) rfl (Nat.le_of_ble_eq_true rfl) rfl (fun q839 => ?_)
  show Go 842 (LK b ad i) [iv (r), iv (r)] m2
  exact r_icmp_eq (pc := 842) (tgt := 1419) hR (dc dt_L22 14 rfl) (by decide) q830 q830 (fun _ => kk m2 hI2) (fun h => absurd rfl h)
theorem lc_23 (hR : RS l G cy ad tt RL cL_law 4 1000 Go) (hS : SLD Go b Lz X) {i : Int} (hi : 0 ≤ i) (hl : i + 6 ≤ Lz) (hz : Lz ≤ 384) (hX : ∀ j, inR (X j)) {n : Nat} {m : Mem} (hI : Inv n m) (hn : n < 100000000) (kk : ∀ m2, Inv (n + 1) m2 → Go 1419 (LK b ad i) [] m2) : Go 847 (LK b ad i) [] m := by
  obtain ⟨r, m1, m2, e1, e2, hI2⟩ := st_law ((X (i + 1))) ((X (i + 2))) hI
  have e1 : F10_law m ((X (i + 1))) ((X (i + 2))) = some (r, m1) := e1
  have e2 : F11_law m1 ((X (i + 1))) ((X (i + 2))) = some (r, m2) := e2
  refine r_aload_n (pc := 847) hR (dc dt_L23 0 rfl) rfl ?_
  refine l_arg (pc := 848) hR hS (dc dt_L23 1 rfl) (dc dt_L23 2 rfl) (dc dt_L23 3 rfl) (dc dt_L23 4 rfl) (dc dt_L23 5 rfl) hi (by decide) hl hz ?_
  refine l_arg (pc := 853) hR hS (dc dt_L23 6 rfl) (dc dt_L23 7 rfl) (dc dt_L23 8 rfl) (dc dt_L23 9 rfl) (dc dt_L23 10 rfl) hi (by decide) hl hz ?_
  refine r_callV (pc := 858) (k := 0) (rest := []) hR (dc dt_L23 11 rfl) cl_L_110 tc_0 rfl (ok_F10_law (hX _) (hX _) e1) (by decide) rfl (Nat.le_of_ble_eq_true rfl) rfl (fun q858 => ?_)
  show Go 861 (LK b ad i) [iv (r)] m1
  refine r_aload_n (pc := 861) hR (dc dt_L23 12 rfl) rfl ?_
  refine l_arg (pc := 862) hR hS (dc dt_L23 13 rfl) (dc dt_L23 14 rfl) (dc dt_L23 15 rfl) (dc dt_L23 16 rfl) (dc dt_L23 17 rfl) hi (by decide) hl hz ?_
  refine l_arg (pc := 867) hR hS (dc dt_L23 18 rfl) (dc dt_L23 19 rfl) (dc dt_L23 20 rfl) (dc dt_L23 21 rfl) (dc dt_L23 22 rfl) hi (by decide) hl hz ?_
  refine r_callV (pc := 872) (k := 83) (rest := [iv (r)]) hR (dc dt_L23 23 rfl) cl_L_113 tc_83 rfl (ok_F11_law (hX _) (hX _) e2) (by decide) rfl (Nat.le_of_ble_eq_true rfl) rfl (fun q872 => ?_)
  show Go 875 (LK b ad i) [iv (r), iv (r)] m2
  exact r_icmp_eq (pc := 875) (tgt := 1419) hR (dc dt_L23 24 rfl) (by decide) q858 q858 (fun _ => kk m2 hI2) (fun h => absurd rfl h)
theorem lc_24 (hR : RS l G cy ad tt RL cL_law 4 1000 Go) (hS : SLD Go b Lz X) {i : Int} (hi : 0 ≤ i) (hl : i + 6 ≤ Lz) (hz : Lz ≤ 384) (hX : ∀ j, inR (X j)) {n : Nat} {m : Mem} (hI : Inv n m) (hn : n < 100000000) (kk : ∀ m2, Inv (n + 1) m2 → Go 1419 (LK b ad i) [] m2) : Go 880 (LK b ad i) [] m := by
  obtain ⟨r, m1, m2, e1, e2, hI2⟩ := st_cameIn ((X (i + 1))) ((X (i + 2))) hI
  have e1 : F10_cameIn m ((X (i + 1))) ((X (i + 2))) = some (r, m1) := e1
  have e2 : F11_cameIn m1 ((X (i + 1))) ((X (i + 2))) = some (r, m2) := e2
  refine r_aload_n (pc := 880) hR (dc dt_L24 0 rfl) rfl ?_
  refine l_arg (pc := 881) hR hS (dc dt_L24 1 rfl) (dc dt_L24 2 rfl) (dc dt_L24 3 rfl) (dc dt_L24 4 rfl) (dc dt_L24 5 rfl) hi (by decide) hl hz ?_
  refine l_arg (pc := 886) hR hS (dc dt_L24 6 rfl) (dc dt_L24 7 rfl) (dc dt_L24 8 rfl) (dc dt_L24 9 rfl) (dc dt_L24 10 rfl) hi (by decide) hl hz ?_
  refine r_callV (pc := 891) (k := 0) (rest := []) hR (dc dt_L24 11 rfl) cl_L_114 tc_0 rfl (ok_F10_cameIn (hX _) (hX _) e1) (by decide) rfl (Nat.le_of_ble_eq_true rfl) rfl (fun q891 => ?_)
  show Go 894 (LK b ad i) [iv (r)] m1
  refine r_aload_n (pc := 894) hR (dc dt_L24 12 rfl) rfl ?_
  refine l_arg (pc := 895) hR hS (dc dt_L24 13 rfl) (dc dt_L24 14 rfl) (dc dt_L24 15 rfl) (dc dt_L24 16 rfl) (dc dt_L24 17 rfl) hi (by decide) hl hz ?_
  refine l_arg (pc := 900) hR hS (dc dt_L24 18 rfl) (dc dt_L24 19 rfl) (dc dt_L24 20 rfl) (dc dt_L24 21 rfl) (dc dt_L24 22 rfl) hi (by decide) hl hz ?_
  refine r_callV (pc := 905) (k := 83) (rest := [iv (r)]) hR (dc dt_L24 23 rfl) cl_L_117 tc_83 rfl (ok_F11_cameIn (hX _) (hX _) e2) (by decide) rfl (Nat.le_of_ble_eq_true rfl) rfl (fun q905 => ?_)
  show Go 908 (LK b ad i) [iv (r), iv (r)] m2
  exact r_icmp_eq (pc := 908) (tgt := 1419) hR (dc dt_L24 24 rfl) (by decide) q891 q891 (fun _ => kk m2 hI2) (fun h => absurd rfl h)
theorem lc_25 (hR : RS l G cy ad tt RL cL_law 4 1000 Go) (hS : SLD Go b Lz X) {i : Int} (hi : 0 ≤ i) (hl : i + 6 ≤ Lz) (hz : Lz ≤ 384) (hX : ∀ j, inR (X j)) {n : Nat} {m : Mem} (hI : Inv n m) (hn : n < 100000000) (kk : ∀ m2, Inv (n + 1) m2 → Go 1419 (LK b ad i) [] m2) : Go 913 (LK b ad i) [] m := by
  obtain ⟨r, m2, e1, e2, hI2⟩ := st_slip ((X (i + 1))) ((X (i + 2))) hI
  refine r_aload_n (pc := 913) hR (dc dt_L25 0 rfl) rfl ?_
  refine l_arg (pc := 914) hR hS (dc dt_L25 1 rfl) (dc dt_L25 2 rfl) (dc dt_L25 3 rfl) (dc dt_L25 4 rfl) (dc dt_L25 5 rfl) hi (by decide) hl hz ?_
  refine l_arg (pc := 919) hR hS (dc dt_L25 6 rfl) (dc dt_L25 7 rfl) (dc dt_L25 8 rfl) (dc dt_L25 9 rfl) (dc dt_L25 10 rfl) hi (by decide) hl hz ?_
  refine r_callV (pc := 924) (k := 0) (rest := []) hR (dc dt_L25 11 rfl) cl_L_118 tc_0 rfl (ok_F10_slip (hX _) (hX _) e1) (by decide) rfl (Nat.le_of_ble_eq_true rfl) rfl (fun q924 => ?_)
  show Go 927 (LK b ad i) [iv (r)] m
  refine r_aload_n (pc := 927) hR (dc dt_L25 12 rfl) rfl ?_
  refine l_arg (pc := 928) hR hS (dc dt_L25 13 rfl) (dc dt_L25 14 rfl) (dc dt_L25 15 rfl) (dc dt_L25 16 rfl) (dc dt_L25 17 rfl) hi (by decide) hl hz ?_
  refine l_arg (pc := 933) hR hS (dc dt_L25 18 rfl) (dc dt_L25 19 rfl) (dc dt_L25 20 rfl) (dc dt_L25 21 rfl) (dc dt_L25 22 rfl) hi (by decide) hl hz ?_
  refine r_callV (pc := 938) (k := 83) (rest := [iv (r)]) hR (dc dt_L25 23 rfl) cl_L_121 tc_83 rfl (ok_F11_slip (hX _) (hX _) e2) (by decide) rfl (Nat.le_of_ble_eq_true rfl) rfl (fun q938 => ?_)
  show Go 941 (LK b ad i) [iv (r), iv (r)] m2
  exact r_icmp_eq (pc := 941) (tgt := 1419) hR (dc dt_L25 24 rfl) (by decide) q924 q924 (fun _ => kk m2 hI2) (fun h => absurd rfl h)
theorem lc_26 (hR : RS l G cy ad tt RL cL_law 4 1000 Go) (hS : SLD Go b Lz X) {i : Int} (hi : 0 ≤ i) (hl : i + 6 ≤ Lz) (hz : Lz ≤ 384) (hX : ∀ j, inR (X j)) {n : Nat} {m : Mem} (hI : Inv n m) (hn : n < 100000000) (kk : ∀ m2, Inv (n + 1) m2 → Go 1419 (LK b ad i) [] m2) : Go 946 (LK b ad i) [] m := by
  obtain ⟨r, m2, e1, e2, hI2⟩ := st_chain ((X (i + 1))) ((X (i + 2))) hI
  refine r_aload_n (pc := 946) hR (dc dt_L26 0 rfl) rfl ?_
  refine l_arg (pc := 947) hR hS (dc dt_L26 1 rfl) (dc dt_L26 2 rfl) (dc dt_L26 3 rfl) (dc dt_L26 4 rfl) (dc dt_L26 5 rfl) hi (by decide) hl hz ?_
  refine l_arg (pc := 952) hR hS (dc dt_L26 6 rfl) (dc dt_L26 7 rfl) (dc dt_L26 8 rfl) (dc dt_L26 9 rfl) (dc dt_L26 10 rfl) hi (by decide) hl hz ?_
  refine r_callV (pc := 957) (k := 0) (rest := []) hR (dc dt_L26 11 rfl) cl_L_122 tc_0 rfl (ok_F10_chain (hX _) (hX _) e1) (by decide) rfl (Nat.le_of_ble_eq_true rfl) rfl (fun q957 => ?_)
  show Go 960 (LK b ad i) [iv (r)] m
  refine r_aload_n (pc := 960) hR (dc dt_L26 12 rfl) rfl ?_
  refine l_arg (pc := 961) hR hS (dc dt_L26 13 rfl) (dc dt_L26 14 rfl) (dc dt_L26 15 rfl) (dc dt_L26 16 rfl) (dc dt_L26 17 rfl) hi (by decide) hl hz ?_
  refine l_arg (pc := 966) hR hS (dc dt_L26 18 rfl) (dc dt_L26 19 rfl) (dc dt_L26 20 rfl) (dc dt_L26 21 rfl) (dc dt_L26 22 rfl) hi (by decide) hl hz ?_
  refine r_callV (pc := 971) (k := 83) (rest := [iv (r)]) hR (dc dt_L26 23 rfl) cl_L_125 tc_83 rfl (ok_F11_chain (hX _) (hX _) e2) (by decide) rfl (Nat.le_of_ble_eq_true rfl) rfl (fun q971 => ?_)
  show Go 974 (LK b ad i) [iv (r), iv (r)] m2
  exact r_icmp_eq (pc := 974) (tgt := 1419) hR (dc dt_L26 24 rfl) (by decide) q957 q957 (fun _ => kk m2 hI2) (fun h => absurd rfl h)
theorem lc_27 (hR : RS l G cy ad tt RL cL_law 4 1000 Go) (hS : SLD Go b Lz X) {i : Int} (hi : 0 ≤ i) (hl : i + 6 ≤ Lz) (hz : Lz ≤ 384) (hX : ∀ j, inR (X j)) {n : Nat} {m : Mem} (hI : Inv n m) (hn : n < 100000000) (kk : ∀ m2, Inv (n + 1) m2 → Go 1419 (LK b ad i) [] m2) : Go 979 (LK b ad i) [] m := by
  obtain ⟨r, m1, m2, e1, e2, hI2⟩ := st_undo hI hn
  have e1 : F10_undo m = some (r, m1) := e1
  have e2 : F11_undo m1 = some (r, m2) := e2
  refine r_aload_n (pc := 979) hR (dc dt_L27 0 rfl) rfl ?_
  refine r_callV (pc := 980) (k := 0) (rest := []) hR (dc dt_L27 1 rfl) cl_L_126 tc_0 rfl (ok_F10_undo  e1) (by decide) rfl (Nat.le_of_ble_eq_true rfl) rfl (fun q980 => ?_)
  show Go 983 (LK b ad i) [iv (r)] m1
  refine r_aload_n (pc := 983) hR (dc dt_L27 2 rfl) rfl ?_
  refine r_callV (pc := 984) (k := 83) (rest := [iv (r)]) hR (dc dt_L27 3 rfl) cl_L_129 tc_83 rfl (ok_F11_undo  e2) (by decide) rfl (Nat.le_of_ble_eq_true rfl) rfl (fun q984 => ?_)
  show Go 987 (LK b ad i) [iv (r), iv (r)] m2
  exact r_icmp_eq (pc := 987) (tgt := 1419) hR (dc dt_L27 4 rfl) (by decide) q980 q980 (fun _ => kk m2 hI2) (fun h => absurd rfl h)
theorem lc_28 (hR : RS l G cy ad tt RL cL_law 4 1000 Go) (hS : SLD Go b Lz X) {i : Int} (hi : 0 ≤ i) (hl : i + 6 ≤ Lz) (hz : Lz ≤ 384) (hX : ∀ j, inR (X j)) {n : Nat} {m : Mem} (hI : Inv n m) (hn : n < 100000000) (kk : ∀ m2, Inv (n + 1) m2 → Go 1419 (LK b ad i) [] m2) : Go 992 (LK b ad i) [] m := by
  obtain ⟨r, m1, m2, e1, e2, hI2⟩ := st_redo hI hn
  have e1 : F10_redo m = some (r, m1) := e1
  have e2 : F11_redo m1 = some (r, m2) := e2
  refine r_aload_n (pc := 992) hR (dc dt_L28 0 rfl) rfl ?_
  refine r_callV (pc := 993) (k := 0) (rest := []) hR (dc dt_L28 1 rfl) cl_L_130 tc_0 rfl (ok_F10_redo  e1) (by decide) rfl (Nat.le_of_ble_eq_true rfl) rfl (fun q993 => ?_)
  show Go 996 (LK b ad i) [iv (r)] m1
  refine r_aload_n (pc := 996) hR (dc dt_L28 2 rfl) rfl ?_
  refine r_callV (pc := 997) (k := 83) (rest := [iv (r)]) hR (dc dt_L28 3 rfl) cl_L_133 tc_83 rfl (ok_F11_redo  e2) (by decide) rfl (Nat.le_of_ble_eq_true rfl) rfl (fun q997 => ?_)
  show Go 1000 (LK b ad i) [iv (r), iv (r)] m2
  exact r_icmp_eq (pc := 1000) (tgt := 1419) hR (dc dt_L28 4 rfl) (by decide) q993 q993 (fun _ => kk m2 hI2) (fun h => absurd rfl h)
theorem lc_29 (hR : RS l G cy ad tt RL cL_law 4 1000 Go) (hS : SLD Go b Lz X) {i : Int} (hi : 0 ≤ i) (hl : i + 6 ≤ Lz) (hz : Lz ≤ 384) (hX : ∀ j, inR (X j)) {n : Nat} {m : Mem} (hI : Inv n m) (hn : n < 100000000) (kk : ∀ m2, Inv (n + 1) m2 → Go 1419 (LK b ad i) [] m2) : Go 1005 (LK b ad i) [] m := by
  obtain ⟨r, e1, e2⟩ := st_digest hI
  have hI2 : Inv (n + 1) m := Inv_mono (by omega) hI
  refine r_aload_n (pc := 1005) hR (dc dt_L29 0 rfl) rfl ?_
  refine r_callV (pc := 1006) (k := 0) (rest := []) hR (dc dt_L29 1 rfl) cl_L_134 tc_0 rfl (ok_F10_digest  e1) (by decide) rfl (Nat.le_of_ble_eq_true rfl) rfl (fun q1006 => ?_)
  show Go 1009 (LK b ad i) [iv (r)] m
  refine r_aload_n (pc := 1009) hR (dc dt_L29 2 rfl) rfl ?_
  refine r_callV (pc := 1010) (k := 83) (rest := [iv (r)]) hR (dc dt_L29 3 rfl) cl_L_137 tc_83 rfl (ok_F11_digest  e2) (by decide) rfl (Nat.le_of_ble_eq_true rfl) rfl (fun q1010 => ?_)
  show Go 1013 (LK b ad i) [iv (r), iv (r)] m
  exact r_icmp_eq (pc := 1013) (tgt := 1419) hR (dc dt_L29 4 rfl) (by decide) q1006 q1006 (fun _ => kk m hI2) (fun h => absurd rfl h)
theorem lc_30 (hR : RS l G cy ad tt RL cL_law 4 1000 Go) (hS : SLD Go b Lz X) {i : Int} (hi : 0 ≤ i) (hl : i + 6 ≤ Lz) (hz : Lz ≤ 384) (hX : ∀ j, inR (X j)) {n : Nat} {m : Mem} (hI : Inv n m) (hn : n < 100000000) (kk : ∀ m2, Inv (n + 1) m2 → Go 1419 (LK b ad i) [] m2) : Go 1018 (LK b ad i) [] m := by
  obtain ⟨r, m1, m2, e1, e2, hI2⟩ := st_path ((X (i + 1))) ((X (i + 2))) hI (hX _) (hX _)
  have e1 : F10_path m ((X (i + 1))) ((X (i + 2))) = some (r, m1) := e1
  have e2 : F11_path m1 ((X (i + 1))) ((X (i + 2))) = some (r, m2) := e2
  refine r_aload_n (pc := 1018) hR (dc dt_L30 0 rfl) rfl ?_
  refine l_arg (pc := 1019) hR hS (dc dt_L30 1 rfl) (dc dt_L30 2 rfl) (dc dt_L30 3 rfl) (dc dt_L30 4 rfl) (dc dt_L30 5 rfl) hi (by decide) hl hz ?_
  refine l_arg (pc := 1024) hR hS (dc dt_L30 6 rfl) (dc dt_L30 7 rfl) (dc dt_L30 8 rfl) (dc dt_L30 9 rfl) (dc dt_L30 10 rfl) hi (by decide) hl hz ?_
  refine r_callV (pc := 1029) (k := 0) (rest := []) hR (dc dt_L30 11 rfl) cl_L_138 tc_0 rfl (ok_F10_path (hX _) (hX _) e1) (by decide) rfl (Nat.le_of_ble_eq_true rfl) rfl (fun q1029 => ?_)
  show Go 1032 (LK b ad i) [iv (r)] m1
  refine r_aload_n (pc := 1032) hR (dc dt_L30 12 rfl) rfl ?_
  refine l_arg (pc := 1033) hR hS (dc dt_L30 13 rfl) (dc dt_L30 14 rfl) (dc dt_L30 15 rfl) (dc dt_L30 16 rfl) (dc dt_L30 17 rfl) hi (by decide) hl hz ?_
  refine l_arg (pc := 1038) hR hS (dc dt_L30 18 rfl) (dc dt_L30 19 rfl) (dc dt_L30 20 rfl) (dc dt_L30 21 rfl) (dc dt_L30 22 rfl) hi (by decide) hl hz ?_
  refine r_callV (pc := 1043) (k := 83) (rest := [iv (r)]) hR (dc dt_L30 23 rfl) cl_L_141 tc_83 rfl (ok_F11_path (hX _) (hX _) e2) (by decide) rfl (Nat.le_of_ble_eq_true rfl) rfl (fun q1043 => ?_)
  show Go 1046 (LK b ad i) [iv (r), iv (r)] m2
  exact r_icmp_eq (pc := 1046) (tgt := 1419) hR (dc dt_L30 24 rfl) (by decide) q1029 q1029 (fun _ => kk m2 hI2) (fun h => absurd rfl h)
theorem lc_31 (hR : RS l G cy ad tt RL cL_law 4 1000 Go) (hS : SLD Go b Lz X) {i : Int} (hi : 0 ≤ i) (hl : i + 6 ≤ Lz) (hz : Lz ≤ 384) (hX : ∀ j, inR (X j)) {n : Nat} {m : Mem} (hI : Inv n m) (hn : n < 100000000) (kk : ∀ m2, Inv (n + 1) m2 → Go 1419 (LK b ad i) [] m2) : Go 1051 (LK b ad i) [] m := by
  obtain ⟨r, m1, m2, e1, e2, hI2⟩ := st_act ((X (i + 1))) ((X (i + 2))) ((X (i + 3))) hI
  have e1 : F10_act m ((X (i + 1))) ((X (i + 2))) ((X (i + 3))) = some (r, m1) := e1
  have e2 : F11_act m1 ((X (i + 1))) ((X (i + 2))) ((X (i + 3))) = some (r, m2) := e2
  refine r_aload_n (pc := 1051) hR (dc dt_L31 0 rfl) rfl ?_
  refine l_arg (pc := 1052) hR hS (dc dt_L31 1 rfl) (dc dt_L31 2 rfl) (dc dt_L31 3 rfl) (dc dt_L31 4 rfl) (dc dt_L31 5 rfl) hi (by decide) hl hz ?_
  refine l_arg (pc := 1057) hR hS (dc dt_L31 6 rfl) (dc dt_L31 7 rfl) (dc dt_L31 8 rfl) (dc dt_L31 9 rfl) (dc dt_L31 10 rfl) hi (by decide) hl hz ?_
  refine l_arg (pc := 1062) hR hS (dc dt_L31 11 rfl) (dc dt_L31 12 rfl) (dc dt_L31 13 rfl) (dc dt_L31 14 rfl) (dc dt_L31 15 rfl) hi (by decide) hl hz ?_
  refine r_callV (pc := 1067) (k := 0) (rest := []) hR (dc dt_L31 16 rfl) cl_L_142 tc_0 rfl (ok_F10_act (hX _) (hX _) (hX _) e1) (by decide) rfl (Nat.le_of_ble_eq_true rfl) rfl (fun q1067 => ?_)
  show Go 1070 (LK b ad i) [iv (r)] m1
  refine r_aload_n (pc := 1070) hR (dc dt_L31 17 rfl) rfl ?_
  refine l_arg (pc := 1071) hR hS (dc dt_L31 18 rfl) (dc dt_L31 19 rfl) (dc dt_L31 20 rfl) (dc dt_L31 21 rfl) (dc dt_L31 22 rfl) hi (by decide) hl hz ?_
  refine l_arg (pc := 1076) hR hS (dc dt_L31 23 rfl) (dc dt_L31 24 rfl) (dc dt_L31 25 rfl) (dc dt_L31 26 rfl) (dc dt_L31 27 rfl) hi (by decide) hl hz ?_
  refine l_arg (pc := 1081) hR hS (dc dt_L31 28 rfl) (dc dt_L31 29 rfl) (dc dt_L31 30 rfl) (dc dt_L31 31 rfl) (dc dt_L31 32 rfl) hi (by decide) hl hz ?_
  refine r_callV (pc := 1086) (k := 83) (rest := [iv (r)]) hR (dc dt_L31 33 rfl) cl_L_145 tc_83 rfl (ok_F11_act (hX _) (hX _) (hX _) e2) (by decide) rfl (Nat.le_of_ble_eq_true rfl) rfl (fun q1086 => ?_)
  show Go 1089 (LK b ad i) [iv (r), iv (r)] m2
  exact r_icmp_eq (pc := 1089) (tgt := 1419) hR (dc dt_L31 34 rfl) (by decide) q1067 q1067 (fun _ => kk m2 hI2) (fun h => absurd rfl h)
theorem lc_32 (hR : RS l G cy ad tt RL cL_law 4 1000 Go) (hS : SLD Go b Lz X) {i : Int} (hi : 0 ≤ i) (hl : i + 6 ≤ Lz) (hz : Lz ≤ 384) (hX : ∀ j, inR (X j)) {n : Nat} {m : Mem} (hI : Inv n m) (hn : n < 100000000) (kk : ∀ m2, Inv (n + 1) m2 → Go 1419 (LK b ad i) [] m2) : Go 1094 (LK b ad i) [] m := by
  obtain ⟨r, e1, e2⟩ := st_trace ((X (i + 1))) hI
  have hI2 : Inv (n + 1) m := Inv_mono (by omega) hI
  refine r_aload_n (pc := 1094) hR (dc dt_L32 0 rfl) rfl ?_
  refine l_arg (pc := 1095) hR hS (dc dt_L32 1 rfl) (dc dt_L32 2 rfl) (dc dt_L32 3 rfl) (dc dt_L32 4 rfl) (dc dt_L32 5 rfl) hi (by decide) hl hz ?_
  refine r_callV (pc := 1100) (k := 0) (rest := []) hR (dc dt_L32 6 rfl) cl_L_146 tc_0 rfl (ok_F10_trace (hX _) e1) (by decide) rfl (Nat.le_of_ble_eq_true rfl) rfl (fun q1100 => ?_)
  show Go 1103 (LK b ad i) [iv (r)] m
  refine r_aload_n (pc := 1103) hR (dc dt_L32 7 rfl) rfl ?_
  refine l_arg (pc := 1104) hR hS (dc dt_L32 8 rfl) (dc dt_L32 9 rfl) (dc dt_L32 10 rfl) (dc dt_L32 11 rfl) (dc dt_L32 12 rfl) hi (by decide) hl hz ?_
  refine r_callV (pc := 1109) (k := 83) (rest := [iv (r)]) hR (dc dt_L32 13 rfl) cl_L_149 tc_83 rfl (ok_F11_trace (hX _) e2) (by decide) rfl (Nat.le_of_ble_eq_true rfl) rfl (fun q1109 => ?_)
  show Go 1112 (LK b ad i) [iv (r), iv (r)] m
  exact r_icmp_eq (pc := 1112) (tgt := 1419) hR (dc dt_L32 14 rfl) (by decide) q1100 q1100 (fun _ => kk m hI2) (fun h => absurd rfl h)
theorem lc_33 (hR : RS l G cy ad tt RL cL_law 4 1000 Go) (hS : SLD Go b Lz X) {i : Int} (hi : 0 ≤ i) (hl : i + 6 ≤ Lz) (hz : Lz ≤ 384) (hX : ∀ j, inR (X j)) {n : Nat} {m : Mem} (hI : Inv n m) (hn : n < 100000000) (kk : ∀ m2, Inv (n + 1) m2 → Go 1419 (LK b ad i) [] m2) : Go 1117 (LK b ad i) [] m := by
  obtain ⟨r, m1, m2, e1, e2, hI2⟩ := st_keep ((X (i + 1))) ((X (i + 2))) hI (hX _) (hX _)
  have e1 : F10_keep m ((X (i + 1))) ((X (i + 2))) = some (r, m1) := e1
  have e2 : F11_keep m1 ((X (i + 1))) ((X (i + 2))) = some (r, m2) := e2
  refine r_aload_n (pc := 1117) hR (dc dt_L33 0 rfl) rfl ?_
  refine l_arg (pc := 1118) hR hS (dc dt_L33 1 rfl) (dc dt_L33 2 rfl) (dc dt_L33 3 rfl) (dc dt_L33 4 rfl) (dc dt_L33 5 rfl) hi (by decide) hl hz ?_
  refine l_arg (pc := 1123) hR hS (dc dt_L33 6 rfl) (dc dt_L33 7 rfl) (dc dt_L33 8 rfl) (dc dt_L33 9 rfl) (dc dt_L33 10 rfl) hi (by decide) hl hz ?_
  refine r_callV (pc := 1128) (k := 0) (rest := []) hR (dc dt_L33 11 rfl) cl_L_150 tc_0 rfl (ok_F10_keep (hX _) (hX _) e1) (by decide) rfl (Nat.le_of_ble_eq_true rfl) rfl (fun q1128 => ?_)
  show Go 1131 (LK b ad i) [iv (r)] m1
  refine r_aload_n (pc := 1131) hR (dc dt_L33 12 rfl) rfl ?_
  refine l_arg (pc := 1132) hR hS (dc dt_L33 13 rfl) (dc dt_L33 14 rfl) (dc dt_L33 15 rfl) (dc dt_L33 16 rfl) (dc dt_L33 17 rfl) hi (by decide) hl hz ?_
  refine l_arg (pc := 1137) hR hS (dc dt_L33 18 rfl) (dc dt_L33 19 rfl) (dc dt_L33 20 rfl) (dc dt_L33 21 rfl) (dc dt_L33 22 rfl) hi (by decide) hl hz ?_
  refine r_callV (pc := 1142) (k := 83) (rest := [iv (r)]) hR (dc dt_L33 23 rfl) cl_L_153 tc_83 rfl (ok_F11_keep (hX _) (hX _) e2) (by decide) rfl (Nat.le_of_ble_eq_true rfl) rfl (fun q1142 => ?_)
  show Go 1145 (LK b ad i) [iv (r), iv (r)] m2
  exact r_icmp_eq (pc := 1145) (tgt := 1419) hR (dc dt_L33 24 rfl) (by decide) q1128 q1128 (fun _ => kk m2 hI2) (fun h => absurd rfl h)
theorem lc_34 (hR : RS l G cy ad tt RL cL_law 4 1000 Go) (hS : SLD Go b Lz X) {i : Int} (hi : 0 ≤ i) (hl : i + 6 ≤ Lz) (hz : Lz ≤ 384) (hX : ∀ j, inR (X j)) {n : Nat} {m : Mem} (hI : Inv n m) (hn : n < 100000000) (kk : ∀ m2, Inv (n + 1) m2 → Go 1419 (LK b ad i) [] m2) : Go 1150 (LK b ad i) [] m := by
  obtain ⟨r, m1, m2, e1, e2, hI2⟩ := st_row ((X (i + 1))) ((X (i + 2))) ((X (i + 3))) hI
  have e1 : F10_row m ((X (i + 1))) ((X (i + 2))) ((X (i + 3))) = some (r, m1) := e1
  have e2 : F11_row m1 ((X (i + 1))) ((X (i + 2))) ((X (i + 3))) = some (r, m2) := e2
  refine r_aload_n (pc := 1150) hR (dc dt_L34 0 rfl) rfl ?_
  refine l_arg (pc := 1151) hR hS (dc dt_L34 1 rfl) (dc dt_L34 2 rfl) (dc dt_L34 3 rfl) (dc dt_L34 4 rfl) (dc dt_L34 5 rfl) hi (by decide) hl hz ?_
  refine l_arg (pc := 1156) hR hS (dc dt_L34 6 rfl) (dc dt_L34 7 rfl) (dc dt_L34 8 rfl) (dc dt_L34 9 rfl) (dc dt_L34 10 rfl) hi (by decide) hl hz ?_
  refine l_arg (pc := 1161) hR hS (dc dt_L34 11 rfl) (dc dt_L34 12 rfl) (dc dt_L34 13 rfl) (dc dt_L34 14 rfl) (dc dt_L34 15 rfl) hi (by decide) hl hz ?_
  refine r_callV (pc := 1166) (k := 0) (rest := []) hR (dc dt_L34 16 rfl) cl_L_154 tc_0 rfl (ok_F10_row (hX _) (hX _) (hX _) e1) (by decide) rfl (Nat.le_of_ble_eq_true rfl) rfl (fun q1166 => ?_)
  show Go 1169 (LK b ad i) [iv (r)] m1
  refine r_aload_n (pc := 1169) hR (dc dt_L34 17 rfl) rfl ?_
  refine l_arg (pc := 1170) hR hS (dc dt_L34 18 rfl) (dc dt_L34 19 rfl) (dc dt_L34 20 rfl) (dc dt_L34 21 rfl) (dc dt_L34 22 rfl) hi (by decide) hl hz ?_
  refine l_arg (pc := 1175) hR hS (dc dt_L34 23 rfl) (dc dt_L34 24 rfl) (dc dt_L34 25 rfl) (dc dt_L34 26 rfl) (dc dt_L34 27 rfl) hi (by decide) hl hz ?_
  refine l_arg (pc := 1180) hR hS (dc dt_L34 28 rfl) (dc dt_L34 29 rfl) (dc dt_L34 30 rfl) (dc dt_L34 31 rfl) (dc dt_L34 32 rfl) hi (by decide) hl hz ?_
  refine r_callV (pc := 1185) (k := 83) (rest := [iv (r)]) hR (dc dt_L34 33 rfl) cl_L_157 tc_83 rfl (ok_F11_row (hX _) (hX _) (hX _) e2) (by decide) rfl (Nat.le_of_ble_eq_true rfl) rfl (fun q1185 => ?_)
  show Go 1188 (LK b ad i) [iv (r), iv (r)] m2
  exact r_icmp_eq (pc := 1188) (tgt := 1419) hR (dc dt_L34 34 rfl) (by decide) q1166 q1166 (fun _ => kk m2 hI2) (fun h => absurd rfl h)
theorem lc_35 (hR : RS l G cy ad tt RL cL_law 4 1000 Go) (hS : SLD Go b Lz X) {i : Int} (hi : 0 ≤ i) (hl : i + 6 ≤ Lz) (hz : Lz ≤ 384) (hX : ∀ j, inR (X j)) {n : Nat} {m : Mem} (hI : Inv n m) (hn : n < 100000000) (kk : ∀ m2, Inv (n + 1) m2 → Go 1419 (LK b ad i) [] m2) : Go 1193 (LK b ad i) [] m := by
  obtain ⟨r, m1, m2, e1, e2, hI2⟩ := st_put ((X (i + 1))) ((X (i + 2))) ((lro ((lsl ((X (i + 3))) (32))) ((lnd ((X (i + 4))) (4294967295))))) hI (hX _) (tl_in _)
  have e1 : F10_put m ((X (i + 1))) ((X (i + 2))) ((lro ((lsl ((X (i + 3))) (32))) ((lnd ((X (i + 4))) (4294967295))))) = some (r, m1) := e1
  have e2 : F11_put m1 ((X (i + 1))) ((X (i + 2))) ((lro ((lsl ((X (i + 3))) (32))) ((lnd ((X (i + 4))) (4294967295))))) = some (r, m2) := e2
  refine r_aload_n (pc := 1193) hR (dc dt_L35 0 rfl) rfl ?_
  refine l_arg (pc := 1194) hR hS (dc dt_L35 1 rfl) (dc dt_L35 2 rfl) (dc dt_L35 3 rfl) (dc dt_L35 4 rfl) (dc dt_L35 5 rfl) hi (by decide) hl hz ?_
  refine l_arg (pc := 1199) hR hS (dc dt_L35 6 rfl) (dc dt_L35 7 rfl) (dc dt_L35 8 rfl) (dc dt_L35 9 rfl) (dc dt_L35 10 rfl) hi (by decide) hl hz ?_
  refine l_arg (pc := 1204) hR hS (dc dt_L35 11 rfl) (dc dt_L35 12 rfl) (dc dt_L35 13 rfl) (dc dt_L35 14 rfl) (dc dt_L35 15 rfl) hi (by decide) hl hz ?_
  refine r_i2l (pc := 1209) hR (dc dt_L35 16 rfl) (hX _) ?_
  refine r_bipush (pc := 1210) hR (dc dt_L35 17 rfl) (by decide) ?_
  refine r_lshl (pc := 1212) hR (dc dt_L35 18 rfl) ?_
  refine l_arg (pc := 1213) hR hS (dc dt_L35 19 rfl) (dc dt_L35 20 rfl) (dc dt_L35 21 rfl) (dc dt_L35 22 rfl) (dc dt_L35 23 rfl) hi (by decide) hl hz ?_
  refine r_i2l (pc := 1218) hR (dc dt_L35 24 rfl) (hX _) ?_
  refine r_ldc2 (pc := 1219) hR (dc dt_L35 25 rfl) kw_L_158 ?_
  refine r_land (pc := 1222) hR (dc dt_L35 26 rfl) ?_
  refine r_lor (pc := 1223) hR (dc dt_L35 27 rfl) ?_
  refine r_callV (pc := 1224) (k := 0) (rest := []) hR (dc dt_L35 28 rfl) cl_L_160 tc_0 rfl (ok_F10_put (hX _) (hX _) (tl_in _) e1) (by decide) rfl (Nat.le_of_ble_eq_true rfl) rfl (fun q1224 => ?_)
  show Go 1227 (LK b ad i) [iv (r)] m1
  refine r_aload_n (pc := 1227) hR (dc dt_L35 29 rfl) rfl ?_
  refine l_arg (pc := 1228) hR hS (dc dt_L35 30 rfl) (dc dt_L35 31 rfl) (dc dt_L35 32 rfl) (dc dt_L35 33 rfl) (dc dt_L35 34 rfl) hi (by decide) hl hz ?_
  refine l_arg (pc := 1233) hR hS (dc dt_L35 35 rfl) (dc dt_L35 36 rfl) (dc dt_L35 37 rfl) (dc dt_L35 38 rfl) (dc dt_L35 39 rfl) hi (by decide) hl hz ?_
  refine l_arg (pc := 1238) hR hS (dc dt_L35 40 rfl) (dc dt_L35 41 rfl) (dc dt_L35 42 rfl) (dc dt_L35 43 rfl) (dc dt_L35 44 rfl) hi (by decide) hl hz ?_
  refine r_i2l (pc := 1243) hR (dc dt_L35 45 rfl) (hX _) ?_
  refine r_bipush (pc := 1244) hR (dc dt_L35 46 rfl) (by decide) ?_
  refine r_lshl (pc := 1246) hR (dc dt_L35 47 rfl) ?_
  refine l_arg (pc := 1247) hR hS (dc dt_L35 48 rfl) (dc dt_L35 49 rfl) (dc dt_L35 50 rfl) (dc dt_L35 51 rfl) (dc dt_L35 52 rfl) hi (by decide) hl hz ?_
  refine r_i2l (pc := 1252) hR (dc dt_L35 53 rfl) (hX _) ?_
  refine r_ldc2 (pc := 1253) hR (dc dt_L35 54 rfl) kw_L_158 ?_
  refine r_land (pc := 1256) hR (dc dt_L35 55 rfl) ?_
  refine r_lor (pc := 1257) hR (dc dt_L35 56 rfl) ?_
  refine r_callV (pc := 1258) (k := 83) (rest := [iv (r)]) hR (dc dt_L35 57 rfl) cl_L_164 tc_83 rfl (ok_F11_put (hX _) (hX _) (tl_in _) e2) (by decide) rfl (Nat.le_of_ble_eq_true rfl) rfl (fun q1258 => ?_)
  show Go 1261 (LK b ad i) [iv (r), iv (r)] m2
  exact r_icmp_eq (pc := 1261) (tgt := 1419) hR (dc dt_L35 58 rfl) (by decide) q1224 q1224 (fun _ => kk m2 hI2) (fun h => absurd rfl h)
theorem lc_36 (hR : RS l G cy ad tt RL cL_law 4 1000 Go) (hS : SLD Go b Lz X) {i : Int} (hi : 0 ≤ i) (hl : i + 6 ≤ Lz) (hz : Lz ≤ 384) (hX : ∀ j, inR (X j)) {n : Nat} {m : Mem} (hI : Inv n m) (hn : n < 100000000) (kk : ∀ m2, Inv (n + 1) m2 → Go 1419 (LK b ad i) [] m2) : Go 1266 (LK b ad i) [] m := by
  obtain ⟨r, e1, e2⟩ := st_element ((X (i + 1))) ((X (i + 2))) hI (hX _)
  have hI2 : Inv (n + 1) m := Inv_mono (by omega) hI
  refine r_aload_n (pc := 1266) hR (dc dt_L36 0 rfl) rfl ?_
  refine l_arg (pc := 1267) hR hS (dc dt_L36 1 rfl) (dc dt_L36 2 rfl) (dc dt_L36 3 rfl) (dc dt_L36 4 rfl) (dc dt_L36 5 rfl) hi (by decide) hl hz ?_
  refine l_arg (pc := 1272) hR hS (dc dt_L36 6 rfl) (dc dt_L36 7 rfl) (dc dt_L36 8 rfl) (dc dt_L36 9 rfl) (dc dt_L36 10 rfl) hi (by decide) hl hz ?_
  refine r_callV (pc := 1277) (k := 0) (rest := []) hR (dc dt_L36 11 rfl) cl_L_165 tc_0 rfl (ok_F10_element (hX _) (hX _) e1) (by decide) rfl (Nat.le_of_ble_eq_true rfl) rfl (fun q1277 => ?_)
  show Go 1280 (LK b ad i) [jv (r)] m
  refine r_aload_n (pc := 1280) hR (dc dt_L36 12 rfl) rfl ?_
  refine l_arg (pc := 1281) hR hS (dc dt_L36 13 rfl) (dc dt_L36 14 rfl) (dc dt_L36 15 rfl) (dc dt_L36 16 rfl) (dc dt_L36 17 rfl) hi (by decide) hl hz ?_
  refine l_arg (pc := 1286) hR hS (dc dt_L36 18 rfl) (dc dt_L36 19 rfl) (dc dt_L36 20 rfl) (dc dt_L36 21 rfl) (dc dt_L36 22 rfl) hi (by decide) hl hz ?_
  refine r_callV (pc := 1291) (k := 83) (rest := [jv (r)]) hR (dc dt_L36 23 rfl) cl_L_169 tc_83 rfl (ok_F11_element (hX _) (hX _) e2) (by decide) rfl (Nat.le_of_ble_eq_true rfl) rfl (fun q1291 => ?_)
  show Go 1294 (LK b ad i) [jv (r), jv (r)] m
  refine r_lcmp (pc := 1294) hR (dc dt_L36 24 rfl) q1277 q1277 ?_
  exact r_if_eq (pc := 1295) (tgt := 1419) hR (dc dt_L36 25 rfl) (by decide) (lcm_in _ _) (fun _ => kk m hI2) (fun h => absurd (by unfold lcm'; rw [if_neg (Int.lt_irrefl _), if_pos rfl]) h)
theorem lc_37 (hR : RS l G cy ad tt RL cL_law 4 1000 Go) (hS : SLD Go b Lz X) {i : Int} (hi : 0 ≤ i) (hl : i + 6 ≤ Lz) (hz : Lz ≤ 384) (hX : ∀ j, inR (X j)) {n : Nat} {m : Mem} (hI : Inv n m) (hn : n < 100000000) (kk : ∀ m2, Inv (n + 1) m2 → Go 1419 (LK b ad i) [] m2) : Go 1300 (LK b ad i) [] m := by
  obtain ⟨r, m1, m2, e1, e2, hI2⟩ := st_shift ((X (i + 1))) ((X (i + 2))) ((X (i + 3))) ((X (i + 4))) ((X (i + 5))) hI (hX _) (hX _) (hX _)
  have e1 : F10_shift m ((X (i + 1))) ((X (i + 2))) ((X (i + 3))) ((X (i + 4))) ((X (i + 5))) = some (r, m1) := e1
  have e2 : F11_shift m1 ((X (i + 1))) ((X (i + 2))) ((X (i + 3))) ((X (i + 4))) ((X (i + 5))) = some (r, m2) := e2
  refine r_aload_n (pc := 1300) hR (dc dt_L37 0 rfl) rfl ?_
  refine l_arg (pc := 1301) hR hS (dc dt_L37 1 rfl) (dc dt_L37 2 rfl) (dc dt_L37 3 rfl) (dc dt_L37 4 rfl) (dc dt_L37 5 rfl) hi (by decide) hl hz ?_
  refine l_arg (pc := 1306) hR hS (dc dt_L37 6 rfl) (dc dt_L37 7 rfl) (dc dt_L37 8 rfl) (dc dt_L37 9 rfl) (dc dt_L37 10 rfl) hi (by decide) hl hz ?_
  refine l_arg (pc := 1311) hR hS (dc dt_L37 11 rfl) (dc dt_L37 12 rfl) (dc dt_L37 13 rfl) (dc dt_L37 14 rfl) (dc dt_L37 15 rfl) hi (by decide) hl hz ?_
  refine l_arg (pc := 1316) hR hS (dc dt_L37 16 rfl) (dc dt_L37 17 rfl) (dc dt_L37 18 rfl) (dc dt_L37 19 rfl) (dc dt_L37 20 rfl) hi (by decide) hl hz ?_
  refine l_arg (pc := 1321) hR hS (dc dt_L37 21 rfl) (dc dt_L37 22 rfl) (dc dt_L37 23 rfl) (dc dt_L37 24 rfl) (dc dt_L37 25 rfl) hi (by decide) hl hz ?_
  refine r_callV (pc := 1326) (k := 0) (rest := []) hR (dc dt_L37 26 rfl) cl_L_170 tc_0 rfl (ok_F10_shift (hX _) (hX _) (hX _) (hX _) (hX _) e1) (by decide) rfl (Nat.le_of_ble_eq_true rfl) rfl (fun q1326 => ?_)
  show Go 1329 (LK b ad i) [iv (r)] m1
  refine r_aload_n (pc := 1329) hR (dc dt_L37 27 rfl) rfl ?_
  refine l_arg (pc := 1330) hR hS (dc dt_L37 28 rfl) (dc dt_L37 29 rfl) (dc dt_L37 30 rfl) (dc dt_L37 31 rfl) (dc dt_L37 32 rfl) hi (by decide) hl hz ?_
  refine l_arg (pc := 1335) hR hS (dc dt_L37 33 rfl) (dc dt_L37 34 rfl) (dc dt_L37 35 rfl) (dc dt_L37 36 rfl) (dc dt_L37 37 rfl) hi (by decide) hl hz ?_
  refine l_arg (pc := 1340) hR hS (dc dt_L37 38 rfl) (dc dt_L37 39 rfl) (dc dt_L37 40 rfl) (dc dt_L37 41 rfl) (dc dt_L37 42 rfl) hi (by decide) hl hz ?_
  refine l_arg (pc := 1345) hR hS (dc dt_L37 43 rfl) (dc dt_L37 44 rfl) (dc dt_L37 45 rfl) (dc dt_L37 46 rfl) (dc dt_L37 47 rfl) hi (by decide) hl hz ?_
  refine l_arg (pc := 1350) hR hS (dc dt_L37 48 rfl) (dc dt_L37 49 rfl) (dc dt_L37 50 rfl) (dc dt_L37 51 rfl) (dc dt_L37 52 rfl) hi (by decide) hl hz ?_
  refine r_callV (pc := 1355) (k := 83) (rest := [iv (r)]) hR (dc dt_L37 53 rfl) cl_L_174 tc_83 rfl (ok_F11_shift (hX _) (hX _) (hX _) (hX _) (hX _) e2) (by decide) rfl (Nat.le_of_ble_eq_true rfl) rfl (fun q1355 => ?_)
  show Go 1358 (LK b ad i) [iv (r), iv (r)] m2
  exact r_icmp_eq (pc := 1358) (tgt := 1419) hR (dc dt_L37 54 rfl) (by decide) q1326 q1326 (fun _ => kk m2 hI2) (fun h => absurd rfl h)
theorem lc_38 (hR : RS l G cy ad tt RL cL_law 4 1000 Go) (hS : SLD Go b Lz X) {i : Int} (hi : 0 ≤ i) (hl : i + 6 ≤ Lz) (hz : Lz ≤ 384) (hX : ∀ j, inR (X j)) {n : Nat} {m : Mem} (hI : Inv n m) (hn : n < 100000000) (kk : ∀ m2, Inv (n + 1) m2 → Go 1419 (LK b ad i) [] m2) : Go 1363 (LK b ad i) [] m := by
  obtain ⟨r, e1, e2⟩ := st_taken ((X (i + 1))) ((X (i + 2))) hI (hX _)
  have hI2 : Inv (n + 1) m := Inv_mono (by omega) hI
  refine r_aload_n (pc := 1363) hR (dc dt_L38 0 rfl) rfl ?_
  refine l_arg (pc := 1364) hR hS (dc dt_L38 1 rfl) (dc dt_L38 2 rfl) (dc dt_L38 3 rfl) (dc dt_L38 4 rfl) (dc dt_L38 5 rfl) hi (by decide) hl hz ?_
  refine l_arg (pc := 1369) hR hS (dc dt_L38 6 rfl) (dc dt_L38 7 rfl) (dc dt_L38 8 rfl) (dc dt_L38 9 rfl) (dc dt_L38 10 rfl) hi (by decide) hl hz ?_
  refine r_callV (pc := 1374) (k := 0) (rest := []) hR (dc dt_L38 11 rfl) cl_L_175 tc_0 rfl (ok_F10_taken (hX _) (hX _) e1) (by decide) rfl (Nat.le_of_ble_eq_true rfl) rfl (fun q1374 => ?_)
  show Go 1377 (LK b ad i) [iv (r)] m
  refine r_aload_n (pc := 1377) hR (dc dt_L38 12 rfl) rfl ?_
  refine l_arg (pc := 1378) hR hS (dc dt_L38 13 rfl) (dc dt_L38 14 rfl) (dc dt_L38 15 rfl) (dc dt_L38 16 rfl) (dc dt_L38 17 rfl) hi (by decide) hl hz ?_
  refine l_arg (pc := 1383) hR hS (dc dt_L38 18 rfl) (dc dt_L38 19 rfl) (dc dt_L38 20 rfl) (dc dt_L38 21 rfl) (dc dt_L38 22 rfl) hi (by decide) hl hz ?_
  refine r_callV (pc := 1388) (k := 83) (rest := [iv (r)]) hR (dc dt_L38 23 rfl) cl_L_178 tc_83 rfl (ok_F11_taken (hX _) (hX _) e2) (by decide) rfl (Nat.le_of_ble_eq_true rfl) rfl (fun q1388 => ?_)
  show Go 1391 (LK b ad i) [iv (r), iv (r)] m
  exact r_icmp_eq (pc := 1391) (tgt := 1419) hR (dc dt_L38 24 rfl) (by decide) q1374 q1374 (fun _ => kk m hI2) (fun h => absurd rfl h)
theorem lc_39 (hR : RS l G cy ad tt RL cL_law 4 1000 Go) (hS : SLD Go b Lz X) {i : Int} (hi : 0 ≤ i) (hl : i + 6 ≤ Lz) (hz : Lz ≤ 384) (hX : ∀ j, inR (X j)) {n : Nat} {m : Mem} (hI : Inv n m) (hn : n < 100000000) (kk : ∀ m2, Inv (n + 1) m2 → Go 1419 (LK b ad i) [] m2) : Go 1396 (LK b ad i) [] m := by
  have e0 := st_count ((X (i + 1))) hI
  have hI2 : Inv (n + 1) m := Inv_mono (by omega) hI
  refine r_aload_n (pc := 1396) hR (dc dt_L39 0 rfl) rfl ?_
  refine l_arg (pc := 1397) hR hS (dc dt_L39 1 rfl) (dc dt_L39 2 rfl) (dc dt_L39 3 rfl) (dc dt_L39 4 rfl) (dc dt_L39 5 rfl) hi (by decide) hl hz ?_
  refine r_callV (pc := 1402) (k := 0) (rest := []) hR (dc dt_L39 6 rfl) cl_L_179 tc_0 rfl (ok_F10_count (hX _)) (by decide) rfl (Nat.le_of_ble_eq_true rfl) rfl (fun q1402 => ?_)
  show Go 1405 (LK b ad i) [iv (F10_count m ((X (i + 1))))] m
  refine r_aload_n (pc := 1405) hR (dc dt_L39 7 rfl) rfl ?_
  refine l_arg (pc := 1406) hR hS (dc dt_L39 8 rfl) (dc dt_L39 9 rfl) (dc dt_L39 10 rfl) (dc dt_L39 11 rfl) (dc dt_L39 12 rfl) hi (by decide) hl hz ?_
  refine r_callV (pc := 1411) (k := 83) (rest := [iv (F10_count m ((X (i + 1))))]) hR (dc dt_L39 13 rfl) cl_L_182 tc_83 rfl (ok_F11_count (hX _)) (by decide) rfl (Nat.le_of_ble_eq_true rfl) rfl (fun q1411 => ?_)
  show Go 1414 (LK b ad i) [iv (F11_count m ((X (i + 1)))), iv (F10_count m ((X (i + 1))))] m
  rw [← e0]
  exact r_icmp_eq (pc := 1414) (tgt := 1419) hR (dc dt_L39 14 rfl) (by decide) q1402 q1402 (fun _ => kk m hI2) (fun h => absurd rfl h)
end LAW
