/-! the methods: instructions by place, as decode gives them; what their constants mean -/
def tbX0_init_0 : List (Nat × (Instr × Nat)) := [(0, (.aload_n 0, 1)), (1, (.invokespecial 3, 3)), (4, (.aload_n 0, 1)), (5, (.bipush 12, 2)), (7, (.newarray .int, 2)), (9, (.putfield 9, 3)), (12, (.aload_n 0, 1)), (13, (.bipush 12, 2)), (15, (.newarray .int, 2)), (17, (.putfield 15, 3)), (20, (.aload_n 0, 1)), (21, (.bipush 12, 2)), (23, (.newarray .int, 2)), (25, (.putfield 18, 3)), (28, (.aload_n 0, 1)), (29, (.bipush 16, 2)), (31, (.newarray .int, 2)), (33, (.putfield 21, 3)), (36, (.aload_n 0, 1)), (37, (.bipush 16, 2)), (39, (.newarray .int, 2)), (41, (.putfield 24, 3)), (44, (.aload_n 0, 1)), (45, (.bipush 8, 2)), (47, (.newarray .int, 2)), (49, (.putfield 27, 3)), (52, (.aload_n 0, 1)), (53, (.bipush 8, 2)), (55, (.newarray .int, 2)), (57, (.putfield 30, 3)), (60, (.aload_n 0, 1)), (61, (.bipush 8, 2)), (63, (.newarray .int, 2)), (65, (.putfield 33, 3)), (68, (.aload_n 0, 1)), (69, (.bipush 16, 2)), (71, (.newarray .int, 2)), (73, (.putfield 36, 3)), (76, (.aload_n 0, 1)), (77, (.bipush 16, 2))]
theorem tkX0_init_0 : (tbX0_init_0.all fun q => decide (decode cX0_init q.1 = .ok q.2)) = true := by decide +kernel
def tbX0_init_1 : List (Nat × (Instr × Nat)) := [(79, (.newarray .int, 2)), (81, (.putfield 39, 3)), (84, (.aload_n 0, 1)), (85, (.bipush 16, 2)), (87, (.newarray .int, 2)), (89, (.putfield 42, 3)), (92, (.aload_n 0, 1)), (93, (.bipush 96, 2)), (95, (.newarray .int, 2)), (97, (.putfield 45, 3)), (100, (.aload_n 0, 1)), (101, (.bipush 20, 2)), (103, (.putfield 48, 3)), (106, (.aload_n 0, 1)), (107, (.getstatic 52, 3)), (110, (.putfield 55, 3)), (113, (.aload_n 0, 1)), (114, (.getstatic 52, 3)), (117, (.putfield 58, 3)), (120, (.return_, 1))]
theorem tkX0_init_1 : (tbX0_init_1.all fun q => decide (decode cX0_init q.1 = .ok q.2)) = true := by decide +kernel
def tbX0_init : List (Nat × (Instr × Nat)) := tbX0_init_0 ++ tbX0_init_1
theorem tkX0_init : (tbX0_init.all fun q => decide (decode cX0_init q.1 = .ok q.2)) = true := by
  unfold tbX0_init
  simp only [List.all_append, Bool.and_eq_true]
  exact ⟨tkX0_init_0, tkX0_init_1⟩
def tbX0_clear_0 : List (Nat × (Instr × Nat)) := [(0, (.aload_n 0, 1)), (1, (.iconst 0, 1)), (2, (.putfield 61, 3)), (5, (.aload_n 0, 1)), (6, (.iconst 0, 1)), (7, (.putfield 64, 3)), (10, (.aload_n 0, 1)), (11, (.iconst 0, 1)), (12, (.putfield 67, 3)), (15, (.aload_n 0, 1)), (16, (.iconst 0, 1)), (17, (.putfield 70, 3)), (20, (.aload_n 0, 1)), (21, (.getfield 45, 3)), (24, (.iconst (-1), 1)), (25, (.invokestatic 73, 3)), (28, (.aload_n 0, 1)), (29, (.iconst 0, 1)), (30, (.putfield 79, 3)), (33, (.aload_n 0, 1)), (34, (.bipush 20, 2)), (36, (.putfield 48, 3)), (39, (.aload_n 0, 1)), (40, (.getstatic 52, 3)), (43, (.putfield 55, 3)), (46, (.aload_n 0, 1)), (47, (.getstatic 52, 3)), (50, (.putfield 58, 3)), (53, (.return_, 1))]
theorem tkX0_clear_0 : (tbX0_clear_0.all fun q => decide (decode cX0_clear q.1 = .ok q.2)) = true := by decide +kernel
def tbX0_clear : List (Nat × (Instr × Nat)) := tbX0_clear_0
theorem tkX0_clear : (tbX0_clear.all fun q => decide (decode cX0_clear q.1 = .ok q.2)) = true := by
  unfold tbX0_clear
  simp only [List.all_append, Bool.and_eq_true]
  exact tkX0_clear_0
def tbX0_allFacts_0 : List (Nat × (Instr × Nat)) := [(0, (.iconst 1, 1)), (1, (.aload_n 0, 1)), (2, (.getfield 61, 3)), (5, (.ishl, 1)), (6, (.iconst 1, 1)), (7, (.isub, 1)), (8, (.ireturn, 1))]
theorem tkX0_allFacts_0 : (tbX0_allFacts_0.all fun q => decide (decode cX0_allFacts q.1 = .ok q.2)) = true := by decide +kernel
def tbX0_allFacts : List (Nat × (Instr × Nat)) := tbX0_allFacts_0
theorem tkX0_allFacts : (tbX0_allFacts.all fun q => decide (decode cX0_allFacts q.1 = .ok q.2)) = true := by
  unfold tbX0_allFacts
  simp only [List.all_append, Bool.and_eq_true]
  exact tkX0_allFacts_0
def tbX0_commonAt_0 : List (Nat × (Instr × Nat)) := [(0, (.iconst 0, 1)), (1, (.istore_n 2, 1)), (2, (.iconst 0, 1)), (3, (.istore_n 3, 1)), (4, (.iload_n 3, 1)), (5, (.aload_n 0, 1)), (6, (.getfield 61, 3)), (9, (.if_icmp .ge 25, 3)), (12, (.aload_n 0, 1)), (13, (.getfield 15, 3)), (16, (.iload_n 3, 1)), (17, (.iaload, 1)), (18, (.iload_n 1, 1)), (19, (.if_icmp .gt 9, 3)), (22, (.iload_n 2, 1)), (23, (.iconst 1, 1)), (24, (.iload_n 3, 1)), (25, (.ishl, 1)), (26, (.ior, 1)), (27, (.istore_n 2, 1)), (28, (.iinc 3 1, 3)), (31, (.goto (-27), 3)), (34, (.iload_n 2, 1)), (35, (.ireturn, 1))]
theorem tkX0_commonAt_0 : (tbX0_commonAt_0.all fun q => decide (decode cX0_commonAt q.1 = .ok q.2)) = true := by decide +kernel
def tbX0_commonAt : List (Nat × (Instr × Nat)) := tbX0_commonAt_0
theorem tkX0_commonAt : (tbX0_commonAt.all fun q => decide (decode cX0_commonAt q.1 = .ok q.2)) = true := by
  unfold tbX0_commonAt
  simp only [List.all_append, Bool.and_eq_true]
  exact tkX0_commonAt_0
def tbX0_worthOf_0 : List (Nat × (Instr × Nat)) := [(0, (.iconst 0, 1)), (1, (.istore_n 2, 1)), (2, (.iconst 0, 1)), (3, (.istore_n 3, 1)), (4, (.iload_n 3, 1)), (5, (.aload_n 0, 1)), (6, (.getfield 61, 3)), (9, (.if_icmp .ge 27, 3)), (12, (.iload_n 1, 1)), (13, (.iload_n 3, 1)), (14, (.ishr, 1)), (15, (.iconst 1, 1)), (16, (.iand, 1)), (17, (.iconst 1, 1)), (18, (.if_icmp .ne 12, 3)), (21, (.iload_n 2, 1)), (22, (.aload_n 0, 1)), (23, (.getfield 18, 3)), (26, (.iload_n 3, 1)), (27, (.iaload, 1)), (28, (.iadd, 1)), (29, (.istore_n 2, 1)), (30, (.iinc 3 1, 3)), (33, (.goto (-29), 3)), (36, (.iload_n 2, 1)), (37, (.ireturn, 1))]
theorem tkX0_worthOf_0 : (tbX0_worthOf_0.all fun q => decide (decode cX0_worthOf q.1 = .ok q.2)) = true := by decide +kernel
def tbX0_worthOf : List (Nat × (Instr × Nat)) := tbX0_worthOf_0
theorem tkX0_worthOf : (tbX0_worthOf.all fun q => decide (decode cX0_worthOf q.1 = .ok q.2)) = true := by
  unfold tbX0_worthOf
  simp only [List.all_append, Bool.and_eq_true]
  exact tkX0_worthOf_0
def tbX0_countGiving_0 : List (Nat × (Instr × Nat)) := [(0, (.iconst 0, 1)), (1, (.istore_n 2, 1)), (2, (.iconst 0, 1)), (3, (.istore_n 3, 1)), (4, (.iload_n 3, 1)), (5, (.aload_n 0, 1)), (6, (.getfield 64, 3)), (9, (.if_icmp .ge 22, 3)), (12, (.aload_n 0, 1)), (13, (.getfield 21, 3)), (16, (.iload_n 3, 1)), (17, (.iaload, 1)), (18, (.iload_n 1, 1)), (19, (.if_icmp .ne 6, 3)), (22, (.iinc 2 1, 3)), (25, (.iinc 3 1, 3)), (28, (.goto (-24), 3)), (31, (.iload_n 2, 1)), (32, (.ireturn, 1))]
theorem tkX0_countGiving_0 : (tbX0_countGiving_0.all fun q => decide (decode cX0_countGiving q.1 = .ok q.2)) = true := by decide +kernel
def tbX0_countGiving : List (Nat × (Instr × Nat)) := tbX0_countGiving_0
theorem tkX0_countGiving : (tbX0_countGiving.all fun q => decide (decode cX0_countGiving q.1 = .ok q.2)) = true := by
  unfold tbX0_countGiving
  simp only [List.all_append, Bool.and_eq_true]
  exact tkX0_countGiving_0
def tbX0_neededFor_0 : List (Nat × (Instr × Nat)) := [(0, (.iconst 0, 1)), (1, (.istore_n 2, 1)), (2, (.iconst 0, 1)), (3, (.istore_n 3, 1)), (4, (.iload_n 3, 1)), (5, (.aload_n 0, 1)), (6, (.getfield 64, 3)), (9, (.if_icmp .ge 34, 3)), (12, (.aload_n 0, 1)), (13, (.getfield 24, 3)), (16, (.iload_n 3, 1)), (17, (.iaload, 1)), (18, (.iload_n 1, 1)), (19, (.ishr, 1)), (20, (.iconst 1, 1)), (21, (.iand, 1)), (22, (.iconst 1, 1)), (23, (.if_icmp .ne 14, 3)), (26, (.iload_n 2, 1)), (27, (.iconst 1, 1)), (28, (.aload_n 0, 1)), (29, (.getfield 21, 3)), (32, (.iload_n 3, 1)), (33, (.iaload, 1)), (34, (.ishl, 1)), (35, (.ior, 1)), (36, (.istore_n 2, 1)), (37, (.iinc 3 1, 3)), (40, (.goto (-36), 3)), (43, (.iload_n 2, 1)), (44, (.ireturn, 1))]
theorem tkX0_neededFor_0 : (tbX0_neededFor_0.all fun q => decide (decode cX0_neededFor q.1 = .ok q.2)) = true := by decide +kernel
def tbX0_neededFor : List (Nat × (Instr × Nat)) := tbX0_neededFor_0
theorem tkX0_neededFor : (tbX0_neededFor.all fun q => decide (decode cX0_neededFor q.1 = .ok q.2)) = true := by
  unfold tbX0_neededFor
  simp only [List.all_append, Bool.and_eq_true]
  exact tkX0_neededFor_0
def tbX0_givesNew_0 : List (Nat × (Instr × Nat)) := [(0, (.aload_n 0, 1)), (1, (.getfield 24, 3)), (4, (.iload_n 1, 1)), (5, (.iaload, 1)), (6, (.istore_n 3, 1)), (7, (.iload_n 2, 1)), (8, (.iload_n 3, 1)), (9, (.iand, 1)), (10, (.iload_n 3, 1)), (11, (.if_icmp .ne 20, 3)), (14, (.iload_n 2, 1)), (15, (.aload_n 0, 1)), (16, (.getfield 21, 3)), (19, (.iload_n 1, 1)), (20, (.iaload, 1)), (21, (.ishr, 1)), (22, (.iconst 1, 1)), (23, (.iand, 1)), (24, (.ifCond .ne 7, 3)), (27, (.iconst 1, 1)), (28, (.goto 4, 3)), (31, (.iconst 0, 1)), (32, (.ireturn, 1))]
theorem tkX0_givesNew_0 : (tbX0_givesNew_0.all fun q => decide (decode cX0_givesNew q.1 = .ok q.2)) = true := by decide +kernel
def tbX0_givesNew : List (Nat × (Instr × Nat)) := tbX0_givesNew_0
theorem tkX0_givesNew : (tbX0_givesNew.all fun q => decide (decode cX0_givesNew q.1 = .ok q.2)) = true := by
  unfold tbX0_givesNew
  simp only [List.all_append, Bool.and_eq_true]
  exact tkX0_givesNew_0
def tbX0_isClosed_0 : List (Nat × (Instr × Nat)) := [(0, (.iconst 0, 1)), (1, (.istore_n 2, 1)), (2, (.iload_n 2, 1)), (3, (.aload_n 0, 1)), (4, (.getfield 64, 3)), (7, (.if_icmp .ge 20, 3)), (10, (.aload_n 0, 1)), (11, (.iload_n 2, 1)), (12, (.iload_n 1, 1)), (13, (.invokevirtual 82, 3)), (16, (.ifCond .eq 5, 3)), (19, (.iconst 0, 1)), (20, (.ireturn, 1)), (21, (.iinc 2 1, 3)), (24, (.goto (-22), 3)), (27, (.iconst 1, 1)), (28, (.ireturn, 1))]
theorem tkX0_isClosed_0 : (tbX0_isClosed_0.all fun q => decide (decode cX0_isClosed q.1 = .ok q.2)) = true := by decide +kernel
def tbX0_isClosed : List (Nat × (Instr × Nat)) := tbX0_isClosed_0
theorem tkX0_isClosed : (tbX0_isClosed.all fun q => decide (decode cX0_isClosed q.1 = .ok q.2)) = true := by
  unfold tbX0_isClosed
  simp only [List.all_append, Bool.and_eq_true]
  exact tkX0_isClosed_0
def tbX0_closed_0 : List (Nat × (Instr × Nat)) := [(0, (.iload_n 1, 1)), (1, (.istore_n 2, 1)), (2, (.iconst 0, 1)), (3, (.istore_n 3, 1)), (4, (.iload_n 3, 1)), (5, (.bipush 12, 2)), (7, (.if_icmp .ge 61, 3)), (10, (.iload_n 2, 1)), (11, (.istore 4, 2)), (13, (.iconst 0, 1)), (14, (.istore 5, 2)), (16, (.iload 5, 2)), (18, (.aload_n 0, 1)), (19, (.getfield 64, 3)), (22, (.if_icmp .ge 31, 3)), (25, (.aload_n 0, 1)), (26, (.iload 5, 2)), (28, (.iload_n 2, 1)), (29, (.invokevirtual 82, 3)), (32, (.ifCond .eq 15, 3)), (35, (.iload_n 2, 1)), (36, (.iconst 1, 1)), (37, (.aload_n 0, 1)), (38, (.getfield 21, 3)), (41, (.iload 5, 2)), (43, (.iaload, 1)), (44, (.ishl, 1)), (45, (.ior, 1)), (46, (.istore_n 2, 1)), (47, (.iinc 5 1, 3)), (50, (.goto (-34), 3)), (53, (.iload_n 2, 1)), (54, (.iload 4, 2)), (56, (.if_icmp .ne 6, 3)), (59, (.goto 9, 3)), (62, (.iinc 3 1, 3)), (65, (.goto (-61), 3)), (68, (.iload_n 2, 1)), (69, (.ireturn, 1))]
theorem tkX0_closed_0 : (tbX0_closed_0.all fun q => decide (decode cX0_closed q.1 = .ok q.2)) = true := by decide +kernel
def tbX0_closed : List (Nat × (Instr × Nat)) := tbX0_closed_0
theorem tkX0_closed : (tbX0_closed.all fun q => decide (decode cX0_closed q.1 = .ok q.2)) = true := by
  unfold tbX0_closed
  simp only [List.all_append, Bool.and_eq_true]
  exact tkX0_closed_0
def tbX2_init_0 : List (Nat × (Instr × Nat)) := [(0, (.aload_n 0, 1)), (1, (.invokespecial 3, 3)), (4, (.aload_n 0, 1)), (5, (.new 9, 3)), (8, (.dup, 1)), (9, (.invokespecial 11, 3)), (12, (.putfield 12, 3)), (15, (.aload_n 0, 1)), (16, (.new 18, 3)), (19, (.dup, 1)), (20, (.invokespecial 20, 3)), (23, (.putfield 21, 3)), (26, (.return_, 1))]
theorem tkX2_init_0 : (tbX2_init_0.all fun q => decide (decode cX2_init q.1 = .ok q.2)) = true := by decide +kernel
def tbX2_init : List (Nat × (Instr × Nat)) := tbX2_init_0
theorem tkX2_init : (tbX2_init.all fun q => decide (decode cX2_init q.1 = .ok q.2)) = true := by
  unfold tbX2_init
  simp only [List.all_append, Bool.and_eq_true]
  exact tkX2_init_0
def tbX2_setOut_0 : List (Nat × (Instr × Nat)) := [(0, (.aload_n 1, 1)), (1, (.invokevirtual 25, 3)), (4, (.aload_n 0, 1)), (5, (.getfield 12, 3)), (8, (.getfield 30, 3)), (11, (.iconst 0, 1)), (12, (.aload_n 1, 1)), (13, (.getfield 34, 3)), (16, (.iconst 0, 1)), (17, (.bipush 96, 2)), (19, (.invokestatic 35, 3)), (22, (.iconst 0, 1)), (23, (.istore_n 2, 1)), (24, (.iload_n 2, 1)), (25, (.aload_n 0, 1)), (26, (.getfield 12, 3)), (29, (.getfield 41, 3)), (32, (.if_icmp .ge 24, 3)), (35, (.aload_n 1, 1)), (36, (.getfield 45, 3)), (39, (.iload_n 2, 1)), (40, (.aload_n 0, 1)), (41, (.getfield 12, 3)), (44, (.getfield 48, 3)), (47, (.iload_n 2, 1)), (48, (.iaload, 1)), (49, (.iastore, 1)), (50, (.iinc 2 1, 3)), (53, (.goto (-29), 3)), (56, (.aload_n 1, 1)), (57, (.iconst (-1), 1)), (58, (.putfield 49, 3)), (61, (.aload_n 0, 1)), (62, (.aload_n 1, 1)), (63, (.invokevirtual 52, 3)), (66, (.return_, 1))]
theorem tkX2_setOut_0 : (tbX2_setOut_0.all fun q => decide (decode cX2_setOut q.1 = .ok q.2)) = true := by decide +kernel
def tbX2_setOut : List (Nat × (Instr × Nat)) := tbX2_setOut_0
theorem tkX2_setOut : (tbX2_setOut.all fun q => decide (decode cX2_setOut q.1 = .ok q.2)) = true := by
  unfold tbX2_setOut
  simp only [List.all_append, Bool.and_eq_true]
  exact tkX2_setOut_0
def tbX2_nextDay_0 : List (Nat × (Instr × Nat)) := [(0, (.aload_n 1, 1)), (1, (.dup, 1)), (2, (.getfield 49, 3)), (5, (.iconst 1, 1)), (6, (.iadd, 1)), (7, (.putfield 49, 3)), (10, (.aload_n 1, 1)), (11, (.invokevirtual 56, 3)), (14, (.aload_n 0, 1)), (15, (.getfield 12, 3)), (18, (.aload_n 1, 1)), (19, (.getfield 49, 3)), (22, (.invokevirtual 59, 3)), (25, (.istore_n 2, 1)), (26, (.iconst 0, 1)), (27, (.istore_n 3, 1)), (28, (.iload_n 3, 1)), (29, (.aload_n 0, 1)), (30, (.getfield 12, 3)), (33, (.getfield 41, 3)), (36, (.if_icmp .ge 28, 3)), (39, (.aload_n 1, 1)), (40, (.getfield 63, 3)), (43, (.iload_n 3, 1)), (44, (.dup2, 1)), (45, (.iaload, 1)), (46, (.iload_n 2, 1)), (47, (.aload_n 1, 1)), (48, (.getfield 66, 3)), (51, (.iload_n 3, 1)), (52, (.iaload, 1)), (53, (.iconst (-1), 1)), (54, (.ixor, 1)), (55, (.iand, 1)), (56, (.ior, 1)), (57, (.iastore, 1)), (58, (.iinc 3 1, 3)), (61, (.goto (-33), 3)), (64, (.iconst 0, 1)), (65, (.istore_n 3, 1))]
theorem tkX2_nextDay_0 : (tbX2_nextDay_0.all fun q => decide (decode cX2_nextDay q.1 = .ok q.2)) = true := by decide +kernel
def tbX2_nextDay_1 : List (Nat × (Instr × Nat)) := [(66, (.iload_n 3, 1)), (67, (.aload_n 0, 1)), (68, (.getfield 12, 3)), (71, (.getfield 41, 3)), (74, (.if_icmp .ge 15, 3)), (77, (.aload_n 0, 1)), (78, (.aload_n 1, 1)), (79, (.iload_n 3, 1)), (80, (.invokevirtual 69, 3)), (83, (.iinc 3 1, 3)), (86, (.goto (-20), 3)), (89, (.aload_n 1, 1)), (90, (.getfield 49, 3)), (93, (.bipush 7, 2)), (95, (.irem, 1)), (96, (.istore_n 3, 1)), (97, (.iconst 0, 1)), (98, (.istore 4, 2)), (100, (.iload 4, 2)), (102, (.aload_n 0, 1)), (103, (.getfield 12, 3)), (106, (.getfield 73, 3)), (109, (.if_icmp .ge 48, 3)), (112, (.aload_n 0, 1)), (113, (.getfield 12, 3)), (116, (.getfield 76, 3)), (119, (.iload 4, 2)), (121, (.iaload, 1)), (122, (.iload_n 3, 1)), (123, (.if_icmp .ne 28, 3)), (126, (.aload_n 0, 1)), (127, (.aload_n 1, 1)), (128, (.aload_n 0, 1)), (129, (.getfield 12, 3)), (132, (.getfield 79, 3)), (135, (.iload 4, 2)), (137, (.iaload, 1)), (138, (.aload_n 0, 1)), (139, (.getfield 12, 3)), (142, (.getfield 82, 3))]
theorem tkX2_nextDay_1 : (tbX2_nextDay_1.all fun q => decide (decode cX2_nextDay q.1 = .ok q.2)) = true := by decide +kernel
def tbX2_nextDay_2 : List (Nat × (Instr × Nat)) := [(145, (.iload 4, 2)), (147, (.iaload, 1)), (148, (.invokevirtual 85, 3)), (151, (.iinc 4 1, 3)), (154, (.goto (-54), 3)), (157, (.return_, 1))]
theorem tkX2_nextDay_2 : (tbX2_nextDay_2.all fun q => decide (decode cX2_nextDay q.1 = .ok q.2)) = true := by decide +kernel
def tbX2_nextDay : List (Nat × (Instr × Nat)) := tbX2_nextDay_0 ++ tbX2_nextDay_1 ++ tbX2_nextDay_2
theorem tkX2_nextDay : (tbX2_nextDay.all fun q => decide (decode cX2_nextDay q.1 = .ok q.2)) = true := by
  unfold tbX2_nextDay
  simp only [List.all_append, Bool.and_eq_true]
  exact ⟨⟨tkX2_nextDay_0, tkX2_nextDay_1⟩, tkX2_nextDay_2⟩
def tbX2_meet_0 : List (Nat × (Instr × Nat)) := [(0, (.aload_n 1, 1)), (1, (.getfield 63, 3)), (4, (.iload_n 2, 1)), (5, (.iaload, 1)), (6, (.aload_n 1, 1)), (7, (.getfield 63, 3)), (10, (.iload_n 3, 1)), (11, (.iaload, 1)), (12, (.iconst (-1), 1)), (13, (.ixor, 1)), (14, (.iand, 1)), (15, (.aload_n 1, 1)), (16, (.getfield 66, 3)), (19, (.iload_n 3, 1)), (20, (.iaload, 1)), (21, (.iconst (-1), 1)), (22, (.ixor, 1)), (23, (.iand, 1)), (24, (.istore 4, 2)), (26, (.aload_n 0, 1)), (27, (.getfield 12, 3)), (30, (.getfield 89, 3)), (33, (.arraylength, 1)), (34, (.ifCond .le 33, 3)), (37, (.aload_n 0, 1)), (38, (.aload_n 1, 1)), (39, (.iload_n 2, 1)), (40, (.invokevirtual 92, 3)), (43, (.aload_n 0, 1)), (44, (.getfield 21, 3)), (47, (.aload_n 0, 1)), (48, (.getfield 12, 3)), (51, (.getfield 95, 3)), (54, (.iload_n 3, 1)), (55, (.iaload, 1)), (56, (.putfield 98, 3)), (59, (.aload_n 0, 1)), (60, (.iload 4, 2)), (62, (.invokevirtual 101, 3)), (65, (.istore 4, 2))]
theorem tkX2_meet_0 : (tbX2_meet_0.all fun q => decide (decode cX2_meet q.1 = .ok q.2)) = true := by decide +kernel
def tbX2_meet_1 : List (Nat × (Instr × Nat)) := [(67, (.aload_n 1, 1)), (68, (.getfield 63, 3)), (71, (.iload_n 3, 1)), (72, (.dup2, 1)), (73, (.iaload, 1)), (74, (.iload 4, 2)), (76, (.ior, 1)), (77, (.iastore, 1)), (78, (.aload_n 0, 1)), (79, (.aload_n 1, 1)), (80, (.iload_n 3, 1)), (81, (.invokevirtual 69, 3)), (84, (.return_, 1))]
theorem tkX2_meet_1 : (tbX2_meet_1.all fun q => decide (decode cX2_meet q.1 = .ok q.2)) = true := by decide +kernel
def tbX2_meet : List (Nat × (Instr × Nat)) := tbX2_meet_0 ++ tbX2_meet_1
theorem tkX2_meet : (tbX2_meet.all fun q => decide (decode cX2_meet q.1 = .ok q.2)) = true := by
  unfold tbX2_meet
  simp only [List.all_append, Bool.and_eq_true]
  exact ⟨tkX2_meet_0, tkX2_meet_1⟩
def tbX2_onesToTell_0 : List (Nat × (Instr × Nat)) := [(0, (.iconst 0, 1)), (1, (.istore_n 2, 1)), (2, (.iconst 0, 1)), (3, (.istore_n 3, 1)), (4, (.iload_n 3, 1)), (5, (.aload_n 0, 1)), (6, (.getfield 12, 3)), (9, (.getfield 104, 3)), (12, (.if_icmp .ge 53, 3)), (15, (.iload_n 1, 1)), (16, (.iload_n 3, 1)), (17, (.ishr, 1)), (18, (.iconst 1, 1)), (19, (.iand, 1)), (20, (.iconst 1, 1)), (21, (.if_icmp .ne 38, 3)), (24, (.aload_n 0, 1)), (25, (.getfield 21, 3)), (28, (.aload_n 0, 1)), (29, (.getfield 12, 3)), (32, (.getfield 107, 3)), (35, (.iload_n 3, 1)), (36, (.iaload, 1)), (37, (.putfield 110, 3)), (40, (.iload_n 2, 1)), (41, (.aload_n 0, 1)), (42, (.getfield 21, 3)), (45, (.aload_n 0, 1)), (46, (.getfield 12, 3)), (49, (.getfield 89, 3)), (52, (.invokevirtual 112, 3)), (55, (.iload_n 3, 1)), (56, (.ishl, 1)), (57, (.ior, 1)), (58, (.istore_n 2, 1)), (59, (.iinc 3 1, 3)), (62, (.goto (-58), 3)), (65, (.iload_n 2, 1)), (66, (.ireturn, 1))]
theorem tkX2_onesToTell_0 : (tbX2_onesToTell_0.all fun q => decide (decode cX2_onesToTell q.1 = .ok q.2)) = true := by decide +kernel
def tbX2_onesToTell : List (Nat × (Instr × Nat)) := tbX2_onesToTell_0
theorem tkX2_onesToTell : (tbX2_onesToTell.all fun q => decide (decode cX2_onesToTell q.1 = .ok q.2)) = true := by
  unfold tbX2_onesToTell
  simp only [List.all_append, Bool.and_eq_true]
  exact tkX2_onesToTell_0
def tbX2_inferAll_0 : List (Nat × (Instr × Nat)) := [(0, (.iconst 0, 1)), (1, (.istore_n 3, 1)), (2, (.iload_n 3, 1)), (3, (.bipush 12, 2)), (5, (.if_icmp .ge 87, 3)), (8, (.aload_n 1, 1)), (9, (.getfield 63, 3)), (12, (.iload_n 2, 1)), (13, (.iaload, 1)), (14, (.istore 4, 2)), (16, (.iconst 0, 1)), (17, (.istore 5, 2)), (19, (.iload 5, 2)), (21, (.aload_n 0, 1)), (22, (.getfield 12, 3)), (25, (.getfield 116, 3)), (28, (.if_icmp .ge 44, 3)), (31, (.aload_n 0, 1)), (32, (.getfield 12, 3)), (35, (.iload 5, 2)), (37, (.aload_n 1, 1)), (38, (.getfield 63, 3)), (41, (.iload_n 2, 1)), (42, (.iaload, 1)), (43, (.invokevirtual 119, 3)), (46, (.ifCond .eq 20, 3)), (49, (.aload_n 1, 1)), (50, (.iload_n 2, 1)), (51, (.aload_n 0, 1)), (52, (.getfield 12, 3)), (55, (.getfield 123, 3)), (58, (.iload 5, 2)), (60, (.iaload, 1)), (61, (.iload 5, 2)), (63, (.invokevirtual 126, 3)), (66, (.iinc 5 1, 3)), (69, (.goto (-50), 3)), (72, (.aload_n 1, 1)), (73, (.getfield 63, 3)), (76, (.iload_n 2, 1))]
theorem tkX2_inferAll_0 : (tbX2_inferAll_0.all fun q => decide (decode cX2_inferAll q.1 = .ok q.2)) = true := by decide +kernel
def tbX2_inferAll_1 : List (Nat × (Instr × Nat)) := [(77, (.iaload, 1)), (78, (.iload 4, 2)), (80, (.if_icmp .ne 6, 3)), (83, (.goto 9, 3)), (86, (.iinc 3 1, 3)), (89, (.goto (-87), 3)), (92, (.return_, 1))]
theorem tkX2_inferAll_1 : (tbX2_inferAll_1.all fun q => decide (decode cX2_inferAll q.1 = .ok q.2)) = true := by decide +kernel
def tbX2_inferAll : List (Nat × (Instr × Nat)) := tbX2_inferAll_0 ++ tbX2_inferAll_1
theorem tkX2_inferAll : (tbX2_inferAll.all fun q => decide (decode cX2_inferAll q.1 = .ok q.2)) = true := by
  unfold tbX2_inferAll
  simp only [List.all_append, Bool.and_eq_true]
  exact ⟨tkX2_inferAll_0, tkX2_inferAll_1⟩
def tbX2_hearAtDoor_0 : List (Nat × (Instr × Nat)) := [(0, (.aload_n 1, 1)), (1, (.getfield 63, 3)), (4, (.iload_n 2, 1)), (5, (.iaload, 1)), (6, (.invokestatic 130, 3)), (9, (.istore 4, 2)), (11, (.aload_n 1, 1)), (12, (.getfield 63, 3)), (15, (.iload_n 2, 1)), (16, (.dup2, 1)), (17, (.iaload, 1)), (18, (.iconst 1, 1)), (19, (.iload_n 3, 1)), (20, (.ishl, 1)), (21, (.ior, 1)), (22, (.iastore, 1)), (23, (.aload_n 0, 1)), (24, (.aload_n 1, 1)), (25, (.iload_n 2, 1)), (26, (.invokevirtual 69, 3)), (29, (.aload_n 1, 1)), (30, (.getfield 63, 3)), (33, (.iload_n 2, 1)), (34, (.iaload, 1)), (35, (.invokestatic 130, 3)), (38, (.iload 4, 2)), (40, (.isub, 1)), (41, (.ireturn, 1))]
theorem tkX2_hearAtDoor_0 : (tbX2_hearAtDoor_0.all fun q => decide (decode cX2_hearAtDoor q.1 = .ok q.2)) = true := by decide +kernel
def tbX2_hearAtDoor : List (Nat × (Instr × Nat)) := tbX2_hearAtDoor_0
theorem tkX2_hearAtDoor : (tbX2_hearAtDoor.all fun q => decide (decode cX2_hearAtDoor q.1 = .ok q.2)) = true := by
  unfold tbX2_hearAtDoor
  simp only [List.all_append, Bool.and_eq_true]
  exact tkX2_hearAtDoor_0
def tbX2_inStock_0 : List (Nat × (Instr × Nat)) := [(0, (.aload_n 0, 1)), (1, (.getfield 12, 3)), (4, (.getfield 135, 3)), (7, (.aload_n 1, 1)), (8, (.invokevirtual 138, 3)), (11, (.isub, 1)), (12, (.ireturn, 1))]
theorem tkX2_inStock_0 : (tbX2_inStock_0.all fun q => decide (decode cX2_inStock q.1 = .ok q.2)) = true := by decide +kernel
def tbX2_inStock : List (Nat × (Instr × Nat)) := tbX2_inStock_0
theorem tkX2_inStock : (tbX2_inStock.all fun q => decide (decode cX2_inStock q.1 = .ok q.2)) = true := by
  unfold tbX2_inStock
  simp only [List.all_append, Bool.and_eq_true]
  exact tkX2_inStock_0
def tbX2_blissOf_0 : List (Nat × (Instr × Nat)) := [(0, (.aload_n 0, 1)), (1, (.getfield 12, 3)), (4, (.aload_n 0, 1)), (5, (.getfield 12, 3)), (8, (.aload_n 1, 1)), (9, (.getfield 49, 3)), (12, (.invokevirtual 59, 3)), (15, (.aload_n 1, 1)), (16, (.getfield 63, 3)), (19, (.iload_n 2, 1)), (20, (.iaload, 1)), (21, (.iconst (-1), 1)), (22, (.ixor, 1)), (23, (.iand, 1)), (24, (.invokevirtual 142, 3)), (27, (.ireturn, 1))]
theorem tkX2_blissOf_0 : (tbX2_blissOf_0.all fun q => decide (decode cX2_blissOf q.1 = .ok q.2)) = true := by decide +kernel
def tbX2_blissOf : List (Nat × (Instr × Nat)) := tbX2_blissOf_0
theorem tkX2_blissOf : (tbX2_blissOf.all fun q => decide (decode cX2_blissOf q.1 = .ok q.2)) = true := by
  unfold tbX2_blissOf
  simp only [List.all_append, Bool.and_eq_true]
  exact tkX2_blissOf_0
def tbX2_blissOfAll_0 : List (Nat × (Instr × Nat)) := [(0, (.iconst 0, 1)), (1, (.istore_n 2, 1)), (2, (.iconst 0, 1)), (3, (.istore_n 3, 1)), (4, (.iload_n 3, 1)), (5, (.aload_n 0, 1)), (6, (.getfield 12, 3)), (9, (.getfield 41, 3)), (12, (.if_icmp .ge 18, 3)), (15, (.iload_n 2, 1)), (16, (.aload_n 0, 1)), (17, (.aload_n 1, 1)), (18, (.iload_n 3, 1)), (19, (.invokevirtual 145, 3)), (22, (.iadd, 1)), (23, (.istore_n 2, 1)), (24, (.iinc 3 1, 3)), (27, (.goto (-23), 3)), (30, (.iload_n 2, 1)), (31, (.ireturn, 1))]
theorem tkX2_blissOfAll_0 : (tbX2_blissOfAll_0.all fun q => decide (decode cX2_blissOfAll q.1 = .ok q.2)) = true := by decide +kernel
def tbX2_blissOfAll : List (Nat × (Instr × Nat)) := tbX2_blissOfAll_0
theorem tkX2_blissOfAll : (tbX2_blissOfAll.all fun q => decide (decode cX2_blissOfAll q.1 = .ok q.2)) = true := by
  unfold tbX2_blissOfAll
  simp only [List.all_append, Bool.and_eq_true]
  exact tkX2_blissOfAll_0
def tbX2_priceOf_0 : List (Nat × (Instr × Nat)) := [(0, (.aload_n 0, 1)), (1, (.getfield 12, 3)), (4, (.getfield 149, 3)), (7, (.arraylength, 1)), (8, (.ifCond .ne 5, 3)), (11, (.iconst 0, 1)), (12, (.ireturn, 1)), (13, (.aload_n 0, 1)), (14, (.aload_n 1, 1)), (15, (.iload_n 2, 1)), (16, (.invokevirtual 92, 3)), (19, (.aload_n 0, 1)), (20, (.getfield 21, 3)), (23, (.aload_n 0, 1)), (24, (.getfield 12, 3)), (27, (.getfield 107, 3)), (30, (.iload_n 3, 1)), (31, (.iaload, 1)), (32, (.putfield 110, 3)), (35, (.aload_n 0, 1)), (36, (.getfield 21, 3)), (39, (.iload 4, 2)), (41, (.putfield 152, 3)), (44, (.iconst 0, 1)), (45, (.sipush 999, 3)), (48, (.aload_n 0, 1)), (49, (.getfield 21, 3)), (52, (.aload_n 0, 1)), (53, (.getfield 12, 3)), (56, (.getfield 149, 3)), (59, (.invokevirtual 112, 3)), (62, (.invokestatic 155, 3)), (65, (.invokestatic 161, 3)), (68, (.ireturn, 1))]
theorem tkX2_priceOf_0 : (tbX2_priceOf_0.all fun q => decide (decode cX2_priceOf q.1 = .ok q.2)) = true := by decide +kernel
def tbX2_priceOf : List (Nat × (Instr × Nat)) := tbX2_priceOf_0
theorem tkX2_priceOf : (tbX2_priceOf.all fun q => decide (decode cX2_priceOf q.1 = .ok q.2)) = true := by
  unfold tbX2_priceOf
  simp only [List.all_append, Bool.and_eq_true]
  exact tkX2_priceOf_0
def tbX2_lookAt_0 : List (Nat × (Instr × Nat)) := [(0, (.aload_n 0, 1)), (1, (.getfield 21, 3)), (4, (.aload_n 1, 1)), (5, (.getfield 49, 3)), (8, (.putfield 164, 3)), (11, (.aload_n 0, 1)), (12, (.getfield 21, 3)), (15, (.aload_n 0, 1)), (16, (.getfield 12, 3)), (19, (.getfield 95, 3)), (22, (.iload_n 2, 1)), (23, (.iaload, 1)), (24, (.putfield 165, 3)), (27, (.aload_n 0, 1)), (28, (.getfield 21, 3)), (31, (.iconst 0, 1)), (32, (.putfield 98, 3)), (35, (.aload_n 0, 1)), (36, (.getfield 21, 3)), (39, (.aload_n 0, 1)), (40, (.aload_n 1, 1)), (41, (.invokevirtual 167, 3)), (44, (.putfield 171, 3)), (47, (.aload_n 0, 1)), (48, (.getfield 21, 3)), (51, (.iconst 0, 1)), (52, (.putfield 152, 3)), (55, (.aload_n 0, 1)), (56, (.getfield 21, 3)), (59, (.aload_n 1, 1)), (60, (.getfield 66, 3)), (63, (.iload_n 2, 1)), (64, (.iaload, 1)), (65, (.invokestatic 130, 3)), (68, (.putfield 174, 3)), (71, (.aload_n 0, 1)), (72, (.getfield 21, 3)), (75, (.aload_n 1, 1)), (76, (.getfield 63, 3)), (79, (.iload_n 2, 1))]
theorem tkX2_lookAt_0 : (tbX2_lookAt_0.all fun q => decide (decode cX2_lookAt q.1 = .ok q.2)) = true := by decide +kernel
def tbX2_lookAt_1 : List (Nat × (Instr × Nat)) := [(80, (.iaload, 1)), (81, (.invokestatic 130, 3)), (84, (.putfield 177, 3)), (87, (.return_, 1))]
theorem tkX2_lookAt_1 : (tbX2_lookAt_1.all fun q => decide (decode cX2_lookAt q.1 = .ok q.2)) = true := by decide +kernel
def tbX2_lookAt : List (Nat × (Instr × Nat)) := tbX2_lookAt_0 ++ tbX2_lookAt_1
theorem tkX2_lookAt : (tbX2_lookAt.all fun q => decide (decode cX2_lookAt q.1 = .ok q.2)) = true := by
  unfold tbX2_lookAt
  simp only [List.all_append, Bool.and_eq_true]
  exact ⟨tkX2_lookAt_0, tkX2_lookAt_1⟩
def tbX3_init_0 : List (Nat × (Instr × Nat)) := [(0, (.aload_n 0, 1)), (1, (.invokespecial 3, 3)), (4, (.aload_n 0, 1)), (5, (.bipush 20, 2)), (7, (.anewarray 9, 3)), (10, (.putfield 11, 3)), (13, (.iconst 0, 1)), (14, (.istore_n 1, 1)), (15, (.iload_n 1, 1)), (16, (.bipush 20, 2)), (18, (.if_icmp .ge 22, 3)), (21, (.aload_n 0, 1)), (22, (.getfield 11, 3)), (25, (.iload_n 1, 1)), (26, (.new 9, 3)), (29, (.dup, 1)), (30, (.invokespecial 17, 3)), (33, (.aastore, 1)), (34, (.iinc 1 1, 3)), (37, (.goto (-22), 3)), (40, (.return_, 1))]
theorem tkX3_init_0 : (tbX3_init_0.all fun q => decide (decode cX3_init q.1 = .ok q.2)) = true := by decide +kernel
def tbX3_init : List (Nat × (Instr × Nat)) := tbX3_init_0
theorem tkX3_init : (tbX3_init.all fun q => decide (decode cX3_init q.1 = .ok q.2)) = true := by
  unfold tbX3_init
  simp only [List.all_append, Bool.and_eq_true]
  exact tkX3_init_0
def tbX3_forget_0 : List (Nat × (Instr × Nat)) := [(0, (.aload_n 0, 1)), (1, (.iconst 0, 1)), (2, (.putfield 18, 3)), (5, (.return_, 1))]
theorem tkX3_forget_0 : (tbX3_forget_0.all fun q => decide (decode cX3_forget q.1 = .ok q.2)) = true := by decide +kernel
def tbX3_forget : List (Nat × (Instr × Nat)) := tbX3_forget_0
theorem tkX3_forget : (tbX3_forget.all fun q => decide (decode cX3_forget q.1 = .ok q.2)) = true := by
  unfold tbX3_forget
  simp only [List.all_append, Bool.and_eq_true]
  exact tkX3_forget_0
def tbX3_remember_0 : List (Nat × (Instr × Nat)) := [(0, (.aload_n 0, 1)), (1, (.getfield 11, 3)), (4, (.aload_n 0, 1)), (5, (.getfield 22, 3)), (8, (.aaload, 1)), (9, (.aload_n 1, 1)), (10, (.invokevirtual 25, 3)), (13, (.aload_n 0, 1)), (14, (.aload_n 0, 1)), (15, (.getfield 22, 3)), (18, (.iconst 1, 1)), (19, (.iadd, 1)), (20, (.bipush 20, 2)), (22, (.irem, 1)), (23, (.putfield 22, 3)), (26, (.aload_n 0, 1)), (27, (.aload_n 0, 1)), (28, (.getfield 18, 3)), (31, (.iconst 1, 1)), (32, (.iadd, 1)), (33, (.bipush 20, 2)), (35, (.invokestatic 29, 3)), (38, (.putfield 18, 3)), (41, (.return_, 1))]
theorem tkX3_remember_0 : (tbX3_remember_0.all fun q => decide (decode cX3_remember q.1 = .ok q.2)) = true := by decide +kernel
def tbX3_remember : List (Nat × (Instr × Nat)) := tbX3_remember_0
theorem tkX3_remember : (tbX3_remember.all fun q => decide (decode cX3_remember q.1 = .ok q.2)) = true := by
  unfold tbX3_remember
  simp only [List.all_append, Bool.and_eq_true]
  exact tkX3_remember_0
def tbX3_bringBack_0 : List (Nat × (Instr × Nat)) := [(0, (.aload_n 0, 1)), (1, (.getfield 18, 3)), (4, (.ifCond .le 42, 3)), (7, (.aload_n 0, 1)), (8, (.aload_n 0, 1)), (9, (.getfield 22, 3)), (12, (.bipush 20, 2)), (14, (.iadd, 1)), (15, (.iconst 1, 1)), (16, (.isub, 1)), (17, (.bipush 20, 2)), (19, (.irem, 1)), (20, (.putfield 22, 3)), (23, (.aload_n 0, 1)), (24, (.dup, 1)), (25, (.getfield 18, 3)), (28, (.iconst 1, 1)), (29, (.isub, 1)), (30, (.putfield 18, 3)), (33, (.aload_n 1, 1)), (34, (.aload_n 0, 1)), (35, (.getfield 11, 3)), (38, (.aload_n 0, 1)), (39, (.getfield 22, 3)), (42, (.aaload, 1)), (43, (.invokevirtual 25, 3)), (46, (.return_, 1))]
theorem tkX3_bringBack_0 : (tbX3_bringBack_0.all fun q => decide (decode cX3_bringBack q.1 = .ok q.2)) = true := by decide +kernel
def tbX3_bringBack : List (Nat × (Instr × Nat)) := tbX3_bringBack_0
theorem tkX3_bringBack : (tbX3_bringBack.all fun q => decide (decode cX3_bringBack q.1 = .ok q.2)) = true := by
  unfold tbX3_bringBack
  simp only [List.all_append, Bool.and_eq_true]
  exact tkX3_bringBack_0
def tbX4_init_0 : List (Nat × (Instr × Nat)) := [(0, (.aload_n 0, 1)), (1, (.invokespecial 3, 3)), (4, (.aload_n 0, 1)), (5, (.sipush 227, 3)), (8, (.newarray .byte, 2)), (10, (.putfield 11, 3)), (13, (.return_, 1))]
theorem tkX4_init_0 : (tbX4_init_0.all fun q => decide (decode cX4_init q.1 = .ok q.2)) = true := by decide +kernel
def tbX4_init : List (Nat × (Instr × Nat)) := tbX4_init_0
theorem tkX4_init : (tbX4_init.all fun q => decide (decode cX4_init q.1 = .ok q.2)) = true := by
  unfold tbX4_init
  simp only [List.all_append, Bool.and_eq_true]
  exact tkX4_init_0
def tbX4_draw_0 : List (Nat × (Instr × Nat)) := [(0, (.aload_n 0, 1)), (1, (.iconst 0, 1)), (2, (.putfield 15, 3)), (5, (.aload_n 0, 1)), (6, (.aload_n 2, 1)), (7, (.getfield 19, 3)), (10, (.invokevirtual 24, 3)), (13, (.iconst 0, 1)), (14, (.istore_n 3, 1)), (15, (.iload_n 3, 1)), (16, (.aload_n 1, 1)), (17, (.getfield 28, 3)), (20, (.if_icmp .ge 79, 3)), (23, (.aload_n 0, 1)), (24, (.aload_n 2, 1)), (25, (.getfield 33, 3)), (28, (.iload_n 3, 1)), (29, (.iaload, 1)), (30, (.invokevirtual 24, 3)), (33, (.aload_n 0, 1)), (34, (.aload_n 2, 1)), (35, (.getfield 37, 3)), (38, (.iload_n 3, 1)), (39, (.iaload, 1)), (40, (.invokevirtual 24, 3)), (43, (.iconst 0, 1)), (44, (.istore 4, 2)), (46, (.iload 4, 2)), (48, (.aload_n 1, 1)), (49, (.getfield 40, 3)), (52, (.if_icmp .ge 41, 3)), (55, (.aload_n 0, 1)), (56, (.aload_n 2, 1)), (57, (.iload_n 3, 1)), (58, (.iload 4, 2)), (60, (.invokevirtual 43, 3)), (63, (.ifCond .eq 20, 3)), (66, (.aload_n 2, 1)), (67, (.getfield 47, 3)), (70, (.iload_n 3, 1))]
theorem tkX4_draw_0 : (tbX4_draw_0.all fun q => decide (decode cX4_draw q.1 = .ok q.2)) = true := by decide +kernel
def tbX4_draw_1 : List (Nat × (Instr × Nat)) := [(71, (.bipush 12, 2)), (73, (.imul, 1)), (74, (.iload 4, 2)), (76, (.iadd, 1)), (77, (.iaload, 1)), (78, (.iconst 1, 1)), (79, (.iadd, 1)), (80, (.goto 4, 3)), (83, (.iconst 0, 1)), (84, (.invokevirtual 24, 3)), (87, (.iinc 4 1, 3)), (90, (.goto (-44), 3)), (93, (.iinc 3 1, 3)), (96, (.goto (-81), 3)), (99, (.aload_n 0, 1)), (100, (.aload_n 0, 1)), (101, (.getfield 11, 3)), (104, (.aload_n 0, 1)), (105, (.getfield 15, 3)), (108, (.invokestatic 50, 3)), (111, (.invokevirtual 54, 3)), (114, (.return_, 1))]
theorem tkX4_draw_1 : (tbX4_draw_1.all fun q => decide (decode cX4_draw q.1 = .ok q.2)) = true := by decide +kernel
def tbX4_draw : List (Nat × (Instr × Nat)) := tbX4_draw_0 ++ tbX4_draw_1
theorem tkX4_draw : (tbX4_draw.all fun q => decide (decode cX4_draw q.1 = .ok q.2)) = true := by
  unfold tbX4_draw
  simp only [List.all_append, Bool.and_eq_true]
  exact ⟨tkX4_draw_0, tkX4_draw_1⟩
def tbX4_putTwo_0 : List (Nat × (Instr × Nat)) := [(0, (.aload_n 0, 1)), (1, (.iload_n 1, 1)), (2, (.bipush 8, 2)), (4, (.ishr, 1)), (5, (.invokevirtual 54, 3)), (8, (.aload_n 0, 1)), (9, (.iload_n 1, 1)), (10, (.invokevirtual 54, 3)), (13, (.return_, 1))]
theorem tkX4_putTwo_0 : (tbX4_putTwo_0.all fun q => decide (decode cX4_putTwo q.1 = .ok q.2)) = true := by decide +kernel
def tbX4_putTwo : List (Nat × (Instr × Nat)) := tbX4_putTwo_0
theorem tkX4_putTwo : (tbX4_putTwo.all fun q => decide (decode cX4_putTwo q.1 = .ok q.2)) = true := by
  unfold tbX4_putTwo
  simp only [List.all_append, Bool.and_eq_true]
  exact tkX4_putTwo_0
def tbX4_putByte_0 : List (Nat × (Instr × Nat)) := [(0, (.aload_n 0, 1)), (1, (.getfield 15, 3)), (4, (.sipush 227, 3)), (7, (.if_icmp .ge 24, 3)), (10, (.aload_n 0, 1)), (11, (.getfield 11, 3)), (14, (.aload_n 0, 1)), (15, (.getfield 15, 3)), (18, (.iload_n 1, 1)), (19, (.i2b, 1)), (20, (.bastore, 1)), (21, (.aload_n 0, 1)), (22, (.dup, 1)), (23, (.getfield 15, 3)), (26, (.iconst 1, 1)), (27, (.iadd, 1)), (28, (.putfield 15, 3)), (31, (.return_, 1))]
theorem tkX4_putByte_0 : (tbX4_putByte_0.all fun q => decide (decode cX4_putByte q.1 = .ok q.2)) = true := by decide +kernel
def tbX4_putByte : List (Nat × (Instr × Nat)) := tbX4_putByte_0
theorem tkX4_putByte : (tbX4_putByte.all fun q => decide (decode cX4_putByte q.1 = .ok q.2)) = true := by
  unfold tbX4_putByte
  simp only [List.all_append, Bool.and_eq_true]
  exact tkX4_putByte_0
def tbX4_checkOf_0 : List (Nat × (Instr × Nat)) := [(0, (.bipush 101, 2)), (2, (.istore_n 2, 1)), (3, (.iconst 0, 1)), (4, (.istore_n 3, 1)), (5, (.iload_n 3, 1)), (6, (.iload_n 1, 1)), (7, (.if_icmp .ge 31, 3)), (10, (.iload_n 3, 1)), (11, (.aload_n 0, 1)), (12, (.arraylength, 1)), (13, (.if_icmp .ge 25, 3)), (16, (.iconst 5, 1)), (17, (.iload_n 2, 1)), (18, (.imul, 1)), (19, (.aload_n 0, 1)), (20, (.iload_n 3, 1)), (21, (.baload, 1)), (22, (.sipush 255, 3)), (25, (.iand, 1)), (26, (.iadd, 1)), (27, (.sipush 251, 3)), (30, (.irem, 1)), (31, (.istore_n 2, 1)), (32, (.iinc 3 1, 3)), (35, (.goto (-30), 3)), (38, (.iload_n 2, 1)), (39, (.ireturn, 1))]
theorem tkX4_checkOf_0 : (tbX4_checkOf_0.all fun q => decide (decode cX4_checkOf q.1 = .ok q.2)) = true := by decide +kernel
def tbX4_checkOf : List (Nat × (Instr × Nat)) := tbX4_checkOf_0
theorem tkX4_checkOf : (tbX4_checkOf.all fun q => decide (decode cX4_checkOf q.1 = .ok q.2)) = true := by
  unfold tbX4_checkOf
  simp only [List.all_append, Bool.and_eq_true]
  exact tkX4_checkOf_0
def tbX4_isRead_0 : List (Nat × (Instr × Nat)) := [(0, (.iconst 2, 1)), (1, (.aload_n 2, 1)), (2, (.getfield 28, 3)), (5, (.iconst 4, 1)), (6, (.iconst 2, 1)), (7, (.aload_n 2, 1)), (8, (.getfield 40, 3)), (11, (.imul, 1)), (12, (.iadd, 1)), (13, (.imul, 1)), (14, (.iadd, 1)), (15, (.iconst 1, 1)), (16, (.iadd, 1)), (17, (.istore 4, 2)), (19, (.iload_n 1, 1)), (20, (.iload 4, 2)), (22, (.if_icmp .ne 9, 3)), (25, (.iload_n 1, 1)), (26, (.aload_n 0, 1)), (27, (.arraylength, 1)), (28, (.if_icmp .le 5, 3)), (31, (.iconst 0, 1)), (32, (.ireturn, 1)), (33, (.aload_n 0, 1)), (34, (.iload_n 1, 1)), (35, (.iconst 1, 1)), (36, (.isub, 1)), (37, (.invokestatic 50, 3)), (40, (.aload_n 0, 1)), (41, (.iload_n 1, 1)), (42, (.iconst 1, 1)), (43, (.isub, 1)), (44, (.baload, 1)), (45, (.sipush 255, 3)), (48, (.iand, 1)), (49, (.if_icmp .eq 5, 3)), (52, (.iconst 0, 1)), (53, (.ireturn, 1)), (54, (.aload_n 3, 1)), (55, (.aload_n 0, 1))]
theorem tkX4_isRead_0 : (tbX4_isRead_0.all fun q => decide (decode cX4_isRead q.1 = .ok q.2)) = true := by decide +kernel
def tbX4_isRead_1 : List (Nat × (Instr × Nat)) := [(56, (.iconst 0, 1)), (57, (.invokestatic 57, 3)), (60, (.putfield 19, 3)), (63, (.iconst 2, 1)), (64, (.istore 5, 2)), (66, (.iconst 0, 1)), (67, (.istore 6, 2)), (69, (.iload 6, 2)), (71, (.aload_n 2, 1)), (72, (.getfield 28, 3)), (75, (.if_icmp .ge 37, 3)), (78, (.aload_n 0, 1)), (79, (.iload 5, 2)), (81, (.aload_n 2, 1)), (82, (.aload_n 3, 1)), (83, (.iload 6, 2)), (85, (.invokestatic 60, 3)), (88, (.ifCond .ne 5, 3)), (91, (.iconst 0, 1)), (92, (.ireturn, 1)), (93, (.iload 5, 2)), (95, (.iconst 4, 1)), (96, (.iconst 2, 1)), (97, (.aload_n 2, 1)), (98, (.getfield 40, 3)), (101, (.imul, 1)), (102, (.iadd, 1)), (103, (.iadd, 1)), (104, (.istore 5, 2)), (106, (.iinc 6 1, 3)), (109, (.goto (-40), 3)), (112, (.aload_n 3, 1)), (113, (.invokevirtual 64, 3)), (116, (.aload_n 3, 1)), (117, (.getfield 19, 3)), (120, (.sipush 999, 3)), (123, (.if_icmp .gt 18, 3)), (126, (.aload_n 3, 1)), (127, (.invokevirtual 67, 3)), (130, (.aload_n 2, 1))]
theorem tkX4_isRead_1 : (tbX4_isRead_1.all fun q => decide (decode cX4_isRead q.1 = .ok q.2)) = true := by decide +kernel
def tbX4_isRead_2 : List (Nat × (Instr × Nat)) := [(131, (.getfield 71, 3)), (134, (.if_icmp .gt 7, 3)), (137, (.iconst 1, 1)), (138, (.goto 4, 3)), (141, (.iconst 0, 1)), (142, (.ireturn, 1))]
theorem tkX4_isRead_2 : (tbX4_isRead_2.all fun q => decide (decode cX4_isRead q.1 = .ok q.2)) = true := by decide +kernel
def tbX4_isRead : List (Nat × (Instr × Nat)) := tbX4_isRead_0 ++ tbX4_isRead_1 ++ tbX4_isRead_2
theorem tkX4_isRead : (tbX4_isRead.all fun q => decide (decode cX4_isRead q.1 = .ok q.2)) = true := by
  unfold tbX4_isRead
  simp only [List.all_append, Bool.and_eq_true]
  exact ⟨⟨tkX4_isRead_0, tkX4_isRead_1⟩, tkX4_isRead_2⟩
def tbX4_isPersonRead_0 : List (Nat × (Instr × Nat)) := [(0, (.aload_n 3, 1)), (1, (.getfield 33, 3)), (4, (.iload 4, 2)), (6, (.aload_n 0, 1)), (7, (.iload_n 1, 1)), (8, (.invokestatic 57, 3)), (11, (.iastore, 1)), (12, (.aload_n 3, 1)), (13, (.getfield 37, 3)), (16, (.iload 4, 2)), (18, (.aload_n 0, 1)), (19, (.iload_n 1, 1)), (20, (.iconst 2, 1)), (21, (.iadd, 1)), (22, (.invokestatic 57, 3)), (25, (.iastore, 1)), (26, (.iconst 0, 1)), (27, (.istore 5, 2)), (29, (.iload 5, 2)), (31, (.aload_n 2, 1)), (32, (.getfield 40, 3)), (35, (.if_icmp .ge 50, 3)), (38, (.aload_n 0, 1)), (39, (.iload_n 1, 1)), (40, (.iconst 4, 1)), (41, (.iadd, 1)), (42, (.iconst 2, 1)), (43, (.iload 5, 2)), (45, (.imul, 1)), (46, (.iadd, 1)), (47, (.invokestatic 57, 3)), (50, (.iconst 1, 1)), (51, (.isub, 1)), (52, (.istore 6, 2)), (54, (.iload 6, 2)), (56, (.sipush 999, 3)), (59, (.if_icmp .le 5, 3)), (62, (.iconst 0, 1)), (63, (.ireturn, 1)), (64, (.aload_n 3, 1))]
theorem tkX4_isPersonRead_0 : (tbX4_isPersonRead_0.all fun q => decide (decode cX4_isPersonRead q.1 = .ok q.2)) = true := by decide +kernel
def tbX4_isPersonRead_1 : List (Nat × (Instr × Nat)) := [(65, (.getfield 47, 3)), (68, (.iload 4, 2)), (70, (.bipush 12, 2)), (72, (.imul, 1)), (73, (.iload 5, 2)), (75, (.iadd, 1)), (76, (.iload 6, 2)), (78, (.iastore, 1)), (79, (.iinc 5 1, 3)), (82, (.goto (-53), 3)), (85, (.aload_n 3, 1)), (86, (.getfield 33, 3)), (89, (.iload 4, 2)), (91, (.iaload, 1)), (92, (.aload_n 2, 1)), (93, (.invokevirtual 74, 3)), (96, (.if_icmp .gt 20, 3)), (99, (.aload_n 3, 1)), (100, (.getfield 37, 3)), (103, (.iload 4, 2)), (105, (.iaload, 1)), (106, (.sipush 999, 3)), (109, (.if_icmp .gt 7, 3)), (112, (.iconst 1, 1)), (113, (.goto 4, 3)), (116, (.iconst 0, 1)), (117, (.ireturn, 1))]
theorem tkX4_isPersonRead_1 : (tbX4_isPersonRead_1.all fun q => decide (decode cX4_isPersonRead q.1 = .ok q.2)) = true := by decide +kernel
def tbX4_isPersonRead : List (Nat × (Instr × Nat)) := tbX4_isPersonRead_0 ++ tbX4_isPersonRead_1
theorem tkX4_isPersonRead : (tbX4_isPersonRead.all fun q => decide (decode cX4_isPersonRead q.1 = .ok q.2)) = true := by
  unfold tbX4_isPersonRead
  simp only [List.all_append, Bool.and_eq_true]
  exact ⟨tkX4_isPersonRead_0, tkX4_isPersonRead_1⟩
def tbX4_two_0 : List (Nat × (Instr × Nat)) := [(0, (.iload_n 1, 1)), (1, (.ifCond .lt 11, 3)), (4, (.iload_n 1, 1)), (5, (.iconst 1, 1)), (6, (.iadd, 1)), (7, (.aload_n 0, 1)), (8, (.arraylength, 1)), (9, (.if_icmp .lt 5, 3)), (12, (.iconst 0, 1)), (13, (.ireturn, 1)), (14, (.aload_n 0, 1)), (15, (.iload_n 1, 1)), (16, (.baload, 1)), (17, (.sipush 255, 3)), (20, (.iand, 1)), (21, (.bipush 8, 2)), (23, (.ishl, 1)), (24, (.aload_n 0, 1)), (25, (.iload_n 1, 1)), (26, (.iconst 1, 1)), (27, (.iadd, 1)), (28, (.baload, 1)), (29, (.sipush 255, 3)), (32, (.iand, 1)), (33, (.ior, 1)), (34, (.ireturn, 1))]
theorem tkX4_two_0 : (tbX4_two_0.all fun q => decide (decode cX4_two q.1 = .ok q.2)) = true := by decide +kernel
def tbX4_two : List (Nat × (Instr × Nat)) := tbX4_two_0
theorem tkX4_two : (tbX4_two.all fun q => decide (decode cX4_two q.1 = .ok q.2)) = true := by
  unfold tbX4_two
  simp only [List.all_append, Bool.and_eq_true]
  exact tkX4_two_0
def tbX5_init_0 : List (Nat × (Instr × Nat)) := [(0, (.aload_n 0, 1)), (1, (.invokespecial 3, 3)), (4, (.aload_n 0, 1)), (5, (.bipush 12, 2)), (7, (.newarray .int, 2)), (9, (.putfield 9, 3)), (12, (.aload_n 0, 1)), (13, (.bipush 12, 2)), (15, (.newarray .int, 2)), (17, (.putfield 15, 3)), (20, (.return_, 1))]
theorem tkX5_init_0 : (tbX5_init_0.all fun q => decide (decode cX5_init q.1 = .ok q.2)) = true := by decide +kernel
def tbX5_init : List (Nat × (Instr × Nat)) := tbX5_init_0
theorem tkX5_init : (tbX5_init.all fun q => decide (decode cX5_init q.1 = .ok q.2)) = true := by
  unfold tbX5_init
  simp only [List.all_append, Bool.and_eq_true]
  exact tkX5_init_0
def tbX5_prove_0 : List (Nat × (Instr × Nat)) := [(0, (.aload_n 0, 1)), (1, (.aload_n 1, 1)), (2, (.iload_n 2, 1)), (3, (.invokevirtual 18, 3)), (6, (.istore 4, 2)), (8, (.iconst 1, 1)), (9, (.iload_n 3, 1)), (10, (.ishl, 1)), (11, (.istore 5, 2)), (13, (.iload_n 2, 1)), (14, (.aload_n 0, 1)), (15, (.aload_n 1, 1)), (16, (.iload 4, 2)), (18, (.invokevirtual 22, 3)), (21, (.ior, 1)), (22, (.iload 5, 2)), (24, (.iand, 1)), (25, (.ifCond .ne 5, 3)), (28, (.iconst (-1), 1)), (29, (.ireturn, 1)), (30, (.iload 4, 2)), (32, (.iconst 1, 1)), (33, (.isub, 1)), (34, (.istore 6, 2)), (36, (.iload 6, 2)), (38, (.ifCond .lt 56, 3)), (41, (.aload_n 0, 1)), (42, (.getfield 9, 3)), (45, (.iload 6, 2)), (47, (.iaload, 1)), (48, (.istore 7, 2)), (50, (.iload 5, 2)), (52, (.aload_n 1, 1)), (53, (.getfield 25, 3)), (56, (.iload 7, 2)), (58, (.iaload, 1)), (59, (.ishr, 1)), (60, (.iconst 1, 1)), (61, (.iand, 1)), (62, (.ifCond .ne 14, 3))]
theorem tkX5_prove_0 : (tbX5_prove_0.all fun q => decide (decode cX5_prove q.1 = .ok q.2)) = true := by decide +kernel
def tbX5_prove_1 : List (Nat × (Instr × Nat)) := [(65, (.aload_n 0, 1)), (66, (.getfield 9, 3)), (69, (.iload 6, 2)), (71, (.iconst (-1), 1)), (72, (.iastore, 1)), (73, (.goto 15, 3)), (76, (.iload 5, 2)), (78, (.aload_n 1, 1)), (79, (.getfield 30, 3)), (82, (.iload 7, 2)), (84, (.iaload, 1)), (85, (.ior, 1)), (86, (.istore 5, 2)), (88, (.iinc 6 (-1), 3)), (91, (.goto (-55), 3)), (94, (.aload_n 0, 1)), (95, (.iload 4, 2)), (97, (.invokevirtual 33, 3)), (100, (.ireturn, 1))]
theorem tkX5_prove_1 : (tbX5_prove_1.all fun q => decide (decode cX5_prove q.1 = .ok q.2)) = true := by decide +kernel
def tbX5_prove : List (Nat × (Instr × Nat)) := tbX5_prove_0 ++ tbX5_prove_1
theorem tkX5_prove : (tbX5_prove.all fun q => decide (decode cX5_prove q.1 = .ok q.2)) = true := by
  unfold tbX5_prove
  simp only [List.all_append, Bool.and_eq_true]
  exact ⟨tkX5_prove_0, tkX5_prove_1⟩
def tbX5_writeRow_0 : List (Nat × (Instr × Nat)) := [(0, (.iload_n 2, 1)), (1, (.istore_n 3, 1)), (2, (.iconst 0, 1)), (3, (.istore 4, 2)), (5, (.iconst 0, 1)), (6, (.istore 5, 2)), (8, (.iload 5, 2)), (10, (.bipush 12, 2)), (12, (.if_icmp .ge 68, 3)), (15, (.iconst 0, 1)), (16, (.istore 6, 2)), (18, (.iload 6, 2)), (20, (.aload_n 1, 1)), (21, (.getfield 37, 3)), (24, (.if_icmp .ge 50, 3)), (27, (.iload 4, 2)), (29, (.bipush 12, 2)), (31, (.if_icmp .ge 37, 3)), (34, (.aload_n 1, 1)), (35, (.iload 6, 2)), (37, (.iload_n 3, 1)), (38, (.invokevirtual 41, 3)), (41, (.ifCond .eq 27, 3)), (44, (.iload_n 3, 1)), (45, (.iconst 1, 1)), (46, (.aload_n 1, 1)), (47, (.getfield 25, 3)), (50, (.iload 6, 2)), (52, (.iaload, 1)), (53, (.ishl, 1)), (54, (.ior, 1)), (55, (.istore_n 3, 1)), (56, (.aload_n 0, 1)), (57, (.getfield 9, 3)), (60, (.iload 4, 2)), (62, (.iload 6, 2)), (64, (.iastore, 1)), (65, (.iinc 4 1, 3)), (68, (.iinc 6 1, 3)), (71, (.goto (-53), 3))]
theorem tkX5_writeRow_0 : (tbX5_writeRow_0.all fun q => decide (decode cX5_writeRow q.1 = .ok q.2)) = true := by decide +kernel
def tbX5_writeRow_1 : List (Nat × (Instr × Nat)) := [(74, (.iinc 5 1, 3)), (77, (.goto (-69), 3)), (80, (.iload 4, 2)), (82, (.ireturn, 1))]
theorem tkX5_writeRow_1 : (tbX5_writeRow_1.all fun q => decide (decode cX5_writeRow q.1 = .ok q.2)) = true := by decide +kernel
def tbX5_writeRow : List (Nat × (Instr × Nat)) := tbX5_writeRow_0 ++ tbX5_writeRow_1
theorem tkX5_writeRow : (tbX5_writeRow.all fun q => decide (decode cX5_writeRow q.1 = .ok q.2)) = true := by
  unfold tbX5_writeRow
  simp only [List.all_append, Bool.and_eq_true]
  exact ⟨tkX5_writeRow_0, tkX5_writeRow_1⟩
def tbX5_givenBy_0 : List (Nat × (Instr × Nat)) := [(0, (.iconst 0, 1)), (1, (.istore_n 3, 1)), (2, (.iconst 0, 1)), (3, (.istore 4, 2)), (5, (.iload 4, 2)), (7, (.iload_n 2, 1)), (8, (.if_icmp .ge 26, 3)), (11, (.iload_n 3, 1)), (12, (.iconst 1, 1)), (13, (.aload_n 1, 1)), (14, (.getfield 25, 3)), (17, (.aload_n 0, 1)), (18, (.getfield 9, 3)), (21, (.iload 4, 2)), (23, (.iaload, 1)), (24, (.iaload, 1)), (25, (.ishl, 1)), (26, (.ior, 1)), (27, (.istore_n 3, 1)), (28, (.iinc 4 1, 3)), (31, (.goto (-26), 3)), (34, (.iload_n 3, 1)), (35, (.ireturn, 1))]
theorem tkX5_givenBy_0 : (tbX5_givenBy_0.all fun q => decide (decode cX5_givenBy q.1 = .ok q.2)) = true := by decide +kernel
def tbX5_givenBy : List (Nat × (Instr × Nat)) := tbX5_givenBy_0
theorem tkX5_givenBy : (tbX5_givenBy.all fun q => decide (decode cX5_givenBy q.1 = .ok q.2)) = true := by
  unfold tbX5_givenBy
  simp only [List.all_append, Bool.and_eq_true]
  exact tkX5_givenBy_0
def tbX5_dropGaps_0 : List (Nat × (Instr × Nat)) := [(0, (.iconst 0, 1)), (1, (.istore_n 2, 1)), (2, (.iconst 0, 1)), (3, (.istore_n 3, 1)), (4, (.iload_n 3, 1)), (5, (.iload_n 1, 1)), (6, (.if_icmp .ge 34, 3)), (9, (.aload_n 0, 1)), (10, (.getfield 9, 3)), (13, (.iload_n 3, 1)), (14, (.iaload, 1)), (15, (.iconst (-1), 1)), (16, (.if_icmp .eq 18, 3)), (19, (.aload_n 0, 1)), (20, (.getfield 9, 3)), (23, (.iload_n 2, 1)), (24, (.aload_n 0, 1)), (25, (.getfield 9, 3)), (28, (.iload_n 3, 1)), (29, (.iaload, 1)), (30, (.iastore, 1)), (31, (.iinc 2 1, 3)), (34, (.iinc 3 1, 3)), (37, (.goto (-33), 3)), (40, (.iload_n 2, 1)), (41, (.ireturn, 1))]
theorem tkX5_dropGaps_0 : (tbX5_dropGaps_0.all fun q => decide (decode cX5_dropGaps q.1 = .ok q.2)) = true := by decide +kernel
def tbX5_dropGaps : List (Nat × (Instr × Nat)) := tbX5_dropGaps_0
theorem tkX5_dropGaps : (tbX5_dropGaps.all fun q => decide (decode cX5_dropGaps q.1 = .ok q.2)) = true := by
  unfold tbX5_dropGaps
  simp only [List.all_append, Bool.and_eq_true]
  exact tkX5_dropGaps_0
def tbX5_leastCut_0 : List (Nat × (Instr × Nat)) := [(0, (.iload_n 2, 1)), (1, (.iconst 1, 1)), (2, (.iload_n 3, 1)), (3, (.ishl, 1)), (4, (.iconst (-1), 1)), (5, (.ixor, 1)), (6, (.iand, 1)), (7, (.istore 4, 2)), (9, (.iload 4, 2)), (11, (.istore 5, 2)), (13, (.aload_n 0, 1)), (14, (.iload 4, 2)), (16, (.invokevirtual 45, 3)), (19, (.istore 6, 2)), (21, (.iconst 0, 1)), (22, (.istore 7, 2)), (24, (.iconst 0, 1)), (25, (.istore 8, 2)), (27, (.iload 8, 2)), (29, (.sipush 4096, 3)), (32, (.if_icmp .ge 94, 3)), (35, (.aload_n 0, 1)), (36, (.iload 7, 2)), (38, (.invokevirtual 45, 3)), (41, (.istore 9, 2)), (43, (.iload 9, 2)), (45, (.iload 6, 2)), (47, (.if_icmp .lt 17, 3)), (50, (.iload 9, 2)), (52, (.iload 6, 2)), (54, (.if_icmp .ne 14, 3)), (57, (.iload 7, 2)), (59, (.iload 5, 2)), (61, (.if_icmp .ge 7, 3)), (64, (.iconst 1, 1)), (65, (.goto 4, 3)), (68, (.iconst 0, 1)), (69, (.istore 10, 2)), (71, (.iload 10, 2)), (73, (.ifCond .eq 29, 3))]
theorem tkX5_leastCut_0 : (tbX5_leastCut_0.all fun q => decide (decode cX5_leastCut q.1 = .ok q.2)) = true := by decide +kernel
def tbX5_leastCut_1 : List (Nat × (Instr × Nat)) := [(76, (.aload_n 1, 1)), (77, (.iload 4, 2)), (79, (.iload 7, 2)), (81, (.iconst (-1), 1)), (82, (.ixor, 1)), (83, (.iand, 1)), (84, (.invokevirtual 48, 3)), (87, (.iload_n 3, 1)), (88, (.ishr, 1)), (89, (.iconst 1, 1)), (90, (.iand, 1)), (91, (.ifCond .ne 11, 3)), (94, (.iload 7, 2)), (96, (.istore 5, 2)), (98, (.iload 9, 2)), (100, (.istore 6, 2)), (102, (.iload 7, 2)), (104, (.iload 4, 2)), (106, (.isub, 1)), (107, (.iload 4, 2)), (109, (.iand, 1)), (110, (.istore 7, 2)), (112, (.iload 7, 2)), (114, (.ifCond .ne 6, 3)), (117, (.goto 9, 3)), (120, (.iinc 8 1, 3)), (123, (.goto (-96), 3)), (126, (.iload 5, 2)), (128, (.ireturn, 1))]
theorem tkX5_leastCut_1 : (tbX5_leastCut_1.all fun q => decide (decode cX5_leastCut q.1 = .ok q.2)) = true := by decide +kernel
def tbX5_leastCut : List (Nat × (Instr × Nat)) := tbX5_leastCut_0 ++ tbX5_leastCut_1
theorem tkX5_leastCut : (tbX5_leastCut.all fun q => decide (decode cX5_leastCut q.1 = .ok q.2)) = true := by
  unfold tbX5_leastCut
  simp only [List.all_append, Bool.and_eq_true]
  exact ⟨tkX5_leastCut_0, tkX5_leastCut_1⟩
def tbX5_costOf_0 : List (Nat × (Instr × Nat)) := [(0, (.iconst 0, 1)), (1, (.istore_n 2, 1)), (2, (.iconst 0, 1)), (3, (.istore_n 3, 1)), (4, (.iload_n 3, 1)), (5, (.bipush 12, 2)), (7, (.if_icmp .ge 27, 3)), (10, (.iload_n 1, 1)), (11, (.iload_n 3, 1)), (12, (.ishr, 1)), (13, (.iconst 1, 1)), (14, (.iand, 1)), (15, (.iconst 1, 1)), (16, (.if_icmp .ne 12, 3)), (19, (.iload_n 2, 1)), (20, (.aload_n 0, 1)), (21, (.getfield 15, 3)), (24, (.iload_n 3, 1)), (25, (.iaload, 1)), (26, (.iadd, 1)), (27, (.istore_n 2, 1)), (28, (.iinc 3 1, 3)), (31, (.goto (-27), 3)), (34, (.iload_n 2, 1)), (35, (.ireturn, 1))]
theorem tkX5_costOf_0 : (tbX5_costOf_0.all fun q => decide (decode cX5_costOf q.1 = .ok q.2)) = true := by decide +kernel
def tbX5_costOf : List (Nat × (Instr × Nat)) := tbX5_costOf_0
theorem tkX5_costOf : (tbX5_costOf.all fun q => decide (decode cX5_costOf q.1 = .ok q.2)) = true := by
  unfold tbX5_costOf
  simp only [List.all_append, Bool.and_eq_true]
  exact tkX5_costOf_0
def tbX5_askPrices_0 : List (Nat × (Instr × Nat)) := [(0, (.iconst 0, 1)), (1, (.istore 4, 2)), (3, (.iload 4, 2)), (5, (.aload_n 1, 1)), (6, (.getfield 51, 3)), (9, (.getfield 57, 3)), (12, (.if_icmp .ge 40, 3)), (15, (.aload_n 0, 1)), (16, (.getfield 15, 3)), (19, (.iload 4, 2)), (21, (.aload_n 2, 1)), (22, (.iload_n 3, 1)), (23, (.iload 4, 2)), (25, (.invokevirtual 60, 3)), (28, (.ifCond .eq 7, 3)), (31, (.iconst 0, 1)), (32, (.goto 13, 3)), (35, (.aload_n 1, 1)), (36, (.aload_n 2, 1)), (37, (.iload_n 3, 1)), (38, (.iload 4, 2)), (40, (.bipush 7, 2)), (42, (.invokevirtual 65, 3)), (45, (.iastore, 1)), (46, (.iinc 4 1, 3)), (49, (.goto (-46), 3)), (52, (.return_, 1))]
theorem tkX5_askPrices_0 : (tbX5_askPrices_0.all fun q => decide (decode cX5_askPrices q.1 = .ok q.2)) = true := by decide +kernel
def tbX5_askPrices : List (Nat × (Instr × Nat)) := tbX5_askPrices_0
theorem tkX5_askPrices : (tbX5_askPrices.all fun q => decide (decode cX5_askPrices q.1 = .ok q.2)) = true := by
  unfold tbX5_askPrices
  simp only [List.all_append, Bool.and_eq_true]
  exact tkX5_askPrices_0
def tbX5_seeds_0 : List (Nat × (Instr × Nat)) := [(0, (.iconst 0, 1)), (1, (.istore 4, 2)), (3, (.iconst 0, 1)), (4, (.istore 5, 2)), (6, (.iload 5, 2)), (8, (.aload_n 1, 1)), (9, (.getfield 69, 3)), (12, (.if_icmp .ge 19, 3)), (15, (.iload 4, 2)), (17, (.iload 5, 2)), (19, (.invokestatic 72, 3)), (22, (.ior, 1)), (23, (.istore 4, 2)), (25, (.iinc 5 1, 3)), (28, (.goto (-22), 3)), (31, (.iload 4, 2)), (33, (.ifCond .ne 5, 3)), (36, (.iconst 0, 1)), (37, (.ireturn, 1)), (38, (.iconst 1, 1)), (39, (.istore 5, 2)), (41, (.iload 5, 2)), (43, (.iconst 3, 1)), (44, (.if_icmp .gt 56, 3)), (47, (.iload 4, 2)), (49, (.istore 6, 2)), (51, (.iload 6, 2)), (53, (.ifCond .le 41, 3)), (56, (.iload 6, 2)), (58, (.invokestatic 75, 3)), (61, (.iload 5, 2)), (63, (.if_icmp .ne 19, 3)), (66, (.aload_n 1, 1)), (67, (.iload 6, 2)), (69, (.iload_n 2, 1)), (70, (.iload_n 3, 1)), (71, (.invokestatic 80, 3)), (74, (.iload 4, 2)), (76, (.if_icmp .ne 6, 3)), (79, (.iload 6, 2))]
theorem tkX5_seeds_0 : (tbX5_seeds_0.all fun q => decide (decode cX5_seeds q.1 = .ok q.2)) = true := by decide +kernel
def tbX5_seeds_1 : List (Nat × (Instr × Nat)) := [(81, (.ireturn, 1)), (82, (.iload 6, 2)), (84, (.iconst 1, 1)), (85, (.isub, 1)), (86, (.iload 4, 2)), (88, (.iand, 1)), (89, (.istore 6, 2)), (91, (.goto (-40), 3)), (94, (.iinc 5 1, 3)), (97, (.goto (-56), 3)), (100, (.iconst (-1), 1)), (101, (.ireturn, 1))]
theorem tkX5_seeds_1 : (tbX5_seeds_1.all fun q => decide (decode cX5_seeds q.1 = .ok q.2)) = true := by decide +kernel
def tbX5_seeds : List (Nat × (Instr × Nat)) := tbX5_seeds_0 ++ tbX5_seeds_1
theorem tkX5_seeds : (tbX5_seeds.all fun q => decide (decode cX5_seeds q.1 = .ok q.2)) = true := by
  unfold tbX5_seeds
  simp only [List.all_append, Bool.and_eq_true]
  exact ⟨tkX5_seeds_0, tkX5_seeds_1⟩
def tbX5_seedAt_0 : List (Nat × (Instr × Nat)) := [(0, (.iconst 0, 1)), (1, (.istore_n 3, 1)), (2, (.iconst 0, 1)), (3, (.istore 4, 2)), (5, (.iload 4, 2)), (7, (.bipush 8, 2)), (9, (.if_icmp .ge 30, 3)), (12, (.iload_n 1, 1)), (13, (.iload 4, 2)), (15, (.invokestatic 72, 3)), (18, (.iand, 1)), (19, (.ifCond .eq 14, 3)), (22, (.iload_n 3, 1)), (23, (.iload_n 2, 1)), (24, (.if_icmp .ne 6, 3)), (27, (.iload 4, 2)), (29, (.ireturn, 1)), (30, (.iinc 3 1, 3)), (33, (.iinc 4 1, 3)), (36, (.goto (-31), 3)), (39, (.iconst (-1), 1)), (40, (.ireturn, 1))]
theorem tkX5_seedAt_0 : (tbX5_seedAt_0.all fun q => decide (decode cX5_seedAt q.1 = .ok q.2)) = true := by decide +kernel
def tbX5_seedAt : List (Nat × (Instr × Nat)) := tbX5_seedAt_0
theorem tkX5_seedAt : (tbX5_seedAt.all fun q => decide (decode cX5_seedAt q.1 = .ok q.2)) = true := by
  unfold tbX5_seedAt
  simp only [List.all_append, Bool.and_eq_true]
  exact tkX5_seedAt_0
def tbX5_seedBit_0 : List (Nat × (Instr × Nat)) := [(0, (.iconst 1, 1)), (1, (.bipush 7, 2)), (3, (.iload_n 0, 1)), (4, (.isub, 1)), (5, (.ishl, 1)), (6, (.ireturn, 1))]
theorem tkX5_seedBit_0 : (tbX5_seedBit_0.all fun q => decide (decode cX5_seedBit q.1 = .ok q.2)) = true := by decide +kernel
def tbX5_seedBit : List (Nat × (Instr × Nat)) := tbX5_seedBit_0
theorem tkX5_seedBit : (tbX5_seedBit.all fun q => decide (decode cX5_seedBit q.1 = .ok q.2)) = true := by
  unfold tbX5_seedBit
  simp only [List.all_append, Bool.and_eq_true]
  exact tkX5_seedBit_0
def tbX5_reached_0 : List (Nat × (Instr × Nat)) := [(0, (.iload_n 1, 1)), (1, (.istore 4, 2)), (3, (.iload_n 2, 1)), (4, (.iconst 1, 1)), (5, (.iadd, 1)), (6, (.istore 5, 2)), (8, (.iload 5, 2)), (10, (.iload_n 2, 1)), (11, (.iload_n 3, 1)), (12, (.iadd, 1)), (13, (.if_icmp .gt 73, 3)), (16, (.iconst 0, 1)), (17, (.istore 6, 2)), (19, (.iload 6, 2)), (21, (.aload_n 0, 1)), (22, (.getfield 84, 3)), (25, (.if_icmp .ge 55, 3)), (28, (.aload_n 0, 1)), (29, (.getfield 87, 3)), (32, (.iload 6, 2)), (34, (.iaload, 1)), (35, (.iload 5, 2)), (37, (.bipush 7, 2)), (39, (.irem, 1)), (40, (.if_icmp .ne 34, 3)), (43, (.iload 4, 2)), (45, (.aload_n 0, 1)), (46, (.getfield 90, 3)), (49, (.iload 6, 2)), (51, (.iaload, 1)), (52, (.invokestatic 72, 3)), (55, (.iand, 1)), (56, (.ifCond .eq 18, 3)), (59, (.iload 4, 2)), (61, (.aload_n 0, 1)), (62, (.getfield 93, 3)), (65, (.iload 6, 2)), (67, (.iaload, 1)), (68, (.invokestatic 72, 3)), (71, (.ior, 1))]
theorem tkX5_reached_0 : (tbX5_reached_0.all fun q => decide (decode cX5_reached q.1 = .ok q.2)) = true := by decide +kernel
def tbX5_reached_1 : List (Nat × (Instr × Nat)) := [(72, (.istore 4, 2)), (74, (.iinc 6 1, 3)), (77, (.goto (-58), 3)), (80, (.iinc 5 1, 3)), (83, (.goto (-75), 3)), (86, (.iload 4, 2)), (88, (.ireturn, 1))]
theorem tkX5_reached_1 : (tbX5_reached_1.all fun q => decide (decode cX5_reached q.1 = .ok q.2)) = true := by decide +kernel
def tbX5_reached : List (Nat × (Instr × Nat)) := tbX5_reached_0 ++ tbX5_reached_1
theorem tkX5_reached : (tbX5_reached.all fun q => decide (decode cX5_reached q.1 = .ok q.2)) = true := by
  unfold tbX5_reached
  simp only [List.all_append, Bool.and_eq_true]
  exact ⟨tkX5_reached_0, tkX5_reached_1⟩
def tbX5_lookAtFace_0 : List (Nat × (Instr × Nat)) := [(0, (.aload_n 1, 1)), (1, (.iload_n 2, 1)), (2, (.invokevirtual 96, 3)), (5, (.istore 4, 2)), (7, (.aload_n 1, 1)), (8, (.invokevirtual 99, 3)), (11, (.istore 5, 2)), (13, (.aload_n 0, 1)), (14, (.iconst 0, 1)), (15, (.putfield 103, 3)), (18, (.aload_n 0, 1)), (19, (.iload 5, 2)), (21, (.putfield 106, 3)), (24, (.aload_n 0, 1)), (25, (.iconst 0, 1)), (26, (.putfield 109, 3)), (29, (.iconst 0, 1)), (30, (.istore 6, 2)), (32, (.iload 6, 2)), (34, (.iload 5, 2)), (36, (.if_icmp .gt 65, 3)), (39, (.aload_n 1, 1)), (40, (.iload 4, 2)), (42, (.iload 6, 2)), (44, (.iconst (-1), 1)), (45, (.ixor, 1)), (46, (.iand, 1)), (47, (.invokevirtual 112, 3)), (50, (.iload_n 3, 1)), (51, (.if_icmp .ne 44, 3)), (54, (.aload_n 1, 1)), (55, (.iload 6, 2)), (57, (.invokevirtual 115, 3)), (60, (.ifCond .eq 35, 3)), (63, (.aload_n 0, 1)), (64, (.dup, 1)), (65, (.getfield 103, 3)), (68, (.iconst 1, 1)), (69, (.iadd, 1)), (70, (.putfield 103, 3))]
theorem tkX5_lookAtFace_0 : (tbX5_lookAtFace_0.all fun q => decide (decode cX5_lookAtFace q.1 = .ok q.2)) = true := by decide +kernel
def tbX5_lookAtFace_1 : List (Nat × (Instr × Nat)) := [(73, (.aload_n 0, 1)), (74, (.dup, 1)), (75, (.getfield 106, 3)), (78, (.iload 6, 2)), (80, (.iand, 1)), (81, (.putfield 106, 3)), (84, (.aload_n 0, 1)), (85, (.dup, 1)), (86, (.getfield 109, 3)), (89, (.iload 6, 2)), (91, (.ior, 1)), (92, (.putfield 109, 3)), (95, (.iinc 6 1, 3)), (98, (.goto (-66), 3)), (101, (.aload_n 0, 1)), (102, (.getfield 103, 3)), (105, (.ifCond .ne 8, 3)), (108, (.aload_n 0, 1)), (109, (.iconst 0, 1)), (110, (.putfield 106, 3)), (113, (.return_, 1))]
theorem tkX5_lookAtFace_1 : (tbX5_lookAtFace_1.all fun q => decide (decode cX5_lookAtFace q.1 = .ok q.2)) = true := by decide +kernel
def tbX5_lookAtFace : List (Nat × (Instr × Nat)) := tbX5_lookAtFace_0 ++ tbX5_lookAtFace_1
theorem tkX5_lookAtFace : (tbX5_lookAtFace.all fun q => decide (decode cX5_lookAtFace q.1 = .ok q.2)) = true := by
  unfold tbX5_lookAtFace
  simp only [List.all_append, Bool.and_eq_true]
  exact ⟨tkX5_lookAtFace_0, tkX5_lookAtFace_1⟩
def tbX5_comeToRest_0 : List (Nat × (Instr × Nat)) := [(0, (.aload_n 0, 1)), (1, (.iconst 0, 1)), (2, (.putfield 119, 3)), (5, (.aload_n 0, 1)), (6, (.iconst 0, 1)), (7, (.putfield 122, 3)), (10, (.aload_n 0, 1)), (11, (.iconst 0, 1)), (12, (.putfield 125, 3)), (15, (.iconst (-1), 1)), (16, (.istore_n 3, 1)), (17, (.iconst 0, 1)), (18, (.istore 4, 2)), (20, (.iload 4, 2)), (22, (.bipush 96, 2)), (24, (.if_icmp .gt 61, 3)), (27, (.iload_n 3, 1)), (28, (.aload_n 0, 1)), (29, (.getfield 119, 3)), (32, (.if_icmp .eq 53, 3)), (35, (.aload_n 0, 1)), (36, (.getfield 119, 3)), (39, (.istore_n 3, 1)), (40, (.aload_n 0, 1)), (41, (.dup, 1)), (42, (.getfield 125, 3)), (45, (.iconst 1, 1)), (46, (.iadd, 1)), (47, (.putfield 125, 3)), (50, (.iconst 0, 1)), (51, (.istore 5, 2)), (53, (.iload 5, 2)), (55, (.aload_n 1, 1)), (56, (.getfield 51, 3)), (59, (.getfield 69, 3)), (62, (.if_icmp .ge 17, 3)), (65, (.aload_n 0, 1)), (66, (.aload_n 1, 1)), (67, (.aload_n 2, 1)), (68, (.iload 5, 2))]
theorem tkX5_comeToRest_0 : (tbX5_comeToRest_0.all fun q => decide (decode cX5_comeToRest q.1 = .ok q.2)) = true := by decide +kernel
def tbX5_comeToRest_1 : List (Nat × (Instr × Nat)) := [(70, (.invokevirtual 128, 3)), (73, (.iinc 5 1, 3)), (76, (.goto (-23), 3)), (79, (.iinc 4 1, 3)), (82, (.goto (-62), 3)), (85, (.return_, 1))]
theorem tkX5_comeToRest_1 : (tbX5_comeToRest_1.all fun q => decide (decode cX5_comeToRest q.1 = .ok q.2)) = true := by decide +kernel
def tbX5_comeToRest : List (Nat × (Instr × Nat)) := tbX5_comeToRest_0 ++ tbX5_comeToRest_1
theorem tkX5_comeToRest : (tbX5_comeToRest.all fun q => decide (decode cX5_comeToRest q.1 = .ok q.2)) = true := by
  unfold tbX5_comeToRest
  simp only [List.all_append, Bool.and_eq_true]
  exact ⟨tkX5_comeToRest_0, tkX5_comeToRest_1⟩
def tbX5_buyBest_0 : List (Nat × (Instr × Nat)) := [(0, (.aload_n 1, 1)), (1, (.aload_n 2, 1)), (2, (.invokevirtual 132, 3)), (5, (.ifCond .le 18, 3)), (8, (.aload_n 2, 1)), (9, (.getfield 136, 3)), (12, (.bipush 7, 2)), (14, (.iadd, 1)), (15, (.iconst 1, 1)), (16, (.isub, 1)), (17, (.sipush 999, 3)), (20, (.if_icmp .le 4, 3)), (23, (.return_, 1)), (24, (.aload_n 1, 1)), (25, (.getfield 51, 3)), (28, (.aload_n 2, 1)), (29, (.getfield 136, 3)), (32, (.invokevirtual 96, 3)), (35, (.aload_n 2, 1)), (36, (.getfield 139, 3)), (39, (.iload_n 3, 1)), (40, (.iaload, 1)), (41, (.iconst (-1), 1)), (42, (.ixor, 1)), (43, (.iand, 1)), (44, (.aload_n 2, 1)), (45, (.getfield 142, 3)), (48, (.iload_n 3, 1)), (49, (.iaload, 1)), (50, (.iconst (-1), 1)), (51, (.ixor, 1)), (52, (.iand, 1)), (53, (.istore 4, 2)), (55, (.iconst (-1), 1)), (56, (.istore 5, 2)), (58, (.iconst 0, 1)), (59, (.istore 6, 2)), (61, (.iconst 0, 1)), (62, (.istore 7, 2)), (64, (.iconst 0, 1))]
theorem tkX5_buyBest_0 : (tbX5_buyBest_0.all fun q => decide (decode cX5_buyBest q.1 = .ok q.2)) = true := by decide +kernel
def tbX5_buyBest_1 : List (Nat × (Instr × Nat)) := [(65, (.istore 8, 2)), (67, (.iload 8, 2)), (69, (.aload_n 1, 1)), (70, (.getfield 51, 3)), (73, (.getfield 57, 3)), (76, (.if_icmp .ge 77, 3)), (79, (.iload 4, 2)), (81, (.iload 8, 2)), (83, (.ishr, 1)), (84, (.iconst 1, 1)), (85, (.iand, 1)), (86, (.iconst 1, 1)), (87, (.if_icmp .ne 60, 3)), (90, (.aload_n 1, 1)), (91, (.aload_n 2, 1)), (92, (.iload_n 3, 1)), (93, (.iload 8, 2)), (95, (.bipush 7, 2)), (97, (.invokevirtual 65, 3)), (100, (.istore 9, 2)), (102, (.aload_n 1, 1)), (103, (.getfield 51, 3)), (106, (.getfield 145, 3)), (109, (.iload 8, 2)), (111, (.iaload, 1)), (112, (.iload 9, 2)), (114, (.isub, 1)), (115, (.istore 10, 2)), (117, (.iload 9, 2)), (119, (.aload_n 2, 1)), (120, (.getfield 148, 3)), (123, (.iload_n 3, 1)), (124, (.iaload, 1)), (125, (.if_icmp .gt 22, 3)), (128, (.iload 10, 2)), (130, (.iload 7, 2)), (132, (.if_icmp .le 15, 3)), (135, (.iload 8, 2)), (137, (.istore 5, 2)), (139, (.iload 9, 2))]
theorem tkX5_buyBest_1 : (tbX5_buyBest_1.all fun q => decide (decode cX5_buyBest q.1 = .ok q.2)) = true := by decide +kernel
def tbX5_buyBest_2 : List (Nat × (Instr × Nat)) := [(141, (.istore 6, 2)), (143, (.iload 10, 2)), (145, (.istore 7, 2)), (147, (.iinc 8 1, 3)), (150, (.goto (-83), 3)), (153, (.iload 5, 2)), (155, (.iconst (-1), 1)), (156, (.if_icmp .eq 35, 3)), (159, (.aload_n 2, 1)), (160, (.iload_n 3, 1)), (161, (.iload 5, 2)), (163, (.bipush 7, 2)), (165, (.iload 6, 2)), (167, (.invokevirtual 151, 3)), (170, (.aload_n 0, 1)), (171, (.dup, 1)), (172, (.getfield 119, 3)), (175, (.iconst 1, 1)), (176, (.iadd, 1)), (177, (.putfield 119, 3)), (180, (.aload_n 0, 1)), (181, (.dup, 1)), (182, (.getfield 122, 3)), (185, (.iload 6, 2)), (187, (.iadd, 1)), (188, (.putfield 122, 3)), (191, (.return_, 1))]
theorem tkX5_buyBest_2 : (tbX5_buyBest_2.all fun q => decide (decode cX5_buyBest q.1 = .ok q.2)) = true := by decide +kernel
def tbX5_buyBest : List (Nat × (Instr × Nat)) := tbX5_buyBest_0 ++ tbX5_buyBest_1 ++ tbX5_buyBest_2
theorem tkX5_buyBest : (tbX5_buyBest.all fun q => decide (decode cX5_buyBest q.1 = .ok q.2)) = true := by
  unfold tbX5_buyBest
  simp only [List.all_append, Bool.and_eq_true]
  exact ⟨⟨tkX5_buyBest_0, tkX5_buyBest_1⟩, tkX5_buyBest_2⟩
def tbX6_init_0 : List (Nat × (Instr × Nat)) := [(0, (.aload_n 0, 1)), (1, (.invokespecial 3, 3)), (4, (.aload_n 0, 1)), (5, (.iconst (-1), 1)), (6, (.putfield 9, 3)), (9, (.aload_n 0, 1)), (10, (.sipush 1600, 3)), (13, (.newarray .int, 2)), (15, (.putfield 15, 3)), (18, (.aload_n 0, 1)), (19, (.bipush 26, 2)), (21, (.newarray .long, 2)), (23, (.putfield 21, 3)), (26, (.iconst 0, 1)), (27, (.istore_n 1, 1)), (28, (.iload_n 1, 1)), (29, (.bipush 26, 2)), (31, (.if_icmp .ge 61, 3)), (34, (.iconst 0, 1)), (35, (.istore_n 2, 1)), (36, (.iload_n 2, 1)), (37, (.bipush 8, 2)), (39, (.if_icmp .ge 47, 3)), (42, (.ldc 25, 2)), (44, (.iload_n 1, 1)), (45, (.bipush 8, 2)), (47, (.imul, 1)), (48, (.iload_n 2, 1)), (49, (.iadd, 1)), (50, (.invokevirtual 27, 3)), (53, (.istore_n 3, 1)), (54, (.iload_n 3, 1)), (55, (.bipush 32, 2)), (57, (.if_icmp .eq 23, 3)), (60, (.aload_n 0, 1)), (61, (.getfield 21, 3)), (64, (.iload_n 1, 1)), (65, (.dup2, 1)), (66, (.laload, 1)), (67, (.iload_n 3, 1))]
theorem tkX6_init_0 : (tbX6_init_0.all fun q => decide (decode cX6_init q.1 = .ok q.2)) = true := by decide +kernel
def tbX6_init_1 : List (Nat × (Instr × Nat)) := [(68, (.bipush 97, 2)), (70, (.isub, 1)), (71, (.iconst 1, 1)), (72, (.iadd, 1)), (73, (.i2l, 1)), (74, (.iconst 5, 1)), (75, (.iload_n 2, 1)), (76, (.imul, 1)), (77, (.lshl, 1)), (78, (.lor, 1)), (79, (.lastore, 1)), (80, (.iinc 2 1, 3)), (83, (.goto (-47), 3)), (86, (.iinc 1 1, 3)), (89, (.goto (-61), 3)), (92, (.return_, 1))]
theorem tkX6_init_1 : (tbX6_init_1.all fun q => decide (decode cX6_init q.1 = .ok q.2)) = true := by decide +kernel
def tbX6_init : List (Nat × (Instr × Nat)) := tbX6_init_0 ++ tbX6_init_1
theorem tkX6_init : (tbX6_init.all fun q => decide (decode cX6_init q.1 = .ok q.2)) = true := by
  unfold tbX6_init
  simp only [List.all_append, Bool.and_eq_true]
  exact ⟨tkX6_init_0, tkX6_init_1⟩
def tbX6_readText_0 : List (Nat × (Instr × Nat)) := [(0, (.aload_n 0, 1)), (1, (.aload_n 1, 1)), (2, (.putfield 33, 3)), (5, (.aload_n 0, 1)), (6, (.iload_n 2, 1)), (7, (.aload_n 1, 1)), (8, (.arraylength, 1)), (9, (.invokestatic 37, 3)), (12, (.putfield 43, 3)), (15, (.aload_n 0, 1)), (16, (.iconst 0, 1)), (17, (.putfield 46, 3)), (20, (.aload_n 0, 1)), (21, (.aload_n 3, 1)), (22, (.putfield 49, 3)), (25, (.aload_n 0, 1)), (26, (.getfield 49, 3)), (29, (.invokevirtual 53, 3)), (32, (.aload_n 0, 1)), (33, (.iconst 0, 1)), (34, (.putfield 58, 3)), (37, (.aload_n 0, 1)), (38, (.iconst 0, 1)), (39, (.putfield 62, 3)), (42, (.aload_n 0, 1)), (43, (.iconst (-1), 1)), (44, (.putfield 9, 3)), (47, (.aload_n 0, 1)), (48, (.invokevirtual 65, 3)), (51, (.iconst 0, 1)), (52, (.istore 4, 2)), (54, (.aload_n 0, 1)), (55, (.getfield 68, 3)), (58, (.bipush 28, 2)), (60, (.if_icmp .eq 48, 3)), (63, (.iload 4, 2)), (65, (.bipush 80, 2)), (67, (.if_icmp .lt 16, 3)), (70, (.aload_n 0, 1)), (71, (.bipush 6, 2))]
theorem tkX6_readText_0 : (tbX6_readText_0.all fun q => decide (decode cX6_readText q.1 = .ok q.2)) = true := by decide +kernel
def tbX6_readText_1 : List (Nat × (Instr × Nat)) := [(73, (.aload_n 0, 1)), (74, (.getfield 71, 3)), (77, (.invokevirtual 74, 3)), (80, (.pop, 1)), (81, (.iconst (-1), 1)), (82, (.ireturn, 1)), (83, (.aload_n 0, 1)), (84, (.invokevirtual 78, 3)), (87, (.ifCond .eq 13, 3)), (90, (.aload_n 0, 1)), (91, (.sipush 159, 3)), (94, (.invokevirtual 82, 3)), (97, (.ifCond .ne 5, 3)), (100, (.iconst (-1), 1)), (101, (.ireturn, 1)), (102, (.iinc 4 1, 3)), (105, (.goto (-51), 3)), (108, (.iload 4, 2)), (110, (.ireturn, 1))]
theorem tkX6_readText_1 : (tbX6_readText_1.all fun q => decide (decode cX6_readText q.1 = .ok q.2)) = true := by decide +kernel
def tbX6_readText : List (Nat × (Instr × Nat)) := tbX6_readText_0 ++ tbX6_readText_1
theorem tkX6_readText : (tbX6_readText.all fun q => decide (decode cX6_readText q.1 = .ok q.2)) = true := by
  unfold tbX6_readText
  simp only [List.all_append, Bool.and_eq_true]
  exact ⟨tkX6_readText_0, tkX6_readText_1⟩
def tbX6_fail_0 : List (Nat × (Instr × Nat)) := [(0, (.aload_n 0, 1)), (1, (.iload_n 1, 1)), (2, (.putfield 62, 3)), (5, (.aload_n 0, 1)), (6, (.iload_n 2, 1)), (7, (.putfield 9, 3)), (10, (.iconst 0, 1)), (11, (.ireturn, 1))]
theorem tkX6_fail_0 : (tbX6_fail_0.all fun q => decide (decode cX6_fail q.1 = .ok q.2)) = true := by decide +kernel
def tbX6_fail : List (Nat × (Instr × Nat)) := tbX6_fail_0
theorem tkX6_fail : (tbX6_fail.all fun q => decide (decode cX6_fail q.1 = .ok q.2)) = true := by
  unfold tbX6_fail
  simp only [List.all_append, Bool.and_eq_true]
  exact tkX6_fail_0
def tbX6_readNext_0 : List (Nat × (Instr × Nat)) := [(0, (.aload_n 0, 1)), (1, (.getfield 46, 3)), (4, (.istore_n 1, 1)), (5, (.aload_n 0, 1)), (6, (.getfield 46, 3)), (9, (.aload_n 0, 1)), (10, (.getfield 43, 3)), (13, (.if_icmp .ge 44, 3)), (16, (.aload_n 0, 1)), (17, (.getfield 33, 3)), (20, (.aload_n 0, 1)), (21, (.getfield 46, 3)), (24, (.baload, 1)), (25, (.bipush 10, 2)), (27, (.if_icmp .eq 17, 3)), (30, (.aload_n 0, 1)), (31, (.getfield 33, 3)), (34, (.aload_n 0, 1)), (35, (.getfield 46, 3)), (38, (.baload, 1)), (39, (.bipush 32, 2)), (41, (.if_icmp .ne 16, 3)), (44, (.aload_n 0, 1)), (45, (.dup, 1)), (46, (.getfield 46, 3)), (49, (.iconst 1, 1)), (50, (.iadd, 1)), (51, (.putfield 46, 3)), (54, (.goto (-49), 3)), (57, (.aload_n 0, 1)), (58, (.aload_n 0, 1)), (59, (.getfield 46, 3)), (62, (.putfield 71, 3)), (65, (.aload_n 0, 1)), (66, (.aload_n 0, 1)), (67, (.getfield 46, 3)), (70, (.putfield 86, 3)), (73, (.aload_n 0, 1)), (74, (.getfield 46, 3)), (77, (.aload_n 0, 1))]
theorem tkX6_readNext_0 : (tbX6_readNext_0.all fun q => decide (decode cX6_readNext q.1 = .ok q.2)) = true := by decide +kernel
def tbX6_readNext_1 : List (Nat × (Instr × Nat)) := [(78, (.getfield 43, 3)), (81, (.if_icmp .lt 10, 3)), (84, (.aload_n 0, 1)), (85, (.bipush 28, 2)), (87, (.putfield 68, 3)), (90, (.return_, 1)), (91, (.aload_n 0, 1)), (92, (.getfield 58, 3)), (95, (.ifCond .eq 15, 3)), (98, (.aload_n 0, 1)), (99, (.getfield 71, 3)), (102, (.iload_n 1, 1)), (103, (.if_icmp .ne 7, 3)), (106, (.iconst 1, 1)), (107, (.goto 4, 3)), (110, (.iconst 0, 1)), (111, (.istore_n 2, 1)), (112, (.aload_n 0, 1)), (113, (.iconst 1, 1)), (114, (.putfield 58, 3)), (117, (.aload_n 0, 1)), (118, (.getfield 33, 3)), (121, (.aload_n 0, 1)), (122, (.getfield 46, 3)), (125, (.baload, 1)), (126, (.bipush 97, 2)), (128, (.if_icmp .lt 24, 3)), (131, (.aload_n 0, 1)), (132, (.getfield 33, 3)), (135, (.aload_n 0, 1)), (136, (.getfield 46, 3)), (139, (.baload, 1)), (140, (.bipush 122, 2)), (142, (.if_icmp .gt 10, 3)), (145, (.aload_n 0, 1)), (146, (.invokevirtual 89, 3)), (149, (.goto 73, 3)), (152, (.aload_n 0, 1)), (153, (.getfield 33, 3)), (156, (.aload_n 0, 1))]
theorem tkX6_readNext_1 : (tbX6_readNext_1.all fun q => decide (decode cX6_readNext q.1 = .ok q.2)) = true := by decide +kernel
def tbX6_readNext_2 : List (Nat × (Instr × Nat)) := [(157, (.getfield 46, 3)), (160, (.baload, 1)), (161, (.bipush 48, 2)), (163, (.if_icmp .lt 24, 3)), (166, (.aload_n 0, 1)), (167, (.getfield 33, 3)), (170, (.aload_n 0, 1)), (171, (.getfield 46, 3)), (174, (.baload, 1)), (175, (.bipush 57, 2)), (177, (.if_icmp .gt 10, 3)), (180, (.aload_n 0, 1)), (181, (.invokevirtual 92, 3)), (184, (.goto 38, 3)), (187, (.aload_n 0, 1)), (188, (.bipush 100, 2)), (190, (.aload_n 0, 1)), (191, (.getfield 33, 3)), (194, (.aload_n 0, 1)), (195, (.getfield 46, 3)), (198, (.baload, 1)), (199, (.sipush 255, 3)), (202, (.iand, 1)), (203, (.iadd, 1)), (204, (.putfield 68, 3)), (207, (.aload_n 0, 1)), (208, (.dup, 1)), (209, (.getfield 46, 3)), (212, (.iconst 1, 1)), (213, (.iadd, 1)), (214, (.putfield 46, 3)), (217, (.aload_n 0, 1)), (218, (.iconst 0, 1)), (219, (.putfield 58, 3)), (222, (.iload_n 2, 1)), (223, (.ifCond .eq 24, 3)), (226, (.aload_n 0, 1)), (227, (.getfield 58, 3)), (230, (.ifCond .eq 17, 3)), (233, (.aload_n 0, 1))]
theorem tkX6_readNext_2 : (tbX6_readNext_2.all fun q => decide (decode cX6_readNext q.1 = .ok q.2)) = true := by decide +kernel
def tbX6_readNext_3 : List (Nat × (Instr × Nat)) := [(234, (.bipush 29, 2)), (236, (.putfield 68, 3)), (239, (.aload_n 0, 1)), (240, (.aload_n 0, 1)), (241, (.getfield 71, 3)), (244, (.putfield 86, 3)), (247, (.return_, 1))]
theorem tkX6_readNext_3 : (tbX6_readNext_3.all fun q => decide (decode cX6_readNext q.1 = .ok q.2)) = true := by decide +kernel
def tbX6_readNext : List (Nat × (Instr × Nat)) := tbX6_readNext_0 ++ tbX6_readNext_1 ++ tbX6_readNext_2 ++ tbX6_readNext_3
theorem tkX6_readNext : (tbX6_readNext.all fun q => decide (decode cX6_readNext q.1 = .ok q.2)) = true := by
  unfold tbX6_readNext
  simp only [List.all_append, Bool.and_eq_true]
  exact ⟨⟨⟨tkX6_readNext_0, tkX6_readNext_1⟩, tkX6_readNext_2⟩, tkX6_readNext_3⟩
def tbX6_readWord_0 : List (Nat × (Instr × Nat)) := [(0, (.lconst 0, 1)), (1, (.lstore_n 1, 1)), (2, (.aload_n 0, 1)), (3, (.getfield 46, 3)), (6, (.aload_n 0, 1)), (7, (.getfield 43, 3)), (10, (.if_icmp .ge 88, 3)), (13, (.aload_n 0, 1)), (14, (.getfield 33, 3)), (17, (.aload_n 0, 1)), (18, (.getfield 46, 3)), (21, (.baload, 1)), (22, (.bipush 97, 2)), (24, (.if_icmp .lt 74, 3)), (27, (.aload_n 0, 1)), (28, (.getfield 33, 3)), (31, (.aload_n 0, 1)), (32, (.getfield 46, 3)), (35, (.baload, 1)), (36, (.bipush 122, 2)), (38, (.if_icmp .gt 60, 3)), (41, (.aload_n 0, 1)), (42, (.getfield 46, 3)), (45, (.aload_n 0, 1)), (46, (.getfield 71, 3)), (49, (.isub, 1)), (50, (.bipush 8, 2)), (52, (.if_icmp .ge 33, 3)), (55, (.lload_n 1, 1)), (56, (.aload_n 0, 1)), (57, (.getfield 33, 3)), (60, (.aload_n 0, 1)), (61, (.getfield 46, 3)), (64, (.baload, 1)), (65, (.bipush 97, 2)), (67, (.isub, 1)), (68, (.iconst 1, 1)), (69, (.iadd, 1)), (70, (.i2l, 1)), (71, (.iconst 5, 1))]
theorem tkX6_readWord_0 : (tbX6_readWord_0.all fun q => decide (decode cX6_readWord q.1 = .ok q.2)) = true := by decide +kernel
def tbX6_readWord_1 : List (Nat × (Instr × Nat)) := [(72, (.aload_n 0, 1)), (73, (.getfield 46, 3)), (76, (.aload_n 0, 1)), (77, (.getfield 71, 3)), (80, (.isub, 1)), (81, (.imul, 1)), (82, (.lshl, 1)), (83, (.lor, 1)), (84, (.lstore_n 1, 1)), (85, (.aload_n 0, 1)), (86, (.dup, 1)), (87, (.getfield 46, 3)), (90, (.iconst 1, 1)), (91, (.iadd, 1)), (92, (.putfield 46, 3)), (95, (.goto (-93), 3)), (98, (.aload_n 0, 1)), (99, (.bipush 26, 2)), (101, (.putfield 68, 3)), (104, (.aload_n 0, 1)), (105, (.lload_n 1, 1)), (106, (.l2i, 1)), (107, (.putfield 95, 3)), (110, (.iconst 0, 1)), (111, (.istore_n 3, 1)), (112, (.iload_n 3, 1)), (113, (.bipush 26, 2)), (115, (.if_icmp .ge 25, 3)), (118, (.aload_n 0, 1)), (119, (.getfield 21, 3)), (122, (.iload_n 3, 1)), (123, (.laload, 1)), (124, (.lload_n 1, 1)), (125, (.lcmp, 1)), (126, (.ifCond .ne 8, 3)), (129, (.aload_n 0, 1)), (130, (.iload_n 3, 1)), (131, (.putfield 68, 3)), (134, (.iinc 3 1, 3)), (137, (.goto (-25), 3))]
theorem tkX6_readWord_1 : (tbX6_readWord_1.all fun q => decide (decode cX6_readWord q.1 = .ok q.2)) = true := by decide +kernel
def tbX6_readWord_2 : List (Nat × (Instr × Nat)) := [(140, (.aload_n 0, 1)), (141, (.getfield 68, 3)), (144, (.bipush 26, 2)), (146, (.if_icmp .ne 34, 3)), (149, (.aload_n 0, 1)), (150, (.getfield 46, 3)), (153, (.aload_n 0, 1)), (154, (.getfield 71, 3)), (157, (.isub, 1)), (158, (.bipush 6, 2)), (160, (.if_icmp .le 20, 3)), (163, (.aload_n 0, 1)), (164, (.bipush 29, 2)), (166, (.putfield 68, 3)), (169, (.aload_n 0, 1)), (170, (.aload_n 0, 1)), (171, (.getfield 71, 3)), (174, (.bipush 6, 2)), (176, (.iadd, 1)), (177, (.putfield 86, 3)), (180, (.return_, 1))]
theorem tkX6_readWord_2 : (tbX6_readWord_2.all fun q => decide (decode cX6_readWord q.1 = .ok q.2)) = true := by decide +kernel
def tbX6_readWord : List (Nat × (Instr × Nat)) := tbX6_readWord_0 ++ tbX6_readWord_1 ++ tbX6_readWord_2
theorem tkX6_readWord : (tbX6_readWord.all fun q => decide (decode cX6_readWord q.1 = .ok q.2)) = true := by
  unfold tbX6_readWord
  simp only [List.all_append, Bool.and_eq_true]
  exact ⟨⟨tkX6_readWord_0, tkX6_readWord_1⟩, tkX6_readWord_2⟩
def tbX6_readDigits_0 : List (Nat × (Instr × Nat)) := [(0, (.aload_n 0, 1)), (1, (.iconst 0, 1)), (2, (.putfield 95, 3)), (5, (.aload_n 0, 1)), (6, (.getfield 46, 3)), (9, (.aload_n 0, 1)), (10, (.getfield 43, 3)), (13, (.if_icmp .ge 81, 3)), (16, (.aload_n 0, 1)), (17, (.getfield 33, 3)), (20, (.aload_n 0, 1)), (21, (.getfield 46, 3)), (24, (.baload, 1)), (25, (.bipush 48, 2)), (27, (.if_icmp .lt 67, 3)), (30, (.aload_n 0, 1)), (31, (.getfield 33, 3)), (34, (.aload_n 0, 1)), (35, (.getfield 46, 3)), (38, (.baload, 1)), (39, (.bipush 57, 2)), (41, (.if_icmp .gt 53, 3)), (44, (.aload_n 0, 1)), (45, (.getfield 46, 3)), (48, (.aload_n 0, 1)), (49, (.getfield 71, 3)), (52, (.isub, 1)), (53, (.iconst 4, 1)), (54, (.if_icmp .ge 27, 3)), (57, (.aload_n 0, 1)), (58, (.aload_n 0, 1)), (59, (.getfield 95, 3)), (62, (.bipush 10, 2)), (64, (.imul, 1)), (65, (.aload_n 0, 1)), (66, (.getfield 33, 3)), (69, (.aload_n 0, 1)), (70, (.getfield 46, 3)), (73, (.baload, 1)), (74, (.iadd, 1))]
theorem tkX6_readDigits_0 : (tbX6_readDigits_0.all fun q => decide (decode cX6_readDigits q.1 = .ok q.2)) = true := by decide +kernel
def tbX6_readDigits_1 : List (Nat × (Instr × Nat)) := [(75, (.bipush 48, 2)), (77, (.isub, 1)), (78, (.putfield 95, 3)), (81, (.aload_n 0, 1)), (82, (.dup, 1)), (83, (.getfield 46, 3)), (86, (.iconst 1, 1)), (87, (.iadd, 1)), (88, (.putfield 46, 3)), (91, (.goto (-86), 3)), (94, (.aload_n 0, 1)), (95, (.bipush 27, 2)), (97, (.putfield 68, 3)), (100, (.aload_n 0, 1)), (101, (.getfield 46, 3)), (104, (.aload_n 0, 1)), (105, (.getfield 71, 3)), (108, (.isub, 1)), (109, (.iconst 4, 1)), (110, (.if_icmp .le 19, 3)), (113, (.aload_n 0, 1)), (114, (.bipush 29, 2)), (116, (.putfield 68, 3)), (119, (.aload_n 0, 1)), (120, (.aload_n 0, 1)), (121, (.getfield 71, 3)), (124, (.iconst 4, 1)), (125, (.iadd, 1)), (126, (.putfield 86, 3)), (129, (.return_, 1))]
theorem tkX6_readDigits_1 : (tbX6_readDigits_1.all fun q => decide (decode cX6_readDigits q.1 = .ok q.2)) = true := by decide +kernel
def tbX6_readDigits : List (Nat × (Instr × Nat)) := tbX6_readDigits_0 ++ tbX6_readDigits_1
theorem tkX6_readDigits : (tbX6_readDigits.all fun q => decide (decode cX6_readDigits q.1 = .ok q.2)) = true := by
  unfold tbX6_readDigits
  simp only [List.all_append, Bool.and_eq_true]
  exact ⟨tkX6_readDigits_0, tkX6_readDigits_1⟩
def tbX6_pass_0 : List (Nat × (Instr × Nat)) := [(0, (.aload_n 0, 1)), (1, (.getfield 68, 3)), (4, (.iload_n 1, 1)), (5, (.if_icmp .eq 13, 3)), (8, (.aload_n 0, 1)), (9, (.iconst 1, 1)), (10, (.aload_n 0, 1)), (11, (.getfield 86, 3)), (14, (.invokevirtual 74, 3)), (17, (.ireturn, 1)), (18, (.aload_n 0, 1)), (19, (.invokevirtual 65, 3)), (22, (.iconst 1, 1)), (23, (.ireturn, 1))]
theorem tkX6_pass_0 : (tbX6_pass_0.all fun q => decide (decode cX6_pass q.1 = .ok q.2)) = true := by decide +kernel
def tbX6_pass : List (Nat × (Instr × Nat)) := tbX6_pass_0
theorem tkX6_pass : (tbX6_pass.all fun q => decide (decode cX6_pass q.1 = .ok q.2)) = true := by
  unfold tbX6_pass
  simp only [List.all_append, Bool.and_eq_true]
  exact tkX6_pass_0
def tbX6_passNumber_0 : List (Nat × (Instr × Nat)) := [(0, (.aload_n 0, 1)), (1, (.getfield 68, 3)), (4, (.bipush 27, 2)), (6, (.if_icmp .eq 15, 3)), (9, (.aload_n 0, 1)), (10, (.iconst 1, 1)), (11, (.aload_n 0, 1)), (12, (.getfield 86, 3)), (15, (.invokevirtual 74, 3)), (18, (.pop, 1)), (19, (.iconst (-1), 1)), (20, (.ireturn, 1)), (21, (.aload_n 0, 1)), (22, (.getfield 95, 3)), (25, (.istore_n 2, 1)), (26, (.iload_n 2, 1)), (27, (.iload_n 1, 1)), (28, (.if_icmp .le 15, 3)), (31, (.aload_n 0, 1)), (32, (.iconst 4, 1)), (33, (.aload_n 0, 1)), (34, (.getfield 71, 3)), (37, (.invokevirtual 74, 3)), (40, (.pop, 1)), (41, (.iconst (-1), 1)), (42, (.ireturn, 1)), (43, (.aload_n 0, 1)), (44, (.invokevirtual 65, 3)), (47, (.iload_n 2, 1)), (48, (.ireturn, 1))]
theorem tkX6_passNumber_0 : (tbX6_passNumber_0.all fun q => decide (decode cX6_passNumber q.1 = .ok q.2)) = true := by decide +kernel
def tbX6_passNumber : List (Nat × (Instr × Nat)) := tbX6_passNumber_0
theorem tkX6_passNumber : (tbX6_passNumber.all fun q => decide (decode cX6_passNumber q.1 = .ok q.2)) = true := by
  unfold tbX6_passNumber
  simp only [List.all_append, Bool.and_eq_true]
  exact tkX6_passNumber_0
def tbX6_passNewName_0 : List (Nat × (Instr × Nat)) := [(0, (.aload_n 0, 1)), (1, (.getfield 68, 3)), (4, (.bipush 26, 2)), (6, (.if_icmp .eq 15, 3)), (9, (.aload_n 0, 1)), (10, (.iconst 1, 1)), (11, (.aload_n 0, 1)), (12, (.getfield 86, 3)), (15, (.invokevirtual 74, 3)), (18, (.pop, 1)), (19, (.iconst (-1), 1)), (20, (.ireturn, 1)), (21, (.aload_n 0, 1)), (22, (.getfield 95, 3)), (25, (.istore_n 1, 1)), (26, (.aload_n 0, 1)), (27, (.aload_n 0, 1)), (28, (.getfield 49, 3)), (31, (.getfield 98, 3)), (34, (.aload_n 0, 1)), (35, (.getfield 49, 3)), (38, (.getfield 101, 3)), (41, (.invokevirtual 104, 3)), (44, (.iconst (-1), 1)), (45, (.if_icmp .ne 25, 3)), (48, (.aload_n 0, 1)), (49, (.aload_n 0, 1)), (50, (.getfield 49, 3)), (53, (.getfield 108, 3)), (56, (.aload_n 0, 1)), (57, (.getfield 49, 3)), (60, (.getfield 111, 3)), (63, (.invokevirtual 104, 3)), (66, (.iconst (-1), 1)), (67, (.if_icmp .eq 15, 3)), (70, (.aload_n 0, 1)), (71, (.iconst 2, 1)), (72, (.aload_n 0, 1)), (73, (.getfield 71, 3)), (76, (.invokevirtual 74, 3))]
theorem tkX6_passNewName_0 : (tbX6_passNewName_0.all fun q => decide (decode cX6_passNewName q.1 = .ok q.2)) = true := by decide +kernel
def tbX6_passNewName_1 : List (Nat × (Instr × Nat)) := [(79, (.pop, 1)), (80, (.iconst (-1), 1)), (81, (.ireturn, 1)), (82, (.aload_n 0, 1)), (83, (.invokevirtual 65, 3)), (86, (.iload_n 1, 1)), (87, (.ireturn, 1))]
theorem tkX6_passNewName_1 : (tbX6_passNewName_1.all fun q => decide (decode cX6_passNewName q.1 = .ok q.2)) = true := by decide +kernel
def tbX6_passNewName : List (Nat × (Instr × Nat)) := tbX6_passNewName_0 ++ tbX6_passNewName_1
theorem tkX6_passNewName : (tbX6_passNewName.all fun q => decide (decode cX6_passNewName q.1 = .ok q.2)) = true := by
  unfold tbX6_passNewName
  simp only [List.all_append, Bool.and_eq_true]
  exact ⟨tkX6_passNewName_0, tkX6_passNewName_1⟩
def tbX6_passName_0 : List (Nat × (Instr × Nat)) := [(0, (.aload_n 0, 1)), (1, (.getfield 68, 3)), (4, (.bipush 26, 2)), (6, (.if_icmp .eq 15, 3)), (9, (.aload_n 0, 1)), (10, (.iconst 1, 1)), (11, (.aload_n 0, 1)), (12, (.getfield 86, 3)), (15, (.invokevirtual 74, 3)), (18, (.pop, 1)), (19, (.iconst (-1), 1)), (20, (.ireturn, 1)), (21, (.aload_n 0, 1)), (22, (.aload_n 1, 1)), (23, (.iload_n 2, 1)), (24, (.invokevirtual 104, 3)), (27, (.istore 4, 2)), (29, (.iload 4, 2)), (31, (.iconst (-1), 1)), (32, (.if_icmp .eq 13, 3)), (35, (.iload_n 3, 1)), (36, (.iload 4, 2)), (38, (.ishr, 1)), (39, (.iconst 1, 1)), (40, (.iand, 1)), (41, (.iconst 1, 1)), (42, (.if_icmp .ne 15, 3)), (45, (.aload_n 0, 1)), (46, (.iconst 3, 1)), (47, (.aload_n 0, 1)), (48, (.getfield 71, 3)), (51, (.invokevirtual 74, 3)), (54, (.pop, 1)), (55, (.iconst (-1), 1)), (56, (.ireturn, 1)), (57, (.aload_n 0, 1)), (58, (.invokevirtual 65, 3)), (61, (.iload 4, 2)), (63, (.ireturn, 1))]
theorem tkX6_passName_0 : (tbX6_passName_0.all fun q => decide (decode cX6_passName q.1 = .ok q.2)) = true := by decide +kernel
def tbX6_passName : List (Nat × (Instr × Nat)) := tbX6_passName_0
theorem tkX6_passName : (tbX6_passName.all fun q => decide (decode cX6_passName q.1 = .ok q.2)) = true := by
  unfold tbX6_passName
  simp only [List.all_append, Bool.and_eq_true]
  exact tkX6_passName_0
def tbX6_find_0 : List (Nat × (Instr × Nat)) := [(0, (.iconst 0, 1)), (1, (.istore_n 3, 1)), (2, (.iload_n 3, 1)), (3, (.iload_n 2, 1)), (4, (.if_icmp .ge 27, 3)), (7, (.iload_n 3, 1)), (8, (.aload_n 1, 1)), (9, (.arraylength, 1)), (10, (.if_icmp .ge 21, 3)), (13, (.aload_n 1, 1)), (14, (.iload_n 3, 1)), (15, (.iaload, 1)), (16, (.aload_n 0, 1)), (17, (.getfield 95, 3)), (20, (.if_icmp .ne 5, 3)), (23, (.iload_n 3, 1)), (24, (.ireturn, 1)), (25, (.iinc 3 1, 3)), (28, (.goto (-26), 3)), (31, (.iconst (-1), 1)), (32, (.ireturn, 1))]
theorem tkX6_find_0 : (tbX6_find_0.all fun q => decide (decode cX6_find q.1 = .ok q.2)) = true := by decide +kernel
def tbX6_find : List (Nat × (Instr × Nat)) := tbX6_find_0
theorem tkX6_find : (tbX6_find.all fun q => decide (decode cX6_find q.1 = .ok q.2)) = true := by
  unfold tbX6_find
  simp only [List.all_append, Bool.and_eq_true]
  exact tkX6_find_0
def tbX6_readStatement_0 : List (Nat × (Instr × Nat)) := [(0, (.aload_n 0, 1)), (1, (.aload_n 0, 1)), (2, (.getfield 71, 3)), (5, (.putfield 114, 3)), (8, (.aload_n 0, 1)), (9, (.invokevirtual 117, 3)), (12, (.ifCond .eq 14, 3)), (15, (.aload_n 0, 1)), (16, (.bipush 6, 2)), (18, (.aload_n 0, 1)), (19, (.getfield 114, 3)), (22, (.invokevirtual 74, 3)), (25, (.ireturn, 1)), (26, (.aload_n 0, 1)), (27, (.getfield 68, 3)), (30, (.istore_n 1, 1)), (31, (.aload_n 0, 1)), (32, (.getfield 86, 3)), (35, (.istore_n 2, 1)), (36, (.iload_n 1, 1)), (37, (.bipush 26, 2)), (39, (.if_icmp .ge 7, 3)), (42, (.aload_n 0, 1)), (43, (.invokevirtual 65, 3)), (46, (.aload_n 0, 1)), (47, (.iconst 0, 1)), (48, (.putfield 120, 3)), (51, (.aload_n 0, 1)), (52, (.iconst 0, 1)), (53, (.putfield 123, 3)), (56, (.iload_n 1, 1)), (57, (.tableswitch 145 0 14 #[75, 145, 145, 80, 145, 85, 145, 145, 90, 145, 95, 145, 105, 125, 100], 75)), (132, (.aload_n 0, 1)), (133, (.invokevirtual 126, 3)), (136, (.ireturn, 1)), (137, (.aload_n 0, 1)), (138, (.invokevirtual 129, 3)), (141, (.ireturn, 1)), (142, (.aload_n 0, 1)), (143, (.invokevirtual 132, 3))]
theorem tkX6_readStatement_0 : (tbX6_readStatement_0.all fun q => decide (decode cX6_readStatement q.1 = .ok q.2)) = true := by decide +kernel
def tbX6_readStatement_1 : List (Nat × (Instr × Nat)) := [(146, (.ireturn, 1)), (147, (.aload_n 0, 1)), (148, (.invokevirtual 135, 3)), (151, (.ireturn, 1)), (152, (.aload_n 0, 1)), (153, (.invokevirtual 138, 3)), (156, (.ireturn, 1)), (157, (.aload_n 0, 1)), (158, (.invokevirtual 141, 3)), (161, (.ireturn, 1)), (162, (.aload_n 0, 1)), (163, (.invokevirtual 144, 3)), (166, (.ifCond .eq 14, 3)), (169, (.aload_n 0, 1)), (170, (.invokevirtual 147, 3)), (173, (.ifCond .eq 7, 3)), (176, (.iconst 1, 1)), (177, (.goto 4, 3)), (180, (.iconst 0, 1)), (181, (.ireturn, 1)), (182, (.aload_n 0, 1)), (183, (.invokevirtual 150, 3)), (186, (.ifCond .eq 14, 3)), (189, (.aload_n 0, 1)), (190, (.invokevirtual 153, 3)), (193, (.ifCond .eq 7, 3)), (196, (.iconst 1, 1)), (197, (.goto 4, 3)), (200, (.iconst 0, 1)), (201, (.ireturn, 1)), (202, (.aload_n 0, 1)), (203, (.iconst 1, 1)), (204, (.iload_n 2, 1)), (205, (.invokevirtual 74, 3)), (208, (.ireturn, 1))]
theorem tkX6_readStatement_1 : (tbX6_readStatement_1.all fun q => decide (decode cX6_readStatement q.1 = .ok q.2)) = true := by decide +kernel
def tbX6_readStatement : List (Nat × (Instr × Nat)) := tbX6_readStatement_0 ++ tbX6_readStatement_1
theorem tkX6_readStatement : (tbX6_readStatement.all fun q => decide (decode cX6_readStatement q.1 = .ok q.2)) = true := by
  unfold tbX6_readStatement
  simp only [List.all_append, Bool.and_eq_true]
  exact ⟨tkX6_readStatement_0, tkX6_readStatement_1⟩
def tbX6_isOneTooMany_0 : List (Nat × (Instr × Nat)) := [(0, (.aload_n 0, 1)), (1, (.getfield 68, 3)), (4, (.tableswitch 198 0 14 #[76, 198, 198, 94, 198, 112, 198, 198, 130, 198, 198, 198, 148, 165, 182], 76)), (80, (.aload_n 0, 1)), (81, (.getfield 49, 3)), (84, (.getfield 101, 3)), (87, (.bipush 12, 2)), (89, (.if_icmp .lt 7, 3)), (92, (.iconst 1, 1)), (93, (.goto 4, 3)), (96, (.iconst 0, 1)), (97, (.ireturn, 1)), (98, (.aload_n 0, 1)), (99, (.getfield 49, 3)), (102, (.getfield 156, 3)), (105, (.bipush 16, 2)), (107, (.if_icmp .lt 7, 3)), (110, (.iconst 1, 1)), (111, (.goto 4, 3)), (114, (.iconst 0, 1)), (115, (.ireturn, 1)), (116, (.aload_n 0, 1)), (117, (.getfield 49, 3)), (120, (.getfield 111, 3)), (123, (.bipush 8, 2)), (125, (.if_icmp .lt 7, 3)), (128, (.iconst 1, 1)), (129, (.goto 4, 3)), (132, (.iconst 0, 1)), (133, (.ireturn, 1)), (134, (.aload_n 0, 1)), (135, (.getfield 49, 3)), (138, (.getfield 159, 3)), (141, (.bipush 16, 2)), (143, (.if_icmp .lt 7, 3)), (146, (.iconst 1, 1)), (147, (.goto 4, 3)), (150, (.iconst 0, 1)), (151, (.ireturn, 1)), (152, (.aload_n 0, 1))]
theorem tkX6_isOneTooMany_0 : (tbX6_isOneTooMany_0.all fun q => decide (decode cX6_isOneTooMany q.1 = .ok q.2)) = true := by decide +kernel
def tbX6_isOneTooMany_1 : List (Nat × (Instr × Nat)) := [(153, (.getfield 49, 3)), (156, (.getfield 162, 3)), (159, (.arraylength, 1)), (160, (.ifCond .le 7, 3)), (163, (.iconst 1, 1)), (164, (.goto 4, 3)), (167, (.iconst 0, 1)), (168, (.ireturn, 1)), (169, (.aload_n 0, 1)), (170, (.getfield 49, 3)), (173, (.getfield 165, 3)), (176, (.arraylength, 1)), (177, (.ifCond .le 7, 3)), (180, (.iconst 1, 1)), (181, (.goto 4, 3)), (184, (.iconst 0, 1)), (185, (.ireturn, 1)), (186, (.aload_n 0, 1)), (187, (.getfield 49, 3)), (190, (.getfield 168, 3)), (193, (.ifCond .le 7, 3)), (196, (.iconst 1, 1)), (197, (.goto 4, 3)), (200, (.iconst 0, 1)), (201, (.ireturn, 1)), (202, (.iconst 0, 1)), (203, (.ireturn, 1))]
theorem tkX6_isOneTooMany_1 : (tbX6_isOneTooMany_1.all fun q => decide (decode cX6_isOneTooMany q.1 = .ok q.2)) = true := by decide +kernel
def tbX6_isOneTooMany : List (Nat × (Instr × Nat)) := tbX6_isOneTooMany_0 ++ tbX6_isOneTooMany_1
theorem tkX6_isOneTooMany : (tbX6_isOneTooMany.all fun q => decide (decode cX6_isOneTooMany q.1 = .ok q.2)) = true := by
  unfold tbX6_isOneTooMany
  simp only [List.all_append, Bool.and_eq_true]
  exact ⟨tkX6_isOneTooMany_0, tkX6_isOneTooMany_1⟩
def tbX6_readFact_0 : List (Nat × (Instr × Nat)) := [(0, (.aload_n 0, 1)), (1, (.invokevirtual 171, 3)), (4, (.istore_n 1, 1)), (5, (.iload_n 1, 1)), (6, (.iconst (-1), 1)), (7, (.if_icmp .eq 11, 3)), (10, (.aload_n 0, 1)), (11, (.iconst 1, 1)), (12, (.invokevirtual 82, 3)), (15, (.ifCond .ne 5, 3)), (18, (.iconst 0, 1)), (19, (.ireturn, 1)), (20, (.aload_n 0, 1)), (21, (.sipush 999, 3)), (24, (.invokevirtual 175, 3)), (27, (.istore_n 2, 1)), (28, (.iload_n 2, 1)), (29, (.iconst (-1), 1)), (30, (.if_icmp .eq 11, 3)), (33, (.aload_n 0, 1)), (34, (.iconst 2, 1)), (35, (.invokevirtual 82, 3)), (38, (.ifCond .ne 5, 3)), (41, (.iconst 0, 1)), (42, (.ireturn, 1)), (43, (.aload_n 0, 1)), (44, (.bipush 99, 2)), (46, (.invokevirtual 175, 3)), (49, (.istore_n 3, 1)), (50, (.iload_n 3, 1)), (51, (.iconst (-1), 1)), (52, (.if_icmp .ne 5, 3)), (55, (.iconst 0, 1)), (56, (.ireturn, 1)), (57, (.aload_n 0, 1)), (58, (.getfield 49, 3)), (61, (.getfield 98, 3)), (64, (.aload_n 0, 1)), (65, (.getfield 49, 3)), (68, (.getfield 101, 3))]
theorem tkX6_readFact_0 : (tbX6_readFact_0.all fun q => decide (decode cX6_readFact q.1 = .ok q.2)) = true := by decide +kernel
def tbX6_readFact_1 : List (Nat × (Instr × Nat)) := [(71, (.iload_n 1, 1)), (72, (.iastore, 1)), (73, (.aload_n 0, 1)), (74, (.getfield 49, 3)), (77, (.getfield 179, 3)), (80, (.aload_n 0, 1)), (81, (.getfield 49, 3)), (84, (.getfield 101, 3)), (87, (.iload_n 2, 1)), (88, (.iastore, 1)), (89, (.aload_n 0, 1)), (90, (.getfield 49, 3)), (93, (.getfield 182, 3)), (96, (.aload_n 0, 1)), (97, (.getfield 49, 3)), (100, (.getfield 101, 3)), (103, (.iload_n 3, 1)), (104, (.iastore, 1)), (105, (.aload_n 0, 1)), (106, (.getfield 49, 3)), (109, (.dup, 1)), (110, (.getfield 101, 3)), (113, (.iconst 1, 1)), (114, (.iadd, 1)), (115, (.putfield 101, 3)), (118, (.iconst 1, 1)), (119, (.ireturn, 1))]
theorem tkX6_readFact_1 : (tbX6_readFact_1.all fun q => decide (decode cX6_readFact q.1 = .ok q.2)) = true := by decide +kernel
def tbX6_readFact : List (Nat × (Instr × Nat)) := tbX6_readFact_0 ++ tbX6_readFact_1
theorem tkX6_readFact : (tbX6_readFact.all fun q => decide (decode cX6_readFact q.1 = .ok q.2)) = true := by
  unfold tbX6_readFact
  simp only [List.all_append, Bool.and_eq_true]
  exact ⟨tkX6_readFact_0, tkX6_readFact_1⟩
def tbX6_readRule_0 : List (Nat × (Instr × Nat)) := [(0, (.aload_n 0, 1)), (1, (.aload_n 0, 1)), (2, (.getfield 49, 3)), (5, (.getfield 98, 3)), (8, (.aload_n 0, 1)), (9, (.getfield 49, 3)), (12, (.getfield 101, 3)), (15, (.iconst 0, 1)), (16, (.invokevirtual 185, 3)), (19, (.istore_n 1, 1)), (20, (.iload_n 1, 1)), (21, (.iconst (-1), 1)), (22, (.if_icmp .eq 11, 3)), (25, (.aload_n 0, 1)), (26, (.iconst 4, 1)), (27, (.invokevirtual 82, 3)), (30, (.ifCond .ne 5, 3)), (33, (.iconst 0, 1)), (34, (.ireturn, 1)), (35, (.iconst 0, 1)), (36, (.istore_n 2, 1)), (37, (.iconst 0, 1)), (38, (.istore_n 3, 1)), (39, (.iload_n 3, 1)), (40, (.bipush 12, 2)), (42, (.if_icmp .ge 62, 3)), (45, (.iload_n 3, 1)), (46, (.ifCond .eq 12, 3)), (49, (.aload_n 0, 1)), (50, (.getfield 68, 3)), (53, (.bipush 26, 2)), (55, (.if_icmp .ne 49, 3)), (58, (.aload_n 0, 1)), (59, (.aload_n 0, 1)), (60, (.getfield 49, 3)), (63, (.getfield 98, 3)), (66, (.aload_n 0, 1)), (67, (.getfield 49, 3)), (70, (.getfield 101, 3)), (73, (.iload_n 2, 1))]
theorem tkX6_readRule_0 : (tbX6_readRule_0.all fun q => decide (decode cX6_readRule q.1 = .ok q.2)) = true := by decide +kernel
def tbX6_readRule_1 : List (Nat × (Instr × Nat)) := [(74, (.iconst 1, 1)), (75, (.iload_n 1, 1)), (76, (.ishl, 1)), (77, (.ior, 1)), (78, (.invokevirtual 185, 3)), (81, (.istore 4, 2)), (83, (.iload 4, 2)), (85, (.iconst (-1), 1)), (86, (.if_icmp .ne 5, 3)), (89, (.iconst 0, 1)), (90, (.ireturn, 1)), (91, (.iload_n 2, 1)), (92, (.iconst 1, 1)), (93, (.iload 4, 2)), (95, (.ishl, 1)), (96, (.ior, 1)), (97, (.istore_n 2, 1)), (98, (.iinc 3 1, 3)), (101, (.goto (-62), 3)), (104, (.aload_n 0, 1)), (105, (.getfield 49, 3)), (108, (.getfield 189, 3)), (111, (.aload_n 0, 1)), (112, (.getfield 49, 3)), (115, (.getfield 156, 3)), (118, (.iload_n 1, 1)), (119, (.iastore, 1)), (120, (.aload_n 0, 1)), (121, (.getfield 49, 3)), (124, (.getfield 192, 3)), (127, (.aload_n 0, 1)), (128, (.getfield 49, 3)), (131, (.getfield 156, 3)), (134, (.iload_n 2, 1)), (135, (.iastore, 1)), (136, (.aload_n 0, 1)), (137, (.getfield 49, 3)), (140, (.dup, 1)), (141, (.getfield 156, 3)), (144, (.iconst 1, 1))]
theorem tkX6_readRule_1 : (tbX6_readRule_1.all fun q => decide (decode cX6_readRule q.1 = .ok q.2)) = true := by decide +kernel
def tbX6_readRule_2 : List (Nat × (Instr × Nat)) := [(145, (.iadd, 1)), (146, (.putfield 156, 3)), (149, (.iconst 1, 1)), (150, (.ireturn, 1))]
theorem tkX6_readRule_2 : (tbX6_readRule_2.all fun q => decide (decode cX6_readRule q.1 = .ok q.2)) = true := by decide +kernel
def tbX6_readRule : List (Nat × (Instr × Nat)) := tbX6_readRule_0 ++ tbX6_readRule_1 ++ tbX6_readRule_2
theorem tkX6_readRule : (tbX6_readRule.all fun q => decide (decode cX6_readRule q.1 = .ok q.2)) = true := by
  unfold tbX6_readRule
  simp only [List.all_append, Bool.and_eq_true]
  exact ⟨⟨tkX6_readRule_0, tkX6_readRule_1⟩, tkX6_readRule_2⟩
def tbX6_readPerson_0 : List (Nat × (Instr × Nat)) := [(0, (.aload_n 0, 1)), (1, (.invokevirtual 171, 3)), (4, (.istore_n 1, 1)), (5, (.iload_n 1, 1)), (6, (.iconst (-1), 1)), (7, (.if_icmp .eq 12, 3)), (10, (.aload_n 0, 1)), (11, (.bipush 6, 2)), (13, (.invokevirtual 82, 3)), (16, (.ifCond .ne 5, 3)), (19, (.iconst 0, 1)), (20, (.ireturn, 1)), (21, (.aload_n 0, 1)), (22, (.bipush 9, 2)), (24, (.invokevirtual 175, 3)), (27, (.istore_n 2, 1)), (28, (.iload_n 2, 1)), (29, (.iconst (-1), 1)), (30, (.if_icmp .eq 12, 3)), (33, (.aload_n 0, 1)), (34, (.bipush 7, 2)), (36, (.invokevirtual 82, 3)), (39, (.ifCond .ne 5, 3)), (42, (.iconst 0, 1)), (43, (.ireturn, 1)), (44, (.aload_n 0, 1)), (45, (.sipush 999, 3)), (48, (.invokevirtual 175, 3)), (51, (.istore_n 3, 1)), (52, (.iload_n 3, 1)), (53, (.iconst (-1), 1)), (54, (.if_icmp .ne 5, 3)), (57, (.iconst 0, 1)), (58, (.ireturn, 1)), (59, (.aload_n 0, 1)), (60, (.getfield 49, 3)), (63, (.getfield 108, 3)), (66, (.aload_n 0, 1)), (67, (.getfield 49, 3)), (70, (.getfield 111, 3))]
theorem tkX6_readPerson_0 : (tbX6_readPerson_0.all fun q => decide (decode cX6_readPerson q.1 = .ok q.2)) = true := by decide +kernel
def tbX6_readPerson_1 : List (Nat × (Instr × Nat)) := [(73, (.iload_n 1, 1)), (74, (.iastore, 1)), (75, (.aload_n 0, 1)), (76, (.getfield 49, 3)), (79, (.getfield 195, 3)), (82, (.aload_n 0, 1)), (83, (.getfield 49, 3)), (86, (.getfield 111, 3)), (89, (.iload_n 2, 1)), (90, (.iastore, 1)), (91, (.aload_n 0, 1)), (92, (.getfield 49, 3)), (95, (.getfield 198, 3)), (98, (.aload_n 0, 1)), (99, (.getfield 49, 3)), (102, (.getfield 111, 3)), (105, (.iload_n 3, 1)), (106, (.iastore, 1)), (107, (.aload_n 0, 1)), (108, (.getfield 49, 3)), (111, (.dup, 1)), (112, (.getfield 111, 3)), (115, (.iconst 1, 1)), (116, (.iadd, 1)), (117, (.putfield 111, 3)), (120, (.iconst 1, 1)), (121, (.ireturn, 1))]
theorem tkX6_readPerson_1 : (tbX6_readPerson_1.all fun q => decide (decode cX6_readPerson q.1 = .ok q.2)) = true := by decide +kernel
def tbX6_readPerson : List (Nat × (Instr × Nat)) := tbX6_readPerson_0 ++ tbX6_readPerson_1
theorem tkX6_readPerson : (tbX6_readPerson.all fun q => decide (decode cX6_readPerson q.1 = .ok q.2)) = true := by
  unfold tbX6_readPerson
  simp only [List.all_append, Bool.and_eq_true]
  exact ⟨tkX6_readPerson_0, tkX6_readPerson_1⟩
def tbX6_readMeeting_0 : List (Nat × (Instr × Nat)) := [(0, (.aload_n 0, 1)), (1, (.aload_n 0, 1)), (2, (.getfield 49, 3)), (5, (.getfield 108, 3)), (8, (.aload_n 0, 1)), (9, (.getfield 49, 3)), (12, (.getfield 111, 3)), (15, (.iconst 0, 1)), (16, (.invokevirtual 185, 3)), (19, (.istore_n 1, 1)), (20, (.iload_n 1, 1)), (21, (.iconst (-1), 1)), (22, (.if_icmp .ne 5, 3)), (25, (.iconst 0, 1)), (26, (.ireturn, 1)), (27, (.aload_n 0, 1)), (28, (.aload_n 0, 1)), (29, (.getfield 49, 3)), (32, (.getfield 108, 3)), (35, (.aload_n 0, 1)), (36, (.getfield 49, 3)), (39, (.getfield 111, 3)), (42, (.iconst 1, 1)), (43, (.iload_n 1, 1)), (44, (.ishl, 1)), (45, (.invokevirtual 185, 3)), (48, (.istore_n 2, 1)), (49, (.iload_n 2, 1)), (50, (.iconst (-1), 1)), (51, (.if_icmp .eq 12, 3)), (54, (.aload_n 0, 1)), (55, (.bipush 9, 2)), (57, (.invokevirtual 82, 3)), (60, (.ifCond .ne 5, 3)), (63, (.iconst 0, 1)), (64, (.ireturn, 1)), (65, (.aload_n 0, 1)), (66, (.bipush 6, 2)), (68, (.invokevirtual 175, 3)), (71, (.istore_n 3, 1))]
theorem tkX6_readMeeting_0 : (tbX6_readMeeting_0.all fun q => decide (decode cX6_readMeeting q.1 = .ok q.2)) = true := by decide +kernel
def tbX6_readMeeting_1 : List (Nat × (Instr × Nat)) := [(72, (.iload_n 3, 1)), (73, (.iconst (-1), 1)), (74, (.if_icmp .ne 5, 3)), (77, (.iconst 0, 1)), (78, (.ireturn, 1)), (79, (.aload_n 0, 1)), (80, (.getfield 49, 3)), (83, (.getfield 201, 3)), (86, (.aload_n 0, 1)), (87, (.getfield 49, 3)), (90, (.getfield 159, 3)), (93, (.iload_n 1, 1)), (94, (.iastore, 1)), (95, (.aload_n 0, 1)), (96, (.getfield 49, 3)), (99, (.getfield 204, 3)), (102, (.aload_n 0, 1)), (103, (.getfield 49, 3)), (106, (.getfield 159, 3)), (109, (.iload_n 2, 1)), (110, (.iastore, 1)), (111, (.aload_n 0, 1)), (112, (.getfield 49, 3)), (115, (.getfield 207, 3)), (118, (.aload_n 0, 1)), (119, (.getfield 49, 3)), (122, (.getfield 159, 3)), (125, (.iload_n 3, 1)), (126, (.iastore, 1)), (127, (.aload_n 0, 1)), (128, (.getfield 49, 3)), (131, (.dup, 1)), (132, (.getfield 159, 3)), (135, (.iconst 1, 1)), (136, (.iadd, 1)), (137, (.putfield 159, 3)), (140, (.iconst 1, 1)), (141, (.ireturn, 1))]
theorem tkX6_readMeeting_1 : (tbX6_readMeeting_1.all fun q => decide (decode cX6_readMeeting q.1 = .ok q.2)) = true := by decide +kernel
def tbX6_readMeeting : List (Nat × (Instr × Nat)) := tbX6_readMeeting_0 ++ tbX6_readMeeting_1
theorem tkX6_readMeeting : (tbX6_readMeeting.all fun q => decide (decode cX6_readMeeting q.1 = .ok q.2)) = true := by
  unfold tbX6_readMeeting
  simp only [List.all_append, Bool.and_eq_true]
  exact ⟨tkX6_readMeeting_0, tkX6_readMeeting_1⟩
def tbX6_readLicence_0 : List (Nat × (Instr × Nat)) := [(0, (.aload_n 0, 1)), (1, (.aload_n 0, 1)), (2, (.getfield 49, 3)), (5, (.getfield 108, 3)), (8, (.aload_n 0, 1)), (9, (.getfield 49, 3)), (12, (.getfield 111, 3)), (15, (.iconst 0, 1)), (16, (.invokevirtual 185, 3)), (19, (.istore_n 1, 1)), (20, (.iload_n 1, 1)), (21, (.iconst (-1), 1)), (22, (.if_icmp .ne 5, 3)), (25, (.iconst 0, 1)), (26, (.ireturn, 1)), (27, (.aload_n 0, 1)), (28, (.iload_n 1, 1)), (29, (.invokevirtual 210, 3)), (32, (.istore_n 2, 1)), (33, (.iload_n 2, 1)), (34, (.iconst (-1), 1)), (35, (.if_icmp .eq 12, 3)), (38, (.aload_n 0, 1)), (39, (.bipush 11, 2)), (41, (.invokevirtual 82, 3)), (44, (.ifCond .ne 5, 3)), (47, (.iconst 0, 1)), (48, (.ireturn, 1)), (49, (.aload_n 0, 1)), (50, (.sipush 999, 3)), (53, (.invokevirtual 175, 3)), (56, (.istore_n 3, 1)), (57, (.iload_n 3, 1)), (58, (.iconst (-1), 1)), (59, (.if_icmp .ne 5, 3)), (62, (.iconst 0, 1)), (63, (.ireturn, 1)), (64, (.aload_n 0, 1)), (65, (.getfield 49, 3)), (68, (.getfield 213, 3))]
theorem tkX6_readLicence_0 : (tbX6_readLicence_0.all fun q => decide (decode cX6_readLicence q.1 = .ok q.2)) = true := by decide +kernel
def tbX6_readLicence_1 : List (Nat × (Instr × Nat)) := [(71, (.iload_n 1, 1)), (72, (.bipush 12, 2)), (74, (.imul, 1)), (75, (.iload_n 2, 1)), (76, (.iadd, 1)), (77, (.iaload, 1)), (78, (.iconst (-1), 1)), (79, (.if_icmp .ne 16, 3)), (82, (.aload_n 0, 1)), (83, (.getfield 49, 3)), (86, (.dup, 1)), (87, (.getfield 168, 3)), (90, (.iconst 1, 1)), (91, (.iadd, 1)), (92, (.putfield 168, 3)), (95, (.aload_n 0, 1)), (96, (.getfield 49, 3)), (99, (.getfield 213, 3)), (102, (.iload_n 1, 1)), (103, (.bipush 12, 2)), (105, (.imul, 1)), (106, (.iload_n 2, 1)), (107, (.iadd, 1)), (108, (.iload_n 3, 1)), (109, (.iastore, 1)), (110, (.iconst 1, 1)), (111, (.ireturn, 1))]
theorem tkX6_readLicence_1 : (tbX6_readLicence_1.all fun q => decide (decode cX6_readLicence q.1 = .ok q.2)) = true := by decide +kernel
def tbX6_readLicence : List (Nat × (Instr × Nat)) := tbX6_readLicence_0 ++ tbX6_readLicence_1
theorem tkX6_readLicence : (tbX6_readLicence.all fun q => decide (decode cX6_readLicence q.1 = .ok q.2)) = true := by
  unfold tbX6_readLicence
  simp only [List.all_append, Bool.and_eq_true]
  exact ⟨tkX6_readLicence_0, tkX6_readLicence_1⟩
def tbX6_passKnownFact_0 : List (Nat × (Instr × Nat)) := [(0, (.aload_n 0, 1)), (1, (.getfield 68, 3)), (4, (.bipush 26, 2)), (6, (.if_icmp .ne 75, 3)), (9, (.aload_n 0, 1)), (10, (.aload_n 0, 1)), (11, (.getfield 49, 3)), (14, (.getfield 98, 3)), (17, (.aload_n 0, 1)), (18, (.getfield 49, 3)), (21, (.getfield 101, 3)), (24, (.invokevirtual 104, 3)), (27, (.istore_n 2, 1)), (28, (.iload_n 2, 1)), (29, (.iconst (-1), 1)), (30, (.if_icmp .eq 51, 3)), (33, (.aload_n 0, 1)), (34, (.getfield 49, 3)), (37, (.getfield 213, 3)), (40, (.iload_n 1, 1)), (41, (.bipush 12, 2)), (43, (.imul, 1)), (44, (.iload_n 2, 1)), (45, (.iadd, 1)), (46, (.iaload, 1)), (47, (.iconst (-1), 1)), (48, (.if_icmp .ne 33, 3)), (51, (.aload_n 0, 1)), (52, (.getfield 49, 3)), (55, (.getfield 168, 3)), (58, (.aload_n 0, 1)), (59, (.getfield 49, 3)), (62, (.getfield 216, 3)), (65, (.if_icmp .lt 16, 3)), (68, (.aload_n 0, 1)), (69, (.bipush 6, 2)), (71, (.aload_n 0, 1)), (72, (.getfield 114, 3)), (75, (.invokevirtual 74, 3)), (78, (.pop, 1))]
theorem tkX6_passKnownFact_0 : (tbX6_passKnownFact_0.all fun q => decide (decode cX6_passKnownFact q.1 = .ok q.2)) = true := by decide +kernel
def tbX6_passKnownFact_1 : List (Nat × (Instr × Nat)) := [(79, (.iconst (-1), 1)), (80, (.ireturn, 1)), (81, (.aload_n 0, 1)), (82, (.aload_n 0, 1)), (83, (.getfield 49, 3)), (86, (.getfield 98, 3)), (89, (.aload_n 0, 1)), (90, (.getfield 49, 3)), (93, (.getfield 101, 3)), (96, (.iconst 0, 1)), (97, (.invokevirtual 185, 3)), (100, (.ireturn, 1))]
theorem tkX6_passKnownFact_1 : (tbX6_passKnownFact_1.all fun q => decide (decode cX6_passKnownFact q.1 = .ok q.2)) = true := by decide +kernel
def tbX6_passKnownFact : List (Nat × (Instr × Nat)) := tbX6_passKnownFact_0 ++ tbX6_passKnownFact_1
theorem tkX6_passKnownFact : (tbX6_passKnownFact.all fun q => decide (decode cX6_passKnownFact q.1 = .ok q.2)) = true := by
  unfold tbX6_passKnownFact
  simp only [List.all_append, Bool.and_eq_true]
  exact ⟨tkX6_passKnownFact_0, tkX6_passKnownFact_1⟩
def tbX6_readStock_0 : List (Nat × (Instr × Nat)) := [(0, (.aload_n 0, 1)), (1, (.bipush 99, 2)), (3, (.invokevirtual 175, 3)), (6, (.istore_n 1, 1)), (7, (.iload_n 1, 1)), (8, (.iconst (-1), 1)), (9, (.if_icmp .ne 5, 3)), (12, (.iconst 0, 1)), (13, (.ireturn, 1)), (14, (.aload_n 0, 1)), (15, (.getfield 49, 3)), (18, (.iload_n 1, 1)), (19, (.putfield 216, 3)), (22, (.iconst 1, 1)), (23, (.ireturn, 1))]
theorem tkX6_readStock_0 : (tbX6_readStock_0.all fun q => decide (decode cX6_readStock q.1 = .ok q.2)) = true := by decide +kernel
def tbX6_readStock : List (Nat × (Instr × Nat)) := tbX6_readStock_0
theorem tkX6_readStock : (tbX6_readStock.all fun q => decide (decode cX6_readStock q.1 = .ok q.2)) = true := by
  unfold tbX6_readStock
  simp only [List.all_append, Bool.and_eq_true]
  exact tkX6_readStock_0
def tbX6_keepPrice_0 : List (Nat × (Instr × Nat)) := [(0, (.aload_n 0, 1)), (1, (.getfield 49, 3)), (4, (.aload_n 0, 1)), (5, (.getfield 15, 3)), (8, (.aload_n 0, 1)), (9, (.getfield 120, 3)), (12, (.invokestatic 219, 3)), (15, (.putfield 162, 3)), (18, (.iconst 1, 1)), (19, (.ireturn, 1))]
theorem tkX6_keepPrice_0 : (tbX6_keepPrice_0.all fun q => decide (decode cX6_keepPrice q.1 = .ok q.2)) = true := by decide +kernel
def tbX6_keepPrice : List (Nat × (Instr × Nat)) := tbX6_keepPrice_0
theorem tkX6_keepPrice : (tbX6_keepPrice.all fun q => decide (decode cX6_keepPrice q.1 = .ok q.2)) = true := by
  unfold tbX6_keepPrice
  simp only [List.all_append, Bool.and_eq_true]
  exact tkX6_keepPrice_0
def tbX6_keepTells_0 : List (Nat × (Instr × Nat)) := [(0, (.aload_n 0, 1)), (1, (.getfield 49, 3)), (4, (.aload_n 0, 1)), (5, (.getfield 15, 3)), (8, (.aload_n 0, 1)), (9, (.getfield 120, 3)), (12, (.invokestatic 219, 3)), (15, (.putfield 165, 3)), (18, (.iconst 1, 1)), (19, (.ireturn, 1))]
theorem tkX6_keepTells_0 : (tbX6_keepTells_0.all fun q => decide (decode cX6_keepTells q.1 = .ok q.2)) = true := by decide +kernel
def tbX6_keepTells : List (Nat × (Instr × Nat)) := tbX6_keepTells_0
theorem tkX6_keepTells : (tbX6_keepTells.all fun q => decide (decode cX6_keepTells q.1 = .ok q.2)) = true := by
  unfold tbX6_keepTells
  simp only [List.all_append, Bool.and_eq_true]
  exact tkX6_keepTells_0
def tbX6_put_0 : List (Nat × (Instr × Nat)) := [(0, (.aload_n 0, 1)), (1, (.getfield 120, 3)), (4, (.aload_n 0, 1)), (5, (.getfield 15, 3)), (8, (.arraylength, 1)), (9, (.if_icmp .ge 23, 3)), (12, (.aload_n 0, 1)), (13, (.getfield 15, 3)), (16, (.aload_n 0, 1)), (17, (.getfield 120, 3)), (20, (.iload_n 1, 1)), (21, (.iastore, 1)), (22, (.aload_n 0, 1)), (23, (.dup, 1)), (24, (.getfield 120, 3)), (27, (.iconst 1, 1)), (28, (.iadd, 1)), (29, (.putfield 120, 3)), (32, (.return_, 1))]
theorem tkX6_put_0 : (tbX6_put_0.all fun q => decide (decode cX6_put q.1 = .ok q.2)) = true := by decide +kernel
def tbX6_put : List (Nat × (Instr × Nat)) := tbX6_put_0
theorem tkX6_put : (tbX6_put.all fun q => decide (decode cX6_put q.1 = .ok q.2)) = true := by
  unfold tbX6_put
  simp only [List.all_append, Bool.and_eq_true]
  exact tkX6_put_0
def tbX6_passOpening_0 : List (Nat × (Instr × Nat)) := [(0, (.aload_n 0, 1)), (1, (.getfield 123, 3)), (4, (.bipush 7, 2)), (6, (.if_icmp .lt 13, 3)), (9, (.aload_n 0, 1)), (10, (.iconst 5, 1)), (11, (.aload_n 0, 1)), (12, (.getfield 71, 3)), (15, (.invokevirtual 74, 3)), (18, (.ireturn, 1)), (19, (.aload_n 0, 1)), (20, (.dup, 1)), (21, (.getfield 123, 3)), (24, (.iconst 1, 1)), (25, (.iadd, 1)), (26, (.putfield 123, 3)), (29, (.aload_n 0, 1)), (30, (.invokevirtual 65, 3)), (33, (.iconst 1, 1)), (34, (.ireturn, 1))]
theorem tkX6_passOpening_0 : (tbX6_passOpening_0.all fun q => decide (decode cX6_passOpening q.1 = .ok q.2)) = true := by decide +kernel
def tbX6_passOpening : List (Nat × (Instr × Nat)) := tbX6_passOpening_0
theorem tkX6_passOpening : (tbX6_passOpening.all fun q => decide (decode cX6_passOpening q.1 = .ok q.2)) = true := by
  unfold tbX6_passOpening
  simp only [List.all_append, Bool.and_eq_true]
  exact tkX6_passOpening_0
def tbX6_readTest_0 : List (Nat × (Instr × Nat)) := [(0, (.aload_n 0, 1)), (1, (.invokevirtual 225, 3)), (4, (.istore_n 1, 1)), (5, (.iconst 0, 1)), (6, (.istore_n 2, 1)), (7, (.iload_n 2, 1)), (8, (.sipush 1600, 3)), (11, (.if_icmp .ge 38, 3)), (14, (.iload_n 1, 1)), (15, (.ifCond .eq 34, 3)), (18, (.aload_n 0, 1)), (19, (.getfield 68, 3)), (22, (.bipush 20, 2)), (24, (.if_icmp .ne 25, 3)), (27, (.aload_n 0, 1)), (28, (.invokevirtual 65, 3)), (31, (.aload_n 0, 1)), (32, (.invokevirtual 225, 3)), (35, (.istore_n 1, 1)), (36, (.aload_n 0, 1)), (37, (.sipush 10020, 3)), (40, (.invokevirtual 228, 3)), (43, (.iinc 2 1, 3)), (46, (.goto (-39), 3)), (49, (.iload_n 1, 1)), (50, (.ireturn, 1))]
theorem tkX6_readTest_0 : (tbX6_readTest_0.all fun q => decide (decode cX6_readTest q.1 = .ok q.2)) = true := by decide +kernel
def tbX6_readTest : List (Nat × (Instr × Nat)) := tbX6_readTest_0
theorem tkX6_readTest : (tbX6_readTest.all fun q => decide (decode cX6_readTest q.1 = .ok q.2)) = true := by
  unfold tbX6_readTest
  simp only [List.all_append, Bool.and_eq_true]
  exact tkX6_readTest_0
def tbX6_readBoth_0 : List (Nat × (Instr × Nat)) := [(0, (.aload_n 0, 1)), (1, (.invokevirtual 232, 3)), (4, (.istore_n 1, 1)), (5, (.iconst 0, 1)), (6, (.istore_n 2, 1)), (7, (.iload_n 2, 1)), (8, (.sipush 1600, 3)), (11, (.if_icmp .ge 38, 3)), (14, (.iload_n 1, 1)), (15, (.ifCond .eq 34, 3)), (18, (.aload_n 0, 1)), (19, (.getfield 68, 3)), (22, (.bipush 21, 2)), (24, (.if_icmp .ne 25, 3)), (27, (.aload_n 0, 1)), (28, (.invokevirtual 65, 3)), (31, (.aload_n 0, 1)), (32, (.invokevirtual 232, 3)), (35, (.istore_n 1, 1)), (36, (.aload_n 0, 1)), (37, (.sipush 10021, 3)), (40, (.invokevirtual 228, 3)), (43, (.iinc 2 1, 3)), (46, (.goto (-39), 3)), (49, (.iload_n 1, 1)), (50, (.ireturn, 1))]
theorem tkX6_readBoth_0 : (tbX6_readBoth_0.all fun q => decide (decode cX6_readBoth q.1 = .ok q.2)) = true := by decide +kernel
def tbX6_readBoth : List (Nat × (Instr × Nat)) := tbX6_readBoth_0
theorem tkX6_readBoth : (tbX6_readBoth.all fun q => decide (decode cX6_readBoth q.1 = .ok q.2)) = true := by
  unfold tbX6_readBoth
  simp only [List.all_append, Bool.and_eq_true]
  exact tkX6_readBoth_0
def tbX6_readFacet_0 : List (Nat × (Instr × Nat)) := [(0, (.iconst 0, 1)), (1, (.istore_n 1, 1)), (2, (.iload_n 1, 1)), (3, (.bipush 7, 2)), (5, (.if_icmp .gt 27, 3)), (8, (.aload_n 0, 1)), (9, (.getfield 68, 3)), (12, (.bipush 22, 2)), (14, (.if_icmp .ne 18, 3)), (17, (.aload_n 0, 1)), (18, (.invokevirtual 235, 3)), (21, (.ifCond .ne 5, 3)), (24, (.iconst 0, 1)), (25, (.ireturn, 1)), (26, (.iinc 1 1, 3)), (29, (.goto (-27), 3)), (32, (.aload_n 0, 1)), (33, (.invokevirtual 238, 3)), (36, (.ifCond .ne 5, 3)), (39, (.iconst 0, 1)), (40, (.ireturn, 1)), (41, (.aload_n 0, 1)), (42, (.dup, 1)), (43, (.getfield 123, 3)), (46, (.iload_n 1, 1)), (47, (.isub, 1)), (48, (.putfield 123, 3)), (51, (.iload_n 1, 1)), (52, (.iconst 2, 1)), (53, (.irem, 1)), (54, (.iconst 1, 1)), (55, (.if_icmp .ne 10, 3)), (58, (.aload_n 0, 1)), (59, (.sipush 10022, 3)), (62, (.invokevirtual 228, 3)), (65, (.iconst 1, 1)), (66, (.ireturn, 1))]
theorem tkX6_readFacet_0 : (tbX6_readFacet_0.all fun q => decide (decode cX6_readFacet q.1 = .ok q.2)) = true := by decide +kernel
def tbX6_readFacet : List (Nat × (Instr × Nat)) := tbX6_readFacet_0
theorem tkX6_readFacet : (tbX6_readFacet.all fun q => decide (decode cX6_readFacet q.1 = .ok q.2)) = true := by
  unfold tbX6_readFacet
  simp only [List.all_append, Bool.and_eq_true]
  exact tkX6_readFacet_0
def tbX6_readPlainFacet_0 : List (Nat × (Instr × Nat)) := [(0, (.aload_n 0, 1)), (1, (.getfield 68, 3)), (4, (.bipush 23, 2)), (6, (.if_icmp .ne 16, 3)), (9, (.aload_n 0, 1)), (10, (.sipush 10023, 3)), (13, (.invokevirtual 228, 3)), (16, (.aload_n 0, 1)), (17, (.invokevirtual 65, 3)), (20, (.iconst 1, 1)), (21, (.ireturn, 1)), (22, (.aload_n 0, 1)), (23, (.getfield 68, 3)), (26, (.sipush 191, 3)), (29, (.if_icmp .ne 45, 3)), (32, (.aload_n 0, 1)), (33, (.invokevirtual 235, 3)), (36, (.ifCond .eq 24, 3)), (39, (.aload_n 0, 1)), (40, (.invokevirtual 150, 3)), (43, (.ifCond .eq 17, 3)), (46, (.aload_n 0, 1)), (47, (.sipush 193, 3)), (50, (.invokevirtual 82, 3)), (53, (.ifCond .eq 7, 3)), (56, (.iconst 1, 1)), (57, (.goto 4, 3)), (60, (.iconst 0, 1)), (61, (.istore_n 1, 1)), (62, (.aload_n 0, 1)), (63, (.dup, 1)), (64, (.getfield 123, 3)), (67, (.iconst 1, 1)), (68, (.isub, 1)), (69, (.putfield 123, 3)), (72, (.iload_n 1, 1)), (73, (.ireturn, 1)), (74, (.aload_n 0, 1)), (75, (.invokevirtual 144, 3)), (78, (.ifCond .ne 5, 3))]
theorem tkX6_readPlainFacet_0 : (tbX6_readPlainFacet_0.all fun q => decide (decode cX6_readPlainFacet q.1 = .ok q.2)) = true := by decide +kernel
def tbX6_readPlainFacet_1 : List (Nat × (Instr × Nat)) := [(81, (.iconst 0, 1)), (82, (.ireturn, 1)), (83, (.aload_n 0, 1)), (84, (.getfield 68, 3)), (87, (.istore_n 1, 1)), (88, (.iload_n 1, 1)), (89, (.sipush 160, 3)), (92, (.if_icmp .eq 27, 3)), (95, (.iload_n 1, 1)), (96, (.sipush 162, 3)), (99, (.if_icmp .eq 20, 3)), (102, (.iload_n 1, 1)), (103, (.sipush 161, 3)), (106, (.if_icmp .eq 13, 3)), (109, (.aload_n 0, 1)), (110, (.iconst 1, 1)), (111, (.aload_n 0, 1)), (112, (.getfield 86, 3)), (115, (.invokevirtual 74, 3)), (118, (.ireturn, 1)), (119, (.aload_n 0, 1)), (120, (.invokevirtual 65, 3)), (123, (.aload_n 0, 1)), (124, (.invokevirtual 144, 3)), (127, (.ifCond .ne 5, 3)), (130, (.iconst 0, 1)), (131, (.ireturn, 1)), (132, (.aload_n 0, 1)), (133, (.sipush 10000, 3)), (136, (.iload_n 1, 1)), (137, (.iadd, 1)), (138, (.invokevirtual 228, 3)), (141, (.iconst 1, 1)), (142, (.ireturn, 1))]
theorem tkX6_readPlainFacet_1 : (tbX6_readPlainFacet_1.all fun q => decide (decode cX6_readPlainFacet q.1 = .ok q.2)) = true := by decide +kernel
def tbX6_readPlainFacet : List (Nat × (Instr × Nat)) := tbX6_readPlainFacet_0 ++ tbX6_readPlainFacet_1
theorem tkX6_readPlainFacet : (tbX6_readPlainFacet.all fun q => decide (decode cX6_readPlainFacet q.1 = .ok q.2)) = true := by
  unfold tbX6_readPlainFacet
  simp only [List.all_append, Bool.and_eq_true]
  exact ⟨tkX6_readPlainFacet_0, tkX6_readPlainFacet_1⟩
def tbX6_readSum_0 : List (Nat × (Instr × Nat)) := [(0, (.aload_n 0, 1)), (1, (.invokevirtual 241, 3)), (4, (.istore_n 1, 1)), (5, (.iconst 0, 1)), (6, (.istore_n 2, 1)), (7, (.iload_n 2, 1)), (8, (.sipush 1600, 3)), (11, (.if_icmp .ge 49, 3)), (14, (.iload_n 1, 1)), (15, (.ifCond .eq 45, 3)), (18, (.aload_n 0, 1)), (19, (.bipush 43, 2)), (21, (.bipush 45, 2)), (23, (.bipush 45, 2)), (25, (.invokevirtual 244, 3)), (28, (.ifCond .eq 32, 3)), (31, (.aload_n 0, 1)), (32, (.getfield 68, 3)), (35, (.istore_n 3, 1)), (36, (.aload_n 0, 1)), (37, (.invokevirtual 65, 3)), (40, (.aload_n 0, 1)), (41, (.invokevirtual 241, 3)), (44, (.istore_n 1, 1)), (45, (.aload_n 0, 1)), (46, (.sipush 10000, 3)), (49, (.iload_n 3, 1)), (50, (.iadd, 1)), (51, (.invokevirtual 228, 3)), (54, (.iinc 2 1, 3)), (57, (.goto (-50), 3)), (60, (.iload_n 1, 1)), (61, (.ireturn, 1))]
theorem tkX6_readSum_0 : (tbX6_readSum_0.all fun q => decide (decode cX6_readSum q.1 = .ok q.2)) = true := by decide +kernel
def tbX6_readSum : List (Nat × (Instr × Nat)) := tbX6_readSum_0
theorem tkX6_readSum : (tbX6_readSum.all fun q => decide (decode cX6_readSum q.1 = .ok q.2)) = true := by
  unfold tbX6_readSum
  simp only [List.all_append, Bool.and_eq_true]
  exact tkX6_readSum_0
def tbX6_readProduct_0 : List (Nat × (Instr × Nat)) := [(0, (.aload_n 0, 1)), (1, (.invokevirtual 248, 3)), (4, (.istore_n 1, 1)), (5, (.iconst 0, 1)), (6, (.istore_n 2, 1)), (7, (.iload_n 2, 1)), (8, (.sipush 1600, 3)), (11, (.if_icmp .ge 49, 3)), (14, (.iload_n 1, 1)), (15, (.ifCond .eq 45, 3)), (18, (.aload_n 0, 1)), (19, (.bipush 42, 2)), (21, (.bipush 47, 2)), (23, (.bipush 37, 2)), (25, (.invokevirtual 244, 3)), (28, (.ifCond .eq 32, 3)), (31, (.aload_n 0, 1)), (32, (.getfield 68, 3)), (35, (.istore_n 3, 1)), (36, (.aload_n 0, 1)), (37, (.invokevirtual 65, 3)), (40, (.aload_n 0, 1)), (41, (.invokevirtual 248, 3)), (44, (.istore_n 1, 1)), (45, (.aload_n 0, 1)), (46, (.sipush 10000, 3)), (49, (.iload_n 3, 1)), (50, (.iadd, 1)), (51, (.invokevirtual 228, 3)), (54, (.iinc 2 1, 3)), (57, (.goto (-50), 3)), (60, (.iload_n 1, 1)), (61, (.ireturn, 1))]
theorem tkX6_readProduct_0 : (tbX6_readProduct_0.all fun q => decide (decode cX6_readProduct q.1 = .ok q.2)) = true := by decide +kernel
def tbX6_readProduct : List (Nat × (Instr × Nat)) := tbX6_readProduct_0
theorem tkX6_readProduct : (tbX6_readProduct.all fun q => decide (decode cX6_readProduct q.1 = .ok q.2)) = true := by
  unfold tbX6_readProduct
  simp only [List.all_append, Bool.and_eq_true]
  exact tkX6_readProduct_0
def tbX6_isEither_0 : List (Nat × (Instr × Nat)) := [(0, (.aload_n 0, 1)), (1, (.getfield 68, 3)), (4, (.bipush 100, 2)), (6, (.isub, 1)), (7, (.istore 4, 2)), (9, (.iload 4, 2)), (11, (.iload_n 1, 1)), (12, (.if_icmp .eq 15, 3)), (15, (.iload 4, 2)), (17, (.iload_n 2, 1)), (18, (.if_icmp .eq 9, 3)), (21, (.iload 4, 2)), (23, (.iload_n 3, 1)), (24, (.if_icmp .ne 7, 3)), (27, (.iconst 1, 1)), (28, (.goto 4, 3)), (31, (.iconst 0, 1)), (32, (.ireturn, 1))]
theorem tkX6_isEither_0 : (tbX6_isEither_0.all fun q => decide (decode cX6_isEither q.1 = .ok q.2)) = true := by decide +kernel
def tbX6_isEither : List (Nat × (Instr × Nat)) := tbX6_isEither_0
theorem tkX6_isEither : (tbX6_isEither.all fun q => decide (decode cX6_isEither q.1 = .ok q.2)) = true := by
  unfold tbX6_isEither
  simp only [List.all_append, Bool.and_eq_true]
  exact tkX6_isEither_0
def tbX6_readPart_0 : List (Nat × (Instr × Nat)) := [(0, (.aload_n 0, 1)), (1, (.getfield 68, 3)), (4, (.lookupswitch 150 #[(1, 122), (2, 122), (6, 122), (15, 122), (16, 122), (17, 122), (18, 122), (19, 122), (24, 145), (25, 145), (27, 108), (140, 140)], 108)), (112, (.aload_n 0, 1)), (113, (.aload_n 0, 1)), (114, (.getfield 95, 3)), (117, (.invokevirtual 228, 3)), (120, (.aload_n 0, 1)), (121, (.invokevirtual 65, 3)), (124, (.iconst 1, 1)), (125, (.ireturn, 1)), (126, (.aload_n 0, 1)), (127, (.sipush 10000, 3)), (130, (.aload_n 0, 1)), (131, (.getfield 68, 3)), (134, (.iadd, 1)), (135, (.invokevirtual 228, 3)), (138, (.aload_n 0, 1)), (139, (.invokevirtual 65, 3)), (142, (.iconst 1, 1)), (143, (.ireturn, 1)), (144, (.aload_n 0, 1)), (145, (.invokevirtual 251, 3)), (148, (.ireturn, 1)), (149, (.aload_n 0, 1)), (150, (.invokevirtual 254, 3)), (153, (.ireturn, 1)), (154, (.aload_n 0, 1)), (155, (.iconst 1, 1)), (156, (.aload_n 0, 1)), (157, (.getfield 86, 3)), (160, (.invokevirtual 74, 3)), (163, (.ireturn, 1))]
theorem tkX6_readPart_0 : (tbX6_readPart_0.all fun q => decide (decode cX6_readPart q.1 = .ok q.2)) = true := by decide +kernel
def tbX6_readPart : List (Nat × (Instr × Nat)) := tbX6_readPart_0
theorem tkX6_readPart : (tbX6_readPart.all fun q => decide (decode cX6_readPart q.1 = .ok q.2)) = true := by
  unfold tbX6_readPart
  simp only [List.all_append, Bool.and_eq_true]
  exact tkX6_readPart_0
def tbX6_readInner_0 : List (Nat × (Instr × Nat)) := [(0, (.aload_n 0, 1)), (1, (.invokevirtual 235, 3)), (4, (.ifCond .eq 24, 3)), (7, (.aload_n 0, 1)), (8, (.invokevirtual 144, 3)), (11, (.ifCond .eq 17, 3)), (14, (.aload_n 0, 1)), (15, (.sipush 141, 3)), (18, (.invokevirtual 82, 3)), (21, (.ifCond .eq 7, 3)), (24, (.iconst 1, 1)), (25, (.goto 4, 3)), (28, (.iconst 0, 1)), (29, (.istore_n 1, 1)), (30, (.aload_n 0, 1)), (31, (.dup, 1)), (32, (.getfield 123, 3)), (35, (.iconst 1, 1)), (36, (.isub, 1)), (37, (.putfield 123, 3)), (40, (.iload_n 1, 1)), (41, (.ireturn, 1))]
theorem tkX6_readInner_0 : (tbX6_readInner_0.all fun q => decide (decode cX6_readInner q.1 = .ok q.2)) = true := by decide +kernel
def tbX6_readInner : List (Nat × (Instr × Nat)) := tbX6_readInner_0
theorem tkX6_readInner : (tbX6_readInner.all fun q => decide (decode cX6_readInner q.1 = .ok q.2)) = true := by
  unfold tbX6_readInner
  simp only [List.all_append, Bool.and_eq_true]
  exact tkX6_readInner_0
def tbX6_readPair_0 : List (Nat × (Instr × Nat)) := [(0, (.aload_n 0, 1)), (1, (.getfield 68, 3)), (4, (.istore_n 1, 1)), (5, (.aload_n 0, 1)), (6, (.invokevirtual 65, 3)), (9, (.aload_n 0, 1)), (10, (.getfield 68, 3)), (13, (.sipush 140, 3)), (16, (.if_icmp .eq 13, 3)), (19, (.aload_n 0, 1)), (20, (.iconst 1, 1)), (21, (.aload_n 0, 1)), (22, (.getfield 86, 3)), (25, (.invokevirtual 74, 3)), (28, (.ireturn, 1)), (29, (.aload_n 0, 1)), (30, (.invokevirtual 235, 3)), (33, (.ifCond .eq 41, 3)), (36, (.aload_n 0, 1)), (37, (.invokevirtual 144, 3)), (40, (.ifCond .eq 34, 3)), (43, (.aload_n 0, 1)), (44, (.sipush 144, 3)), (47, (.invokevirtual 82, 3)), (50, (.ifCond .eq 24, 3)), (53, (.aload_n 0, 1)), (54, (.invokevirtual 144, 3)), (57, (.ifCond .eq 17, 3)), (60, (.aload_n 0, 1)), (61, (.sipush 141, 3)), (64, (.invokevirtual 82, 3)), (67, (.ifCond .eq 7, 3)), (70, (.iconst 1, 1)), (71, (.goto 4, 3)), (74, (.iconst 0, 1)), (75, (.istore_n 2, 1)), (76, (.aload_n 0, 1)), (77, (.dup, 1)), (78, (.getfield 123, 3)), (81, (.iconst 1, 1))]
theorem tkX6_readPair_0 : (tbX6_readPair_0.all fun q => decide (decode cX6_readPair q.1 = .ok q.2)) = true := by decide +kernel
def tbX6_readPair_1 : List (Nat × (Instr × Nat)) := [(82, (.isub, 1)), (83, (.putfield 123, 3)), (86, (.aload_n 0, 1)), (87, (.sipush 10000, 3)), (90, (.iload_n 1, 1)), (91, (.iadd, 1)), (92, (.invokevirtual 228, 3)), (95, (.iload_n 2, 1)), (96, (.ireturn, 1))]
theorem tkX6_readPair_1 : (tbX6_readPair_1.all fun q => decide (decode cX6_readPair q.1 = .ok q.2)) = true := by decide +kernel
def tbX6_readPair : List (Nat × (Instr × Nat)) := tbX6_readPair_0 ++ tbX6_readPair_1
theorem tkX6_readPair : (tbX6_readPair.all fun q => decide (decode cX6_readPair q.1 = .ok q.2)) = true := by
  unfold tbX6_readPair
  simp only [List.all_append, Bool.and_eq_true]
  exact ⟨tkX6_readPair_0, tkX6_readPair_1⟩
def tbX7_init_0 : List (Nat × (Instr × Nat)) := [(0, (.aload_n 0, 1)), (1, (.invokespecial 3, 3)), (4, (.aload_n 0, 1)), (5, (.bipush 8, 2)), (7, (.newarray .int, 2)), (9, (.putfield 9, 3)), (12, (.aload_n 0, 1)), (13, (.bipush 8, 2)), (15, (.newarray .int, 2)), (17, (.putfield 15, 3)), (20, (.aload_n 0, 1)), (21, (.bipush 96, 2)), (23, (.newarray .int, 2)), (25, (.putfield 18, 3)), (28, (.aload_n 0, 1)), (29, (.bipush 8, 2)), (31, (.newarray .int, 2)), (33, (.putfield 21, 3)), (36, (.aload_n 0, 1)), (37, (.bipush 40, 2)), (39, (.newarray .int, 2)), (41, (.putfield 24, 3)), (44, (.aload_n 0, 1)), (45, (.getfield 18, 3)), (48, (.iconst (-1), 1)), (49, (.invokestatic 27, 3)), (52, (.return_, 1))]
theorem tkX7_init_0 : (tbX7_init_0.all fun q => decide (decode cX7_init q.1 = .ok q.2)) = true := by decide +kernel
def tbX7_init : List (Nat × (Instr × Nat)) := tbX7_init_0
theorem tkX7_init : (tbX7_init.all fun q => decide (decode cX7_init q.1 = .ok q.2)) = true := by
  unfold tbX7_init
  simp only [List.all_append, Bool.and_eq_true]
  exact tkX7_init_0
def tbX7_clear_0 : List (Nat × (Instr × Nat)) := [(0, (.aload_n 0, 1)), (1, (.iconst 0, 1)), (2, (.putfield 33, 3)), (5, (.aload_n 0, 1)), (6, (.getfield 9, 3)), (9, (.iconst 0, 1)), (10, (.invokestatic 27, 3)), (13, (.aload_n 0, 1)), (14, (.getfield 15, 3)), (17, (.iconst 0, 1)), (18, (.invokestatic 27, 3)), (21, (.aload_n 0, 1)), (22, (.getfield 18, 3)), (25, (.iconst (-1), 1)), (26, (.invokestatic 27, 3)), (29, (.aload_n 0, 1)), (30, (.getfield 21, 3)), (33, (.iconst 0, 1)), (34, (.invokestatic 27, 3)), (37, (.aload_n 0, 1)), (38, (.iconst 0, 1)), (39, (.putfield 37, 3)), (42, (.aload_n 0, 1)), (43, (.invokevirtual 40, 3)), (46, (.return_, 1))]
theorem tkX7_clear_0 : (tbX7_clear_0.all fun q => decide (decode cX7_clear q.1 = .ok q.2)) = true := by decide +kernel
def tbX7_clear : List (Nat × (Instr × Nat)) := tbX7_clear_0
theorem tkX7_clear : (tbX7_clear.all fun q => decide (decode cX7_clear q.1 = .ok q.2)) = true := by
  unfold tbX7_clear
  simp only [List.all_append, Bool.and_eq_true]
  exact tkX7_clear_0
def tbX7_copyFrom_0 : List (Nat × (Instr × Nat)) := [(0, (.aload_n 0, 1)), (1, (.aload_n 1, 1)), (2, (.getfield 33, 3)), (5, (.putfield 33, 3)), (8, (.aload_n 1, 1)), (9, (.getfield 9, 3)), (12, (.iconst 0, 1)), (13, (.aload_n 0, 1)), (14, (.getfield 9, 3)), (17, (.iconst 0, 1)), (18, (.bipush 8, 2)), (20, (.invokestatic 43, 3)), (23, (.aload_n 1, 1)), (24, (.getfield 15, 3)), (27, (.iconst 0, 1)), (28, (.aload_n 0, 1)), (29, (.getfield 15, 3)), (32, (.iconst 0, 1)), (33, (.bipush 8, 2)), (35, (.invokestatic 43, 3)), (38, (.aload_n 1, 1)), (39, (.getfield 18, 3)), (42, (.iconst 0, 1)), (43, (.aload_n 0, 1)), (44, (.getfield 18, 3)), (47, (.iconst 0, 1)), (48, (.bipush 96, 2)), (50, (.invokestatic 43, 3)), (53, (.aload_n 1, 1)), (54, (.getfield 21, 3)), (57, (.iconst 0, 1)), (58, (.aload_n 0, 1)), (59, (.getfield 21, 3)), (62, (.iconst 0, 1)), (63, (.bipush 8, 2)), (65, (.invokestatic 43, 3)), (68, (.aload_n 1, 1)), (69, (.getfield 24, 3)), (72, (.iconst 0, 1)), (73, (.aload_n 0, 1))]
theorem tkX7_copyFrom_0 : (tbX7_copyFrom_0.all fun q => decide (decode cX7_copyFrom q.1 = .ok q.2)) = true := by decide +kernel
def tbX7_copyFrom_1 : List (Nat × (Instr × Nat)) := [(74, (.getfield 24, 3)), (77, (.iconst 0, 1)), (78, (.bipush 40, 2)), (80, (.invokestatic 43, 3)), (83, (.aload_n 0, 1)), (84, (.aload_n 1, 1)), (85, (.getfield 37, 3)), (88, (.putfield 37, 3)), (91, (.return_, 1))]
theorem tkX7_copyFrom_1 : (tbX7_copyFrom_1.all fun q => decide (decode cX7_copyFrom q.1 = .ok q.2)) = true := by decide +kernel
def tbX7_copyFrom : List (Nat × (Instr × Nat)) := tbX7_copyFrom_0 ++ tbX7_copyFrom_1
theorem tkX7_copyFrom : (tbX7_copyFrom.all fun q => decide (decode cX7_copyFrom q.1 = .ok q.2)) = true := by
  unfold tbX7_copyFrom
  simp only [List.all_append, Bool.and_eq_true]
  exact ⟨tkX7_copyFrom_0, tkX7_copyFrom_1⟩
def tbX7_countAnew_0 : List (Nat × (Instr × Nat)) := [(0, (.aload_n 0, 1)), (1, (.iconst 0, 1)), (2, (.putfield 49, 3)), (5, (.aload_n 0, 1)), (6, (.iconst (-1), 1)), (7, (.putfield 52, 3)), (10, (.return_, 1))]
theorem tkX7_countAnew_0 : (tbX7_countAnew_0.all fun q => decide (decode cX7_countAnew q.1 = .ok q.2)) = true := by decide +kernel
def tbX7_countAnew : List (Nat × (Instr × Nat)) := tbX7_countAnew_0
theorem tkX7_countAnew : (tbX7_countAnew.all fun q => decide (decode cX7_countAnew q.1 = .ok q.2)) = true := by
  unfold tbX7_countAnew
  simp only [List.all_append, Bool.and_eq_true]
  exact tkX7_countAnew_0
def tbX7_doesKnow_0 : List (Nat × (Instr × Nat)) := [(0, (.aload_n 0, 1)), (1, (.getfield 9, 3)), (4, (.iload_n 1, 1)), (5, (.iaload, 1)), (6, (.iload_n 2, 1)), (7, (.ishr, 1)), (8, (.iconst 1, 1)), (9, (.iand, 1)), (10, (.iconst 1, 1)), (11, (.if_icmp .ne 7, 3)), (14, (.iconst 1, 1)), (15, (.goto 4, 3)), (18, (.iconst 0, 1)), (19, (.ireturn, 1))]
theorem tkX7_doesKnow_0 : (tbX7_doesKnow_0.all fun q => decide (decode cX7_doesKnow q.1 = .ok q.2)) = true := by decide +kernel
def tbX7_doesKnow : List (Nat × (Instr × Nat)) := tbX7_doesKnow_0
theorem tkX7_doesKnow : (tbX7_doesKnow.all fun q => decide (decode cX7_doesKnow q.1 = .ok q.2)) = true := by
  unfold tbX7_doesKnow
  simp only [List.all_append, Bool.and_eq_true]
  exact tkX7_doesKnow_0
def tbX7_isValid_0 : List (Nat × (Instr × Nat)) := [(0, (.aload_n 0, 1)), (1, (.getfield 21, 3)), (4, (.iload_n 1, 1)), (5, (.iaload, 1)), (6, (.iload_n 2, 1)), (7, (.ishr, 1)), (8, (.iconst 1, 1)), (9, (.iand, 1)), (10, (.iconst 1, 1)), (11, (.if_icmp .ne 7, 3)), (14, (.iconst 1, 1)), (15, (.goto 4, 3)), (18, (.iconst 0, 1)), (19, (.ireturn, 1))]
theorem tkX7_isValid_0 : (tbX7_isValid_0.all fun q => decide (decode cX7_isValid q.1 = .ok q.2)) = true := by decide +kernel
def tbX7_isValid : List (Nat × (Instr × Nat)) := tbX7_isValid_0
theorem tkX7_isValid : (tbX7_isValid.all fun q => decide (decode cX7_isValid q.1 = .ok q.2)) = true := by
  unfold tbX7_isValid
  simp only [List.all_append, Bool.and_eq_true]
  exact tkX7_isValid_0
def tbX7_isOpenTo_0 : List (Nat × (Instr × Nat)) := [(0, (.aload_n 0, 1)), (1, (.iload_n 1, 1)), (2, (.iload_n 2, 1)), (3, (.invokevirtual 55, 3)), (6, (.ifCond .ne 16, 3)), (9, (.aload_n 0, 1)), (10, (.iload_n 1, 1)), (11, (.iload_n 2, 1)), (12, (.invokevirtual 59, 3)), (15, (.ifCond .ne 7, 3)), (18, (.iconst 1, 1)), (19, (.goto 4, 3)), (22, (.iconst 0, 1)), (23, (.ireturn, 1))]
theorem tkX7_isOpenTo_0 : (tbX7_isOpenTo_0.all fun q => decide (decode cX7_isOpenTo q.1 = .ok q.2)) = true := by decide +kernel
def tbX7_isOpenTo : List (Nat × (Instr × Nat)) := tbX7_isOpenTo_0
theorem tkX7_isOpenTo : (tbX7_isOpenTo.all fun q => decide (decode cX7_isOpenTo q.1 = .ok q.2)) = true := by
  unfold tbX7_isOpenTo
  simp only [List.all_append, Bool.and_eq_true]
  exact tkX7_isOpenTo_0
def tbX7_findValid_0 : List (Nat × (Instr × Nat)) := [(0, (.iconst 0, 1)), (1, (.istore_n 1, 1)), (2, (.iload_n 1, 1)), (3, (.bipush 8, 2)), (5, (.if_icmp .ge 56, 3)), (8, (.iconst 0, 1)), (9, (.istore_n 2, 1)), (10, (.iconst 0, 1)), (11, (.istore_n 3, 1)), (12, (.iload_n 3, 1)), (13, (.bipush 12, 2)), (15, (.if_icmp .ge 33, 3)), (18, (.aload_n 0, 1)), (19, (.getfield 18, 3)), (22, (.iload_n 1, 1)), (23, (.bipush 12, 2)), (25, (.imul, 1)), (26, (.iload_n 3, 1)), (27, (.iadd, 1)), (28, (.iaload, 1)), (29, (.aload_n 0, 1)), (30, (.getfield 33, 3)), (33, (.if_icmp .lt 9, 3)), (36, (.iload_n 2, 1)), (37, (.iconst 1, 1)), (38, (.iload_n 3, 1)), (39, (.ishl, 1)), (40, (.ior, 1)), (41, (.istore_n 2, 1)), (42, (.iinc 3 1, 3)), (45, (.goto (-33), 3)), (48, (.aload_n 0, 1)), (49, (.getfield 21, 3)), (52, (.iload_n 1, 1)), (53, (.iload_n 2, 1)), (54, (.iastore, 1)), (55, (.iinc 1 1, 3)), (58, (.goto (-56), 3)), (61, (.return_, 1))]
theorem tkX7_findValid_0 : (tbX7_findValid_0.all fun q => decide (decode cX7_findValid q.1 = .ok q.2)) = true := by decide +kernel
def tbX7_findValid : List (Nat × (Instr × Nat)) := tbX7_findValid_0
theorem tkX7_findValid : (tbX7_findValid.all fun q => decide (decode cX7_findValid q.1 = .ok q.2)) = true := by
  unfold tbX7_findValid
  simp only [List.all_append, Bool.and_eq_true]
  exact tkX7_findValid_0
def tbX7_countValid_0 : List (Nat × (Instr × Nat)) := [(0, (.iconst 0, 1)), (1, (.istore_n 1, 1)), (2, (.iconst 0, 1)), (3, (.istore_n 2, 1)), (4, (.iload_n 2, 1)), (5, (.bipush 8, 2)), (7, (.if_icmp .ge 21, 3)), (10, (.iload_n 1, 1)), (11, (.aload_n 0, 1)), (12, (.getfield 21, 3)), (15, (.iload_n 2, 1)), (16, (.iaload, 1)), (17, (.invokestatic 62, 3)), (20, (.iadd, 1)), (21, (.istore_n 1, 1)), (22, (.iinc 2 1, 3)), (25, (.goto (-21), 3)), (28, (.iload_n 1, 1)), (29, (.ireturn, 1))]
theorem tkX7_countValid_0 : (tbX7_countValid_0.all fun q => decide (decode cX7_countValid q.1 = .ok q.2)) = true := by decide +kernel
def tbX7_countValid : List (Nat × (Instr × Nat)) := tbX7_countValid_0
theorem tkX7_countValid : (tbX7_countValid.all fun q => decide (decode cX7_countValid q.1 = .ok q.2)) = true := by
  unfold tbX7_countValid
  simp only [List.all_append, Bool.and_eq_true]
  exact tkX7_countValid_0
def tbX7_countCoins_0 : List (Nat × (Instr × Nat)) := [(0, (.iconst 0, 1)), (1, (.istore_n 2, 1)), (2, (.iconst 0, 1)), (3, (.istore_n 3, 1)), (4, (.iload_n 3, 1)), (5, (.iload_n 1, 1)), (6, (.if_icmp .ge 24, 3)), (9, (.iload_n 3, 1)), (10, (.bipush 8, 2)), (12, (.if_icmp .ge 18, 3)), (15, (.iload_n 2, 1)), (16, (.aload_n 0, 1)), (17, (.getfield 15, 3)), (20, (.iload_n 3, 1)), (21, (.iaload, 1)), (22, (.iadd, 1)), (23, (.istore_n 2, 1)), (24, (.iinc 3 1, 3)), (27, (.goto (-23), 3)), (30, (.iload_n 2, 1)), (31, (.ireturn, 1))]
theorem tkX7_countCoins_0 : (tbX7_countCoins_0.all fun q => decide (decode cX7_countCoins q.1 = .ok q.2)) = true := by decide +kernel
def tbX7_countCoins : List (Nat × (Instr × Nat)) := tbX7_countCoins_0
theorem tkX7_countCoins : (tbX7_countCoins.all fun q => decide (decode cX7_countCoins q.1 = .ok q.2)) = true := by
  unfold tbX7_countCoins
  simp only [List.all_append, Bool.and_eq_true]
  exact tkX7_countCoins_0
def tbX7_countKeptOf_0 : List (Nat × (Instr × Nat)) := [(0, (.iconst 0, 1)), (1, (.istore_n 2, 1)), (2, (.iconst 0, 1)), (3, (.istore_n 3, 1)), (4, (.iload_n 3, 1)), (5, (.aload_n 0, 1)), (6, (.getfield 37, 3)), (9, (.if_icmp .ge 32, 3)), (12, (.iload_n 3, 1)), (13, (.bipush 40, 2)), (15, (.if_icmp .ge 26, 3)), (18, (.aload_n 0, 1)), (19, (.getfield 24, 3)), (22, (.iload_n 3, 1)), (23, (.iaload, 1)), (24, (.iconst 1, 1)), (25, (.invokestatic 68, 3)), (28, (.iload_n 1, 1)), (29, (.if_icmp .ne 6, 3)), (32, (.iinc 2 1, 3)), (35, (.iinc 3 1, 3)), (38, (.goto (-34), 3)), (41, (.iload_n 2, 1)), (42, (.ireturn, 1))]
theorem tkX7_countKeptOf_0 : (tbX7_countKeptOf_0.all fun q => decide (decode cX7_countKeptOf q.1 = .ok q.2)) = true := by decide +kernel
def tbX7_countKeptOf : List (Nat × (Instr × Nat)) := tbX7_countKeptOf_0
theorem tkX7_countKeptOf : (tbX7_countKeptOf.all fun q => decide (decode cX7_countKeptOf q.1 = .ok q.2)) = true := by
  unfold tbX7_countKeptOf
  simp only [List.all_append, Bool.and_eq_true]
  exact tkX7_countKeptOf_0
def tbX7_take_0 : List (Nat × (Instr × Nat)) := [(0, (.aload_n 0, 1)), (1, (.getfield 18, 3)), (4, (.iload_n 1, 1)), (5, (.bipush 12, 2)), (7, (.imul, 1)), (8, (.iload_n 2, 1)), (9, (.iadd, 1)), (10, (.aload_n 0, 1)), (11, (.getfield 33, 3)), (14, (.iload_n 3, 1)), (15, (.iadd, 1)), (16, (.iconst 1, 1)), (17, (.isub, 1)), (18, (.iastore, 1)), (19, (.aload_n 0, 1)), (20, (.getfield 21, 3)), (23, (.iload_n 1, 1)), (24, (.dup2, 1)), (25, (.iaload, 1)), (26, (.iconst 1, 1)), (27, (.iload_n 2, 1)), (28, (.ishl, 1)), (29, (.ior, 1)), (30, (.iastore, 1)), (31, (.aload_n 0, 1)), (32, (.getfield 15, 3)), (35, (.iload_n 1, 1)), (36, (.dup2, 1)), (37, (.iaload, 1)), (38, (.iload 4, 2)), (40, (.isub, 1)), (41, (.iastore, 1)), (42, (.return_, 1))]
theorem tkX7_take_0 : (tbX7_take_0.all fun q => decide (decode cX7_take q.1 = .ok q.2)) = true := by decide +kernel
def tbX7_take : List (Nat × (Instr × Nat)) := tbX7_take_0
theorem tkX7_take : (tbX7_take.all fun q => decide (decode cX7_take q.1 = .ok q.2)) = true := by
  unfold tbX7_take
  simp only [List.all_append, Bool.and_eq_true]
  exact tkX7_take_0
def tbX7_giveBack_0 : List (Nat × (Instr × Nat)) := [(0, (.aload_n 0, 1)), (1, (.getfield 18, 3)), (4, (.iload_n 1, 1)), (5, (.bipush 12, 2)), (7, (.imul, 1)), (8, (.iload_n 2, 1)), (9, (.iadd, 1)), (10, (.iconst (-1), 1)), (11, (.iastore, 1)), (12, (.aload_n 0, 1)), (13, (.getfield 21, 3)), (16, (.iload_n 1, 1)), (17, (.dup2, 1)), (18, (.iaload, 1)), (19, (.iconst 1, 1)), (20, (.iload_n 2, 1)), (21, (.ishl, 1)), (22, (.iconst (-1), 1)), (23, (.ixor, 1)), (24, (.iand, 1)), (25, (.iastore, 1)), (26, (.return_, 1))]
theorem tkX7_giveBack_0 : (tbX7_giveBack_0.all fun q => decide (decode cX7_giveBack q.1 = .ok q.2)) = true := by decide +kernel
def tbX7_giveBack : List (Nat × (Instr × Nat)) := tbX7_giveBack_0
theorem tkX7_giveBack : (tbX7_giveBack.all fun q => decide (decode cX7_giveBack q.1 = .ok q.2)) = true := by
  unfold tbX7_giveBack
  simp only [List.all_append, Bool.and_eq_true]
  exact tkX7_giveBack_0
def tbX7_infer_0 : List (Nat × (Instr × Nat)) := [(0, (.aload_n 0, 1)), (1, (.iload_n 1, 1)), (2, (.iload_n 2, 1)), (3, (.invokevirtual 59, 3)), (6, (.ifCond .eq 17, 3)), (9, (.aload_n 0, 1)), (10, (.aload_n 0, 1)), (11, (.getfield 33, 3)), (14, (.iload_n 1, 1)), (15, (.iload_n 2, 1)), (16, (.iload_n 3, 1)), (17, (.invokestatic 72, 3)), (20, (.invokevirtual 76, 3)), (23, (.aload_n 0, 1)), (24, (.getfield 9, 3)), (27, (.iload_n 1, 1)), (28, (.dup2, 1)), (29, (.iaload, 1)), (30, (.iconst 1, 1)), (31, (.iload_n 2, 1)), (32, (.ishl, 1)), (33, (.ior, 1)), (34, (.iastore, 1)), (35, (.return_, 1))]
theorem tkX7_infer_0 : (tbX7_infer_0.all fun q => decide (decode cX7_infer q.1 = .ok q.2)) = true := by decide +kernel
def tbX7_infer : List (Nat × (Instr × Nat)) := tbX7_infer_0
theorem tkX7_infer : (tbX7_infer.all fun q => decide (decode cX7_infer q.1 = .ok q.2)) = true := by
  unfold tbX7_infer
  simp only [List.all_append, Bool.and_eq_true]
  exact tkX7_infer_0
def tbX7_keep_0 : List (Nat × (Instr × Nat)) := [(0, (.aload_n 0, 1)), (1, (.getfield 49, 3)), (4, (.ifCond .ne 8, 3)), (7, (.aload_n 0, 1)), (8, (.iload_n 1, 1)), (9, (.putfield 52, 3)), (12, (.aload_n 0, 1)), (13, (.dup, 1)), (14, (.getfield 49, 3)), (17, (.iconst 1, 1)), (18, (.iadd, 1)), (19, (.putfield 49, 3)), (22, (.aload_n 0, 1)), (23, (.getfield 37, 3)), (26, (.bipush 40, 2)), (28, (.if_icmp .ne 28, 3)), (31, (.aload_n 0, 1)), (32, (.getfield 24, 3)), (35, (.iconst 1, 1)), (36, (.aload_n 0, 1)), (37, (.getfield 24, 3)), (40, (.iconst 0, 1)), (41, (.bipush 39, 2)), (43, (.invokestatic 43, 3)), (46, (.aload_n 0, 1)), (47, (.dup, 1)), (48, (.getfield 37, 3)), (51, (.iconst 1, 1)), (52, (.isub, 1)), (53, (.putfield 37, 3)), (56, (.aload_n 0, 1)), (57, (.getfield 24, 3)), (60, (.aload_n 0, 1)), (61, (.getfield 37, 3)), (64, (.iload_n 1, 1)), (65, (.iastore, 1)), (66, (.aload_n 0, 1)), (67, (.dup, 1)), (68, (.getfield 37, 3)), (71, (.iconst 1, 1))]
theorem tkX7_keep_0 : (tbX7_keep_0.all fun q => decide (decode cX7_keep q.1 = .ok q.2)) = true := by decide +kernel
def tbX7_keep_1 : List (Nat × (Instr × Nat)) := [(72, (.iadd, 1)), (73, (.putfield 37, 3)), (76, (.return_, 1))]
theorem tkX7_keep_1 : (tbX7_keep_1.all fun q => decide (decode cX7_keep q.1 = .ok q.2)) = true := by decide +kernel
def tbX7_keep : List (Nat × (Instr × Nat)) := tbX7_keep_0 ++ tbX7_keep_1
theorem tkX7_keep : (tbX7_keep.all fun q => decide (decode cX7_keep q.1 = .ok q.2)) = true := by
  unfold tbX7_keep
  simp only [List.all_append, Bool.and_eq_true]
  exact ⟨tkX7_keep_0, tkX7_keep_1⟩
def tbX8_init_0 : List (Nat × (Instr × Nat)) := [(0, (.aload_n 0, 1)), (1, (.invokespecial 1, 3)), (4, (.aload_n 0, 1)), (5, (.bipush 64, 2)), (7, (.newarray .int, 2)), (9, (.putfield 9, 3)), (12, (.return_, 1))]
theorem tkX8_init_0 : (tbX8_init_0.all fun q => decide (decode cX8_init q.1 = .ok q.2)) = true := by decide +kernel
def tbX8_init : List (Nat × (Instr × Nat)) := tbX8_init_0
theorem tkX8_init : (tbX8_init.all fun q => decide (decode cX8_init q.1 = .ok q.2)) = true := by
  unfold tbX8_init
  simp only [List.all_append, Bool.and_eq_true]
  exact tkX8_init_0
def tbX8_value_0 : List (Nat × (Instr × Nat)) := [(0, (.aload_n 0, 1)), (1, (.iconst 0, 1)), (2, (.putfield 13, 3)), (5, (.iconst 0, 1)), (6, (.istore_n 2, 1)), (7, (.iload_n 2, 1)), (8, (.aload_n 1, 1)), (9, (.arraylength, 1)), (10, (.if_icmp .ge 153, 3)), (13, (.aload_n 1, 1)), (14, (.iload_n 2, 1)), (15, (.iaload, 1)), (16, (.sipush 10000, 3)), (19, (.isub, 1)), (20, (.istore_n 3, 1)), (21, (.iload_n 3, 1)), (22, (.ifCond .ge 13, 3)), (25, (.aload_n 0, 1)), (26, (.aload_n 1, 1)), (27, (.iload_n 2, 1)), (28, (.iaload, 1)), (29, (.invokevirtual 19, 3)), (32, (.goto 125, 3)), (35, (.iload_n 3, 1)), (36, (.bipush 20, 2)), (38, (.if_icmp .lt 9, 3)), (41, (.iload_n 3, 1)), (42, (.bipush 23, 2)), (44, (.if_icmp .ne 15, 3)), (47, (.aload_n 0, 1)), (48, (.aload_n 0, 1)), (49, (.iload_n 3, 1)), (50, (.invokevirtual 23, 3)), (53, (.invokevirtual 19, 3)), (56, (.goto 101, 3)), (59, (.iload_n 3, 1)), (60, (.bipush 22, 2)), (62, (.if_icmp .ne 37, 3)), (65, (.aload_n 0, 1)), (66, (.getfield 13, 3))]
theorem tkX8_value_0 : (tbX8_value_0.all fun q => decide (decode cX8_value q.1 = .ok q.2)) = true := by decide +kernel
def tbX8_value_1 : List (Nat × (Instr × Nat)) := [(69, (.ifCond .le 30, 3)), (72, (.aload_n 0, 1)), (73, (.getfield 9, 3)), (76, (.aload_n 0, 1)), (77, (.getfield 13, 3)), (80, (.iconst 1, 1)), (81, (.isub, 1)), (82, (.iconst 1, 1)), (83, (.aload_n 0, 1)), (84, (.getfield 9, 3)), (87, (.aload_n 0, 1)), (88, (.getfield 13, 3)), (91, (.iconst 1, 1)), (92, (.isub, 1)), (93, (.iaload, 1)), (94, (.isub, 1)), (95, (.iastore, 1)), (96, (.goto 61, 3)), (99, (.aload_n 0, 1)), (100, (.getfield 13, 3)), (103, (.iconst 1, 1)), (104, (.if_icmp .le 53, 3)), (107, (.aload_n 0, 1)), (108, (.dup, 1)), (109, (.getfield 13, 3)), (112, (.iconst 1, 1)), (113, (.isub, 1)), (114, (.putfield 13, 3)), (117, (.aload_n 0, 1)), (118, (.getfield 9, 3)), (121, (.aload_n 0, 1)), (122, (.getfield 13, 3)), (125, (.iconst 1, 1)), (126, (.isub, 1)), (127, (.iload_n 3, 1)), (128, (.aload_n 0, 1)), (129, (.getfield 9, 3)), (132, (.aload_n 0, 1)), (133, (.getfield 13, 3)), (136, (.iconst 1, 1))]
theorem tkX8_value_1 : (tbX8_value_1.all fun q => decide (decode cX8_value q.1 = .ok q.2)) = true := by decide +kernel
def tbX8_value_2 : List (Nat × (Instr × Nat)) := [(137, (.isub, 1)), (138, (.iaload, 1)), (139, (.i2l, 1)), (140, (.aload_n 0, 1)), (141, (.getfield 9, 3)), (144, (.aload_n 0, 1)), (145, (.getfield 13, 3)), (148, (.iaload, 1)), (149, (.i2l, 1)), (150, (.invokestatic 27, 3)), (153, (.invokestatic 31, 3)), (156, (.iastore, 1)), (157, (.iinc 2 1, 3)), (160, (.goto (-153), 3)), (163, (.aload_n 0, 1)), (164, (.getfield 13, 3)), (167, (.ifCond .le 12, 3)), (170, (.aload_n 0, 1)), (171, (.getfield 9, 3)), (174, (.iconst 0, 1)), (175, (.iaload, 1)), (176, (.goto 4, 3)), (179, (.iconst 0, 1)), (180, (.ireturn, 1))]
theorem tkX8_value_2 : (tbX8_value_2.all fun q => decide (decode cX8_value q.1 = .ok q.2)) = true := by decide +kernel
def tbX8_value : List (Nat × (Instr × Nat)) := tbX8_value_0 ++ tbX8_value_1 ++ tbX8_value_2
theorem tkX8_value : (tbX8_value.all fun q => decide (decode cX8_value q.1 = .ok q.2)) = true := by
  unfold tbX8_value
  simp only [List.all_append, Bool.and_eq_true]
  exact ⟨⟨tkX8_value_0, tkX8_value_1⟩, tkX8_value_2⟩
def tbX8_push_0 : List (Nat × (Instr × Nat)) := [(0, (.aload_n 0, 1)), (1, (.getfield 13, 3)), (4, (.bipush 64, 2)), (6, (.if_icmp .ge 23, 3)), (9, (.aload_n 0, 1)), (10, (.getfield 9, 3)), (13, (.aload_n 0, 1)), (14, (.getfield 13, 3)), (17, (.iload_n 1, 1)), (18, (.iastore, 1)), (19, (.aload_n 0, 1)), (20, (.dup, 1)), (21, (.getfield 13, 3)), (24, (.iconst 1, 1)), (25, (.iadd, 1)), (26, (.putfield 13, 3)), (29, (.return_, 1))]
theorem tkX8_push_0 : (tbX8_push_0.all fun q => decide (decode cX8_push q.1 = .ok q.2)) = true := by decide +kernel
def tbX8_push : List (Nat × (Instr × Nat)) := tbX8_push_0
theorem tkX8_push : (tbX8_push.all fun q => decide (decode cX8_push q.1 = .ok q.2)) = true := by
  unfold tbX8_push
  simp only [List.all_append, Bool.and_eq_true]
  exact tkX8_push_0
def tbX8_part_0 : List (Nat × (Instr × Nat)) := [(0, (.iload_n 1, 1)), (1, (.tableswitch 131 1 19 #[96, 91, 131, 131, 131, 101, 131, 131, 131, 131, 131, 131, 131, 131, 106, 111, 116, 121, 126], 91)), (92, (.aload_n 0, 1)), (93, (.getfield 35, 3)), (96, (.ireturn, 1)), (97, (.aload_n 0, 1)), (98, (.getfield 38, 3)), (101, (.ireturn, 1)), (102, (.aload_n 0, 1)), (103, (.getfield 41, 3)), (106, (.ireturn, 1)), (107, (.aload_n 0, 1)), (108, (.getfield 44, 3)), (111, (.ireturn, 1)), (112, (.aload_n 0, 1)), (113, (.getfield 47, 3)), (116, (.ireturn, 1)), (117, (.aload_n 0, 1)), (118, (.getfield 50, 3)), (121, (.ireturn, 1)), (122, (.aload_n 0, 1)), (123, (.getfield 53, 3)), (126, (.ireturn, 1)), (127, (.aload_n 0, 1)), (128, (.getfield 56, 3)), (131, (.ireturn, 1)), (132, (.iconst 1, 1)), (133, (.ireturn, 1))]
theorem tkX8_part_0 : (tbX8_part_0.all fun q => decide (decode cX8_part q.1 = .ok q.2)) = true := by decide +kernel
def tbX8_part : List (Nat × (Instr × Nat)) := tbX8_part_0
theorem tkX8_part : (tbX8_part.all fun q => decide (decode cX8_part q.1 = .ok q.2)) = true := by
  unfold tbX8_part
  simp only [List.all_append, Bool.and_eq_true]
  exact tkX8_part_0
def tbX8_join_0 : List (Nat × (Instr × Nat)) := [(0, (.iload_n 0, 1)), (1, (.lookupswitch 193 #[(20, 183), (21, 179), (24, 187), (137, 127), (142, 107), (143, 99), (145, 103), (147, 111), (160, 143), (161, 167), (162, 155)], 99)), (100, (.lload_n 1, 1)), (101, (.lload_n 3, 1)), (102, (.ladd, 1)), (103, (.lreturn, 1)), (104, (.lload_n 1, 1)), (105, (.lload_n 3, 1)), (106, (.lsub, 1)), (107, (.lreturn, 1)), (108, (.lload_n 1, 1)), (109, (.lload_n 3, 1)), (110, (.lmul, 1)), (111, (.lreturn, 1)), (112, (.lload_n 3, 1)), (113, (.lconst 0, 1)), (114, (.lcmp, 1)), (115, (.ifCond .ne 7, 3)), (118, (.lconst 0, 1)), (119, (.goto 8, 3)), (122, (.lload_n 1, 1)), (123, (.lload_n 3, 1)), (124, (.invokestatic 59, 3)), (127, (.lreturn, 1)), (128, (.lload_n 3, 1)), (129, (.lconst 0, 1)), (130, (.lcmp, 1)), (131, (.ifCond .ne 7, 3)), (134, (.lconst 0, 1)), (135, (.goto 8, 3)), (138, (.lload_n 1, 1)), (139, (.lload_n 3, 1)), (140, (.invokestatic 65, 3)), (143, (.lreturn, 1)), (144, (.lload_n 1, 1)), (145, (.lload_n 3, 1)), (146, (.lcmp, 1)), (147, (.ifCond .ge 7, 3)), (150, (.lconst 1, 1)), (151, (.goto 4, 3))]
theorem tkX8_join_0 : (tbX8_join_0.all fun q => decide (decode cX8_join q.1 = .ok q.2)) = true := by decide +kernel
def tbX8_join_1 : List (Nat × (Instr × Nat)) := [(154, (.lconst 0, 1)), (155, (.lreturn, 1)), (156, (.lload_n 1, 1)), (157, (.lload_n 3, 1)), (158, (.lcmp, 1)), (159, (.ifCond .le 7, 3)), (162, (.lconst 1, 1)), (163, (.goto 4, 3)), (166, (.lconst 0, 1)), (167, (.lreturn, 1)), (168, (.lload_n 1, 1)), (169, (.lload_n 3, 1)), (170, (.lcmp, 1)), (171, (.ifCond .ne 7, 3)), (174, (.lconst 1, 1)), (175, (.goto 4, 3)), (178, (.lconst 0, 1)), (179, (.lreturn, 1)), (180, (.lload_n 1, 1)), (181, (.lload_n 3, 1)), (182, (.land, 1)), (183, (.lreturn, 1)), (184, (.lload_n 1, 1)), (185, (.lload_n 3, 1)), (186, (.lor, 1)), (187, (.lreturn, 1)), (188, (.lload_n 1, 1)), (189, (.lload_n 3, 1)), (190, (.invokestatic 68, 3)), (193, (.lreturn, 1)), (194, (.lload_n 1, 1)), (195, (.lload_n 3, 1)), (196, (.invokestatic 71, 3)), (199, (.lreturn, 1))]
theorem tkX8_join_1 : (tbX8_join_1.all fun q => decide (decode cX8_join q.1 = .ok q.2)) = true := by decide +kernel
def tbX8_join : List (Nat × (Instr × Nat)) := tbX8_join_0 ++ tbX8_join_1
theorem tkX8_join : (tbX8_join.all fun q => decide (decode cX8_join q.1 = .ok q.2)) = true := by
  unfold tbX8_join
  simp only [List.all_append, Bool.and_eq_true]
  exact ⟨tkX8_join_0, tkX8_join_1⟩
def tbX8_bounded_0 : List (Nat × (Instr × Nat)) := [(0, (.ldc2_w 74, 3)), (3, (.ldc2_w 76, 3)), (6, (.lload_n 0, 1)), (7, (.invokestatic 68, 3)), (10, (.invokestatic 71, 3)), (13, (.l2i, 1)), (14, (.ireturn, 1))]
theorem tkX8_bounded_0 : (tbX8_bounded_0.all fun q => decide (decode cX8_bounded q.1 = .ok q.2)) = true := by decide +kernel
def tbX8_bounded : List (Nat × (Instr × Nat)) := tbX8_bounded_0
theorem tkX8_bounded : (tbX8_bounded.all fun q => decide (decode cX8_bounded q.1 = .ok q.2)) = true := by
  unfold tbX8_bounded
  simp only [List.all_append, Bool.and_eq_true]
  exact tkX8_bounded_0
def tbX9_init_0 : List (Nat × (Instr × Nat)) := [(0, (.aload_n 0, 1)), (1, (.invokespecial 1, 3)), (4, (.aload_n 0, 1)), (5, (.sipush 1600, 3)), (8, (.newarray .byte, 2)), (10, (.putfield 9, 3)), (13, (.aload_n 0, 1)), (14, (.new 13, 3)), (17, (.dup, 1)), (18, (.invokespecial 15, 3)), (21, (.putfield 16, 3)), (24, (.aload_n 0, 1)), (25, (.new 20, 3)), (28, (.dup, 1)), (29, (.invokespecial 22, 3)), (32, (.putfield 23, 3)), (35, (.aload_n 0, 1)), (36, (.new 27, 3)), (39, (.dup, 1)), (40, (.invokespecial 29, 3)), (43, (.putfield 30, 3)), (46, (.aload_n 0, 1)), (47, (.new 34, 3)), (50, (.dup, 1)), (51, (.invokespecial 36, 3)), (54, (.putfield 37, 3)), (57, (.aload_n 0, 1)), (58, (.new 41, 3)), (61, (.dup, 1)), (62, (.invokespecial 43, 3)), (65, (.putfield 44, 3)), (68, (.aload_n 0, 1)), (69, (.new 48, 3)), (72, (.dup, 1)), (73, (.invokespecial 50, 3)), (76, (.putfield 51, 3)), (79, (.aload_n 0, 1)), (80, (.new 48, 3)), (83, (.dup, 1)), (84, (.invokespecial 50, 3))]
theorem tkX9_init_0 : (tbX9_init_0.all fun q => decide (decode cX9_init q.1 = .ok q.2)) = true := by decide +kernel
def tbX9_init_1 : List (Nat × (Instr × Nat)) := [(87, (.putfield 55, 3)), (90, (.aload_n 0, 1)), (91, (.bipush 6, 2)), (93, (.newarray .int, 2)), (95, (.putfield 58, 3)), (98, (.aload_n 0, 1)), (99, (.new 62, 3)), (102, (.dup, 1)), (103, (.invokespecial 64, 3)), (106, (.putfield 65, 3)), (109, (.aload_n 0, 1)), (110, (.iconst 0, 1)), (111, (.putfield 69, 3)), (114, (.aload_n 0, 1)), (115, (.iconst 1, 1)), (116, (.putfield 73, 3)), (119, (.return_, 1))]
theorem tkX9_init_1 : (tbX9_init_1.all fun q => decide (decode cX9_init q.1 = .ok q.2)) = true := by decide +kernel
def tbX9_init : List (Nat × (Instr × Nat)) := tbX9_init_0 ++ tbX9_init_1
theorem tkX9_init : (tbX9_init.all fun q => decide (decode cX9_init q.1 = .ok q.2)) = true := by
  unfold tbX9_init
  simp only [List.all_append, Bool.and_eq_true]
  exact ⟨tkX9_init_0, tkX9_init_1⟩
def tbX9_feed_0 : List (Nat × (Instr × Nat)) := [(0, (.aload_n 0, 1)), (1, (.getfield 69, 3)), (4, (.bipush 20, 2)), (6, (.iadd, 1)), (7, (.sipush 1600, 3)), (10, (.if_icmp .le 9, 3)), (13, (.aload_n 0, 1)), (14, (.iconst 0, 1)), (15, (.invokevirtual 76, 3)), (18, (.ireturn, 1)), (19, (.aload_n 0, 1)), (20, (.iload_n 1, 1)), (21, (.invokevirtual 80, 3)), (24, (.aload_n 0, 1)), (25, (.iload_n 2, 1)), (26, (.invokevirtual 80, 3)), (29, (.aload_n 0, 1)), (30, (.iload_n 3, 1)), (31, (.invokevirtual 80, 3)), (34, (.aload_n 0, 1)), (35, (.iload 4, 2)), (37, (.invokevirtual 80, 3)), (40, (.aload_n 0, 1)), (41, (.iload 5, 2)), (43, (.invokevirtual 80, 3)), (46, (.aload_n 0, 1)), (47, (.getfield 69, 3)), (50, (.ireturn, 1))]
theorem tkX9_feed_0 : (tbX9_feed_0.all fun q => decide (decode cX9_feed q.1 = .ok q.2)) = true := by decide +kernel
def tbX9_feed : List (Nat × (Instr × Nat)) := tbX9_feed_0
theorem tkX9_feed : (tbX9_feed.all fun q => decide (decode cX9_feed q.1 = .ok q.2)) = true := by
  unfold tbX9_feed
  simp only [List.all_append, Bool.and_eq_true]
  exact tkX9_feed_0
def tbX9_end_0 : List (Nat × (Instr × Nat)) := [(0, (.iload_n 1, 1)), (1, (.ifCond .lt 11, 3)), (4, (.iload_n 1, 1)), (5, (.aload_n 0, 1)), (6, (.getfield 69, 3)), (9, (.if_icmp .le 11, 3)), (12, (.aload_n 0, 1)), (13, (.iconst 0, 1)), (14, (.invokevirtual 76, 3)), (17, (.pop, 1)), (18, (.iconst 0, 1)), (19, (.ireturn, 1)), (20, (.aload_n 0, 1)), (21, (.iload_n 1, 1)), (22, (.putfield 69, 3)), (25, (.iconst 1, 1)), (26, (.ireturn, 1))]
theorem tkX9_end_0 : (tbX9_end_0.all fun q => decide (decode cX9_end q.1 = .ok q.2)) = true := by decide +kernel
def tbX9_end : List (Nat × (Instr × Nat)) := tbX9_end_0
theorem tkX9_end : (tbX9_end.all fun q => decide (decode cX9_end q.1 = .ok q.2)) = true := by
  unfold tbX9_end
  simp only [List.all_append, Bool.and_eq_true]
  exact tkX9_end_0
def tbX9_capital_0 : List (Nat × (Instr × Nat)) := [(0, (.aload_n 0, 1)), (1, (.getfield 69, 3)), (4, (.istore_n 1, 1)), (5, (.aload_n 0, 1)), (6, (.iconst 0, 1)), (7, (.putfield 69, 3)), (10, (.aload_n 0, 1)), (11, (.getfield 16, 3)), (14, (.aload_n 0, 1)), (15, (.getfield 9, 3)), (18, (.iload_n 1, 1)), (19, (.aload_n 0, 1)), (20, (.getfield 65, 3)), (23, (.invokevirtual 84, 3)), (26, (.istore_n 2, 1)), (27, (.iload_n 2, 1)), (28, (.iconst (-1), 1)), (29, (.if_icmp .ne 9, 3)), (32, (.aload_n 0, 1)), (33, (.iconst 1, 1)), (34, (.invokevirtual 76, 3)), (37, (.ireturn, 1)), (38, (.aload_n 0, 1)), (39, (.getfield 23, 3)), (42, (.getfield 88, 3)), (45, (.astore_n 3, 1)), (46, (.aload_n 0, 1)), (47, (.getfield 23, 3)), (50, (.aload_n 0, 1)), (51, (.getfield 65, 3)), (54, (.putfield 88, 3)), (57, (.aload_n 0, 1)), (58, (.aload_n 3, 1)), (59, (.putfield 65, 3)), (62, (.aload_n 0, 1)), (63, (.getfield 44, 3)), (66, (.invokevirtual 91, 3)), (69, (.aload_n 0, 1)), (70, (.getfield 23, 3)), (73, (.aload_n 0, 1))]
theorem tkX9_capital_0 : (tbX9_capital_0.all fun q => decide (decode cX9_capital q.1 = .ok q.2)) = true := by decide +kernel
def tbX9_capital_1 : List (Nat × (Instr × Nat)) := [(74, (.getfield 51, 3)), (77, (.invokevirtual 94, 3)), (80, (.iload_n 2, 1)), (81, (.ireturn, 1))]
theorem tkX9_capital_1 : (tbX9_capital_1.all fun q => decide (decode cX9_capital q.1 = .ok q.2)) = true := by decide +kernel
def tbX9_capital : List (Nat × (Instr × Nat)) := tbX9_capital_0 ++ tbX9_capital_1
theorem tkX9_capital : (tbX9_capital.all fun q => decide (decode cX9_capital q.1 = .ok q.2)) = true := by
  unfold tbX9_capital
  simp only [List.all_append, Bool.and_eq_true]
  exact ⟨tkX9_capital_0, tkX9_capital_1⟩
def tbX9_fault_0 : List (Nat × (Instr × Nat)) := [(0, (.iload_n 1, 1)), (1, (.lookupswitch 43 #[(0, 27), (1, 35)], 27)), (28, (.aload_n 0, 1)), (29, (.getfield 16, 3)), (32, (.getfield 98, 3)), (35, (.ireturn, 1)), (36, (.aload_n 0, 1)), (37, (.getfield 16, 3)), (40, (.getfield 101, 3)), (43, (.ireturn, 1)), (44, (.iconst (-1), 1)), (45, (.ireturn, 1))]
theorem tkX9_fault_0 : (tbX9_fault_0.all fun q => decide (decode cX9_fault q.1 = .ok q.2)) = true := by decide +kernel
def tbX9_fault : List (Nat × (Instr × Nat)) := tbX9_fault_0
theorem tkX9_fault : (tbX9_fault.all fun q => decide (decode cX9_fault q.1 = .ok q.2)) = true := by
  unfold tbX9_fault
  simp only [List.all_append, Bool.and_eq_true]
  exact tkX9_fault_0
def tbX9_has_0 : List (Nat × (Instr × Nat)) := [(0, (.aload_n 0, 1)), (1, (.getfield 23, 3)), (4, (.getfield 88, 3)), (7, (.astore_n 2, 1)), (8, (.iload_n 1, 1)), (9, (.tableswitch 172 0 12 #[67, 72, 77, 82, 87, 95, 107, 115, 127, 139, 151, 159, 167], 67)), (76, (.aload_n 2, 1)), (77, (.getfield 104, 3)), (80, (.ireturn, 1)), (81, (.aload_n 2, 1)), (82, (.getfield 107, 3)), (85, (.ireturn, 1)), (86, (.aload_n 2, 1)), (87, (.getfield 110, 3)), (90, (.ireturn, 1)), (91, (.aload_n 2, 1)), (92, (.getfield 113, 3)), (95, (.ireturn, 1)), (96, (.aload_n 0, 1)), (97, (.getfield 51, 3)), (100, (.invokevirtual 116, 3)), (103, (.ireturn, 1)), (104, (.aload_n 0, 1)), (105, (.getfield 23, 3)), (108, (.aload_n 0, 1)), (109, (.getfield 51, 3)), (112, (.invokevirtual 120, 3)), (115, (.ireturn, 1)), (116, (.aload_n 0, 1)), (117, (.getfield 51, 3)), (120, (.getfield 124, 3)), (123, (.ireturn, 1)), (124, (.aload_n 2, 1)), (125, (.aload_n 0, 1)), (126, (.getfield 51, 3)), (129, (.getfield 124, 3)), (132, (.invokevirtual 127, 3)), (135, (.ireturn, 1)), (136, (.aload_n 0, 1)), (137, (.getfield 51, 3))]
theorem tkX9_has_0 : (tbX9_has_0.all fun q => decide (decode cX9_has q.1 = .ok q.2)) = true := by decide +kernel
def tbX9_has_1 : List (Nat × (Instr × Nat)) := [(140, (.aload_n 2, 1)), (141, (.getfield 110, 3)), (144, (.invokevirtual 130, 3)), (147, (.ireturn, 1)), (148, (.aload_n 0, 1)), (149, (.getfield 23, 3)), (152, (.aload_n 0, 1)), (153, (.getfield 51, 3)), (156, (.invokevirtual 133, 3)), (159, (.ireturn, 1)), (160, (.aload_n 0, 1)), (161, (.getfield 51, 3)), (164, (.getfield 136, 3)), (167, (.ireturn, 1)), (168, (.aload_n 0, 1)), (169, (.getfield 44, 3)), (172, (.getfield 139, 3)), (175, (.ireturn, 1)), (176, (.aload_n 0, 1)), (177, (.getfield 73, 3)), (180, (.ireturn, 1)), (181, (.iconst (-1), 1)), (182, (.ireturn, 1))]
theorem tkX9_has_1 : (tbX9_has_1.all fun q => decide (decode cX9_has q.1 = .ok q.2)) = true := by decide +kernel
def tbX9_has : List (Nat × (Instr × Nat)) := tbX9_has_0 ++ tbX9_has_1
theorem tkX9_has : (tbX9_has.all fun q => decide (decode cX9_has q.1 = .ok q.2)) = true := by
  unfold tbX9_has
  simp only [List.all_append, Bool.and_eq_true]
  exact ⟨tkX9_has_0, tkX9_has_1⟩
def tbX9_letter_0 : List (Nat × (Instr × Nat)) := [(0, (.iload_n 3, 1)), (1, (.ifCond .lt 9, 3)), (4, (.iload_n 3, 1)), (5, (.bipush 6, 2)), (7, (.if_icmp .lt 5, 3)), (10, (.iconst (-1), 1)), (11, (.ireturn, 1)), (12, (.iload_n 1, 1)), (13, (.ifCond .ne 28, 3)), (16, (.aload_n 0, 1)), (17, (.iload_n 2, 1)), (18, (.invokevirtual 142, 3)), (21, (.ifCond .eq 20, 3)), (24, (.aload_n 0, 1)), (25, (.getfield 23, 3)), (28, (.getfield 88, 3)), (31, (.getfield 146, 3)), (34, (.iload_n 2, 1)), (35, (.iaload, 1)), (36, (.iload_n 3, 1)), (37, (.invokestatic 149, 3)), (40, (.ireturn, 1)), (41, (.iload_n 1, 1)), (42, (.iconst 1, 1)), (43, (.if_icmp .ne 28, 3)), (46, (.aload_n 0, 1)), (47, (.iload_n 2, 1)), (48, (.invokevirtual 153, 3)), (51, (.ifCond .eq 20, 3)), (54, (.aload_n 0, 1)), (55, (.getfield 23, 3)), (58, (.getfield 88, 3)), (61, (.getfield 156, 3)), (64, (.iload_n 2, 1)), (65, (.iaload, 1)), (66, (.iload_n 3, 1)), (67, (.invokestatic 149, 3)), (70, (.ireturn, 1)), (71, (.iconst (-1), 1)), (72, (.ireturn, 1))]
theorem tkX9_letter_0 : (tbX9_letter_0.all fun q => decide (decode cX9_letter q.1 = .ok q.2)) = true := by decide +kernel
def tbX9_letter : List (Nat × (Instr × Nat)) := tbX9_letter_0
theorem tkX9_letter : (tbX9_letter.all fun q => decide (decode cX9_letter q.1 = .ok q.2)) = true := by
  unfold tbX9_letter
  simp only [List.all_append, Bool.and_eq_true]
  exact tkX9_letter_0
def tbX9_fact_0 : List (Nat × (Instr × Nat)) := [(0, (.aload_n 0, 1)), (1, (.iload_n 1, 1)), (2, (.invokevirtual 142, 3)), (5, (.ifCond .ne 5, 3)), (8, (.iconst (-1), 1)), (9, (.ireturn, 1)), (10, (.aload_n 0, 1)), (11, (.getfield 23, 3)), (14, (.getfield 88, 3)), (17, (.astore_n 3, 1)), (18, (.iload_n 2, 1)), (19, (.tableswitch 87 0 5 #[37, 44, 51, 63, 75, 81], 37)), (56, (.aload_n 3, 1)), (57, (.getfield 159, 3)), (60, (.iload_n 1, 1)), (61, (.iaload, 1)), (62, (.ireturn, 1)), (63, (.aload_n 3, 1)), (64, (.getfield 162, 3)), (67, (.iload_n 1, 1)), (68, (.iaload, 1)), (69, (.ireturn, 1)), (70, (.aload_n 0, 1)), (71, (.getfield 51, 3)), (74, (.getfield 165, 3)), (77, (.iload_n 1, 1)), (78, (.invokestatic 168, 3)), (81, (.ireturn, 1)), (82, (.aload_n 0, 1)), (83, (.getfield 51, 3)), (86, (.getfield 172, 3)), (89, (.iload_n 1, 1)), (90, (.invokestatic 168, 3)), (93, (.ireturn, 1)), (94, (.aload_n 3, 1)), (95, (.iload_n 1, 1)), (96, (.invokevirtual 175, 3)), (99, (.ireturn, 1)), (100, (.aload_n 3, 1)), (101, (.iload_n 1, 1))]
theorem tkX9_fact_0 : (tbX9_fact_0.all fun q => decide (decode cX9_fact q.1 = .ok q.2)) = true := by decide +kernel
def tbX9_fact_1 : List (Nat × (Instr × Nat)) := [(102, (.invokevirtual 178, 3)), (105, (.ireturn, 1)), (106, (.iconst (-1), 1)), (107, (.ireturn, 1))]
theorem tkX9_fact_1 : (tbX9_fact_1.all fun q => decide (decode cX9_fact q.1 = .ok q.2)) = true := by decide +kernel
def tbX9_fact : List (Nat × (Instr × Nat)) := tbX9_fact_0 ++ tbX9_fact_1
theorem tkX9_fact : (tbX9_fact.all fun q => decide (decode cX9_fact q.1 = .ok q.2)) = true := by
  unfold tbX9_fact
  simp only [List.all_append, Bool.and_eq_true]
  exact ⟨tkX9_fact_0, tkX9_fact_1⟩
def tbX9_rule_0 : List (Nat × (Instr × Nat)) := [(0, (.iload_n 1, 1)), (1, (.ifCond .lt 17, 3)), (4, (.iload_n 1, 1)), (5, (.aload_n 0, 1)), (6, (.getfield 23, 3)), (9, (.getfield 88, 3)), (12, (.getfield 107, 3)), (15, (.if_icmp .lt 5, 3)), (18, (.iconst (-1), 1)), (19, (.ireturn, 1)), (20, (.iload_n 2, 1)), (21, (.lookupswitch 53 #[(0, 27), (1, 40)], 27)), (48, (.aload_n 0, 1)), (49, (.getfield 23, 3)), (52, (.getfield 88, 3)), (55, (.getfield 181, 3)), (58, (.iload_n 1, 1)), (59, (.iaload, 1)), (60, (.ireturn, 1)), (61, (.aload_n 0, 1)), (62, (.getfield 23, 3)), (65, (.getfield 88, 3)), (68, (.getfield 184, 3)), (71, (.iload_n 1, 1)), (72, (.iaload, 1)), (73, (.ireturn, 1)), (74, (.iconst (-1), 1)), (75, (.ireturn, 1))]
theorem tkX9_rule_0 : (tbX9_rule_0.all fun q => decide (decode cX9_rule q.1 = .ok q.2)) = true := by decide +kernel
def tbX9_rule : List (Nat × (Instr × Nat)) := tbX9_rule_0
theorem tkX9_rule : (tbX9_rule.all fun q => decide (decode cX9_rule q.1 = .ok q.2)) = true := by
  unfold tbX9_rule
  simp only [List.all_append, Bool.and_eq_true]
  exact tkX9_rule_0
def tbX9_person_0 : List (Nat × (Instr × Nat)) := [(0, (.aload_n 0, 1)), (1, (.iload_n 1, 1)), (2, (.invokevirtual 153, 3)), (5, (.ifCond .ne 5, 3)), (8, (.iconst (-1), 1)), (9, (.ireturn, 1)), (10, (.iload_n 2, 1)), (11, (.tableswitch 102 0 5 #[37, 50, 60, 70, 80, 93], 37)), (48, (.aload_n 0, 1)), (49, (.getfield 23, 3)), (52, (.getfield 88, 3)), (55, (.getfield 187, 3)), (58, (.iload_n 1, 1)), (59, (.iaload, 1)), (60, (.ireturn, 1)), (61, (.aload_n 0, 1)), (62, (.getfield 51, 3)), (65, (.getfield 190, 3)), (68, (.iload_n 1, 1)), (69, (.iaload, 1)), (70, (.ireturn, 1)), (71, (.aload_n 0, 1)), (72, (.getfield 51, 3)), (75, (.getfield 165, 3)), (78, (.iload_n 1, 1)), (79, (.iaload, 1)), (80, (.ireturn, 1)), (81, (.aload_n 0, 1)), (82, (.getfield 51, 3)), (85, (.getfield 172, 3)), (88, (.iload_n 1, 1)), (89, (.iaload, 1)), (90, (.ireturn, 1)), (91, (.aload_n 0, 1)), (92, (.getfield 23, 3)), (95, (.aload_n 0, 1)), (96, (.getfield 51, 3)), (99, (.iload_n 1, 1)), (100, (.invokevirtual 193, 3)), (103, (.ireturn, 1))]
theorem tkX9_person_0 : (tbX9_person_0.all fun q => decide (decode cX9_person q.1 = .ok q.2)) = true := by decide +kernel
def tbX9_person_1 : List (Nat × (Instr × Nat)) := [(104, (.aload_n 0, 1)), (105, (.getfield 51, 3)), (108, (.iload_n 1, 1)), (109, (.invokevirtual 197, 3)), (112, (.ireturn, 1)), (113, (.iconst (-1), 1)), (114, (.ireturn, 1))]
theorem tkX9_person_1 : (tbX9_person_1.all fun q => decide (decode cX9_person q.1 = .ok q.2)) = true := by decide +kernel
def tbX9_person : List (Nat × (Instr × Nat)) := tbX9_person_0 ++ tbX9_person_1
theorem tkX9_person : (tbX9_person.all fun q => decide (decode cX9_person q.1 = .ok q.2)) = true := by
  unfold tbX9_person
  simp only [List.all_append, Bool.and_eq_true]
  exact ⟨tkX9_person_0, tkX9_person_1⟩
def tbX9_licence_0 : List (Nat × (Instr × Nat)) := [(0, (.aload_n 0, 1)), (1, (.iload_n 1, 1)), (2, (.invokevirtual 153, 3)), (5, (.ifCond .eq 23, 3)), (8, (.aload_n 0, 1)), (9, (.iload_n 2, 1)), (10, (.invokevirtual 142, 3)), (13, (.ifCond .eq 15, 3)), (16, (.aload_n 0, 1)), (17, (.getfield 51, 3)), (20, (.iload_n 1, 1)), (21, (.iload_n 2, 1)), (22, (.invokevirtual 200, 3)), (25, (.ifCond .ne 5, 3)), (28, (.iconst (-1), 1)), (29, (.ireturn, 1)), (30, (.aload_n 0, 1)), (31, (.getfield 51, 3)), (34, (.getfield 204, 3)), (37, (.iload_n 1, 1)), (38, (.bipush 12, 2)), (40, (.imul, 1)), (41, (.iload_n 2, 1)), (42, (.iadd, 1)), (43, (.iaload, 1)), (44, (.ireturn, 1))]
theorem tkX9_licence_0 : (tbX9_licence_0.all fun q => decide (decode cX9_licence q.1 = .ok q.2)) = true := by decide +kernel
def tbX9_licence : List (Nat × (Instr × Nat)) := tbX9_licence_0
theorem tkX9_licence : (tbX9_licence.all fun q => decide (decode cX9_licence q.1 = .ok q.2)) = true := by
  unfold tbX9_licence
  simp only [List.all_append, Bool.and_eq_true]
  exact tkX9_licence_0
def tbX9_price_0 : List (Nat × (Instr × Nat)) := [(0, (.aload_n 0, 1)), (1, (.iload_n 1, 1)), (2, (.invokevirtual 153, 3)), (5, (.ifCond .eq 22, 3)), (8, (.aload_n 0, 1)), (9, (.iload_n 2, 1)), (10, (.invokevirtual 142, 3)), (13, (.ifCond .eq 14, 3)), (16, (.iload_n 3, 1)), (17, (.iconst 1, 1)), (18, (.if_icmp .lt 9, 3)), (21, (.iload_n 3, 1)), (22, (.bipush 99, 2)), (24, (.if_icmp .le 5, 3)), (27, (.iconst (-1), 1)), (28, (.ireturn, 1)), (29, (.aload_n 0, 1)), (30, (.getfield 23, 3)), (33, (.aload_n 0, 1)), (34, (.getfield 51, 3)), (37, (.iload_n 1, 1)), (38, (.iload_n 2, 1)), (39, (.iload_n 3, 1)), (40, (.invokevirtual 207, 3)), (43, (.ireturn, 1))]
theorem tkX9_price_0 : (tbX9_price_0.all fun q => decide (decode cX9_price q.1 = .ok q.2)) = true := by decide +kernel
def tbX9_price : List (Nat × (Instr × Nat)) := tbX9_price_0
theorem tkX9_price : (tbX9_price.all fun q => decide (decode cX9_price q.1 = .ok q.2)) = true := by
  unfold tbX9_price
  simp only [List.all_append, Bool.and_eq_true]
  exact tkX9_price_0
def tbX9_buy_0 : List (Nat × (Instr × Nat)) := [(0, (.aload_n 0, 1)), (1, (.iload_n 1, 1)), (2, (.iload_n 2, 1)), (3, (.iload_n 3, 1)), (4, (.invokevirtual 211, 3)), (7, (.ifCond .ne 9, 3)), (10, (.aload_n 0, 1)), (11, (.iconst 2, 1)), (12, (.invokevirtual 76, 3)), (15, (.ireturn, 1)), (16, (.aload_n 0, 1)), (17, (.getfield 23, 3)), (20, (.aload_n 0, 1)), (21, (.getfield 51, 3)), (24, (.iload_n 1, 1)), (25, (.iload_n 2, 1)), (26, (.iload_n 3, 1)), (27, (.invokevirtual 207, 3)), (30, (.istore 4, 2)), (32, (.iload 4, 2)), (34, (.aload_n 0, 1)), (35, (.getfield 51, 3)), (38, (.getfield 190, 3)), (41, (.iload_n 1, 1)), (42, (.iaload, 1)), (43, (.if_icmp .le 9, 3)), (46, (.aload_n 0, 1)), (47, (.iconst 2, 1)), (48, (.invokevirtual 76, 3)), (51, (.ireturn, 1)), (52, (.aload_n 0, 1)), (53, (.getfield 44, 3)), (56, (.aload_n 0, 1)), (57, (.getfield 51, 3)), (60, (.invokevirtual 215, 3)), (63, (.aload_n 0, 1)), (64, (.getfield 51, 3)), (67, (.iload_n 1, 1)), (68, (.iload_n 2, 1)), (69, (.iload_n 3, 1))]
theorem tkX9_buy_0 : (tbX9_buy_0.all fun q => decide (decode cX9_buy q.1 = .ok q.2)) = true := by decide +kernel
def tbX9_buy_1 : List (Nat × (Instr × Nat)) := [(70, (.iload 4, 2)), (72, (.invokevirtual 218, 3)), (75, (.iload 4, 2)), (77, (.ireturn, 1))]
theorem tkX9_buy_1 : (tbX9_buy_1.all fun q => decide (decode cX9_buy q.1 = .ok q.2)) = true := by decide +kernel
def tbX9_buy : List (Nat × (Instr × Nat)) := tbX9_buy_0 ++ tbX9_buy_1
theorem tkX9_buy : (tbX9_buy.all fun q => decide (decode cX9_buy q.1 = .ok q.2)) = true := by
  unfold tbX9_buy
  simp only [List.all_append, Bool.and_eq_true]
  exact ⟨tkX9_buy_0, tkX9_buy_1⟩
def tbX9_back_0 : List (Nat × (Instr × Nat)) := [(0, (.aload_n 0, 1)), (1, (.iload_n 1, 1)), (2, (.invokevirtual 153, 3)), (5, (.ifCond .eq 23, 3)), (8, (.aload_n 0, 1)), (9, (.iload_n 2, 1)), (10, (.invokevirtual 142, 3)), (13, (.ifCond .eq 15, 3)), (16, (.aload_n 0, 1)), (17, (.getfield 51, 3)), (20, (.iload_n 1, 1)), (21, (.iload_n 2, 1)), (22, (.invokevirtual 200, 3)), (25, (.ifCond .ne 11, 3)), (28, (.aload_n 0, 1)), (29, (.iconst 2, 1)), (30, (.invokevirtual 76, 3)), (33, (.pop, 1)), (34, (.iconst 0, 1)), (35, (.ireturn, 1)), (36, (.aload_n 0, 1)), (37, (.getfield 44, 3)), (40, (.aload_n 0, 1)), (41, (.getfield 51, 3)), (44, (.invokevirtual 215, 3)), (47, (.aload_n 0, 1)), (48, (.getfield 51, 3)), (51, (.iload_n 1, 1)), (52, (.iload_n 2, 1)), (53, (.invokevirtual 222, 3)), (56, (.iconst 1, 1)), (57, (.ireturn, 1))]
theorem tkX9_back_0 : (tbX9_back_0.all fun q => decide (decode cX9_back q.1 = .ok q.2)) = true := by decide +kernel
def tbX9_back : List (Nat × (Instr × Nat)) := tbX9_back_0
theorem tkX9_back : (tbX9_back.all fun q => decide (decode cX9_back q.1 = .ok q.2)) = true := by
  unfold tbX9_back
  simp only [List.all_append, Bool.and_eq_true]
  exact tkX9_back_0
def tbX9_word_0 : List (Nat × (Instr × Nat)) := [(0, (.aload_n 0, 1)), (1, (.iload_n 1, 1)), (2, (.invokevirtual 153, 3)), (5, (.ifCond .eq 23, 3)), (8, (.aload_n 0, 1)), (9, (.iload_n 2, 1)), (10, (.invokevirtual 142, 3)), (13, (.ifCond .eq 15, 3)), (16, (.aload_n 0, 1)), (17, (.getfield 51, 3)), (20, (.iload_n 1, 1)), (21, (.iload_n 2, 1)), (22, (.invokevirtual 226, 3)), (25, (.ifCond .ne 9, 3)), (28, (.aload_n 0, 1)), (29, (.iconst 2, 1)), (30, (.invokevirtual 76, 3)), (33, (.ireturn, 1)), (34, (.aload_n 0, 1)), (35, (.getfield 44, 3)), (38, (.aload_n 0, 1)), (39, (.getfield 51, 3)), (42, (.invokevirtual 215, 3)), (45, (.aload_n 0, 1)), (46, (.getfield 23, 3)), (49, (.aload_n 0, 1)), (50, (.getfield 51, 3)), (53, (.iload_n 1, 1)), (54, (.iload_n 2, 1)), (55, (.invokevirtual 229, 3)), (58, (.ireturn, 1))]
theorem tkX9_word_0 : (tbX9_word_0.all fun q => decide (decode cX9_word q.1 = .ok q.2)) = true := by decide +kernel
def tbX9_word : List (Nat × (Instr × Nat)) := tbX9_word_0
theorem tkX9_word : (tbX9_word.all fun q => decide (decode cX9_word q.1 = .ok q.2)) = true := by
  unfold tbX9_word
  simp only [List.all_append, Bool.and_eq_true]
  exact tkX9_word_0
def tbX9_days_0 : List (Nat × (Instr × Nat)) := [(0, (.aload_n 0, 1)), (1, (.iload_n 1, 1)), (2, (.invokevirtual 233, 3)), (5, (.ifCond .ne 9, 3)), (8, (.aload_n 0, 1)), (9, (.iconst 3, 1)), (10, (.invokevirtual 76, 3)), (13, (.ireturn, 1)), (14, (.aload_n 0, 1)), (15, (.getfield 44, 3)), (18, (.aload_n 0, 1)), (19, (.getfield 51, 3)), (22, (.invokevirtual 215, 3)), (25, (.aload_n 0, 1)), (26, (.getfield 51, 3)), (29, (.invokevirtual 236, 3)), (32, (.iconst 0, 1)), (33, (.istore_n 2, 1)), (34, (.iload_n 2, 1)), (35, (.iload_n 1, 1)), (36, (.if_icmp .ge 20, 3)), (39, (.aload_n 0, 1)), (40, (.getfield 23, 3)), (43, (.aload_n 0, 1)), (44, (.getfield 51, 3)), (47, (.invokevirtual 239, 3)), (50, (.iinc 2 1, 3)), (53, (.goto (-19), 3)), (56, (.aload_n 0, 1)), (57, (.getfield 51, 3)), (60, (.getfield 242, 3)), (63, (.ireturn, 1))]
theorem tkX9_days_0 : (tbX9_days_0.all fun q => decide (decode cX9_days q.1 = .ok q.2)) = true := by decide +kernel
def tbX9_days : List (Nat × (Instr × Nat)) := tbX9_days_0
theorem tkX9_days : (tbX9_days.all fun q => decide (decode cX9_days q.1 = .ok q.2)) = true := by
  unfold tbX9_days
  simp only [List.all_append, Bool.and_eq_true]
  exact tkX9_days_0
def tbX9_rumours_0 : List (Nat × (Instr × Nat)) := [(0, (.aload_n 0, 1)), (1, (.iload_n 1, 1)), (2, (.invokevirtual 233, 3)), (5, (.ifCond .ne 9, 3)), (8, (.aload_n 0, 1)), (9, (.iconst 3, 1)), (10, (.invokevirtual 76, 3)), (13, (.ireturn, 1)), (14, (.aload_n 0, 1)), (15, (.getfield 44, 3)), (18, (.aload_n 0, 1)), (19, (.getfield 51, 3)), (22, (.invokevirtual 215, 3)), (25, (.aload_n 0, 1)), (26, (.getfield 51, 3)), (29, (.invokevirtual 236, 3)), (32, (.iconst 0, 1)), (33, (.istore_n 2, 1)), (34, (.iload_n 2, 1)), (35, (.iload_n 1, 1)), (36, (.if_icmp .ge 24, 3)), (39, (.aload_n 0, 1)), (40, (.getfield 23, 3)), (43, (.aload_n 0, 1)), (44, (.getfield 51, 3)), (47, (.invokevirtual 239, 3)), (50, (.aload_n 0, 1)), (51, (.invokevirtual 245, 3)), (54, (.iinc 2 1, 3)), (57, (.goto (-23), 3)), (60, (.aload_n 0, 1)), (61, (.getfield 51, 3)), (64, (.getfield 242, 3)), (67, (.ireturn, 1))]
theorem tkX9_rumours_0 : (tbX9_rumours_0.all fun q => decide (decode cX9_rumours q.1 = .ok q.2)) = true := by decide +kernel
def tbX9_rumours : List (Nat × (Instr × Nat)) := tbX9_rumours_0
theorem tkX9_rumours : (tbX9_rumours.all fun q => decide (decode cX9_rumours q.1 = .ok q.2)) = true := by
  unfold tbX9_rumours
  simp only [List.all_append, Bool.and_eq_true]
  exact tkX9_rumours_0
def tbX9_undo_0 : List (Nat × (Instr × Nat)) := [(0, (.aload_n 0, 1)), (1, (.getfield 44, 3)), (4, (.getfield 139, 3)), (7, (.ifCond .ne 11, 3)), (10, (.aload_n 0, 1)), (11, (.iconst 4, 1)), (12, (.invokevirtual 76, 3)), (15, (.pop, 1)), (16, (.iconst 0, 1)), (17, (.ireturn, 1)), (18, (.aload_n 0, 1)), (19, (.getfield 44, 3)), (22, (.aload_n 0, 1)), (23, (.getfield 51, 3)), (26, (.invokevirtual 248, 3)), (29, (.iconst 1, 1)), (30, (.ireturn, 1))]
theorem tkX9_undo_0 : (tbX9_undo_0.all fun q => decide (decode cX9_undo q.1 = .ok q.2)) = true := by decide +kernel
def tbX9_undo : List (Nat × (Instr × Nat)) := tbX9_undo_0
theorem tkX9_undo : (tbX9_undo.all fun q => decide (decode cX9_undo q.1 = .ok q.2)) = true := by
  unfold tbX9_undo
  simp only [List.all_append, Bool.and_eq_true]
  exact tkX9_undo_0
def tbX9_seed_0 : List (Nat × (Instr × Nat)) := [(0, (.iload_n 1, 1)), (1, (.ifCond .ge 11, 3)), (4, (.aload_n 0, 1)), (5, (.iconst 5, 1)), (6, (.invokevirtual 76, 3)), (9, (.pop, 1)), (10, (.iconst 0, 1)), (11, (.ireturn, 1)), (12, (.aload_n 0, 1)), (13, (.iload_n 1, 1)), (14, (.putfield 73, 3)), (17, (.iconst 1, 1)), (18, (.ireturn, 1))]
theorem tkX9_seed_0 : (tbX9_seed_0.all fun q => decide (decode cX9_seed q.1 = .ok q.2)) = true := by decide +kernel
def tbX9_seed : List (Nat × (Instr × Nat)) := tbX9_seed_0
theorem tkX9_seed : (tbX9_seed.all fun q => decide (decode cX9_seed q.1 = .ok q.2)) = true := by
  unfold tbX9_seed
  simp only [List.all_append, Bool.and_eq_true]
  exact tkX9_seed_0
def tbX9_kept_0 : List (Nat × (Instr × Nat)) := [(0, (.iload_n 1, 1)), (1, (.ifCond .lt 14, 3)), (4, (.iload_n 1, 1)), (5, (.aload_n 0, 1)), (6, (.getfield 51, 3)), (9, (.getfield 136, 3)), (12, (.if_icmp .lt 5, 3)), (15, (.iconst (-1), 1)), (16, (.ireturn, 1)), (17, (.aload_n 0, 1)), (18, (.getfield 51, 3)), (21, (.getfield 251, 3)), (24, (.iload_n 1, 1)), (25, (.iaload, 1)), (26, (.iload_n 2, 1)), (27, (.invokestatic 254, 3)), (30, (.ireturn, 1))]
theorem tkX9_kept_0 : (tbX9_kept_0.all fun q => decide (decode cX9_kept q.1 = .ok q.2)) = true := by decide +kernel
def tbX9_kept : List (Nat × (Instr × Nat)) := tbX9_kept_0
theorem tkX9_kept : (tbX9_kept.all fun q => decide (decode cX9_kept q.1 = .ok q.2)) = true := by
  unfold tbX9_kept
  simp only [List.all_append, Bool.and_eq_true]
  exact tkX9_kept_0
def tbX9_when_0 : List (Nat × (Instr × Nat)) := [(0, (.aload_n 0, 1)), (1, (.iload_n 1, 1)), (2, (.invokevirtual 153, 3)), (5, (.ifCond .eq 11, 3)), (8, (.aload_n 0, 1)), (9, (.iload_n 2, 1)), (10, (.invokevirtual 142, 3)), (13, (.ifCond .ne 5, 3)), (16, (.iconst (-1), 1)), (17, (.ireturn, 1)), (18, (.aload_n 0, 1)), (19, (.invokevirtual 257, 3)), (22, (.iconst 0, 1)), (23, (.istore_n 3, 1)), (24, (.iload_n 3, 1)), (25, (.bipush 40, 2)), (27, (.if_icmp .ge 53, 3)), (30, (.aload_n 0, 1)), (31, (.getfield 55, 3)), (34, (.getfield 124, 3)), (37, (.sipush 999, 3)), (40, (.if_icmp .ge 40, 3)), (43, (.aload_n 0, 1)), (44, (.getfield 55, 3)), (47, (.iload_n 1, 1)), (48, (.iload_n 2, 1)), (49, (.invokevirtual 260, 3)), (52, (.ifCond .eq 11, 3)), (55, (.aload_n 0, 1)), (56, (.getfield 55, 3)), (59, (.getfield 124, 3)), (62, (.ireturn, 1)), (63, (.aload_n 0, 1)), (64, (.getfield 23, 3)), (67, (.aload_n 0, 1)), (68, (.getfield 55, 3)), (71, (.invokevirtual 239, 3)), (74, (.iinc 3 1, 3)), (77, (.goto (-53), 3)), (80, (.aload_n 0, 1))]
theorem tkX9_when_0 : (tbX9_when_0.all fun q => decide (decode cX9_when q.1 = .ok q.2)) = true := by decide +kernel
def tbX9_when_1 : List (Nat × (Instr × Nat)) := [(81, (.getfield 55, 3)), (84, (.iload_n 1, 1)), (85, (.iload_n 2, 1)), (86, (.invokevirtual 260, 3)), (89, (.ifCond .eq 13, 3)), (92, (.aload_n 0, 1)), (93, (.getfield 55, 3)), (96, (.getfield 124, 3)), (99, (.goto 4, 3)), (102, (.iconst (-1), 1)), (103, (.ireturn, 1))]
theorem tkX9_when_1 : (tbX9_when_1.all fun q => decide (decode cX9_when q.1 = .ok q.2)) = true := by decide +kernel
def tbX9_when : List (Nat × (Instr × Nat)) := tbX9_when_0 ++ tbX9_when_1
theorem tkX9_when : (tbX9_when.all fun q => decide (decode cX9_when q.1 = .ok q.2)) = true := by
  unfold tbX9_when
  simp only [List.all_append, Bool.and_eq_true]
  exact ⟨tkX9_when_0, tkX9_when_1⟩
def tbX9_breach_0 : List (Nat × (Instr × Nat)) := [(0, (.aload_n 0, 1)), (1, (.invokevirtual 257, 3)), (4, (.iconst 0, 1)), (5, (.istore_n 2, 1)), (6, (.iload_n 2, 1)), (7, (.bipush 40, 2)), (9, (.if_icmp .ge 43, 3)), (12, (.aload_n 0, 1)), (13, (.getfield 55, 3)), (16, (.getfield 124, 3)), (19, (.sipush 999, 3)), (22, (.if_icmp .ge 30, 3)), (25, (.aload_n 0, 1)), (26, (.getfield 55, 3)), (29, (.getfield 242, 3)), (32, (.ifCond .ne 20, 3)), (35, (.aload_n 0, 1)), (36, (.getfield 23, 3)), (39, (.aload_n 0, 1)), (40, (.getfield 55, 3)), (43, (.invokevirtual 239, 3)), (46, (.iinc 2 1, 3)), (49, (.goto (-43), 3)), (52, (.aload_n 0, 1)), (53, (.getfield 55, 3)), (56, (.getfield 242, 3)), (59, (.ifCond .ne 7, 3)), (62, (.iconst (-1), 1)), (63, (.goto 14, 3)), (66, (.aload_n 0, 1)), (67, (.getfield 55, 3)), (70, (.getfield 263, 3)), (73, (.iload_n 1, 1)), (74, (.invokestatic 254, 3)), (77, (.ireturn, 1))]
theorem tkX9_breach_0 : (tbX9_breach_0.all fun q => decide (decode cX9_breach q.1 = .ok q.2)) = true := by decide +kernel
def tbX9_breach : List (Nat × (Instr × Nat)) := tbX9_breach_0
theorem tkX9_breach : (tbX9_breach.all fun q => decide (decode cX9_breach q.1 = .ok q.2)) = true := by
  unfold tbX9_breach
  simp only [List.all_append, Bool.and_eq_true]
  exact tkX9_breach_0
def tbX9_bliss_0 : List (Nat × (Instr × Nat)) := [(0, (.aload_n 0, 1)), (1, (.iload_n 1, 1)), (2, (.invokevirtual 153, 3)), (5, (.ifCond .eq 11, 3)), (8, (.aload_n 0, 1)), (9, (.iload_n 2, 1)), (10, (.invokevirtual 266, 3)), (13, (.ifCond .ne 5, 3)), (16, (.iconst (-1), 1)), (17, (.ireturn, 1)), (18, (.aload_n 0, 1)), (19, (.iload_n 2, 1)), (20, (.invokevirtual 269, 3)), (23, (.aload_n 0, 1)), (24, (.getfield 23, 3)), (27, (.aload_n 0, 1)), (28, (.getfield 55, 3)), (31, (.iload_n 1, 1)), (32, (.invokevirtual 193, 3)), (35, (.ireturn, 1))]
theorem tkX9_bliss_0 : (tbX9_bliss_0.all fun q => decide (decode cX9_bliss q.1 = .ok q.2)) = true := by decide +kernel
def tbX9_bliss : List (Nat × (Instr × Nat)) := tbX9_bliss_0
theorem tkX9_bliss : (tbX9_bliss.all fun q => decide (decode cX9_bliss q.1 = .ok q.2)) = true := by
  unfold tbX9_bliss
  simp only [List.all_append, Bool.and_eq_true]
  exact tkX9_bliss_0
def tbX9_surprise_0 : List (Nat × (Instr × Nat)) := [(0, (.iload_n 1, 1)), (1, (.ifCond .lt 35, 3)), (4, (.iload_n 1, 1)), (5, (.iconst 1, 1)), (6, (.aload_n 0, 1)), (7, (.getfield 23, 3)), (10, (.getfield 88, 3)), (13, (.getfield 110, 3)), (16, (.ishl, 1)), (17, (.if_icmp .ge 19, 3)), (20, (.aload_n 0, 1)), (21, (.iload_n 2, 1)), (22, (.invokevirtual 142, 3)), (25, (.ifCond .eq 11, 3)), (28, (.aload_n 0, 1)), (29, (.iload_n 3, 1)), (30, (.invokevirtual 266, 3)), (33, (.ifCond .ne 5, 3)), (36, (.iconst (-1), 1)), (37, (.ireturn, 1)), (38, (.aload_n 0, 1)), (39, (.iload_n 3, 1)), (40, (.invokevirtual 269, 3)), (43, (.iconst 0, 1)), (44, (.istore 4, 2)), (46, (.iload 4, 2)), (48, (.aload_n 0, 1)), (49, (.getfield 23, 3)), (52, (.getfield 88, 3)), (55, (.getfield 110, 3)), (58, (.if_icmp .ge 34, 3)), (61, (.iload_n 1, 1)), (62, (.iload 4, 2)), (64, (.ishr, 1)), (65, (.iconst 1, 1)), (66, (.iand, 1)), (67, (.iconst 1, 1)), (68, (.if_icmp .ne 18, 3)), (71, (.aload_n 0, 1)), (72, (.getfield 55, 3))]
theorem tkX9_surprise_0 : (tbX9_surprise_0.all fun q => decide (decode cX9_surprise q.1 = .ok q.2)) = true := by decide +kernel
def tbX9_surprise_1 : List (Nat × (Instr × Nat)) := [(75, (.iload 4, 2)), (77, (.iload_n 2, 1)), (78, (.invokevirtual 260, 3)), (81, (.ifCond .eq 5, 3)), (84, (.iconst 0, 1)), (85, (.ireturn, 1)), (86, (.iinc 4 1, 3)), (89, (.goto (-43), 3)), (92, (.iconst 1, 1)), (93, (.ireturn, 1))]
theorem tkX9_surprise_1 : (tbX9_surprise_1.all fun q => decide (decode cX9_surprise q.1 = .ok q.2)) = true := by decide +kernel
def tbX9_surprise : List (Nat × (Instr × Nat)) := tbX9_surprise_0 ++ tbX9_surprise_1
theorem tkX9_surprise : (tbX9_surprise.all fun q => decide (decode cX9_surprise q.1 = .ok q.2)) = true := by
  unfold tbX9_surprise
  simp only [List.all_append, Bool.and_eq_true]
  exact ⟨tkX9_surprise_0, tkX9_surprise_1⟩
def tbX9_follows_0 : List (Nat × (Instr × Nat)) := [(0, (.aload_n 0, 1)), (1, (.iload_n 1, 1)), (2, (.invokevirtual 272, 3)), (5, (.ifCond .eq 17, 3)), (8, (.aload_n 0, 1)), (9, (.getfield 23, 3)), (12, (.getfield 88, 3)), (15, (.iload_n 1, 1)), (16, (.invokevirtual 275, 3)), (19, (.goto 4, 3)), (22, (.iconst (-1), 1)), (23, (.ireturn, 1))]
theorem tkX9_follows_0 : (tbX9_follows_0.all fun q => decide (decode cX9_follows q.1 = .ok q.2)) = true := by decide +kernel
def tbX9_follows : List (Nat × (Instr × Nat)) := tbX9_follows_0
theorem tkX9_follows : (tbX9_follows.all fun q => decide (decode cX9_follows q.1 = .ok q.2)) = true := by
  unfold tbX9_follows
  simp only [List.all_append, Bool.and_eq_true]
  exact tkX9_follows_0
def tbX9_by_0 : List (Nat × (Instr × Nat)) := [(0, (.aload_n 0, 1)), (1, (.iload_n 1, 1)), (2, (.invokevirtual 272, 3)), (5, (.ifCond .eq 16, 3)), (8, (.aload_n 0, 1)), (9, (.iload_n 2, 1)), (10, (.invokevirtual 142, 3)), (13, (.ifCond .eq 8, 3)), (16, (.iload_n 3, 1)), (17, (.iconst (-1), 1)), (18, (.if_icmp .ge 5, 3)), (21, (.iconst (-1), 1)), (22, (.ireturn, 1)), (23, (.aload_n 0, 1)), (24, (.getfield 30, 3)), (27, (.aload_n 0, 1)), (28, (.getfield 23, 3)), (31, (.getfield 88, 3)), (34, (.iload_n 1, 1)), (35, (.iload_n 2, 1)), (36, (.invokevirtual 278, 3)), (39, (.istore 4, 2)), (41, (.iload_n 3, 1)), (42, (.iconst (-1), 1)), (43, (.if_icmp .eq 9, 3)), (46, (.iload 4, 2)), (48, (.iconst (-1), 1)), (49, (.if_icmp .ne 6, 3)), (52, (.iload 4, 2)), (54, (.ireturn, 1)), (55, (.iload_n 3, 1)), (56, (.iload 4, 2)), (58, (.if_icmp .ge 15, 3)), (61, (.aload_n 0, 1)), (62, (.getfield 30, 3)), (65, (.getfield 282, 3)), (68, (.iload_n 3, 1)), (69, (.iaload, 1)), (70, (.goto 4, 3)), (73, (.iconst (-1), 1))]
theorem tkX9_by_0 : (tbX9_by_0.all fun q => decide (decode cX9_by q.1 = .ok q.2)) = true := by decide +kernel
def tbX9_by_1 : List (Nat × (Instr × Nat)) := [(74, (.ireturn, 1))]
theorem tkX9_by_1 : (tbX9_by_1.all fun q => decide (decode cX9_by q.1 = .ok q.2)) = true := by decide +kernel
def tbX9_by : List (Nat × (Instr × Nat)) := tbX9_by_0 ++ tbX9_by_1
theorem tkX9_by : (tbX9_by.all fun q => decide (decode cX9_by q.1 = .ok q.2)) = true := by
  unfold tbX9_by
  simp only [List.all_append, Bool.and_eq_true]
  exact ⟨tkX9_by_0, tkX9_by_1⟩
def tbX9_barred_0 : List (Nat × (Instr × Nat)) := [(0, (.aload_n 0, 1)), (1, (.iload_n 1, 1)), (2, (.invokevirtual 272, 3)), (5, (.ifCond .eq 20, 3)), (8, (.aload_n 0, 1)), (9, (.iload_n 2, 1)), (10, (.invokevirtual 142, 3)), (13, (.ifCond .eq 12, 3)), (16, (.iload_n 3, 1)), (17, (.ifCond .lt 8, 3)), (20, (.iload_n 3, 1)), (21, (.iconst 1, 1)), (22, (.if_icmp .le 5, 3)), (25, (.iconst (-1), 1)), (26, (.ireturn, 1)), (27, (.aload_n 0, 1)), (28, (.getfield 30, 3)), (31, (.getfield 285, 3)), (34, (.iconst 1, 1)), (35, (.invokestatic 288, 3)), (38, (.aload_n 0, 1)), (39, (.getfield 30, 3)), (42, (.aload_n 0, 1)), (43, (.getfield 23, 3)), (46, (.getfield 88, 3)), (49, (.iload_n 1, 1)), (50, (.iload_n 2, 1)), (51, (.invokevirtual 294, 3)), (54, (.istore 4, 2)), (56, (.iload_n 3, 1)), (57, (.ifCond .ne 11, 3)), (60, (.iload 4, 2)), (62, (.invokestatic 297, 3)), (65, (.goto 5, 3)), (68, (.iload 4, 2)), (70, (.ireturn, 1))]
theorem tkX9_barred_0 : (tbX9_barred_0.all fun q => decide (decode cX9_barred q.1 = .ok q.2)) = true := by decide +kernel
def tbX9_barred : List (Nat × (Instr × Nat)) := tbX9_barred_0
theorem tkX9_barred : (tbX9_barred.all fun q => decide (decode cX9_barred q.1 = .ok q.2)) = true := by
  unfold tbX9_barred
  simp only [List.all_append, Bool.and_eq_true]
  exact tkX9_barred_0
def tbX9_cheapest_0 : List (Nat × (Instr × Nat)) := [(0, (.aload_n 0, 1)), (1, (.iload_n 1, 1)), (2, (.invokevirtual 153, 3)), (5, (.ifCond .eq 22, 3)), (8, (.aload_n 0, 1)), (9, (.iload_n 2, 1)), (10, (.invokevirtual 142, 3)), (13, (.ifCond .eq 14, 3)), (16, (.iload_n 3, 1)), (17, (.ifCond .lt 10, 3)), (20, (.iload_n 3, 1)), (21, (.sipush 999, 3)), (24, (.if_icmp .le 5, 3)), (27, (.iconst (-1), 1)), (28, (.ireturn, 1)), (29, (.iload 4, 2)), (31, (.ifCond .lt 9, 3)), (34, (.iload 4, 2)), (36, (.iconst 1, 1)), (37, (.if_icmp .le 5, 3)), (40, (.iconst (-1), 1)), (41, (.ireturn, 1)), (42, (.aload_n 0, 1)), (43, (.getfield 30, 3)), (46, (.aload_n 0, 1)), (47, (.getfield 23, 3)), (50, (.aload_n 0, 1)), (51, (.getfield 51, 3)), (54, (.iload_n 1, 1)), (55, (.invokevirtual 302, 3)), (58, (.aload_n 0, 1)), (59, (.getfield 30, 3)), (62, (.aload_n 0, 1)), (63, (.getfield 23, 3)), (66, (.getfield 88, 3)), (69, (.aload_n 0, 1)), (70, (.getfield 23, 3)), (73, (.getfield 88, 3)), (76, (.iload_n 3, 1)), (77, (.invokevirtual 127, 3))]
theorem tkX9_cheapest_0 : (tbX9_cheapest_0.all fun q => decide (decode cX9_cheapest q.1 = .ok q.2)) = true := by decide +kernel
def tbX9_cheapest_1 : List (Nat × (Instr × Nat)) := [(80, (.iload_n 2, 1)), (81, (.invokevirtual 294, 3)), (84, (.istore 5, 2)), (86, (.iload 4, 2)), (88, (.ifCond .ne 15, 3)), (91, (.aload_n 0, 1)), (92, (.getfield 30, 3)), (95, (.iload 5, 2)), (97, (.invokevirtual 306, 3)), (100, (.goto 5, 3)), (103, (.iload 5, 2)), (105, (.ireturn, 1))]
theorem tkX9_cheapest_1 : (tbX9_cheapest_1.all fun q => decide (decode cX9_cheapest q.1 = .ok q.2)) = true := by decide +kernel
def tbX9_cheapest : List (Nat × (Instr × Nat)) := tbX9_cheapest_0 ++ tbX9_cheapest_1
theorem tkX9_cheapest : (tbX9_cheapest.all fun q => decide (decode cX9_cheapest q.1 = .ok q.2)) = true := by
  unfold tbX9_cheapest
  simp only [List.all_append, Bool.and_eq_true]
  exact ⟨tkX9_cheapest_0, tkX9_cheapest_1⟩
def tbX9_seeded_0 : List (Nat × (Instr × Nat)) := [(0, (.aload_n 0, 1)), (1, (.iload_n 1, 1)), (2, (.invokevirtual 266, 3)), (5, (.ifCond .eq 8, 3)), (8, (.iload_n 2, 1)), (9, (.iconst (-1), 1)), (10, (.if_icmp .ge 5, 3)), (13, (.iconst (-1), 1)), (14, (.ireturn, 1)), (15, (.aload_n 0, 1)), (16, (.getfield 30, 3)), (19, (.aload_n 0, 1)), (20, (.getfield 23, 3)), (23, (.getfield 88, 3)), (26, (.aload_n 0, 1)), (27, (.getfield 51, 3)), (30, (.getfield 124, 3)), (33, (.iload_n 1, 1)), (34, (.invokevirtual 309, 3)), (37, (.istore_n 3, 1)), (38, (.iload_n 3, 1)), (39, (.iconst (-1), 1)), (40, (.if_icmp .ne 5, 3)), (43, (.iconst (-1), 1)), (44, (.ireturn, 1)), (45, (.iload_n 2, 1)), (46, (.iconst (-1), 1)), (47, (.if_icmp .ne 10, 3)), (50, (.iload_n 3, 1)), (51, (.invokestatic 297, 3)), (54, (.goto 12, 3)), (57, (.aload_n 0, 1)), (58, (.getfield 30, 3)), (61, (.iload_n 3, 1)), (62, (.iload_n 2, 1)), (63, (.invokevirtual 312, 3)), (66, (.ireturn, 1))]
theorem tkX9_seeded_0 : (tbX9_seeded_0.all fun q => decide (decode cX9_seeded q.1 = .ok q.2)) = true := by decide +kernel
def tbX9_seeded : List (Nat × (Instr × Nat)) := tbX9_seeded_0
theorem tkX9_seeded : (tbX9_seeded.all fun q => decide (decode cX9_seeded q.1 = .ok q.2)) = true := by
  unfold tbX9_seeded
  simp only [List.all_append, Bool.and_eq_true]
  exact tkX9_seeded_0
def tbX9_face_0 : List (Nat × (Instr × Nat)) := [(0, (.iload_n 1, 1)), (1, (.ifCond .lt 12, 3)), (4, (.iload_n 2, 1)), (5, (.ifCond .lt 8, 3)), (8, (.iload_n 2, 1)), (9, (.iconst 2, 1)), (10, (.if_icmp .le 5, 3)), (13, (.iconst (-1), 1)), (14, (.ireturn, 1)), (15, (.aload_n 0, 1)), (16, (.getfield 30, 3)), (19, (.aload_n 0, 1)), (20, (.getfield 23, 3)), (23, (.getfield 88, 3)), (26, (.aload_n 0, 1)), (27, (.getfield 51, 3)), (30, (.getfield 124, 3)), (33, (.iload_n 1, 1)), (34, (.invokevirtual 315, 3)), (37, (.iload_n 2, 1)), (38, (.ifCond .ne 11, 3)), (41, (.aload_n 0, 1)), (42, (.getfield 30, 3)), (45, (.getfield 319, 3)), (48, (.ireturn, 1)), (49, (.iload_n 2, 1)), (50, (.iconst 1, 1)), (51, (.if_icmp .ne 13, 3)), (54, (.aload_n 0, 1)), (55, (.getfield 30, 3)), (58, (.getfield 322, 3)), (61, (.goto 10, 3)), (64, (.aload_n 0, 1)), (65, (.getfield 30, 3)), (68, (.getfield 325, 3)), (71, (.ireturn, 1))]
theorem tkX9_face_0 : (tbX9_face_0.all fun q => decide (decode cX9_face q.1 = .ok q.2)) = true := by decide +kernel
def tbX9_face : List (Nat × (Instr × Nat)) := tbX9_face_0
theorem tkX9_face : (tbX9_face.all fun q => decide (decode cX9_face q.1 = .ok q.2)) = true := by
  unfold tbX9_face
  simp only [List.all_append, Bool.and_eq_true]
  exact tkX9_face_0
def tbX9_rest_0 : List (Nat × (Instr × Nat)) := [(0, (.iload_n 1, 1)), (1, (.ifCond .lt 8, 3)), (4, (.iload_n 1, 1)), (5, (.iconst 3, 1)), (6, (.if_icmp .le 5, 3)), (9, (.iconst (-1), 1)), (10, (.ireturn, 1)), (11, (.aload_n 0, 1)), (12, (.invokevirtual 257, 3)), (15, (.aload_n 0, 1)), (16, (.getfield 30, 3)), (19, (.aload_n 0, 1)), (20, (.getfield 23, 3)), (23, (.aload_n 0, 1)), (24, (.getfield 55, 3)), (27, (.invokevirtual 328, 3)), (30, (.iload_n 1, 1)), (31, (.tableswitch 49 0 2 #[25, 33, 41], 25)), (56, (.aload_n 0, 1)), (57, (.getfield 30, 3)), (60, (.getfield 332, 3)), (63, (.ireturn, 1)), (64, (.aload_n 0, 1)), (65, (.getfield 30, 3)), (68, (.getfield 335, 3)), (71, (.ireturn, 1)), (72, (.aload_n 0, 1)), (73, (.getfield 30, 3)), (76, (.getfield 338, 3)), (79, (.ireturn, 1)), (80, (.aload_n 0, 1)), (81, (.getfield 23, 3)), (84, (.aload_n 0, 1)), (85, (.getfield 55, 3)), (88, (.invokevirtual 120, 3)), (91, (.ireturn, 1))]
theorem tkX9_rest_0 : (tbX9_rest_0.all fun q => decide (decode cX9_rest q.1 = .ok q.2)) = true := by decide +kernel
def tbX9_rest : List (Nat × (Instr × Nat)) := tbX9_rest_0
theorem tkX9_rest : (tbX9_rest.all fun q => decide (decode cX9_rest q.1 = .ok q.2)) = true := by
  unfold tbX9_rest
  simp only [List.all_append, Bool.and_eq_true]
  exact tkX9_rest_0
def tbX9_image_0 : List (Nat × (Instr × Nat)) := [(0, (.aload_n 0, 1)), (1, (.getfield 37, 3)), (4, (.aload_n 0, 1)), (5, (.getfield 23, 3)), (8, (.getfield 88, 3)), (11, (.aload_n 0, 1)), (12, (.getfield 51, 3)), (15, (.invokevirtual 341, 3)), (18, (.aload_n 0, 1)), (19, (.getfield 37, 3)), (22, (.getfield 345, 3)), (25, (.ireturn, 1))]
theorem tkX9_image_0 : (tbX9_image_0.all fun q => decide (decode cX9_image q.1 = .ok q.2)) = true := by decide +kernel
def tbX9_image : List (Nat × (Instr × Nat)) := tbX9_image_0
theorem tkX9_image : (tbX9_image.all fun q => decide (decode cX9_image q.1 = .ok q.2)) = true := by
  unfold tbX9_image
  simp only [List.all_append, Bool.and_eq_true]
  exact tkX9_image_0
def tbX9_octet_0 : List (Nat × (Instr × Nat)) := [(0, (.iload_n 1, 1)), (1, (.ifCond .lt 14, 3)), (4, (.iload_n 1, 1)), (5, (.aload_n 0, 1)), (6, (.getfield 37, 3)), (9, (.getfield 345, 3)), (12, (.if_icmp .lt 7, 3)), (15, (.iconst (-1), 1)), (16, (.goto 16, 3)), (19, (.aload_n 0, 1)), (20, (.getfield 37, 3)), (23, (.getfield 346, 3)), (26, (.iload_n 1, 1)), (27, (.baload, 1)), (28, (.sipush 255, 3)), (31, (.iand, 1)), (32, (.ireturn, 1))]
theorem tkX9_octet_0 : (tbX9_octet_0.all fun q => decide (decode cX9_octet q.1 = .ok q.2)) = true := by decide +kernel
def tbX9_octet : List (Nat × (Instr × Nat)) := tbX9_octet_0
theorem tkX9_octet : (tbX9_octet.all fun q => decide (decode cX9_octet q.1 = .ok q.2)) = true := by
  unfold tbX9_octet
  simp only [List.all_append, Bool.and_eq_true]
  exact tkX9_octet_0
def tbX9_on_0 : List (Nat × (Instr × Nat)) := [(0, (.aload_n 0, 1)), (1, (.getfield 69, 3)), (4, (.istore_n 1, 1)), (5, (.aload_n 0, 1)), (6, (.iconst 0, 1)), (7, (.putfield 69, 3)), (10, (.aload_n 0, 1)), (11, (.getfield 55, 3)), (14, (.invokevirtual 349, 3)), (17, (.aload_n 0, 1)), (18, (.getfield 9, 3)), (21, (.iload_n 1, 1)), (22, (.aload_n 0, 1)), (23, (.getfield 23, 3)), (26, (.getfield 88, 3)), (29, (.aload_n 0, 1)), (30, (.getfield 55, 3)), (33, (.invokestatic 352, 3)), (36, (.ifCond .ne 11, 3)), (39, (.aload_n 0, 1)), (40, (.iconst 5, 1)), (41, (.invokevirtual 76, 3)), (44, (.pop, 1)), (45, (.iconst 0, 1)), (46, (.ireturn, 1)), (47, (.aload_n 0, 1)), (48, (.getfield 51, 3)), (51, (.aload_n 0, 1)), (52, (.getfield 55, 3)), (55, (.invokevirtual 356, 3)), (58, (.aload_n 0, 1)), (59, (.getfield 44, 3)), (62, (.invokevirtual 91, 3)), (65, (.iconst 1, 1)), (66, (.ireturn, 1))]
theorem tkX9_on_0 : (tbX9_on_0.all fun q => decide (decode cX9_on q.1 = .ok q.2)) = true := by decide +kernel
def tbX9_on : List (Nat × (Instr × Nat)) := tbX9_on_0
theorem tkX9_on : (tbX9_on.all fun q => decide (decode cX9_on q.1 = .ok q.2)) = true := by
  unfold tbX9_on
  simp only [List.all_append, Bool.and_eq_true]
  exact tkX9_on_0
def tbX9_status_0 : List (Nat × (Instr × Nat)) := [(0, (.iload_n 1, 1)), (1, (.ifCond .lt 12, 3)), (4, (.iload_n 1, 1)), (5, (.aload_n 0, 1)), (6, (.getfield 58, 3)), (9, (.arraylength, 1)), (10, (.if_icmp .lt 7, 3)), (13, (.iconst (-1), 1)), (14, (.goto 9, 3)), (17, (.aload_n 0, 1)), (18, (.getfield 58, 3)), (21, (.iload_n 1, 1)), (22, (.iaload, 1)), (23, (.ireturn, 1))]
theorem tkX9_status_0 : (tbX9_status_0.all fun q => decide (decode cX9_status q.1 = .ok q.2)) = true := by decide +kernel
def tbX9_status : List (Nat × (Instr × Nat)) := tbX9_status_0
theorem tkX9_status : (tbX9_status.all fun q => decide (decode cX9_status q.1 = .ok q.2)) = true := by
  unfold tbX9_status
  simp only [List.all_append, Bool.and_eq_true]
  exact tkX9_status_0
def tbX9_refuse_0 : List (Nat × (Instr × Nat)) := [(0, (.aload_n 0, 1)), (1, (.getfield 58, 3)), (4, (.iload_n 1, 1)), (5, (.dup2, 1)), (6, (.iaload, 1)), (7, (.iconst 1, 1)), (8, (.iadd, 1)), (9, (.iastore, 1)), (10, (.iconst (-1), 1)), (11, (.ireturn, 1))]
theorem tkX9_refuse_0 : (tbX9_refuse_0.all fun q => decide (decode cX9_refuse q.1 = .ok q.2)) = true := by decide +kernel
def tbX9_refuse : List (Nat × (Instr × Nat)) := tbX9_refuse_0
theorem tkX9_refuse : (tbX9_refuse.all fun q => decide (decode cX9_refuse q.1 = .ok q.2)) = true := by
  unfold tbX9_refuse
  simp only [List.all_append, Bool.and_eq_true]
  exact tkX9_refuse_0
def tbX9_putNumber_0 : List (Nat × (Instr × Nat)) := [(0, (.bipush 24, 2)), (2, (.istore_n 2, 1)), (3, (.iload_n 2, 1)), (4, (.ifCond .lt 42, 3)), (7, (.aload_n 0, 1)), (8, (.getfield 69, 3)), (11, (.sipush 1600, 3)), (14, (.if_icmp .ge 26, 3)), (17, (.aload_n 0, 1)), (18, (.getfield 9, 3)), (21, (.aload_n 0, 1)), (22, (.getfield 69, 3)), (25, (.iload_n 1, 1)), (26, (.iload_n 2, 1)), (27, (.ishr, 1)), (28, (.i2b, 1)), (29, (.bastore, 1)), (30, (.aload_n 0, 1)), (31, (.dup, 1)), (32, (.getfield 69, 3)), (35, (.iconst 1, 1)), (36, (.iadd, 1)), (37, (.putfield 69, 3)), (40, (.iinc 2 (-8), 3)), (43, (.goto (-40), 3)), (46, (.return_, 1))]
theorem tkX9_putNumber_0 : (tbX9_putNumber_0.all fun q => decide (decode cX9_putNumber q.1 = .ok q.2)) = true := by decide +kernel
def tbX9_putNumber : List (Nat × (Instr × Nat)) := tbX9_putNumber_0
theorem tkX9_putNumber : (tbX9_putNumber.all fun q => decide (decode cX9_putNumber q.1 = .ok q.2)) = true := by
  unfold tbX9_putNumber
  simp only [List.all_append, Bool.and_eq_true]
  exact tkX9_putNumber_0
def tbX9_isFact_0 : List (Nat × (Instr × Nat)) := [(0, (.iload_n 1, 1)), (1, (.ifCond .lt 21, 3)), (4, (.iload_n 1, 1)), (5, (.aload_n 0, 1)), (6, (.getfield 23, 3)), (9, (.getfield 88, 3)), (12, (.getfield 104, 3)), (15, (.if_icmp .ge 7, 3)), (18, (.iconst 1, 1)), (19, (.goto 4, 3)), (22, (.iconst 0, 1)), (23, (.ireturn, 1))]
theorem tkX9_isFact_0 : (tbX9_isFact_0.all fun q => decide (decode cX9_isFact q.1 = .ok q.2)) = true := by decide +kernel
def tbX9_isFact : List (Nat × (Instr × Nat)) := tbX9_isFact_0
theorem tkX9_isFact : (tbX9_isFact.all fun q => decide (decode cX9_isFact q.1 = .ok q.2)) = true := by
  unfold tbX9_isFact
  simp only [List.all_append, Bool.and_eq_true]
  exact tkX9_isFact_0
def tbX9_areFacts_0 : List (Nat × (Instr × Nat)) := [(0, (.iload_n 1, 1)), (1, (.ifCond .lt 23, 3)), (4, (.iload_n 1, 1)), (5, (.iconst 1, 1)), (6, (.aload_n 0, 1)), (7, (.getfield 23, 3)), (10, (.getfield 88, 3)), (13, (.getfield 104, 3)), (16, (.ishl, 1)), (17, (.if_icmp .ge 7, 3)), (20, (.iconst 1, 1)), (21, (.goto 4, 3)), (24, (.iconst 0, 1)), (25, (.ireturn, 1))]
theorem tkX9_areFacts_0 : (tbX9_areFacts_0.all fun q => decide (decode cX9_areFacts q.1 = .ok q.2)) = true := by decide +kernel
def tbX9_areFacts : List (Nat × (Instr × Nat)) := tbX9_areFacts_0
theorem tkX9_areFacts : (tbX9_areFacts.all fun q => decide (decode cX9_areFacts q.1 = .ok q.2)) = true := by
  unfold tbX9_areFacts
  simp only [List.all_append, Bool.and_eq_true]
  exact tkX9_areFacts_0
def tbX9_isPerson_0 : List (Nat × (Instr × Nat)) := [(0, (.iload_n 1, 1)), (1, (.ifCond .lt 21, 3)), (4, (.iload_n 1, 1)), (5, (.aload_n 0, 1)), (6, (.getfield 23, 3)), (9, (.getfield 88, 3)), (12, (.getfield 110, 3)), (15, (.if_icmp .ge 7, 3)), (18, (.iconst 1, 1)), (19, (.goto 4, 3)), (22, (.iconst 0, 1)), (23, (.ireturn, 1))]
theorem tkX9_isPerson_0 : (tbX9_isPerson_0.all fun q => decide (decode cX9_isPerson q.1 = .ok q.2)) = true := by decide +kernel
def tbX9_isPerson : List (Nat × (Instr × Nat)) := tbX9_isPerson_0
theorem tkX9_isPerson : (tbX9_isPerson.all fun q => decide (decode cX9_isPerson q.1 = .ok q.2)) = true := by
  unfold tbX9_isPerson
  simp only [List.all_append, Bool.and_eq_true]
  exact tkX9_isPerson_0
def tbX9_isAhead_0 : List (Nat × (Instr × Nat)) := [(0, (.iload_n 1, 1)), (1, (.ifCond .lt 28, 3)), (4, (.iload_n 1, 1)), (5, (.bipush 40, 2)), (7, (.if_icmp .gt 22, 3)), (10, (.aload_n 0, 1)), (11, (.getfield 51, 3)), (14, (.getfield 124, 3)), (17, (.iload_n 1, 1)), (18, (.iadd, 1)), (19, (.sipush 999, 3)), (22, (.if_icmp .gt 7, 3)), (25, (.iconst 1, 1)), (26, (.goto 4, 3)), (29, (.iconst 0, 1)), (30, (.ireturn, 1))]
theorem tkX9_isAhead_0 : (tbX9_isAhead_0.all fun q => decide (decode cX9_isAhead q.1 = .ok q.2)) = true := by decide +kernel
def tbX9_isAhead : List (Nat × (Instr × Nat)) := tbX9_isAhead_0
theorem tkX9_isAhead : (tbX9_isAhead.all fun q => decide (decode cX9_isAhead q.1 = .ok q.2)) = true := by
  unfold tbX9_isAhead
  simp only [List.all_append, Bool.and_eq_true]
  exact tkX9_isAhead_0
def tbX9_canGoBy_0 : List (Nat × (Instr × Nat)) := [(0, (.iload_n 1, 1)), (1, (.iconst 1, 1)), (2, (.if_icmp .lt 28, 3)), (5, (.iload_n 1, 1)), (6, (.bipush 30, 2)), (8, (.if_icmp .gt 22, 3)), (11, (.aload_n 0, 1)), (12, (.getfield 51, 3)), (15, (.getfield 124, 3)), (18, (.iload_n 1, 1)), (19, (.iadd, 1)), (20, (.sipush 999, 3)), (23, (.if_icmp .gt 7, 3)), (26, (.iconst 1, 1)), (27, (.goto 4, 3)), (30, (.iconst 0, 1)), (31, (.ireturn, 1))]
theorem tkX9_canGoBy_0 : (tbX9_canGoBy_0.all fun q => decide (decode cX9_canGoBy q.1 = .ok q.2)) = true := by decide +kernel
def tbX9_canGoBy : List (Nat × (Instr × Nat)) := tbX9_canGoBy_0
theorem tkX9_canGoBy : (tbX9_canGoBy.all fun q => decide (decode cX9_canGoBy q.1 = .ok q.2)) = true := by
  unfold tbX9_canGoBy
  simp only [List.all_append, Bool.and_eq_true]
  exact tkX9_canGoBy_0
def tbX9_canBuy_0 : List (Nat × (Instr × Nat)) := [(0, (.aload_n 0, 1)), (1, (.iload_n 1, 1)), (2, (.invokevirtual 153, 3)), (5, (.ifCond .eq 69, 3)), (8, (.aload_n 0, 1)), (9, (.iload_n 2, 1)), (10, (.invokevirtual 142, 3)), (13, (.ifCond .eq 61, 3)), (16, (.aload_n 0, 1)), (17, (.getfield 51, 3)), (20, (.iload_n 1, 1)), (21, (.iload_n 2, 1)), (22, (.invokevirtual 226, 3)), (25, (.ifCond .eq 49, 3)), (28, (.iload_n 3, 1)), (29, (.iconst 1, 1)), (30, (.if_icmp .lt 44, 3)), (33, (.iload_n 3, 1)), (34, (.bipush 99, 2)), (36, (.if_icmp .gt 38, 3)), (39, (.aload_n 0, 1)), (40, (.getfield 51, 3)), (43, (.getfield 124, 3)), (46, (.iload_n 3, 1)), (47, (.iadd, 1)), (48, (.iconst 1, 1)), (49, (.isub, 1)), (50, (.sipush 999, 3)), (53, (.if_icmp .gt 21, 3)), (56, (.aload_n 0, 1)), (57, (.getfield 23, 3)), (60, (.aload_n 0, 1)), (61, (.getfield 51, 3)), (64, (.invokevirtual 120, 3)), (67, (.ifCond .le 7, 3)), (70, (.iconst 1, 1)), (71, (.goto 4, 3)), (74, (.iconst 0, 1)), (75, (.ireturn, 1))]
theorem tkX9_canBuy_0 : (tbX9_canBuy_0.all fun q => decide (decode cX9_canBuy q.1 = .ok q.2)) = true := by decide +kernel
def tbX9_canBuy : List (Nat × (Instr × Nat)) := tbX9_canBuy_0
theorem tkX9_canBuy : (tbX9_canBuy.all fun q => decide (decode cX9_canBuy q.1 = .ok q.2)) = true := by
  unfold tbX9_canBuy
  simp only [List.all_append, Bool.and_eq_true]
  exact tkX9_canBuy_0
def tbX9_lookAhead_0 : List (Nat × (Instr × Nat)) := [(0, (.aload_n 0, 1)), (1, (.getfield 55, 3)), (4, (.aload_n 0, 1)), (5, (.getfield 51, 3)), (8, (.invokevirtual 356, 3)), (11, (.aload_n 0, 1)), (12, (.getfield 55, 3)), (15, (.invokevirtual 236, 3)), (18, (.return_, 1))]
theorem tkX9_lookAhead_0 : (tbX9_lookAhead_0.all fun q => decide (decode cX9_lookAhead q.1 = .ok q.2)) = true := by decide +kernel
def tbX9_lookAhead : List (Nat × (Instr × Nat)) := tbX9_lookAhead_0
theorem tkX9_lookAhead : (tbX9_lookAhead.all fun q => decide (decode cX9_lookAhead q.1 = .ok q.2)) = true := by
  unfold tbX9_lookAhead
  simp only [List.all_append, Bool.and_eq_true]
  exact tkX9_lookAhead_0
def tbX9_goAhead_0 : List (Nat × (Instr × Nat)) := [(0, (.aload_n 0, 1)), (1, (.invokevirtual 257, 3)), (4, (.iconst 0, 1)), (5, (.istore_n 2, 1)), (6, (.iload_n 2, 1)), (7, (.iload_n 1, 1)), (8, (.if_icmp .ge 20, 3)), (11, (.aload_n 0, 1)), (12, (.getfield 23, 3)), (15, (.aload_n 0, 1)), (16, (.getfield 55, 3)), (19, (.invokevirtual 239, 3)), (22, (.iinc 2 1, 3)), (25, (.goto (-19), 3)), (28, (.return_, 1))]
theorem tkX9_goAhead_0 : (tbX9_goAhead_0.all fun q => decide (decode cX9_goAhead q.1 = .ok q.2)) = true := by decide +kernel
def tbX9_goAhead : List (Nat × (Instr × Nat)) := tbX9_goAhead_0
theorem tkX9_goAhead : (tbX9_goAhead.all fun q => decide (decode cX9_goAhead q.1 = .ok q.2)) = true := by
  unfold tbX9_goAhead
  simp only [List.all_append, Bool.and_eq_true]
  exact tkX9_goAhead_0
def tbX9_spreadRumour_0 : List (Nat × (Instr × Nat)) := [(0, (.aload_n 0, 1)), (1, (.getfield 23, 3)), (4, (.getfield 88, 3)), (7, (.getfield 110, 3)), (10, (.ifCond .eq 16, 3)), (13, (.aload_n 0, 1)), (14, (.getfield 23, 3)), (17, (.getfield 88, 3)), (20, (.getfield 104, 3)), (23, (.ifCond .ne 4, 3)), (26, (.return_, 1)), (27, (.aload_n 0, 1)), (28, (.aload_n 0, 1)), (29, (.getfield 23, 3)), (32, (.getfield 88, 3)), (35, (.getfield 110, 3)), (38, (.invokevirtual 359, 3)), (41, (.istore_n 1, 1)), (42, (.aload_n 0, 1)), (43, (.aload_n 0, 1)), (44, (.getfield 23, 3)), (47, (.getfield 88, 3)), (50, (.getfield 104, 3)), (53, (.invokevirtual 359, 3)), (56, (.istore_n 2, 1)), (57, (.aload_n 0, 1)), (58, (.iconst 2, 1)), (59, (.invokevirtual 359, 3)), (62, (.istore_n 3, 1)), (63, (.iload_n 3, 1)), (64, (.iconst 1, 1)), (65, (.if_icmp .ne 29, 3)), (68, (.aload_n 0, 1)), (69, (.getfield 51, 3)), (72, (.iload_n 1, 1)), (73, (.iload_n 2, 1)), (74, (.invokevirtual 226, 3)), (77, (.ifCond .eq 17, 3)), (80, (.aload_n 0, 1)), (81, (.getfield 23, 3))]
theorem tkX9_spreadRumour_0 : (tbX9_spreadRumour_0.all fun q => decide (decode cX9_spreadRumour q.1 = .ok q.2)) = true := by decide +kernel
def tbX9_spreadRumour_1 : List (Nat × (Instr × Nat)) := [(84, (.aload_n 0, 1)), (85, (.getfield 51, 3)), (88, (.iload_n 1, 1)), (89, (.iload_n 2, 1)), (90, (.invokevirtual 229, 3)), (93, (.pop, 1)), (94, (.return_, 1))]
theorem tkX9_spreadRumour_1 : (tbX9_spreadRumour_1.all fun q => decide (decode cX9_spreadRumour q.1 = .ok q.2)) = true := by decide +kernel
def tbX9_spreadRumour : List (Nat × (Instr × Nat)) := tbX9_spreadRumour_0 ++ tbX9_spreadRumour_1
theorem tkX9_spreadRumour : (tbX9_spreadRumour.all fun q => decide (decode cX9_spreadRumour q.1 = .ok q.2)) = true := by
  unfold tbX9_spreadRumour
  simp only [List.all_append, Bool.and_eq_true]
  exact ⟨tkX9_spreadRumour_0, tkX9_spreadRumour_1⟩
def tbX9_draw_0 : List (Nat × (Instr × Nat)) := [(0, (.aload_n 0, 1)), (1, (.ldc_w 361, 3)), (4, (.aload_n 0, 1)), (5, (.getfield 73, 3)), (8, (.imul, 1)), (9, (.sipush 12345, 3)), (12, (.iadd, 1)), (13, (.ldc_w 362, 3)), (16, (.iand, 1)), (17, (.putfield 73, 3)), (20, (.iload_n 1, 1)), (21, (.ifCond .le 15, 3)), (24, (.aload_n 0, 1)), (25, (.getfield 73, 3)), (28, (.bipush 64, 2)), (30, (.idiv, 1)), (31, (.iload_n 1, 1)), (32, (.irem, 1)), (33, (.goto 4, 3)), (36, (.iconst 0, 1)), (37, (.ireturn, 1))]
theorem tkX9_draw_0 : (tbX9_draw_0.all fun q => decide (decode cX9_draw q.1 = .ok q.2)) = true := by decide +kernel
def tbX9_draw : List (Nat × (Instr × Nat)) := tbX9_draw_0
theorem tkX9_draw : (tbX9_draw.all fun q => decide (decode cX9_draw q.1 = .ok q.2)) = true := by
  unfold tbX9_draw
  simp only [List.all_append, Bool.and_eq_true]
  exact tkX9_draw_0
def tbX9_letterOf_0 : List (Nat × (Instr × Nat)) := [(0, (.iload_n 0, 1)), (1, (.iconst 5, 1)), (2, (.iload_n 1, 1)), (3, (.imul, 1)), (4, (.ishr, 1)), (5, (.bipush 31, 2)), (7, (.iand, 1)), (8, (.ireturn, 1))]
theorem tkX9_letterOf_0 : (tbX9_letterOf_0.all fun q => decide (decode cX9_letterOf q.1 = .ok q.2)) = true := by decide +kernel
def tbX9_letterOf : List (Nat × (Instr × Nat)) := tbX9_letterOf_0
theorem tkX9_letterOf : (tbX9_letterOf.all fun q => decide (decode cX9_letterOf q.1 = .ok q.2)) = true := by
  unfold tbX9_letterOf
  simp only [List.all_append, Bool.and_eq_true]
  exact tkX9_letterOf_0
def tbX9_countWith_0 : List (Nat × (Instr × Nat)) := [(0, (.iconst 0, 1)), (1, (.istore_n 2, 1)), (2, (.iconst 0, 1)), (3, (.istore_n 3, 1)), (4, (.iload_n 3, 1)), (5, (.aload_n 0, 1)), (6, (.arraylength, 1)), (7, (.if_icmp .ge 19, 3)), (10, (.iload_n 2, 1)), (11, (.aload_n 0, 1)), (12, (.iload_n 3, 1)), (13, (.iaload, 1)), (14, (.iload_n 1, 1)), (15, (.ishr, 1)), (16, (.iconst 1, 1)), (17, (.iand, 1)), (18, (.iadd, 1)), (19, (.istore_n 2, 1)), (20, (.iinc 3 1, 3)), (23, (.goto (-19), 3)), (26, (.iload_n 2, 1)), (27, (.ireturn, 1))]
theorem tkX9_countWith_0 : (tbX9_countWith_0.all fun q => decide (decode cX9_countWith q.1 = .ok q.2)) = true := by decide +kernel
def tbX9_countWith : List (Nat × (Instr × Nat)) := tbX9_countWith_0
theorem tkX9_countWith : (tbX9_countWith.all fun q => decide (decode cX9_countWith q.1 = .ok q.2)) = true := by
  unfold tbX9_countWith
  simp only [List.all_append, Bool.and_eq_true]
  exact tkX9_countWith_0
def tbX9_packBreach_0 : List (Nat × (Instr × Nat)) := [(0, (.iload_n 0, 1)), (1, (.bipush 12, 2)), (3, (.ishl, 1)), (4, (.iload_n 1, 1)), (5, (.bipush 8, 2)), (7, (.ishl, 1)), (8, (.ior, 1)), (9, (.iload_n 2, 1)), (10, (.iconst 4, 1)), (11, (.ishl, 1)), (12, (.ior, 1)), (13, (.iload_n 3, 1)), (14, (.ior, 1)), (15, (.ireturn, 1))]
theorem tkX9_packBreach_0 : (tbX9_packBreach_0.all fun q => decide (decode cX9_packBreach q.1 = .ok q.2)) = true := by decide +kernel
def tbX9_packBreach : List (Nat × (Instr × Nat)) := tbX9_packBreach_0
theorem tkX9_packBreach : (tbX9_packBreach.all fun q => decide (decode cX9_packBreach q.1 = .ok q.2)) = true := by
  unfold tbX9_packBreach
  simp only [List.all_append, Bool.and_eq_true]
  exact tkX9_packBreach_0
def tbX9_partOfBreach_0 : List (Nat × (Instr × Nat)) := [(0, (.iload_n 1, 1)), (1, (.tableswitch 56 0 3 #[31, 36, 44, 51], 31)), (32, (.iload_n 0, 1)), (33, (.bipush 12, 2)), (35, (.ishr, 1)), (36, (.ireturn, 1)), (37, (.iload_n 0, 1)), (38, (.bipush 8, 2)), (40, (.ishr, 1)), (41, (.bipush 15, 2)), (43, (.iand, 1)), (44, (.ireturn, 1)), (45, (.iload_n 0, 1)), (46, (.iconst 4, 1)), (47, (.ishr, 1)), (48, (.bipush 15, 2)), (50, (.iand, 1)), (51, (.ireturn, 1)), (52, (.iload_n 0, 1)), (53, (.bipush 15, 2)), (55, (.iand, 1)), (56, (.ireturn, 1)), (57, (.iconst (-1), 1)), (58, (.ireturn, 1))]
theorem tkX9_partOfBreach_0 : (tbX9_partOfBreach_0.all fun q => decide (decode cX9_partOfBreach q.1 = .ok q.2)) = true := by decide +kernel
def tbX9_partOfBreach : List (Nat × (Instr × Nat)) := tbX9_partOfBreach_0
theorem tkX9_partOfBreach : (tbX9_partOfBreach.all fun q => decide (decode cX9_partOfBreach q.1 = .ok q.2)) = true := by
  unfold tbX9_partOfBreach
  simp only [List.all_append, Bool.and_eq_true]
  exact tkX9_partOfBreach_0
def tbJ6_bitCount_0f7a4_0 : List (Nat × (Instr × Nat)) := [(0, (.iload_n 0, 1)), (1, (.iload_n 0, 1)), (2, (.iconst 1, 1)), (3, (.iushr, 1)), (4, (.ldc_w 265, 3)), (7, (.iand, 1)), (8, (.isub, 1)), (9, (.istore_n 0, 1)), (10, (.iload_n 0, 1)), (11, (.ldc_w 266, 3)), (14, (.iand, 1)), (15, (.iload_n 0, 1)), (16, (.iconst 2, 1)), (17, (.iushr, 1)), (18, (.ldc_w 266, 3)), (21, (.iand, 1)), (22, (.iadd, 1)), (23, (.istore_n 0, 1)), (24, (.iload_n 0, 1)), (25, (.iload_n 0, 1)), (26, (.iconst 4, 1)), (27, (.iushr, 1)), (28, (.iadd, 1)), (29, (.ldc_w 267, 3)), (32, (.iand, 1)), (33, (.istore_n 0, 1)), (34, (.iload_n 0, 1)), (35, (.iload_n 0, 1)), (36, (.bipush 8, 2)), (38, (.iushr, 1)), (39, (.iadd, 1)), (40, (.istore_n 0, 1)), (41, (.iload_n 0, 1)), (42, (.iload_n 0, 1)), (43, (.bipush 16, 2)), (45, (.iushr, 1)), (46, (.iadd, 1)), (47, (.istore_n 0, 1)), (48, (.iload_n 0, 1)), (49, (.bipush 63, 2))]
theorem tkJ6_bitCount_0f7a4_0 : (tbJ6_bitCount_0f7a4_0.all fun q => decide (decode cJ6_bitCount_0f7a4 q.1 = .ok q.2)) = true := by decide +kernel
def tbJ6_bitCount_0f7a4_1 : List (Nat × (Instr × Nat)) := [(51, (.iand, 1)), (52, (.ireturn, 1))]
theorem tkJ6_bitCount_0f7a4_1 : (tbJ6_bitCount_0f7a4_1.all fun q => decide (decode cJ6_bitCount_0f7a4 q.1 = .ok q.2)) = true := by decide +kernel
def tbJ6_bitCount_0f7a4 : List (Nat × (Instr × Nat)) := tbJ6_bitCount_0f7a4_0 ++ tbJ6_bitCount_0f7a4_1
theorem tkJ6_bitCount_0f7a4 : (tbJ6_bitCount_0f7a4.all fun q => decide (decode cJ6_bitCount_0f7a4 q.1 = .ok q.2)) = true := by
  unfold tbJ6_bitCount_0f7a4
  simp only [List.all_append, Bool.and_eq_true]
  exact ⟨tkJ6_bitCount_0f7a4_0, tkJ6_bitCount_0f7a4_1⟩
def tbJ9_floorDiv_f86c9_0 : List (Nat × (Instr × Nat)) := [(0, (.lload_n 0, 1)), (1, (.lload_n 2, 1)), (2, (.ldiv, 1)), (3, (.lstore 4, 2)), (5, (.lload_n 0, 1)), (6, (.lload_n 2, 1)), (7, (.lxor, 1)), (8, (.lconst 0, 1)), (9, (.lcmp, 1)), (10, (.ifCond .ge 17, 3)), (13, (.lload 4, 2)), (15, (.lload_n 2, 1)), (16, (.lmul, 1)), (17, (.lload_n 0, 1)), (18, (.lcmp, 1)), (19, (.ifCond .eq 8, 3)), (22, (.lload 4, 2)), (24, (.lconst 1, 1)), (25, (.lsub, 1)), (26, (.lreturn, 1)), (27, (.lload 4, 2)), (29, (.lreturn, 1))]
theorem tkJ9_floorDiv_f86c9_0 : (tbJ9_floorDiv_f86c9_0.all fun q => decide (decode cJ9_floorDiv_f86c9 q.1 = .ok q.2)) = true := by decide +kernel
def tbJ9_floorDiv_f86c9 : List (Nat × (Instr × Nat)) := tbJ9_floorDiv_f86c9_0
theorem tkJ9_floorDiv_f86c9 : (tbJ9_floorDiv_f86c9.all fun q => decide (decode cJ9_floorDiv_f86c9 q.1 = .ok q.2)) = true := by
  unfold tbJ9_floorDiv_f86c9
  simp only [List.all_append, Bool.and_eq_true]
  exact tkJ9_floorDiv_f86c9_0
def tbJ9_floorMod_f86c9_0 : List (Nat × (Instr × Nat)) := [(0, (.lload_n 0, 1)), (1, (.lload_n 2, 1)), (2, (.lrem, 1)), (3, (.lstore 4, 2)), (5, (.lload_n 0, 1)), (6, (.lload_n 2, 1)), (7, (.lxor, 1)), (8, (.lconst 0, 1)), (9, (.lcmp, 1)), (10, (.ifCond .ge 15, 3)), (13, (.lload 4, 2)), (15, (.lconst 0, 1)), (16, (.lcmp, 1)), (17, (.ifCond .eq 8, 3)), (20, (.lload 4, 2)), (22, (.lload_n 2, 1)), (23, (.ladd, 1)), (24, (.lreturn, 1)), (25, (.lload 4, 2)), (27, (.lreturn, 1))]
theorem tkJ9_floorMod_f86c9_0 : (tbJ9_floorMod_f86c9_0.all fun q => decide (decode cJ9_floorMod_f86c9 q.1 = .ok q.2)) = true := by decide +kernel
def tbJ9_floorMod_f86c9 : List (Nat × (Instr × Nat)) := tbJ9_floorMod_f86c9_0
theorem tkJ9_floorMod_f86c9 : (tbJ9_floorMod_f86c9.all fun q => decide (decode cJ9_floorMod_f86c9 q.1 = .ok q.2)) = true := by
  unfold tbJ9_floorMod_f86c9
  simp only [List.all_append, Bool.and_eq_true]
  exact tkJ9_floorMod_f86c9_0
def tbJ9_max_7cf53_0 : List (Nat × (Instr × Nat)) := [(0, (.iload_n 0, 1)), (1, (.iload_n 1, 1)), (2, (.if_icmp .lt 7, 3)), (5, (.iload_n 0, 1)), (6, (.goto 4, 3)), (9, (.iload_n 1, 1)), (10, (.ireturn, 1))]
theorem tkJ9_max_7cf53_0 : (tbJ9_max_7cf53_0.all fun q => decide (decode cJ9_max_7cf53 q.1 = .ok q.2)) = true := by decide +kernel
def tbJ9_max_7cf53 : List (Nat × (Instr × Nat)) := tbJ9_max_7cf53_0
theorem tkJ9_max_7cf53 : (tbJ9_max_7cf53.all fun q => decide (decode cJ9_max_7cf53 q.1 = .ok q.2)) = true := by
  unfold tbJ9_max_7cf53
  simp only [List.all_append, Bool.and_eq_true]
  exact tkJ9_max_7cf53_0
def tbJ9_max_f86c9_0 : List (Nat × (Instr × Nat)) := [(0, (.lload_n 0, 1)), (1, (.lload_n 2, 1)), (2, (.lcmp, 1)), (3, (.ifCond .lt 7, 3)), (6, (.lload_n 0, 1)), (7, (.goto 4, 3)), (10, (.lload_n 2, 1)), (11, (.lreturn, 1))]
theorem tkJ9_max_f86c9_0 : (tbJ9_max_f86c9_0.all fun q => decide (decode cJ9_max_f86c9 q.1 = .ok q.2)) = true := by decide +kernel
def tbJ9_max_f86c9 : List (Nat × (Instr × Nat)) := tbJ9_max_f86c9_0
theorem tkJ9_max_f86c9 : (tbJ9_max_f86c9.all fun q => decide (decode cJ9_max_f86c9 q.1 = .ok q.2)) = true := by
  unfold tbJ9_max_f86c9
  simp only [List.all_append, Bool.and_eq_true]
  exact tkJ9_max_f86c9_0
def tbJ9_min_7cf53_0 : List (Nat × (Instr × Nat)) := [(0, (.iload_n 0, 1)), (1, (.iload_n 1, 1)), (2, (.if_icmp .gt 7, 3)), (5, (.iload_n 0, 1)), (6, (.goto 4, 3)), (9, (.iload_n 1, 1)), (10, (.ireturn, 1))]
theorem tkJ9_min_7cf53_0 : (tbJ9_min_7cf53_0.all fun q => decide (decode cJ9_min_7cf53 q.1 = .ok q.2)) = true := by decide +kernel
def tbJ9_min_7cf53 : List (Nat × (Instr × Nat)) := tbJ9_min_7cf53_0
theorem tkJ9_min_7cf53 : (tbJ9_min_7cf53.all fun q => decide (decode cJ9_min_7cf53 q.1 = .ok q.2)) = true := by
  unfold tbJ9_min_7cf53
  simp only [List.all_append, Bool.and_eq_true]
  exact tkJ9_min_7cf53_0
def tbJ9_min_f86c9_0 : List (Nat × (Instr × Nat)) := [(0, (.lload_n 0, 1)), (1, (.lload_n 2, 1)), (2, (.lcmp, 1)), (3, (.ifCond .gt 7, 3)), (6, (.lload_n 0, 1)), (7, (.goto 4, 3)), (10, (.lload_n 2, 1)), (11, (.lreturn, 1))]
theorem tkJ9_min_f86c9_0 : (tbJ9_min_f86c9_0.all fun q => decide (decode cJ9_min_f86c9 q.1 = .ok q.2)) = true := by decide +kernel
def tbJ9_min_f86c9 : List (Nat × (Instr × Nat)) := tbJ9_min_f86c9_0
theorem tkJ9_min_f86c9 : (tbJ9_min_f86c9.all fun q => decide (decode cJ9_min_f86c9 q.1 = .ok q.2)) = true := by
  unfold tbJ9_min_f86c9
  simp only [List.all_append, Bool.and_eq_true]
  exact tkJ9_min_f86c9_0
def tbJ0_charAt_5068e_0 : List (Nat × (Instr × Nat)) := [(0, (.aload_n 0, 1)), (1, (.invokevirtual 492, 3)), (4, (.ifCond .eq 12, 3)), (7, (.aload_n 0, 1)), (8, (.getfield 9, 3)), (11, (.iload_n 1, 1)), (12, (.invokestatic 495, 3)), (15, (.ireturn, 1)), (16, (.aload_n 0, 1)), (17, (.getfield 9, 3)), (20, (.iload_n 1, 1)), (21, (.invokestatic 498, 3)), (24, (.ireturn, 1))]
theorem tkJ0_charAt_5068e_0 : (tbJ0_charAt_5068e_0.all fun q => decide (decode cJ0_charAt_5068e q.1 = .ok q.2)) = true := by decide +kernel
def tbJ0_charAt_5068e : List (Nat × (Instr × Nat)) := tbJ0_charAt_5068e_0
theorem tkJ0_charAt_5068e : (tbJ0_charAt_5068e.all fun q => decide (decode cJ0_charAt_5068e q.1 = .ok q.2)) = true := by
  unfold tbJ0_charAt_5068e
  simp only [List.all_append, Bool.and_eq_true]
  exact tkJ0_charAt_5068e_0
def tbJ0_isLatin1_aae02_0 : List (Nat × (Instr × Nat)) := [(0, (.getstatic 38, 3)), (3, (.ifCond .eq 14, 3)), (6, (.aload_n 0, 1)), (7, (.getfield 15, 3)), (10, (.ifCond .ne 7, 3)), (13, (.iconst 1, 1)), (14, (.goto 4, 3)), (17, (.iconst 0, 1)), (18, (.ireturn, 1))]
theorem tkJ0_isLatin1_aae02_0 : (tbJ0_isLatin1_aae02_0.all fun q => decide (decode cJ0_isLatin1_aae02 q.1 = .ok q.2)) = true := by decide +kernel
def tbJ0_isLatin1_aae02 : List (Nat × (Instr × Nat)) := tbJ0_isLatin1_aae02_0
theorem tkJ0_isLatin1_aae02 : (tbJ0_isLatin1_aae02.all fun q => decide (decode cJ0_isLatin1_aae02 q.1 = .ok q.2)) = true := by
  unfold tbJ0_isLatin1_aae02
  simp only [List.all_append, Bool.and_eq_true]
  exact tkJ0_isLatin1_aae02_0
def tbJ0_checkIndex_df160_0 : List (Nat × (Instr × Nat)) := [(0, (.iload_n 0, 1)), (1, (.iload_n 1, 1)), (2, (.getstatic 1053, 3)), (5, (.invokestatic 1059, 3)), (8, (.pop, 1)), (9, (.return_, 1))]
theorem tkJ0_checkIndex_df160_0 : (tbJ0_checkIndex_df160_0.all fun q => decide (decode cJ0_checkIndex_df160 q.1 = .ok q.2)) = true := by decide +kernel
def tbJ0_checkIndex_df160 : List (Nat × (Instr × Nat)) := tbJ0_checkIndex_df160_0
theorem tkJ0_checkIndex_df160 : (tbJ0_checkIndex_df160.all fun q => decide (decode cJ0_checkIndex_df160 q.1 = .ok q.2)) = true := by
  unfold tbJ0_checkIndex_df160
  simp only [List.all_append, Bool.and_eq_true]
  exact tkJ0_checkIndex_df160_0
def tbJ1_charAt_3b067_0 : List (Nat × (Instr × Nat)) := [(0, (.iload_n 1, 1)), (1, (.aload_n 0, 1)), (2, (.arraylength, 1)), (3, (.invokestatic 9, 3)), (6, (.aload_n 0, 1)), (7, (.iload_n 1, 1)), (8, (.baload, 1)), (9, (.sipush 255, 3)), (12, (.iand, 1)), (13, (.i2c, 1)), (14, (.ireturn, 1))]
theorem tkJ1_charAt_3b067_0 : (tbJ1_charAt_3b067_0.all fun q => decide (decode cJ1_charAt_3b067 q.1 = .ok q.2)) = true := by decide +kernel
def tbJ1_charAt_3b067 : List (Nat × (Instr × Nat)) := tbJ1_charAt_3b067_0
theorem tkJ1_charAt_3b067 : (tbJ1_charAt_3b067.all fun q => decide (decode cJ1_charAt_3b067 q.1 = .ok q.2)) = true := by
  unfold tbJ1_charAt_3b067
  simp only [List.all_append, Bool.and_eq_true]
  exact tkJ1_charAt_3b067_0
def tbJ2_getChar_3b067_0 : List (Nat × (Instr × Nat)) := [(0, (.getstatic 44, 3)), (3, (.ifCond .ne 25, 3)), (6, (.iload_n 1, 1)), (7, (.ifCond .lt 11, 3)), (10, (.iload_n 1, 1)), (11, (.aload_n 0, 1)), (12, (.invokestatic 48, 3)), (15, (.if_icmp .lt 13, 3)), (18, (.new 52, 3)), (21, (.dup, 1)), (22, (.ldc 54, 2)), (24, (.invokespecial 56, 3)), (27, (.athrow, 1)), (28, (.iload_n 1, 1)), (29, (.iconst 1, 1)), (30, (.ishl, 1)), (31, (.istore_n 1, 1)), (32, (.aload_n 0, 1)), (33, (.iload_n 1, 1)), (34, (.iinc 1 1, 3)), (37, (.baload, 1)), (38, (.sipush 255, 3)), (41, (.iand, 1)), (42, (.getstatic 59, 3)), (45, (.ishl, 1)), (46, (.aload_n 0, 1)), (47, (.iload_n 1, 1)), (48, (.baload, 1)), (49, (.sipush 255, 3)), (52, (.iand, 1)), (53, (.getstatic 63, 3)), (56, (.ishl, 1)), (57, (.ior, 1)), (58, (.i2c, 1)), (59, (.ireturn, 1))]
theorem tkJ2_getChar_3b067_0 : (tbJ2_getChar_3b067_0.all fun q => decide (decode cJ2_getChar_3b067 q.1 = .ok q.2)) = true := by decide +kernel
def tbJ2_getChar_3b067 : List (Nat × (Instr × Nat)) := tbJ2_getChar_3b067_0
theorem tkJ2_getChar_3b067 : (tbJ2_getChar_3b067.all fun q => decide (decode cJ2_getChar_3b067 q.1 = .ok q.2)) = true := by
  unfold tbJ2_getChar_3b067
  simp only [List.all_append, Bool.and_eq_true]
  exact tkJ2_getChar_3b067_0
def tbJ2_length_9d52b_0 : List (Nat × (Instr × Nat)) := [(0, (.aload_n 0, 1)), (1, (.arraylength, 1)), (2, (.iconst 1, 1)), (3, (.ishr, 1)), (4, (.ireturn, 1))]
theorem tkJ2_length_9d52b_0 : (tbJ2_length_9d52b_0.all fun q => decide (decode cJ2_length_9d52b q.1 = .ok q.2)) = true := by decide +kernel
def tbJ2_length_9d52b : List (Nat × (Instr × Nat)) := tbJ2_length_9d52b_0
theorem tkJ2_length_9d52b : (tbJ2_length_9d52b.all fun q => decide (decode cJ2_length_9d52b q.1 = .ok q.2)) = true := by
  unfold tbJ2_length_9d52b
  simp only [List.all_append, Bool.and_eq_true]
  exact tkJ2_length_9d52b_0
def tbJ2_charAt_3b067_0 : List (Nat × (Instr × Nat)) := [(0, (.iload_n 1, 1)), (1, (.aload_n 0, 1)), (2, (.invokestatic 67, 3)), (5, (.aload_n 0, 1)), (6, (.iload_n 1, 1)), (7, (.invokestatic 71, 3)), (10, (.ireturn, 1))]
theorem tkJ2_charAt_3b067_0 : (tbJ2_charAt_3b067_0.all fun q => decide (decode cJ2_charAt_3b067 q.1 = .ok q.2)) = true := by decide +kernel
def tbJ2_charAt_3b067 : List (Nat × (Instr × Nat)) := tbJ2_charAt_3b067_0
theorem tkJ2_charAt_3b067 : (tbJ2_charAt_3b067.all fun q => decide (decode cJ2_charAt_3b067 q.1 = .ok q.2)) = true := by
  unfold tbJ2_charAt_3b067
  simp only [List.all_append, Bool.and_eq_true]
  exact tkJ2_charAt_3b067_0
def tbJ2_checkIndex_2214a_0 : List (Nat × (Instr × Nat)) := [(0, (.iload_n 0, 1)), (1, (.aload_n 1, 1)), (2, (.invokestatic 48, 3)), (5, (.invokestatic 414, 3)), (8, (.return_, 1))]
theorem tkJ2_checkIndex_2214a_0 : (tbJ2_checkIndex_2214a_0.all fun q => decide (decode cJ2_checkIndex_2214a q.1 = .ok q.2)) = true := by decide +kernel
def tbJ2_checkIndex_2214a : List (Nat × (Instr × Nat)) := tbJ2_checkIndex_2214a_0
theorem tkJ2_checkIndex_2214a : (tbJ2_checkIndex_2214a.all fun q => decide (decode cJ2_checkIndex_2214a q.1 = .ok q.2)) = true := by
  unfold tbJ2_checkIndex_2214a
  simp only [List.all_append, Bool.and_eq_true]
  exact tkJ2_checkIndex_2214a_0
def tbJ7_fill_53178_0 : List (Nat × (Instr × Nat)) := [(0, (.iconst 0, 1)), (1, (.istore_n 2, 1)), (2, (.aload_n 0, 1)), (3, (.arraylength, 1)), (4, (.istore_n 3, 1)), (5, (.iload_n 2, 1)), (6, (.iload_n 3, 1)), (7, (.if_icmp .ge 13, 3)), (10, (.aload_n 0, 1)), (11, (.iload_n 2, 1)), (12, (.iload_n 1, 1)), (13, (.iastore, 1)), (14, (.iinc 2 1, 3)), (17, (.goto (-12), 3)), (20, (.return_, 1))]
theorem tkJ7_fill_53178_0 : (tbJ7_fill_53178_0.all fun q => decide (decode cJ7_fill_53178 q.1 = .ok q.2)) = true := by decide +kernel
def tbJ7_fill_53178 : List (Nat × (Instr × Nat)) := tbJ7_fill_53178_0
theorem tkJ7_fill_53178 : (tbJ7_fill_53178.all fun q => decide (decode cJ7_fill_53178 q.1 = .ok q.2)) = true := by
  unfold tbJ7_fill_53178
  simp only [List.all_append, Bool.and_eq_true]
  exact tkJ7_fill_53178_0
def tbJ7_copyOf_59c91_0 : List (Nat × (Instr × Nat)) := [(0, (.iload_n 1, 1)), (1, (.aload_n 0, 1)), (2, (.arraylength, 1)), (3, (.if_icmp .ne 11, 3)), (6, (.aload_n 0, 1)), (7, (.invokevirtual 316, 3)), (10, (.checkcast 317, 3)), (13, (.areturn, 1)), (14, (.iload_n 1, 1)), (15, (.newarray .int, 2)), (17, (.astore_n 2, 1)), (18, (.aload_n 0, 1)), (19, (.iconst 0, 1)), (20, (.aload_n 2, 1)), (21, (.iconst 0, 1)), (22, (.aload_n 0, 1)), (23, (.arraylength, 1)), (24, (.iload_n 1, 1)), (25, (.invokestatic 304, 3)), (28, (.invokestatic 150, 3)), (31, (.aload_n 2, 1)), (32, (.areturn, 1))]
theorem tkJ7_copyOf_59c91_0 : (tbJ7_copyOf_59c91_0.all fun q => decide (decode cJ7_copyOf_59c91 q.1 = .ok q.2)) = true := by decide +kernel
def tbJ7_copyOf_59c91 : List (Nat × (Instr × Nat)) := tbJ7_copyOf_59c91_0
theorem tkJ7_copyOf_59c91 : (tbJ7_copyOf_59c91.all fun q => decide (decode cJ7_copyOf_59c91 q.1 = .ok q.2)) = true := by
  unfold tbJ7_copyOf_59c91
  simp only [List.all_append, Bool.and_eq_true]
  exact tkJ7_copyOf_59c91_0
def tbJ3_checkIndex_8e157_0 : List (Nat × (Instr × Nat)) := [(0, (.iload_n 0, 1)), (1, (.ifCond .lt 8, 3)), (4, (.iload_n 0, 1)), (5, (.iload_n 1, 1)), (6, (.if_icmp .lt 10, 3)), (9, (.aload_n 2, 1)), (10, (.iload_n 0, 1)), (11, (.iload_n 1, 1)), (12, (.invokestatic 95, 3)), (15, (.athrow, 1)), (16, (.iload_n 0, 1)), (17, (.ireturn, 1))]
theorem tkJ3_checkIndex_8e157_0 : (tbJ3_checkIndex_8e157_0.all fun q => decide (decode cJ3_checkIndex_8e157 q.1 = .ok q.2)) = true := by decide +kernel
def tbJ3_checkIndex_8e157 : List (Nat × (Instr × Nat)) := tbJ3_checkIndex_8e157_0
theorem tkJ3_checkIndex_8e157 : (tbJ3_checkIndex_8e157.all fun q => decide (decode cJ3_checkIndex_8e157 q.1 = .ok q.2)) = true := by
  unfold tbJ3_checkIndex_8e157
  simp only [List.all_append, Bool.and_eq_true]
  exact tkJ3_checkIndex_8e157_0
