abbrev b_9_1 : ByteArray := prog_9_method_1_code
def y_9_1 : MethodName := ⟨"BalanceCoder$Steps", "<init>", "()V"⟩
def k_9_1 : List (Nat × Instr × Nat) := [(0, .aload_n 0, 1), (1, .invokespecial 3, 3), (4, .aload_n 0, 1), (5, .sipush 400, 3), (8, .newarray .int, 2), (10, .putfield 9, 3), (13, .aload_n 0, 1), (14, .sipush 400, 3), (17, .newarray .int, 2), (19, .putfield 15, 3), (22, .aload_n 0, 1), (23, .sipush 400, 3), (26, .newarray .int, 2), (28, .putfield 18, 3), (31, .aload_n 0, 1), (32, .sipush 400, 3), (35, .newarray .int, 2), (37, .putfield 21, 3), (40, .aload_n 0, 1), (41, .sipush 400, 3), (44, .newarray .int, 2), (46, .putfield 24, 3), (49, .aload_n 0, 1), (50, .iconst 0, 1), (51, .putfield 27, 3), (54, .return_, 1)]
theorem kd_9_1 : ∀ x ∈ k_9_1, decode b_9_1 x.1 = .ok x.2 := by decide +kernel
abbrev b_3_1 : ByteArray := prog_3_method_1_code
def y_3_1 : MethodName := ⟨"BalanceCoder$Block", "<init>", "()V"⟩
def k_3_1 : List (Nat × Instr × Nat) := [(0, .aload_n 0, 1), (1, .invokespecial 3, 3), (4, .aload_n 0, 1), (5, .sipush 4400, 3), (8, .newarray .int, 2), (10, .putfield 9, 3), (13, .aload_n 0, 1), (14, .iconst 0, 1), (15, .putfield 15, 3), (18, .aload_n 0, 1), (19, .iconst 0, 1), (20, .putfield 19, 3), (23, .aload_n 0, 1), (24, .new 23, 3), (27, .dup, 1), (28, .invokespecial 25, 3), (31, .putfield 26, 3), (34, .aload_n 0, 1), (35, .iconst 0, 1), (36, .putfield 30, 3), (39, .return_, 1)]
theorem kd_3_1 : ∀ x ∈ k_3_1, decode b_3_1 x.1 = .ok x.2 := by decide +kernel
abbrev b_8_1 : ByteArray := prog_8_method_1_code
def y_8_1 : MethodName := ⟨"BalanceCoder$Row", "<init>", "()V"⟩
def k_8_1 : List (Nat × Instr × Nat) := [(0, .aload_n 0, 1), (1, .invokespecial 3, 3), (4, .aload_n 0, 1), (5, .sipush 400, 3), (8, .newarray .int, 2), (10, .putfield 9, 3), (13, .aload_n 0, 1), (14, .iconst 0, 1), (15, .putfield 15, 3), (18, .return_, 1)]
theorem kd_8_1 : ∀ x ∈ k_8_1, decode b_8_1 x.1 = .ok x.2 := by decide +kernel
abbrev b_11_1 : ByteArray := prog_11_method_1_code
def y_11_1 : MethodName := ⟨"BalanceCoder$Whole", "<init>", "()V"⟩
def k_11_1 : List (Nat × Instr × Nat) := [(0, .aload_n 0, 1), (1, .invokespecial 3, 3), (4, .aload_n 0, 1), (5, .bipush 6, 2), (7, .anewarray 9, 3), (10, .putfield 11, 3), (13, .aload_n 0, 1), (14, .bipush 10, 2), (16, .anewarray 17, 3), (19, .putfield 19, 3), (22, .aload_n 0, 1), (23, .iconst 0, 1), (24, .putfield 23, 3), (27, .aload_n 0, 1), (28, .new 27, 3), (31, .dup, 1), (32, .invokespecial 29, 3), (35, .putfield 30, 3), (38, .aload_n 0, 1), (39, .iconst 0, 1), (40, .putfield 34, 3), (43, .aload_n 0, 1), (44, .iconst 0, 1), (45, .putfield 37, 3), (48, .iconst 0, 1), (49, .istore_n 1, 1), (50, .iload_n 1, 1), (51, .bipush 6, 2), (53, .if_icmp .ge 22, 3), (56, .aload_n 0, 1), (57, .getfield 11, 3), (60, .iload_n 1, 1), (61, .new 9, 3), (64, .dup, 1), (65, .invokespecial 40, 3), (68, .aastore, 1), (69, .iinc 1 1, 3), (72, .goto (-22), 3), (75, .return_, 1)]
theorem kd_11_1 : ∀ x ∈ k_11_1, decode b_11_1 x.1 = .ok x.2 := by decide +kernel
abbrev b_4_1 : ByteArray := prog_4_method_1_code
def y_4_1 : MethodName := ⟨"BalanceCoder$Deal", "<init>", "()V"⟩
def k_4_1 : List (Nat × Instr × Nat) := [(0, .aload_n 0, 1), (1, .invokespecial 3, 3), (4, .aload_n 0, 1), (5, .sipush 257, 3), (8, .newarray .int, 2), (10, .putfield 9, 3), (13, .return_, 1)]
theorem kd_4_1 : ∀ x ∈ k_4_1, decode b_4_1 x.1 = .ok x.2 := by decide +kernel
abbrev b_10_1 : ByteArray := prog_10_method_1_code
def y_10_1 : MethodName := ⟨"BalanceCoder$Table", "<init>", "()V"⟩
def k_10_1 : List (Nat × Instr × Nat) := [(0, .aload_n 0, 1), (1, .invokespecial 3, 3), (4, .aload_n 0, 1), (5, .iconst 4, 1), (6, .anewarray 9, 3), (9, .putfield 11, 3), (12, .aload_n 0, 1), (13, .iconst 1, 1), (14, .putfield 17, 3), (17, .aload_n 0, 1), (18, .bipush 8, 2), (20, .putfield 21, 3), (23, .iconst 0, 1), (24, .istore_n 1, 1), (25, .iload_n 1, 1), (26, .iconst 4, 1), (27, .if_icmp .ge 22, 3), (30, .aload_n 0, 1), (31, .getfield 11, 3), (34, .iload_n 1, 1), (35, .new 9, 3), (38, .dup, 1), (39, .invokespecial 24, 3), (42, .aastore, 1), (43, .iinc 1 1, 3), (46, .goto (-21), 3), (49, .return_, 1)]
theorem kd_10_1 : ∀ x ∈ k_10_1, decode b_10_1 x.1 = .ok x.2 := by decide +kernel
abbrev b_6_1 : ByteArray := prog_6_method_1_code
def y_6_1 : MethodName := ⟨"BalanceCoder$Guide", "<init>", "()V"⟩
def k_6_1 : List (Nat × Instr × Nat) := [(0, .aload_n 0, 1), (1, .invokespecial 3, 3), (4, .aload_n 0, 1), (5, .new 9, 3), (8, .dup, 1), (9, .invokespecial 11, 3), (12, .putfield 12, 3), (15, .aload_n 0, 1), (16, .iconst 0, 1), (17, .putfield 18, 3), (20, .return_, 1)]
theorem kd_6_1 : ∀ x ∈ k_6_1, decode b_6_1 x.1 = .ok x.2 := by decide +kernel
abbrev b_2_1 : ByteArray := prog_2_method_1_code
def y_2_1 : MethodName := ⟨"BalanceCoder$Bench", "<init>", "()V"⟩
def k_2_1 : List (Nat × Instr × Nat) := [(0, .aload_n 0, 1), (1, .invokespecial 3, 3), (4, .aload_n 0, 1), (5, .new 9, 3), (8, .dup, 1), (9, .invokespecial 11, 3), (12, .putfield 12, 3), (15, .aload_n 0, 1), (16, .new 18, 3), (19, .dup, 1), (20, .invokespecial 20, 3), (23, .putfield 21, 3), (26, .aload_n 0, 1), (27, .new 25, 3), (30, .dup, 1), (31, .invokespecial 27, 3), (34, .putfield 28, 3), (37, .aload_n 0, 1), (38, .iconst 4, 1), (39, .newarray .int, 2), (41, .putfield 32, 3), (44, .aload_n 0, 1), (45, .sipush 800, 3), (48, .newarray .int, 2), (50, .putfield 36, 3), (53, .aload_n 0, 1), (54, .iconst 0, 1), (55, .putfield 39, 3), (58, .return_, 1)]
theorem kd_2_1 : ∀ x ∈ k_2_1, decode b_2_1 x.1 = .ok x.2 := by decide +kernel
abbrev b_5_1 : ByteArray := prog_5_method_1_code
def y_5_1 : MethodName := ⟨"BalanceCoder$Dealer", "<init>", "()V"⟩
def k_5_1 : List (Nat × Instr × Nat) := [(0, .aload_n 0, 1), (1, .invokespecial 3, 3), (4, .aload_n 0, 1), (5, .sipush 256, 3), (8, .newarray .int, 2), (10, .putfield 9, 3), (13, .aload_n 0, 1), (14, .sipush 256, 3), (17, .newarray .int, 2), (19, .putfield 15, 3), (22, .aload_n 0, 1), (23, .iconst 0, 1), (24, .putfield 18, 3), (27, .aload_n 0, 1), (28, .aconst_null, 1), (29, .putfield 22, 3), (32, .return_, 1)]
theorem kd_5_1 : ∀ x ∈ k_5_1, decode b_5_1 x.1 = .ok x.2 := by decide +kernel
abbrev b_7_1 : ByteArray := prog_7_method_1_code
def y_7_1 : MethodName := ⟨"BalanceCoder$Reader", "<init>", "()V"⟩
def k_7_1 : List (Nat × Instr × Nat) := [(0, .aload_n 0, 1), (1, .invokespecial 3, 3), (4, .aload_n 0, 1), (5, .iconst 0, 1), (6, .putfield 9, 3), (9, .aload_n 0, 1), (10, .iconst (-1), 1), (11, .putfield 15, 3), (14, .return_, 1)]
theorem kd_7_1 : ∀ x ∈ k_7_1, decode b_7_1 x.1 = .ok x.2 := by decide +kernel
abbrev b_1_1 : ByteArray := prog_1_method_1_code
def y_1_1 : MethodName := ⟨"BalanceCoder", "<init>", "()V"⟩
def k_1_1 : List (Nat × Instr × Nat) := [(0, .aload_n 0, 1), (1, .invokespecial 1, 3), (4, .aload_n 0, 1), (5, .new 7, 3), (8, .dup, 1), (9, .invokespecial 9, 3), (12, .putfield 10, 3), (15, .aload_n 0, 1), (16, .aconst_null, 1), (17, .putfield 16, 3), (20, .aload_n 0, 1), (21, .new 19, 3), (24, .dup, 1), (25, .invokespecial 21, 3), (28, .putfield 22, 3), (31, .aload_n 0, 1), (32, .new 26, 3), (35, .dup, 1), (36, .invokespecial 28, 3), (39, .putfield 29, 3), (42, .aload_n 0, 1), (43, .new 33, 3), (46, .dup, 1), (47, .invokespecial 35, 3), (50, .putfield 36, 3), (53, .aload_n 0, 1), (54, .sipush 400, 3), (57, .newarray .int, 2), (59, .putfield 40, 3), (62, .aload_n 0, 1), (63, .iconst 0, 1), (64, .putfield 44, 3), (67, .aload_n 0, 1), (68, .iconst 0, 1), (69, .putfield 48, 3), (72, .return_, 1)]
theorem kd_1_1 : ∀ x ∈ k_1_1, decode b_1_1 x.1 = .ok x.2 := by decide +kernel
abbrev b_14_1 : ByteArray := prog_14_method_1_code
def y_14_1 : MethodName := ⟨"BalanceCoderModel$Book", "<init>", "()V"⟩
def k_14_1 : List (Nat × Instr × Nat) := [(0, .aload_n 0, 1), (1, .invokespecial 3, 3), (4, .aload_n 0, 1), (5, .bipush 6, 2), (7, .newarray .int, 2), (9, .putfield 9, 3), (12, .aload_n 0, 1), (13, .sipush 2400, 3), (16, .newarray .int, 2), (18, .putfield 15, 3), (21, .aload_n 0, 1), (22, .bipush 10, 2), (24, .newarray .int, 2), (26, .putfield 18, 3), (29, .aload_n 0, 1), (30, .bipush 10, 2), (32, .newarray .int, 2), (34, .putfield 21, 3), (37, .aload_n 0, 1), (38, .bipush 10, 2), (40, .newarray .boolean, 2), (42, .putfield 24, 3), (45, .aload_n 0, 1), (46, .sipush 10240, 3), (49, .newarray .int, 2), (51, .putfield 28, 3), (54, .aload_n 0, 1), (55, .sipush 4400, 3), (58, .newarray .int, 2), (60, .putfield 31, 3), (63, .return_, 1)]
theorem kd_14_1 : ∀ x ∈ k_14_1, decode b_14_1 x.1 = .ok x.2 := by decide +kernel
abbrev b_13_1 : ByteArray := prog_13_method_1_code
def y_13_1 : MethodName := ⟨"BalanceCoderModel", "<init>", "()V"⟩
def k_13_1 : List (Nat × Instr × Nat) := [(0, .aload_n 0, 1), (1, .invokespecial 1, 3), (4, .aload_n 0, 1), (5, .new 7, 3), (8, .dup, 1), (9, .invokespecial 9, 3), (12, .putfield 10, 3), (15, .aload_n 0, 1), (16, .new 7, 3), (19, .dup, 1), (20, .invokespecial 9, 3), (23, .putfield 16, 3), (26, .aload_n 0, 1), (27, .sipush 400, 3), (30, .newarray .int, 2), (32, .putfield 19, 3), (35, .aload_n 0, 1), (36, .sipush 400, 3), (39, .newarray .int, 2), (41, .putfield 23, 3), (44, .aload_n 0, 1), (45, .sipush 256, 3), (48, .newarray .int, 2), (50, .putfield 26, 3), (53, .aload_n 0, 1), (54, .sipush 256, 3), (57, .newarray .int, 2), (59, .putfield 29, 3), (62, .aload_n 0, 1), (63, .sipush 1024, 3), (66, .newarray .int, 2), (68, .putfield 32, 3), (71, .aload_n 0, 1), (72, .sipush 400, 3), (75, .newarray .int, 2), (77, .putfield 35, 3), (80, .aload_n 0, 1), (81, .sipush 400, 3), (84, .newarray .int, 2), (86, .putfield 38, 3), (89, .aload_n 0, 1), (90, .iconst 4, 1), (91, .newarray .long, 2), (93, .putfield 41, 3), (96, .aload_n 0, 1), (97, .sipush 1200, 3), (100, .newarray .int, 2), (102, .putfield 45, 3), (105, .aload_n 0, 1), (106, .sipush 4500, 3), (109, .newarray .int, 2), (111, .putfield 48, 3), (114, .aload_n 0, 1), (115, .sipush 1024, 3), (118, .newarray .int, 2), (120, .putfield 51, 3), (123, .aload_n 0, 1), (124, .sipush 400, 3), (127, .newarray .int, 2), (129, .putfield 54, 3), (132, .aload_n 0, 1), (133, .sipush 400, 3), (136, .newarray .long, 2), (138, .putfield 57, 3), (141, .aload_n 0, 1), (142, .sipush 400, 3), (145, .newarray .int, 2), (147, .putfield 60, 3), (150, .return_, 1)]
theorem kd_13_1 : ∀ x ∈ k_13_1, decode b_13_1 x.1 = .ok x.2 := by decide +kernel
abbrev b_1_30 : ByteArray := prog_1_method_30_code
def y_1_30 : MethodName := ⟨"BalanceCoder", "tableOf", "(I)LBalanceCoder$Table;"⟩
def k_1_30 : List (Nat × Instr × Nat) := [(0, .iload_n 1, 1), (1, .ifCond .lt 14, 3), (4, .iload_n 1, 1), (5, .aload_n 0, 1), (6, .getfield 10, 3), (9, .getfield 79, 3), (12, .if_icmp .lt 7, 3), (15, .aconst_null, 1), (16, .goto 12, 3), (19, .aload_n 0, 1), (20, .getfield 10, 3), (23, .getfield 243, 3), (26, .iload_n 1, 1), (27, .aaload, 1), (28, .areturn, 1)]
theorem kd_1_30 : ∀ x ∈ k_1_30, decode b_1_30 x.1 = .ok x.2 := by decide +kernel
abbrev b_1_27 : ByteArray := prog_1_method_27_code
def y_1_27 : MethodName := ⟨"BalanceCoder", "found", "(I)I"⟩
def k_1_27 : List (Nat × Instr × Nat) := [(0, .aload_n 0, 1), (1, .dup, 1), (2, .getfield 48, 3), (5, .iconst 1, 1), (6, .iadd, 1), (7, .putfield 48, 3), (10, .iload_n 1, 1), (11, .ireturn, 1)]
theorem kd_1_27 : ∀ x ∈ k_1_27, decode b_1_27 x.1 = .ok x.2 := by decide +kernel
abbrev b_1_11 : ByteArray := prog_1_method_11_code
def y_1_11 : MethodName := ⟨"BalanceCoder", "as", "(II)I"⟩
def k_1_11 : List (Nat × Instr × Nat) := [(0, .aload_n 0, 1), (1, .iload_n 1, 1), (2, .invokevirtual 92, 3), (5, .astore_n 3, 1), (6, .aload_n 3, 1), (7, .ifnull 10, 3), (10, .iload_n 2, 1), (11, .invokestatic 75, 3), (14, .ifCond .ne 9, 3), (17, .aload_n 0, 1), (18, .iconst (-1), 1), (19, .invokevirtual 55, 3), (22, .ireturn, 1), (23, .aload_n 3, 1), (24, .iload_n 2, 1), (25, .invokevirtual 148, 3), (28, .ifCond .eq 7, 3), (31, .iload_n 1, 1), (32, .goto 9, 3), (35, .aload_n 0, 1), (36, .bipush (-3), 2), (38, .invokevirtual 55, 3), (41, .ireturn, 1)]
theorem kd_1_11 : ∀ x ∈ k_1_11, decode b_1_11 x.1 = .ok x.2 := by decide +kernel
abbrev b_13_3 : ByteArray := prog_13_method_3_code
def y_13_3 : MethodName := ⟨"BalanceCoderModel", "in", "(JJJ)Z"⟩
def k_13_3 : List (Nat × Instr × Nat) := [(0, .lload_n 0, 1), (1, .lload_n 2, 1), (2, .lcmp, 1), (3, .ifCond .lt 14, 3), (6, .lload_n 0, 1), (7, .lload 4, 2), (9, .lcmp, 1), (10, .ifCond .gt 7, 3), (13, .iconst 1, 1), (14, .goto 4, 3), (17, .iconst 0, 1), (18, .ireturn, 1)]
theorem kd_13_3 : ∀ x ∈ k_13_3, decode b_13_3 x.1 = .ok x.2 := by decide +kernel
abbrev b_13_5 : ByteArray := prog_13_method_5_code
def y_13_5 : MethodName := ⟨"BalanceCoderModel", "isTable", "(I)Z"⟩
def k_13_5 : List (Nat × Instr × Nat) := [(0, .iload_n 1, 1), (1, .i2l, 1), (2, .lconst 0, 1), (3, .aload_n 0, 1), (4, .getfield 10, 3), (7, .getfield 73, 3), (10, .iconst 1, 1), (11, .isub, 1), (12, .i2l, 1), (13, .invokestatic 69, 3), (16, .ireturn, 1)]
theorem kd_13_5 : ∀ x ∈ k_13_5, decode b_13_5 x.1 = .ok x.2 := by decide +kernel
abbrev b_13_2 : ByteArray := prog_13_method_2_code
def y_13_2 : MethodName := ⟨"BalanceCoderModel", "found", "(I)I"⟩
def k_13_2 : List (Nat × Instr × Nat) := [(0, .iload_n 1, 1), (1, .ifCond .ge 13, 3), (4, .aload_n 0, 1), (5, .dup, 1), (6, .getfield 63, 3), (9, .iconst 1, 1), (10, .iadd, 1), (11, .putfield 63, 3), (14, .iload_n 1, 1), (15, .ireturn, 1)]
theorem kd_13_2 : ∀ x ∈ k_13_2, decode b_13_2 x.1 = .ok x.2 := by decide +kernel
abbrev b_13_22 : ByteArray := prog_13_method_22_code
def y_13_22 : MethodName := ⟨"BalanceCoderModel", "as", "(II)I"⟩
def k_13_22 : List (Nat × Instr × Nat) := [(0, .aload_n 0, 1), (1, .iload_n 1, 1), (2, .invokevirtual 117, 3), (5, .ifCond .eq 15, 3), (8, .iload_n 2, 1), (9, .i2l, 1), (10, .lconst 0, 1), (11, .ldc2_w 96, 3), (14, .invokestatic 69, 3), (17, .ifCond .ne 9, 3), (20, .aload_n 0, 1), (21, .iconst (-1), 1), (22, .invokevirtual 82, 3), (25, .ireturn, 1), (26, .aload_n 0, 1), (27, .getfield 10, 3), (30, .getfield 100, 3), (33, .iload_n 1, 1), (34, .iaload, 1), (35, .istore_n 3, 1), (36, .iload_n 3, 1), (37, .iload_n 2, 1), (38, .if_icmp .eq 27, 3), (41, .iload_n 2, 1), (42, .iconst 2, 1), (43, .if_icmp .ne 8, 3), (46, .iload_n 3, 1), (47, .iconst 3, 1), (48, .if_icmp .eq 17, 3), (51, .iload_n 2, 1), (52, .ifCond .ne 17, 3), (55, .iload_n 3, 1), (56, .iconst 2, 1), (57, .if_icmp .eq 8, 3), (60, .iload_n 3, 1), (61, .iconst 3, 1), (62, .if_icmp .ne 7, 3), (65, .iconst 1, 1), (66, .goto 4, 3), (69, .iconst 0, 1), (70, .istore 4, 2), (72, .iload 4, 2), (74, .ifCond .eq 7, 3), (77, .iload_n 1, 1), (78, .goto 9, 3), (81, .aload_n 0, 1), (82, .bipush (-3), 2), (84, .invokevirtual 82, 3), (87, .ireturn, 1)]
theorem kd_13_22 : ∀ x ∈ k_13_22, decode b_13_22 x.1 = .ok x.2 := by decide +kernel
abbrev b_1_25 : ByteArray := prog_1_method_25_code
def y_1_25 : MethodName := ⟨"BalanceCoder", "back", "()I"⟩
def k_1_25 : List (Nat × Instr × Nat) := [(0, .aload_n 0, 1), (1, .getfield 16, 3), (4, .ifnonnull 10, 3), (7, .aload_n 0, 1), (8, .bipush (-6), 2), (10, .invokevirtual 55, 3), (13, .ireturn, 1), (14, .aload_n 0, 1), (15, .getfield 10, 3), (18, .aload_n 0, 1), (19, .getfield 16, 3), (22, .invokevirtual 233, 3), (25, .iconst 1, 1), (26, .ireturn, 1)]
theorem kd_1_25 : ∀ x ∈ k_1_25, decode b_1_25 x.1 = .ok x.2 := by decide +kernel
abbrev b_13_53 : ByteArray := prog_13_method_53_code
def y_13_53 : MethodName := ⟨"BalanceCoderModel", "back", "()I"⟩
def k_13_53 : List (Nat × Instr × Nat) := [(0, .aload_n 0, 1), (1, .getfield 275, 3), (4, .ifCond .ne 10, 3), (7, .aload_n 0, 1), (8, .bipush (-6), 2), (10, .invokevirtual 82, 3), (13, .ireturn, 1), (14, .aload_n 0, 1), (15, .getfield 10, 3), (18, .aload_n 0, 1), (19, .getfield 16, 3), (22, .invokevirtual 271, 3), (25, .iconst 1, 1), (26, .ireturn, 1)]
theorem kd_13_53 : ∀ x ∈ k_13_53, decode b_13_53 x.1 = .ok x.2 := by decide +kernel
