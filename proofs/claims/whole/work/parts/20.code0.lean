/-! the code of the methods 0 and on, block by block -/
-- X0_init
def lp_0 : Nat → Nat := fun b => ([0, 48, 52, 53, 64, 74, 79] : List Nat).getD b 0
def bl_0_0 : List am_E := [(0, .aload_n 0, 1, i_load 0 10), (1, .invokespecial 3, 3, i_oini 10), (4, .aload_n 0, 1, i_load 0 10), (5, .bipush 21, 2, i_push 0 21), (7, .newarray .int, 2, i_newa 20), (9, .putfield 9, 3, i_putr 10 6 30), (12, .aload_n 0, 1, i_load 0 10), (13, .aconst_null, 1, i_push 3 (-1)), (14, .putfield 15, 3, i_putn 10 7), (17, .aload_n 0, 1, i_load 0 10), (18, .aconst_null, 1, i_push 3 (-1)), (19, .putfield 18, 3, i_putn 10 8), (22, .aload_n 0, 1, i_load 0 10), (23, .aconst_null, 1, i_push 3 (-1)), (24, .putfield 21, 3, i_putn 10 9), (27, .aload_n 0, 1, i_load 0 10), (28, .iconst 0, 1, i_push 0 0), (29, .putfield 24, 3, i_putf 10 10 0), (32, .aload_n 0, 1, i_load 0 10), (33, .aload_n 1, 1, i_load 1 19), (34, .putfield 28, 3, i_putr 10 0 19), (37, .aload_n 0, 1, i_load 0 10), (38, .iload_n 2, 1, i_load 2 0), (39, .putfield 32, 3, i_putf 10 1 0), (42, .aload_n 0, 1, i_load 0 10), (43, .iload_n 3, 1, i_load 3 0), (44, .iconst 1, 1, i_push 0 1), (45, .if_icmp .ne 7, 3, i_if2 (fun a b => a ≠ b) 2 1)]
def bl_0_1 : List am_E := [(48, .iconst 1, 1, i_push 0 1), (49, .goto 4, 3, i_goto 3)]
def bl_0_2 : List am_E := [(52, .iconst 0, 1, i_push 0 0)]
def bl_0_3 : List am_E := [(53, .putfield 35, 3, i_putz 10 2), (56, .aload_n 0, 1, i_load 0 10), (57, .aload_n 0, 1, i_load 0 10), (58, .getfield 35, 3, i_getf 10 2 0), (61, .ifCond .eq 13, 3, i_if1 (fun a => a = 0) 5 4)]
def bl_0_4 : List am_E := [(64, .getstatic 39, 3, i_push 4 0), (67, .iload_n 2, 1, i_load 2 0), (68, .iaload, 1, i_tab 4 0 6 fa_), (69, .iload_n 2, 1, i_load 2 0), (70, .ishl, 1, i_op2 0 (fun a b => w32 (a * 2 ^ (b % 32).toNat))), (71, .goto 8, 3, i_goto 6)]
def bl_0_5 : List am_E := [(74, .getstatic 39, 3, i_push 4 0), (77, .iload_n 2, 1, i_load 2 0), (78, .iaload, 1, i_tab 4 0 6 fa_)]
def bl_0_6 : List am_E := [(79, .putfield 42, 3, i_putf 10 3 0), (82, .aload_n 0, 1, i_load 0 10), (83, .aload_n 0, 1, i_load 0 10), (84, .getfield 42, 3, i_getf 10 3 0), (87, .newarray .int, 2, i_newa 20), (89, .putfield 45, 3, i_putr 10 4 30), (92, .aload_n 0, 1, i_load 0 10), (93, .aload_n 0, 1, i_load 0 10), (94, .getfield 42, 3, i_getf 10 3 0), (97, .newarray .int, 2, i_newa 20), (99, .putfield 48, 3, i_putr 10 5 30), (102, .return_, 1, i_vret)]
def cd_0 : Nat × List (List Bool × am_B) := (4, [([true, true, true, true], (bl_0_0, 9999)), ([true, false, true, false], (bl_0_1, 9999)), ([true, false, true, false], (bl_0_2, 3)), ([true, false, true, false], (bl_0_3, 9999)), ([true, false, true, false], (bl_0_4, 9999)), ([true, false, true, false], (bl_0_5, 6)), ([true, false, false, false], (bl_0_6, 9999))])
-- X9_ofFaces
def lp_1 : Nat → Nat := fun b => ([0] : List Nat).getD b 0
def bl_1_0 : List am_E := [(0, .aload_n 0, 1, i_load 0 19), (1, .getfield 15, 3, i_getr 19 1 30), (4, .iload_n 1, 1, i_load 1 0), (5, .iconst 5, 1, i_push 0 5), (6, .imul, 1, i_op2 0 (fun a b => w32 (a * b))), (7, .iload_n 2, 1, i_load 2 0), (8, .iadd, 1, i_op2 0 (fun a b => w32 (a + b))), (9, .iconst 1, 1, i_push 0 1), (10, .isub, 1, i_op2 0 (fun a b => w32 (a - b))), (11, .iaload, 1, i_ald 30 0), (12, .ireturn, 1, i_ret 0)]
def cd_1 : Nat × List (List Bool × am_B) := (3, [([true, true, true], (bl_1_0, 9999))])
-- X9_ofOrder
def lp_2 : Nat → Nat := fun b => ([0] : List Nat).getD b 0
def bl_2_0 : List am_E := [(0, .aload_n 0, 1, i_load 0 19), (1, .getfield 11, 3, i_getr 19 0 30), (4, .iload_n 1, 1, i_load 1 0), (5, .iconst 5, 1, i_push 0 5), (6, .imul, 1, i_op2 0 (fun a b => w32 (a * b))), (7, .iload_n 2, 1, i_load 2 0), (8, .iadd, 1, i_op2 0 (fun a b => w32 (a + b))), (9, .iconst 1, 1, i_push 0 1), (10, .isub, 1, i_op2 0 (fun a b => w32 (a - b))), (11, .iaload, 1, i_ald 30 0), (12, .ireturn, 1, i_ret 0)]
def cd_2 : Nat × List (List Bool × am_B) := (3, [([true, true, true], (bl_2_0, 9999))])
-- X0_turned
def lp_3 : Nat → Nat := fun b => ([0, 7, 17] : List Nat).getD b 0
def bl_3_0 : List am_E := [(0, .aload_n 0, 1, i_load 0 10), (1, .getfield 35, 3, i_getf 10 2 0), (4, .ifCond .ne 13, 3, i_if1 (fun a => a ≠ 0) 2 1)]
def bl_3_1 : List am_E := [(7, .aload_n 0, 1, i_load 0 10), (8, .getfield 28, 3, i_getr 10 0 19), (11, .iload_n 1, 1, i_load 1 0), (12, .iload_n 2, 1, i_load 2 0), (13, .invokevirtual 55, 3, i_vcall 2 3 [19, 0, 0] 0), (16, .ireturn, 1, i_ret 0)]
def bl_3_2 : List am_E := [(17, .iload_n 1, 1, i_load 1 0), (18, .iconst 1, 1, i_push 0 1), (19, .aload_n 0, 1, i_load 0 10), (20, .getfield 32, 3, i_getf 10 1 0), (23, .ishl, 1, i_op2 0 (fun a b => w32 (a * 2 ^ (b % 32).toNat))), (24, .iconst 1, 1, i_push 0 1), (25, .isub, 1, i_op2 0 (fun a b => w32 (a - b))), (26, .iand, 1, i_op2 0 (fun a b => an_ a b)), (27, .istore_n 3, 1, i_store 3 0), (28, .aload_n 0, 1, i_load 0 10), (29, .getfield 28, 3, i_getr 10 0 19), (32, .iload_n 1, 1, i_load 1 0), (33, .aload_n 0, 1, i_load 0 10), (34, .getfield 32, 3, i_getf 10 1 0), (37, .ishr, 1, i_op2 0 (fun a b => a / 2 ^ (b % 32).toNat)), (38, .iload_n 2, 1, i_load 2 0), (39, .invokevirtual 55, 3, i_vcall 2 3 [19, 0, 0] 0), (42, .aload_n 0, 1, i_load 0 10), (43, .getfield 32, 3, i_getf 10 1 0), (46, .ishl, 1, i_op2 0 (fun a b => w32 (a * 2 ^ (b % 32).toNat))), (47, .aload_n 0, 1, i_load 0 10), (48, .getfield 28, 3, i_getr 10 0 19), (51, .iload_n 3, 1, i_load 3 0), (52, .iload_n 2, 1, i_load 2 0), (53, .invokevirtual 60, 3, i_vcall 1 3 [19, 0, 0] 0), (56, .ior, 1, i_op2 0 (fun a b => or_ a b)), (57, .ireturn, 1, i_ret 0)]
def cd_3 : Nat × List (List Bool × am_B) := (4, [([true, true, true, false], (bl_3_0, 9999)), ([true, true, true, false], (bl_3_1, 9999)), ([true, true, true, false], (bl_3_2, 9999))])
-- X0_measure
def lp_4 : Nat → Nat := fun b => ([0, 9, 17, 30, 41, 46, 54, 78, 87, 108, 132, 151, 168, 174, 180] : List Nat).getD b 0
def bl_4_0 : List am_E := [(0, .aload_n 0, 1, i_load 0 10), (1, .getfield 42, 3, i_getf 10 3 0), (4, .newarray .int, 2, i_newa 20), (6, .astore_n 1, 1, i_store 1 30), (7, .iconst 1, 1, i_push 0 1), (8, .istore_n 2, 1, i_store 2 0)]
def bl_4_1 : List am_E := [(9, .iload_n 2, 1, i_load 2 0), (10, .aload_n 0, 1, i_load 0 10), (11, .getfield 42, 3, i_getf 10 3 0), (14, .if_icmp .ge 16, 3, i_if2 (fun a b => b ≤ a) 3 2)]
def bl_4_2 : List am_E := [(17, .aload_n 0, 1, i_load 0 10), (18, .getfield 45, 3, i_getr 10 4 30), (21, .iload_n 2, 1, i_load 2 0), (22, .iconst (-1), 1, i_push 0 (-1)), (23, .iastore, 1, i_ast 30 0), (24, .iinc 2 1, 3, i_inc 2 1), (27, .goto (-18), 3, i_goto 1)]
def bl_4_3 : List am_E := [(30, .aload_n 0, 1, i_load 0 10), (31, .getfield 48, 3, i_getr 10 5 30), (34, .iconst 0, 1, i_push 0 0), (35, .iconst 1, 1, i_push 0 1), (36, .iastore, 1, i_ast 30 0), (37, .iconst 1, 1, i_push 0 1), (38, .istore_n 2, 1, i_store 2 0), (39, .iconst 0, 1, i_push 0 0), (40, .istore_n 3, 1, i_store 3 0)]
def bl_4_4 : List am_E := [(41, .iload_n 3, 1, i_load 3 0), (42, .iload_n 2, 1, i_load 2 0), (43, .if_icmp .ge 137, 3, i_if2 (fun a b => b ≤ a) 14 5)]
def bl_4_5 : List am_E := [(46, .iload_n 3, 1, i_load 3 0), (47, .aload_n 0, 1, i_load 0 10), (48, .getfield 42, 3, i_getf 10 3 0), (51, .if_icmp .ge 129, 3, i_if2 (fun a b => b ≤ a) 14 6)]
def bl_4_6 : List am_E := [(54, .aload_n 1, 1, i_load 1 30), (55, .iload_n 3, 1, i_load 3 0), (56, .iaload, 1, i_ald 30 0), (57, .istore 4, 2, i_store 4 0), (59, .aload_n 0, 1, i_load 0 10), (60, .getfield 9, 3, i_getr 10 6 30), (63, .aload_n 0, 1, i_load 0 10), (64, .getfield 45, 3, i_getr 10 4 30), (67, .iload 4, 2, i_load 4 0), (69, .iaload, 1, i_ald 30 0), (70, .dup2, 1, i_dup2), (71, .iaload, 1, i_ald 30 0), (72, .iconst 1, 1, i_push 0 1), (73, .iadd, 1, i_op2 0 (fun a b => w32 (a + b))), (74, .iastore, 1, i_ast 30 0), (75, .iconst 1, 1, i_push 0 1), (76, .istore 5, 2, i_store 5 0)]
def bl_4_7 : List am_E := [(78, .iload 5, 2, i_load 5 0), (80, .aload_n 0, 1, i_load 0 10), (81, .getfield 32, 3, i_getf 10 1 0), (84, .if_icmp .gt 90, 3, i_if2 (fun a b => b < a) 13 8)]
def bl_4_8 : List am_E := [(87, .aload_n 0, 1, i_load 0 10), (88, .iload 4, 2, i_load 4 0), (90, .iload 5, 2, i_load 5 0), (92, .invokevirtual 51, 3, i_vcall 3 3 [10, 0, 0] 0), (95, .istore 6, 2, i_store 6 0), (97, .aload_n 0, 1, i_load 0 10), (98, .getfield 45, 3, i_getr 10 4 30), (101, .iload 6, 2, i_load 6 0), (103, .iaload, 1, i_ald 30 0), (104, .iconst (-1), 1, i_push 0 (-1)), (105, .if_icmp .ne 27, 3, i_if2 (fun a b => a ≠ b) 10 9)]
def bl_4_9 : List am_E := [(108, .aload_n 0, 1, i_load 0 10), (109, .getfield 45, 3, i_getr 10 4 30), (112, .iload 6, 2, i_load 6 0), (114, .aload_n 0, 1, i_load 0 10), (115, .getfield 45, 3, i_getr 10 4 30), (118, .iload 4, 2, i_load 4 0), (120, .iaload, 1, i_ald 30 0), (121, .iconst 1, 1, i_push 0 1), (122, .iadd, 1, i_op2 0 (fun a b => w32 (a + b))), (123, .iastore, 1, i_ast 30 0), (124, .aload_n 1, 1, i_load 1 30), (125, .iload_n 2, 1, i_load 2 0), (126, .iload 6, 2, i_load 6 0), (128, .iastore, 1, i_ast 30 0), (129, .iinc 2 1, 3, i_inc 2 1)]
def bl_4_10 : List am_E := [(132, .aload_n 0, 1, i_load 0 10), (133, .getfield 45, 3, i_getr 10 4 30), (136, .iload 6, 2, i_load 6 0), (138, .iaload, 1, i_ald 30 0), (139, .aload_n 0, 1, i_load 0 10), (140, .getfield 45, 3, i_getr 10 4 30), (143, .iload 4, 2, i_load 4 0), (145, .iaload, 1, i_ald 30 0), (146, .iconst 1, 1, i_push 0 1), (147, .iadd, 1, i_op2 0 (fun a b => w32 (a + b))), (148, .if_icmp .ne 20, 3, i_if2 (fun a b => a ≠ b) 12 11)]
def bl_4_11 : List am_E := [(151, .aload_n 0, 1, i_load 0 10), (152, .getfield 48, 3, i_getr 10 5 30), (155, .iload 6, 2, i_load 6 0), (157, .dup2, 1, i_dup2), (158, .iaload, 1, i_ald 30 0), (159, .aload_n 0, 1, i_load 0 10), (160, .getfield 48, 3, i_getr 10 5 30), (163, .iload 4, 2, i_load 4 0), (165, .iaload, 1, i_ald 30 0), (166, .iadd, 1, i_op2 0 (fun a b => w32 (a + b))), (167, .iastore, 1, i_ast 30 0)]
def bl_4_12 : List am_E := [(168, .iinc 5 1, 3, i_inc 5 1), (171, .goto (-93), 3, i_goto 7)]
def bl_4_13 : List am_E := [(174, .iinc 3 1, 3, i_inc 3 1), (177, .goto (-136), 3, i_goto 4)]
def bl_4_14 : List am_E := [(180, .return_, 1, i_vret)]
def cd_4 : Nat × List (List Bool × am_B) := (7, [([true, false, false, false, false, false, false], (bl_4_0, 1)), ([true, true, true, false, false, false, false], (bl_4_1, 9999)), ([true, true, true, false, false, false, false], (bl_4_2, 9999)), ([true, true, false, false, false, false, false], (bl_4_3, 4)), ([true, true, true, true, false, false, false], (bl_4_4, 9999)), ([true, true, true, true, false, false, false], (bl_4_5, 9999)), ([true, true, true, true, false, false, false], (bl_4_6, 7)), ([true, true, true, true, true, true, false], (bl_4_7, 9999)), ([true, true, true, true, true, true, false], (bl_4_8, 9999)), ([true, true, true, true, true, true, true], (bl_4_9, 10)), ([true, true, true, true, true, true, true], (bl_4_10, 9999)), ([true, true, true, true, true, true, true], (bl_4_11, 12)), ([true, true, true, true, true, true, false], (bl_4_12, 9999)), ([true, true, true, true, false, false, false], (bl_4_13, 9999)), ([false, false, false, false, false, false, false], (bl_4_14, 9999))])
-- X0_has
def lp_5 : Nat → Nat := fun b => ([0, 4, 12, 16, 17] : List Nat).getD b 0
def bl_5_0 : List am_E := [(0, .iload_n 1, 1, i_load 1 0), (1, .ifCond .lt 15, 3, i_if1 (fun a => a < 0) 3 1)]
def bl_5_1 : List am_E := [(4, .iload_n 1, 1, i_load 1 0), (5, .aload_n 0, 1, i_load 0 10), (6, .getfield 42, 3, i_getf 10 3 0), (9, .if_icmp .ge 7, 3, i_if2 (fun a b => b ≤ a) 3 2)]
def bl_5_2 : List am_E := [(12, .iconst 1, 1, i_push 0 1), (13, .goto 4, 3, i_goto 4)]
def bl_5_3 : List am_E := [(16, .iconst 0, 1, i_push 0 0)]
def bl_5_4 : List am_E := [(17, .ireturn, 1, i_zret)]
def cd_5 : Nat × List (List Bool × am_B) := (2, [([true, true], (bl_5_0, 9999)), ([true, true], (bl_5_1, 9999)), ([false, false], (bl_5_2, 9999)), ([false, false], (bl_5_3, 4)), ([false, false], (bl_5_4, 9999))])
-- X0_leastOf
def lp_6 : Nat → Nat := fun b => ([0, 8, 17, 18] : List Nat).getD b 0
def bl_6_0 : List am_E := [(0, .aload_n 0, 1, i_load 0 10), (1, .iload_n 1, 1, i_load 1 0), (2, .invokevirtual 63, 3, i_vcall 5 2 [10, 0] 0), (5, .ifCond .eq 12, 3, i_if1 (fun a => a = 0) 2 1)]
def bl_6_1 : List am_E := [(8, .aload_n 0, 1, i_load 0 10), (9, .getfield 45, 3, i_getr 10 4 30), (12, .iload_n 1, 1, i_load 1 0), (13, .iaload, 1, i_ald 30 0), (14, .goto 4, 3, i_goto 3)]
def bl_6_2 : List am_E := [(17, .iconst (-1), 1, i_push 0 (-1))]
def bl_6_3 : List am_E := [(18, .ireturn, 1, i_ret 0)]
def cd_6 : Nat × List (List Bool × am_B) := (2, [([true, true], (bl_6_0, 9999)), ([true, true], (bl_6_1, 9999)), ([false, false], (bl_6_2, 3)), ([false, false], (bl_6_3, 9999))])
-- X0_rowsOf
def lp_7 : Nat → Nat := fun b => ([0, 8, 17, 18] : List Nat).getD b 0
def bl_7_0 : List am_E := [(0, .aload_n 0, 1, i_load 0 10), (1, .iload_n 1, 1, i_load 1 0), (2, .invokevirtual 63, 3, i_vcall 5 2 [10, 0] 0), (5, .ifCond .eq 12, 3, i_if1 (fun a => a = 0) 2 1)]
def bl_7_1 : List am_E := [(8, .aload_n 0, 1, i_load 0 10), (9, .getfield 48, 3, i_getr 10 5 30), (12, .iload_n 1, 1, i_load 1 0), (13, .iaload, 1, i_ald 30 0), (14, .goto 4, 3, i_goto 3)]
def bl_7_2 : List am_E := [(17, .iconst (-1), 1, i_push 0 (-1))]
def bl_7_3 : List am_E := [(18, .ireturn, 1, i_ret 0)]
def cd_7 : Nat × List (List Bool × am_B) := (2, [([true, true], (bl_7_0, 9999)), ([true, true], (bl_7_1, 9999)), ([false, false], (bl_7_2, 3)), ([false, false], (bl_7_3, 9999))])
-- X0_nearing
def lp_8 : Nat → Nat := fun b => ([0, 8, 10, 12, 20, 42, 44, 50] : List Nat).getD b 0
def bl_8_0 : List am_E := [(0, .aload_n 0, 1, i_load 0 10), (1, .iload_n 1, 1, i_load 1 0), (2, .invokevirtual 63, 3, i_vcall 5 2 [10, 0] 0), (5, .ifCond .ne 5, 3, i_if1 (fun a => a ≠ 0) 2 1)]
def bl_8_1 : List am_E := [(8, .iconst (-1), 1, i_push 0 (-1)), (9, .ireturn, 1, i_ret 0)]
def bl_8_2 : List am_E := [(10, .iconst 1, 1, i_push 0 1), (11, .istore_n 2, 1, i_store 2 0)]
def bl_8_3 : List am_E := [(12, .iload_n 2, 1, i_load 2 0), (13, .aload_n 0, 1, i_load 0 10), (14, .getfield 32, 3, i_getf 10 1 0), (17, .if_icmp .gt 33, 3, i_if2 (fun a b => b < a) 7 4)]
def bl_8_4 : List am_E := [(20, .aload_n 0, 1, i_load 0 10), (21, .getfield 45, 3, i_getr 10 4 30), (24, .aload_n 0, 1, i_load 0 10), (25, .iload_n 1, 1, i_load 1 0), (26, .iload_n 2, 1, i_load 2 0), (27, .invokevirtual 51, 3, i_vcall 3 3 [10, 0, 0] 0), (30, .iaload, 1, i_ald 30 0), (31, .aload_n 0, 1, i_load 0 10), (32, .getfield 45, 3, i_getr 10 4 30), (35, .iload_n 1, 1, i_load 1 0), (36, .iaload, 1, i_ald 30 0), (37, .iconst 1, 1, i_push 0 1), (38, .isub, 1, i_op2 0 (fun a b => w32 (a - b))), (39, .if_icmp .ne 5, 3, i_if2 (fun a b => a ≠ b) 6 5)]
def bl_8_5 : List am_E := [(42, .iload_n 2, 1, i_load 2 0), (43, .ireturn, 1, i_ret 0)]
def bl_8_6 : List am_E := [(44, .iinc 2 1, 3, i_inc 2 1), (47, .goto (-35), 3, i_goto 3)]
def bl_8_7 : List am_E := [(50, .bipush (-2), 2, i_push 0 (-2)), (52, .ireturn, 1, i_ret 0)]
def cd_8 : Nat × List (List Bool × am_B) := (3, [([true, true, false], (bl_8_0, 9999)), ([false, false, false], (bl_8_1, 9999)), ([true, true, false], (bl_8_2, 3)), ([true, true, true], (bl_8_3, 9999)), ([true, true, true], (bl_8_4, 9999)), ([false, false, true], (bl_8_5, 9999)), ([true, true, true], (bl_8_6, 9999)), ([false, false, false], (bl_8_7, 9999))])
-- X0_furthestLeast
def lp_9 : Nat → Nat := fun b => ([0, 4, 10, 19, 21, 27] : List Nat).getD b 0
def bl_9_0 : List am_E := [(0, .iconst 0, 1, i_push 0 0), (1, .istore_n 1, 1, i_store 1 0), (2, .iconst 0, 1, i_push 0 0), (3, .istore_n 2, 1, i_store 2 0)]
def bl_9_1 : List am_E := [(4, .iload_n 2, 1, i_load 2 0), (5, .bipush 20, 2, i_push 0 20), (7, .if_icmp .gt 20, 3, i_if2 (fun a b => b < a) 5 2)]
def bl_9_2 : List am_E := [(10, .aload_n 0, 1, i_load 0 10), (11, .getfield 9, 3, i_getr 10 6 30), (14, .iload_n 2, 1, i_load 2 0), (15, .iaload, 1, i_ald 30 0), (16, .ifCond .le 5, 3, i_if1 (fun a => a ≤ 0) 4 3)]
def bl_9_3 : List am_E := [(19, .iload_n 2, 1, i_load 2 0), (20, .istore_n 1, 1, i_store 1 0)]
def bl_9_4 : List am_E := [(21, .iinc 2 1, 3, i_inc 2 1), (24, .goto (-20), 3, i_goto 1)]
def bl_9_5 : List am_E := [(27, .iload_n 1, 1, i_load 1 0), (28, .ireturn, 1, i_ret 0)]
def cd_9 : Nat × List (List Bool × am_B) := (3, [([true, false, false], (bl_9_0, 1)), ([true, true, true], (bl_9_1, 9999)), ([true, true, true], (bl_9_2, 9999)), ([true, false, true], (bl_9_3, 4)), ([true, true, true], (bl_9_4, 9999)), ([false, true, false], (bl_9_5, 9999))])
-- X0_statesAt
def lp_10 : Nat → Nat := fun b => ([0, 4, 10, 14, 20] : List Nat).getD b 0
def bl_10_0 : List am_E := [(0, .iload_n 1, 1, i_load 1 0), (1, .ifCond .lt 9, 3, i_if1 (fun a => a < 0) 2 1)]
def bl_10_1 : List am_E := [(4, .iload_n 1, 1, i_load 1 0), (5, .bipush 20, 2, i_push 0 20), (7, .if_icmp .le 7, 3, i_if2 (fun a b => a ≤ b) 3 2)]
def bl_10_2 : List am_E := [(10, .iconst (-1), 1, i_push 0 (-1)), (11, .goto 9, 3, i_goto 4)]
def bl_10_3 : List am_E := [(14, .aload_n 0, 1, i_load 0 10), (15, .getfield 9, 3, i_getr 10 6 30), (18, .iload_n 1, 1, i_load 1 0), (19, .iaload, 1, i_ald 30 0)]
def bl_10_4 : List am_E := [(20, .ireturn, 1, i_ret 0)]
def cd_10 : Nat × List (List Bool × am_B) := (2, [([true, true], (bl_10_0, 9999)), ([true, true], (bl_10_1, 9999)), ([false, false], (bl_10_2, 9999)), ([true, true], (bl_10_3, 4)), ([false, false], (bl_10_4, 9999))])
-- X0_reach
def lp_11 : Nat → Nat := fun b => ([0, 20, 26, 36, 41, 47, 58, 74, 81, 88, 95, 112, 121, 128, 129, 134, 143, 155, 160, 167, 183, 199, 205, 211] : List Nat).getD b 0
def bl_11_0 : List am_E := [(0, .iconst 2, 1, i_push 0 2), (1, .aload_n 0, 1, i_load 0 10), (2, .getfield 42, 3, i_getf 10 3 0), (5, .imul, 1, i_op2 0 (fun a b => w32 (a * b))), (6, .newarray .int, 2, i_newa 20), (8, .astore_n 1, 1, i_store 1 30), (9, .iconst 2, 1, i_push 0 2), (10, .aload_n 0, 1, i_load 0 10), (11, .getfield 42, 3, i_getf 10 3 0), (14, .imul, 1, i_op2 0 (fun a b => w32 (a * b))), (15, .newarray .int, 2, i_newa 20), (17, .astore_n 2, 1, i_store 2 30), (18, .iconst 1, 1, i_push 0 1), (19, .istore_n 3, 1, i_store 3 0)]
def bl_11_1 : List am_E := [(20, .iload_n 3, 1, i_load 3 0), (21, .aload_n 1, 1, i_load 1 30), (22, .arraylength, 1, i_alen 30), (23, .if_icmp .ge 13, 3, i_if2 (fun a b => b ≤ a) 3 2)]
def bl_11_2 : List am_E := [(26, .aload_n 1, 1, i_load 1 30), (27, .iload_n 3, 1, i_load 3 0), (28, .iconst (-1), 1, i_push 0 (-1)), (29, .iastore, 1, i_ast 30 0), (30, .iinc 3 1, 3, i_inc 3 1), (33, .goto (-13), 3, i_goto 1)]
def bl_11_3 : List am_E := [(36, .iconst 1, 1, i_push 0 1), (37, .istore_n 3, 1, i_store 3 0), (38, .iconst 0, 1, i_push 0 0), (39, .istore 4, 2, i_store 4 0)]
def bl_11_4 : List am_E := [(41, .iload 4, 2, i_load 4 0), (43, .iload_n 3, 1, i_load 3 0), (44, .if_icmp .ge 167, 3, i_if2 (fun a b => b ≤ a) 23 5)]
def bl_11_5 : List am_E := [(47, .iload 4, 2, i_load 4 0), (49, .iconst 2, 1, i_push 0 2), (50, .aload_n 0, 1, i_load 0 10), (51, .getfield 42, 3, i_getf 10 3 0), (54, .imul, 1, i_op2 0 (fun a b => w32 (a * b))), (55, .if_icmp .ge 156, 3, i_if2 (fun a b => b ≤ a) 23 6)]
def bl_11_6 : List am_E := [(58, .aload_n 2, 1, i_load 2 30), (59, .iload 4, 2, i_load 4 0), (61, .iaload, 1, i_ald 30 0), (62, .istore 5, 2, i_store 5 0), (64, .aload_n 1, 1, i_load 1 30), (65, .iload 5, 2, i_load 5 0), (67, .iaload, 1, i_ald 30 0), (68, .istore 6, 2, i_store 6 0), (70, .iload 6, 2, i_load 6 0), (72, .istore 7, 2, i_store 7 0)]
def bl_11_7 : List am_E := [(74, .iload 7, 2, i_load 7 0), (76, .bipush 9, 2, i_push 0 9), (78, .if_icmp .gt 34, 3, i_if2 (fun a b => b < a) 11 8)]
def bl_11_8 : List am_E := [(81, .aload_n 0, 1, i_load 0 10), (82, .getfield 32, 3, i_getf 10 1 0), (85, .ifCond .gt 10, 3, i_if1 (fun a => 0 < a) 10 9)]
def bl_11_9 : List am_E := [(88, .iload 7, 2, i_load 7 0), (90, .iload 6, 2, i_load 6 0), (92, .if_icmp .ne 20, 3, i_if2 (fun a b => a ≠ b) 11 10)]
def bl_11_10 : List am_E := [(95, .aload_n 0, 1, i_load 0 10), (96, .getfield 15, 3, i_getr 10 7 30), (99, .iload 7, 2, i_load 7 0), (101, .dup2, 1, i_dup2), (102, .iaload, 1, i_ald 30 0), (103, .iconst 1, 1, i_push 0 1), (104, .iadd, 1, i_op2 0 (fun a b => w32 (a + b))), (105, .iastore, 1, i_ast 30 0), (106, .iinc 7 2, 3, i_inc 7 2), (109, .goto (-35), 3, i_goto 7)]
def bl_11_11 : List am_E := [(112, .iload 5, 2, i_load 5 0), (114, .aload_n 0, 1, i_load 0 10), (115, .getfield 42, 3, i_getf 10 3 0), (118, .if_icmp .ge 10, 3, i_if2 (fun a b => b ≤ a) 13 12)]
def bl_11_12 : List am_E := [(121, .aload_n 0, 1, i_load 0 10), (122, .getfield 42, 3, i_getf 10 3 0), (125, .goto 4, 3, i_goto 14)]
def bl_11_13 : List am_E := [(128, .iconst 0, 1, i_push 0 0)]
def bl_11_14 : List am_E := [(129, .istore 7, 2, i_store 7 0), (131, .iconst 1, 1, i_push 0 1), (132, .istore 8, 2, i_store 8 0)]
def bl_11_15 : List am_E := [(134, .iload 8, 2, i_load 8 0), (136, .aload_n 0, 1, i_load 0 10), (137, .getfield 32, 3, i_getf 10 1 0), (140, .if_icmp .gt 65, 3, i_if2 (fun a b => b < a) 22 16)]
def bl_11_16 : List am_E := [(143, .iload 7, 2, i_load 7 0), (145, .aload_n 0, 1, i_load 0 10), (146, .iload 5, 2, i_load 5 0), (148, .aload_n 0, 1, i_load 0 10), (149, .getfield 42, 3, i_getf 10 3 0), (152, .if_icmp .ge 8, 3, i_if2 (fun a b => b ≤ a) 18 17)]
def bl_11_17 : List am_E := [(155, .iload 5, 2, i_load 5 0), (157, .goto 10, 3, i_goto 19)]
def bl_11_18 : List am_E := [(160, .iload 5, 2, i_load 5 0), (162, .aload_n 0, 1, i_load 0 10), (163, .getfield 42, 3, i_getf 10 3 0), (166, .isub, 1, i_op2 0 (fun a b => w32 (a - b)))]
def bl_11_19 : List am_E := [(167, .iload 8, 2, i_load 8 0), (169, .invokevirtual 51, 3, i_vcall 3 3 [10, 0, 0] 0), (172, .iadd, 1, i_op2 0 (fun a b => w32 (a + b))), (173, .istore 9, 2, i_store 9 0), (175, .aload_n 1, 1, i_load 1 30), (176, .iload 9, 2, i_load 9 0), (178, .iaload, 1, i_ald 30 0), (179, .iconst (-1), 1, i_push 0 (-1)), (180, .if_icmp .ne 19, 3, i_if2 (fun a b => a ≠ b) 21 20)]
def bl_11_20 : List am_E := [(183, .aload_n 1, 1, i_load 1 30), (184, .iload 9, 2, i_load 9 0), (186, .iload 6, 2, i_load 6 0), (188, .iconst 1, 1, i_push 0 1), (189, .iadd, 1, i_op2 0 (fun a b => w32 (a + b))), (190, .iastore, 1, i_ast 30 0), (191, .aload_n 2, 1, i_load 2 30), (192, .iload_n 3, 1, i_load 3 0), (193, .iload 9, 2, i_load 9 0), (195, .iastore, 1, i_ast 30 0), (196, .iinc 3 1, 3, i_inc 3 1)]
def bl_11_21 : List am_E := [(199, .iinc 8 1, 3, i_inc 8 1), (202, .goto (-68), 3, i_goto 15)]
def bl_11_22 : List am_E := [(205, .iinc 4 1, 3, i_inc 4 1), (208, .goto (-167), 3, i_goto 4)]
def bl_11_23 : List am_E := [(211, .return_, 1, i_vret)]
def cd_11 : Nat × List (List Bool × am_B) := (10, [([true, false, false, false, false, false, false, false, false, false], (bl_11_0, 1)), ([true, true, true, true, false, false, false, false, false, false], (bl_11_1, 9999)), ([true, true, true, true, false, false, false, false, false, false], (bl_11_2, 9999)), ([true, true, true, false, false, false, false, false, false, false], (bl_11_3, 4)), ([true, true, true, true, true, false, false, false, false, false], (bl_11_4, 9999)), ([true, true, true, true, true, false, false, false, false, false], (bl_11_5, 9999)), ([true, true, true, true, true, false, false, false, false, false], (bl_11_6, 7)), ([true, true, true, true, true, true, true, true, false, false], (bl_11_7, 9999)), ([true, true, true, true, true, true, true, true, false, false], (bl_11_8, 9999)), ([true, true, true, true, true, true, true, true, false, false], (bl_11_9, 9999)), ([true, true, true, true, true, true, true, true, false, false], (bl_11_10, 9999)), ([true, true, true, true, true, true, true, false, false, false], (bl_11_11, 9999)), ([true, true, true, true, true, true, true, false, false, false], (bl_11_12, 9999)), ([true, true, true, true, true, true, true, false, false, false], (bl_11_13, 14)), ([true, true, true, true, true, true, true, false, false, false], (bl_11_14, 15)), ([true, true, true, true, true, true, true, true, true, false], (bl_11_15, 9999)), ([true, true, true, true, true, true, true, true, true, false], (bl_11_16, 9999)), ([true, true, true, true, true, true, true, true, true, false], (bl_11_17, 9999)), ([true, true, true, true, true, true, true, true, true, false], (bl_11_18, 19)), ([true, true, true, true, true, true, true, true, true, false], (bl_11_19, 9999)), ([true, true, true, true, true, true, true, true, true, true], (bl_11_20, 21)), ([true, true, true, true, true, true, true, true, true, false], (bl_11_21, 9999)), ([true, true, true, true, true, false, false, false, false, false], (bl_11_22, 9999)), ([false, false, false, false, false, false, false, false, false, false], (bl_11_23, 9999))])
-- X0_reachedBy
def lp_12 : Nat → Nat := fun b => ([0, 4, 10, 12, 19, 31] : List Nat).getD b 0
def bl_12_0 : List am_E := [(0, .iload_n 1, 1, i_load 1 0), (1, .ifCond .lt 9, 3, i_if1 (fun a => a < 0) 2 1)]
def bl_12_1 : List am_E := [(4, .iload_n 1, 1, i_load 1 0), (5, .bipush 9, 2, i_push 0 9), (7, .if_icmp .le 5, 3, i_if2 (fun a b => a ≤ b) 3 2)]
def bl_12_2 : List am_E := [(10, .iconst (-1), 1, i_push 0 (-1)), (11, .ireturn, 1, i_ret 0)]
def bl_12_3 : List am_E := [(12, .aload_n 0, 1, i_load 0 10), (13, .getfield 15, 3, i_getr 10 7 30), (16, .ifnonnull 15, 3, i_ifn 4 5)]
def bl_12_4 : List am_E := [(19, .aload_n 0, 1, i_load 0 10), (20, .bipush 10, 2, i_push 0 10), (22, .newarray .int, 2, i_newa 20), (24, .putfield 15, 3, i_putr 10 7 30), (27, .aload_n 0, 1, i_load 0 10), (28, .invokevirtual 67, 3, i_vcall 11 1 [10] 9)]
def bl_12_5 : List am_E := [(31, .aload_n 0, 1, i_load 0 10), (32, .getfield 15, 3, i_getr 10 7 30), (35, .iload_n 1, 1, i_load 1 0), (36, .iaload, 1, i_ald 30 0), (37, .ireturn, 1, i_ret 0)]
def cd_12 : Nat × List (List Bool × am_B) := (2, [([true, true], (bl_12_0, 9999)), ([true, true], (bl_12_1, 9999)), ([false, false], (bl_12_2, 9999)), ([true, true], (bl_12_3, 9999)), ([true, true], (bl_12_4, 5)), ([true, true], (bl_12_5, 9999))])
-- X0_allDepths
def lp_13 : Nat → Nat := fun b => ([0, 16, 20, 24] : List Nat).getD b 0
def bl_13_0 : List am_E := [(0, .iconst 1, 1, i_push 0 1), (1, .aload_n 0, 1, i_load 0 10), (2, .getfield 32, 3, i_getf 10 1 0), (5, .ishl, 1, i_op2 0 (fun a b => w32 (a * 2 ^ (b % 32).toNat))), (6, .iconst 1, 1, i_push 0 1), (7, .isub, 1, i_op2 0 (fun a b => w32 (a - b))), (8, .istore_n 1, 1, i_store 1 0), (9, .aload_n 0, 1, i_load 0 10), (10, .getfield 35, 3, i_getf 10 2 0), (13, .ifCond .eq 7, 3, i_if1 (fun a => a = 0) 2 1)]
def bl_13_1 : List am_E := [(16, .iload_n 1, 1, i_load 1 0), (17, .goto 7, 3, i_goto 3)]
def bl_13_2 : List am_E := [(20, .iload_n 1, 1, i_load 1 0), (21, .bipush (-2), 2, i_push 0 (-2)), (23, .iand, 1, i_op2 0 (fun a b => an_ a b))]
def bl_13_3 : List am_E := [(24, .ireturn, 1, i_ret 0)]
def cd_13 : Nat × List (List Bool × am_B) := (2, [([true, false], (bl_13_0, 9999)), ([false, true], (bl_13_1, 9999)), ([false, true], (bl_13_2, 3)), ([false, false], (bl_13_3, 9999))])
-- X0_mark
def lp_14 : Nat → Nat := fun b => ([0, 4, 15, 16, 39, 51, 83] : List Nat).getD b 0
def bl_14_0 : List am_E := [(0, .iload_n 1, 1, i_load 1 0), (1, .ifCond .eq 14, 3, i_if1 (fun a => a = 0) 2 1)]
def bl_14_1 : List am_E := [(4, .aload_n 0, 1, i_load 0 10), (5, .getfield 18, 3, i_getr 10 8 30), (8, .iload_n 1, 1, i_load 1 0), (9, .iaload, 1, i_ald 30 0), (10, .iload_n 2, 1, i_load 2 0), (11, .iand, 1, i_op2 0 (fun a b => an_ a b)), (12, .ifCond .eq 4, 3, i_if1 (fun a => a = 0) 3 2)]
def bl_14_2 : List am_E := [(15, .return_, 1, i_vret)]
def bl_14_3 : List am_E := [(16, .aload_n 0, 1, i_load 0 10), (17, .getfield 18, 3, i_getr 10 8 30), (20, .iload_n 1, 1, i_load 1 0), (21, .dup2, 1, i_dup2), (22, .iaload, 1, i_ald 30 0), (23, .iload_n 2, 1, i_load 2 0), (24, .ior, 1, i_op2 0 (fun a b => or_ a b)), (25, .iastore, 1, i_ast 30 0), (26, .aload_n 0, 1, i_load 0 10), (27, .getfield 18, 3, i_getr 10 8 30), (30, .iload_n 1, 1, i_load 1 0), (31, .iaload, 1, i_ald 30 0), (32, .sipush 1024, 3, i_push 0 1024), (35, .iand, 1, i_op2 0 (fun a b => an_ a b)), (36, .ifCond .ne 47, 3, i_if1 (fun a => a ≠ 0) 6 4)]
def bl_14_4 : List am_E := [(39, .aload_n 0, 1, i_load 0 10), (40, .getfield 24, 3, i_getf 10 10 0), (43, .aload_n 0, 1, i_load 0 10), (44, .getfield 21, 3, i_getr 10 9 30), (47, .arraylength, 1, i_alen 30), (48, .if_icmp .ge 35, 3, i_if2 (fun a b => b ≤ a) 6 5)]
def bl_14_5 : List am_E := [(51, .aload_n 0, 1, i_load 0 10), (52, .getfield 18, 3, i_getr 10 8 30), (55, .iload_n 1, 1, i_load 1 0), (56, .dup2, 1, i_dup2), (57, .iaload, 1, i_ald 30 0), (58, .sipush 1024, 3, i_push 0 1024), (61, .ior, 1, i_op2 0 (fun a b => or_ a b)), (62, .iastore, 1, i_ast 30 0), (63, .aload_n 0, 1, i_load 0 10), (64, .getfield 21, 3, i_getr 10 9 30), (67, .aload_n 0, 1, i_load 0 10), (68, .getfield 24, 3, i_getf 10 10 0), (71, .iload_n 1, 1, i_load 1 0), (72, .iastore, 1, i_ast 30 0), (73, .aload_n 0, 1, i_load 0 10), (74, .dup, 1, i_dup), (75, .getfield 24, 3, i_getf 10 10 0), (78, .iconst 1, 1, i_push 0 1), (79, .iadd, 1, i_op2 0 (fun a b => w32 (a + b))), (80, .putfield 24, 3, i_putf 10 10 0)]
def bl_14_6 : List am_E := [(83, .return_, 1, i_vret)]
def cd_14 : Nat × List (List Bool × am_B) := (3, [([true, true, true], (bl_14_0, 9999)), ([true, true, true], (bl_14_1, 9999)), ([false, false, false], (bl_14_2, 9999)), ([true, true, true], (bl_14_3, 9999)), ([true, true, false], (bl_14_4, 9999)), ([true, true, false], (bl_14_5, 6)), ([false, false, false], (bl_14_6, 9999))])
-- X0_tellThoseBefore
def lp_15 : Nat → Nat := fun b => ([0, 26, 35, 50, 53, 62, 80, 89, 102, 108] : List Nat).getD b 0
def bl_15_0 : List am_E := [(0, .aload_n 0, 1, i_load 0 10), (1, .getfield 18, 3, i_getr 10 8 30), (4, .iload_n 1, 1, i_load 1 0), (5, .iaload, 1, i_ald 30 0), (6, .bipush 31, 2, i_push 0 31), (8, .iand, 1, i_op2 0 (fun a b => an_ a b)), (9, .istore_n 3, 1, i_store 3 0), (10, .aload_n 0, 1, i_load 0 10), (11, .getfield 18, 3, i_getr 10 8 30), (14, .iload_n 1, 1, i_load 1 0), (15, .iaload, 1, i_ald 30 0), (16, .iconst 5, 1, i_push 0 5), (17, .ishr, 1, i_op2 0 (fun a b => a / 2 ^ (b % 32).toNat)), (18, .bipush 31, 2, i_push 0 31), (20, .iand, 1, i_op2 0 (fun a b => an_ a b)), (21, .istore 4, 2, i_store 4 0), (23, .iconst 1, 1, i_push 0 1), (24, .istore 5, 2, i_store 5 0)]
def bl_15_1 : List am_E := [(26, .iload 5, 2, i_load 5 0), (28, .aload_n 0, 1, i_load 0 10), (29, .getfield 32, 3, i_getf 10 1 0), (32, .if_icmp .gt 76, 3, i_if2 (fun a b => b < a) 9 2)]
def bl_15_2 : List am_E := [(35, .iconst 1, 1, i_push 0 1), (36, .iload 5, 2, i_load 5 0), (38, .iconst 1, 1, i_push 0 1), (39, .isub, 1, i_op2 0 (fun a b => w32 (a - b))), (40, .ishl, 1, i_op2 0 (fun a b => w32 (a * 2 ^ (b % 32).toNat))), (41, .istore 6, 2, i_store 6 0), (43, .iload_n 2, 1, i_load 2 0), (44, .iload 6, 2, i_load 6 0), (46, .iand, 1, i_op2 0 (fun a b => an_ a b)), (47, .ifCond .ne 6, 3, i_if1 (fun a => a ≠ 0) 4 3)]
def bl_15_3 : List am_E := [(50, .goto 52, 3, i_goto 8)]
def bl_15_4 : List am_E := [(53, .iload_n 3, 1, i_load 3 0), (54, .iload 6, 2, i_load 6 0), (56, .iconst (-1), 1, i_push 0 (-1)), (57, .ixor, 1, i_op2 0 (fun a b => xo_ a b)), (58, .iand, 1, i_op2 0 (fun a b => an_ a b)), (59, .ifCond .eq 21, 3, i_if1 (fun a => a = 0) 6 5)]
def bl_15_5 : List am_E := [(62, .aload_n 0, 1, i_load 0 10), (63, .aload_n 0, 1, i_load 0 10), (64, .iload_n 1, 1, i_load 1 0), (65, .iload 5, 2, i_load 5 0), (67, .invokevirtual 51, 3, i_vcall 3 3 [10, 0, 0] 0), (70, .iload 6, 2, i_load 6 0), (72, .iconst 5, 1, i_push 0 5), (73, .ishl, 1, i_op2 0 (fun a b => w32 (a * 2 ^ (b % 32).toNat))), (74, .invokevirtual 84, 3, i_vcall 14 3 [10, 0, 0] 9), (77, .goto 25, 3, i_goto 8)]
def bl_15_6 : List am_E := [(80, .iload 4, 2, i_load 4 0), (82, .iload 6, 2, i_load 6 0), (84, .ior, 1, i_op2 0 (fun a b => or_ a b)), (85, .iload_n 2, 1, i_load 2 0), (86, .if_icmp .ne 16, 3, i_if2 (fun a b => a ≠ b) 8 7)]
def bl_15_7 : List am_E := [(89, .aload_n 0, 1, i_load 0 10), (90, .aload_n 0, 1, i_load 0 10), (91, .iload_n 1, 1, i_load 1 0), (92, .iload 5, 2, i_load 5 0), (94, .invokevirtual 51, 3, i_vcall 3 3 [10, 0, 0] 0), (97, .iload 6, 2, i_load 6 0), (99, .invokevirtual 84, 3, i_vcall 14 3 [10, 0, 0] 9)]
def bl_15_8 : List am_E := [(102, .iinc 5 1, 3, i_inc 5 1), (105, .goto (-79), 3, i_goto 1)]
def bl_15_9 : List am_E := [(108, .return_, 1, i_vret)]
def cd_15 : Nat × List (List Bool × am_B) := (7, [([true, true, true, false, false, false, false], (bl_15_0, 1)), ([true, true, true, true, true, true, false], (bl_15_1, 9999)), ([true, true, true, true, true, true, false], (bl_15_2, 9999)), ([true, true, true, true, true, true, false], (bl_15_3, 9999)), ([true, true, true, true, true, true, true], (bl_15_4, 9999)), ([true, true, true, true, true, true, true], (bl_15_5, 9999)), ([true, true, true, true, true, true, true], (bl_15_6, 9999)), ([true, true, true, true, true, true, true], (bl_15_7, 8)), ([true, true, true, true, true, true, false], (bl_15_8, 9999)), ([false, false, false, false, false, false, false], (bl_15_9, 9999))])
-- X0_playAll
def lp_16 : Nat → Nat := fun b => ([0, 7, 8, 40, 48, 58, 73, 79, 81, 92, 99, 143] : List Nat).getD b 0
def bl_16_0 : List am_E := [(0, .aload_n 0, 1, i_load 0 10), (1, .getfield 18, 3, i_getr 10 8 30), (4, .ifnull 4, 3, i_ifn 2 1)]
def bl_16_1 : List am_E := [(7, .return_, 1, i_vret)]
def bl_16_2 : List am_E := [(8, .aload_n 0, 1, i_load 0 10), (9, .aload_n 0, 1, i_load 0 10), (10, .getfield 42, 3, i_getf 10 3 0), (13, .newarray .int, 2, i_newa 20), (15, .putfield 18, 3, i_putr 10 8 30), (18, .aload_n 0, 1, i_load 0 10), (19, .aload_n 0, 1, i_load 0 10), (20, .getfield 42, 3, i_getf 10 3 0), (23, .newarray .int, 2, i_newa 20), (25, .putfield 21, 3, i_putr 10 9 30), (28, .aload_n 0, 1, i_load 0 10), (29, .iconst 0, 1, i_push 0 0), (30, .putfield 24, 3, i_putf 10 10 0), (33, .aload_n 0, 1, i_load 0 10), (34, .invokevirtual 77, 3, i_vcall 13 1 [10] 0), (37, .istore_n 1, 1, i_store 1 0), (38, .iconst 1, 1, i_push 0 1), (39, .istore_n 2, 1, i_store 2 0)]
def bl_16_3 : List am_E := [(40, .iload_n 2, 1, i_load 2 0), (41, .aload_n 0, 1, i_load 0 10), (42, .getfield 32, 3, i_getf 10 1 0), (45, .if_icmp .gt 34, 3, i_if2 (fun a b => b < a) 7 4)]
def bl_16_4 : List am_E := [(48, .iload_n 1, 1, i_load 1 0), (49, .iload_n 2, 1, i_load 2 0), (50, .iconst 1, 1, i_push 0 1), (51, .isub, 1, i_op2 0 (fun a b => w32 (a - b))), (52, .ishr, 1, i_op2 0 (fun a b => a / 2 ^ (b % 32).toNat)), (53, .iconst 1, 1, i_push 0 1), (54, .iand, 1, i_op2 0 (fun a b => an_ a b)), (55, .ifCond .eq 18, 3, i_if1 (fun a => a = 0) 6 5)]
def bl_16_5 : List am_E := [(58, .aload_n 0, 1, i_load 0 10), (59, .aload_n 0, 1, i_load 0 10), (60, .iconst 0, 1, i_push 0 0), (61, .iload_n 2, 1, i_load 2 0), (62, .invokevirtual 51, 3, i_vcall 3 3 [10, 0, 0] 0), (65, .iconst 1, 1, i_push 0 1), (66, .iload_n 2, 1, i_load 2 0), (67, .iconst 1, 1, i_push 0 1), (68, .isub, 1, i_op2 0 (fun a b => w32 (a - b))), (69, .ishl, 1, i_op2 0 (fun a b => w32 (a * 2 ^ (b % 32).toNat))), (70, .invokevirtual 84, 3, i_vcall 14 3 [10, 0, 0] 9)]
def bl_16_6 : List am_E := [(73, .iinc 2 1, 3, i_inc 2 1), (76, .goto (-36), 3, i_goto 3)]
def bl_16_7 : List am_E := [(79, .iconst 0, 1, i_push 0 0), (80, .istore_n 2, 1, i_store 2 0)]
def bl_16_8 : List am_E := [(81, .iload_n 2, 1, i_load 2 0), (82, .bipush 10, 2, i_push 0 10), (84, .aload_n 0, 1, i_load 0 10), (85, .getfield 42, 3, i_getf 10 3 0), (88, .imul, 1, i_op2 0 (fun a b => w32 (a * b))), (89, .if_icmp .ge 54, 3, i_if2 (fun a b => b ≤ a) 11 9)]
def bl_16_9 : List am_E := [(92, .aload_n 0, 1, i_load 0 10), (93, .getfield 24, 3, i_getf 10 10 0), (96, .ifCond .le 47, 3, i_if1 (fun a => a ≤ 0) 11 10)]
def bl_16_10 : List am_E := [(99, .aload_n 0, 1, i_load 0 10), (100, .dup, 1, i_dup), (101, .getfield 24, 3, i_getf 10 10 0), (104, .iconst 1, 1, i_push 0 1), (105, .isub, 1, i_op2 0 (fun a b => w32 (a - b))), (106, .putfield 24, 3, i_putf 10 10 0), (109, .aload_n 0, 1, i_load 0 10), (110, .getfield 21, 3, i_getr 10 9 30), (113, .aload_n 0, 1, i_load 0 10), (114, .getfield 24, 3, i_getf 10 10 0), (117, .iaload, 1, i_ald 30 0), (118, .istore_n 3, 1, i_store 3 0), (119, .aload_n 0, 1, i_load 0 10), (120, .getfield 18, 3, i_getr 10 8 30), (123, .iload_n 3, 1, i_load 3 0), (124, .dup2, 1, i_dup2), (125, .iaload, 1, i_ald 30 0), (126, .sipush (-1025), 3, i_push 0 (-1025)), (129, .iand, 1, i_op2 0 (fun a b => an_ a b)), (130, .iastore, 1, i_ast 30 0), (131, .aload_n 0, 1, i_load 0 10), (132, .iload_n 3, 1, i_load 3 0), (133, .iload_n 1, 1, i_load 1 0), (134, .invokevirtual 88, 3, i_vcall 15 3 [10, 0, 0] 9), (137, .iinc 2 1, 3, i_inc 2 1), (140, .goto (-59), 3, i_goto 8)]
def bl_16_11 : List am_E := [(143, .return_, 1, i_vret)]
def cd_16 : Nat × List (List Bool × am_B) := (4, [([true, false, false, false], (bl_16_0, 9999)), ([false, false, false, false], (bl_16_1, 9999)), ([true, false, false, false], (bl_16_2, 3)), ([true, true, true, false], (bl_16_3, 9999)), ([true, true, true, false], (bl_16_4, 9999)), ([true, true, true, false], (bl_16_5, 6)), ([true, true, true, false], (bl_16_6, 9999)), ([true, true, false, false], (bl_16_7, 8)), ([true, true, true, false], (bl_16_8, 9999)), ([true, true, true, false], (bl_16_9, 9999)), ([true, true, true, false], (bl_16_10, 9999)), ([false, false, false, false], (bl_16_11, 9999))])
-- X0_lossesOf
def lp_17 : Nat → Nat := fun b => ([0] : List Nat).getD b 0
def bl_17_0 : List am_E := [(0, .aload_n 0, 1, i_load 0 10), (1, .invokevirtual 81, 3, i_vcall 16 1 [10] 9), (4, .aload_n 0, 1, i_load 0 10), (5, .getfield 18, 3, i_getr 10 8 30), (8, .iload_n 1, 1, i_load 1 0), (9, .iaload, 1, i_ald 30 0), (10, .iconst 5, 1, i_push 0 5), (11, .ishr, 1, i_op2 0 (fun a b => a / 2 ^ (b % 32).toNat)), (12, .bipush 31, 2, i_push 0 31), (14, .iand, 1, i_op2 0 (fun a b => an_ a b)), (15, .ireturn, 1, i_ret 0)]
def cd_17 : Nat × List (List Bool × am_B) := (2, [([true, true], (bl_17_0, 9999))])
-- X0_winsOf
def lp_18 : Nat → Nat := fun b => ([0] : List Nat).getD b 0
def bl_18_0 : List am_E := [(0, .aload_n 0, 1, i_load 0 10), (1, .invokevirtual 81, 3, i_vcall 16 1 [10] 9), (4, .aload_n 0, 1, i_load 0 10), (5, .getfield 18, 3, i_getr 10 8 30), (8, .iload_n 1, 1, i_load 1 0), (9, .iaload, 1, i_ald 30 0), (10, .bipush 31, 2, i_push 0 31), (12, .iand, 1, i_op2 0 (fun a b => an_ a b)), (13, .ireturn, 1, i_ret 0)]
def cd_18 : Nat × List (List Bool × am_B) := (2, [([true, true], (bl_18_0, 9999))])
-- X0_winner
def lp_19 : Nat → Nat := fun b => ([0, 4, 12, 14, 24, 26, 38, 42, 43] : List Nat).getD b 0
def bl_19_0 : List am_E := [(0, .iload_n 1, 1, i_load 1 0), (1, .ifCond .le 11, 3, i_if1 (fun a => a ≤ 0) 2 1)]
def bl_19_1 : List am_E := [(4, .aload_n 0, 1, i_load 0 10), (5, .iload_n 1, 1, i_load 1 0), (6, .invokevirtual 63, 3, i_vcall 5 2 [10, 0] 0), (9, .ifCond .ne 5, 3, i_if1 (fun a => a ≠ 0) 3 2)]
def bl_19_2 : List am_E := [(12, .iconst 2, 1, i_push 0 2), (13, .ireturn, 1, i_ret 0)]
def bl_19_3 : List am_E := [(14, .aload_n 0, 1, i_load 0 10), (15, .iload_n 1, 1, i_load 1 0), (16, .invokevirtual 70, 3, i_vcall 18 2 [10, 0] 0), (19, .istore_n 2, 1, i_store 2 0), (20, .iload_n 2, 1, i_load 2 0), (21, .ifCond .eq 5, 3, i_if1 (fun a => a = 0) 5 4)]
def bl_19_4 : List am_E := [(24, .iconst 0, 1, i_push 0 0), (25, .ireturn, 1, i_ret 0)]
def bl_19_5 : List am_E := [(26, .aload_n 0, 1, i_load 0 10), (27, .iload_n 1, 1, i_load 1 0), (28, .invokevirtual 74, 3, i_vcall 17 2 [10, 0] 0), (31, .aload_n 0, 1, i_load 0 10), (32, .invokevirtual 77, 3, i_vcall 13 1 [10] 0), (35, .if_icmp .ne 7, 3, i_if2 (fun a b => a ≠ b) 7 6)]
def bl_19_6 : List am_E := [(38, .iconst 1, 1, i_push 0 1), (39, .goto 4, 3, i_goto 8)]
def bl_19_7 : List am_E := [(42, .iconst 2, 1, i_push 0 2)]
def bl_19_8 : List am_E := [(43, .ireturn, 1, i_ret 0)]
def cd_19 : Nat × List (List Bool × am_B) := (3, [([true, true, false], (bl_19_0, 9999)), ([true, true, false], (bl_19_1, 9999)), ([false, false, false], (bl_19_2, 9999)), ([true, true, false], (bl_19_3, 9999)), ([false, false, false], (bl_19_4, 9999)), ([true, true, false], (bl_19_5, 9999)), ([false, false, false], (bl_19_6, 9999)), ([false, false, false], (bl_19_7, 8)), ([false, false, false], (bl_19_8, 9999))])
-- X0_opening
def lp_20 : Nat → Nat := fun b => ([0, 4, 12, 15, 25, 39, 43, 51, 52, 54, 62, 72, 74, 80] : List Nat).getD b 0
def bl_20_0 : List am_E := [(0, .iload_n 1, 1, i_load 1 0), (1, .ifCond .le 11, 3, i_if1 (fun a => a ≤ 0) 2 1)]
def bl_20_1 : List am_E := [(4, .aload_n 0, 1, i_load 0 10), (5, .iload_n 1, 1, i_load 1 0), (6, .invokevirtual 63, 3, i_vcall 5 2 [10, 0] 0), (9, .ifCond .ne 6, 3, i_if1 (fun a => a ≠ 0) 3 2)]
def bl_20_2 : List am_E := [(12, .bipush (-2), 2, i_push 0 (-2)), (14, .ireturn, 1, i_ret 0)]
def bl_20_3 : List am_E := [(15, .aload_n 0, 1, i_load 0 10), (16, .iload_n 1, 1, i_load 1 0), (17, .invokevirtual 70, 3, i_vcall 18 2 [10, 0] 0), (20, .istore_n 2, 1, i_store 2 0), (21, .iload_n 2, 1, i_load 2 0), (22, .ifCond .ne 30, 3, i_if1 (fun a => a ≠ 0) 8 4)]
def bl_20_4 : List am_E := [(25, .aload_n 0, 1, i_load 0 10), (26, .iload_n 1, 1, i_load 1 0), (27, .invokevirtual 74, 3, i_vcall 17 2 [10, 0] 0), (30, .istore_n 3, 1, i_store 3 0), (31, .iload_n 3, 1, i_load 3 0), (32, .aload_n 0, 1, i_load 0 10), (33, .invokevirtual 77, 3, i_vcall 13 1 [10] 0), (36, .if_icmp .ne 7, 3, i_if2 (fun a b => a ≠ b) 6 5)]
def bl_20_5 : List am_E := [(39, .iload_n 3, 1, i_load 3 0), (40, .goto 11, 3, i_goto 7)]
def bl_20_6 : List am_E := [(43, .aload_n 0, 1, i_load 0 10), (44, .invokevirtual 77, 3, i_vcall 13 1 [10] 0), (47, .iload_n 3, 1, i_load 3 0), (48, .iconst (-1), 1, i_push 0 (-1)), (49, .ixor, 1, i_op2 0 (fun a b => xo_ a b)), (50, .iand, 1, i_op2 0 (fun a b => an_ a b))]
def bl_20_7 : List am_E := [(51, .istore_n 2, 1, i_store 2 0)]
def bl_20_8 : List am_E := [(52, .iconst 1, 1, i_push 0 1), (53, .istore_n 3, 1, i_store 3 0)]
def bl_20_9 : List am_E := [(54, .iload_n 3, 1, i_load 3 0), (55, .aload_n 0, 1, i_load 0 10), (56, .getfield 32, 3, i_getf 10 1 0), (59, .if_icmp .ge 21, 3, i_if2 (fun a b => b ≤ a) 13 10)]
def bl_20_10 : List am_E := [(62, .iload_n 2, 1, i_load 2 0), (63, .iload_n 3, 1, i_load 3 0), (64, .iconst 1, 1, i_push 0 1), (65, .isub, 1, i_op2 0 (fun a b => w32 (a - b))), (66, .ishr, 1, i_op2 0 (fun a b => a / 2 ^ (b % 32).toNat)), (67, .iconst 1, 1, i_push 0 1), (68, .iand, 1, i_op2 0 (fun a b => an_ a b)), (69, .ifCond .eq 5, 3, i_if1 (fun a => a = 0) 12 11)]
def bl_20_11 : List am_E := [(72, .iload_n 3, 1, i_load 3 0), (73, .ireturn, 1, i_ret 0)]
def bl_20_12 : List am_E := [(74, .iinc 3 1, 3, i_inc 3 1), (77, .goto (-23), 3, i_goto 9)]
def bl_20_13 : List am_E := [(80, .aload_n 0, 1, i_load 0 10), (81, .getfield 32, 3, i_getf 10 1 0), (84, .ireturn, 1, i_ret 0)]
def cd_20 : Nat × List (List Bool × am_B) := (4, [([true, true, false, false], (bl_20_0, 9999)), ([true, true, false, false], (bl_20_1, 9999)), ([false, false, false, false], (bl_20_2, 9999)), ([true, true, false, false], (bl_20_3, 9999)), ([true, true, false, false], (bl_20_4, 9999)), ([true, false, false, true], (bl_20_5, 9999)), ([true, false, false, true], (bl_20_6, 7)), ([true, false, false, false], (bl_20_7, 8)), ([true, false, true, false], (bl_20_8, 9)), ([true, false, true, true], (bl_20_9, 9999)), ([true, false, true, true], (bl_20_10, 9999)), ([false, false, false, true], (bl_20_11, 9999)), ([true, false, true, true], (bl_20_12, 9999)), ([true, false, false, false], (bl_20_13, 9999))])
-- X1_init
def lp_21 : Nat → Nat := fun b => ([0] : List Nat).getD b 0
def bl_21_0 : List am_E := [(0, .aload_n 0, 1, i_load 0 11), (1, .invokespecial 3, 3, i_oini 11), (4, .aload_n 0, 1, i_load 0 11), (5, .bipush 20, 2, i_push 0 20), (7, .newarray .int, 2, i_newa 20), (9, .putfield 9, 3, i_putr 11 0 30), (12, .aload_n 0, 1, i_load 0 11), (13, .bipush 20, 2, i_push 0 20), (15, .newarray .int, 2, i_newa 20), (17, .putfield 15, 3, i_putr 11 1 30), (20, .aload_n 0, 1, i_load 0 11), (21, .bipush 20, 2, i_push 0 20), (23, .newarray .int, 2, i_newa 20), (25, .putfield 18, 3, i_putr 11 2 30), (28, .aload_n 0, 1, i_load 0 11), (29, .iconst 0, 1, i_push 0 0), (30, .putfield 21, 3, i_putf 11 3 0), (33, .aload_n 0, 1, i_load 0 11), (34, .iconst 0, 1, i_push 0 0), (35, .putfield 25, 3, i_putf 11 4 0), (38, .return_, 1, i_vret)]
def cd_21 : Nat × List (List Bool × am_B) := (1, [([true], (bl_21_0, 9999))])
-- X1_forget
def lp_22 : Nat → Nat := fun b => ([0] : List Nat).getD b 0
def bl_22_0 : List am_E := [(0, .aload_n 0, 1, i_load 0 11), (1, .iconst 0, 1, i_push 0 0), (2, .putfield 21, 3, i_putf 11 3 0), (5, .return_, 1, i_vret)]
def cd_22 : Nat × List (List Bool × am_B) := (1, [([true], (bl_22_0, 9999))])
-- X1_left
def lp_23 : Nat → Nat := fun b => ([0] : List Nat).getD b 0
def bl_23_0 : List am_E := [(0, .aload_n 0, 1, i_load 0 11), (1, .getfield 21, 3, i_getf 11 3 0), (4, .ireturn, 1, i_ret 0)]
def cd_23 : Nat × List (List Bool × am_B) := (1, [([true], (bl_23_0, 9999))])
-- X1_note
def lp_24 : Nat → Nat := fun b => ([0] : List Nat).getD b 0
def bl_24_0 : List am_E := [(0, .aload_n 0, 1, i_load 0 11), (1, .getfield 9, 3, i_getr 11 0 30), (4, .aload_n 0, 1, i_load 0 11), (5, .getfield 25, 3, i_getf 11 4 0), (8, .iload_n 1, 1, i_load 1 0), (9, .iastore, 1, i_ast 30 0), (10, .aload_n 0, 1, i_load 0 11), (11, .getfield 15, 3, i_getr 11 1 30), (14, .aload_n 0, 1, i_load 0 11), (15, .getfield 25, 3, i_getf 11 4 0), (18, .iload_n 2, 1, i_load 2 0), (19, .iastore, 1, i_ast 30 0), (20, .aload_n 0, 1, i_load 0 11), (21, .getfield 18, 3, i_getr 11 2 30), (24, .aload_n 0, 1, i_load 0 11), (25, .getfield 25, 3, i_getf 11 4 0), (28, .iload_n 3, 1, i_load 3 0), (29, .iastore, 1, i_ast 30 0), (30, .aload_n 0, 1, i_load 0 11), (31, .aload_n 0, 1, i_load 0 11), (32, .getfield 25, 3, i_getf 11 4 0), (35, .iconst 1, 1, i_push 0 1), (36, .iadd, 1, i_op2 0 (fun a b => w32 (a + b))), (37, .bipush 20, 2, i_push 0 20), (39, .irem, 1, i_dv2 0 (fun a b => Int.tmod a b)), (40, .putfield 25, 3, i_putf 11 4 0), (43, .aload_n 0, 1, i_load 0 11), (44, .aload_n 0, 1, i_load 0 11), (45, .getfield 21, 3, i_getf 11 3 0), (48, .iconst 1, 1, i_push 0 1), (49, .iadd, 1, i_op2 0 (fun a b => w32 (a + b))), (50, .bipush 20, 2, i_push 0 20), (52, .invokestatic 28, 3, i_mm2 0 (fun a b => if b < a then b else a)), (55, .putfield 21, 3, i_putf 11 3 0), (58, .return_, 1, i_vret)]
def cd_24 : Nat × List (List Bool × am_B) := (4, [([true, true, true, true], (bl_24_0, 9999))])
-- X1_takeLatest
def lp_25 : Nat → Nat := fun b => ([0, 7, 9] : List Nat).getD b 0
def bl_25_0 : List am_E := [(0, .aload_n 0, 1, i_load 0 11), (1, .getfield 21, 3, i_getf 11 3 0), (4, .ifCond .ne 5, 3, i_if1 (fun a => a ≠ 0) 2 1)]
def bl_25_1 : List am_E := [(7, .iconst 0, 1, i_push 0 0), (8, .ireturn, 1, i_zret)]
def bl_25_2 : List am_E := [(9, .aload_n 0, 1, i_load 0 11), (10, .aload_n 0, 1, i_load 0 11), (11, .getfield 25, 3, i_getf 11 4 0), (14, .bipush 20, 2, i_push 0 20), (16, .iadd, 1, i_op2 0 (fun a b => w32 (a + b))), (17, .iconst 1, 1, i_push 0 1), (18, .isub, 1, i_op2 0 (fun a b => w32 (a - b))), (19, .bipush 20, 2, i_push 0 20), (21, .irem, 1, i_dv2 0 (fun a b => Int.tmod a b)), (22, .putfield 25, 3, i_putf 11 4 0), (25, .aload_n 0, 1, i_load 0 11), (26, .dup, 1, i_dup), (27, .getfield 21, 3, i_getf 11 3 0), (30, .iconst 1, 1, i_push 0 1), (31, .isub, 1, i_op2 0 (fun a b => w32 (a - b))), (32, .putfield 21, 3, i_putf 11 3 0), (35, .iconst 1, 1, i_push 0 1), (36, .ireturn, 1, i_zret)]
def cd_25 : Nat × List (List Bool × am_B) := (1, [([true], (bl_25_0, 9999)), ([false], (bl_25_1, 9999)), ([true], (bl_25_2, 9999))])
-- X1_kind
def lp_26 : Nat → Nat := fun b => ([0] : List Nat).getD b 0
def bl_26_0 : List am_E := [(0, .aload_n 0, 1, i_load 0 11), (1, .getfield 9, 3, i_getr 11 0 30), (4, .aload_n 0, 1, i_load 0 11), (5, .getfield 25, 3, i_getf 11 4 0), (8, .iaload, 1, i_ald 30 0), (9, .ireturn, 1, i_ret 0)]
def cd_26 : Nat × List (List Bool × am_B) := (1, [([true], (bl_26_0, 9999))])
-- X1_one
def lp_27 : Nat → Nat := fun b => ([0] : List Nat).getD b 0
def bl_27_0 : List am_E := [(0, .aload_n 0, 1, i_load 0 11), (1, .getfield 15, 3, i_getr 11 1 30), (4, .aload_n 0, 1, i_load 0 11), (5, .getfield 25, 3, i_getf 11 4 0), (8, .iaload, 1, i_ald 30 0), (9, .ireturn, 1, i_ret 0)]
def cd_27 : Nat × List (List Bool × am_B) := (1, [([true], (bl_27_0, 9999))])
-- X1_other
def lp_28 : Nat → Nat := fun b => ([0] : List Nat).getD b 0
def bl_28_0 : List am_E := [(0, .aload_n 0, 1, i_load 0 11), (1, .getfield 18, 3, i_getr 11 2 30), (4, .aload_n 0, 1, i_load 0 11), (5, .getfield 25, 3, i_getf 11 4 0), (8, .iaload, 1, i_ald 30 0), (9, .ireturn, 1, i_ret 0)]
def cd_28 : Nat × List (List Bool × am_B) := (1, [([true], (bl_28_0, 9999))])
-- X2_init
def lp_29 : Nat → Nat := fun b => ([0] : List Nat).getD b 0
def bl_29_0 : List am_E := [(0, .aload_n 0, 1, i_load 0 12), (1, .invokespecial 3, 3, i_oini 12), (4, .aload_n 0, 1, i_load 0 12), (5, .bipush 72, 2, i_push 0 72), (7, .newarray .int, 2, i_newa 20), (9, .putfield 9, 3, i_putr 12 0 30), (12, .aload_n 0, 1, i_load 0 12), (13, .aconst_null, 1, i_push 3 (-1)), (14, .putfield 15, 3, i_putn 12 1), (17, .aload_n 0, 1, i_load 0 12), (18, .aconst_null, 1, i_push 3 (-1)), (19, .putfield 19, 3, i_putn 12 2), (22, .return_, 1, i_vret)]
def cd_29 : Nat × List (List Bool × am_B) := (1, [([true], (bl_29_0, 9999))])
-- X2_put
def lp_30 : Nat → Nat := fun b => ([0, 9, 32] : List Nat).getD b 0
def bl_30_0 : List am_E := [(0, .aload_n 0, 1, i_load 0 12), (1, .getfield 38, 3, i_getf 12 6 0), (4, .bipush 64, 2, i_push 0 64), (6, .if_icmp .ge 26, 3, i_if2 (fun a b => b ≤ a) 2 1)]
def bl_30_1 : List am_E := [(9, .aload_n 0, 1, i_load 0 12), (10, .getfield 19, 3, i_getr 12 2 18), (13, .getfield 80, 3, i_getr 18 14 30), (16, .aload_n 0, 1, i_load 0 12), (17, .getfield 38, 3, i_getf 12 6 0), (20, .iload_n 1, 1, i_load 1 0), (21, .iastore, 1, i_ast 30 0), (22, .aload_n 0, 1, i_load 0 12), (23, .dup, 1, i_dup), (24, .getfield 38, 3, i_getf 12 6 0), (27, .iconst 1, 1, i_push 0 1), (28, .iadd, 1, i_op2 0 (fun a b => w32 (a + b))), (29, .putfield 38, 3, i_putf 12 6 0)]
def bl_30_2 : List am_E := [(32, .return_, 1, i_vret)]
def cd_30 : Nat × List (List Bool × am_B) := (2, [([true, true], (bl_30_0, 9999)), ([true, true], (bl_30_1, 2)), ([false, false], (bl_30_2, 9999))])
-- X2_strength
def lp_31 : Nat → Nat := fun b => ([0, 96, 98, 100, 102, 104, 106, 109] : List Nat).getD b 0
def bl_31_0 : List am_E := [(0, .iload_n 0, 1, i_load 0 0), (1, .tableswitch 108 20 39 #[95, 97, 99, 108, 108, 108, 108, 108, 108, 108, 101, 101, 101, 101, 101, 101, 103, 103, 105, 105], 95, i_sw 7 [(20, 1), (21, 2), (22, 3), (23, 7), (24, 7), (25, 7), (26, 7), (27, 7), (28, 7), (29, 7), (30, 4), (31, 4), (32, 4), (33, 4), (34, 4), (35, 4), (36, 5), (37, 5), (38, 6), (39, 6)])]
def bl_31_1 : List am_E := [(96, .iconst 1, 1, i_push 0 1), (97, .ireturn, 1, i_ret 0)]
def bl_31_2 : List am_E := [(98, .iconst 2, 1, i_push 0 2), (99, .ireturn, 1, i_ret 0)]
def bl_31_3 : List am_E := [(100, .iconst 3, 1, i_push 0 3), (101, .ireturn, 1, i_ret 0)]
def bl_31_4 : List am_E := [(102, .iconst 4, 1, i_push 0 4), (103, .ireturn, 1, i_ret 0)]
def bl_31_5 : List am_E := [(104, .iconst 5, 1, i_push 0 5), (105, .ireturn, 1, i_ret 0)]
def bl_31_6 : List am_E := [(106, .bipush 6, 2, i_push 0 6), (108, .ireturn, 1, i_ret 0)]
def bl_31_7 : List am_E := [(109, .iconst 0, 1, i_push 0 0), (110, .ireturn, 1, i_ret 0)]
def cd_31 : Nat × List (List Bool × am_B) := (1, [([true], (bl_31_0, 9999)), ([false], (bl_31_1, 9999)), ([false], (bl_31_2, 9999)), ([false], (bl_31_3, 9999)), ([false], (bl_31_4, 9999)), ([false], (bl_31_5, 9999)), ([false], (bl_31_6, 9999)), ([false], (bl_31_7, 9999))])
-- X2_putDown
def lp_32 : Nat → Nat := fun b => ([0, 7, 25, 51] : List Nat).getD b 0
def bl_32_0 : List am_E := [(0, .aload_n 0, 1, i_load 0 12), (1, .getfield 23, 3, i_getf 12 3 0), (4, .ifCond .le 47, 3, i_if1 (fun a => a ≤ 0) 3 1)]
def bl_32_1 : List am_E := [(7, .aload_n 0, 1, i_load 0 12), (8, .getfield 9, 3, i_getr 12 0 30), (11, .aload_n 0, 1, i_load 0 12), (12, .getfield 23, 3, i_getf 12 3 0), (15, .iconst 1, 1, i_push 0 1), (16, .isub, 1, i_op2 0 (fun a b => w32 (a - b))), (17, .iaload, 1, i_ald 30 0), (18, .invokestatic 77, 3, i_call 31 1 [0] 0), (21, .iload_n 1, 1, i_load 1 0), (22, .if_icmp .lt 29, 3, i_if2 (fun a b => a < b) 3 2)]
def bl_32_2 : List am_E := [(25, .aload_n 0, 1, i_load 0 12), (26, .dup, 1, i_dup), (27, .getfield 23, 3, i_getf 12 3 0), (30, .iconst 1, 1, i_push 0 1), (31, .isub, 1, i_op2 0 (fun a b => w32 (a - b))), (32, .putfield 23, 3, i_putf 12 3 0), (35, .aload_n 0, 1, i_load 0 12), (36, .aload_n 0, 1, i_load 0 12), (37, .getfield 9, 3, i_getr 12 0 30), (40, .aload_n 0, 1, i_load 0 12), (41, .getfield 23, 3, i_getf 12 3 0), (44, .iaload, 1, i_ald 30 0), (45, .invokevirtual 74, 3, i_vcall 30 2 [12, 0] 9), (48, .goto (-48), 3, i_goto 0)]
def bl_32_3 : List am_E := [(51, .return_, 1, i_vret)]
def cd_32 : Nat × List (List Bool × am_B) := (2, [([true, true], (bl_32_0, 9999)), ([true, true], (bl_32_1, 9999)), ([true, true], (bl_32_2, 9999)), ([false, false], (bl_32_3, 9999))])
-- X2_await
def lp_33 : Nat → Nat := fun b => ([0, 12, 14] : List Nat).getD b 0
def bl_33_0 : List am_E := [(0, .aload_n 0, 1, i_load 0 12), (1, .getfield 23, 3, i_getf 12 3 0), (4, .aload_n 0, 1, i_load 0 12), (5, .getfield 9, 3, i_getr 12 0 30), (8, .arraylength, 1, i_alen 30), (9, .if_icmp .lt 5, 3, i_if2 (fun a b => a < b) 2 1)]
def bl_33_1 : List am_E := [(12, .iconst 2, 1, i_push 0 2), (13, .ireturn, 1, i_ret 0)]
def bl_33_2 : List am_E := [(14, .aload_n 0, 1, i_load 0 12), (15, .getfield 9, 3, i_getr 12 0 30), (18, .aload_n 0, 1, i_load 0 12), (19, .getfield 23, 3, i_getf 12 3 0), (22, .iload_n 1, 1, i_load 1 0), (23, .iastore, 1, i_ast 30 0), (24, .aload_n 0, 1, i_load 0 12), (25, .dup, 1, i_dup), (26, .getfield 23, 3, i_getf 12 3 0), (29, .iconst 1, 1, i_push 0 1), (30, .iadd, 1, i_op2 0 (fun a b => w32 (a + b))), (31, .putfield 23, 3, i_putf 12 3 0), (34, .iconst 0, 1, i_push 0 0), (35, .ireturn, 1, i_ret 0)]
def cd_33 : Nat × List (List Bool × am_B) := (2, [([true, true], (bl_33_0, 9999)), ([false, false], (bl_33_1, 9999)), ([true, true], (bl_33_2, 9999))])
-- X2_takeJoint
def lp_34 : Nat → Nat := fun b => ([0, 14, 21, 48, 57, 63, 65, 74, 78, 79, 85, 91, 92, 99, 106, 124, 126, 135, 137, 159, 165, 169, 170] : List Nat).getD b 0
def bl_34_0 : List am_E := [(0, .aload_n 0, 1, i_load 0 12), (1, .getfield 15, 3, i_getr 12 1 17), (4, .getfield 53, 3, i_getf 17 4 0), (7, .istore_n 1, 1, i_store 1 0), (8, .iload_n 1, 1, i_load 1 0), (9, .bipush 41, 2, i_push 0 41), (11, .if_icmp .ne 37, 3, i_if2 (fun a b => a ≠ b) 3 1)]
def bl_34_1 : List am_E := [(14, .aload_n 0, 1, i_load 0 12), (15, .getfield 27, 3, i_getf 12 4 0), (18, .ifCond .le 30, 3, i_if1 (fun a => a ≤ 0) 3 2)]
def bl_34_2 : List am_E := [(21, .aload_n 0, 1, i_load 0 12), (22, .iconst 1, 1, i_push 0 1), (23, .invokevirtual 56, 3, i_vcall 32 2 [12, 0] 9), (26, .aload_n 0, 1, i_load 0 12), (27, .dup, 1, i_dup), (28, .getfield 23, 3, i_getf 12 3 0), (31, .iconst 1, 1, i_push 0 1), (32, .isub, 1, i_op2 0 (fun a b => w32 (a - b))), (33, .putfield 23, 3, i_putf 12 3 0), (36, .aload_n 0, 1, i_load 0 12), (37, .dup, 1, i_dup), (38, .getfield 27, 3, i_getf 12 4 0), (41, .iconst 1, 1, i_push 0 1), (42, .isub, 1, i_op2 0 (fun a b => w32 (a - b))), (43, .putfield 27, 3, i_putf 12 4 0), (46, .iconst 0, 1, i_push 0 0), (47, .ireturn, 1, i_ret 0)]
def bl_34_3 : List am_E := [(48, .iload_n 1, 1, i_load 1 0), (49, .invokestatic 77, 3, i_call 31 1 [0] 0), (52, .istore_n 2, 1, i_store 2 0), (53, .iload_n 2, 1, i_load 2 0), (54, .ifCond .eq 9, 3, i_if1 (fun a => a = 0) 5 4)]
def bl_34_4 : List am_E := [(57, .iload_n 1, 1, i_load 1 0), (58, .bipush 22, 2, i_push 0 22), (60, .if_icmp .ne 5, 3, i_if2 (fun a b => a ≠ b) 6 5)]
def bl_34_5 : List am_E := [(63, .iconst 1, 1, i_push 0 1), (64, .ireturn, 1, i_ret 0)]
def bl_34_6 : List am_E := [(65, .iload_n 2, 1, i_load 2 0), (66, .bipush 32, 2, i_push 0 32), (68, .invokestatic 77, 3, i_call 31 1 [0] 0), (71, .if_icmp .ne 7, 3, i_if2 (fun a b => a ≠ b) 8 7)]
def bl_34_7 : List am_E := [(74, .iconst 1, 1, i_push 0 1), (75, .goto 4, 3, i_goto 9)]
def bl_34_8 : List am_E := [(78, .iconst 0, 1, i_push 0 0)]
def bl_34_9 : List am_E := [(79, .istore_n 3, 1, i_store 3 0), (80, .aload_n 0, 1, i_load 0 12), (81, .iload_n 3, 1, i_load 3 0), (82, .ifCond .eq 9, 3, i_if1 (fun a => a = 0) 11 10)]
def bl_34_10 : List am_E := [(85, .iload_n 2, 1, i_load 2 0), (86, .iconst 1, 1, i_push 0 1), (87, .iadd, 1, i_op2 0 (fun a b => w32 (a + b))), (88, .goto 4, 3, i_goto 12)]
def bl_34_11 : List am_E := [(91, .iload_n 2, 1, i_load 2 0)]
def bl_34_12 : List am_E := [(92, .invokevirtual 56, 3, i_vcall 32 2 [12, 0] 9), (95, .iload_n 3, 1, i_load 3 0), (96, .ifCond .eq 30, 3, i_if1 (fun a => a = 0) 16 13)]
def bl_34_13 : List am_E := [(99, .aload_n 0, 1, i_load 0 12), (100, .getfield 23, 3, i_getf 12 3 0), (103, .ifCond .le 23, 3, i_if1 (fun a => a ≤ 0) 16 14)]
def bl_34_14 : List am_E := [(106, .aload_n 0, 1, i_load 0 12), (107, .getfield 9, 3, i_getr 12 0 30), (110, .aload_n 0, 1, i_load 0 12), (111, .getfield 23, 3, i_getf 12 3 0), (114, .iconst 1, 1, i_push 0 1), (115, .isub, 1, i_op2 0 (fun a b => w32 (a - b))), (116, .iaload, 1, i_ald 30 0), (117, .invokestatic 77, 3, i_call 31 1 [0] 0), (120, .iload_n 2, 1, i_load 2 0), (121, .if_icmp .ne 5, 3, i_if2 (fun a b => a ≠ b) 16 15)]
def bl_34_15 : List am_E := [(124, .iconst 1, 1, i_push 0 1), (125, .ireturn, 1, i_ret 0)]
def bl_34_16 : List am_E := [(126, .aload_n 0, 1, i_load 0 12), (127, .getfield 35, 3, i_getf 12 5 0), (130, .bipush 64, 2, i_push 0 64), (132, .if_icmp .lt 5, 3, i_if2 (fun a b => a < b) 18 17)]
def bl_34_17 : List am_E := [(135, .iconst 2, 1, i_push 0 2), (136, .ireturn, 1, i_ret 0)]
def bl_34_18 : List am_E := [(137, .aload_n 0, 1, i_load 0 12), (138, .dup, 1, i_dup), (139, .getfield 35, 3, i_getf 12 5 0), (142, .iconst 1, 1, i_push 0 1), (143, .iadd, 1, i_op2 0 (fun a b => w32 (a + b))), (144, .putfield 35, 3, i_putf 12 5 0), (147, .aload_n 0, 1, i_load 0 12), (148, .iconst 1, 1, i_push 0 1), (149, .putfield 41, 3, i_putz 12 7), (152, .aload_n 0, 1, i_load 0 12), (153, .iload_n 1, 1, i_load 1 0), (154, .bipush 20, 2, i_push 0 20), (156, .if_icmp .eq 9, 3, i_if2 (fun a b => a = b) 20 19)]
def bl_34_19 : List am_E := [(159, .iload_n 1, 1, i_load 1 0), (160, .bipush 21, 2, i_push 0 21), (162, .if_icmp .ne 7, 3, i_if2 (fun a b => a ≠ b) 21 20)]
def bl_34_20 : List am_E := [(165, .iconst 1, 1, i_push 0 1), (166, .goto 4, 3, i_goto 22)]
def bl_34_21 : List am_E := [(169, .iconst 0, 1, i_push 0 0)]
def bl_34_22 : List am_E := [(170, .putfield 45, 3, i_putz 12 8), (173, .aload_n 0, 1, i_load 0 12), (174, .iload_n 1, 1, i_load 1 0), (175, .invokevirtual 67, 3, i_vcall 33 2 [12, 0] 0), (178, .ireturn, 1, i_ret 0)]
def cd_34 : Nat × List (List Bool × am_B) := (4, [([true, false, false, false], (bl_34_0, 9999)), ([true, true, false, false], (bl_34_1, 9999)), ([true, false, false, false], (bl_34_2, 9999)), ([true, true, false, false], (bl_34_3, 9999)), ([true, true, true, false], (bl_34_4, 9999)), ([false, false, false, false], (bl_34_5, 9999)), ([true, true, true, false], (bl_34_6, 9999)), ([true, true, true, false], (bl_34_7, 9999)), ([true, true, true, false], (bl_34_8, 9)), ([true, true, true, false], (bl_34_9, 9999)), ([true, true, true, true], (bl_34_10, 9999)), ([true, true, true, true], (bl_34_11, 12)), ([true, true, true, true], (bl_34_12, 9999)), ([true, true, true, false], (bl_34_13, 9999)), ([true, true, true, false], (bl_34_14, 9999)), ([false, false, false, false], (bl_34_15, 9999)), ([true, true, false, false], (bl_34_16, 9999)), ([false, false, false, false], (bl_34_17, 9999)), ([true, true, false, false], (bl_34_18, 9999)), ([true, true, false, false], (bl_34_19, 9999)), ([true, true, false, false], (bl_34_20, 9999)), ([true, true, false, false], (bl_34_21, 22)), ([true, true, false, false], (bl_34_22, 9999))])
-- X2_takePart
def lp_35 : Nat → Nat := fun b => ([0, 14, 23, 25, 47, 52, 58, 64, 68, 69, 74, 80, 87, 89, 98, 103, 116, 118, 134, 141, 147, 159, 160] : List Nat).getD b 0
def bl_35_0 : List am_E := [(0, .aload_n 0, 1, i_load 0 12), (1, .getfield 15, 3, i_getr 12 1 17), (4, .getfield 53, 3, i_getf 17 4 0), (7, .istore_n 1, 1, i_store 1 0), (8, .iload_n 1, 1, i_load 1 0), (9, .bipush 40, 2, i_push 0 40), (11, .if_icmp .ne 36, 3, i_if2 (fun a b => a ≠ b) 4 1)]
def bl_35_1 : List am_E := [(14, .aload_n 0, 1, i_load 0 12), (15, .getfield 27, 3, i_getf 12 4 0), (18, .bipush 8, 2, i_push 0 8), (20, .if_icmp .lt 5, 3, i_if2 (fun a b => a < b) 3 2)]
def bl_35_2 : List am_E := [(23, .iconst 2, 1, i_push 0 2), (24, .ireturn, 1, i_ret 0)]
def bl_35_3 : List am_E := [(25, .aload_n 0, 1, i_load 0 12), (26, .dup, 1, i_dup), (27, .getfield 27, 3, i_getf 12 4 0), (30, .iconst 1, 1, i_push 0 1), (31, .iadd, 1, i_op2 0 (fun a b => w32 (a + b))), (32, .putfield 27, 3, i_putf 12 4 0), (35, .aload_n 0, 1, i_load 0 12), (36, .iconst 1, 1, i_push 0 1), (37, .putfield 45, 3, i_putz 12 8), (40, .aload_n 0, 1, i_load 0 12), (41, .bipush 40, 2, i_push 0 40), (43, .invokevirtual 67, 3, i_vcall 33 2 [12, 0] 0), (46, .ireturn, 1, i_ret 0)]
def bl_35_4 : List am_E := [(47, .iload_n 1, 1, i_load 1 0), (48, .iconst 2, 1, i_push 0 2), (49, .if_icmp .eq 15, 3, i_if2 (fun a b => a = b) 7 5)]
def bl_35_5 : List am_E := [(52, .iload_n 1, 1, i_load 1 0), (53, .bipush 23, 2, i_push 0 23), (55, .if_icmp .lt 13, 3, i_if2 (fun a b => a < b) 8 6)]
def bl_35_6 : List am_E := [(58, .iload_n 1, 1, i_load 1 0), (59, .bipush 29, 2, i_push 0 29), (61, .if_icmp .gt 7, 3, i_if2 (fun a b => b < a) 8 7)]
def bl_35_7 : List am_E := [(64, .iconst 1, 1, i_push 0 1), (65, .goto 4, 3, i_goto 9)]
def bl_35_8 : List am_E := [(68, .iconst 0, 1, i_push 0 0)]
def bl_35_9 : List am_E := [(69, .istore_n 2, 1, i_store 2 0), (70, .iload_n 2, 1, i_load 2 0), (71, .ifCond .ne 18, 3, i_if1 (fun a => a ≠ 0) 13 10)]
def bl_35_10 : List am_E := [(74, .iload_n 1, 1, i_load 1 0), (75, .bipush 22, 2, i_push 0 22), (77, .if_icmp .ne 10, 3, i_if2 (fun a b => a ≠ b) 12 11)]
def bl_35_11 : List am_E := [(80, .aload_n 0, 1, i_load 0 12), (81, .getfield 45, 3, i_getf 12 8 0), (84, .ifCond .ne 5, 3, i_if1 (fun a => a ≠ 0) 13 12)]
def bl_35_12 : List am_E := [(87, .iconst 1, 1, i_push 0 1), (88, .ireturn, 1, i_ret 0)]
def bl_35_13 : List am_E := [(89, .aload_n 0, 1, i_load 0 12), (90, .getfield 35, 3, i_getf 12 5 0), (93, .bipush 64, 2, i_push 0 64), (95, .if_icmp .ge 21, 3, i_if2 (fun a b => b ≤ a) 16 14)]
def bl_35_14 : List am_E := [(98, .iload_n 1, 1, i_load 1 0), (99, .iconst 2, 1, i_push 0 2), (100, .if_icmp .ne 18, 3, i_if2 (fun a b => a ≠ b) 17 15)]
def bl_35_15 : List am_E := [(103, .aload_n 0, 1, i_load 0 12), (104, .getfield 15, 3, i_getr 12 1 17), (107, .getfield 71, 3, i_getf 17 6 0), (110, .sipush 9999, 3, i_push 0 9999), (113, .if_icmp .le 5, 3, i_if2 (fun a b => a ≤ b) 17 16)]
def bl_35_16 : List am_E := [(116, .iconst 2, 1, i_push 0 2), (117, .ireturn, 1, i_ret 0)]
def bl_35_17 : List am_E := [(118, .aload_n 0, 1, i_load 0 12), (119, .dup, 1, i_dup), (120, .getfield 35, 3, i_getf 12 5 0), (123, .iconst 1, 1, i_push 0 1), (124, .iadd, 1, i_op2 0 (fun a b => w32 (a + b))), (125, .putfield 35, 3, i_putf 12 5 0), (128, .iload_n 1, 1, i_load 1 0), (129, .bipush 22, 2, i_push 0 22), (131, .if_icmp .ne 10, 3, i_if2 (fun a b => a ≠ b) 19 18)]
def bl_35_18 : List am_E := [(134, .aload_n 0, 1, i_load 0 12), (135, .bipush 22, 2, i_push 0 22), (137, .invokevirtual 67, 3, i_vcall 33 2 [12, 0] 0), (140, .ireturn, 1, i_ret 0)]
def bl_35_19 : List am_E := [(141, .aload_n 0, 1, i_load 0 12), (142, .iload_n 1, 1, i_load 1 0), (143, .iconst 2, 1, i_push 0 2), (144, .if_icmp .ne 15, 3, i_if2 (fun a b => a ≠ b) 21 20)]
def bl_35_20 : List am_E := [(147, .iconst (-1), 1, i_push 0 (-1)), (148, .aload_n 0, 1, i_load 0 12), (149, .getfield 15, 3, i_getr 12 1 17), (152, .getfield 71, 3, i_getf 17 6 0), (155, .isub, 1, i_op2 0 (fun a b => w32 (a - b))), (156, .goto 4, 3, i_goto 22)]
def bl_35_21 : List am_E := [(159, .iload_n 1, 1, i_load 1 0)]
def bl_35_22 : List am_E := [(160, .invokevirtual 74, 3, i_vcall 30 2 [12, 0] 9), (163, .aload_n 0, 1, i_load 0 12), (164, .iconst 0, 1, i_push 0 0), (165, .putfield 41, 3, i_putz 12 7), (168, .iconst 0, 1, i_push 0 0), (169, .ireturn, 1, i_ret 0)]
def cd_35 : Nat × List (List Bool × am_B) := (3, [([true, false, false], (bl_35_0, 9999)), ([true, false, false], (bl_35_1, 9999)), ([false, false, false], (bl_35_2, 9999)), ([true, false, false], (bl_35_3, 9999)), ([true, true, false], (bl_35_4, 9999)), ([true, true, false], (bl_35_5, 9999)), ([true, true, false], (bl_35_6, 9999)), ([true, true, false], (bl_35_7, 9999)), ([true, true, false], (bl_35_8, 9)), ([true, true, false], (bl_35_9, 9999)), ([true, true, false], (bl_35_10, 9999)), ([true, true, false], (bl_35_11, 9999)), ([false, false, false], (bl_35_12, 9999)), ([true, true, false], (bl_35_13, 9999)), ([true, true, false], (bl_35_14, 9999)), ([true, true, false], (bl_35_15, 9999)), ([false, false, false], (bl_35_16, 9999)), ([true, true, false], (bl_35_17, 9999)), ([true, false, false], (bl_35_18, 9999)), ([true, true, false], (bl_35_19, 9999)), ([true, false, false], (bl_35_20, 9999)), ([true, true, false], (bl_35_21, 22)), ([true, false, false], (bl_35_22, 9999))])
-- X7_isDigit
def lp_36 : Nat → Nat := fun b => ([0, 11, 22, 26, 27] : List Nat).getD b 0
def bl_36_0 : List am_E := [(0, .aload_n 0, 1, i_load 0 17), (1, .getfield 15, 3, i_getr 17 1 31), (4, .iload_n 1, 1, i_load 1 0), (5, .baload, 1, i_ald 31 0), (6, .bipush 48, 2, i_push 0 48), (8, .if_icmp .lt 18, 3, i_if2 (fun a b => a < b) 3 1)]
def bl_36_1 : List am_E := [(11, .aload_n 0, 1, i_load 0 17), (12, .getfield 15, 3, i_getr 17 1 31), (15, .iload_n 1, 1, i_load 1 0), (16, .baload, 1, i_ald 31 0), (17, .bipush 57, 2, i_push 0 57), (19, .if_icmp .gt 7, 3, i_if2 (fun a b => b < a) 3 2)]
def bl_36_2 : List am_E := [(22, .iconst 1, 1, i_push 0 1), (23, .goto 4, 3, i_goto 4)]
def bl_36_3 : List am_E := [(26, .iconst 0, 1, i_push 0 0)]
def bl_36_4 : List am_E := [(27, .ireturn, 1, i_zret)]
def cd_36 : Nat × List (List Bool × am_B) := (2, [([true, true], (bl_36_0, 9999)), ([true, true], (bl_36_1, 9999)), ([false, false], (bl_36_2, 9999)), ([false, false], (bl_36_3, 4)), ([false, false], (bl_36_4, 9999))])
-- X7_isLetter
def lp_37 : Nat → Nat := fun b => ([0, 11, 22, 26, 27] : List Nat).getD b 0
def bl_37_0 : List am_E := [(0, .aload_n 0, 1, i_load 0 17), (1, .getfield 15, 3, i_getr 17 1 31), (4, .iload_n 1, 1, i_load 1 0), (5, .baload, 1, i_ald 31 0), (6, .bipush 97, 2, i_push 0 97), (8, .if_icmp .lt 18, 3, i_if2 (fun a b => a < b) 3 1)]
def bl_37_1 : List am_E := [(11, .aload_n 0, 1, i_load 0 17), (12, .getfield 15, 3, i_getr 17 1 31), (15, .iload_n 1, 1, i_load 1 0), (16, .baload, 1, i_ald 31 0), (17, .bipush 122, 2, i_push 0 122), (19, .if_icmp .gt 7, 3, i_if2 (fun a b => b < a) 3 2)]
def bl_37_2 : List am_E := [(22, .iconst 1, 1, i_push 0 1), (23, .goto 4, 3, i_goto 4)]
def bl_37_3 : List am_E := [(26, .iconst 0, 1, i_push 0 0)]
def bl_37_4 : List am_E := [(27, .ireturn, 1, i_zret)]
def cd_37 : Nat × List (List Bool × am_B) := (2, [([true, true], (bl_37_0, 9999)), ([true, true], (bl_37_1, 9999)), ([false, false], (bl_37_2, 9999)), ([false, false], (bl_37_3, 4)), ([false, false], (bl_37_4, 9999))])
-- X7_signKind
def lp_38 : Nat → Nat := fun b => ([0, 108, 111, 114, 117, 120, 123, 126, 129, 132, 135, 138] : List Nat).getD b 0
def bl_38_0 : List am_E := [(0, .iload_n 0, 1, i_load 0 0), (1, .tableswitch 137 40 62 #[128, 131, 122, 116, 137, 119, 137, 125, 137, 137, 137, 137, 137, 137, 137, 137, 137, 137, 137, 134, 107, 113, 110], 107, i_sw 11 [(40, 8), (41, 9), (42, 6), (43, 4), (44, 11), (45, 5), (46, 11), (47, 7), (48, 11), (49, 11), (50, 11), (51, 11), (52, 11), (53, 11), (54, 11), (55, 11), (56, 11), (57, 11), (58, 11), (59, 10), (60, 1), (61, 3), (62, 2)])]
def bl_38_1 : List am_E := [(108, .bipush 30, 2, i_push 0 30), (110, .ireturn, 1, i_ret 0)]
def bl_38_2 : List am_E := [(111, .bipush 35, 2, i_push 0 35), (113, .ireturn, 1, i_ret 0)]
def bl_38_3 : List am_E := [(114, .bipush 32, 2, i_push 0 32), (116, .ireturn, 1, i_ret 0)]
def bl_38_4 : List am_E := [(117, .bipush 36, 2, i_push 0 36), (119, .ireturn, 1, i_ret 0)]
def bl_38_5 : List am_E := [(120, .bipush 37, 2, i_push 0 37), (122, .ireturn, 1, i_ret 0)]
def bl_38_6 : List am_E := [(123, .bipush 38, 2, i_push 0 38), (125, .ireturn, 1, i_ret 0)]
def bl_38_7 : List am_E := [(126, .bipush 39, 2, i_push 0 39), (128, .ireturn, 1, i_ret 0)]
def bl_38_8 : List am_E := [(129, .bipush 40, 2, i_push 0 40), (131, .ireturn, 1, i_ret 0)]
def bl_38_9 : List am_E := [(132, .bipush 41, 2, i_push 0 41), (134, .ireturn, 1, i_ret 0)]
def bl_38_10 : List am_E := [(135, .bipush 42, 2, i_push 0 42), (137, .ireturn, 1, i_ret 0)]
def bl_38_11 : List am_E := [(138, .iconst 1, 1, i_push 0 1), (139, .ireturn, 1, i_ret 0)]
def cd_38 : Nat × List (List Bool × am_B) := (1, [([true], (bl_38_0, 9999)), ([false], (bl_38_1, 9999)), ([false], (bl_38_2, 9999)), ([false], (bl_38_3, 9999)), ([false], (bl_38_4, 9999)), ([false], (bl_38_5, 9999)), ([false], (bl_38_6, 9999)), ([false], (bl_38_7, 9999)), ([false], (bl_38_8, 9999)), ([false], (bl_38_9, 9999)), ([false], (bl_38_10, 9999)), ([false], (bl_38_11, 9999))])
-- X7_stepNumber
def lp_39 : Nat → Nat := fun b => ([0, 11, 22, 64] : List Nat).getD b 0
def bl_39_0 : List am_E := [(0, .aload_n 0, 1, i_load 0 17), (1, .getfield 40, 3, i_getf 17 3 0), (4, .aload_n 0, 1, i_load 0 17), (5, .getfield 37, 3, i_getf 17 2 0), (8, .if_icmp .ge 56, 3, i_if2 (fun a b => b ≤ a) 3 1)]
def bl_39_1 : List am_E := [(11, .aload_n 0, 1, i_load 0 17), (12, .aload_n 0, 1, i_load 0 17), (13, .getfield 40, 3, i_getf 17 3 0), (16, .invokevirtual 59, 3, i_vcall 36 2 [17, 0] 0), (19, .ifCond .eq 45, 3, i_if1 (fun a => a = 0) 3 2)]
def bl_39_2 : List am_E := [(22, .aload_n 0, 1, i_load 0 17), (23, .aload_n 0, 1, i_load 0 17), (24, .getfield 49, 3, i_getf 17 6 0), (27, .bipush 10, 2, i_push 0 10), (29, .imul, 1, i_op2 0 (fun a b => w32 (a * b))), (30, .aload_n 0, 1, i_load 0 17), (31, .getfield 15, 3, i_getr 17 1 31), (34, .aload_n 0, 1, i_load 0 17), (35, .getfield 40, 3, i_getf 17 3 0), (38, .baload, 1, i_ald 31 0), (39, .iadd, 1, i_op2 0 (fun a b => w32 (a + b))), (40, .bipush 48, 2, i_push 0 48), (42, .isub, 1, i_op2 0 (fun a b => w32 (a - b))), (43, .ldc 76, 2, i_push 0 1000000), (45, .invokestatic 31, 3, i_mm2 0 (fun a b => if b < a then b else a)), (48, .putfield 49, 3, i_putf 17 6 0), (51, .aload_n 0, 1, i_load 0 17), (52, .dup, 1, i_dup), (53, .getfield 40, 3, i_getf 17 3 0), (56, .iconst 1, 1, i_push 0 1), (57, .iadd, 1, i_op2 0 (fun a b => w32 (a + b))), (58, .putfield 40, 3, i_putf 17 3 0), (61, .goto (-61), 3, i_goto 0)]
def bl_39_3 : List am_E := [(64, .aload_n 0, 1, i_load 0 17), (65, .iconst 2, 1, i_push 0 2), (66, .putfield 43, 3, i_putf 17 4 0), (69, .return_, 1, i_vret)]
def cd_39 : Nat × List (List Bool × am_B) := (1, [([true], (bl_39_0, 9999)), ([true], (bl_39_1, 9999)), ([true], (bl_39_2, 9999)), ([true], (bl_39_3, 9999))])
-- X7_stepSecondSign
def lp_40 : Nat → Nat := fun b => ([0, 11, 12, 26, 36, 41, 43, 59, 73, 82, 98] : List Nat).getD b 0
def bl_40_0 : List am_E := [(0, .aload_n 0, 1, i_load 0 17), (1, .getfield 40, 3, i_getf 17 3 0), (4, .aload_n 0, 1, i_load 0 17), (5, .getfield 37, 3, i_getf 17 2 0), (8, .if_icmp .lt 4, 3, i_if2 (fun a b => a < b) 2 1)]
def bl_40_1 : List am_E := [(11, .return_, 1, i_vret)]
def bl_40_2 : List am_E := [(12, .aload_n 0, 1, i_load 0 17), (13, .getfield 15, 3, i_getr 17 1 31), (16, .aload_n 0, 1, i_load 0 17), (17, .getfield 40, 3, i_getf 17 3 0), (20, .baload, 1, i_ald 31 0), (21, .bipush 61, 2, i_push 0 61), (23, .if_icmp .ne 36, 3, i_if2 (fun a b => a ≠ b) 7 3)]
def bl_40_3 : List am_E := [(26, .aload_n 0, 1, i_load 0 17), (27, .aload_n 0, 1, i_load 0 17), (28, .getfield 43, 3, i_getf 17 4 0), (31, .bipush 30, 2, i_push 0 30), (33, .if_icmp .ne 8, 3, i_if2 (fun a b => a ≠ b) 5 4)]
def bl_40_4 : List am_E := [(36, .bipush 31, 2, i_push 0 31), (38, .goto 5, 3, i_goto 6)]
def bl_40_5 : List am_E := [(41, .bipush 34, 2, i_push 0 34)]
def bl_40_6 : List am_E := [(43, .putfield 43, 3, i_putf 17 4 0), (46, .aload_n 0, 1, i_load 0 17), (47, .dup, 1, i_dup), (48, .getfield 40, 3, i_getf 17 3 0), (51, .iconst 1, 1, i_push 0 1), (52, .iadd, 1, i_op2 0 (fun a b => w32 (a + b))), (53, .putfield 40, 3, i_putf 17 3 0), (56, .goto 42, 3, i_goto 10)]
def bl_40_7 : List am_E := [(59, .aload_n 0, 1, i_load 0 17), (60, .getfield 15, 3, i_getr 17 1 31), (63, .aload_n 0, 1, i_load 0 17), (64, .getfield 40, 3, i_getf 17 3 0), (67, .baload, 1, i_ald 31 0), (68, .bipush 62, 2, i_push 0 62), (70, .if_icmp .ne 28, 3, i_if2 (fun a b => a ≠ b) 10 8)]
def bl_40_8 : List am_E := [(73, .aload_n 0, 1, i_load 0 17), (74, .getfield 43, 3, i_getf 17 4 0), (77, .bipush 30, 2, i_push 0 30), (79, .if_icmp .ne 19, 3, i_if2 (fun a b => a ≠ b) 10 9)]
def bl_40_9 : List am_E := [(82, .aload_n 0, 1, i_load 0 17), (83, .bipush 33, 2, i_push 0 33), (85, .putfield 43, 3, i_putf 17 4 0), (88, .aload_n 0, 1, i_load 0 17), (89, .dup, 1, i_dup), (90, .getfield 40, 3, i_getf 17 3 0), (93, .iconst 1, 1, i_push 0 1), (94, .iadd, 1, i_op2 0 (fun a b => w32 (a + b))), (95, .putfield 40, 3, i_putf 17 3 0)]
def bl_40_10 : List am_E := [(98, .return_, 1, i_vret)]
def cd_40 : Nat × List (List Bool × am_B) := (1, [([true], (bl_40_0, 9999)), ([false], (bl_40_1, 9999)), ([true], (bl_40_2, 9999)), ([true], (bl_40_3, 9999)), ([true], (bl_40_4, 9999)), ([true], (bl_40_5, 6)), ([true], (bl_40_6, 9999)), ([true], (bl_40_7, 9999)), ([true], (bl_40_8, 9999)), ([true], (bl_40_9, 10)), ([false], (bl_40_10, 9999))])
-- X11_indexOf
def lp_41 : Nat → Nat := fun b => ([0, 2, 7, 13, 20, 22, 28] : List Nat).getD b 0
def bl_41_0 : List am_E := [(0, .iconst 0, 1, i_push 0 0), (1, .istore_n 3, 1, i_store 3 0)]
def bl_41_1 : List am_E := [(2, .iload_n 3, 1, i_load 3 0), (3, .iload_n 1, 1, i_load 1 0), (4, .if_icmp .ge 24, 3, i_if2 (fun a b => b ≤ a) 6 2)]
def bl_41_2 : List am_E := [(7, .iload_n 3, 1, i_load 3 0), (8, .aload_n 0, 1, i_load 0 30), (9, .arraylength, 1, i_alen 30), (10, .if_icmp .ge 18, 3, i_if2 (fun a b => b ≤ a) 6 3)]
def bl_41_3 : List am_E := [(13, .aload_n 0, 1, i_load 0 30), (14, .iload_n 3, 1, i_load 3 0), (15, .iaload, 1, i_ald 30 0), (16, .iload_n 2, 1, i_load 2 0), (17, .if_icmp .ne 5, 3, i_if2 (fun a b => a ≠ b) 5 4)]
def bl_41_4 : List am_E := [(20, .iload_n 3, 1, i_load 3 0), (21, .ireturn, 1, i_ret 0)]
def bl_41_5 : List am_E := [(22, .iinc 3 1, 3, i_inc 3 1), (25, .goto (-23), 3, i_goto 1)]
def bl_41_6 : List am_E := [(28, .iconst (-1), 1, i_push 0 (-1)), (29, .ireturn, 1, i_ret 0)]
def cd_41 : Nat × List (List Bool × am_B) := (4, [([true, true, true, false], (bl_41_0, 1)), ([true, true, true, true], (bl_41_1, 9999)), ([true, true, true, true], (bl_41_2, 9999)), ([true, true, true, true], (bl_41_3, 9999)), ([false, false, false, true], (bl_41_4, 9999)), ([true, true, true, true], (bl_41_5, 9999)), ([false, false, false, false], (bl_41_6, 9999))])
-- X7_stepWord
def lp_42 : Nat → Nat := fun b => ([0, 2, 13, 24, 30, 60, 76, 82, 88, 107, 111, 115] : List Nat).getD b 0
def bl_42_0 : List am_E := [(0, .iconst 0, 1, i_push 0 0), (1, .istore_n 1, 1, i_store 1 0)]
def bl_42_1 : List am_E := [(2, .aload_n 0, 1, i_load 0 17), (3, .getfield 40, 3, i_getf 17 3 0), (6, .aload_n 0, 1, i_load 0 17), (7, .getfield 37, 3, i_getf 17 2 0), (10, .if_icmp .ge 66, 3, i_if2 (fun a b => b ≤ a) 6 2)]
def bl_42_2 : List am_E := [(13, .aload_n 0, 1, i_load 0 17), (14, .aload_n 0, 1, i_load 0 17), (15, .getfield 40, 3, i_getf 17 3 0), (18, .invokevirtual 52, 3, i_vcall 37 2 [17, 0] 0), (21, .ifCond .eq 55, 3, i_if1 (fun a => a = 0) 6 3)]
def bl_42_3 : List am_E := [(24, .iload_n 1, 1, i_load 1 0), (25, .bipush 6, 2, i_push 0 6), (27, .if_icmp .ge 33, 3, i_if2 (fun a b => b ≤ a) 5 4)]
def bl_42_4 : List am_E := [(30, .aload_n 0, 1, i_load 0 17), (31, .dup, 1, i_dup), (32, .getfield 49, 3, i_getf 17 6 0), (35, .aload_n 0, 1, i_load 0 17), (36, .getfield 15, 3, i_getr 17 1 31), (39, .aload_n 0, 1, i_load 0 17), (40, .getfield 40, 3, i_getf 17 3 0), (43, .baload, 1, i_ald 31 0), (44, .bipush 97, 2, i_push 0 97), (46, .isub, 1, i_op2 0 (fun a b => w32 (a - b))), (47, .iconst 1, 1, i_push 0 1), (48, .iadd, 1, i_op2 0 (fun a b => w32 (a + b))), (49, .bipush 25, 2, i_push 0 25), (51, .iconst 5, 1, i_push 0 5), (52, .iload_n 1, 1, i_load 1 0), (53, .imul, 1, i_op2 0 (fun a b => w32 (a * b))), (54, .isub, 1, i_op2 0 (fun a b => w32 (a - b))), (55, .ishl, 1, i_op2 0 (fun a b => w32 (a * 2 ^ (b % 32).toNat))), (56, .ior, 1, i_op2 0 (fun a b => or_ a b)), (57, .putfield 49, 3, i_putf 17 6 0)]
def bl_42_5 : List am_E := [(60, .iinc 1 1, 3, i_inc 1 1), (63, .aload_n 0, 1, i_load 0 17), (64, .dup, 1, i_dup), (65, .getfield 40, 3, i_getf 17 3 0), (68, .iconst 1, 1, i_push 0 1), (69, .iadd, 1, i_op2 0 (fun a b => w32 (a + b))), (70, .putfield 40, 3, i_putf 17 3 0), (73, .goto (-71), 3, i_goto 1)]
def bl_42_6 : List am_E := [(76, .iload_n 1, 1, i_load 1 0), (77, .bipush 6, 2, i_push 0 6), (79, .if_icmp .le 9, 3, i_if2 (fun a b => a ≤ b) 8 7)]
def bl_42_7 : List am_E := [(82, .aload_n 0, 1, i_load 0 17), (83, .iconst 1, 1, i_push 0 1), (84, .putfield 43, 3, i_putf 17 4 0), (87, .return_, 1, i_vret)]
def bl_42_8 : List am_E := [(88, .aload_n 0, 1, i_load 0 17), (89, .getfield 11, 3, i_getr 17 0 30), (92, .bipush 20, 2, i_push 0 20), (94, .aload_n 0, 1, i_load 0 17), (95, .getfield 49, 3, i_getf 17 6 0), (98, .invokestatic 72, 3, i_call 41 3 [30, 0, 0] 0), (101, .istore_n 2, 1, i_store 2 0), (102, .aload_n 0, 1, i_load 0 17), (103, .iload_n 2, 1, i_load 2 0), (104, .ifCond .ge 7, 3, i_if1 (fun a => 0 ≤ a) 10 9)]
def bl_42_9 : List am_E := [(107, .iconst 3, 1, i_push 0 3), (108, .goto 7, 3, i_goto 11)]
def bl_42_10 : List am_E := [(111, .bipush 10, 2, i_push 0 10), (113, .iload_n 2, 1, i_load 2 0), (114, .iadd, 1, i_op2 0 (fun a b => w32 (a + b)))]
def bl_42_11 : List am_E := [(115, .putfield 43, 3, i_putf 17 4 0), (118, .return_, 1, i_vret)]
def cd_42 : Nat × List (List Bool × am_B) := (3, [([true, false, false], (bl_42_0, 1)), ([true, true, false], (bl_42_1, 9999)), ([true, true, false], (bl_42_2, 9999)), ([true, true, false], (bl_42_3, 9999)), ([true, true, false], (bl_42_4, 5)), ([true, true, false], (bl_42_5, 9999)), ([true, true, false], (bl_42_6, 9999)), ([true, false, false], (bl_42_7, 9999)), ([true, false, false], (bl_42_8, 9999)), ([false, false, false], (bl_42_9, 9999)), ([false, false, true], (bl_42_10, 11)), ([false, false, false], (bl_42_11, 9999))])
-- X7_step
def lp_43 : Nat → Nat := fun b => ([0, 11, 25, 39, 52, 76, 84, 95, 102, 113, 120, 155, 164, 168] : List Nat).getD b 0
def bl_43_0 : List am_E := [(0, .aload_n 0, 1, i_load 0 17), (1, .getfield 40, 3, i_getf 17 3 0), (4, .aload_n 0, 1, i_load 0 17), (5, .getfield 37, 3, i_getf 17 2 0), (8, .if_icmp .ge 44, 3, i_if2 (fun a b => b ≤ a) 4 1)]
def bl_43_1 : List am_E := [(11, .aload_n 0, 1, i_load 0 17), (12, .getfield 15, 3, i_getr 17 1 31), (15, .aload_n 0, 1, i_load 0 17), (16, .getfield 40, 3, i_getf 17 3 0), (19, .baload, 1, i_ald 31 0), (20, .bipush 10, 2, i_push 0 10), (22, .if_icmp .eq 17, 3, i_if2 (fun a b => a = b) 3 2)]
def bl_43_2 : List am_E := [(25, .aload_n 0, 1, i_load 0 17), (26, .getfield 15, 3, i_getr 17 1 31), (29, .aload_n 0, 1, i_load 0 17), (30, .getfield 40, 3, i_getf 17 3 0), (33, .baload, 1, i_ald 31 0), (34, .bipush 32, 2, i_push 0 32), (36, .if_icmp .ne 16, 3, i_if2 (fun a b => a ≠ b) 4 3)]
def bl_43_3 : List am_E := [(39, .aload_n 0, 1, i_load 0 17), (40, .dup, 1, i_dup), (41, .getfield 40, 3, i_getf 17 3 0), (44, .iconst 1, 1, i_push 0 1), (45, .iadd, 1, i_op2 0 (fun a b => w32 (a + b))), (46, .putfield 40, 3, i_putf 17 3 0), (49, .goto (-49), 3, i_goto 0)]
def bl_43_4 : List am_E := [(52, .aload_n 0, 1, i_load 0 17), (53, .aload_n 0, 1, i_load 0 17), (54, .getfield 40, 3, i_getf 17 3 0), (57, .putfield 46, 3, i_putf 17 5 0), (60, .aload_n 0, 1, i_load 0 17), (61, .iconst 0, 1, i_push 0 0), (62, .putfield 49, 3, i_putf 17 6 0), (65, .aload_n 0, 1, i_load 0 17), (66, .getfield 40, 3, i_getf 17 3 0), (69, .aload_n 0, 1, i_load 0 17), (70, .getfield 37, 3, i_getf 17 2 0), (73, .if_icmp .lt 11, 3, i_if2 (fun a b => a < b) 6 5)]
def bl_43_5 : List am_E := [(76, .aload_n 0, 1, i_load 0 17), (77, .iconst 0, 1, i_push 0 0), (78, .putfield 43, 3, i_putf 17 4 0), (81, .goto 87, 3, i_goto 13)]
def bl_43_6 : List am_E := [(84, .aload_n 0, 1, i_load 0 17), (85, .aload_n 0, 1, i_load 0 17), (86, .getfield 40, 3, i_getf 17 3 0), (89, .invokevirtual 52, 3, i_vcall 37 2 [17, 0] 0), (92, .ifCond .eq 10, 3, i_if1 (fun a => a = 0) 8 7)]
def bl_43_7 : List am_E := [(95, .aload_n 0, 1, i_load 0 17), (96, .invokevirtual 56, 3, i_vcall 42 1 [17] 9), (99, .goto 69, 3, i_goto 13)]
def bl_43_8 : List am_E := [(102, .aload_n 0, 1, i_load 0 17), (103, .aload_n 0, 1, i_load 0 17), (104, .getfield 40, 3, i_getf 17 3 0), (107, .invokevirtual 59, 3, i_vcall 36 2 [17, 0] 0), (110, .ifCond .eq 10, 3, i_if1 (fun a => a = 0) 10 9)]
def bl_43_9 : List am_E := [(113, .aload_n 0, 1, i_load 0 17), (114, .invokevirtual 62, 3, i_vcall 39 1 [17] 9), (117, .goto 51, 3, i_goto 13)]
def bl_43_10 : List am_E := [(120, .aload_n 0, 1, i_load 0 17), (121, .aload_n 0, 1, i_load 0 17), (122, .getfield 15, 3, i_getr 17 1 31), (125, .aload_n 0, 1, i_load 0 17), (126, .getfield 40, 3, i_getf 17 3 0), (129, .baload, 1, i_ald 31 0), (130, .invokestatic 65, 3, i_call 38 1 [0] 0), (133, .putfield 43, 3, i_putf 17 4 0), (136, .aload_n 0, 1, i_load 0 17), (137, .dup, 1, i_dup), (138, .getfield 40, 3, i_getf 17 3 0), (141, .iconst 1, 1, i_push 0 1), (142, .iadd, 1, i_op2 0 (fun a b => w32 (a + b))), (143, .putfield 40, 3, i_putf 17 3 0), (146, .aload_n 0, 1, i_load 0 17), (147, .getfield 43, 3, i_getf 17 4 0), (150, .bipush 30, 2, i_push 0 30), (152, .if_icmp .eq 12, 3, i_if2 (fun a b => a = b) 12 11)]
def bl_43_11 : List am_E := [(155, .aload_n 0, 1, i_load 0 17), (156, .getfield 43, 3, i_getf 17 4 0), (159, .bipush 35, 2, i_push 0 35), (161, .if_icmp .ne 7, 3, i_if2 (fun a b => a ≠ b) 13 12)]
def bl_43_12 : List am_E := [(164, .aload_n 0, 1, i_load 0 17), (165, .invokevirtual 69, 3, i_vcall 40 1 [17] 9)]
def bl_43_13 : List am_E := [(168, .return_, 1, i_vret)]
def cd_43 : Nat × List (List Bool × am_B) := (1, [([true], (bl_43_0, 9999)), ([true], (bl_43_1, 9999)), ([true], (bl_43_2, 9999)), ([true], (bl_43_3, 9999)), ([true], (bl_43_4, 9999)), ([true], (bl_43_5, 9999)), ([true], (bl_43_6, 9999)), ([true], (bl_43_7, 9999)), ([true], (bl_43_8, 9999)), ([true], (bl_43_9, 9999)), ([true], (bl_43_10, 9999)), ([true], (bl_43_11, 9999)), ([true], (bl_43_12, 13)), ([false], (bl_43_13, 9999))])
-- X2_read
def lp_44 : Nat → Nat := fun b => ([0, 54, 61, 75, 82, 94, 112, 119, 126, 130, 137, 140, 146] : List Nat).getD b 0
def bl_44_0 : List am_E := [(0, .aload_n 0, 1, i_load 0 12), (1, .aload_n 1, 1, i_load 1 17), (2, .putfield 15, 3, i_putr 12 1 17), (5, .aload_n 0, 1, i_load 0 12), (6, .aload_n 2, 1, i_load 2 18), (7, .putfield 19, 3, i_putr 12 2 18), (10, .aload_n 0, 1, i_load 0 12), (11, .iconst 0, 1, i_push 0 0), (12, .putfield 23, 3, i_putf 12 3 0), (15, .aload_n 0, 1, i_load 0 12), (16, .iconst 0, 1, i_push 0 0), (17, .putfield 27, 3, i_putf 12 4 0), (20, .aload_n 0, 1, i_load 0 12), (21, .aload_n 0, 1, i_load 0 12), (22, .getfield 19, 3, i_getr 12 2 18), (25, .getfield 30, 3, i_getf 18 3 0), (28, .putfield 35, 3, i_putf 12 5 0), (31, .aload_n 0, 1, i_load 0 12), (32, .aload_n 0, 1, i_load 0 12), (33, .getfield 19, 3, i_getr 12 2 18), (36, .getfield 30, 3, i_getf 18 3 0), (39, .putfield 38, 3, i_putf 12 6 0), (42, .aload_n 0, 1, i_load 0 12), (43, .iconst 1, 1, i_push 0 1), (44, .putfield 41, 3, i_putz 12 7), (47, .aload_n 0, 1, i_load 0 12), (48, .iconst 1, 1, i_push 0 1), (49, .putfield 45, 3, i_putz 12 8), (52, .iconst 0, 1, i_push 0 0), (53, .istore_n 3, 1, i_store 3 0)]
def bl_44_1 : List am_E := [(54, .iload_n 3, 1, i_load 3 0), (55, .sipush 700, 3, i_push 0 700), (58, .if_icmp .gt 88, 3, i_if2 (fun a b => b < a) 12 2)]
def bl_44_2 : List am_E := [(61, .aload_n 0, 1, i_load 0 12), (62, .getfield 15, 3, i_getr 12 1 17), (65, .invokevirtual 48, 3, i_vcall 43 1 [17] 9), (68, .aload_n 0, 1, i_load 0 12), (69, .getfield 41, 3, i_getf 12 7 0), (72, .ifCond .ne 40, 3, i_if1 (fun a => a ≠ 0) 6 3)]
def bl_44_3 : List am_E := [(75, .aload_n 0, 1, i_load 0 12), (76, .getfield 27, 3, i_getf 12 4 0), (79, .ifCond .ne 33, 3, i_if1 (fun a => a ≠ 0) 6 4)]
def bl_44_4 : List am_E := [(82, .aload_n 0, 1, i_load 0 12), (83, .getfield 15, 3, i_getr 12 1 17), (86, .getfield 53, 3, i_getf 17 4 0), (89, .bipush 42, 2, i_push 0 42), (91, .if_icmp .ne 21, 3, i_if2 (fun a b => a ≠ b) 6 5)]
def bl_44_5 : List am_E := [(94, .aload_n 0, 1, i_load 0 12), (95, .iconst 1, 1, i_push 0 1), (96, .invokevirtual 56, 3, i_vcall 32 2 [12, 0] 9), (99, .aload_n 0, 1, i_load 0 12), (100, .getfield 19, 3, i_getr 12 2 18), (103, .aload_n 0, 1, i_load 0 12), (104, .getfield 38, 3, i_getf 12 6 0), (107, .putfield 30, 3, i_putf 18 3 0), (110, .iconst 0, 1, i_push 0 0), (111, .ireturn, 1, i_ret 0)]
def bl_44_6 : List am_E := [(112, .aload_n 0, 1, i_load 0 12), (113, .getfield 41, 3, i_getf 12 7 0), (116, .ifCond .eq 10, 3, i_if1 (fun a => a = 0) 8 7)]
def bl_44_7 : List am_E := [(119, .aload_n 0, 1, i_load 0 12), (120, .invokevirtual 60, 3, i_vcall 35 1 [12] 0), (123, .goto 7, 3, i_goto 9)]
def bl_44_8 : List am_E := [(126, .aload_n 0, 1, i_load 0 12), (127, .invokevirtual 64, 3, i_vcall 34 1 [12] 0)]
def bl_44_9 : List am_E := [(130, .istore 4, 2, i_store 4 0), (132, .iload 4, 2, i_load 4 0), (134, .ifCond .eq 6, 3, i_if1 (fun a => a = 0) 11 10)]
def bl_44_10 : List am_E := [(137, .iload 4, 2, i_load 4 0), (139, .ireturn, 1, i_ret 0)]
def bl_44_11 : List am_E := [(140, .iinc 3 1, 3, i_inc 3 1), (143, .goto (-89), 3, i_goto 1)]
def bl_44_12 : List am_E := [(146, .iconst 1, 1, i_push 0 1), (147, .ireturn, 1, i_ret 0)]
def cd_44 : Nat × List (List Bool × am_B) := (5, [([true, true, true, false, false], (bl_44_0, 1)), ([true, false, false, true, false], (bl_44_1, 9999)), ([true, false, false, true, false], (bl_44_2, 9999)), ([true, false, false, true, false], (bl_44_3, 9999)), ([true, false, false, true, false], (bl_44_4, 9999)), ([true, false, false, false, false], (bl_44_5, 9999)), ([true, false, false, true, false], (bl_44_6, 9999)), ([true, false, false, true, false], (bl_44_7, 9999)), ([true, false, false, true, false], (bl_44_8, 9)), ([true, false, false, true, false], (bl_44_9, 9999)), ([false, false, false, false, true], (bl_44_10, 9999)), ([true, false, false, true, false], (bl_44_11, 9999)), ([false, false, false, false, false], (bl_44_12, 9999))])
-- X3_init
def lp_45 : Nat → Nat := fun b => ([0] : List Nat).getD b 0
def bl_45_0 : List am_E := [(0, .aload_n 0, 1, i_load 0 13), (1, .invokespecial 3, 3, i_oini 13), (4, .aload_n 0, 1, i_load 0 13), (5, .bipush 64, 2, i_push 0 64), (7, .newarray .long, 2, i_newa 23), (9, .putfield 9, 3, i_putr 13 0 33), (12, .aload_n 0, 1, i_load 0 13), (13, .aconst_null, 1, i_push 3 (-1)), (14, .putfield 15, 3, i_putn 13 1), (17, .aload_n 0, 1, i_load 0 13), (18, .aconst_null, 1, i_push 3 (-1)), (19, .putfield 19, 3, i_putn 13 2), (22, .return_, 1, i_vret)]
def cd_45 : Nat × List (List Bool × am_B) := (1, [([true], (bl_45_0, 9999))])
-- X3_lookAt
def lp_46 : Nat → Nat := fun b => ([0] : List Nat).getD b 0
def bl_46_0 : List am_E := [(0, .aload_n 0, 1, i_load 0 13), (1, .aload_n 1, 1, i_load 1 18), (2, .putfield 15, 3, i_putr 13 1 18), (5, .aload_n 0, 1, i_load 0 13), (6, .aload_n 2, 1, i_load 2 20), (7, .putfield 19, 3, i_putr 13 2 20), (10, .aload_n 0, 1, i_load 0 13), (11, .iload_n 3, 1, i_load 3 0), (12, .putfield 23, 3, i_putf 13 3 0), (15, .aload_n 0, 1, i_load 0 13), (16, .iload 4, 2, i_load 4 0), (18, .putfield 27, 3, i_putf 13 4 0), (21, .aload_n 0, 1, i_load 0 13), (22, .iload 5, 2, i_load 5 0), (24, .putfield 30, 3, i_putf 13 5 0), (27, .return_, 1, i_vret)]
def cd_46 : Nat × List (List Bool × am_B) := (6, [([true, true, true, true, true, true], (bl_46_0, 9999))])
-- X3_inBounds
def lp_47 : Nat → Nat := fun b => ([0, 8, 16, 23] : List Nat).getD b 0
def bl_47_0 : List am_E := [(0, .lload_n 1, 1, i_load 1 1), (1, .ldc2_w 104, 3, i_push 1 1000000000000), (4, .lcmp, 1, i_lcmp), (5, .ifCond .gt 11, 3, i_if1 (fun a => 0 < a) 2 1)]
def bl_47_1 : List am_E := [(8, .lload_n 1, 1, i_load 1 1), (9, .ldc2_w 106, 3, i_push 1 (-1000000000000)), (12, .lcmp, 1, i_lcmp), (13, .ifCond .ge 10, 3, i_if1 (fun a => 0 ≤ a) 3 2)]
def bl_47_2 : List am_E := [(16, .aload_n 0, 1, i_load 0 13), (17, .iconst 1, 1, i_push 0 1), (18, .putfield 39, 3, i_putz 13 6), (21, .lconst 0, 1, i_push 1 0), (22, .lreturn, 1, i_ret 1)]
def bl_47_3 : List am_E := [(23, .lload_n 1, 1, i_load 1 1), (24, .lreturn, 1, i_ret 1)]
def cd_47 : Nat × List (List Bool × am_B) := (3, [([true, true, false], (bl_47_0, 9999)), ([true, true, false], (bl_47_1, 9999)), ([true, false, false], (bl_47_2, 9999)), ([false, true, false], (bl_47_3, 9999))])
-- X3_product
def lp_48 : Nat → Nat := fun b => ([0, 6, 22, 29] : List Nat).getD b 0
def bl_48_0 : List am_E := [(0, .lload_n 3, 1, i_load 3 1), (1, .lconst 0, 1, i_push 1 0), (2, .lcmp, 1, i_lcmp), (3, .ifCond .eq 26, 3, i_if1 (fun a => a = 0) 3 1)]
def bl_48_1 : List am_E := [(6, .lload_n 1, 1, i_load 1 1), (7, .invokestatic 108, 3, i_mm1 1 (fun a => if 0 < a then a else w64 (-a))), (10, .ldc2_w 104, 3, i_push 1 1000000000000), (13, .lload_n 3, 1, i_load 3 1), (14, .invokestatic 108, 3, i_mm1 1 (fun a => if 0 < a then a else w64 (-a))), (17, .ldiv, 1, i_dv2 1 (fun a b => w64 (Int.tdiv a b))), (18, .lcmp, 1, i_lcmp), (19, .ifCond .le 10, 3, i_if1 (fun a => a ≤ 0) 3 2)]
def bl_48_2 : List am_E := [(22, .aload_n 0, 1, i_load 0 13), (23, .iconst 1, 1, i_push 0 1), (24, .putfield 39, 3, i_putz 13 6), (27, .lconst 0, 1, i_push 1 0), (28, .lreturn, 1, i_ret 1)]
def bl_48_3 : List am_E := [(29, .lload_n 1, 1, i_load 1 1), (30, .lload_n 3, 1, i_load 3 1), (31, .lmul, 1, i_op2 1 (fun a b => w64 (a * b))), (32, .lreturn, 1, i_ret 1)]
def cd_48 : Nat × List (List Bool × am_B) := (5, [([true, true, false, true, false], (bl_48_0, 9999)), ([true, true, false, true, false], (bl_48_1, 9999)), ([true, false, false, false, false], (bl_48_2, 9999)), ([false, true, false, true, false], (bl_48_3, 9999))])
-- X3_quotient
def lp_49 : Nat → Nat := fun b => ([0, 6, 13] : List Nat).getD b 0
def bl_49_0 : List am_E := [(0, .lload_n 3, 1, i_load 3 1), (1, .lconst 0, 1, i_push 1 0), (2, .lcmp, 1, i_lcmp), (3, .ifCond .ne 10, 3, i_if1 (fun a => a ≠ 0) 2 1)]
def bl_49_1 : List am_E := [(6, .aload_n 0, 1, i_load 0 13), (7, .iconst 1, 1, i_push 0 1), (8, .putfield 39, 3, i_putz 13 6), (11, .lconst 0, 1, i_push 1 0), (12, .lreturn, 1, i_ret 1)]
def bl_49_2 : List am_E := [(13, .lload_n 1, 1, i_load 1 1), (14, .lload_n 3, 1, i_load 3 1), (15, .ldiv, 1, i_dv2 1 (fun a b => w64 (Int.tdiv a b))), (16, .lreturn, 1, i_ret 1)]
def cd_49 : Nat × List (List Bool × am_B) := (5, [([true, true, false, true, false], (bl_49_0, 9999)), ([true, false, false, false, false], (bl_49_1, 9999)), ([false, true, false, true, false], (bl_49_2, 9999))])
-- X3_truth
def lp_50 : Nat → Nat := fun b => ([0, 4, 8, 9] : List Nat).getD b 0
def bl_50_0 : List am_E := [(0, .iload_n 0, 1, i_load 0 0), (1, .ifCond .eq 7, 3, i_if1 (fun a => a = 0) 2 1)]
def bl_50_1 : List am_E := [(4, .lconst 1, 1, i_push 1 1), (5, .goto 4, 3, i_goto 3)]
def bl_50_2 : List am_E := [(8, .lconst 0, 1, i_push 1 0)]
def bl_50_3 : List am_E := [(9, .lreturn, 1, i_ret 1)]
def cd_50 : Nat × List (List Bool × am_B) := (1, [([true], (bl_50_0, 9999)), ([false], (bl_50_1, 9999)), ([false], (bl_50_2, 3)), ([false], (bl_50_3, 9999))])
-- X3_joined
def lp_51 : Nat → Nat := fun b => ([0, 92, 98, 105, 109, 110, 114, 120, 127, 131, 132, 136, 143, 147, 148, 152, 159, 163, 164, 168, 175, 179, 180, 184, 191, 195, 196, 200, 207, 211, 212, 216, 223, 227, 228, 232, 241, 250, 258] : List Nat).getD b 0
def bl_51_0 : List am_E := [(0, .iload_n 1, 1, i_load 1 0), (1, .tableswitch 257 20 38 #[91, 113, 257, 257, 257, 257, 257, 257, 257, 257, 135, 151, 167, 183, 199, 215, 231, 240, 249], 91, i_sw 38 [(20, 1), (21, 6), (22, 38), (23, 38), (24, 38), (25, 38), (26, 38), (27, 38), (28, 38), (29, 38), (30, 11), (31, 15), (32, 19), (33, 23), (34, 27), (35, 31), (36, 35), (37, 36), (38, 37)])]
def bl_51_1 : List am_E := [(92, .lload_n 2, 1, i_load 2 1), (93, .lconst 0, 1, i_push 1 0), (94, .lcmp, 1, i_lcmp), (95, .ifCond .ne 10, 3, i_if1 (fun a => a ≠ 0) 3 2)]
def bl_51_2 : List am_E := [(98, .lload 4, 2, i_load 4 1), (100, .lconst 0, 1, i_push 1 0), (101, .lcmp, 1, i_lcmp), (102, .ifCond .eq 7, 3, i_if1 (fun a => a = 0) 4 3)]
def bl_51_3 : List am_E := [(105, .iconst 1, 1, i_push 0 1), (106, .goto 4, 3, i_goto 5)]
def bl_51_4 : List am_E := [(109, .iconst 0, 1, i_push 0 0)]
def bl_51_5 : List am_E := [(110, .invokestatic 53, 3, i_call 50 1 [0] 1), (113, .lreturn, 1, i_ret 1)]
def bl_51_6 : List am_E := [(114, .lload_n 2, 1, i_load 2 1), (115, .lconst 0, 1, i_push 1 0), (116, .lcmp, 1, i_lcmp), (117, .ifCond .eq 14, 3, i_if1 (fun a => a = 0) 9 7)]
def bl_51_7 : List am_E := [(120, .lload 4, 2, i_load 4 1), (122, .lconst 0, 1, i_push 1 0), (123, .lcmp, 1, i_lcmp), (124, .ifCond .eq 7, 3, i_if1 (fun a => a = 0) 9 8)]
def bl_51_8 : List am_E := [(127, .iconst 1, 1, i_push 0 1), (128, .goto 4, 3, i_goto 10)]
def bl_51_9 : List am_E := [(131, .iconst 0, 1, i_push 0 0)]
def bl_51_10 : List am_E := [(132, .invokestatic 53, 3, i_call 50 1 [0] 1), (135, .lreturn, 1, i_ret 1)]
def bl_51_11 : List am_E := [(136, .lload_n 2, 1, i_load 2 1), (137, .lload 4, 2, i_load 4 1), (139, .lcmp, 1, i_lcmp), (140, .ifCond .ge 7, 3, i_if1 (fun a => 0 ≤ a) 13 12)]
def bl_51_12 : List am_E := [(143, .iconst 1, 1, i_push 0 1), (144, .goto 4, 3, i_goto 14)]
def bl_51_13 : List am_E := [(147, .iconst 0, 1, i_push 0 0)]
def bl_51_14 : List am_E := [(148, .invokestatic 53, 3, i_call 50 1 [0] 1), (151, .lreturn, 1, i_ret 1)]
def bl_51_15 : List am_E := [(152, .lload_n 2, 1, i_load 2 1), (153, .lload 4, 2, i_load 4 1), (155, .lcmp, 1, i_lcmp), (156, .ifCond .gt 7, 3, i_if1 (fun a => 0 < a) 17 16)]
def bl_51_16 : List am_E := [(159, .iconst 1, 1, i_push 0 1), (160, .goto 4, 3, i_goto 18)]
def bl_51_17 : List am_E := [(163, .iconst 0, 1, i_push 0 0)]
def bl_51_18 : List am_E := [(164, .invokestatic 53, 3, i_call 50 1 [0] 1), (167, .lreturn, 1, i_ret 1)]
def bl_51_19 : List am_E := [(168, .lload_n 2, 1, i_load 2 1), (169, .lload 4, 2, i_load 4 1), (171, .lcmp, 1, i_lcmp), (172, .ifCond .ne 7, 3, i_if1 (fun a => a ≠ 0) 21 20)]
def bl_51_20 : List am_E := [(175, .iconst 1, 1, i_push 0 1), (176, .goto 4, 3, i_goto 22)]
def bl_51_21 : List am_E := [(179, .iconst 0, 1, i_push 0 0)]
def bl_51_22 : List am_E := [(180, .invokestatic 53, 3, i_call 50 1 [0] 1), (183, .lreturn, 1, i_ret 1)]
def bl_51_23 : List am_E := [(184, .lload_n 2, 1, i_load 2 1), (185, .lload 4, 2, i_load 4 1), (187, .lcmp, 1, i_lcmp), (188, .ifCond .eq 7, 3, i_if1 (fun a => a = 0) 25 24)]
def bl_51_24 : List am_E := [(191, .iconst 1, 1, i_push 0 1), (192, .goto 4, 3, i_goto 26)]
def bl_51_25 : List am_E := [(195, .iconst 0, 1, i_push 0 0)]
def bl_51_26 : List am_E := [(196, .invokestatic 53, 3, i_call 50 1 [0] 1), (199, .lreturn, 1, i_ret 1)]
def bl_51_27 : List am_E := [(200, .lload_n 2, 1, i_load 2 1), (201, .lload 4, 2, i_load 4 1), (203, .lcmp, 1, i_lcmp), (204, .ifCond .lt 7, 3, i_if1 (fun a => a < 0) 29 28)]
def bl_51_28 : List am_E := [(207, .iconst 1, 1, i_push 0 1), (208, .goto 4, 3, i_goto 30)]
def bl_51_29 : List am_E := [(211, .iconst 0, 1, i_push 0 0)]
def bl_51_30 : List am_E := [(212, .invokestatic 53, 3, i_call 50 1 [0] 1), (215, .lreturn, 1, i_ret 1)]
def bl_51_31 : List am_E := [(216, .lload_n 2, 1, i_load 2 1), (217, .lload 4, 2, i_load 4 1), (219, .lcmp, 1, i_lcmp), (220, .ifCond .le 7, 3, i_if1 (fun a => a ≤ 0) 33 32)]
def bl_51_32 : List am_E := [(223, .iconst 1, 1, i_push 0 1), (224, .goto 4, 3, i_goto 34)]
def bl_51_33 : List am_E := [(227, .iconst 0, 1, i_push 0 0)]
def bl_51_34 : List am_E := [(228, .invokestatic 53, 3, i_call 50 1 [0] 1), (231, .lreturn, 1, i_ret 1)]
def bl_51_35 : List am_E := [(232, .aload_n 0, 1, i_load 0 13), (233, .lload_n 2, 1, i_load 2 1), (234, .lload 4, 2, i_load 4 1), (236, .ladd, 1, i_op2 1 (fun a b => w64 (a + b))), (237, .invokevirtual 93, 3, i_vcall 47 2 [13, 1] 1), (240, .lreturn, 1, i_ret 1)]
def bl_51_36 : List am_E := [(241, .aload_n 0, 1, i_load 0 13), (242, .lload_n 2, 1, i_load 2 1), (243, .lload 4, 2, i_load 4 1), (245, .lsub, 1, i_op2 1 (fun a b => w64 (a - b))), (246, .invokevirtual 93, 3, i_vcall 47 2 [13, 1] 1), (249, .lreturn, 1, i_ret 1)]
def bl_51_37 : List am_E := [(250, .aload_n 0, 1, i_load 0 13), (251, .lload_n 2, 1, i_load 2 1), (252, .lload 4, 2, i_load 4 1), (254, .invokevirtual 97, 3, i_vcall 48 3 [13, 1, 1] 1), (257, .lreturn, 1, i_ret 1)]
def bl_51_38 : List am_E := [(258, .aload_n 0, 1, i_load 0 13), (259, .lload_n 2, 1, i_load 2 1), (260, .lload 4, 2, i_load 4 1), (262, .invokevirtual 101, 3, i_vcall 49 3 [13, 1, 1] 1), (265, .lreturn, 1, i_ret 1)]
def cd_51 : Nat × List (List Bool × am_B) := (6, [([true, true, true, false, true, false], (bl_51_0, 9999)), ([false, false, true, false, true, false], (bl_51_1, 9999)), ([false, false, false, false, true, false], (bl_51_2, 9999)), ([false, false, false, false, false, false], (bl_51_3, 9999)), ([false, false, false, false, false, false], (bl_51_4, 5)), ([false, false, false, false, false, false], (bl_51_5, 9999)), ([false, false, true, false, true, false], (bl_51_6, 9999)), ([false, false, false, false, true, false], (bl_51_7, 9999)), ([false, false, false, false, false, false], (bl_51_8, 9999)), ([false, false, false, false, false, false], (bl_51_9, 10)), ([false, false, false, false, false, false], (bl_51_10, 9999)), ([false, false, true, false, true, false], (bl_51_11, 9999)), ([false, false, false, false, false, false], (bl_51_12, 9999)), ([false, false, false, false, false, false], (bl_51_13, 14)), ([false, false, false, false, false, false], (bl_51_14, 9999)), ([false, false, true, false, true, false], (bl_51_15, 9999)), ([false, false, false, false, false, false], (bl_51_16, 9999)), ([false, false, false, false, false, false], (bl_51_17, 18)), ([false, false, false, false, false, false], (bl_51_18, 9999)), ([false, false, true, false, true, false], (bl_51_19, 9999)), ([false, false, false, false, false, false], (bl_51_20, 9999)), ([false, false, false, false, false, false], (bl_51_21, 22)), ([false, false, false, false, false, false], (bl_51_22, 9999)), ([false, false, true, false, true, false], (bl_51_23, 9999)), ([false, false, false, false, false, false], (bl_51_24, 9999)), ([false, false, false, false, false, false], (bl_51_25, 26)), ([false, false, false, false, false, false], (bl_51_26, 9999)), ([false, false, true, false, true, false], (bl_51_27, 9999)), ([false, false, false, false, false, false], (bl_51_28, 9999)), ([false, false, false, false, false, false], (bl_51_29, 30)), ([false, false, false, false, false, false], (bl_51_30, 9999)), ([false, false, true, false, true, false], (bl_51_31, 9999)), ([false, false, false, false, false, false], (bl_51_32, 9999)), ([false, false, false, false, false, false], (bl_51_33, 34)), ([false, false, false, false, false, false], (bl_51_34, 9999)), ([true, false, true, false, true, false], (bl_51_35, 9999)), ([true, false, true, false, true, false], (bl_51_36, 9999)), ([true, false, true, false, true, false], (bl_51_37, 9999)), ([true, false, true, false, true, false], (bl_51_38, 9999))])
-- X10_gaps
def lp_52 : Nat → Nat := fun b => ([0, 9, 20, 45, 56, 79, 85, 92, 100, 106, 115, 124, 128, 129, 137, 150, 153, 158, 161, 167] : List Nat).getD b 0
def bl_52_0 : List am_E := [(0, .iconst 0, 1, i_push 0 0), (1, .istore_n 2, 1, i_store 2 0), (2, .iload_n 1, 1, i_load 1 0), (3, .iconst 5, 1, i_push 0 5), (4, .imul, 1, i_op2 0 (fun a b => w32 (a * b))), (5, .istore_n 3, 1, i_store 3 0), (6, .iconst 0, 1, i_push 0 0), (7, .istore 4, 2, i_store 4 0)]
def bl_52_1 : List am_E := [(9, .iload 4, 2, i_load 4 0), (11, .aload_n 0, 1, i_load 0 20), (12, .getfield 9, 3, i_getr 20 6 30), (15, .iload_n 1, 1, i_load 1 0), (16, .iaload, 1, i_ald 30 0), (17, .if_icmp .ge 150, 3, i_if2 (fun a b => b ≤ a) 19 2)]
def bl_52_2 : List am_E := [(20, .aload_n 0, 1, i_load 0 20), (21, .getfield 24, 3, i_getr 20 10 30), (24, .aload_n 0, 1, i_load 0 20), (25, .getfield 21, 3, i_getr 20 9 30), (28, .iload_n 3, 1, i_load 3 0), (29, .iload 4, 2, i_load 4 0), (31, .iadd, 1, i_op2 0 (fun a b => w32 (a + b))), (32, .iaload, 1, i_ald 30 0), (33, .iaload, 1, i_ald 30 0), (34, .istore 5, 2, i_store 5 0), (36, .iconst (-1), 1, i_push 0 (-1)), (37, .istore 6, 2, i_store 6 0), (39, .iconst 0, 1, i_push 0 0), (40, .istore 7, 2, i_store 7 0), (42, .iconst 0, 1, i_push 0 0), (43, .istore 8, 2, i_store 8 0)]
def bl_52_3 : List am_E := [(45, .iload 8, 2, i_load 8 0), (47, .aload_n 0, 1, i_load 0 20), (48, .getfield 9, 3, i_getr 20 6 30), (51, .iload_n 1, 1, i_load 1 0), (52, .iaload, 1, i_ald 30 0), (53, .if_icmp .ge 53, 3, i_if2 (fun a b => b ≤ a) 9 4)]
def bl_52_4 : List am_E := [(56, .aload_n 0, 1, i_load 0 20), (57, .getfield 24, 3, i_getr 20 10 30), (60, .aload_n 0, 1, i_load 0 20), (61, .getfield 21, 3, i_getr 20 9 30), (64, .iload_n 3, 1, i_load 3 0), (65, .iload 8, 2, i_load 8 0), (67, .iadd, 1, i_op2 0 (fun a b => w32 (a + b))), (68, .iaload, 1, i_ald 30 0), (69, .iaload, 1, i_ald 30 0), (70, .istore 9, 2, i_store 9 0), (72, .iload 9, 2, i_load 9 0), (74, .iload 5, 2, i_load 5 0), (76, .if_icmp .le 24, 3, i_if2 (fun a b => a ≤ b) 8 5)]
def bl_52_5 : List am_E := [(79, .iload 6, 2, i_load 6 0), (81, .iconst (-1), 1, i_push 0 (-1)), (82, .if_icmp .eq 10, 3, i_if2 (fun a b => a = b) 7 6)]
def bl_52_6 : List am_E := [(85, .iload 9, 2, i_load 9 0), (87, .iload 7, 2, i_load 7 0), (89, .if_icmp .ge 11, 3, i_if2 (fun a b => b ≤ a) 8 7)]
def bl_52_7 : List am_E := [(92, .iload 8, 2, i_load 8 0), (94, .istore 6, 2, i_store 6 0), (96, .iload 9, 2, i_load 9 0), (98, .istore 7, 2, i_store 7 0)]
def bl_52_8 : List am_E := [(100, .iinc 8 1, 3, i_inc 8 1), (103, .goto (-58), 3, i_goto 3)]
def bl_52_9 : List am_E := [(106, .iload 6, 2, i_load 6 0), (108, .iload 4, 2, i_load 4 0), (110, .iconst 1, 1, i_push 0 1), (111, .isub, 1, i_op2 0 (fun a b => w32 (a - b))), (112, .if_icmp .eq 12, 3, i_if2 (fun a b => a = b) 11 10)]
def bl_52_10 : List am_E := [(115, .iload 6, 2, i_load 6 0), (117, .iload 4, 2, i_load 4 0), (119, .iconst 1, 1, i_push 0 1), (120, .iadd, 1, i_op2 0 (fun a b => w32 (a + b))), (121, .if_icmp .ne 7, 3, i_if2 (fun a b => a ≠ b) 12 11)]
def bl_52_11 : List am_E := [(124, .iconst 1, 1, i_push 0 1), (125, .goto 4, 3, i_goto 13)]
def bl_52_12 : List am_E := [(128, .iconst 0, 1, i_push 0 0)]
def bl_52_13 : List am_E := [(129, .istore 8, 2, i_store 8 0), (131, .iload 6, 2, i_load 6 0), (133, .iconst (-1), 1, i_push 0 (-1)), (134, .if_icmp .ne 19, 3, i_if2 (fun a b => a ≠ b) 16 14)]
def bl_52_14 : List am_E := [(137, .iload 4, 2, i_load 4 0), (139, .aload_n 0, 1, i_load 0 20), (140, .getfield 9, 3, i_getr 20 6 30), (143, .iload_n 1, 1, i_load 1 0), (144, .iaload, 1, i_ald 30 0), (145, .iconst 1, 1, i_push 0 1), (146, .isub, 1, i_op2 0 (fun a b => w32 (a - b))), (147, .if_icmp .eq 14, 3, i_if2 (fun a b => a = b) 18 15)]
def bl_52_15 : List am_E := [(150, .goto 8, 3, i_goto 17)]
def bl_52_16 : List am_E := [(153, .iload 8, 2, i_load 8 0), (155, .ifCond .ne 6, 3, i_if1 (fun a => a ≠ 0) 18 17)]
def bl_52_17 : List am_E := [(158, .iinc 2 1, 3, i_inc 2 1)]
def bl_52_18 : List am_E := [(161, .iinc 4 1, 3, i_inc 4 1), (164, .goto (-155), 3, i_goto 1)]
def bl_52_19 : List am_E := [(167, .iload_n 2, 1, i_load 2 0), (168, .ireturn, 1, i_ret 0)]
def cd_52 : Nat × List (List Bool × am_B) := (10, [([true, true, false, false, false, false, false, false, false, false], (bl_52_0, 1)), ([true, true, true, true, true, false, false, false, false, false], (bl_52_1, 9999)), ([true, true, true, true, true, false, false, false, false, false], (bl_52_2, 3)), ([true, true, true, true, true, true, true, true, true, false], (bl_52_3, 9999)), ([true, true, true, true, true, true, true, true, true, false], (bl_52_4, 9999)), ([true, true, true, true, true, true, true, true, true, true], (bl_52_5, 9999)), ([true, true, true, true, true, true, true, true, true, true], (bl_52_6, 9999)), ([true, true, true, true, true, true, false, false, true, true], (bl_52_7, 8)), ([true, true, true, true, true, true, true, true, true, false], (bl_52_8, 9999)), ([true, true, true, true, true, false, true, false, false, false], (bl_52_9, 9999)), ([true, true, true, true, true, false, true, false, false, false], (bl_52_10, 9999)), ([true, true, true, true, true, false, true, false, false, false], (bl_52_11, 9999)), ([true, true, true, true, true, false, true, false, false, false], (bl_52_12, 13)), ([true, true, true, true, true, false, true, false, false, false], (bl_52_13, 9999)), ([true, true, true, true, true, false, false, false, false, false], (bl_52_14, 9999)), ([true, true, true, true, true, false, false, false, false, false], (bl_52_15, 9999)), ([true, true, true, true, true, false, false, false, true, false], (bl_52_16, 9999)), ([true, true, true, true, true, false, false, false, false, false], (bl_52_17, 18)), ([true, true, true, true, true, false, false, false, false, false], (bl_52_18, 9999)), ([false, false, true, false, false, false, false, false, false, false], (bl_52_19, 9999))])
-- X10_hasMaid
def lp_53 : Nat → Nat := fun b => ([0, 4, 12, 16, 17] : List Nat).getD b 0
def bl_53_0 : List am_E := [(0, .iload_n 1, 1, i_load 1 0), (1, .ifCond .lt 15, 3, i_if1 (fun a => a < 0) 3 1)]
def bl_53_1 : List am_E := [(4, .iload_n 1, 1, i_load 1 0), (5, .aload_n 0, 1, i_load 0 20), (6, .getfield 36, 3, i_getf 20 0 0), (9, .if_icmp .ge 7, 3, i_if2 (fun a b => b ≤ a) 3 2)]
def bl_53_2 : List am_E := [(12, .iconst 1, 1, i_push 0 1), (13, .goto 4, 3, i_goto 4)]
def bl_53_3 : List am_E := [(16, .iconst 0, 1, i_push 0 0)]
def bl_53_4 : List am_E := [(17, .ireturn, 1, i_zret)]
def cd_53 : Nat × List (List Bool × am_B) := (2, [([true, true], (bl_53_0, 9999)), ([true, true], (bl_53_1, 9999)), ([false, false], (bl_53_2, 9999)), ([false, false], (bl_53_3, 4)), ([false, false], (bl_53_4, 9999))])
-- X10_hasPile
def lp_54 : Nat → Nat := fun b => ([0, 4, 12, 16, 17] : List Nat).getD b 0
def bl_54_0 : List am_E := [(0, .iload_n 1, 1, i_load 1 0), (1, .ifCond .lt 15, 3, i_if1 (fun a => a < 0) 3 1)]
def bl_54_1 : List am_E := [(4, .iload_n 1, 1, i_load 1 0), (5, .aload_n 0, 1, i_load 0 20), (6, .getfield 40, 3, i_getf 20 1 0), (9, .if_icmp .ge 7, 3, i_if2 (fun a b => b ≤ a) 3 2)]
def bl_54_2 : List am_E := [(12, .iconst 1, 1, i_push 0 1), (13, .goto 4, 3, i_goto 4)]
def bl_54_3 : List am_E := [(16, .iconst 0, 1, i_push 0 0)]
def bl_54_4 : List am_E := [(17, .ireturn, 1, i_zret)]
def cd_54 : Nat × List (List Bool × am_B) := (2, [([true, true], (bl_54_0, 9999)), ([true, true], (bl_54_1, 9999)), ([false, false], (bl_54_2, 9999)), ([false, false], (bl_54_3, 4)), ([false, false], (bl_54_4, 9999))])
-- X10_plateAt
def lp_55 : Nat → Nat := fun b => ([0, 4, 12, 16, 26, 28] : List Nat).getD b 0
def bl_55_0 : List am_E := [(0, .iload_n 1, 1, i_load 1 0), (1, .ifCond .lt 25, 3, i_if1 (fun a => a < 0) 4 1)]
def bl_55_1 : List am_E := [(4, .iload_n 1, 1, i_load 1 0), (5, .aload_n 0, 1, i_load 0 20), (6, .getfield 40, 3, i_getf 20 1 0), (9, .if_icmp .ge 17, 3, i_if2 (fun a b => b ≤ a) 4 2)]
def bl_55_2 : List am_E := [(12, .iload_n 2, 1, i_load 2 0), (13, .ifCond .lt 13, 3, i_if1 (fun a => a < 0) 4 3)]
def bl_55_3 : List am_E := [(16, .iload_n 2, 1, i_load 2 0), (17, .aload_n 0, 1, i_load 0 20), (18, .getfield 9, 3, i_getr 20 6 30), (21, .iload_n 1, 1, i_load 1 0), (22, .iaload, 1, i_ald 30 0), (23, .if_icmp .lt 5, 3, i_if2 (fun a b => a < b) 5 4)]
def bl_55_4 : List am_E := [(26, .iconst (-1), 1, i_push 0 (-1)), (27, .ireturn, 1, i_ret 0)]
def bl_55_5 : List am_E := [(28, .aload_n 0, 1, i_load 0 20), (29, .getfield 21, 3, i_getr 20 9 30), (32, .iload_n 1, 1, i_load 1 0), (33, .iconst 5, 1, i_push 0 5), (34, .imul, 1, i_op2 0 (fun a b => w32 (a * b))), (35, .iload_n 2, 1, i_load 2 0), (36, .iadd, 1, i_op2 0 (fun a b => w32 (a + b))), (37, .iaload, 1, i_ald 30 0), (38, .ireturn, 1, i_ret 0)]
def cd_55 : Nat × List (List Bool × am_B) := (3, [([true, true, true], (bl_55_0, 9999)), ([true, true, true], (bl_55_1, 9999)), ([true, true, true], (bl_55_2, 9999)), ([true, true, true], (bl_55_3, 9999)), ([false, false, false], (bl_55_4, 9999)), ([true, true, true], (bl_55_5, 9999))])
-- X10_sizeAt
def lp_56 : Nat → Nat := fun b => ([0, 11, 15, 21] : List Nat).getD b 0
def bl_56_0 : List am_E := [(0, .aload_n 0, 1, i_load 0 20), (1, .iload_n 1, 1, i_load 1 0), (2, .iload_n 2, 1, i_load 2 0), (3, .invokevirtual 66, 3, i_vcall 55 3 [20, 0, 0] 0), (6, .istore_n 3, 1, i_store 3 0), (7, .iload_n 3, 1, i_load 3 0), (8, .ifCond .ge 7, 3, i_if1 (fun a => 0 ≤ a) 2 1)]
def bl_56_1 : List am_E := [(11, .iconst 0, 1, i_push 0 0), (12, .goto 9, 3, i_goto 3)]
def bl_56_2 : List am_E := [(15, .aload_n 0, 1, i_load 0 20), (16, .getfield 24, 3, i_getr 20 10 30), (19, .iload_n 3, 1, i_load 3 0), (20, .iaload, 1, i_ald 30 0)]
def bl_56_3 : List am_E := [(21, .ireturn, 1, i_ret 0)]
def cd_56 : Nat × List (List Bool × am_B) := (4, [([true, true, true, false], (bl_56_0, 9999)), ([false, false, false, false], (bl_56_1, 9999)), ([true, false, false, true], (bl_56_2, 3)), ([false, false, false, false], (bl_56_3, 9999))])
-- X3_nameValue
def lp_57 : Nat → Nat := fun b => ([0, 40, 53, 57, 63, 68, 74, 88, 104, 105, 106, 120, 136, 137, 138, 152, 168, 169, 170, 184, 199, 200, 201] : List Nat).getD b 0
def bl_57_0 : List am_E := [(0, .iload_n 1, 1, i_load 1 0), (1, .tableswitch 200 23 28 #[39, 67, 73, 105, 137, 169], 39, i_sw 22 [(23, 1), (24, 5), (25, 6), (26, 10), (27, 14), (28, 18)])]
def bl_57_1 : List am_E := [(40, .aload_n 0, 1, i_load 0 13), (41, .getfield 19, 3, i_getr 13 2 20), (44, .aload_n 0, 1, i_load 0 13), (45, .getfield 27, 3, i_getf 13 4 0), (48, .iload_n 2, 1, i_load 2 0), (49, .iconst 1, 1, i_push 0 1), (50, .if_icmp .ne 7, 3, i_if2 (fun a b => a ≠ b) 3 2)]
def bl_57_2 : List am_E := [(53, .iconst 0, 1, i_push 0 0), (54, .goto 9, 3, i_goto 4)]
def bl_57_3 : List am_E := [(57, .aload_n 0, 1, i_load 0 13), (58, .getfield 30, 3, i_getf 13 5 0), (61, .iconst 1, 1, i_push 0 1), (62, .isub, 1, i_op2 0 (fun a b => w32 (a - b)))]
def bl_57_4 : List am_E := [(63, .invokevirtual 65, 3, i_vcall 56 3 [20, 0, 0] 0), (66, .i2l, 1, i_op1 0 1 (fun a => a)), (67, .lreturn, 1, i_ret 1)]
def bl_57_5 : List am_E := [(68, .aload_n 0, 1, i_load 0 13), (69, .getfield 30, 3, i_getf 13 5 0), (72, .i2l, 1, i_op1 0 1 (fun a => a)), (73, .lreturn, 1, i_ret 1)]
def bl_57_6 : List am_E := [(74, .aload_n 0, 1, i_load 0 13), (75, .getfield 19, 3, i_getr 13 2 20), (78, .aload_n 0, 1, i_load 0 13), (79, .getfield 27, 3, i_getf 13 4 0), (82, .invokevirtual 71, 3, i_vcall 54 2 [20, 0] 0), (85, .ifCond .eq 19, 3, i_if1 (fun a => a = 0) 8 7)]
def bl_57_7 : List am_E := [(88, .aload_n 0, 1, i_load 0 13), (89, .getfield 19, 3, i_getr 13 2 20), (92, .getfield 74, 3, i_getr 20 6 30), (95, .aload_n 0, 1, i_load 0 13), (96, .getfield 27, 3, i_getf 13 4 0), (99, .iaload, 1, i_ald 30 0), (100, .i2l, 1, i_op1 0 1 (fun a => a)), (101, .goto 4, 3, i_goto 9)]
def bl_57_8 : List am_E := [(104, .lconst 0, 1, i_push 1 0)]
def bl_57_9 : List am_E := [(105, .lreturn, 1, i_ret 1)]
def bl_57_10 : List am_E := [(106, .aload_n 0, 1, i_load 0 13), (107, .getfield 19, 3, i_getr 13 2 20), (110, .aload_n 0, 1, i_load 0 13), (111, .getfield 23, 3, i_getf 13 3 0), (114, .invokevirtual 77, 3, i_vcall 53 2 [20, 0] 0), (117, .ifCond .eq 19, 3, i_if1 (fun a => a = 0) 12 11)]
def bl_57_11 : List am_E := [(120, .aload_n 0, 1, i_load 0 13), (121, .getfield 15, 3, i_getr 13 1 18), (124, .getfield 80, 3, i_getr 18 8 30), (127, .aload_n 0, 1, i_load 0 13), (128, .getfield 23, 3, i_getf 13 3 0), (131, .iaload, 1, i_ald 30 0), (132, .i2l, 1, i_op1 0 1 (fun a => a)), (133, .goto 4, 3, i_goto 13)]
def bl_57_12 : List am_E := [(136, .lconst 0, 1, i_push 1 0)]
def bl_57_13 : List am_E := [(137, .lreturn, 1, i_ret 1)]
def bl_57_14 : List am_E := [(138, .aload_n 0, 1, i_load 0 13), (139, .getfield 19, 3, i_getr 13 2 20), (142, .aload_n 0, 1, i_load 0 13), (143, .getfield 23, 3, i_getf 13 3 0), (146, .invokevirtual 77, 3, i_vcall 53 2 [20, 0] 0), (149, .ifCond .eq 19, 3, i_if1 (fun a => a = 0) 16 15)]
def bl_57_15 : List am_E := [(152, .aload_n 0, 1, i_load 0 13), (153, .getfield 19, 3, i_getr 13 2 20), (156, .getfield 83, 3, i_getr 20 8 30), (159, .aload_n 0, 1, i_load 0 13), (160, .getfield 23, 3, i_getf 13 3 0), (163, .iaload, 1, i_ald 30 0), (164, .i2l, 1, i_op1 0 1 (fun a => a)), (165, .goto 4, 3, i_goto 17)]
def bl_57_16 : List am_E := [(168, .lconst 0, 1, i_push 1 0)]
def bl_57_17 : List am_E := [(169, .lreturn, 1, i_ret 1)]
def bl_57_18 : List am_E := [(170, .aload_n 0, 1, i_load 0 13), (171, .getfield 19, 3, i_getr 13 2 20), (174, .aload_n 0, 1, i_load 0 13), (175, .getfield 27, 3, i_getf 13 4 0), (178, .invokevirtual 71, 3, i_vcall 54 2 [20, 0] 0), (181, .ifCond .eq 18, 3, i_if1 (fun a => a = 0) 20 19)]
def bl_57_19 : List am_E := [(184, .aload_n 0, 1, i_load 0 13), (185, .getfield 19, 3, i_getr 13 2 20), (188, .aload_n 0, 1, i_load 0 13), (189, .getfield 27, 3, i_getf 13 4 0), (192, .invokevirtual 86, 3, i_vcall 52 2 [20, 0] 0), (195, .i2l, 1, i_op1 0 1 (fun a => a)), (196, .goto 4, 3, i_goto 21)]
def bl_57_20 : List am_E := [(199, .lconst 0, 1, i_push 1 0)]
def bl_57_21 : List am_E := [(200, .lreturn, 1, i_ret 1)]
def bl_57_22 : List am_E := [(201, .aload_n 0, 1, i_load 0 13), (202, .getfield 19, 3, i_getr 13 2 20), (205, .getfield 90, 3, i_getf 20 3 0), (208, .i2l, 1, i_op1 0 1 (fun a => a)), (209, .lreturn, 1, i_ret 1)]
def cd_57 : Nat × List (List Bool × am_B) := (3, [([true, true, true], (bl_57_0, 9999)), ([true, false, true], (bl_57_1, 9999)), ([false, false, false], (bl_57_2, 9999)), ([true, false, false], (bl_57_3, 4)), ([false, false, false], (bl_57_4, 9999)), ([true, false, false], (bl_57_5, 9999)), ([true, false, false], (bl_57_6, 9999)), ([true, false, false], (bl_57_7, 9999)), ([false, false, false], (bl_57_8, 9)), ([false, false, false], (bl_57_9, 9999)), ([true, false, false], (bl_57_10, 9999)), ([true, false, false], (bl_57_11, 9999)), ([false, false, false], (bl_57_12, 13)), ([false, false, false], (bl_57_13, 9999)), ([true, false, false], (bl_57_14, 9999)), ([true, false, false], (bl_57_15, 9999)), ([false, false, false], (bl_57_16, 17)), ([false, false, false], (bl_57_17, 9999)), ([true, false, false], (bl_57_18, 9999)), ([true, false, false], (bl_57_19, 9999)), ([false, false, false], (bl_57_20, 21)), ([false, false, false], (bl_57_21, 9999)), ([true, false, false], (bl_57_22, 9999))])
-- X8_hasLaw
def lp_58 : Nat → Nat := fun b => ([0, 4, 9, 24, 28, 29] : List Nat).getD b 0
def bl_58_0 : List am_E := [(0, .iload_n 1, 1, i_load 1 0), (1, .ifCond .lt 27, 3, i_if1 (fun a => a < 0) 4 1)]
def bl_58_1 : List am_E := [(4, .iload_n 1, 1, i_load 1 0), (5, .iconst 3, 1, i_push 0 3), (6, .if_icmp .ge 22, 3, i_if2 (fun a b => b ≤ a) 4 2)]
def bl_58_2 : List am_E := [(9, .aload_n 0, 1, i_load 0 18), (10, .getfield 46, 3, i_getr 18 16 30), (13, .iload_n 1, 1, i_load 1 0), (14, .iaload, 1, i_ald 30 0), (15, .aload_n 0, 1, i_load 0 18), (16, .getfield 43, 3, i_getr 18 15 30), (19, .iload_n 1, 1, i_load 1 0), (20, .iaload, 1, i_ald 30 0), (21, .if_icmp .le 7, 3, i_if2 (fun a b => a ≤ b) 4 3)]
def bl_58_3 : List am_E := [(24, .iconst 1, 1, i_push 0 1), (25, .goto 4, 3, i_goto 5)]
def bl_58_4 : List am_E := [(28, .iconst 0, 1, i_push 0 0)]
def bl_58_5 : List am_E := [(29, .ireturn, 1, i_zret)]
def cd_58 : Nat × List (List Bool × am_B) := (2, [([true, true], (bl_58_0, 9999)), ([true, true], (bl_58_1, 9999)), ([true, true], (bl_58_2, 9999)), ([false, false], (bl_58_3, 9999)), ([false, false], (bl_58_4, 5)), ([false, false], (bl_58_5, 9999))])
-- X3_value
def lp_59 : Nat → Nat := fun b => ([0, 7, 14, 25, 27, 46, 60, 79, 84, 106, 110, 111, 118, 123, 130, 137, 144, 155, 163, 170, 177, 183, 217, 224, 226, 232] : List Nat).getD b 0
def bl_59_0 : List am_E := [(0, .aload_n 0, 1, i_load 0 13), (1, .getfield 15, 3, i_getr 13 1 18), (4, .ifnull 21, 3, i_ifn 3 1)]
def bl_59_1 : List am_E := [(7, .aload_n 0, 1, i_load 0 13), (8, .getfield 19, 3, i_getr 13 2 20), (11, .ifnull 14, 3, i_ifn 3 2)]
def bl_59_2 : List am_E := [(14, .aload_n 0, 1, i_load 0 13), (15, .getfield 15, 3, i_getr 13 1 18), (18, .iload_n 1, 1, i_load 1 0), (19, .invokevirtual 33, 3, i_vcall 58 2 [18, 0] 0), (22, .ifCond .ne 5, 3, i_if1 (fun a => a ≠ 0) 4 3)]
def bl_59_3 : List am_E := [(25, .lload_n 2, 1, i_load 2 1), (26, .lreturn, 1, i_ret 1)]
def bl_59_4 : List am_E := [(27, .iconst 0, 1, i_push 0 0), (28, .istore 4, 2, i_store 4 0), (30, .aload_n 0, 1, i_load 0 13), (31, .iconst 0, 1, i_push 0 0), (32, .putfield 39, 3, i_putz 13 6), (35, .aload_n 0, 1, i_load 0 13), (36, .getfield 15, 3, i_getr 13 1 18), (39, .getfield 43, 3, i_getr 18 15 30), (42, .iload_n 1, 1, i_load 1 0), (43, .iaload, 1, i_ald 30 0), (44, .istore 5, 2, i_store 5 0)]
def bl_59_5 : List am_E := [(46, .iload 5, 2, i_load 5 0), (48, .aload_n 0, 1, i_load 0 13), (49, .getfield 15, 3, i_getr 13 1 18), (52, .getfield 47, 3, i_getr 18 16 30), (55, .iload_n 1, 1, i_load 1 0), (56, .iaload, 1, i_ald 30 0), (57, .if_icmp .ge 175, 3, i_if2 (fun a b => b ≤ a) 25 6)]
def bl_59_6 : List am_E := [(60, .aload_n 0, 1, i_load 0 13), (61, .getfield 15, 3, i_getr 13 1 18), (64, .getfield 50, 3, i_getr 18 14 30), (67, .iload 5, 2, i_load 5 0), (69, .iaload, 1, i_ald 30 0), (70, .istore 6, 2, i_store 6 0), (72, .iload 6, 2, i_load 6 0), (74, .bipush 22, 2, i_push 0 22), (76, .if_icmp .ne 42, 3, i_if2 (fun a b => a ≠ b) 12 7)]
def bl_59_7 : List am_E := [(79, .iload 4, 2, i_load 4 0), (81, .ifCond .le 136, 3, i_if1 (fun a => a ≤ 0) 22 8)]
def bl_59_8 : List am_E := [(84, .aload_n 0, 1, i_load 0 13), (85, .getfield 9, 3, i_getr 13 0 33), (88, .iload 4, 2, i_load 4 0), (90, .iconst 1, 1, i_push 0 1), (91, .isub, 1, i_op2 0 (fun a b => w32 (a - b))), (92, .aload_n 0, 1, i_load 0 13), (93, .getfield 9, 3, i_getr 13 0 33), (96, .iload 4, 2, i_load 4 0), (98, .iconst 1, 1, i_push 0 1), (99, .isub, 1, i_op2 0 (fun a b => w32 (a - b))), (100, .laload, 1, i_ald 33 1), (101, .lconst 0, 1, i_push 1 0), (102, .lcmp, 1, i_lcmp), (103, .ifCond .ne 7, 3, i_if1 (fun a => a ≠ 0) 10 9)]
def bl_59_9 : List am_E := [(106, .iconst 1, 1, i_push 0 1), (107, .goto 4, 3, i_goto 11)]
def bl_59_10 : List am_E := [(110, .iconst 0, 1, i_push 0 0)]
def bl_59_11 : List am_E := [(111, .invokestatic 53, 3, i_call 50 1 [0] 1), (114, .lastore, 1, i_ast 33 1), (115, .goto 102, 3, i_goto 22)]
def bl_59_12 : List am_E := [(118, .iload 6, 2, i_load 6 0), (120, .ifCond .lt 17, 3, i_if1 (fun a => a < 0) 15 13)]
def bl_59_13 : List am_E := [(123, .iload 6, 2, i_load 6 0), (125, .bipush 23, 2, i_push 0 23), (127, .if_icmp .lt 50, 3, i_if2 (fun a b => a < b) 20 14)]
def bl_59_14 : List am_E := [(130, .iload 6, 2, i_load 6 0), (132, .bipush 29, 2, i_push 0 29), (134, .if_icmp .gt 43, 3, i_if2 (fun a b => b < a) 20 15)]
def bl_59_15 : List am_E := [(137, .iload 4, 2, i_load 4 0), (139, .bipush 64, 2, i_push 0 64), (141, .if_icmp .ge 76, 3, i_if2 (fun a b => b ≤ a) 22 16)]
def bl_59_16 : List am_E := [(144, .aload_n 0, 1, i_load 0 13), (145, .getfield 9, 3, i_getr 13 0 33), (148, .iload 4, 2, i_load 4 0), (150, .iload 6, 2, i_load 6 0), (152, .ifCond .ge 11, 3, i_if1 (fun a => 0 ≤ a) 18 17)]
def bl_59_17 : List am_E := [(155, .iconst (-1), 1, i_push 0 (-1)), (156, .iload 6, 2, i_load 6 0), (158, .isub, 1, i_op2 0 (fun a b => w32 (a - b))), (159, .i2l, 1, i_op1 0 1 (fun a => a)), (160, .goto 10, 3, i_goto 19)]
def bl_59_18 : List am_E := [(163, .aload_n 0, 1, i_load 0 13), (164, .iload 6, 2, i_load 6 0), (166, .iload_n 1, 1, i_load 1 0), (167, .invokevirtual 57, 3, i_vcall 57 3 [13, 0, 0] 1)]
def bl_59_19 : List am_E := [(170, .lastore, 1, i_ast 33 1), (171, .iinc 4 1, 3, i_inc 4 1), (174, .goto 43, 3, i_goto 22)]
def bl_59_20 : List am_E := [(177, .iload 4, 2, i_load 4 0), (179, .iconst 1, 1, i_push 0 1), (180, .if_icmp .le 37, 3, i_if2 (fun a b => a ≤ b) 22 21)]
def bl_59_21 : List am_E := [(183, .iinc 4 (-1), 3, i_inc 4 (-1)), (186, .aload_n 0, 1, i_load 0 13), (187, .getfield 9, 3, i_getr 13 0 33), (190, .iload 4, 2, i_load 4 0), (192, .iconst 1, 1, i_push 0 1), (193, .isub, 1, i_op2 0 (fun a b => w32 (a - b))), (194, .aload_n 0, 1, i_load 0 13), (195, .iload 6, 2, i_load 6 0), (197, .aload_n 0, 1, i_load 0 13), (198, .getfield 9, 3, i_getr 13 0 33), (201, .iload 4, 2, i_load 4 0), (203, .iconst 1, 1, i_push 0 1), (204, .isub, 1, i_op2 0 (fun a b => w32 (a - b))), (205, .laload, 1, i_ald 33 1), (206, .aload_n 0, 1, i_load 0 13), (207, .getfield 9, 3, i_getr 13 0 33), (210, .iload 4, 2, i_load 4 0), (212, .laload, 1, i_ald 33 1), (213, .invokevirtual 61, 3, i_vcall 51 4 [13, 0, 1, 1] 1), (216, .lastore, 1, i_ast 33 1)]
def bl_59_22 : List am_E := [(217, .aload_n 0, 1, i_load 0 13), (218, .getfield 39, 3, i_getf 13 6 0), (221, .ifCond .eq 5, 3, i_if1 (fun a => a = 0) 24 23)]
def bl_59_23 : List am_E := [(224, .lload_n 2, 1, i_load 2 1), (225, .lreturn, 1, i_ret 1)]
def bl_59_24 : List am_E := [(226, .iinc 5 1, 3, i_inc 5 1), (229, .goto (-183), 3, i_goto 5)]
def bl_59_25 : List am_E := [(232, .aload_n 0, 1, i_load 0 13), (233, .getfield 9, 3, i_getr 13 0 33), (236, .iconst 0, 1, i_push 0 0), (237, .laload, 1, i_ald 33 1), (238, .lreturn, 1, i_ret 1)]
def cd_59 : Nat × List (List Bool × am_B) := (7, [([true, true, true, false, false, false, false], (bl_59_0, 9999)), ([true, true, true, false, false, false, false], (bl_59_1, 9999)), ([true, true, true, false, false, false, false], (bl_59_2, 9999)), ([false, false, true, false, false, false, false], (bl_59_3, 9999)), ([true, true, true, false, false, false, false], (bl_59_4, 5)), ([true, true, true, false, true, true, false], (bl_59_5, 9999)), ([true, true, true, false, true, true, false], (bl_59_6, 9999)), ([true, true, true, false, true, true, false], (bl_59_7, 9999)), ([true, true, true, false, true, true, false], (bl_59_8, 9999)), ([true, true, true, false, true, true, false], (bl_59_9, 9999)), ([true, true, true, false, true, true, false], (bl_59_10, 11)), ([true, true, true, false, true, true, false], (bl_59_11, 9999)), ([true, true, true, false, true, true, true], (bl_59_12, 9999)), ([true, true, true, false, true, true, true], (bl_59_13, 9999)), ([true, true, true, false, true, true, true], (bl_59_14, 9999)), ([true, true, true, false, true, true, true], (bl_59_15, 9999)), ([true, true, true, false, true, true, true], (bl_59_16, 9999)), ([true, true, true, false, true, true, true], (bl_59_17, 9999)), ([true, true, true, false, true, true, true], (bl_59_18, 19)), ([true, true, true, false, true, true, false], (bl_59_19, 9999)), ([true, true, true, false, true, true, true], (bl_59_20, 9999)), ([true, true, true, false, true, true, true], (bl_59_21, 22)), ([true, true, true, false, true, true, false], (bl_59_22, 9999)), ([false, false, true, false, false, false, false], (bl_59_23, 9999)), ([true, true, true, false, true, true, false], (bl_59_24, 9999)), ([true, false, false, false, false, false, false], (bl_59_25, 9999))])
-- X4_init
def lp_60 : Nat → Nat := fun b => ([0] : List Nat).getD b 0
def bl_60_0 : List am_E := [(0, .aload_n 0, 1, i_load 0 14), (1, .invokespecial 3, 3, i_oini 14), (4, .aload_n 0, 1, i_load 0 14), (5, .new 9, 3, i_new 3 7), (8, .dup, 1, i_dup), (9, .invokespecial 11, 3, i_vcall 45 1 [13] 9), (12, .putfield 12, 3, i_putr 14 0 13), (15, .aload_n 0, 1, i_load 0 14), (16, .aconst_null, 1, i_push 3 (-1)), (17, .putfield 18, 3, i_putn 14 1), (20, .aload_n 0, 1, i_load 0 14), (21, .aconst_null, 1, i_push 3 (-1)), (22, .putfield 22, 3, i_putn 14 2), (25, .return_, 1, i_vret)]
def cd_60 : Nat × List (List Bool × am_B) := (1, [([true], (bl_60_0, 9999))])
-- X4_begin
def lp_61 : Nat → Nat := fun b => ([0] : List Nat).getD b 0
def bl_61_0 : List am_E := [(0, .aload_n 0, 1, i_load 0 14), (1, .aload_n 1, 1, i_load 1 18), (2, .putfield 18, 3, i_putr 14 1 18), (5, .aload_n 0, 1, i_load 0 14), (6, .aload_n 2, 1, i_load 2 20), (7, .putfield 22, 3, i_putr 14 2 20), (10, .aload_n 0, 1, i_load 0 14), (11, .iconst 0, 1, i_push 0 0), (12, .putfield 26, 3, i_putz 14 3), (15, .aload_n 0, 1, i_load 0 14), (16, .iconst (-1), 1, i_push 0 (-1)), (17, .putfield 30, 3, i_putf 14 4 0), (20, .aload_n 0, 1, i_load 0 14), (21, .iconst (-1), 1, i_push 0 (-1)), (22, .putfield 34, 3, i_putf 14 5 0), (25, .aload_n 0, 1, i_load 0 14), (26, .iconst (-1), 1, i_push 0 (-1)), (27, .putfield 37, 3, i_putf 14 6 0), (30, .aload_n 0, 1, i_load 0 14), (31, .iconst 0, 1, i_push 0 0), (32, .putfield 40, 3, i_putf 14 7 0), (35, .return_, 1, i_vret)]
def cd_61 : Nat × List (List Bool × am_B) := (3, [([true, true, true], (bl_61_0, 9999))])
-- X4_byNumbers
def lp_62 : Nat → Nat := fun b => ([0] : List Nat).getD b 0
def bl_62_0 : List am_E := [(0, .aload_n 0, 1, i_load 0 14), (1, .iconst 1, 1, i_push 0 1), (2, .putfield 26, 3, i_putz 14 3), (5, .return_, 1, i_vret)]
def cd_62 : Nat × List (List Bool × am_B) := (1, [([true], (bl_62_0, 9999))])
-- X4_tryOtherwise
def lp_63 : Nat → Nat := fun b => ([0, 11, 15, 16] : List Nat).getD b 0
def bl_63_0 : List am_E := [(0, .aload_n 0, 1, i_load 0 14), (1, .iload_n 1, 1, i_load 1 0), (2, .putfield 30, 3, i_putf 14 4 0), (5, .aload_n 0, 1, i_load 0 14), (6, .iload_n 1, 1, i_load 1 0), (7, .iconst 2, 1, i_push 0 2), (8, .if_icmp .ne 7, 3, i_if2 (fun a b => a ≠ b) 2 1)]
def bl_63_1 : List am_E := [(11, .iload_n 2, 1, i_load 2 0), (12, .goto 4, 3, i_goto 3)]
def bl_63_2 : List am_E := [(15, .iconst (-1), 1, i_push 0 (-1))]
def bl_63_3 : List am_E := [(16, .putfield 34, 3, i_putf 14 5 0), (19, .return_, 1, i_vret)]
def cd_63 : Nat × List (List Bool × am_B) := (3, [([true, true, true], (bl_63_0, 9999)), ([false, false, true], (bl_63_1, 9999)), ([false, false, false], (bl_63_2, 3)), ([false, false, false], (bl_63_3, 9999))])
-- X4_turnBy
def lp_64 : Nat → Nat := fun b => ([0] : List Nat).getD b 0
def bl_64_0 : List am_E := [(0, .aload_n 0, 1, i_load 0 14), (1, .iload_n 1, 1, i_load 1 0), (2, .putfield 37, 3, i_putf 14 6 0), (5, .aload_n 0, 1, i_load 0 14), (6, .iload_n 2, 1, i_load 2 0), (7, .putfield 40, 3, i_putf 14 7 0), (10, .return_, 1, i_vret)]
def cd_64 : Nat × List (List Bool × am_B) := (3, [([true, true, true], (bl_64_0, 9999))])
-- X10_chipTop
def lp_65 : Nat → Nat := fun b => ([0, 11, 18] : List Nat).getD b 0
def bl_65_0 : List am_E := [(0, .aload_n 0, 1, i_load 0 20), (1, .iload_n 1, 1, i_load 1 0), (2, .iconst 0, 1, i_push 0 0), (3, .invokevirtual 66, 3, i_vcall 55 3 [20, 0, 0] 0), (6, .istore_n 2, 1, i_store 2 0), (7, .iload_n 2, 1, i_load 2 0), (8, .ifCond .lt 10, 3, i_if1 (fun a => a < 0) 2 1)]
def bl_65_1 : List am_E := [(11, .aload_n 0, 1, i_load 0 20), (12, .getfield 30, 3, i_getr 20 12 30), (15, .iload_n 2, 1, i_load 2 0), (16, .iconst 1, 1, i_push 0 1), (17, .iastore, 1, i_ast 30 0)]
def bl_65_2 : List am_E := [(18, .return_, 1, i_vret)]
def cd_65 : Nat × List (List Bool × am_B) := (3, [([true, true, false], (bl_65_0, 9999)), ([true, false, true], (bl_65_1, 2)), ([false, false, false], (bl_65_2, 9999))])
-- X10_turnOver
def lp_66 : Nat → Nat := fun b => ([0, 8, 13, 23, 24, 38, 45, 86, 89, 97, 129] : List Nat).getD b 0
def bl_66_0 : List am_E := [(0, .aload_n 0, 1, i_load 0 20), (1, .iload_n 1, 1, i_load 1 0), (2, .invokevirtual 62, 3, i_vcall 54 2 [20, 0] 0), (5, .ifCond .eq 18, 3, i_if1 (fun a => a = 0) 3 1)]
def bl_66_1 : List am_E := [(8, .iload_n 2, 1, i_load 2 0), (9, .iconst 1, 1, i_push 0 1), (10, .if_icmp .lt 13, 3, i_if2 (fun a b => a < b) 3 2)]
def bl_66_2 : List am_E := [(13, .iload_n 2, 1, i_load 2 0), (14, .aload_n 0, 1, i_load 0 20), (15, .getfield 9, 3, i_getr 20 6 30), (18, .iload_n 1, 1, i_load 1 0), (19, .iaload, 1, i_ald 30 0), (20, .if_icmp .le 4, 3, i_if2 (fun a b => a ≤ b) 4 3)]
def bl_66_3 : List am_E := [(23, .return_, 1, i_vret)]
def bl_66_4 : List am_E := [(24, .iload_n 1, 1, i_load 1 0), (25, .iconst 5, 1, i_push 0 5), (26, .imul, 1, i_op2 0 (fun a b => w32 (a * b))), (27, .istore_n 3, 1, i_store 3 0), (28, .iload_n 3, 1, i_load 3 0), (29, .istore 4, 2, i_store 4 0), (31, .iload_n 3, 1, i_load 3 0), (32, .iload_n 2, 1, i_load 2 0), (33, .iadd, 1, i_op2 0 (fun a b => w32 (a + b))), (34, .iconst 1, 1, i_push 0 1), (35, .isub, 1, i_op2 0 (fun a b => w32 (a - b))), (36, .istore 5, 2, i_store 5 0)]
def bl_66_5 : List am_E := [(38, .iload 4, 2, i_load 4 0), (40, .iload 5, 2, i_load 5 0), (42, .if_icmp .ge 44, 3, i_if2 (fun a b => b ≤ a) 7 6)]
def bl_66_6 : List am_E := [(45, .aload_n 0, 1, i_load 0 20), (46, .getfield 21, 3, i_getr 20 9 30), (49, .iload 4, 2, i_load 4 0), (51, .iaload, 1, i_ald 30 0), (52, .istore 6, 2, i_store 6 0), (54, .aload_n 0, 1, i_load 0 20), (55, .getfield 21, 3, i_getr 20 9 30), (58, .iload 4, 2, i_load 4 0), (60, .aload_n 0, 1, i_load 0 20), (61, .getfield 21, 3, i_getr 20 9 30), (64, .iload 5, 2, i_load 5 0), (66, .iaload, 1, i_ald 30 0), (67, .iastore, 1, i_ast 30 0), (68, .aload_n 0, 1, i_load 0 20), (69, .getfield 21, 3, i_getr 20 9 30), (72, .iload 5, 2, i_load 5 0), (74, .iload 6, 2, i_load 6 0), (76, .iastore, 1, i_ast 30 0), (77, .iinc 4 1, 3, i_inc 4 1), (80, .iinc 5 (-1), 3, i_inc 5 (-1)), (83, .goto (-45), 3, i_goto 5)]
def bl_66_7 : List am_E := [(86, .iload_n 3, 1, i_load 3 0), (87, .istore 4, 2, i_store 4 0)]
def bl_66_8 : List am_E := [(89, .iload 4, 2, i_load 4 0), (91, .iload_n 3, 1, i_load 3 0), (92, .iload_n 2, 1, i_load 2 0), (93, .iadd, 1, i_op2 0 (fun a b => w32 (a + b))), (94, .if_icmp .ge 35, 3, i_if2 (fun a b => b ≤ a) 10 9)]
def bl_66_9 : List am_E := [(97, .aload_n 0, 1, i_load 0 20), (98, .getfield 27, 3, i_getr 20 11 30), (101, .aload_n 0, 1, i_load 0 20), (102, .getfield 21, 3, i_getr 20 9 30), (105, .iload 4, 2, i_load 4 0), (107, .iaload, 1, i_ald 30 0), (108, .iconst 1, 1, i_push 0 1), (109, .aload_n 0, 1, i_load 0 20), (110, .getfield 27, 3, i_getr 20 11 30), (113, .aload_n 0, 1, i_load 0 20), (114, .getfield 21, 3, i_getr 20 9 30), (117, .iload 4, 2, i_load 4 0), (119, .iaload, 1, i_ald 30 0), (120, .iaload, 1, i_ald 30 0), (121, .isub, 1, i_op2 0 (fun a b => w32 (a - b))), (122, .iastore, 1, i_ast 30 0), (123, .iinc 4 1, 3, i_inc 4 1), (126, .goto (-37), 3, i_goto 8)]
def bl_66_10 : List am_E := [(129, .aload_n 0, 1, i_load 0 20), (130, .getfield 15, 3, i_getr 20 7 30), (133, .iload_n 1, 1, i_load 1 0), (134, .dup2, 1, i_dup2), (135, .iaload, 1, i_ald 30 0), (136, .iconst 1, 1, i_push 0 1), (137, .iadd, 1, i_op2 0 (fun a b => w32 (a + b))), (138, .iastore, 1, i_ast 30 0), (139, .return_, 1, i_vret)]
def cd_66 : Nat × List (List Bool × am_B) := (7, [([true, true, true, false, false, false, false], (bl_66_0, 9999)), ([true, true, true, false, false, false, false], (bl_66_1, 9999)), ([true, true, true, false, false, false, false], (bl_66_2, 9999)), ([false, false, false, false, false, false, false], (bl_66_3, 9999)), ([true, true, true, false, false, false, false], (bl_66_4, 5)), ([true, true, true, true, true, true, false], (bl_66_5, 9999)), ([true, true, true, true, true, true, false], (bl_66_6, 9999)), ([true, true, true, true, false, false, false], (bl_66_7, 8)), ([true, true, true, true, true, false, false], (bl_66_8, 9999)), ([true, true, true, true, true, false, false], (bl_66_9, 9999)), ([true, true, false, false, false, false, false], (bl_66_10, 9999))])
-- X4_chips
def lp_67 : Nat → Nat := fun b => ([0, 7, 13, 17, 18, 19, 23, 29, 35, 39, 40, 41, 88, 92, 93] : List Nat).getD b 0
def bl_67_0 : List am_E := [(0, .aload_n 0, 1, i_load 0 14), (1, .getfield 26, 3, i_getf 14 3 0), (4, .ifCond .ne 15, 3, i_if1 (fun a => a ≠ 0) 5 1)]
def bl_67_1 : List am_E := [(7, .iload_n 1, 1, i_load 1 0), (8, .bipush 50, 2, i_push 0 50), (10, .if_icmp .lt 7, 3, i_if2 (fun a b => a < b) 3 2)]
def bl_67_2 : List am_E := [(13, .iconst 1, 1, i_push 0 1), (14, .goto 4, 3, i_goto 4)]
def bl_67_3 : List am_E := [(17, .iconst 0, 1, i_push 0 0)]
def bl_67_4 : List am_E := [(18, .ireturn, 1, i_zret)]
def bl_67_5 : List am_E := [(19, .iload_n 1, 1, i_load 1 0), (20, .ifCond .eq 9, 3, i_if1 (fun a => a = 0) 7 6)]
def bl_67_6 : List am_E := [(23, .iload_n 1, 1, i_load 1 0), (24, .bipush 100, 2, i_push 0 100), (26, .if_icmp .ne 15, 3, i_if2 (fun a b => a ≠ b) 11 7)]
def bl_67_7 : List am_E := [(29, .iload_n 1, 1, i_load 1 0), (30, .bipush 100, 2, i_push 0 100), (32, .if_icmp .ne 7, 3, i_if2 (fun a b => a ≠ b) 9 8)]
def bl_67_8 : List am_E := [(35, .iconst 1, 1, i_push 0 1), (36, .goto 4, 3, i_goto 10)]
def bl_67_9 : List am_E := [(39, .iconst 0, 1, i_push 0 0)]
def bl_67_10 : List am_E := [(40, .ireturn, 1, i_zret)]
def bl_67_11 : List am_E := [(41, .aload_n 0, 1, i_load 0 14), (42, .getfield 22, 3, i_getr 14 2 20), (45, .aload_n 0, 1, i_load 0 14), (46, .getfield 22, 3, i_getr 14 2 20), (49, .getfield 130, 3, i_getf 20 5 1), (52, .ldc2_w 134, 3, i_push 1 1103515245), (55, .lmul, 1, i_op2 1 (fun a b => w64 (a * b))), (56, .ldc2_w 136, 3, i_push 1 12345), (59, .ladd, 1, i_op2 1 (fun a b => w64 (a + b))), (60, .ldc2_w 138, 3, i_push 1 2147483647), (63, .land, 1, i_op2 1 (fun a b => al_ a b)), (64, .putfield 130, 3, i_putf 20 5 1), (67, .aload_n 0, 1, i_load 0 14), (68, .getfield 22, 3, i_getr 14 2 20), (71, .getfield 130, 3, i_getf 20 5 1), (74, .ldc2_w 140, 3, i_push 1 65536), (77, .ldiv, 1, i_dv2 1 (fun a b => w64 (Int.tdiv a b))), (78, .ldc2_w 142, 3, i_push 1 100), (81, .lrem, 1, i_dv2 1 (fun a b => Int.tmod a b)), (82, .iload_n 1, 1, i_load 1 0), (83, .i2l, 1, i_op1 0 1 (fun a => a)), (84, .lcmp, 1, i_lcmp), (85, .ifCond .ge 7, 3, i_if1 (fun a => 0 ≤ a) 13 12)]
def bl_67_12 : List am_E := [(88, .iconst 1, 1, i_push 0 1), (89, .goto 4, 3, i_goto 14)]
def bl_67_13 : List am_E := [(92, .iconst 0, 1, i_push 0 0)]
def bl_67_14 : List am_E := [(93, .ireturn, 1, i_zret)]
def cd_67 : Nat × List (List Bool × am_B) := (2, [([true, true], (bl_67_0, 9999)), ([false, true], (bl_67_1, 9999)), ([false, false], (bl_67_2, 9999)), ([false, false], (bl_67_3, 4)), ([false, false], (bl_67_4, 9999)), ([true, true], (bl_67_5, 9999)), ([true, true], (bl_67_6, 9999)), ([false, true], (bl_67_7, 9999)), ([false, false], (bl_67_8, 9999)), ([false, false], (bl_67_9, 10)), ([false, false], (bl_67_10, 9999)), ([true, true], (bl_67_11, 9999)), ([false, false], (bl_67_12, 9999)), ([false, false], (bl_67_13, 14)), ([false, false], (bl_67_14, 9999))])
-- X4_depthOf
def lp_68 : Nat → Nat := fun b => ([0, 8, 13, 21, 31, 39, 53, 62] : List Nat).getD b 0
def bl_68_0 : List am_E := [(0, .iload_n 1, 1, i_load 1 0), (1, .aload_n 0, 1, i_load 0 14), (2, .getfield 37, 3, i_getf 14 6 0), (5, .if_icmp .ne 8, 3, i_if2 (fun a b => a ≠ b) 2 1)]
def bl_68_1 : List am_E := [(8, .aload_n 0, 1, i_load 0 14), (9, .getfield 40, 3, i_getf 14 7 0), (12, .ireturn, 1, i_ret 0)]
def bl_68_2 : List am_E := [(13, .aload_n 0, 1, i_load 0 14), (14, .getfield 30, 3, i_getf 14 4 0), (17, .iconst 4, 1, i_push 0 4), (18, .if_icmp .ne 13, 3, i_if2 (fun a b => a ≠ b) 4 3)]
def bl_68_3 : List am_E := [(21, .aload_n 0, 1, i_load 0 14), (22, .getfield 22, 3, i_getr 14 2 20), (25, .getfield 89, 3, i_getr 20 6 30), (28, .iload_n 2, 1, i_load 2 0), (29, .iaload, 1, i_ald 30 0), (30, .ireturn, 1, i_ret 0)]
def bl_68_4 : List am_E := [(31, .aload_n 0, 1, i_load 0 14), (32, .getfield 30, 3, i_getf 14 4 0), (35, .iconst 1, 1, i_push 0 1), (36, .if_icmp .ne 17, 3, i_if2 (fun a b => a ≠ b) 6 5)]
def bl_68_5 : List am_E := [(39, .aload_n 0, 1, i_load 0 14), (40, .getfield 18, 3, i_getr 14 1 18), (43, .getfield 121, 3, i_getr 18 12 30), (46, .iload_n 1, 1, i_load 1 0), (47, .iaload, 1, i_ald 30 0), (48, .iconst 1, 1, i_push 0 1), (49, .iadd, 1, i_op2 0 (fun a b => w32 (a + b))), (50, .goto 12, 3, i_goto 7)]
def bl_68_6 : List am_E := [(53, .aload_n 0, 1, i_load 0 14), (54, .getfield 18, 3, i_getr 14 1 18), (57, .getfield 121, 3, i_getr 18 12 30), (60, .iload_n 1, 1, i_load 1 0), (61, .iaload, 1, i_ald 30 0)]
def bl_68_7 : List am_E := [(62, .ireturn, 1, i_ret 0)]
def cd_68 : Nat × List (List Bool × am_B) := (3, [([true, true, true], (bl_68_0, 9999)), ([true, false, false], (bl_68_1, 9999)), ([true, true, true], (bl_68_2, 9999)), ([true, false, true], (bl_68_3, 9999)), ([true, true, false], (bl_68_4, 9999)), ([true, true, false], (bl_68_5, 9999)), ([true, true, false], (bl_68_6, 7)), ([false, false, false], (bl_68_7, 9999))])
-- X4_within
def lp_69 : Nat → Nat := fun b => ([0] : List Nat).getD b 0
def bl_69_0 : List am_E := [(0, .lconst 0, 1, i_push 1 0), (1, .lload_n 0, 1, i_load 0 1), (2, .iload_n 2, 1, i_load 2 0), (3, .i2l, 1, i_op1 0 1 (fun a => a)), (4, .invokestatic 124, 3, i_mm2 1 (fun a b => if b < a then b else a)), (7, .invokestatic 127, 3, i_mm2 1 (fun a b => if b < a then a else b)), (10, .l2i, 1, i_op1 1 0 (fun a => w32 a)), (11, .ireturn, 1, i_ret 0)]
def cd_69 : Nat × List (List Bool × am_B) := (3, [([true, false, true], (bl_69_0, 9999))])
-- X4_takeTurn
def lp_70 : Nat → Nat := fun b => ([0, 28, 39, 50, 51, 85, 99, 103, 104, 111, 117, 131, 145, 228, 236] : List Nat).getD b 0
def bl_70_0 : List am_E := [(0, .aload_n 0, 1, i_load 0 14), (1, .getfield 18, 3, i_getr 14 1 18), (4, .getfield 64, 3, i_getr 18 10 30), (7, .iload_n 1, 1, i_load 1 0), (8, .iaload, 1, i_ald 30 0), (9, .istore_n 2, 1, i_store 2 0), (10, .aload_n 0, 1, i_load 0 14), (11, .getfield 18, 3, i_getr 14 1 18), (14, .getfield 67, 3, i_getr 18 11 30), (17, .iload_n 1, 1, i_load 1 0), (18, .iaload, 1, i_ald 30 0), (19, .istore_n 3, 1, i_store 3 0), (20, .iload_n 2, 1, i_load 2 0), (21, .aload_n 0, 1, i_load 0 14), (22, .getfield 34, 3, i_getf 14 5 0), (25, .if_icmp .eq 25, 3, i_if2 (fun a b => a = b) 3 1)]
def bl_70_1 : List am_E := [(28, .aload_n 0, 1, i_load 0 14), (29, .getfield 22, 3, i_getr 14 2 20), (32, .iload_n 2, 1, i_load 2 0), (33, .invokevirtual 70, 3, i_vcall 53 2 [20, 0] 0), (36, .ifCond .eq 14, 3, i_if1 (fun a => a = 0) 3 2)]
def bl_70_2 : List am_E := [(39, .aload_n 0, 1, i_load 0 14), (40, .getfield 22, 3, i_getr 14 2 20), (43, .iload_n 3, 1, i_load 3 0), (44, .invokevirtual 74, 3, i_vcall 54 2 [20, 0] 0), (47, .ifCond .ne 4, 3, i_if1 (fun a => a ≠ 0) 4 3)]
def bl_70_3 : List am_E := [(50, .return_, 1, i_vret)]
def bl_70_4 : List am_E := [(51, .aload_n 0, 1, i_load 0 14), (52, .iload_n 1, 1, i_load 1 0), (53, .iload_n 3, 1, i_load 3 0), (54, .invokevirtual 77, 3, i_vcall 68 3 [14, 0, 0] 0), (57, .istore 4, 2, i_store 4 0), (59, .aload_n 0, 1, i_load 0 14), (60, .getfield 12, 3, i_getr 14 0 13), (63, .aload_n 0, 1, i_load 0 14), (64, .getfield 18, 3, i_getr 14 1 18), (67, .aload_n 0, 1, i_load 0 14), (68, .getfield 22, 3, i_getr 14 2 20), (71, .iload_n 2, 1, i_load 2 0), (72, .iload_n 3, 1, i_load 3 0), (73, .iload 4, 2, i_load 4 0), (75, .invokevirtual 81, 3, i_vcall 46 6 [13, 18, 20, 0, 0, 0] 9), (78, .aload_n 0, 1, i_load 0 14), (79, .getfield 30, 3, i_getf 14 4 0), (82, .ifCond .eq 17, 3, i_if1 (fun a => a = 0) 6 5)]
def bl_70_5 : List am_E := [(85, .aload_n 0, 1, i_load 0 14), (86, .getfield 12, 3, i_getr 14 0 13), (89, .iconst 2, 1, i_push 0 2), (90, .lconst 1, 1, i_push 1 1), (91, .invokevirtual 85, 3, i_vcall 59 3 [13, 0, 1] 1), (94, .lconst 0, 1, i_push 1 0), (95, .lcmp, 1, i_lcmp), (96, .ifCond .eq 7, 3, i_if1 (fun a => a = 0) 7 6)]
def bl_70_6 : List am_E := [(99, .iconst 1, 1, i_push 0 1), (100, .goto 4, 3, i_goto 8)]
def bl_70_7 : List am_E := [(103, .iconst 0, 1, i_push 0 0)]
def bl_70_8 : List am_E := [(104, .istore 5, 2, i_store 5 0), (106, .iload 5, 2, i_load 5 0), (108, .ifCond .eq 23, 3, i_if1 (fun a => a = 0) 11 9)]
def bl_70_9 : List am_E := [(111, .iload 4, 2, i_load 4 0), (113, .iconst 1, 1, i_push 0 1), (114, .if_icmp .lt 17, 3, i_if2 (fun a b => a < b) 11 10)]
def bl_70_10 : List am_E := [(117, .iload 4, 2, i_load 4 0), (119, .aload_n 0, 1, i_load 0 14), (120, .getfield 22, 3, i_getr 14 2 20), (123, .getfield 89, 3, i_getr 20 6 30), (126, .iload_n 3, 1, i_load 3 0), (127, .iaload, 1, i_ald 30 0), (128, .if_icmp .le 17, 3, i_if2 (fun a b => a ≤ b) 12 11)]
def bl_70_11 : List am_E := [(131, .aload_n 0, 1, i_load 0 14), (132, .getfield 22, 3, i_getr 14 2 20), (135, .dup, 1, i_dup), (136, .getfield 92, 3, i_getf 20 4 0), (139, .iconst 1, 1, i_push 0 1), (140, .iadd, 1, i_op2 0 (fun a b => w32 (a + b))), (141, .putfield 92, 3, i_putf 20 4 0), (144, .return_, 1, i_vret)]
def bl_70_12 : List am_E := [(145, .aload_n 0, 1, i_load 0 14), (146, .getfield 12, 3, i_getr 14 0 13), (149, .iconst 0, 1, i_push 0 0), (150, .iload 4, 2, i_load 4 0), (152, .i2l, 1, i_op1 0 1 (fun a => a)), (153, .invokevirtual 85, 3, i_vcall 59 3 [13, 0, 1] 1), (156, .sipush 999, 3, i_push 0 999), (159, .invokestatic 95, 3, i_call 69 2 [1, 0] 0), (162, .istore 6, 2, i_store 6 0), (164, .aload_n 0, 1, i_load 0 14), (165, .getfield 22, 3, i_getr 14 2 20), (168, .iload_n 3, 1, i_load 3 0), (169, .iload 4, 2, i_load 4 0), (171, .invokevirtual 99, 3, i_vcall 66 3 [20, 0, 0] 9), (174, .aload_n 0, 1, i_load 0 14), (175, .getfield 22, 3, i_getr 14 2 20), (178, .getfield 103, 3, i_getr 20 8 30), (181, .iload_n 2, 1, i_load 2 0), (182, .aload_n 0, 1, i_load 0 14), (183, .getfield 22, 3, i_getr 14 2 20), (186, .getfield 103, 3, i_getr 20 8 30), (189, .iload_n 2, 1, i_load 2 0), (190, .iaload, 1, i_ald 30 0), (191, .iload 6, 2, i_load 6 0), (193, .iadd, 1, i_op2 0 (fun a b => w32 (a + b))), (194, .ldc 106, 2, i_push 0 99999), (196, .invokestatic 107, 3, i_mm2 0 (fun a b => if b < a then b else a)), (199, .iastore, 1, i_ast 30 0), (200, .aload_n 0, 1, i_load 0 14), (201, .aload_n 0, 1, i_load 0 14), (202, .getfield 12, 3, i_getr 14 0 13), (205, .iconst 1, 1, i_push 0 1), (206, .aload_n 0, 1, i_load 0 14), (207, .getfield 18, 3, i_getr 14 1 18), (210, .getfield 112, 3, i_getf 18 2 0), (213, .i2l, 1, i_op1 0 1 (fun a => a)), (214, .invokevirtual 85, 3, i_vcall 59 3 [13, 0, 1] 1), (217, .bipush 100, 2, i_push 0 100), (219, .invokestatic 95, 3, i_call 69 2 [1, 0] 0), (222, .invokevirtual 115, 3, i_vcall 67 2 [14, 0] 0), (225, .ifCond .eq 11, 3, i_if1 (fun a => a = 0) 14 13)]
def bl_70_13 : List am_E := [(228, .aload_n 0, 1, i_load 0 14), (229, .getfield 22, 3, i_getr 14 2 20), (232, .iload_n 3, 1, i_load 3 0), (233, .invokevirtual 118, 3, i_vcall 65 2 [20, 0] 9)]
def bl_70_14 : List am_E := [(236, .return_, 1, i_vret)]
def cd_70 : Nat × List (List Bool × am_B) := (7, [([true, true, false, false, false, false, false], (bl_70_0, 9999)), ([true, true, true, true, false, false, false], (bl_70_1, 9999)), ([true, true, true, true, false, false, false], (bl_70_2, 9999)), ([false, false, false, false, false, false, false], (bl_70_3, 9999)), ([true, true, true, true, false, false, false], (bl_70_4, 9999)), ([true, false, true, true, true, false, false], (bl_70_5, 9999)), ([true, false, true, true, true, false, false], (bl_70_6, 9999)), ([true, false, true, true, true, false, false], (bl_70_7, 8)), ([true, false, true, true, true, false, false], (bl_70_8, 9999)), ([true, false, true, true, true, false, false], (bl_70_9, 9999)), ([true, false, true, true, true, false, false], (bl_70_10, 9999)), ([true, false, false, false, false, false, false], (bl_70_11, 9999)), ([true, false, true, true, true, false, false], (bl_70_12, 9999)), ([true, false, false, true, false, false, false], (bl_70_13, 14)), ([false, false, false, false, false, false, false], (bl_70_14, 9999))])
-- X4_pass
def lp_71 : Nat → Nat := fun b => ([0, 7, 14, 15, 17, 28, 40, 59, 72, 77, 83] : List Nat).getD b 0
def bl_71_0 : List am_E := [(0, .aload_n 0, 1, i_load 0 14), (1, .getfield 18, 3, i_getr 14 1 18), (4, .ifnull 10, 3, i_ifn 2 1)]
def bl_71_1 : List am_E := [(7, .aload_n 0, 1, i_load 0 14), (8, .getfield 22, 3, i_getr 14 2 20), (11, .ifnonnull 4, 3, i_ifn 2 3)]
def bl_71_2 : List am_E := [(14, .return_, 1, i_vret)]
def bl_71_3 : List am_E := [(15, .iconst 0, 1, i_push 0 0), (16, .istore_n 1, 1, i_store 1 0)]
def bl_71_4 : List am_E := [(17, .iload_n 1, 1, i_load 1 0), (18, .aload_n 0, 1, i_load 0 14), (19, .getfield 18, 3, i_getr 14 1 18), (22, .getfield 46, 3, i_getf 18 1 0), (25, .if_icmp .ge 58, 3, i_if2 (fun a b => b ≤ a) 10 5)]
def bl_71_5 : List am_E := [(28, .aload_n 0, 1, i_load 0 14), (29, .getfield 22, 3, i_getr 14 2 20), (32, .getfield 51, 3, i_getf 20 3 0), (35, .bipush 99, 2, i_push 0 99), (37, .if_icmp .gt 46, 3, i_if2 (fun a b => b < a) 10 6)]
def bl_71_6 : List am_E := [(40, .aload_n 0, 1, i_load 0 14), (41, .getfield 18, 3, i_getr 14 1 18), (44, .getfield 56, 3, i_getr 18 13 30), (47, .iload_n 1, 1, i_load 1 0), (48, .iaload, 1, i_ald 30 0), (49, .aload_n 0, 1, i_load 0 14), (50, .getfield 22, 3, i_getr 14 2 20), (53, .getfield 51, 3, i_getf 20 3 0), (56, .if_icmp .ne 21, 3, i_if2 (fun a b => a ≠ b) 9 7)]
def bl_71_7 : List am_E := [(59, .aload_n 0, 1, i_load 0 14), (60, .iload_n 1, 1, i_load 1 0), (61, .invokevirtual 60, 3, i_vcall 70 2 [14, 0] 9), (64, .aload_n 0, 1, i_load 0 14), (65, .getfield 30, 3, i_getf 14 4 0), (68, .iconst 3, 1, i_push 0 3), (69, .if_icmp .ne 8, 3, i_if2 (fun a b => a ≠ b) 9 8)]
def bl_71_8 : List am_E := [(72, .aload_n 0, 1, i_load 0 14), (73, .iload_n 1, 1, i_load 1 0), (74, .invokevirtual 60, 3, i_vcall 70 2 [14, 0] 9)]
def bl_71_9 : List am_E := [(77, .iinc 1 1, 3, i_inc 1 1), (80, .goto (-63), 3, i_goto 4)]
def bl_71_10 : List am_E := [(83, .aload_n 0, 1, i_load 0 14), (84, .getfield 22, 3, i_getr 14 2 20), (87, .dup, 1, i_dup), (88, .getfield 51, 3, i_getf 20 3 0), (91, .iconst 1, 1, i_push 0 1), (92, .iadd, 1, i_op2 0 (fun a b => w32 (a + b))), (93, .putfield 51, 3, i_putf 20 3 0), (96, .return_, 1, i_vret)]
def cd_71 : Nat × List (List Bool × am_B) := (2, [([true, false], (bl_71_0, 9999)), ([true, false], (bl_71_1, 9999)), ([false, false], (bl_71_2, 9999)), ([true, false], (bl_71_3, 4)), ([true, true], (bl_71_4, 9999)), ([true, true], (bl_71_5, 9999)), ([true, true], (bl_71_6, 9999)), ([true, true], (bl_71_7, 9999)), ([true, true], (bl_71_8, 9)), ([true, true], (bl_71_9, 9999)), ([true, false], (bl_71_10, 9999))])
-- X4_passAll
def lp_72 : Nat → Nat := fun b => ([0, 2, 7, 17] : List Nat).getD b 0
def bl_72_0 : List am_E := [(0, .iconst 0, 1, i_push 0 0), (1, .istore_n 2, 1, i_store 2 0)]
def bl_72_1 : List am_E := [(2, .iload_n 2, 1, i_load 2 0), (3, .iload_n 1, 1, i_load 1 0), (4, .if_icmp .ge 13, 3, i_if2 (fun a b => b ≤ a) 3 2)]
def bl_72_2 : List am_E := [(7, .aload_n 0, 1, i_load 0 14), (8, .invokevirtual 43, 3, i_vcall 71 1 [14] 9), (11, .iinc 2 1, 3, i_inc 2 1), (14, .goto (-12), 3, i_goto 1)]
def bl_72_3 : List am_E := [(17, .return_, 1, i_vret)]
def cd_72 : Nat × List (List Bool × am_B) := (3, [([true, true, false], (bl_72_0, 1)), ([true, true, true], (bl_72_1, 9999)), ([true, true, true], (bl_72_2, 9999)), ([false, false, false], (bl_72_3, 9999))])
-- J0_isLatin1_aae02
def lp_73 : Nat → Nat := fun b => ([0, 6, 13, 17, 18] : List Nat).getD b 0
def bl_73_0 : List am_E := [(0, .getstatic 38, 3, i_push 0 1), (3, .ifCond .eq 14, 3, i_if1 (fun a => a = 0) 3 1)]
def bl_73_1 : List am_E := [(6, .aload_n 0, 1, i_load 0 6), (7, .getfield 15, 3, i_con 6 0 0), (10, .ifCond .ne 7, 3, i_if1 (fun a => a ≠ 0) 3 2)]
def bl_73_2 : List am_E := [(13, .iconst 1, 1, i_push 0 1), (14, .goto 4, 3, i_goto 4)]
def bl_73_3 : List am_E := [(17, .iconst 0, 1, i_push 0 0)]
def bl_73_4 : List am_E := [(18, .ireturn, 1, i_zret)]
def cd_73 : Nat × List (List Bool × am_B) := (1, [([true], (bl_73_0, 9999)), ([true], (bl_73_1, 9999)), ([false], (bl_73_2, 9999)), ([false], (bl_73_3, 4)), ([false], (bl_73_4, 9999))])
-- J3_checkIndex_8e157
def lp_74 : Nat → Nat := fun b => ([0, 4, 9, 16] : List Nat).getD b 0
def bl_74_0 : List am_E := [(0, .iload_n 0, 1, i_load 0 0), (1, .ifCond .lt 8, 3, i_if1 (fun a => a < 0) 2 1)]
def bl_74_1 : List am_E := [(4, .iload_n 0, 1, i_load 0 0), (5, .iload_n 1, 1, i_load 1 0), (6, .if_icmp .lt 10, 3, i_if2 (fun a b => a < b) 3 2)]
def bl_74_2 : List am_E := [(9, .aload_n 2, 1, i_stuck)]
def bl_74_3 : List am_E := [(16, .iload_n 0, 1, i_load 0 0), (17, .ireturn, 1, i_ret 0)]
def cd_74 : Nat × List (List Bool × am_B) := (3, [([true, true, true], (bl_74_0, 9999)), ([true, true, true], (bl_74_1, 9999)), ([true, true, true], (bl_74_2, 9999)), ([true, false, false], (bl_74_3, 9999))])
-- J0_checkIndex_df160
def lp_75 : Nat → Nat := fun b => ([0] : List Nat).getD b 0
def bl_75_0 : List am_E := [(0, .iload_n 0, 1, i_load 0 0), (1, .iload_n 1, 1, i_load 1 0), (2, .getstatic 1053, 3, i_push 8 0), (5, .invokestatic 1059, 3, i_call 74 3 [0, 0, 8] 0), (8, .pop, 1, i_pop), (9, .return_, 1, i_vret)]
def cd_75 : Nat × List (List Bool × am_B) := (2, [([true, true], (bl_75_0, 9999))])
-- J1_charAt_3b067
def lp_76 : Nat → Nat := fun b => ([0] : List Nat).getD b 0
def bl_76_0 : List am_E := [(0, .iload_n 1, 1, i_load 1 0), (1, .aload_n 0, 1, i_load 0 7), (2, .arraylength, 1, i_con 7 0 104), (3, .invokestatic 9, 3, i_call 75 2 [0, 0] 9), (6, .aload_n 0, 1, i_load 0 7), (7, .iload_n 1, 1, i_load 1 0), (8, .baload, 1, i_tab 7 0 104 tx_), (9, .sipush 255, 3, i_push 0 255), (12, .iand, 1, i_op2 0 (fun a b => an_ a b)), (13, .i2c, 1, i_op1 0 0 (fun a => a % 65536)), (14, .ireturn, 1, i_cret)]
def cd_76 : Nat × List (List Bool × am_B) := (2, [([true, true], (bl_76_0, 9999))])
-- J0_charAt_5068e
def lp_77 : Nat → Nat := fun b => ([0, 7, 16] : List Nat).getD b 0
def bl_77_0 : List am_E := [(0, .aload_n 0, 1, i_load 0 6), (1, .invokevirtual 492, 3, i_tcall 73 1 [6] 0), (4, .ifCond .eq 12, 3, i_if1 (fun a => a = 0) 2 1)]
def bl_77_1 : List am_E := [(7, .aload_n 0, 1, i_load 0 6), (8, .getfield 9, 3, i_sval), (11, .iload_n 1, 1, i_load 1 0), (12, .invokestatic 495, 3, i_call 76 2 [7, 0] 0), (15, .ireturn, 1, i_cret)]
def bl_77_2 : List am_E := [(16, .aload_n 0, 1, i_load 0 6), (17, .getfield 9, 3, i_sval), (20, .iload_n 1, 1, i_load 1 0), (21, .invokestatic 498, 3, i_stuck)]
def cd_77 : Nat × List (List Bool × am_B) := (2, [([true, true], (bl_77_0, 9999)), ([true, true], (bl_77_1, 9999)), ([true, true], (bl_77_2, 9999))])
-- J0_coder_7d493
def lp_78 : Nat → Nat := fun b => ([0, 6, 13, 14] : List Nat).getD b 0
def bl_78_0 : List am_E := [(0, .getstatic 38, 3, i_push 0 1), (3, .ifCond .eq 10, 3, i_if1 (fun a => a = 0) 2 1)]
def bl_78_1 : List am_E := [(6, .aload_n 0, 1, i_load 0 6), (7, .getfield 15, 3, i_con 6 0 0), (10, .goto 4, 3, i_goto 3)]
def bl_78_2 : List am_E := [(13, .iconst 1, 1, i_push 0 1)]
def bl_78_3 : List am_E := [(14, .ireturn, 1, i_cret)]
def cd_78 : Nat × List (List Bool × am_B) := (1, [([true], (bl_78_0, 9999)), ([true], (bl_78_1, 9999)), ([false], (bl_78_2, 3)), ([false], (bl_78_3, 9999))])
-- J0_length_8abf5
def lp_79 : Nat → Nat := fun b => ([0] : List Nat).getD b 0
def bl_79_0 : List am_E := [(0, .aload_n 0, 1, i_load 0 6), (1, .getfield 9, 3, i_sval), (4, .arraylength, 1, i_con 7 0 104), (5, .aload_n 0, 1, i_load 0 6), (6, .invokevirtual 335, 3, i_tcall 78 1 [6] 0), (9, .ishr, 1, i_op2 0 (fun a b => a / 2 ^ (b % 32).toNat)), (10, .ireturn, 1, i_ret 0)]
def cd_79 : Nat × List (List Bool × am_B) := (1, [([true], (bl_79_0, 9999))])
