/-! my own, by program: the methods, their codes, their words -/
def y_Bl_init : MethodName := ⟨RX0, "<init>", "()V"⟩
abbrev M_Bl_init : Mt := (RX0, prog_2_method_1_code, 1, none, "<init>", 8, { frames := 1, cells := 0, slots := 0, locals := 20 })
def L_Bl_init : List (Nat × Instr × Nat) := [(0, .aload_n 0, 1), (1, .invokespecial 1, 3), (4, .aload_n 0, 1), (5, .iconst (-1), 1), (6, .putfield 7, 3), (9, .return_, 1)]
theorem hd_Bl_init : chk prog_2_method_1_code L_Bl_init = true := by decide +kernel
def y_Wa_init : MethodName := ⟨RX7, "<init>", "()V"⟩
abbrev M_Wa_init : Mt := (RX7, prog_9_method_1_code, 1, none, "<init>", 8, { frames := 1, cells := 0, slots := 0, locals := 20 })
def L_Wa_init : List (Nat × Instr × Nat) := [(0, .aload_n 0, 1), (1, .invokespecial 3, 3), (4, .return_, 1)]
theorem hd_Wa_init : chk prog_9_method_1_code L_Wa_init = true := by decide +kernel
def y_Es_init : MethodName := ⟨RX1, "<init>", "()V"⟩
abbrev M_Es_init : Mt := (RX1, prog_3_method_1_code, 2, none, "<init>", 8, { frames := 2, cells := 7, slots := 42, locals := 40 })
def L_Es_init : List (Nat × Instr × Nat) := [(0, .aload_n 0, 1), (1, .invokespecial 3, 3), (4, .aload_n 0, 1), (5, .bipush 6, 2), (7, .anewarray 9, 3), (10, .putfield 11, 3), (13, .aload_n 0, 1), (14, .iconst 1, 1), (15, .putfield 17, 3), (18, .iconst 0, 1), (19, .istore_n 1, 1), (20, .iload_n 1, 1), (21, .bipush 6, 2), (23, .if_icmp .ge 22, 3), (26, .aload_n 0, 1), (27, .getfield 11, 3), (30, .iload_n 1, 1), (31, .new 9, 3), (34, .dup, 1), (35, .invokespecial 21, 3), (38, .aastore, 1), (39, .iinc 1 1, 3), (42, .goto (-22), 3), (45, .return_, 1)]
theorem hd_Es_init : chk prog_3_method_1_code L_Es_init = true := by decide +kernel
def y_La_init : MethodName := ⟨RX2, "<init>", "()V"⟩
abbrev M_La_init : Mt := (RX2, prog_4_method_1_code, 1, none, "<init>", 8, { frames := 1, cells := 15, slots := 754, locals := 20 })
def L_La_init : List (Nat × Instr × Nat) := [(0, .aload_n 0, 1), (1, .invokespecial 3, 3), (4, .aload_n 0, 1), (5, .bipush 12, 2), (7, .newarray .int, 2), (9, .putfield 9, 3), (12, .aload_n 0, 1), (13, .bipush 12, 2), (15, .newarray .int, 2), (17, .putfield 15, 3), (20, .aload_n 0, 1), (21, .bipush 6, 2), (23, .newarray .int, 2), (25, .putfield 18, 3), (28, .aload_n 0, 1), (29, .bipush 6, 2), (31, .newarray .int, 2), (33, .putfield 21, 3), (36, .aload_n 0, 1), (37, .bipush 78, 2), (39, .newarray .int, 2), (41, .putfield 24, 3), (44, .aload_n 0, 1), (45, .bipush 13, 2), (47, .newarray .int, 2), (49, .putfield 27, 3), (52, .aload_n 0, 1), (53, .bipush 13, 2), (55, .newarray .int, 2), (57, .putfield 30, 3), (60, .aload_n 0, 1), (61, .bipush 49, 2), (63, .newarray .int, 2), (65, .putfield 33, 3), (68, .aload_n 0, 1), (69, .bipush 49, 2), (71, .newarray .int, 2), (73, .putfield 36, 3), (76, .aload_n 0, 1), (77, .bipush 49, 2), (79, .newarray .int, 2), (81, .putfield 39, 3), (84, .aload_n 0, 1), (85, .bipush 49, 2), (87, .newarray .int, 2), (89, .putfield 42, 3), (92, .aload_n 0, 1), (93, .bipush 19, 2), (95, .newarray .int, 2), (97, .putfield 45, 3), (100, .aload_n 0, 1), (101, .bipush 19, 2), (103, .newarray .int, 2), (105, .putfield 48, 3), (108, .aload_n 0, 1), (109, .bipush 19, 2), (111, .newarray .int, 2), (113, .putfield 51, 3), (116, .aload_n 0, 1), (117, .sipush 361, 3), (120, .newarray .int, 2), (122, .putfield 54, 3), (125, .return_, 1)]
theorem hd_La_init : chk prog_4_method_1_code L_La_init = true := by decide +kernel
def y_Re_init : MethodName := ⟨RX3, "<init>", "()V"⟩
abbrev M_Re_init : Mt := (RX3, prog_5_method_1_code, 1, none, "<init>", 8, { frames := 2, cells := 3, slots := 130, locals := 40 })
def L_Re_init : List (Nat × Instr × Nat) := [(0, .aload_n 0, 1), (1, .invokespecial 3, 3), (4, .aload_n 0, 1), (5, .bipush 120, 2), (7, .newarray .byte, 2), (9, .putfield 9, 3), (12, .aload_n 0, 1), (13, .new 15, 3), (16, .dup, 1), (17, .invokespecial 17, 3), (20, .putfield 18, 3), (23, .aload_n 0, 1), (24, .iconst 4, 1), (25, .newarray .int, 2), (27, .putfield 22, 3), (30, .return_, 1)]
theorem hd_Re_init : chk prog_5_method_1_code L_Re_init = true := by decide +kernel
def y_Se_init : MethodName := ⟨RX4, "<init>", "(LWalledFields$Land;)V"⟩
abbrev M_Se_init : Mt := (RX4, prog_6_method_1_code, 2, none, "<init>", 8, { frames := 1, cells := 8, slots := 3527, locals := 20 })
def L_Se_init : List (Nat × Instr × Nat) := [(0, .aload_n 0, 1), (1, .invokespecial 3, 3), (4, .aload_n 0, 1), (5, .bipush 6, 2), (7, .newarray .int, 2), (9, .putfield 9, 3), (12, .aload_n 0, 1), (13, .bipush 6, 2), (15, .newarray .int, 2), (17, .putfield 15, 3), (20, .aload_n 0, 1), (21, .bipush 6, 2), (23, .newarray .int, 2), (25, .putfield 18, 3), (28, .aload_n 0, 1), (29, .bipush 12, 2), (31, .newarray .int, 2), (33, .putfield 21, 3), (36, .aload_n 0, 1), (37, .bipush 12, 2), (39, .newarray .int, 2), (41, .putfield 24, 3), (44, .aload_n 0, 1), (45, .iconst (-1), 1), (46, .putfield 27, 3), (49, .aload_n 0, 1), (50, .sipush 3136, 3), (53, .newarray .int, 2), (55, .putfield 31, 3), (58, .aload_n 0, 1), (59, .bipush 6, 2), (61, .newarray .int, 2), (63, .putfield 34, 3), (66, .aload_n 0, 1), (67, .sipush 343, 3), (70, .newarray .int, 2), (72, .putfield 37, 3), (75, .aload_n 0, 1), (76, .aload_n 1, 1), (77, .putfield 40, 3), (80, .return_, 1)]
theorem hd_Se_init : chk prog_6_method_1_code L_Se_init = true := by decide +kernel
def y_Sh_init : MethodName := ⟨RX5, "<init>", "()V"⟩
abbrev M_Sh_init : Mt := (RX5, prog_7_method_1_code, 1, none, "<init>", 8, { frames := 1, cells := 1, slots := 40, locals := 20 })
def L_Sh_init : List (Nat × Instr × Nat) := [(0, .aload_n 0, 1), (1, .invokespecial 3, 3), (4, .aload_n 0, 1), (5, .iconst (-1), 1), (6, .putfield 9, 3), (9, .aload_n 0, 1), (10, .bipush 40, 2), (12, .newarray .long, 2), (14, .putfield 15, 3), (17, .return_, 1)]
theorem hd_Sh_init : chk prog_7_method_1_code L_Sh_init = true := by decide +kernel
def y_Sp_init : MethodName := ⟨RX6, "<init>", "()V"⟩
abbrev M_Sp_init : Mt := (RX6, prog_8_method_1_code, 1, none, "<init>", 8, { frames := 1, cells := 2, slots := 20, locals := 20 })
def L_Sp_init : List (Nat × Instr × Nat) := [(0, .aload_n 0, 1), (1, .invokespecial 3, 3), (4, .aload_n 0, 1), (5, .bipush 10, 2), (7, .newarray .int, 2), (9, .putfield 9, 3), (12, .aload_n 0, 1), (13, .bipush 10, 2), (15, .newarray .int, 2), (17, .putfield 15, 3), (20, .return_, 1)]
theorem hd_Sp_init : chk prog_8_method_1_code L_Sp_init = true := by decide +kernel
def y_Ws_init : MethodName := ⟨RX8, "<init>", "()V"⟩
abbrev M_Ws_init : Mt := (RX8, prog_10_method_1_code, 1, none, "<init>", 8, { frames := 1, cells := 3, slots := 44, locals := 20 })
def L_Ws_init : List (Nat × Instr × Nat) := [(0, .aload_n 0, 1), (1, .invokespecial 3, 3), (4, .aload_n 0, 1), (5, .bipush 6, 2), (7, .newarray .int, 2), (9, .putfield 9, 3), (12, .aload_n 0, 1), (13, .bipush 19, 2), (15, .newarray .int, 2), (17, .putfield 15, 3), (20, .aload_n 0, 1), (21, .bipush 19, 2), (23, .newarray .boolean, 2), (25, .putfield 18, 3), (28, .return_, 1)]
theorem hd_Ws_init : chk prog_10_method_1_code L_Ws_init = true := by decide +kernel
def y_G_kindHere : MethodName := ⟨RX10, "kindHere", "()I"⟩
abbrev M_G_kindHere : Mt := (RX10, prog_12_method_106_code, 3, (some .int), "kindHere", 0, { frames := 6, cells := 1, slots := 6, locals := 143 })
def L_G_kindHere : List (Nat × Instr × Nat) := [(0, .bipush 6, 2), (2, .anewarray 438, 3), (5, .dup, 1), (6, .iconst 0, 1), (7, .ldc_w 457, 3), (10, .aastore, 1), (11, .dup, 1), (12, .iconst 1, 1), (13, .ldc_w 459, 3), (16, .aastore, 1), (17, .dup, 1), (18, .iconst 2, 1), (19, .ldc_w 461, 3), (22, .aastore, 1), (23, .dup, 1), (24, .iconst 3, 1), (25, .ldc_w 463, 3), (28, .aastore, 1), (29, .dup, 1), (30, .iconst 4, 1), (31, .ldc_w 465, 3), (34, .aastore, 1), (35, .dup, 1), (36, .iconst 5, 1), (37, .ldc_w 467, 3), (40, .aastore, 1), (41, .astore_n 1, 1), (42, .iconst 0, 1), (43, .istore_n 2, 1), (44, .iload_n 2, 1), (45, .aload_n 1, 1), (46, .arraylength, 1), (47, .if_icmp .ge 21, 3), (50, .aload_n 0, 1), (51, .aload_n 1, 1), (52, .iload_n 2, 1), (53, .aaload, 1), (54, .invokevirtual 453, 3), (57, .ifCond .eq 5, 3), (60, .iload_n 2, 1), (61, .ireturn, 1), (62, .iinc 2 1, 3), (65, .goto (-21), 3), (68, .iconst (-1), 1), (69, .ireturn, 1)]
theorem hd_G_kindHere : chk prog_12_method_106_code L_G_kindHere = true := by decide +kernel
def y_G_itemText : MethodName := ⟨RX10, "itemText", "()V"⟩
abbrev M_G_itemText : Mt := (RX10, prog_12_method_109_code, 3, none, "itemText", 8, { frames := 8, cells := 1, slots := 6, locals := 190 })
def L_G_itemText : List (Nat × Instr × Nat) := [(0, .aload_n 0, 1), (1, .invokevirtual 484, 3), (4, .istore_n 1, 1), (5, .iload_n 1, 1), (6, .ifCond .lt 9, 3), (9, .aload_n 0, 1), (10, .iload_n 1, 1), (11, .invokevirtual 487, 3), (14, .return_, 1), (15, .aload_n 0, 1), (16, .ldc_w 490, 3), (19, .invokevirtual 475, 3), (22, .aload_n 0, 1), (23, .iconst 3, 1), (24, .invokevirtual 471, 3), (27, .istore_n 2, 1), (28, .aload_n 0, 1), (29, .getfield 431, 3), (32, .ifCond .ge 8, 3), (35, .aload_n 0, 1), (36, .iload_n 2, 1), (37, .putfield 158, 3), (40, .return_, 1)]
theorem hd_G_itemText : chk prog_12_method_109_code L_G_itemText = true := by decide +kernel
def y_G_text : MethodName := ⟨RX10, "text", "()I"⟩
abbrev M_G_text : Mt := (RX10, prog_12_method_110_code, 3, (some .int), "text", 0, { frames := 9, cells := 130, slots := 780, locals := 212 })
def L_G_text : List (Nat × Instr × Nat) := [(0, .aload_n 0, 1), (1, .invokevirtual 360, 3), (4, .aload_n 0, 1), (5, .getfield 158, 3), (8, .istore_n 1, 1), (9, .aload_n 0, 1), (10, .iconst (-1), 1), (11, .putfield 431, 3), (14, .aload_n 0, 1), (15, .iconst 0, 1), (16, .invokevirtual 434, 3), (19, .aload_n 0, 1), (20, .invokevirtual 491, 3), (23, .iconst 1, 1), (24, .istore_n 2, 1), (25, .aload_n 0, 1), (26, .getfield 431, 3), (29, .ifCond .ge 25, 3), (32, .aload_n 0, 1), (33, .getfield 428, 3), (36, .iconst 3, 1), (37, .if_icmp .ne 17, 3), (40, .aload_n 0, 1), (41, .invokevirtual 450, 3), (44, .aload_n 0, 1), (45, .invokevirtual 491, 3), (48, .iinc 2 1, 3), (51, .goto (-26), 3), (54, .aload_n 0, 1), (55, .aload_n 0, 1), (56, .getfield 428, 3), (59, .ifCond .ne 7, 3), (62, .iconst 1, 1), (63, .goto 4, 3), (66, .iconst 0, 1), (67, .invokevirtual 446, 3), (70, .aload_n 0, 1), (71, .iconst 0, 1), (72, .putfield 412, 3), (75, .aload_n 0, 1), (76, .getfield 431, 3), (79, .ifCond .ge 5, 3), (82, .iload_n 2, 1), (83, .ireturn, 1), (84, .aload_n 0, 1), (85, .invokevirtual 366, 3), (88, .aload_n 0, 1), (89, .iload_n 1, 1), (90, .putfield 158, 3), (93, .iconst (-1), 1), (94, .aload_n 0, 1), (95, .getfield 431, 3), (98, .isub, 1), (99, .ireturn, 1)]
theorem hd_G_text : chk prog_12_method_110_code L_G_text = true := by decide +kernel
theorem im_Bl_init : Cond.instanceMethod y_Bl_init ∈ lw_g := mgt2 35 (by decide +kernel) rfl
theorem cd_Bl_init : Cond.code y_Bl_init M_Bl_init.2.1 M_Bl_init.2.2.1 M_Bl_init.2.2.2.1 ∈ lw_g := mgt2 36 (by decide +kernel) rfl
theorem im_Wa_init : Cond.instanceMethod y_Wa_init ∈ lw_g := mgt1 36 (by decide +kernel) rfl
theorem cd_Wa_init : Cond.code y_Wa_init M_Wa_init.2.1 M_Wa_init.2.2.1 M_Wa_init.2.2.2.1 ∈ lw_g := mgt1 37 (by decide +kernel) rfl
theorem im_Es_init : Cond.instanceMethod y_Es_init ∈ lw_g := mgt1 29 (by decide +kernel) rfl
theorem cd_Es_init : Cond.code y_Es_init M_Es_init.2.1 M_Es_init.2.2.1 M_Es_init.2.2.2.1 ∈ lw_g := mgt1 30 (by decide +kernel) rfl
theorem im_La_init : Cond.instanceMethod y_La_init ∈ lw_g := mgt1 103 (by decide +kernel) rfl
theorem cd_La_init : Cond.code y_La_init M_La_init.2.1 M_La_init.2.2.1 M_La_init.2.2.2.1 ∈ lw_g := mgt1 104 (by decide +kernel) rfl
theorem im_Re_init : Cond.instanceMethod y_Re_init ∈ lw_g := mgt2 54 (by decide +kernel) rfl
theorem cd_Re_init : Cond.code y_Re_init M_Re_init.2.1 M_Re_init.2.2.1 M_Re_init.2.2.2.1 ∈ lw_g := mgt2 55 (by decide +kernel) rfl
theorem im_Se_init : Cond.instanceMethod y_Se_init ∈ lw_g := mgt1 192 (by decide +kernel) rfl
theorem cd_Se_init : Cond.code y_Se_init M_Se_init.2.1 M_Se_init.2.2.1 M_Se_init.2.2.2.1 ∈ lw_g := mgt1 193 (by decide +kernel) rfl
theorem im_Sh_init : Cond.instanceMethod y_Sh_init ∈ lw_g := mgt2 111 (by decide +kernel) rfl
theorem cd_Sh_init : Cond.code y_Sh_init M_Sh_init.2.1 M_Sh_init.2.2.1 M_Sh_init.2.2.2.1 ∈ lw_g := mgt2 112 (by decide +kernel) rfl
theorem im_Sp_init : Cond.instanceMethod y_Sp_init ∈ lw_g := mgt2 97 (by decide +kernel) rfl
theorem cd_Sp_init : Cond.code y_Sp_init M_Sp_init.2.1 M_Sp_init.2.2.1 M_Sp_init.2.2.2.1 ∈ lw_g := mgt2 98 (by decide +kernel) rfl
theorem im_Ws_init : Cond.instanceMethod y_Ws_init ∈ lw_g := mgt2 16 (by decide +kernel) rfl
theorem cd_Ws_init : Cond.code y_Ws_init M_Ws_init.2.1 M_Ws_init.2.2.1 M_Ws_init.2.2.2.1 ∈ lw_g := mgt2 17 (by decide +kernel) rfl
theorem im_G_kindHere : Cond.instanceMethod y_G_kindHere ∈ lw_g := mgt8 10 (by decide +kernel) rfl
theorem se_G_kindHere : Cond.selects y_G_kindHere.cls y_G_kindHere y_G_kindHere ∈ lw_g := mg 95 (by decide +kernel) rfl
theorem cd_G_kindHere : Cond.code y_G_kindHere M_G_kindHere.2.1 M_G_kindHere.2.2.1 M_G_kindHere.2.2.2.1 ∈ lw_g := mgt8 11 (by decide +kernel) rfl
theorem im_G_itemText : Cond.instanceMethod y_G_itemText ∈ lw_g := mgt8 6 (by decide +kernel) rfl
theorem se_G_itemText : Cond.selects y_G_itemText.cls y_G_itemText y_G_itemText ∈ lw_g := mg 94 (by decide +kernel) rfl
theorem cd_G_itemText : Cond.code y_G_itemText M_G_itemText.2.1 M_G_itemText.2.2.1 M_G_itemText.2.2.2.1 ∈ lw_g := mgt8 7 (by decide +kernel) rfl
theorem im_G_text : Cond.instanceMethod y_G_text ∈ lw_g := mgt7 233 (by decide +kernel) rfl
theorem se_G_text : Cond.selects y_G_text.cls y_G_text y_G_text ∈ lw_g := mgt7 234 (by decide +kernel) rfl
theorem cd_G_text : Cond.code y_G_text M_G_text.2.1 M_G_text.2.2.1 M_G_text.2.2.2.1 ∈ lw_g := mgt7 235 (by decide +kernel) rfl
theorem fl_9_387 : FL RX9 387 5 0 0 .int false := ⟨RX5, TX5, 3, tyX5, kfX5, by decide, mgt2 115 (by decide +kernel) rfl, rfl, rfl, rfl, rfl⟩
theorem cb_1_21 : CNB RX1 21 y_Wa_init M_Wa_init 0 "WalledFields" := ⟨List.mem_of_getElem? (i := 140) (by decide +kernel), ic_7, cd_Wa_init, by decide, by decide, by decide +kernel⟩
theorem cb_3_17 : CNB RX3 17 y_Wa_init M_Wa_init 0 "WalledFields" := ⟨List.mem_of_getElem? (i := 403) (by decide +kernel), ic_7, cd_Wa_init, by decide, by decide, by decide +kernel⟩
theorem cb_10_484 : CB RX10 484 y_G_kindHere M_G_kindHere 0 := ⟨mgt8 8 (by decide +kernel) rfl, ic_10, cd_G_kindHere, by decide, by decide, by decide +kernel⟩
theorem cb_10_487 : CB RX10 487 y_G_segmentText M_G_segmentText 1 := ⟨mgt8 26 (by decide +kernel) rfl, ic_10, cd_G_segmentText, by decide, by decide, by decide +kernel⟩
theorem cb_10_491 : CB RX10 491 y_G_itemText M_G_itemText 0 := ⟨mgt8 4 (by decide +kernel) rfl, ic_10, cd_G_itemText, by decide, by decide, by decide +kernel⟩
theorem oi_0_1 : Cond.methodLink RX0 1 Lib.objectInit ∈ lw_g ∧ Cond.instanceMethod Lib.objectInit ∈ lw_g ∧ Cond.code Lib.objectInit ⟨#[0xb1]⟩ 1 none ∈ lw_g := ⟨mgt2 37 (by decide +kernel) rfl, mgt1 24 (by decide +kernel) rfl, mgt1 25 (by decide +kernel) rfl⟩
theorem oi_1_3 : Cond.methodLink RX1 3 Lib.objectInit ∈ lw_g ∧ Cond.instanceMethod Lib.objectInit ∈ lw_g ∧ Cond.code Lib.objectInit ⟨#[0xb1]⟩ 1 none ∈ lw_g := ⟨mgt1 31 (by decide +kernel) rfl, mgt1 24 (by decide +kernel) rfl, mgt1 25 (by decide +kernel) rfl⟩
theorem oi_2_3 : Cond.methodLink RX2 3 Lib.objectInit ∈ lw_g ∧ Cond.instanceMethod Lib.objectInit ∈ lw_g ∧ Cond.code Lib.objectInit ⟨#[0xb1]⟩ 1 none ∈ lw_g := ⟨mgt1 105 (by decide +kernel) rfl, mgt1 24 (by decide +kernel) rfl, mgt1 25 (by decide +kernel) rfl⟩
theorem oi_3_3 : Cond.methodLink RX3 3 Lib.objectInit ∈ lw_g ∧ Cond.instanceMethod Lib.objectInit ∈ lw_g ∧ Cond.code Lib.objectInit ⟨#[0xb1]⟩ 1 none ∈ lw_g := ⟨mgt2 56 (by decide +kernel) rfl, mgt1 24 (by decide +kernel) rfl, mgt1 25 (by decide +kernel) rfl⟩
theorem oi_4_3 : Cond.methodLink RX4 3 Lib.objectInit ∈ lw_g ∧ Cond.instanceMethod Lib.objectInit ∈ lw_g ∧ Cond.code Lib.objectInit ⟨#[0xb1]⟩ 1 none ∈ lw_g := ⟨mgt1 194 (by decide +kernel) rfl, mgt1 24 (by decide +kernel) rfl, mgt1 25 (by decide +kernel) rfl⟩
theorem oi_5_3 : Cond.methodLink RX5 3 Lib.objectInit ∈ lw_g ∧ Cond.instanceMethod Lib.objectInit ∈ lw_g ∧ Cond.code Lib.objectInit ⟨#[0xb1]⟩ 1 none ∈ lw_g := ⟨mgt2 113 (by decide +kernel) rfl, mgt1 24 (by decide +kernel) rfl, mgt1 25 (by decide +kernel) rfl⟩
theorem oi_6_3 : Cond.methodLink RX6 3 Lib.objectInit ∈ lw_g ∧ Cond.instanceMethod Lib.objectInit ∈ lw_g ∧ Cond.code Lib.objectInit ⟨#[0xb1]⟩ 1 none ∈ lw_g := ⟨mgt2 99 (by decide +kernel) rfl, mgt1 24 (by decide +kernel) rfl, mgt1 25 (by decide +kernel) rfl⟩
theorem oi_7_3 : Cond.methodLink RX7 3 Lib.objectInit ∈ lw_g ∧ Cond.instanceMethod Lib.objectInit ∈ lw_g ∧ Cond.code Lib.objectInit ⟨#[0xb1]⟩ 1 none ∈ lw_g := ⟨mgt1 38 (by decide +kernel) rfl, mgt1 24 (by decide +kernel) rfl, mgt1 25 (by decide +kernel) rfl⟩
theorem oi_8_3 : Cond.methodLink RX8 3 Lib.objectInit ∈ lw_g ∧ Cond.instanceMethod Lib.objectInit ∈ lw_g ∧ Cond.code Lib.objectInit ⟨#[0xb1]⟩ 1 none ∈ lw_g := ⟨mgt2 18 (by decide +kernel) rfl, mgt1 24 (by decide +kernel) rfl, mgt1 25 (by decide +kernel) rfl⟩
theorem nw_1_9 : Cond.classLink RX1 9 RX7 ∈ lw_g ∧ Cond.instantiable RX7 6 ∈ lw_g ∧ Cond.initialized RX7 ∈ lw_g := ⟨mgt1 32 (by decide +kernel) rfl, mgt1 34 (by decide +kernel) rfl, ic_7⟩
theorem nwa_1_9 : Cond.classLink RX1 9 RX7 ∈ lw_g := nw_1_9.1
theorem nw_3_15 : Cond.classLink RX3 15 RX7 ∈ lw_g ∧ Cond.instantiable RX7 6 ∈ lw_g ∧ Cond.initialized RX7 ∈ lw_g := ⟨mgt2 57 (by decide +kernel) rfl, mgt1 34 (by decide +kernel) rfl, ic_7⟩
theorem nwa_3_15 : Cond.classLink RX3 15 RX7 ∈ lw_g := nw_3_15.1
theorem nwa_10_438 : Cond.classLink RX10 438 "java/lang/String" ∈ lw_g := mgt8 12 (by decide +kernel) rfl
theorem aw_11 : Cond.arrayClass .byte ∈ lw_g := mgt2 89 (by decide +kernel) rfl
theorem aw_12 : Cond.arrayClass .int ∈ lw_g := mgt1 188 (by decide +kernel) rfl
theorem aw_13 : Cond.arrayClass .long ∈ lw_g := mgt2 127 (by decide +kernel) rfl
theorem aw_14 : Cond.arrayClass .boolean ∈ lw_g := mgt2 31 (by decide +kernel) rfl
theorem dvX0 : ∀ k, k < 3 → defaultValue (tyX0 k) = cv0 (FTY 0 k) := by decide +kernel
theorem dvX1 : ∀ k, k < 5 → defaultValue (tyX1 k) = cv0 (FTY 1 k) := by decide +kernel
theorem dvX2 : ∀ k, k < 19 → defaultValue (tyX2 k) = cv0 (FTY 2 k) := by decide +kernel
theorem dvX3 : ∀ k, k < 9 → defaultValue (tyX3 k) = cv0 (FTY 3 k) := by decide +kernel
theorem dvX4 : ∀ k, k < 18 → defaultValue (tyX4 k) = cv0 (FTY 4 k) := by decide +kernel
theorem dvX5 : ∀ k, k < 3 → defaultValue (tyX5 k) = cv0 (FTY 5 k) := by decide +kernel
theorem dvX6 : ∀ k, k < 2 → defaultValue (tyX6 k) = cv0 (FTY 6 k) := by decide +kernel
theorem dvX7 : ∀ k, k < 6 → defaultValue (tyX7 k) = cv0 (FTY 7 k) := by decide +kernel
theorem dvX8 : ∀ k, k < 3 → defaultValue (tyX8 k) = cv0 (FTY 8 k) := by decide +kernel
theorem dvX9 : ∀ k, k < 16 → defaultValue (tyX9 k) = cv0 (FTY 9 k) := by decide +kernel
theorem dvX10 : ∀ k, k < 56 → defaultValue (tyX10 k) = cv0 (FTY 10 k) := by decide +kernel
theorem ac_9_390 : Cond.methodLink RX9 390 arraycopyName ∈ lw_g ∧ Cond.native arraycopyName ∈ lw_g ∧ Cond.static arraycopyName ∈ lw_g ∧ Cond.initialized "java/lang/System" ∈ lw_g := ⟨mgt5 86 (by decide +kernel) rfl, mgt5 88 (by decide +kernel) rfl, mgt5 87 (by decide +kernel) rfl, mgt1 17 (by decide +kernel) rfl⟩
