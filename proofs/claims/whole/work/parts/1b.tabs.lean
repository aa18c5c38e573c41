set_option maxRecDepth 20000 in
def mX4_init : Mt := (yX4_init, cX4_init, 1, none, [4, 135, 0, 2, 446], [(0, .aload_n 0, 1, []), (1, .invokespecial 3, 3, []), (4, .aload_n 0, 1, []), (5, .bipush 16, 2, []), (7, .newarray .int, 2, []), (9, .putfield 9, 3, [4, 0, 129]), (12, .aload_n 0, 1, []), (13, .bipush 16, 2, []), (15, .newarray .int, 2, []), (17, .putfield 15, 3, [4, 1, 130]), (20, .aload_n 0, 1, []), (21, .bipush 16, 2, []), (23, .newarray .int, 2, []), (25, .putfield 18, 3, [4, 2, 131]), (28, .aload_n 0, 1, []), (29, .bipush 16, 2, []), (31, .newarray .int, 2, []), (33, .putfield 21, 3, [4, 3, 132]), (36, .return_, 1, [])])
set_option maxRecDepth 20000 in
theorem ckX4_init_0 : ckR mX4_init 0 40 = true := by decide +kernel
set_option maxRecDepth 20000 in
theorem okX4_init : okC mX4_init := ⟨by decide +kernel, memT2 81 rfl rfl, okM.of (n := 1) (Or.inr rfl) (by decide) (fun j hj => by match j, hj with | 0, _ => exact ckX4_init_0 | _ + 1, hj => exact absurd hj (by omega))⟩
set_option maxRecDepth 20000 in
def mX4_clear : Mt := (yX4_clear, cX4_clear, 1, none, [4, 135, 0, 0, 671, 672], [(0, .aload_n 0, 1, []), (1, .iconst 0, 1, []), (2, .putfield 24, 3, [4, 4, 133]), (5, .return_, 1, [])])
set_option maxRecDepth 20000 in
theorem ckX4_clear_0 : ckR mX4_clear 0 40 = true := by decide +kernel
set_option maxRecDepth 20000 in
theorem okX4_clear : okC mX4_clear := ⟨by decide +kernel, memT3 67 rfl rfl, okM.of (n := 1) (Or.inr rfl) (by decide) (fun j hj => by match j, hj with | 0, _ => exact ckX4_clear_0 | _ + 1, hj => exact absurd hj (by omega))⟩
set_option maxRecDepth 20000 in
def mX4_write : Mt := (yX4_write, cX4_write, 5, none, [4, 135, 4, 0, 1085, 1086], [(0, .aload_n 0, 1, []), (1, .getfield 24, 3, [4, 4, 133]), (4, .bipush 16, 2, []), (6, .if_icmp .lt 4, 3, [5]), (9, .return_, 1, []), (10, .aload_n 0, 1, []), (11, .getfield 9, 3, [4, 0, 129]), (14, .aload_n 0, 1, []), (15, .getfield 24, 3, [4, 4, 133]), (18, .iload_n 1, 1, []), (19, .iastore, 1, []), (20, .aload_n 0, 1, []), (21, .getfield 15, 3, [4, 1, 130]), (24, .aload_n 0, 1, []), (25, .getfield 24, 3, [4, 4, 133]), (28, .iload_n 2, 1, []), (29, .iastore, 1, []), (30, .aload_n 0, 1, []), (31, .getfield 18, 3, [4, 2, 131]), (34, .aload_n 0, 1, []), (35, .getfield 24, 3, [4, 4, 133]), (38, .iload_n 3, 1, []), (39, .iastore, 1, []), (40, .aload_n 0, 1, []), (41, .getfield 21, 3, [4, 3, 132]), (44, .aload_n 0, 1, []), (45, .getfield 24, 3, [4, 4, 133]), (48, .iload 4, 2, []), (50, .iastore, 1, []), (51, .aload_n 0, 1, []), (52, .dup, 1, []), (53, .getfield 24, 3, [4, 4, 133]), (56, .iconst 1, 1, []), (57, .iadd, 1, []), (58, .putfield 24, 3, [4, 4, 133]), (61, .return_, 1, [])])
set_option maxRecDepth 20000 in
theorem ckX4_write_0 : ckR mX4_write 0 40 = true := by decide +kernel
set_option maxRecDepth 20000 in
theorem okX4_write : okC mX4_write := ⟨by decide +kernel, memT5 1 rfl rfl, okM.of (n := 1) (Or.inr rfl) (by decide) (fun j hj => by match j, hj with | 0, _ => exact ckX4_write_0 | _ + 1, hj => exact absurd hj (by omega))⟩
set_option maxRecDepth 20000 in
def mX4_undoLatest : Mt := (yX4_undoLatest, cX4_undoLatest, 3, (some .int), [4, 135, 1, 0, 1190, 1191], [(0, .aload_n 0, 1, []), (1, .getfield 24, 3, [4, 4, 133]), (4, .iconst 1, 1, []), (5, .if_icmp .lt 12, 3, [8]), (8, .aload_n 0, 1, []), (9, .getfield 24, 3, [4, 4, 133]), (12, .bipush 16, 2, []), (14, .if_icmp .le 5, 3, [10]), (17, .iconst (-1), 1, []), (18, .ireturn, 1, []), (19, .aload_n 0, 1, []), (20, .dup, 1, []), (21, .getfield 24, 3, [4, 4, 133]), (24, .iconst 1, 1, []), (25, .isub, 1, []), (26, .putfield 24, 3, [4, 4, 133]), (29, .aload_n 0, 1, []), (30, .getfield 9, 3, [4, 0, 129]), (33, .aload_n 0, 1, []), (34, .getfield 24, 3, [4, 4, 133]), (37, .iaload, 1, []), (38, .istore_n 2, 1, []), (39, .aload_n 1, 1, []), (40, .iload_n 2, 1, []), (41, .aload_n 0, 1, []), (42, .getfield 15, 3, [4, 1, 130]), (45, .aload_n 0, 1, []), (46, .getfield 24, 3, [4, 4, 133]), (49, .iaload, 1, []), (50, .invokevirtual 28, 3, []), (53, .aload_n 1, 1, []), (54, .invokevirtual 34, 3, []), (57, .aload_n 1, 1, []), (58, .getfield 37, 3, [5, 8, 31]), (61, .aload_n 0, 1, []), (62, .getfield 18, 3, [4, 2, 131]), (65, .aload_n 0, 1, []), (66, .getfield 24, 3, [4, 4, 133]), (69, .iaload, 1, []), (70, .dup2, 1, []), (71, .iaload, 1, []), (72, .aload_n 0, 1, []), (73, .getfield 21, 3, [4, 3, 132]), (76, .aload_n 0, 1, []), (77, .getfield 24, 3, [4, 4, 133]), (80, .iaload, 1, []), (81, .iadd, 1, []), (82, .iastore, 1, []), (83, .aload_n 1, 1, []), (84, .getfield 40, 3, [5, 12, 45]), (87, .aload_n 1, 1, []), (88, .getfield 43, 3, [5, 7, 27]), (91, .iload_n 2, 1, []), (92, .iaload, 1, []), (93, .dup2, 1, []), (94, .iaload, 1, []), (95, .aload_n 0, 1, []), (96, .getfield 21, 3, [4, 3, 132]), (99, .aload_n 0, 1, []), (100, .getfield 24, 3, [4, 4, 133]), (103, .iaload, 1, []), (104, .isub, 1, []), (105, .iastore, 1, []), (106, .iload_n 2, 1, []), (107, .ireturn, 1, [])])
set_option maxRecDepth 20000 in
theorem ckX4_undoLatest_0 : ckR mX4_undoLatest 0 40 = true := by decide +kernel
set_option maxRecDepth 20000 in
theorem ckX4_undoLatest_1 : ckR mX4_undoLatest 40 40 = true := by decide +kernel
set_option maxRecDepth 20000 in
theorem okX4_undoLatest : okC mX4_undoLatest := ⟨by decide +kernel, memT5 106 rfl rfl, okM.of (n := 2) (Or.inr rfl) (by decide) (fun j hj => by match j, hj with | 0, _ => exact ckX4_undoLatest_0 | 1, _ => exact ckX4_undoLatest_1 | _ + 2, hj => exact absurd hj (by omega))⟩
set_option maxRecDepth 20000 in
def mX5_init : Mt := (yX5_init, cX5_init, 1, none, [5, 129, 0, 2, 165], [(0, .aload_n 0, 1, []), (1, .invokespecial 3, 3, []), (4, .aload_n 0, 1, []), (5, .bipush 16, 2, []), (7, .newarray .int, 2, []), (9, .putfield 9, 3, [5, 2, 8]), (12, .aload_n 0, 1, []), (13, .bipush 16, 2, []), (15, .newarray .int, 2, []), (17, .putfield 15, 3, [5, 3, 12]), (20, .aload_n 0, 1, []), (21, .bipush 16, 2, []), (23, .newarray .int, 2, []), (25, .putfield 18, 3, [5, 4, 16]), (28, .aload_n 0, 1, []), (29, .bipush 16, 2, []), (31, .newarray .int, 2, []), (33, .putfield 21, 3, [5, 5, 19]), (36, .aload_n 0, 1, []), (37, .bipush 16, 2, []), (39, .newarray .int, 2, []), (41, .putfield 24, 3, [5, 6, 22]), (44, .aload_n 0, 1, []), (45, .bipush 16, 2, []), (47, .newarray .int, 2, []), (49, .putfield 27, 3, [5, 7, 25]), (52, .aload_n 0, 1, []), (53, .bipush 16, 2, []), (55, .newarray .int, 2, []), (57, .putfield 30, 3, [5, 8, 29]), (60, .aload_n 0, 1, []), (61, .bipush 16, 2, []), (63, .newarray .int, 2, []), (65, .putfield 33, 3, [5, 9, 35]), (68, .aload_n 0, 1, []), (69, .bipush 16, 2, []), (71, .newarray .int, 2, []), (73, .putfield 36, 3, [5, 10, 38]), (76, .aload_n 0, 1, []), (77, .bipush 16, 2, []), (79, .newarray .int, 2, []), (81, .putfield 39, 3, [5, 11, 41]), (84, .aload_n 0, 1, []), (85, .bipush 6, 2, []), (87, .newarray .int, 2, []), (89, .putfield 42, 3, [5, 12, 44]), (92, .return_, 1, [])])
set_option maxRecDepth 20000 in
theorem ckX5_init_0 : ckR mX5_init 0 40 = true := by decide +kernel
set_option maxRecDepth 20000 in
theorem ckX5_init_1 : ckR mX5_init 40 40 = true := by decide +kernel
set_option maxRecDepth 20000 in
theorem okX5_init : okC mX5_init := ⟨by decide +kernel, memT1 40 rfl rfl, okM.of (n := 2) (Or.inr rfl) (by decide) (fun j hj => by match j, hj with | 0, _ => exact ckX5_init_0 | 1, _ => exact ckX5_init_1 | _ + 2, hj => exact absurd hj (by omega))⟩
set_option maxRecDepth 20000 in
def mX5_canBe : Mt := (yX5_canBe, cX5_canBe, 4, (some .boolean), [5, 129, 4, 1, 660], [(0, .iload_n 0, 1, []), (1, .ifCond .lt 43, 3, [22]), (4, .iload_n 0, 1, []), (5, .iconst 1, 1, []), (6, .if_icmp .gt 38, 3, [22]), (9, .iload_n 1, 1, []), (10, .ifCond .lt 34, 3, [22]), (13, .iload_n 1, 1, []), (14, .sipush 999, 3, []), (17, .if_icmp .gt 27, 3, [22]), (20, .iload_n 2, 1, []), (21, .ifCond .lt 23, 3, [22]), (24, .iload_n 2, 1, []), (25, .bipush 120, 2, []), (27, .if_icmp .gt 17, 3, [22]), (30, .iload_n 3, 1, []), (31, .ifCond .lt 13, 3, [22]), (34, .iload_n 3, 1, []), (35, .bipush 6, 2, []), (37, .if_icmp .ge 7, 3, [22]), (40, .iconst 1, 1, []), (41, .goto 4, 3, [23]), (44, .iconst 0, 1, []), (45, .ireturn, 1, [])])
set_option maxRecDepth 20000 in
theorem ckX5_canBe_0 : ckR mX5_canBe 0 40 = true := by decide +kernel
set_option maxRecDepth 20000 in
theorem okX5_canBe : okC mX5_canBe := ⟨by decide +kernel, memT3 55 rfl rfl, okM.of (n := 1) (Or.inr rfl) (by decide) (fun j hj => by match j, hj with | 0, _ => exact ckX5_canBe_0 | _ + 1, hj => exact absurd hj (by omega))⟩
set_option maxRecDepth 20000 in
def mX5_copyFrom : Mt := (yX5_copyFrom, cX5_copyFrom, 2, none, [5, 129, 1, 0, 1007, 1008], [(0, .aload_n 0, 1, []), (1, .aload_n 1, 1, []), (2, .getfield 45, 3, [5, 0, 1]), (5, .putfield 45, 3, [5, 0, 1]), (8, .aload_n 1, 1, []), (9, .getfield 9, 3, [5, 2, 8]), (12, .iconst 0, 1, []), (13, .aload_n 0, 1, []), (14, .getfield 9, 3, [5, 2, 8]), (17, .iconst 0, 1, []), (18, .bipush 16, 2, []), (20, .invokestatic 49, 3, []), (23, .aload_n 1, 1, []), (24, .getfield 15, 3, [5, 3, 12]), (27, .iconst 0, 1, []), (28, .aload_n 0, 1, []), (29, .getfield 15, 3, [5, 3, 12]), (32, .iconst 0, 1, []), (33, .bipush 16, 2, []), (35, .invokestatic 49, 3, []), (38, .aload_n 1, 1, []), (39, .getfield 18, 3, [5, 4, 16]), (42, .iconst 0, 1, []), (43, .aload_n 0, 1, []), (44, .getfield 18, 3, [5, 4, 16]), (47, .iconst 0, 1, []), (48, .bipush 16, 2, []), (50, .invokestatic 49, 3, []), (53, .aload_n 1, 1, []), (54, .getfield 21, 3, [5, 5, 19]), (57, .iconst 0, 1, []), (58, .aload_n 0, 1, []), (59, .getfield 21, 3, [5, 5, 19]), (62, .iconst 0, 1, []), (63, .bipush 16, 2, []), (65, .invokestatic 49, 3, []), (68, .aload_n 1, 1, []), (69, .getfield 24, 3, [5, 6, 22]), (72, .iconst 0, 1, []), (73, .aload_n 0, 1, []), (74, .getfield 24, 3, [5, 6, 22]), (77, .iconst 0, 1, []), (78, .bipush 16, 2, []), (80, .invokestatic 49, 3, []), (83, .aload_n 1, 1, []), (84, .getfield 27, 3, [5, 7, 25]), (87, .iconst 0, 1, []), (88, .aload_n 0, 1, []), (89, .getfield 27, 3, [5, 7, 25]), (92, .iconst 0, 1, []), (93, .bipush 16, 2, []), (95, .invokestatic 49, 3, []), (98, .aload_n 1, 1, []), (99, .getfield 30, 3, [5, 8, 29]), (102, .iconst 0, 1, []), (103, .aload_n 0, 1, []), (104, .getfield 30, 3, [5, 8, 29]), (107, .iconst 0, 1, []), (108, .bipush 16, 2, []), (110, .invokestatic 49, 3, []), (113, .aload_n 1, 1, []), (114, .getfield 42, 3, [5, 12, 44]), (117, .iconst 0, 1, []), (118, .aload_n 0, 1, []), (119, .getfield 42, 3, [5, 12, 44]), (122, .iconst 0, 1, []), (123, .bipush 6, 2, []), (125, .invokestatic 49, 3, []), (128, .aload_n 0, 1, []), (129, .aload_n 1, 1, []), (130, .invokevirtual 55, 3, []), (133, .return_, 1, [])])
set_option maxRecDepth 20000 in
theorem ckX5_copyFrom_0 : ckR mX5_copyFrom 0 40 = true := by decide +kernel
set_option maxRecDepth 20000 in
theorem ckX5_copyFrom_1 : ckR mX5_copyFrom 40 40 = true := by decide +kernel
set_option maxRecDepth 20000 in
theorem okX5_copyFrom : okC mX5_copyFrom := ⟨by decide +kernel, memT4 163 rfl rfl, okM.of (n := 2) (Or.inr rfl) (by decide) (fun j hj => by match j, hj with | 0, _ => exact ckX5_copyFrom_0 | 1, _ => exact ckX5_copyFrom_1 | _ + 2, hj => exact absurd hj (by omega))⟩
set_option maxRecDepth 20000 in
def mX5_copyTiesFrom : Mt := (yX5_copyTiesFrom, cX5_copyTiesFrom, 2, none, [5, 129, 1, 0, 1012, 1013], [(0, .aload_n 0, 1, []), (1, .aload_n 1, 1, []), (2, .getfield 59, 3, [5, 1, 6]), (5, .putfield 59, 3, [5, 1, 6]), (8, .aload_n 1, 1, []), (9, .getfield 33, 3, [5, 9, 35]), (12, .iconst 0, 1, []), (13, .aload_n 0, 1, []), (14, .getfield 33, 3, [5, 9, 35]), (17, .iconst 0, 1, []), (18, .bipush 16, 2, []), (20, .invokestatic 49, 3, []), (23, .aload_n 1, 1, []), (24, .getfield 36, 3, [5, 10, 38]), (27, .iconst 0, 1, []), (28, .aload_n 0, 1, []), (29, .getfield 36, 3, [5, 10, 38]), (32, .iconst 0, 1, []), (33, .bipush 16, 2, []), (35, .invokestatic 49, 3, []), (38, .aload_n 1, 1, []), (39, .getfield 39, 3, [5, 11, 41]), (42, .iconst 0, 1, []), (43, .aload_n 0, 1, []), (44, .getfield 39, 3, [5, 11, 41]), (47, .iconst 0, 1, []), (48, .bipush 16, 2, []), (50, .invokestatic 49, 3, []), (53, .return_, 1, [])])
set_option maxRecDepth 20000 in
theorem ckX5_copyTiesFrom_0 : ckR mX5_copyTiesFrom 0 40 = true := by decide +kernel
set_option maxRecDepth 20000 in
theorem okX5_copyTiesFrom : okC mX5_copyTiesFrom := ⟨by decide +kernel, memT4 168 rfl rfl, okM.of (n := 1) (Or.inr rfl) (by decide) (fun j hj => by match j, hj with | 0, _ => exact ckX5_copyTiesFrom_0 | _ + 1, hj => exact absurd hj (by omega))⟩
set_option maxRecDepth 20000 in
def mX5_has : Mt := (yX5_has, cX5_has, 2, (some .boolean), [5, 129, 1, 0, 683, 684], [(0, .iload_n 1, 1, []), (1, .ifCond .lt 15, 3, [8]), (4, .iload_n 1, 1, []), (5, .aload_n 0, 1, []), (6, .getfield 45, 3, [5, 0, 1]), (9, .if_icmp .ge 7, 3, [8]), (12, .iconst 1, 1, []), (13, .goto 4, 3, [9]), (16, .iconst 0, 1, []), (17, .ireturn, 1, [])])
set_option maxRecDepth 20000 in
theorem ckX5_has_0 : ckR mX5_has 0 40 = true := by decide +kernel
set_option maxRecDepth 20000 in
theorem okX5_has : okC mX5_has := ⟨by decide +kernel, memT3 79 rfl rfl, okM.of (n := 1) (Or.inr rfl) (by decide) (fun j hj => by match j, hj with | 0, _ => exact ckX5_has_0 | _ + 1, hj => exact absurd hj (by omega))⟩
set_option maxRecDepth 20000 in
def mX5_settle : Mt := (yX5_settle, cX5_settle, 6, (some .int), [5, 129, 4, 0, 667, 668], [(0, .aload_n 0, 1, []), (1, .getfield 45, 3, [5, 0, 1]), (4, .bipush 16, 2, []), (6, .if_icmp .lt 5, 3, [6]), (9, .iconst (-1), 1, []), (10, .ireturn, 1, []), (11, .aload_n 0, 1, []), (12, .getfield 45, 3, [5, 0, 1]), (15, .istore 5, 2, []), (17, .aload_n 0, 1, []), (18, .getfield 9, 3, [5, 2, 8]), (21, .iload 5, 2, []), (23, .iload_n 1, 1, []), (24, .iastore, 1, []), (25, .aload_n 0, 1, []), (26, .getfield 15, 3, [5, 3, 12]), (29, .iload 5, 2, []), (31, .iload_n 2, 1, []), (32, .iastore, 1, []), (33, .aload_n 0, 1, []), (34, .getfield 18, 3, [5, 4, 16]), (37, .iload 5, 2, []), (39, .iload_n 3, 1, []), (40, .iastore, 1, []), (41, .aload_n 0, 1, []), (42, .getfield 27, 3, [5, 7, 25]), (45, .iload 5, 2, []), (47, .iload 4, 2, []), (49, .iastore, 1, []), (50, .aload_n 0, 1, []), (51, .getfield 21, 3, [5, 5, 19]), (54, .iload 5, 2, []), (56, .iconst 0, 1, []), (57, .iastore, 1, []), (58, .aload_n 0, 1, []), (59, .getfield 24, 3, [5, 6, 22]), (62, .iload 5, 2, []), (64, .iconst 0, 1, []), (65, .iastore, 1, []), (66, .aload_n 0, 1, []), (67, .getfield 30, 3, [5, 8, 29]), (70, .iload 5, 2, []), (72, .iconst 0, 1, []), (73, .iastore, 1, []), (74, .aload_n 0, 1, []), (75, .getfield 33, 3, [5, 9, 35]), (78, .iload 5, 2, []), (80, .iconst (-1), 1, []), (81, .iastore, 1, []), (82, .aload_n 0, 1, []), (83, .getfield 36, 3, [5, 10, 38]), (86, .iload 5, 2, []), (88, .iconst (-1), 1, []), (89, .iastore, 1, []), (90, .aload_n 0, 1, []), (91, .getfield 39, 3, [5, 11, 41]), (94, .iload 5, 2, []), (96, .iconst 0, 1, []), (97, .iastore, 1, []), (98, .aload_n 0, 1, []), (99, .iload 5, 2, []), (101, .iconst 1, 1, []), (102, .iadd, 1, []), (103, .putfield 45, 3, [5, 0, 1]), (106, .iload 5, 2, []), (108, .ireturn, 1, [])])
set_option maxRecDepth 20000 in
theorem ckX5_settle_0 : ckR mX5_settle 0 40 = true := by decide +kernel
set_option maxRecDepth 20000 in
theorem ckX5_settle_1 : ckR mX5_settle 40 40 = true := by decide +kernel
set_option maxRecDepth 20000 in
theorem okX5_settle : okC mX5_settle := ⟨by decide +kernel, memT3 63 rfl rfl, okM.of (n := 2) (Or.inr rfl) (by decide) (fun j hj => by match j, hj with | 0, _ => exact ckX5_settle_0 | 1, _ => exact ckX5_settle_1 | _ + 2, hj => exact absurd hj (by omega))⟩
set_option maxRecDepth 20000 in
def mX5_isSold : Mt := (yX5_isSold, cX5_isSold, 2, (some .boolean), [5, 129, 1, 0, 691, 692], [(0, .aload_n 0, 1, []), (1, .getfield 59, 3, [5, 1, 6]), (4, .iload_n 1, 1, []), (5, .ishr, 1, []), (6, .iconst 1, 1, []), (7, .iand, 1, []), (8, .iconst 1, 1, []), (9, .if_icmp .ne 7, 3, [10]), (12, .iconst 1, 1, []), (13, .goto 4, 3, [11]), (16, .iconst 0, 1, []), (17, .ireturn, 1, [])])
set_option maxRecDepth 20000 in
theorem ckX5_isSold_0 : ckR mX5_isSold 0 40 = true := by decide +kernel
set_option maxRecDepth 20000 in
theorem okX5_isSold : okC mX5_isSold := ⟨by decide +kernel, memT3 87 rfl rfl, okM.of (n := 1) (Or.inr rfl) (by decide) (fun j hj => by match j, hj with | 0, _ => exact ckX5_isSold_0 | _ + 1, hj => exact absurd hj (by omega))⟩
set_option maxRecDepth 20000 in
def mX5_isInLine : Mt := (yX5_isInLine, cX5_isInLine, 3, (some .boolean), [5, 129, 2, 0, 1130, 1131], [(0, .aload_n 0, 1, []), (1, .getfield 39, 3, [5, 11, 41]), (4, .iload_n 2, 1, []), (5, .iaload, 1, []), (6, .iload_n 1, 1, []), (7, .ishr, 1, []), (8, .iconst 1, 1, []), (9, .iand, 1, []), (10, .iconst 1, 1, []), (11, .if_icmp .ne 7, 3, [12]), (14, .iconst 1, 1, []), (15, .goto 4, 3, [13]), (18, .iconst 0, 1, []), (19, .ireturn, 1, [])])
set_option maxRecDepth 20000 in
theorem ckX5_isInLine_0 : ckR mX5_isInLine 0 40 = true := by decide +kernel
set_option maxRecDepth 20000 in
theorem okX5_isInLine : okC mX5_isInLine := ⟨by decide +kernel, memT5 46 rfl rfl, okM.of (n := 1) (Or.inr rfl) (by decide) (fun j hj => by match j, hj with | 0, _ => exact ckX5_isInLine_0 | _ + 1, hj => exact absurd hj (by omega))⟩
set_option maxRecDepth 20000 in
def mX5_isSelfOrInLine : Mt := (yX5_isSelfOrInLine, cX5_isSelfOrInLine, 3, (some .boolean), [5, 129, 2, 0, 740, 741], [(0, .iload_n 1, 1, []), (1, .iload_n 2, 1, []), (2, .if_icmp .eq 17, 3, [13]), (5, .aload_n 0, 1, []), (6, .getfield 39, 3, [5, 11, 41]), (9, .iload_n 2, 1, []), (10, .iaload, 1, []), (11, .iload_n 1, 1, []), (12, .ishr, 1, []), (13, .iconst 1, 1, []), (14, .iand, 1, []), (15, .iconst 1, 1, []), (16, .if_icmp .ne 7, 3, [15]), (19, .iconst 1, 1, []), (20, .goto 4, 3, [16]), (23, .iconst 0, 1, []), (24, .ireturn, 1, [])])
set_option maxRecDepth 20000 in
theorem ckX5_isSelfOrInLine_0 : ckR mX5_isSelfOrInLine 0 40 = true := by decide +kernel
set_option maxRecDepth 20000 in
theorem okX5_isSelfOrInLine : okC mX5_isSelfOrInLine := ⟨by decide +kernel, memT3 136 rfl rfl, okM.of (n := 1) (Or.inr rfl) (by decide) (fun j hj => by match j, hj with | 0, _ => exact ckX5_isSelfOrInLine_0 | _ + 1, hj => exact absurd hj (by omega))⟩
set_option maxRecDepth 20000 in
def mX5_withLine : Mt := (yX5_withLine, cX5_withLine, 2, (some .int), [5, 129, 1, 0, 752, 753], [(0, .iload_n 1, 1, []), (1, .iconst (-1), 1, []), (2, .if_icmp .ne 7, 3, [5]), (5, .iconst 0, 1, []), (6, .goto 13, 3, [13]), (9, .aload_n 0, 1, []), (10, .getfield 39, 3, [5, 11, 41]), (13, .iload_n 1, 1, []), (14, .iaload, 1, []), (15, .iconst 1, 1, []), (16, .iload_n 1, 1, []), (17, .ishl, 1, []), (18, .ior, 1, []), (19, .ireturn, 1, [])])
set_option maxRecDepth 20000 in
theorem ckX5_withLine_0 : ckR mX5_withLine 0 40 = true := by decide +kernel
set_option maxRecDepth 20000 in
theorem okX5_withLine : okC mX5_withLine := ⟨by decide +kernel, memT3 148 rfl rfl, okM.of (n := 1) (Or.inr rfl) (by decide) (fun j hj => by match j, hj with | 0, _ => exact ckX5_withLine_0 | _ + 1, hj => exact absurd hj (by omega))⟩
set_option maxRecDepth 20000 in
def mX5_livesIn : Mt := (yX5_livesIn, cX5_livesIn, 3, (some .boolean), [5, 129, 2, 0, 1159, 1160], [(0, .iload_n 2, 1, []), (1, .aload_n 0, 1, []), (2, .getfield 15, 3, [5, 3, 12]), (5, .iload_n 1, 1, []), (6, .iaload, 1, []), (7, .if_icmp .lt 24, 3, [19]), (10, .iload_n 2, 1, []), (11, .aload_n 0, 1, []), (12, .getfield 15, 3, [5, 3, 12]), (15, .iload_n 1, 1, []), (16, .iaload, 1, []), (17, .aload_n 0, 1, []), (18, .getfield 18, 3, [5, 4, 16]), (21, .iload_n 1, 1, []), (22, .iaload, 1, []), (23, .iadd, 1, []), (24, .if_icmp .ge 7, 3, [19]), (27, .iconst 1, 1, []), (28, .goto 4, 3, [20]), (31, .iconst 0, 1, []), (32, .ireturn, 1, [])])
set_option maxRecDepth 20000 in
theorem ckX5_livesIn_0 : ckR mX5_livesIn 0 40 = true := by decide +kernel
set_option maxRecDepth 20000 in
theorem okX5_livesIn : okC mX5_livesIn := ⟨by decide +kernel, memT5 75 rfl rfl, okM.of (n := 1) (Or.inr rfl) (by decide) (fun j hj => by match j, hj with | 0, _ => exact ckX5_livesIn_0 | _ + 1, hj => exact absurd hj (by omega))⟩
set_option maxRecDepth 20000 in
def mX5_datesFit : Mt := (yX5_datesFit, cX5_datesFit, 6, (some .boolean), [5, 129, 3, 0, 1060, 1061], [(0, .aload_n 0, 1, []), (1, .getfield 15, 3, [5, 3, 12]), (4, .iload_n 2, 1, []), (5, .iaload, 1, []), (6, .aload_n 0, 1, []), (7, .getfield 15, 3, [5, 3, 12]), (10, .iload_n 1, 1, []), (11, .iaload, 1, []), (12, .isub, 1, []), (13, .istore 4, 2, []), (15, .aload_n 0, 1, []), (16, .getfield 9, 3, [5, 2, 8]), (19, .iload_n 1, 1, []), (20, .iaload, 1, []), (21, .ifCond .ne 12, 3, [20]), (24, .aload_n 0, 1, []), (25, .getfield 18, 3, [5, 4, 16]), (28, .iload_n 1, 1, []), (29, .iaload, 1, []), (30, .goto 11, 3, [26]), (33, .aload_n 0, 1, []), (34, .getfield 18, 3, [5, 4, 16]), (37, .iload_n 1, 1, []), (38, .iaload, 1, []), (39, .iconst 1, 1, []), (40, .isub, 1, []), (41, .istore 5, 2, []), (43, .iload 4, 2, []), (45, .iload_n 3, 1, []), (46, .if_icmp .lt 14, 3, [35]), (49, .iload 4, 2, []), (51, .iload 5, 2, []), (53, .if_icmp .gt 7, 3, [35]), (56, .iconst 1, 1, []), (57, .goto 4, 3, [36]), (60, .iconst 0, 1, []), (61, .ireturn, 1, [])])
set_option maxRecDepth 20000 in
theorem ckX5_datesFit_0 : ckR mX5_datesFit 0 40 = true := by decide +kernel
set_option maxRecDepth 20000 in
theorem okX5_datesFit : okC mX5_datesFit := ⟨by decide +kernel, memT4 216 rfl rfl, okM.of (n := 1) (Or.inr rfl) (by decide) (fun j hj => by match j, hj with | 0, _ => exact ckX5_datesFit_0 | _ + 1, hj => exact absurd hj (by omega))⟩
set_option maxRecDepth 20000 in
def mX5_parentOf : Mt := (yX5_parentOf, cX5_parentOf, 3, (some .int), [5, 129, 2, 0, 736, 737], [(0, .iload_n 2, 1, []), (1, .ifCond .ne 12, 3, [7]), (4, .aload_n 0, 1, []), (5, .getfield 33, 3, [5, 9, 35]), (8, .iload_n 1, 1, []), (9, .iaload, 1, []), (10, .goto 9, 3, [11]), (13, .aload_n 0, 1, []), (14, .getfield 36, 3, [5, 10, 38]), (17, .iload_n 1, 1, []), (18, .iaload, 1, []), (19, .ireturn, 1, [])])
set_option maxRecDepth 20000 in
theorem ckX5_parentOf_0 : ckR mX5_parentOf 0 40 = true := by decide +kernel
set_option maxRecDepth 20000 in
theorem okX5_parentOf : okC mX5_parentOf := ⟨by decide +kernel, memT3 132 rfl rfl, okM.of (n := 1) (Or.inr rfl) (by decide) (fun j hj => by match j, hj with | 0, _ => exact ckX5_parentOf_0 | _ + 1, hj => exact absurd hj (by omega))⟩
set_option maxRecDepth 20000 in
def mX5_hasPlaceFor : Mt := (yX5_hasPlaceFor, cX5_hasPlaceFor, 3, (some .boolean), [5, 129, 2, 0, 732, 733], [(0, .aload_n 0, 1, []), (1, .iload_n 2, 1, []), (2, .aload_n 0, 1, []), (3, .getfield 9, 3, [5, 2, 8]), (6, .iload_n 1, 1, []), (7, .iaload, 1, []), (8, .invokevirtual 62, 3, []), (11, .iconst (-1), 1, []), (12, .if_icmp .ne 16, 3, [16]), (15, .aload_n 0, 1, []), (16, .iload_n 2, 1, []), (17, .iload_n 1, 1, []), (18, .invokevirtual 66, 3, []), (21, .ifCond .ne 7, 3, [16]), (24, .iconst 1, 1, []), (25, .goto 4, 3, [17]), (28, .iconst 0, 1, []), (29, .ireturn, 1, [])])
set_option maxRecDepth 20000 in
theorem ckX5_hasPlaceFor_0 : ckR mX5_hasPlaceFor 0 40 = true := by decide +kernel
set_option maxRecDepth 20000 in
theorem okX5_hasPlaceFor : okC mX5_hasPlaceFor := ⟨by decide +kernel, memT3 128 rfl rfl, okM.of (n := 1) (Or.inr rfl) (by decide) (fun j hj => by match j, hj with | 0, _ => exact ckX5_hasPlaceFor_0 | _ + 1, hj => exact absurd hj (by omega))⟩
set_option maxRecDepth 20000 in
def mX5_couldBeBought : Mt := (yX5_couldBeBought, cX5_couldBeBought, 4, (some .boolean), [5, 129, 3, 0, 1054, 1055], [(0, .aload_n 0, 1, []), (1, .iload_n 1, 1, []), (2, .invokevirtual 70, 3, []), (5, .ifCond .ne 26, 3, [17]), (8, .aload_n 0, 1, []), (9, .iload_n 1, 1, []), (10, .iload_n 2, 1, []), (11, .invokevirtual 74, 3, []), (14, .ifCond .eq 17, 3, [17]), (17, .aload_n 0, 1, []), (18, .iload_n 1, 1, []), (19, .iload_n 2, 1, []), (20, .iload_n 3, 1, []), (21, .invokevirtual 77, 3, []), (24, .ifCond .eq 7, 3, [17]), (27, .iconst 1, 1, []), (28, .goto 4, 3, [18]), (31, .iconst 0, 1, []), (32, .ireturn, 1, [])])
set_option maxRecDepth 20000 in
theorem ckX5_couldBeBought_0 : ckR mX5_couldBeBought 0 40 = true := by decide +kernel
set_option maxRecDepth 20000 in
theorem okX5_couldBeBought : okC mX5_couldBeBought := ⟨by decide +kernel, memT4 210 rfl rfl, okM.of (n := 1) (Or.inr rfl) (by decide) (fun j hj => by match j, hj with | 0, _ => exact ckX5_couldBeBought_0 | _ + 1, hj => exact absurd hj (by omega))⟩
set_option maxRecDepth 20000 in
def mX5_setParent : Mt := (yX5_setParent, cX5_setParent, 4, none, [5, 129, 3, 0, 748, 749], [(0, .iload_n 2, 1, []), (1, .ifCond .ne 13, 3, [8]), (4, .aload_n 0, 1, []), (5, .getfield 33, 3, [5, 9, 35]), (8, .iload_n 1, 1, []), (9, .iload_n 3, 1, []), (10, .iastore, 1, []), (11, .goto 10, 3, [13]), (14, .aload_n 0, 1, []), (15, .getfield 36, 3, [5, 10, 38]), (18, .iload_n 1, 1, []), (19, .iload_n 3, 1, []), (20, .iastore, 1, []), (21, .return_, 1, [])])
set_option maxRecDepth 20000 in
theorem ckX5_setParent_0 : ckR mX5_setParent 0 40 = true := by decide +kernel
set_option maxRecDepth 20000 in
theorem okX5_setParent : okC mX5_setParent := ⟨by decide +kernel, memT3 144 rfl rfl, okM.of (n := 1) (Or.inr rfl) (by decide) (fun j hj => by match j, hj with | 0, _ => exact ckX5_setParent_0 | _ + 1, hj => exact absurd hj (by omega))⟩
set_option maxRecDepth 20000 in
def mX5_tie : Mt := (yX5_tie, cX5_tie, 5, none, [5, 129, 2, 0, 744, 745], [(0, .aload_n 0, 1, []), (1, .iload_n 2, 1, []), (2, .aload_n 0, 1, []), (3, .getfield 9, 3, [5, 2, 8]), (6, .iload_n 1, 1, []), (7, .iaload, 1, []), (8, .iload_n 1, 1, []), (9, .invokevirtual 81, 3, []), (12, .aload_n 0, 1, []), (13, .iload_n 1, 1, []), (14, .invokevirtual 85, 3, []), (17, .istore_n 3, 1, []), (18, .iconst 0, 1, []), (19, .istore 4, 2, []), (21, .iload 4, 2, []), (23, .aload_n 0, 1, []), (24, .getfield 45, 3, [5, 0, 1]), (27, .if_icmp .ge 30, 3, [33]), (30, .aload_n 0, 1, []), (31, .iload_n 2, 1, []), (32, .iload 4, 2, []), (34, .invokevirtual 66, 3, []), (37, .ifCond .eq 14, 3, [31]), (40, .aload_n 0, 1, []), (41, .getfield 39, 3, [5, 11, 41]), (44, .iload 4, 2, []), (46, .dup2, 1, []), (47, .iaload, 1, []), (48, .iload_n 3, 1, []), (49, .ior, 1, []), (50, .iastore, 1, []), (51, .iinc 4 1, 3, []), (54, .goto (-33), 3, [14]), (57, .return_, 1, [])])
set_option maxRecDepth 20000 in
theorem ckX5_tie_0 : ckR mX5_tie 0 40 = true := by decide +kernel
set_option maxRecDepth 20000 in
theorem okX5_tie : okC mX5_tie := ⟨by decide +kernel, memT3 140 rfl rfl, okM.of (n := 1) (Or.inr rfl) (by decide) (fun j hj => by match j, hj with | 0, _ => exact ckX5_tie_0 | _ + 1, hj => exact absurd hj (by omega))⟩
set_option maxRecDepth 20000 in
def mX5_sell : Mt := (yX5_sell, cX5_sell, 3, none, [5, 129, 2, 0, 1080, 1081], [(0, .aload_n 0, 1, []), (1, .iload_n 1, 1, []), (2, .iload_n 2, 1, []), (3, .invokevirtual 89, 3, []), (6, .aload_n 0, 1, []), (7, .dup, 1, []), (8, .getfield 59, 3, [5, 1, 6]), (11, .iconst 1, 1, []), (12, .iload_n 1, 1, []), (13, .ishl, 1, []), (14, .ior, 1, []), (15, .putfield 59, 3, [5, 1, 6]), (18, .return_, 1, [])])
set_option maxRecDepth 20000 in
theorem ckX5_sell_0 : ckR mX5_sell 0 40 = true := by decide +kernel
set_option maxRecDepth 20000 in
theorem okX5_sell : okC mX5_sell := ⟨by decide +kernel, memT4 236 rfl rfl, okM.of (n := 1) (Or.inr rfl) (by decide) (fun j hj => by match j, hj with | 0, _ => exact ckX5_sell_0 | _ + 1, hj => exact absurd hj (by omega))⟩
set_option maxRecDepth 20000 in
def mX5_unsell : Mt := (yX5_unsell, cX5_unsell, 3, none, [5, 129, 2, 0, 1194, 1195], [(0, .aload_n 0, 1, []), (1, .iload_n 2, 1, []), (2, .aload_n 0, 1, []), (3, .getfield 9, 3, [5, 2, 8]), (6, .iload_n 1, 1, []), (7, .iaload, 1, []), (8, .iconst (-1), 1, []), (9, .invokevirtual 81, 3, []), (12, .aload_n 0, 1, []), (13, .dup, 1, []), (14, .getfield 59, 3, [5, 1, 6]), (17, .iconst 1, 1, []), (18, .iload_n 1, 1, []), (19, .ishl, 1, []), (20, .iconst (-1), 1, []), (21, .ixor, 1, []), (22, .iand, 1, []), (23, .putfield 59, 3, [5, 1, 6]), (26, .return_, 1, [])])
set_option maxRecDepth 20000 in
theorem ckX5_unsell_0 : ckR mX5_unsell 0 40 = true := by decide +kernel
set_option maxRecDepth 20000 in
theorem okX5_unsell : okC mX5_unsell := ⟨by decide +kernel, memT5 110 rfl rfl, okM.of (n := 1) (Or.inr rfl) (by decide) (fun j hj => by match j, hj with | 0, _ => exact ckX5_unsell_0 | _ + 1, hj => exact absurd hj (by omega))⟩
set_option maxRecDepth 20000 in
def mX5_trade : Mt := (yX5_trade, cX5_trade, 5, none, [5, 129, 4, 0, 1076, 1077], [(0, .aload_n 0, 1, []), (1, .iload_n 1, 1, []), (2, .iload_n 2, 1, []), (3, .invokevirtual 93, 3, []), (6, .aload_n 0, 1, []), (7, .getfield 30, 3, [5, 8, 29]), (10, .iload_n 3, 1, []), (11, .dup2, 1, []), (12, .iaload, 1, []), (13, .iload 4, 2, []), (15, .isub, 1, []), (16, .iastore, 1, []), (17, .aload_n 0, 1, []), (18, .getfield 42, 3, [5, 12, 44]), (21, .aload_n 0, 1, []), (22, .getfield 27, 3, [5, 7, 25]), (25, .iload_n 1, 1, []), (26, .iaload, 1, []), (27, .dup2, 1, []), (28, .iaload, 1, []), (29, .iload 4, 2, []), (31, .iadd, 1, []), (32, .iastore, 1, []), (33, .return_, 1, [])])
set_option maxRecDepth 20000 in
theorem ckX5_trade_0 : ckR mX5_trade 0 40 = true := by decide +kernel
set_option maxRecDepth 20000 in
theorem okX5_trade : okC mX5_trade := ⟨by decide +kernel, memT4 232 rfl rfl, okM.of (n := 1) (Or.inr rfl) (by decide) (fun j hj => by match j, hj with | 0, _ => exact ckX5_trade_0 | _ + 1, hj => exact absurd hj (by omega))⟩
set_option maxRecDepth 20000 in
def mX5_reckonLines : Mt := (yX5_reckonLines, cX5_reckonLines, 5, none, [5, 129, 0, 0, 1198, 1199], [(0, .aload_n 0, 1, []), (1, .getfield 39, 3, [5, 11, 41]), (4, .iconst 0, 1, []), (5, .invokestatic 96, 3, []), (8, .iconst 1, 1, []), (9, .istore_n 1, 1, []), (10, .iconst 0, 1, []), (11, .istore_n 2, 1, []), (12, .iload_n 2, 1, []), (13, .aload_n 0, 1, []), (14, .getfield 45, 3, [5, 0, 1]), (17, .if_icmp .ge 81, 3, [57]), (20, .iload_n 1, 1, []), (21, .ifCond .eq 77, 3, [57]), (24, .iconst 0, 1, []), (25, .istore_n 1, 1, []), (26, .iconst 0, 1, []), (27, .istore_n 3, 1, []), (28, .iload_n 3, 1, []), (29, .aload_n 0, 1, []), (30, .getfield 45, 3, [5, 0, 1]), (33, .if_icmp .ge 59, 3, [55]), (36, .aload_n 0, 1, []), (37, .aload_n 0, 1, []), (38, .getfield 33, 3, [5, 9, 35]), (41, .iload_n 3, 1, []), (42, .iaload, 1, []), (43, .invokevirtual 85, 3, []), (46, .aload_n 0, 1, []), (47, .aload_n 0, 1, []), (48, .getfield 36, 3, [5, 10, 38]), (51, .iload_n 3, 1, []), (52, .iaload, 1, []), (53, .invokevirtual 85, 3, []), (56, .ior, 1, []), (57, .istore 4, 2, []), (59, .iload_n 1, 1, []), (60, .iload 4, 2, []), (62, .aload_n 0, 1, []), (63, .getfield 39, 3, [5, 11, 41]), (66, .iload_n 3, 1, []), (67, .iaload, 1, []), (68, .if_icmp .eq 7, 3, [45]), (71, .iconst 1, 1, []), (72, .goto 4, 3, [46]), (75, .iconst 0, 1, []), (76, .ior, 1, []), (77, .istore_n 1, 1, []), (78, .aload_n 0, 1, []), (79, .getfield 39, 3, [5, 11, 41]), (82, .iload_n 3, 1, []), (83, .iload 4, 2, []), (85, .iastore, 1, []), (86, .iinc 3 1, 3, []), (89, .goto (-61), 3, [18]), (92, .iinc 2 1, 3, []), (95, .goto (-83), 3, [8]), (98, .return_, 1, [])])
set_option maxRecDepth 20000 in
theorem ckX5_reckonLines_0 : ckR mX5_reckonLines 0 40 = true := by decide +kernel
set_option maxRecDepth 20000 in
theorem ckX5_reckonLines_1 : ckR mX5_reckonLines 40 40 = true := by decide +kernel
set_option maxRecDepth 20000 in
theorem okX5_reckonLines : okC mX5_reckonLines := ⟨by decide +kernel, memT5 114 rfl rfl, okM.of (n := 2) (Or.inr rfl) (by decide) (fun j hj => by match j, hj with | 0, _ => exact ckX5_reckonLines_0 | 1, _ => exact ckX5_reckonLines_1 | _ + 2, hj => exact absurd hj (by omega))⟩
set_option maxRecDepth 20000 in
def mX5_descendants : Mt := (yX5_descendants, cX5_descendants, 4, (some .int), [5, 129, 1, 0, 1126, 1127], [(0, .iconst 0, 1, []), (1, .istore_n 2, 1, []), (2, .iconst 0, 1, []), (3, .istore_n 3, 1, []), (4, .iload_n 3, 1, []), (5, .aload_n 0, 1, []), (6, .getfield 45, 3, [5, 0, 1]), (9, .if_icmp .ge 24, 3, [21]), (12, .aload_n 0, 1, []), (13, .iload_n 1, 1, []), (14, .iload_n 3, 1, []), (15, .invokevirtual 102, 3, []), (18, .ifCond .eq 9, 3, [19]), (21, .iload_n 2, 1, []), (22, .iconst 1, 1, []), (23, .iload_n 3, 1, []), (24, .ishl, 1, []), (25, .ior, 1, []), (26, .istore_n 2, 1, []), (27, .iinc 3 1, 3, []), (30, .goto (-26), 3, [4]), (33, .iload_n 2, 1, []), (34, .ireturn, 1, [])])
set_option maxRecDepth 20000 in
theorem ckX5_descendants_0 : ckR mX5_descendants 0 40 = true := by decide +kernel
set_option maxRecDepth 20000 in
theorem okX5_descendants : okC mX5_descendants := ⟨by decide +kernel, memT5 42 rfl rfl, okM.of (n := 1) (Or.inr rfl) (by decide) (fun j hj => by match j, hj with | 0, _ => exact ckX5_descendants_0 | _ + 1, hj => exact absurd hj (by omega))⟩
set_option maxRecDepth 20000 in
def mX5_debtsOf : Mt := (yX5_debtsOf, cX5_debtsOf, 4, (some .int), [5, 129, 1, 0, 1134, 1135], [(0, .iconst 0, 1, []), (1, .istore_n 2, 1, []), (2, .iconst 0, 1, []), (3, .istore_n 3, 1, []), (4, .iload_n 3, 1, []), (5, .aload_n 0, 1, []), (6, .getfield 45, 3, [5, 0, 1]), (9, .if_icmp .ge 27, 3, [22]), (12, .aload_n 0, 1, []), (13, .iload_n 3, 1, []), (14, .iload_n 1, 1, []), (15, .invokevirtual 66, 3, []), (18, .ifCond .eq 12, 3, [20]), (21, .iload_n 2, 1, []), (22, .aload_n 0, 1, []), (23, .getfield 24, 3, [5, 6, 22]), (26, .iload_n 3, 1, []), (27, .iaload, 1, []), (28, .iadd, 1, []), (29, .istore_n 2, 1, []), (30, .iinc 3 1, 3, []), (33, .goto (-29), 3, [4]), (36, .iload_n 2, 1, []), (37, .ireturn, 1, [])])
set_option maxRecDepth 20000 in
theorem ckX5_debtsOf_0 : ckR mX5_debtsOf 0 40 = true := by decide +kernel
set_option maxRecDepth 20000 in
theorem okX5_debtsOf : okC mX5_debtsOf := ⟨by decide +kernel, memT5 50 rfl rfl, okM.of (n := 1) (Or.inr rfl) (by decide) (fun j hj => by match j, hj with | 0, _ => exact ckX5_debtsOf_0 | _ + 1, hj => exact absurd hj (by omega))⟩
set_option maxRecDepth 20000 in
def mX5_quarters : Mt := (yX5_quarters, cX5_quarters, 6, (some .int), [5, 129, 2, 0, 1143, 1144], [(0, .iconst 0, 1, []), (1, .istore_n 3, 1, []), (2, .iconst 0, 1, []), (3, .istore 4, 2, []), (5, .iload 4, 2, []), (7, .iconst 2, 1, []), (8, .if_icmp .ge 41, 3, [30]), (11, .aload_n 0, 1, []), (12, .iload_n 1, 1, []), (13, .iload 4, 2, []), (15, .invokevirtual 62, 3, []), (18, .istore 5, 2, []), (20, .iload 5, 2, []), (22, .iconst (-1), 1, []), (23, .if_icmp .eq 20, 3, [28]), (26, .iload_n 3, 1, []), (27, .iload_n 2, 1, []), (28, .iload 5, 2, []), (30, .ishr, 1, []), (31, .iconst 1, 1, []), (32, .iand, 1, []), (33, .aload_n 0, 1, []), (34, .iload 5, 2, []), (36, .iload_n 2, 1, []), (37, .invokevirtual 105, 3, []), (40, .iadd, 1, []), (41, .iadd, 1, []), (42, .istore_n 3, 1, []), (43, .iinc 4 1, 3, []), (46, .goto (-41), 3, [4]), (49, .iload_n 3, 1, []), (50, .ireturn, 1, [])])
set_option maxRecDepth 20000 in
theorem ckX5_quarters_0 : ckR mX5_quarters 0 40 = true := by decide +kernel
set_option maxRecDepth 20000 in
theorem okX5_quarters : okC mX5_quarters := ⟨by decide +kernel, memT5 59 rfl rfl, okM.of (n := 1) (Or.inr rfl) (by decide) (fun j hj => by match j, hj with | 0, _ => exact ckX5_quarters_0 | _ + 1, hj => exact absurd hj (by omega))⟩
set_option maxRecDepth 20000 in
def mX5_rankedParents : Mt := (yX5_rankedParents, cX5_rankedParents, 4, (some .int), [5, 129, 2, 0, 1148, 32], [(0, .iconst 0, 1, []), (1, .istore_n 3, 1, []), (2, .aload_n 0, 1, []), (3, .getfield 33, 3, [5, 9, 35]), (6, .iload_n 1, 1, []), (7, .iaload, 1, []), (8, .iconst (-1), 1, []), (9, .if_icmp .eq 16, 3, [19]), (12, .iload_n 3, 1, []), (13, .iload_n 2, 1, []), (14, .aload_n 0, 1, []), (15, .getfield 33, 3, [5, 9, 35]), (18, .iload_n 1, 1, []), (19, .iaload, 1, []), (20, .ishr, 1, []), (21, .iconst 1, 1, []), (22, .iand, 1, []), (23, .iadd, 1, []), (24, .istore_n 3, 1, []), (25, .aload_n 0, 1, []), (26, .getfield 36, 3, [5, 10, 38]), (29, .iload_n 1, 1, []), (30, .iaload, 1, []), (31, .iconst (-1), 1, []), (32, .if_icmp .eq 16, 3, [36]), (35, .iload_n 3, 1, []), (36, .iload_n 2, 1, []), (37, .aload_n 0, 1, []), (38, .getfield 36, 3, [5, 10, 38]), (41, .iload_n 1, 1, []), (42, .iaload, 1, []), (43, .ishr, 1, []), (44, .iconst 1, 1, []), (45, .iand, 1, []), (46, .iadd, 1, []), (47, .istore_n 3, 1, []), (48, .iload_n 3, 1, []), (49, .ireturn, 1, [])])
set_option maxRecDepth 20000 in
theorem ckX5_rankedParents_0 : ckR mX5_rankedParents 0 40 = true := by decide +kernel
set_option maxRecDepth 20000 in
theorem okX5_rankedParents : okC mX5_rankedParents := ⟨by decide +kernel, memT5 63 rfl rfl, okM.of (n := 1) (Or.inr rfl) (by decide) (fun j hj => by match j, hj with | 0, _ => exact ckX5_rankedParents_0 | _ + 1, hj => exact absurd hj (by omega))⟩
set_option maxRecDepth 20000 in
def mX5_isGrand : Mt := (yX5_isGrand, cX5_isGrand, 3, (some .boolean), [5, 129, 2, 0, 1151, 1152], [(0, .aload_n 0, 1, []), (1, .aload_n 0, 1, []), (2, .getfield 33, 3, [5, 9, 35]), (5, .iload_n 1, 1, []), (6, .iaload, 1, []), (7, .invokevirtual 85, 3, []), (10, .iload_n 2, 1, []), (11, .iand, 1, []), (12, .ifCond .eq 22, 3, [20]), (15, .aload_n 0, 1, []), (16, .aload_n 0, 1, []), (17, .getfield 36, 3, [5, 10, 38]), (20, .iload_n 1, 1, []), (21, .iaload, 1, []), (22, .invokevirtual 85, 3, []), (25, .iload_n 2, 1, []), (26, .iand, 1, []), (27, .ifCond .eq 7, 3, [20]), (30, .iconst 1, 1, []), (31, .goto 4, 3, [21]), (34, .iconst 0, 1, []), (35, .ireturn, 1, [])])
set_option maxRecDepth 20000 in
theorem ckX5_isGrand_0 : ckR mX5_isGrand 0 40 = true := by decide +kernel
set_option maxRecDepth 20000 in
theorem okX5_isGrand : okC mX5_isGrand := ⟨by decide +kernel, memT5 67 rfl rfl, okM.of (n := 1) (Or.inr rfl) (by decide) (fun j hj => by match j, hj with | 0, _ => exact ckX5_isGrand_0 | _ + 1, hj => exact absurd hj (by omega))⟩
set_option maxRecDepth 20000 in
def mX5_forgedChildren : Mt := (yX5_forgedChildren, cX5_forgedChildren, 6, (some .int), [5, 129, 1, 0, 1175, 1176], [(0, .iconst 0, 1, []), (1, .istore_n 2, 1, []), (2, .iconst 0, 1, []), (3, .istore_n 3, 1, []), (4, .iload_n 3, 1, []), (5, .aload_n 0, 1, []), (6, .getfield 45, 3, [5, 0, 1]), (9, .if_icmp .ge 89, 3, [58]), (12, .aload_n 0, 1, []), (13, .getfield 33, 3, [5, 9, 35]), (16, .iload_n 3, 1, []), (17, .iaload, 1, []), (18, .iconst (-1), 1, []), (19, .if_icmp .eq 18, 3, [23]), (22, .aload_n 0, 1, []), (23, .aload_n 0, 1, []), (24, .getfield 33, 3, [5, 9, 35]), (27, .iload_n 3, 1, []), (28, .iaload, 1, []), (29, .iload_n 3, 1, []), (30, .iload_n 1, 1, []), (31, .invokevirtual 77, 3, []), (34, .ifCond .eq 7, 3, [25]), (37, .iconst 1, 1, []), (38, .goto 4, 3, [26]), (41, .iconst 0, 1, []), (42, .istore 4, 2, []), (44, .aload_n 0, 1, []), (45, .getfield 36, 3, [5, 10, 38]), (48, .iload_n 3, 1, []), (49, .iaload, 1, []), (50, .iconst (-1), 1, []), (51, .if_icmp .eq 18, 3, [42]), (54, .aload_n 0, 1, []), (55, .aload_n 0, 1, []), (56, .getfield 36, 3, [5, 10, 38]), (59, .iload_n 3, 1, []), (60, .iaload, 1, []), (61, .iload_n 3, 1, []), (62, .iload_n 1, 1, []), (63, .invokevirtual 77, 3, []), (66, .ifCond .eq 7, 3, [44]), (69, .iconst 1, 1, []), (70, .goto 4, 3, [45]), (73, .iconst 0, 1, []), (74, .istore 5, 2, []), (76, .iload 4, 2, []), (78, .ifCond .eq 8, 3, [50]), (81, .iload 5, 2, []), (83, .ifCond .ne 9, 3, [56]), (86, .iload_n 2, 1, []), (87, .iconst 1, 1, []), (88, .iload_n 3, 1, []), (89, .ishl, 1, []), (90, .ior, 1, []), (91, .istore_n 2, 1, []), (92, .iinc 3 1, 3, []), (95, .goto (-91), 3, [4]), (98, .iload_n 2, 1, []), (99, .ireturn, 1, [])])
set_option maxRecDepth 20000 in
theorem ckX5_forgedChildren_0 : ckR mX5_forgedChildren 0 40 = true := by decide +kernel
set_option maxRecDepth 20000 in
theorem ckX5_forgedChildren_1 : ckR mX5_forgedChildren 40 40 = true := by decide +kernel
set_option maxRecDepth 20000 in
theorem okX5_forgedChildren : okC mX5_forgedChildren := ⟨by decide +kernel, memT5 91 rfl rfl, okM.of (n := 2) (Or.inr rfl) (by decide) (fun j hj => by match j, hj with | 0, _ => exact ckX5_forgedChildren_0 | 1, _ => exact ckX5_forgedChildren_1 | _ + 2, hj => exact absurd hj (by omega))⟩
set_option maxRecDepth 20000 in
def mX6_init : Mt := (yX6_init, cX6_init, 2, none, [6, 131, 1, 2, 346], [(0, .aload_n 0, 1, []), (1, .invokespecial 3, 3, []), (4, .aload_n 0, 1, []), (5, .new 9, 3, [8, 349, 350, 132]), (8, .dup, 1, []), (9, .bipush 12, 2, []), (11, .sipush 400, 3, []), (14, .invokespecial 11, 3, []), (17, .putfield 14, 3, [6, 1, 118]), (20, .aload_n 0, 1, []), (21, .iconst (-1), 1, []), (22, .putfield 20, 3, [6, 2, 120]), (25, .aload_n 0, 1, []), (26, .aload_n 1, 1, []), (27, .putfield 24, 3, [6, 0, 117]), (30, .return_, 1, [])])
set_option maxRecDepth 20000 in
theorem ckX6_init_0 : ckR mX6_init 0 40 = true := by decide +kernel
set_option maxRecDepth 20000 in
theorem okX6_init : okC mX6_init := ⟨by decide +kernel, memT1 221 rfl rfl, okM.of (n := 1) (Or.inr rfl) (by decide) (fun j hj => by match j, hj with | 0, _ => exact ckX6_init_0 | _ + 1, hj => exact absurd hj (by omega))⟩
set_option maxRecDepth 20000 in
def mX6_read : Mt := (yX6_read, cX6_read, 4, (some .boolean), [6, 131, 1, 0, 804, 805], [(0, .aload_n 0, 1, []), (1, .iload_n 1, 1, []), (2, .putfield 28, 3, [6, 3, 122]), (5, .aload_n 0, 1, []), (6, .iconst (-1), 1, []), (7, .putfield 20, 3, [6, 2, 120]), (10, .aload_n 0, 1, []), (11, .iconst 0, 1, []), (12, .putfield 32, 3, [6, 4, 123]), (15, .aload_n 0, 1, []), (16, .iconst 0, 1, []), (17, .putfield 35, 3, [6, 5, 124]), (20, .aload_n 0, 1, []), (21, .getfield 14, 3, [6, 1, 118]), (24, .invokevirtual 38, 3, []), (27, .aload_n 0, 1, []), (28, .getfield 24, 3, [6, 0, 117]), (31, .invokevirtual 41, 3, []), (34, .iconst 1, 1, []), (35, .istore_n 2, 1, []), (36, .iconst 0, 1, []), (37, .istore_n 3, 1, []), (38, .iload_n 3, 1, []), (39, .bipush 12, 2, []), (41, .if_icmp .ge 68, 3, [55]), (44, .iload_n 2, 1, []), (45, .ifCond .eq 64, 3, [55]), (48, .aload_n 0, 1, []), (49, .getfield 28, 3, [6, 3, 122]), (52, .ifCond .eq 10, 3, [33]), (55, .aload_n 0, 1, []), (56, .invokevirtual 46, 3, []), (59, .goto 7, 3, [35]), (62, .aload_n 0, 1, []), (63, .invokevirtual 49, 3, []), (66, .aload_n 0, 1, []), (67, .sipush 264, 3, []), (70, .invokevirtual 52, 3, []), (73, .ifCond .eq 23, 3, [49]), (76, .aload_n 0, 1, []), (77, .getfield 14, 3, [6, 1, 118]), (80, .iconst 3, 1, []), (81, .invokevirtual 56, 3, []), (84, .aload_n 0, 1, []), (85, .invokevirtual 60, 3, []), (88, .aload_n 0, 1, []), (89, .getfield 14, 3, [6, 1, 118]), (92, .iconst 3, 1, []), (93, .invokevirtual 63, 3, []), (96, .aload_n 0, 1, []), (97, .bipush 59, 2, []), (99, .invokevirtual 52, 3, []), (102, .istore_n 2, 1, []), (103, .iinc 3 1, 3, []), (106, .goto (-68), 3, [22]), (109, .iload_n 2, 1, []), (110, .ifCond .ne 14, 3, [62]), (113, .aload_n 0, 1, []), (114, .getfield 24, 3, [6, 0, 117]), (117, .getfield 66, 3, [10, 6, 92]), (120, .iconst (-1), 1, []), (121, .if_icmp .eq 7, 3, [64]), (124, .aload_n 0, 1, []), (125, .invokevirtual 69, 3, []), (128, .aload_n 0, 1, []), (129, .getfield 20, 3, [6, 2, 120]), (132, .iconst (-1), 1, []), (133, .if_icmp .ne 7, 3, [70]), (136, .iconst 1, 1, []), (137, .goto 4, 3, [71]), (140, .iconst 0, 1, []), (141, .ireturn, 1, [])])
set_option maxRecDepth 20000 in
theorem ckX6_read_0 : ckR mX6_read 0 40 = true := by decide +kernel
set_option maxRecDepth 20000 in
theorem ckX6_read_1 : ckR mX6_read 40 40 = true := by decide +kernel
set_option maxRecDepth 20000 in
theorem okX6_read : okC mX6_read := ⟨by decide +kernel, memT3 200 rfl rfl, okM.of (n := 2) (Or.inr rfl) (by decide) (fun j hj => by match j, hj with | 0, _ => exact ckX6_read_0 | 1, _ => exact ckX6_read_1 | _ + 2, hj => exact absurd hj (by omega))⟩
set_option maxRecDepth 20000 in
def mX6_blame : Mt := (yX6_blame, cX6_blame, 1, none, [6, 131, 0, 0, 926, 15], [(0, .aload_n 0, 1, []), (1, .getfield 20, 3, [6, 2, 120]), (4, .iconst (-1), 1, []), (5, .if_icmp .ne 14, 3, [9]), (8, .aload_n 0, 1, []), (9, .aload_n 0, 1, []), (10, .getfield 24, 3, [6, 0, 117]), (13, .getfield 72, 3, [10, 7, 93]), (16, .putfield 20, 3, [6, 2, 120]), (19, .return_, 1, [])])
set_option maxRecDepth 20000 in
theorem ckX6_blame_0 : ckR mX6_blame 0 40 = true := by decide +kernel
set_option maxRecDepth 20000 in
theorem okX6_blame : okC mX6_blame := ⟨by decide +kernel, memT4 81 rfl rfl, okM.of (n := 1) (Or.inr rfl) (by decide) (fun j hj => by match j, hj with | 0, _ => exact ckX6_blame_0 | _ + 1, hj => exact absurd hj (by omega))⟩
set_option maxRecDepth 20000 in
def mX6_sees : Mt := (yX6_sees, cX6_sees, 2, (some .boolean), [6, 131, 1, 0, 950, 20], [(0, .aload_n 0, 1, []), (1, .getfield 20, 3, [6, 2, 120]), (4, .iconst (-1), 1, []), (5, .if_icmp .ne 18, 3, [11]), (8, .aload_n 0, 1, []), (9, .getfield 24, 3, [6, 0, 117]), (12, .getfield 66, 3, [10, 6, 92]), (15, .iload_n 1, 1, []), (16, .if_icmp .ne 7, 3, [11]), (19, .iconst 1, 1, []), (20, .goto 4, 3, [12]), (23, .iconst 0, 1, []), (24, .ireturn, 1, [])])
set_option maxRecDepth 20000 in
theorem ckX6_sees_0 : ckR mX6_sees 0 40 = true := by decide +kernel
set_option maxRecDepth 20000 in
theorem okX6_sees : okC mX6_sees := ⟨by decide +kernel, memT4 105 rfl rfl, okM.of (n := 1) (Or.inr rfl) (by decide) (fun j hj => by match j, hj with | 0, _ => exact ckX6_sees_0 | _ + 1, hj => exact absurd hj (by omega))⟩
set_option maxRecDepth 20000 in
def mX6_took : Mt := (yX6_took, cX6_took, 3, (some .boolean), [6, 131, 1, 0, 893, 9], [(0, .aload_n 0, 1, []), (1, .getfield 20, 3, [6, 2, 120]), (4, .iconst (-1), 1, []), (5, .if_icmp .ne 18, 3, [11]), (8, .aload_n 0, 1, []), (9, .getfield 24, 3, [6, 0, 117]), (12, .getfield 66, 3, [10, 6, 92]), (15, .iload_n 1, 1, []), (16, .if_icmp .ne 7, 3, [11]), (19, .iconst 1, 1, []), (20, .goto 4, 3, [12]), (23, .iconst 0, 1, []), (24, .istore_n 2, 1, []), (25, .iload_n 2, 1, []), (26, .ifCond .eq 10, 3, [18]), (29, .aload_n 0, 1, []), (30, .getfield 24, 3, [6, 0, 117]), (33, .invokevirtual 75, 3, []), (36, .iload_n 2, 1, []), (37, .ireturn, 1, [])])
set_option maxRecDepth 20000 in
theorem ckX6_took_0 : ckR mX6_took 0 40 = true := by decide +kernel
set_option maxRecDepth 20000 in
theorem okX6_took : okC mX6_took := ⟨by decide +kernel, memT4 48 rfl rfl, okM.of (n := 1) (Or.inr rfl) (by decide) (fun j hj => by match j, hj with | 0, _ => exact ckX6_took_0 | _ + 1, hj => exact absurd hj (by omega))⟩
set_option maxRecDepth 20000 in
def mX6_need : Mt := (yX6_need, cX6_need, 2, none, [6, 131, 1, 0, 930, 16], [(0, .aload_n 0, 1, []), (1, .iload_n 1, 1, []), (2, .invokevirtual 52, 3, []), (5, .ifCond .ne 7, 3, [6]), (8, .aload_n 0, 1, []), (9, .invokevirtual 69, 3, []), (12, .return_, 1, [])])
set_option maxRecDepth 20000 in
theorem ckX6_need_0 : ckR mX6_need 0 40 = true := by decide +kernel
set_option maxRecDepth 20000 in
theorem okX6_need : okC mX6_need := ⟨by decide +kernel, memT4 85 rfl rfl, okM.of (n := 1) (Or.inr rfl) (by decide) (fun j hj => by match j, hj with | 0, _ => exact ckX6_need_0 | _ + 1, hj => exact absurd hj (by omega))⟩
set_option maxRecDepth 20000 in
def mX6_neededNumber : Mt := (yX6_neededNumber, cX6_neededNumber, 4, (some .int), [6, 131, 2, 0, 934, 17], [(0, .aload_n 0, 1, []), (1, .getfield 24, 3, [6, 0, 117]), (4, .getfield 66, 3, [10, 6, 92]), (7, .sipush 1000, 3, []), (10, .isub, 1, []), (11, .istore_n 3, 1, []), (12, .aload_n 0, 1, []), (13, .getfield 20, 3, [6, 2, 120]), (16, .iconst (-1), 1, []), (17, .if_icmp .ne 13, 3, [16]), (20, .iload_n 3, 1, []), (21, .iload_n 1, 1, []), (22, .if_icmp .lt 8, 3, [16]), (25, .iload_n 3, 1, []), (26, .iload_n 2, 1, []), (27, .if_icmp .le 9, 3, [20]), (30, .aload_n 0, 1, []), (31, .invokevirtual 69, 3, []), (34, .iload_n 1, 1, []), (35, .ireturn, 1, []), (36, .aload_n 0, 1, []), (37, .getfield 24, 3, [6, 0, 117]), (40, .invokevirtual 75, 3, []), (43, .iload_n 3, 1, []), (44, .ireturn, 1, [])])
set_option maxRecDepth 20000 in
theorem ckX6_neededNumber_0 : ckR mX6_neededNumber 0 40 = true := by decide +kernel
set_option maxRecDepth 20000 in
theorem okX6_neededNumber : okC mX6_neededNumber := ⟨by decide +kernel, memT4 89 rfl rfl, okM.of (n := 1) (Or.inr rfl) (by decide) (fun j hj => by match j, hj with | 0, _ => exact ckX6_neededNumber_0 | _ + 1, hj => exact absurd hj (by omega))⟩
set_option maxRecDepth 20000 in
def mX6_lawHead : Mt := (yX6_lawHead, cX6_lawHead, 1, none, [6, 131, 0, 0, 962, 21], [(0, .aload_n 0, 1, []), (1, .sipush 257, 3, []), (4, .invokevirtual 52, 3, []), (7, .ifCond .eq 19, 3, [12]), (10, .aload_n 0, 1, []), (11, .getfield 14, 3, [6, 1, 118]), (14, .iconst 0, 1, []), (15, .invokevirtual 78, 3, []), (18, .aload_n 0, 1, []), (19, .iconst 0, 1, []), (20, .invokevirtual 81, 3, []), (23, .goto 54, 3, [35]), (26, .aload_n 0, 1, []), (27, .sipush 258, 3, []), (30, .invokevirtual 52, 3, []), (33, .ifCond .eq 19, 3, [24]), (36, .aload_n 0, 1, []), (37, .getfield 14, 3, [6, 1, 118]), (40, .iconst 1, 1, []), (41, .invokevirtual 78, 3, []), (44, .aload_n 0, 1, []), (45, .iconst 0, 1, []), (46, .invokevirtual 81, 3, []), (49, .goto 28, 3, [35]), (52, .aload_n 0, 1, []), (53, .sipush 259, 3, []), (56, .invokevirtual 52, 3, []), (59, .ifCond .eq 14, 3, [33]), (62, .aload_n 0, 1, []), (63, .getfield 14, 3, [6, 1, 118]), (66, .iconst 2, 1, []), (67, .invokevirtual 78, 3, []), (70, .goto 7, 3, [35]), (73, .aload_n 0, 1, []), (74, .invokevirtual 69, 3, []), (77, .return_, 1, [])])
set_option maxRecDepth 20000 in
theorem ckX6_lawHead_0 : ckR mX6_lawHead 0 40 = true := by decide +kernel
set_option maxRecDepth 20000 in
theorem okX6_lawHead : okC mX6_lawHead := ⟨by decide +kernel, memT4 117 rfl rfl, okM.of (n := 1) (Or.inr rfl) (by decide) (fun j hj => by match j, hj with | 0, _ => exact ckX6_lawHead_0 | _ + 1, hj => exact absurd hj (by omega))⟩
