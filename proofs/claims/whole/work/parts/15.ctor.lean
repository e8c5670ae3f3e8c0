/-! the constructors: cells come one behind another, from 'base' on; a machine that only counts -/
abbrev CCell : Type := Nat × List Int × List (Option Nat)
abbrev CWd : Type := List CCell
def c00 : CCell := (8, [], [])
def fvalC (g : GC) (c : CCell) (ci k : Nat) : Value := match fknd ci k with
  | 2 => .long (i64 (c.2.1.getD k 0))
  | 3 => va_rf ((c.2.2.getD k none).map g.2.2)
  | _ => .int (i32 (c.2.1.getD k 0))
def encC (g : GC) (c : CCell) : va_E := match c.1 with
  | 0 => .inl (g.2.1.1, c.2.1.length, .inl (fun j => i32 (c.2.1.getD j 0)))
  | 1 => .inl (g.2.1.2.1, c.2.1.length, .inl (fun j => i32 (c.2.1.getD j 0)))
  | 2 => .inl (g.2.1.2.2.1, c.2.2.length, .inr (.inr (.inr (.inr (fun j => (c.2.2.getD j none).map g.2.2)))))
  | 3 => .inl (g.2.1.2.2.2, c.2.2.length, .inr (.inr (.inr (.inr (fun j => (c.2.2.getD j none).map g.2.2)))))
  | t => .inr (t - 10, (List.range (nfld (t - 10))).map (fvalC g c (t - 10)))
def slC (c : CCell) : Nat := match c.1 with
  | 0 => c.2.1.length
  | 1 => c.2.1.length
  | 2 => c.2.2.length
  | 3 => c.2.2.length
  | t => nfld (t - 10)
def totS (cs : CWd) : Nat := (cs.map slC).sum
def wsC (g : GC) (cs : CWd) : va_W := (List.range cs.length).map (fun o => (g.2.2 o, encC g (cs.getD o c00)))
def ci_0 : List (Nat × Instr × Nat × List Nat × Int) := [(0, .aload_n 0, 1, [], 0), (1, .invokespecial 1, 3, [], 0), (4, .aload_n 0, 1, [], 0), (5, .iconst 0, 1, [], 0), (6, .putfield 7, 3, [0, 0, 0], 0), (9, .return_, 1, [], 0)]
def ci_1 : List (Nat × Instr × Nat × List Nat × Int) := [(0, .aload_n 0, 1, [], 0), (1, .invokespecial 3, 3, [], 0), (4, .aload_n 0, 1, [], 0), (5, .new 9, 3, [8], 0), (8, .dup, 1, [], 0), (9, .invokespecial 11, 3, [8], 0), (12, .putfield 12, 3, [1, 0, 3], 0), (15, .aload_n 0, 1, [], 0), (16, .bipush (-6), 2, [], (-6)), (18, .putfield 18, 3, [1, 1, 0], 0), (21, .aload_n 0, 1, [], 0), (22, .iconst 0, 1, [], 0), (23, .putfield 22, 3, [1, 2, 0], 0), (26, .aload_n 0, 1, [], 0), (27, .bipush (-6), 2, [], (-6)), (29, .putfield 25, 3, [1, 3, 0], 0), (32, .aload_n 0, 1, [], 0), (33, .bipush (-6), 2, [], (-6)), (35, .putfield 28, 3, [1, 4, 0], 0), (38, .aload_n 0, 1, [], 0), (39, .bipush (-6), 2, [], (-6)), (41, .putfield 31, 3, [1, 5, 0], 0), (44, .aload_n 0, 1, [], 0), (45, .iconst 0, 1, [], 0), (46, .putfield 34, 3, [1, 6, 0], 0), (49, .aload_n 0, 1, [], 0), (50, .iconst 0, 1, [], 0), (51, .putfield 37, 3, [1, 7, 0], 0), (54, .return_, 1, [], 0)]
def ci_2 : List (Nat × Instr × Nat × List Nat × Int) := [(0, .aload_n 0, 1, [], 0), (1, .invokespecial 3, 3, [], 0), (4, .aload_n 0, 1, [], 0), (5, .iconst 0, 1, [], 0), (6, .putfield 9, 3, [2, 0, 0], 0), (9, .aload_n 0, 1, [], 0), (10, .iconst 0, 1, [], 0), (11, .putfield 15, 3, [2, 1, 0], 0), (14, .return_, 1, [], 0)]
def ci_3 : List (Nat × Instr × Nat × List Nat × Int) := [(0, .aload_n 0, 1, [], 0), (1, .invokespecial 3, 3, [], 0), (4, .aload_n 0, 1, [], 0), (5, .bipush (-6), 2, [], (-6)), (7, .putfield 9, 3, [3, 0, 0], 0), (10, .aload_n 0, 1, [], 0), (11, .bipush (-6), 2, [], (-6)), (13, .putfield 15, 3, [3, 1, 0], 0), (16, .aload_n 0, 1, [], 0), (17, .bipush (-6), 2, [], (-6)), (19, .putfield 18, 3, [3, 2, 0], 0), (22, .aload_n 0, 1, [], 0), (23, .bipush (-6), 2, [], (-6)), (25, .putfield 21, 3, [3, 3, 0], 0), (28, .aload_n 0, 1, [], 0), (29, .lconst 0, 1, [], 0), (30, .putfield 24, 3, [3, 4, 2], 0), (33, .aload_n 0, 1, [], 0), (34, .lconst 1, 1, [], 1), (35, .putfield 28, 3, [3, 5, 2], 0), (38, .return_, 1, [], 0)]
def ci_4 : List (Nat × Instr × Nat × List Nat × Int) := [(0, .aload_n 0, 1, [], 0), (1, .invokespecial 3, 3, [], 0), (4, .aload_n 0, 1, [], 0), (5, .bipush (-6), 2, [], (-6)), (7, .putfield 9, 3, [4, 0, 0], 0), (10, .aload_n 0, 1, [], 0), (11, .bipush (-6), 2, [], (-6)), (13, .putfield 15, 3, [4, 1, 0], 0), (16, .aload_n 0, 1, [], 0), (17, .bipush (-6), 2, [], (-6)), (19, .putfield 18, 3, [4, 2, 0], 0), (22, .return_, 1, [], 0)]
def ci_5 : List (Nat × Instr × Nat × List Nat × Int) := [(0, .aload_n 0, 1, [], 0), (1, .invokespecial 3, 3, [], 0), (4, .aload_n 0, 1, [], 0), (5, .bipush 60, 2, [], 60), (7, .newarray .int, 2, [], 0), (9, .putfield 9, 3, [5, 0, 3], 0), (12, .aload_n 0, 1, [], 0), (13, .iconst 0, 1, [], 0), (14, .putfield 15, 3, [5, 1, 0], 0), (17, .return_, 1, [], 0)]
def ci_6 : List (Nat × Instr × Nat × List Nat × Int) := [(0, .aload_n 0, 1, [], 0), (1, .invokespecial 3, 3, [], 0), (4, .return_, 1, [], 0)]
def ci_7 : List (Nat × Instr × Nat × List Nat × Int) := [(0, .aload_n 0, 1, [], 0), (1, .invokespecial 3, 3, [], 0), (4, .aload_n 0, 1, [], 0), (5, .sipush 384, 3, [], 384), (8, .newarray .int, 2, [], 0), (10, .putfield 11, 3, [7, 0, 3], 0), (13, .aload_n 0, 1, [], 0), (14, .bipush 6, 2, [], 6), (16, .newarray .int, 2, [], 0), (18, .putfield 15, 3, [7, 1, 3], 0), (21, .aload_n 0, 1, [], 0), (22, .iconst 0, 1, [], 0), (23, .putfield 18, 3, [7, 2, 0], 0), (26, .aload_n 0, 1, [], 0), (27, .bipush (-6), 2, [], (-6)), (29, .putfield 22, 3, [7, 3, 0], 0), (32, .return_, 1, [], 0)]
def ci_8 : List (Nat × Instr × Nat × List Nat × Int) := [(0, .aload_n 0, 1, [], 0), (1, .invokespecial 3, 3, [], 0), (4, .aload_n 0, 1, [], 0), (5, .iconst 4, 1, [], 4), (6, .putfield 9, 3, [8, 0, 0], 0), (9, .aload_n 0, 1, [], 0), (10, .iconst 1, 1, [], 1), (11, .putfield 15, 3, [8, 1, 0], 0), (14, .aload_n 0, 1, [], 0), (15, .iconst 3, 1, [], 3), (16, .putfield 18, 3, [8, 2, 0], 0), (19, .aload_n 0, 1, [], 0), (20, .iconst 0, 1, [], 0), (21, .putfield 21, 3, [8, 3, 0], 0), (24, .aload_n 0, 1, [], 0), (25, .bipush 15, 2, [], 15), (27, .newarray .int, 2, [], 0), (29, .putfield 24, 3, [8, 4, 3], 0), (32, .aload_n 0, 1, [], 0), (33, .bipush 15, 2, [], 15), (35, .newarray .int, 2, [], 0), (37, .putfield 28, 3, [8, 5, 3], 0), (40, .aload_n 0, 1, [], 0), (41, .bipush 45, 2, [], 45), (43, .newarray .int, 2, [], 0), (45, .putfield 31, 3, [8, 6, 3], 0), (48, .aload_n 0, 1, [], 0), (49, .bipush 6, 2, [], 6), (51, .newarray .int, 2, [], 0), (53, .putfield 34, 3, [8, 7, 3], 0), (56, .aload_n 0, 1, [], 0), (57, .bipush 6, 2, [], 6), (59, .newarray .int, 2, [], 0), (61, .putfield 37, 3, [8, 8, 3], 0), (64, .aload_n 0, 1, [], 0), (65, .bipush 30, 2, [], 30), (67, .newarray .int, 2, [], 0), (69, .putfield 40, 3, [8, 9, 3], 0), (72, .aload_n 0, 1, [], 0), (73, .bipush 6, 2, [], 6), (75, .newarray .int, 2, [], 0), (77, .putfield 43, 3, [8, 10, 3], 0), (80, .aload_n 0, 1, [], 0), (81, .bipush 6, 2, [], 6), (83, .newarray .int, 2, [], 0), (85, .putfield 46, 3, [8, 11, 3], 0), (88, .aload_n 0, 1, [], 0), (89, .iconst 4, 1, [], 4), (90, .anewarray 49, 3, [2], 0), (93, .putfield 51, 3, [8, 12, 3], 0), (96, .aload_n 0, 1, [], 0), (97, .new 49, 3, [6], 0), (100, .dup, 1, [], 0), (101, .invokespecial 55, 3, [6], 0), (104, .putfield 56, 3, [8, 13, 3], 0), (107, .iconst 0, 1, [], 0), (108, .istore_n 1, 1, [], 0), (109, .iload_n 1, 1, [], 0), (110, .aload_n 0, 1, [], 0), (111, .getfield 51, 3, [8, 12, 3], 0), (114, .arraylength, 1, [], 0), (115, .if_icmp .ge 22, 3, [137], 0), (118, .aload_n 0, 1, [], 0), (119, .getfield 51, 3, [8, 12, 3], 0), (122, .iload_n 1, 1, [], 0), (123, .new 49, 3, [6], 0), (126, .dup, 1, [], 0), (127, .invokespecial 55, 3, [6], 0), (130, .aastore, 1, [], 0), (131, .iinc 1 1, 3, [], 1), (134, .goto (-25), 3, [109], 0), (137, .return_, 1, [], 0)]
def ci_9 : List (Nat × Instr × Nat × List Nat × Int) := [(0, .aload_n 0, 1, [], 0), (1, .invokespecial 3, 3, [], 0), (4, .aload_n 0, 1, [], 0), (5, .bipush 72, 2, [], 72), (7, .newarray .int, 2, [], 0), (9, .putfield 11, 3, [9, 0, 3], 0), (12, .return_, 1, [], 0)]
def ci_10 : List (Nat × Instr × Nat × List Nat × Int) := [(0, .aload_n 0, 1, [], 0), (1, .invokespecial 1, 3, [], 0), (4, .aload_n 0, 1, [], 0), (5, .new 7, 3, [8], 0), (8, .dup, 1, [], 0), (9, .invokespecial 9, 3, [8], 0), (12, .putfield 10, 3, [10, 0, 3], 0), (15, .aload_n 0, 1, [], 0), (16, .iconst 2, 1, [], 2), (17, .anewarray 7, 3, [3], 0), (20, .putfield 16, 3, [10, 1, 3], 0), (23, .aload_n 0, 1, [], 0), (24, .iconst 2, 1, [], 2), (25, .newarray .boolean, 2, [], 0), (27, .putfield 20, 3, [10, 2, 3], 0), (30, .aload_n 0, 1, [], 0), (31, .new 24, 3, [5], 0), (34, .dup, 1, [], 0), (35, .invokespecial 26, 3, [5], 0), (38, .putfield 27, 3, [10, 3, 3], 0), (41, .aload_n 0, 1, [], 0), (42, .new 31, 3, [1], 0), (45, .dup, 1, [], 0), (46, .invokespecial 33, 3, [1], 0), (49, .putfield 34, 3, [10, 4, 3], 0), (52, .aload_n 0, 1, [], 0), (53, .new 38, 3, [9], 0), (56, .dup, 1, [], 0), (57, .invokespecial 40, 3, [9], 0), (60, .putfield 41, 3, [10, 5, 3], 0), (63, .aload_n 0, 1, [], 0), (64, .new 45, 3, [3], 0), (67, .dup, 1, [], 0), (68, .invokespecial 47, 3, [3], 0), (71, .putfield 48, 3, [10, 6, 3], 0), (74, .aload_n 0, 1, [], 0), (75, .new 52, 3, [7], 0), (78, .dup, 1, [], 0), (79, .invokespecial 54, 3, [7], 0), (82, .putfield 55, 3, [10, 7, 3], 0), (85, .aload_n 0, 1, [], 0), (86, .new 59, 3, [4], 0), (89, .dup, 1, [], 0), (90, .invokespecial 61, 3, [4], 0), (93, .putfield 62, 3, [10, 8, 3], 0), (96, .aload_n 0, 1, [], 0), (97, .new 66, 3, [0], 0), (100, .dup, 1, [], 0), (101, .invokespecial 68, 3, [0], 0), (104, .putfield 69, 3, [10, 9, 3], 0), (107, .aload_n 0, 1, [], 0), (108, .new 73, 3, [2], 0), (111, .dup, 1, [], 0), (112, .invokespecial 75, 3, [2], 0), (115, .putfield 76, 3, [10, 10, 3], 0), (118, .iconst 0, 1, [], 0), (119, .istore_n 1, 1, [], 0), (120, .iload_n 1, 1, [], 0), (121, .aload_n 0, 1, [], 0), (122, .getfield 16, 3, [10, 1, 3], 0), (125, .arraylength, 1, [], 0), (126, .if_icmp .ge 22, 3, [148], 0), (129, .aload_n 0, 1, [], 0), (130, .getfield 16, 3, [10, 1, 3], 0), (133, .iload_n 1, 1, [], 0), (134, .new 7, 3, [8], 0), (137, .dup, 1, [], 0), (138, .invokespecial 9, 3, [8], 0), (141, .aastore, 1, [], 0), (142, .iinc 1 1, 3, [], 1), (145, .goto (-25), 3, [120], 0), (148, .return_, 1, [], 0)]
def ci_11 : List (Nat × Instr × Nat × List Nat × Int) := [(0, .aload_n 0, 1, [], 0), (1, .invokespecial 1, 3, [], 0), (4, .aload_n 0, 1, [], 0), (5, .iconst 4, 1, [], 4), (6, .putfield 7, 3, [11, 0, 0], 0), (9, .aload_n 0, 1, [], 0), (10, .bipush 36, 2, [], 36), (12, .newarray .int, 2, [], 0), (14, .putfield 13, 3, [11, 1, 3], 0), (17, .aload_n 0, 1, [], 0), (18, .bipush 36, 2, [], 36), (20, .newarray .int, 2, [], 0), (22, .putfield 17, 3, [11, 2, 3], 0), (25, .aload_n 0, 1, [], 0), (26, .bipush 108, 2, [], 108), (28, .newarray .int, 2, [], 0), (30, .putfield 20, 3, [11, 3, 3], 0), (33, .aload_n 0, 1, [], 0), (34, .bipush 6, 2, [], 6), (36, .newarray .int, 2, [], 0), (38, .putfield 23, 3, [11, 4, 3], 0), (41, .aload_n 0, 1, [], 0), (42, .bipush 6, 2, [], 6), (44, .newarray .int, 2, [], 0), (46, .putfield 26, 3, [11, 5, 3], 0), (49, .aload_n 0, 1, [], 0), (50, .bipush 30, 2, [], 30), (52, .newarray .int, 2, [], 0), (54, .putfield 29, 3, [11, 6, 3], 0), (57, .aload_n 0, 1, [], 0), (58, .iconst 1, 1, [], 1), (59, .putfield 32, 3, [11, 7, 0], 0), (62, .aload_n 0, 1, [], 0), (63, .iconst 3, 1, [], 3), (64, .putfield 35, 3, [11, 8, 0], 0), (67, .aload_n 0, 1, [], 0), (68, .iconst 4, 1, [], 4), (69, .newarray .int, 2, [], 0), (71, .putfield 38, 3, [11, 10, 3], 0), (74, .aload_n 0, 1, [], 0), (75, .bipush 8, 2, [], 8), (77, .newarray .int, 2, [], 0), (79, .putfield 41, 3, [11, 11, 3], 0), (82, .aload_n 0, 1, [], 0), (83, .iconst 4, 1, [], 4), (84, .newarray .int, 2, [], 0), (86, .putfield 44, 3, [11, 12, 3], 0), (89, .aload_n 0, 1, [], 0), (90, .iconst 4, 1, [], 4), (91, .newarray .int, 2, [], 0), (93, .putfield 47, 3, [11, 13, 3], 0), (96, .aload_n 0, 1, [], 0), (97, .iconst 4, 1, [], 4), (98, .newarray .int, 2, [], 0), (100, .putfield 50, 3, [11, 14, 3], 0), (103, .aload_n 0, 1, [], 0), (104, .bipush 8, 2, [], 8), (106, .newarray .int, 2, [], 0), (108, .putfield 53, 3, [11, 15, 3], 0), (111, .aload_n 0, 1, [], 0), (112, .iconst 4, 1, [], 4), (113, .newarray .int, 2, [], 0), (115, .putfield 56, 3, [11, 16, 3], 0), (118, .aload_n 0, 1, [], 0), (119, .bipush 12, 2, [], 12), (121, .newarray .int, 2, [], 0), (123, .putfield 59, 3, [11, 18, 3], 0), (126, .aload_n 0, 1, [], 0), (127, .bipush 60, 2, [], 60), (129, .newarray .int, 2, [], 0), (131, .putfield 62, 3, [11, 20, 3], 0), (134, .aload_n 0, 1, [], 0), (135, .iconst 4, 1, [], 4), (136, .newarray .int, 2, [], 0), (138, .putfield 65, 3, [11, 21, 3], 0), (141, .aload_n 0, 1, [], 0), (142, .iconst 4, 1, [], 4), (143, .newarray .int, 2, [], 0), (145, .putfield 68, 3, [11, 22, 3], 0), (148, .aload_n 0, 1, [], 0), (149, .iconst 4, 1, [], 4), (150, .newarray .int, 2, [], 0), (152, .putfield 71, 3, [11, 23, 3], 0), (155, .aload_n 0, 1, [], 0), (156, .bipush 8, 2, [], 8), (158, .newarray .int, 2, [], 0), (160, .putfield 74, 3, [11, 24, 3], 0), (163, .aload_n 0, 1, [], 0), (164, .iconst 4, 1, [], 4), (165, .newarray .int, 2, [], 0), (167, .putfield 77, 3, [11, 25, 3], 0), (170, .aload_n 0, 1, [], 0), (171, .bipush 30, 2, [], 30), (173, .newarray .int, 2, [], 0), (175, .putfield 80, 3, [11, 26, 3], 0), (178, .aload_n 0, 1, [], 0), (179, .bipush 108, 2, [], 108), (181, .newarray .int, 2, [], 0), (183, .putfield 83, 3, [11, 27, 3], 0), (186, .aload_n 0, 1, [], 0), (187, .bipush 72, 2, [], 72), (189, .newarray .int, 2, [], 0), (191, .putfield 86, 3, [11, 32, 3], 0), (194, .aload_n 0, 1, [], 0), (195, .bipush 36, 2, [], 36), (197, .newarray .int, 2, [], 0), (199, .putfield 89, 3, [11, 33, 3], 0), (202, .aload_n 0, 1, [], 0), (203, .bipush 6, 2, [], 6), (205, .newarray .int, 2, [], 0), (207, .putfield 92, 3, [11, 38, 3], 0), (210, .aload_n 0, 1, [], 0), (211, .bipush 6, 2, [], 6), (213, .newarray .int, 2, [], 0), (215, .putfield 95, 3, [11, 39, 3], 0), (218, .aload_n 0, 1, [], 0), (219, .sipush 640, 3, [], 640), (222, .newarray .int, 2, [], 0), (224, .putfield 98, 3, [11, 40, 3], 0), (227, .aload_n 0, 1, [], 0), (228, .iconst 2, 1, [], 2), (229, .newarray .boolean, 2, [], 0), (231, .putfield 101, 3, [11, 41, 3], 0), (234, .aload_n 0, 1, [], 0), (235, .iconst 0, 1, [], 0), (236, .putfield 105, 3, [11, 9, 0], 0), (239, .return_, 1, [], 0)]
def cinsT : List (List (Nat × Instr × Nat × List Nat × Int)) := [ci_0, ci_1, ci_2, ci_3, ci_4, ci_5, ci_6, ci_7, ci_8, ci_9, ci_10, ci_11]
def cmlT : List Nat := [1, 1, 1, 1, 1, 1, 1, 1, 2, 1, 2, 1]
def cML (k : Nat) : Nat := cmlT.getD k 0
def insC (k pc : Nat) : Option (Instr × Nat × List Nat × Int) := findC (cinsT.getD k []) pc
where findC : List (Nat × Instr × Nat × List Nat × Int) → Nat → Option (Instr × Nat × List Nat × Int)
  | [], _ => none
  | (p, i) :: r, pc => match Nat.beq p pc with
    | true => some i
    | false => findC r pc
abbrev StC : Type := (Nat × LSt × List PV × CWd) ⊕ Unit ⊕ (Nat × Nat × List PV × Nat)
def goC (pc : Nat) (ls : LSt) (st : List PV) (cs : CWd) : Option StC := some (Sum.inl (pc, ls, st, cs))
def newC (pc : Nat) (ls : LSt) (st : List PV) (cs : CWd) (c : CCell) : Option StC := if cs.length < 104 then goC pc ls (xR cs.length :: st) (cs ++ [c]) else none
def stepC (k pc : Nat) (ls : LSt) (st : List PV) (cs : CWd) (i : Instr) (n : Nat) (aux : List Nat) (z : Int) : Option StC := match i with
  | .aload_n v => (match nth ls v.val with
    | some (.inr (.inr a)) => goC (pc + n) ls (xR a :: st) cs
    | _ => none)
  | .iload_n v => (match nth ls v.val with
    | some (.inl x) => goC (pc + n) ls (xI x :: st) cs
    | _ => none)
  | .iconst _ => goC (pc + n) ls (xI z :: st) cs
  | .bipush _ => goC (pc + n) ls (xI z :: st) cs
  | .sipush _ => goC (pc + n) ls (xI z :: st) cs
  | .lconst _ => goC (pc + n) ls (xL z :: st) cs
  | .istore_n v => (match st with
    | .inl x :: r => goC (pc + n) (stn ls v.val (some (xI x))) r cs
    | _ => none)
  | .iinc v _ => (match nth ls v with
    | some (.inl x) => goC (pc + n) (stn ls v (some (xI (w32 (x + z))))) st cs
    | _ => none)
  | .dup => (match st with
    | .inr (.inr a) :: r => goC (pc + n) ls (xR a :: xR a :: r) cs
    | _ => none)
  | .newarray .int => (match st with
    | .inl x :: r => if 0 ≤ x ∧ x < 1000 then newC (pc + n) ls r cs (0, List.replicate x.toNat 0, []) else none
    | _ => none)
  | .newarray .boolean => (match st with
    | .inl x :: r => if 0 ≤ x ∧ x < 1000 then newC (pc + n) ls r cs (1, List.replicate x.toNat 0, []) else none
    | _ => none)
  | .anewarray _ => (match st, aux with
    | .inl x :: r, [2] => if 0 ≤ x ∧ x < 1000 then newC (pc + n) ls r cs (2, [], List.replicate x.toNat none) else none
    | .inl x :: r, [3] => if 0 ≤ x ∧ x < 1000 then newC (pc + n) ls r cs (3, [], List.replicate x.toNat none) else none
    | _, _ => none)
  | .new _ => (match aux with
    | [ci] => newC (pc + n) ls st cs (10 + ci, List.replicate (nfld ci) 0, List.replicate (nfld ci) none)
    | _ => none)
  | .putfield _ => (match st, aux with
    | .inl x :: .inr (.inr a) :: r, [ci, kk, 0] => (match cs[a]? with
      | some c => if c.1 = 10 + ci ∧ kk < c.2.1.length ∧ kk < c.2.2.length then goC (pc + n) ls r (cs.set a (c.1, c.2.1.set kk x, c.2.2)) else none
      | none => none)
    | .inr (.inl x) :: .inr (.inr a) :: r, [ci, kk, 2] => (match cs[a]? with
      | some c => if c.1 = 10 + ci ∧ kk < c.2.1.length ∧ kk < c.2.2.length then goC (pc + n) ls r (cs.set a (c.1, c.2.1.set kk x, c.2.2)) else none
      | none => none)
    | .inr (.inr y) :: .inr (.inr a) :: r, [ci, kk, 3] => (match cs[a]? with
      | some c => if c.1 = 10 + ci ∧ kk < c.2.1.length ∧ kk < c.2.2.length then goC (pc + n) ls r (cs.set a (c.1, c.2.1, c.2.2.set kk (some y))) else none
      | none => none)
    | _, _ => none)
  | .getfield _ => (match st, aux with
    | .inr (.inr a) :: r, [ci, kk, 3] => (match cs[a]? with
      | some c => if c.1 = 10 + ci then (match c.2.2.getD kk none with
        | some b => goC (pc + n) ls (xR b :: r) cs
        | none => none) else none
      | none => none)
    | _, _ => none)
  | .arraylength => (match st with
    | .inr (.inr a) :: r => (match cs[a]? with
      | some c => if (c.1 = 2 ∨ c.1 = 3) ∧ c.2.2.length < 1000 then goC (pc + n) ls (xI (c.2.2.length : Int) :: r) cs else none
      | none => none)
    | _ => none)
  | .if_icmp .ge _ => (match st, aux with
    | .inl y :: .inl x :: r, [t] => if y ≤ x then goC t ls r cs else goC (pc + n) ls r cs
    | _, _ => none)
  | .goto _ => (match aux with
    | [t] => goC t ls st cs
    | _ => none)
  | .aastore => (match st with
    | .inr (.inr y) :: .inl x :: .inr (.inr a) :: r => (match cs[a]?, cs[y]? with
      | some c, some d => if 0 ≤ x ∧ x < (c.2.2.length : Int) ∧ ((c.1 = 2 ∧ d.1 = 16) ∨ (c.1 = 3 ∧ d.1 = 18)) then goC (pc + n) ls r (cs.set a (c.1, c.2.1, c.2.2.set x.toNat (some y))) else none
      | _, _ => none)
    | _ => none)
  | .invokespecial _ => (match st, aux with
    | .inr (.inr _) :: r, [] => if cats r ≤ 8 then goC (pc + n) ls r cs else none
    | .inr (.inr a) :: r, [kc] => if cats r ≤ 8 then some (Sum.inr (Sum.inr (kc, a, r, pc + n))) else none
    | _, _ => none)
  | .return_ => (match st with
    | [] => some (Sum.inr (Sum.inl ()))
    | _ => none)
  | _ => none
def runC : Nat → Nat → Nat → LSt → List PV → CWd → Option CWd
  | 0, _, _, _, _, _ => none
  | f + 1, k, pc, ls, st, cs => match insC k pc with
    | none => none
    | some (i, n, aux, z) => match stepC k pc ls st cs i n aux z with
      | none => none
      | some (.inl (pc', ls', st', cs')) => runC f k pc' ls' st' cs'
      | some (.inr (.inl _)) => some cs
      | some (.inr (.inr (kc, a, st', pc'))) => match runC f kc 0 (entL (cML kc) [xR a]) [] cs with
        | some cs' => runC f k pc' ls st' cs'
        | none => none
def csX : CWd := (runC 2000 10 0 (entL (cML 10) [xR 0]) [] [(20, List.replicate 11 0, List.replicate 11 none)]).getD []
def csM : CWd := (runC 2000 11 0 (entL (cML 11) [xR 75]) [] (csX ++ [(21, List.replicate 42 0, List.replicate 42 none)])).getD []
set_option maxRecDepth 100000 in
theorem csX_ok : runC 2000 10 0 (entL (cML 10) [xR 0]) [] [(20, List.replicate 11 0, List.replicate 11 none)] = some csX ∧ csX.length = 75 := by decide +kernel
set_option maxRecDepth 100000 in
theorem csM_ok : runC 2000 11 0 (entL (cML 11) [xR 75]) [] (csX ++ [(21, List.replicate 42 0, List.replicate 42 none)]) = some csM ∧ csM.length = 104 := by decide +kernel
set_option maxRecDepth 100000 in
theorem csM_tag : csM.map (fun c => c.1) = tagT.take 104 := by decide +kernel
