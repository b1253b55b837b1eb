/-! the table of methods: an entry is (pc, instruction, length, operand): of a field 32 * class + place, of a call the callee's number (+ 1000: by a nest link),
of a branch 1024 * target + the locals that live there, of a constant its value; '.nop' entries (pc + 100000) stand ahead of labels that are reached from above -/
abbrev En : Type := Nat × (Instr × (Nat × Nat))
abbrev Mrow : Type := MethodName × (ByteArray × (Nat × (Option FieldType × (Nat × (Nat × List En)))))
def pgX0_count : List En := [(0, .aload_n 0, 1, 0), (1, .iconst 0, 1, 0), (2, .putfield 27, 3, 0), (5, .aload_n 0, 1, 0), (6, .getfield 9, 3, 2), (9, .invokestatic 31, 3, 1), (12, .aload_n 0, 1, 0), (13, .getfield 15, 3, 3), (16, .invokestatic 31, 3, 1), (19, .aload_n 0, 1, 0), (20, .getfield 18, 3, 4), (23, .invokestatic 31, 3, 1), (26, .aload_n 0, 1, 0), (27, .getfield 21, 3, 5), (30, .invokestatic 31, 3, 1), (33, .aload_n 0, 1, 0), (34, .getfield 24, 3, 6), (37, .invokestatic 31, 3, 1), (40, .iconst 0, 1, 0), (41, .iconst 0, 1, 0), (42, .aload_n 0, 1, 0), (43, .aload_n 1, 1, 0), (44, .invokestatic 35, 3, 2), (47, .aload_n 0, 1, 0), (48, .iconst 1, 1, 0), (49, .putfield 39, 3, 1), (52, .return_, 1, 0)]
def pgX0_clear : List En := [(0, .iconst 0, 1, 0), (1, .istore_n 1, 1, 0), (100002, .nop, 0, 3), (2, .iload_n 1, 1, 0), (3, .aload_n 0, 1, 0), (4, .arraylength, 1, 0), (5, .if_icmp .ge 13, 3, 18432), (8, .aload_n 0, 1, 0), (9, .iload_n 1, 1, 0), (10, .iconst 0, 1, 0), (11, .iastore, 1, 0), (12, .iinc 1 1, 3, 0), (15, .goto (-13), 3, 2051), (18, .return_, 1, 0)]
def pgX0_dealFrom : List En := [(0, .iload_n 0, 1, 0), (1, .ifCond .lt 9, 3, 10254), (4, .iload_n 0, 1, 0), (5, .bipush 9, 2, 0), (7, .if_icmp .lt 10, 3, 17423), (100010, .nop, 0, 14), (10, .aload_n 2, 1, 0), (11, .iload_n 1, 1, 0), (12, .aload_n 3, 1, 0), (13, .invokevirtual 43, 3, 4), (16, .return_, 1, 0), (17, .iconst 0, 1, 0), (18, .istore 4, 2, 0), (100020, .nop, 0, 31), (20, .iload 4, 2, 0), (22, .iconst 4, 1, 0), (23, .if_icmp .ge 76, 3, 101376), (26, .aload_n 2, 1, 0), (27, .iload_n 0, 1, 0), (28, .iload 4, 2, 0), (30, .invokevirtual 47, 3, 3), (33, .ifCond .eq 60, 3, 95263), (36, .aload_n 2, 1, 0), (37, .getfield 24, 3, 6), (40, .iload 4, 2, 0), (42, .dup2, 1, 0), (43, .iaload, 1, 0), (44, .iconst 1, 1, 0), (45, .iload_n 0, 1, 0), (46, .ishl, 1, 0), (47, .ior, 1, 0), (48, .iastore, 1, 0), (49, .iload 4, 2, 0), (51, .iconst 3, 1, 0), (52, .if_icmp .ne 13, 3, 66591), (55, .iconst 3, 1, 0), (56, .iload_n 1, 1, 0), (57, .imul, 1, 0), (58, .iload_n 0, 1, 0), (59, .iconst 3, 1, 0), (60, .irem, 1, 0), (61, .iadd, 1, 0), (62, .goto 4, 3, 67615), (65, .iload_n 1, 1, 0), (100066, .nop, 0, 31), (66, .istore 5, 2, 0), (68, .iload_n 0, 1, 0), (69, .iconst 1, 1, 0), (70, .iadd, 1, 0), (71, .iload 5, 2, 0), (73, .aload_n 2, 1, 0), (74, .aload_n 3, 1, 0), (75, .invokestatic 35, 3, 2), (78, .aload_n 2, 1, 0), (79, .getfield 24, 3, 6), (82, .iload 4, 2, 0), (84, .dup2, 1, 0), (85, .iaload, 1, 0), (86, .iconst 1, 1, 0), (87, .iload_n 0, 1, 0), (88, .ishl, 1, 0), (89, .iconst (-1), 1, 0), (90, .ixor, 1, 0), (91, .iand, 1, 0), (92, .iastore, 1, 0), (100093, .nop, 0, 31), (93, .iinc 4 1, 3, 0), (96, .goto (-76), 3, 20511), (99, .return_, 1, 0)]
def pgX0_hasRoom : List En := [(0, .aload_n 0, 1, 0), (1, .getfield 24, 3, 6), (4, .iconst 3, 1, 0), (5, .iaload, 1, 0), (6, .iload_n 1, 1, 0), (7, .iconst 3, 1, 0), (8, .idiv, 1, 0), (9, .invokestatic 51, 3, 1138), (12, .iand, 1, 0), (13, .ifCond .ne 7, 3, 20487), (16, .iconst 1, 1, 0), (17, .goto 4, 3, 21511), (20, .iconst 0, 1, 0), (100021, .nop, 0, 7), (21, .istore_n 3, 1, 0), (22, .iload_n 2, 1, 0), (23, .iconst 3, 1, 0), (24, .if_icmp .ne 5, 3, 29711), (27, .iload_n 3, 1, 0), (28, .ireturn, 1, 0), (29, .iload_n 1, 1, 0), (30, .iconst 3, 1, 0), (31, .irem, 1, 0), (32, .iconst 2, 1, 0), (33, .if_icmp .ne 7, 3, 40973), (36, .iconst 1, 1, 0), (37, .goto 4, 3, 41997), (40, .iconst 0, 1, 0), (100041, .nop, 0, 13), (41, .istore 4, 2, 0), (43, .iload 4, 2, 0), (45, .ifCond .eq 7, 3, 53253), (48, .iload_n 3, 1, 0), (49, .ifCond .ne 29, 3, 79872), (100052, .nop, 0, 5), (52, .iload_n 2, 1, 0), (53, .ifCond .lt 25, 3, 79872), (56, .iload_n 2, 1, 0), (57, .iconst 3, 1, 0), (58, .if_icmp .ge 20, 3, 79872), (61, .aload_n 0, 1, 0), (62, .getfield 24, 3, 6), (65, .iload_n 2, 1, 0), (66, .iaload, 1, 0), (67, .invokestatic 55, 3, 260), (70, .iconst 2, 1, 0), (71, .if_icmp .ge 7, 3, 79872), (74, .iconst 1, 1, 0), (75, .goto 4, 3, 80896), (78, .iconst 0, 1, 0), (100079, .nop, 0, 0), (79, .ireturn, 1, 0)]
def pgX0_judge : List En := [(0, .iconst 0, 1, 0), (1, .istore_n 3, 1, 0), (2, .iconst 0, 1, 0), (3, .istore 4, 2, 0), (5, .iconst 0, 1, 0), (6, .istore 5, 2, 0), (100008, .nop, 0, 63), (8, .iload 5, 2, 0), (10, .aload_n 2, 1, 0), (11, .getfield 60, 3, 100), (14, .if_icmp .ge 34, 3, 49179), (17, .iload_n 3, 1, 0), (18, .iconst 2, 1, 0), (19, .if_icmp .ge 29, 3, 49179), (22, .aload_n 2, 1, 0), (23, .iload 5, 2, 0), (25, .aload_n 0, 1, 0), (26, .getfield 24, 3, 6), (29, .invokevirtual 65, 3, 48), (32, .ifCond .ne 10, 3, 43071), (35, .iinc 3 1, 3, 0), (38, .iload 5, 2, 0), (40, .istore 4, 2, 0), (100042, .nop, 0, 63), (42, .iinc 5 1, 3, 0), (45, .goto (-37), 3, 8255), (48, .iload_n 3, 1, 0), (49, .ifCond .ne 11, 3, 61465), (52, .aload_n 0, 1, 0), (53, .iload_n 1, 1, 0), (54, .invokevirtual 69, 3, 5), (57, .goto 26, 3, 84992), (60, .iload_n 3, 1, 0), (61, .iconst 1, 1, 0), (62, .if_icmp .ne 21, 3, 84992), (65, .iload 4, 2, 0), (67, .bipush 20, 2, 0), (69, .if_icmp .ge 14, 3, 84992), (72, .aload_n 0, 1, 0), (73, .getfield 21, 3, 5), (76, .iload 4, 2, 0), (78, .dup2, 1, 0), (79, .iaload, 1, 0), (80, .iconst 1, 1, 0), (81, .iadd, 1, 0), (82, .iastore, 1, 0), (100083, .nop, 0, 0), (83, .return_, 1, 0)]
def pgX0_include : List En := [(0, .aload_n 0, 1, 0), (1, .dup, 1, 0), (2, .getfield 27, 3, 0), (5, .iconst 1, 1, 0), (6, .iadd, 1, 0), (7, .putfield 27, 3, 0), (10, .iconst 0, 1, 0), (11, .istore_n 2, 1, 0), (100012, .nop, 0, 7), (12, .iload_n 2, 1, 0), (13, .bipush 9, 2, 0), (15, .if_icmp .ge 45, 3, 61443), (18, .iconst 0, 1, 0), (19, .istore_n 3, 1, 0), (100020, .nop, 0, 15), (20, .iload_n 3, 1, 0), (21, .iconst 4, 1, 0), (22, .if_icmp .ge 32, 3, 55303), (25, .aload_n 0, 1, 0), (26, .getfield 9, 3, 2), (29, .iload_n 2, 1, 0), (30, .iconst 4, 1, 0), (31, .imul, 1, 0), (32, .iload_n 3, 1, 0), (33, .iadd, 1, 0), (34, .dup2, 1, 0), (35, .iaload, 1, 0), (36, .aload_n 0, 1, 0), (37, .getfield 24, 3, 6), (40, .iload_n 3, 1, 0), (41, .iaload, 1, 0), (42, .iload_n 2, 1, 0), (43, .ishr, 1, 0), (44, .iconst 1, 1, 0), (45, .iand, 1, 0), (46, .iadd, 1, 0), (47, .iastore, 1, 0), (48, .iinc 3 1, 3, 0), (51, .goto (-31), 3, 20495), (54, .iinc 2 1, 3, 0), (57, .goto (-45), 3, 12295), (60, .iload_n 1, 1, 0), (61, .ifCond .lt 19, 3, 81921), (64, .iload_n 1, 1, 0), (65, .bipush 27, 2, 0), (67, .if_icmp .ge 13, 3, 81921), (70, .aload_n 0, 1, 0), (71, .getfield 15, 3, 3), (74, .iload_n 1, 1, 0), (75, .dup2, 1, 0), (76, .iaload, 1, 0), (77, .iconst 1, 1, 0), (78, .iadd, 1, 0), (79, .iastore, 1, 0), (100080, .nop, 0, 1), (80, .iconst 0, 1, 0), (81, .istore_n 2, 1, 0), (100082, .nop, 0, 5), (82, .iload_n 2, 1, 0), (83, .iconst 3, 1, 0), (84, .if_icmp .ge 34, 3, 120832), (87, .aload_n 0, 1, 0), (88, .getfield 18, 3, 4), (91, .iload_n 2, 1, 0), (92, .sipush 512, 3, 0), (95, .imul, 1, 0), (96, .aload_n 0, 1, 0), (97, .getfield 24, 3, 6), (100, .iload_n 2, 1, 0), (101, .iaload, 1, 0), (102, .sipush 511, 3, 0), (105, .iand, 1, 0), (106, .iadd, 1, 0), (107, .dup2, 1, 0), (108, .iaload, 1, 0), (109, .iconst 1, 1, 0), (110, .iadd, 1, 0), (111, .iastore, 1, 0), (112, .iinc 2 1, 3, 0), (115, .goto (-33), 3, 83973), (118, .return_, 1, 0)]
def pgX0_withCardAt : List En := [(0, .iload_n 1, 1, 0), (1, .ifCond .lt 22, 3, 23559), (4, .iload_n 1, 1, 0), (5, .bipush 9, 2, 0), (7, .if_icmp .ge 16, 3, 23559), (10, .iload_n 2, 1, 0), (11, .ifCond .lt 12, 3, 23559), (14, .iload_n 2, 1, 0), (15, .iconst 4, 1, 0), (16, .if_icmp .ge 7, 3, 23559), (19, .iconst 1, 1, 0), (20, .goto 4, 3, 24583), (23, .iconst 0, 1, 0), (100024, .nop, 0, 7), (24, .istore_n 3, 1, 0), (25, .iload_n 3, 1, 0), (26, .ifCond .eq 16, 3, 43008), (29, .aload_n 0, 1, 0), (30, .getfield 9, 3, 2), (33, .iload_n 1, 1, 0), (34, .iconst 4, 1, 0), (35, .imul, 1, 0), (36, .iload_n 2, 1, 0), (37, .iadd, 1, 0), (38, .iaload, 1, 0), (39, .goto 4, 3, 44032), (42, .iconst 0, 1, 0), (100043, .nop, 0, 0), (43, .ireturn, 1, 0)]
def pgX0_surePlace : List En := [(0, .iconst 0, 1, 0), (1, .istore_n 2, 1, 0), (100002, .nop, 0, 7), (2, .iload_n 2, 1, 0), (3, .iconst 4, 1, 0), (4, .if_icmp .ge 31, 3, 35840), (7, .aload_n 0, 1, 0), (8, .getfield 27, 3, 0), (11, .ifCond .le 18, 3, 29703), (14, .aload_n 0, 1, 0), (15, .iload_n 1, 1, 0), (16, .iload_n 2, 1, 0), (17, .invokevirtual 73, 3, 6), (20, .aload_n 0, 1, 0), (21, .getfield 27, 3, 0), (24, .if_icmp .ne 5, 3, 29703), (27, .iload_n 2, 1, 0), (28, .ireturn, 1, 0), (29, .iinc 2 1, 3, 0), (32, .goto (-30), 3, 2055), (35, .iconst (-1), 1, 0), (36, .ireturn, 1, 0)]
def pgX0_sureCards : List En := [(0, .iconst 0, 1, 0), (1, .istore_n 1, 1, 0), (2, .iconst 0, 1, 0), (3, .istore_n 2, 1, 0), (100004, .nop, 0, 7), (4, .iload_n 2, 1, 0), (5, .bipush 9, 2, 0), (7, .if_icmp .ge 25, 3, 32770), (10, .iload_n 1, 1, 0), (11, .aload_n 0, 1, 0), (12, .iload_n 2, 1, 0), (13, .invokevirtual 77, 3, 7), (16, .ifCond .lt 7, 3, 23557), (19, .iconst 1, 1, 0), (20, .goto 4, 3, 24581), (23, .iconst 0, 1, 0), (100024, .nop, 0, 5), (24, .iadd, 1, 0), (25, .istore_n 1, 1, 0), (26, .iinc 2 1, 3, 0), (29, .goto (-25), 3, 4103), (32, .iload_n 1, 1, 0), (33, .ireturn, 1, 0)]
def pgX0_placesLeft : List En := [(0, .iconst 0, 1, 0), (1, .istore_n 1, 1, 0), (2, .iconst 0, 1, 0), (3, .istore_n 2, 1, 0), (100004, .nop, 0, 7), (4, .iload_n 2, 1, 0), (5, .aload_n 0, 1, 0), (6, .getfield 9, 3, 2), (9, .arraylength, 1, 0), (10, .if_icmp .ge 26, 3, 36866), (13, .iload_n 1, 1, 0), (14, .aload_n 0, 1, 0), (15, .getfield 9, 3, 2), (18, .iload_n 2, 1, 0), (19, .iaload, 1, 0), (20, .ifCond .le 7, 3, 27653), (23, .iconst 1, 1, 0), (24, .goto 4, 3, 28677), (27, .iconst 0, 1, 0), (100028, .nop, 0, 5), (28, .iadd, 1, 0), (29, .istore_n 1, 1, 0), (30, .iinc 2 1, 3, 0), (33, .goto (-29), 3, 4103), (36, .iload_n 1, 1, 0), (37, .ireturn, 1, 0)]
def pgX0_withEnvelope : List En := [(0, .iload_n 1, 1, 0), (1, .ifCond .lt 18, 3, 19456), (4, .iload_n 1, 1, 0), (5, .bipush 27, 2, 0), (7, .if_icmp .ge 12, 3, 19456), (10, .aload_n 0, 1, 0), (11, .getfield 15, 3, 3), (14, .iload_n 1, 1, 0), (15, .iaload, 1, 0), (16, .goto 4, 3, 20480), (19, .iconst 0, 1, 0), (100020, .nop, 0, 0), (20, .ireturn, 1, 0)]
def pgX0_envelopesLeft : List En := [(0, .iconst 0, 1, 0), (1, .istore_n 1, 1, 0), (2, .iconst 0, 1, 0), (3, .istore_n 2, 1, 0), (100004, .nop, 0, 7), (4, .iload_n 2, 1, 0), (5, .bipush 27, 2, 0), (7, .if_icmp .ge 26, 3, 33794), (10, .iload_n 1, 1, 0), (11, .aload_n 0, 1, 0), (12, .getfield 15, 3, 3), (15, .iload_n 2, 1, 0), (16, .iaload, 1, 0), (17, .ifCond .le 7, 3, 24581), (20, .iconst 1, 1, 0), (21, .goto 4, 3, 25605), (24, .iconst 0, 1, 0), (100025, .nop, 0, 5), (25, .iadd, 1, 0), (26, .istore_n 1, 1, 0), (27, .iinc 2 1, 3, 0), (30, .goto (-26), 3, 4103), (33, .iload_n 1, 1, 0), (34, .ireturn, 1, 0)]
def pgX0_likeliestEnvelope : List En := [(0, .iconst 0, 1, 0), (1, .istore_n 1, 1, 0), (2, .iconst 1, 1, 0), (3, .istore_n 2, 1, 0), (100004, .nop, 0, 7), (4, .iload_n 2, 1, 0), (5, .bipush 27, 2, 0), (7, .if_icmp .ge 28, 3, 35842), (10, .aload_n 0, 1, 0), (11, .iload_n 2, 1, 0), (12, .invokevirtual 80, 3, 10), (15, .aload_n 0, 1, 0), (16, .iload_n 1, 1, 0), (17, .invokevirtual 80, 3, 10), (20, .if_icmp .le 7, 3, 27655), (23, .iload_n 2, 1, 0), (24, .goto 4, 3, 28677), (27, .iload_n 1, 1, 0), (100028, .nop, 0, 5), (28, .istore_n 1, 1, 0), (29, .iinc 2 1, 3, 0), (32, .goto (-28), 3, 4103), (35, .iload_n 1, 1, 0), (36, .ireturn, 1, 0)]
def pgX0_shareOfLikeliest : List En := [(0, .aload_n 0, 1, 0), (1, .getfield 27, 3, 0), (4, .ifCond .gt 7, 3, 11265), (7, .dconst 0, 1, 0), (8, .goto 18, 3, 26624), (11, .aload_n 0, 1, 0), (12, .aload_n 0, 1, 0), (13, .invokevirtual 83, 3, 12), (16, .invokevirtual 80, 3, 10), (19, .i2d, 1, 0), (20, .aload_n 0, 1, 0), (21, .getfield 27, 3, 0), (24, .i2d, 1, 0), (25, .ddiv, 1, 0), (100026, .nop, 0, 0), (26, .dreturn, 1, 0)]
def pgX0_withNone : List En := [(0, .iload_n 1, 1, 0), (1, .ifCond .lt 8, 3, 9216), (4, .iload_n 1, 1, 0), (5, .iconst 3, 1, 0), (6, .if_icmp .lt 5, 3, 11271), (100009, .nop, 0, 0), (9, .iconst 0, 1, 0), (10, .ireturn, 1, 0), (11, .iload_n 2, 1, 0), (12, .invokestatic 87, 3, 1139), (15, .istore_n 3, 1, 0), (16, .iconst 0, 1, 0), (17, .istore 4, 2, 0), (19, .iconst 0, 1, 0), (20, .istore 5, 2, 0), (100022, .nop, 0, 59), (22, .iload 5, 2, 0), (24, .bipush 9, 2, 0), (26, .if_icmp .ge 68, 3, 96272), (29, .iload 5, 2, 0), (31, .iconst 1, 1, 0), (32, .iadd, 1, 0), (33, .istore 6, 2, 0), (100035, .nop, 0, 123), (35, .iload 6, 2, 0), (37, .bipush 9, 2, 0), (39, .if_icmp .ge 49, 3, 90171), (42, .iconst 1, 1, 0), (43, .iload 5, 2, 0), (45, .ishl, 1, 0), (46, .iconst 1, 1, 0), (47, .iload 6, 2, 0), (49, .ishl, 1, 0), (50, .ior, 1, 0), (51, .istore 7, 2, 0), (53, .iload 4, 2, 0), (55, .iload 7, 2, 0), (57, .iload_n 3, 1, 0), (58, .iand, 1, 0), (59, .ifCond .ne 19, 3, 79979), (62, .aload_n 0, 1, 0), (63, .getfield 18, 3, 4), (66, .iload_n 1, 1, 0), (67, .sipush 512, 3, 0), (70, .imul, 1, 0), (71, .iload 7, 2, 0), (73, .iadd, 1, 0), (74, .iaload, 1, 0), (75, .goto 4, 3, 81003), (78, .iconst 0, 1, 0), (100079, .nop, 0, 107), (79, .iadd, 1, 0), (80, .istore 4, 2, 0), (82, .iinc 6 1, 3, 0), (85, .goto (-50), 3, 35963), (88, .iinc 5 1, 3, 0), (91, .goto (-69), 3, 22587), (94, .iload 4, 2, 0), (96, .ireturn, 1, 0)]
def pgX0_behindQuestion : List En := [(0, .aload_n 0, 1, 0), (1, .iload_n 1, 1, 0), (2, .iload_n 2, 1, 0), (3, .invokevirtual 90, 3, 14), (6, .istore_n 3, 1, 0), (7, .iload_n 3, 1, 0), (8, .aload_n 0, 1, 0), (9, .getfield 27, 3, 0), (12, .iload_n 3, 1, 0), (13, .isub, 1, 0), (14, .invokestatic 93, 3, 1998), (17, .ireturn, 1, 0)]
def pgX0_sharpestQuestion : List En := [(0, .iconst 0, 1, 0), (1, .istore_n 2, 1, 0), (2, .aload_n 0, 1, 0), (3, .iload_n 1, 1, 0), (4, .iconst 0, 1, 0), (5, .invokevirtual 98, 3, 15), (8, .istore_n 3, 1, 0), (9, .iconst 1, 1, 0), (10, .istore 4, 2, 0), (100012, .nop, 0, 31), (12, .iload 4, 2, 0), (14, .bipush 27, 2, 0), (16, .if_icmp .ge 30, 3, 47108), (19, .aload_n 0, 1, 0), (20, .iload_n 1, 1, 0), (21, .iload 4, 2, 0), (23, .invokevirtual 98, 3, 15), (26, .istore 5, 2, 0), (28, .iload 5, 2, 0), (30, .iload_n 3, 1, 0), (31, .if_icmp .ge 9, 3, 40991), (34, .iload 5, 2, 0), (36, .istore_n 3, 1, 0), (37, .iload 4, 2, 0), (39, .istore_n 2, 1, 0), (100040, .nop, 0, 31), (40, .iinc 4 1, 3, 0), (43, .goto (-31), 3, 12319), (46, .iload_n 2, 1, 0), (47, .ireturn, 1, 0)]
def pgX0_withoutClue : List En := [(0, .iload_n 1, 1, 0), (1, .ifCond .lt 23, 3, 24577), (4, .iload_n 1, 1, 0), (5, .bipush 20, 2, 0), (7, .if_icmp .ge 17, 3, 24577), (10, .aload_n 0, 1, 0), (11, .getfield 27, 3, 0), (14, .aload_n 0, 1, 0), (15, .getfield 21, 3, 5), (18, .iload_n 1, 1, 0), (19, .iaload, 1, 0), (20, .iadd, 1, 0), (21, .goto 7, 3, 28672), (24, .aload_n 0, 1, 0), (25, .getfield 27, 3, 0), (100028, .nop, 0, 0), (28, .ireturn, 1, 0)]
def pgX0_idleAmong : List En := [(0, .iconst 0, 1, 0), (1, .istore_n 2, 1, 0), (2, .iconst 0, 1, 0), (3, .istore_n 3, 1, 0), (100004, .nop, 0, 15), (4, .iload_n 3, 1, 0), (5, .iload_n 1, 1, 0), (6, .if_icmp .ge 29, 3, 35844), (9, .iload_n 2, 1, 0), (10, .aload_n 0, 1, 0), (11, .iload_n 3, 1, 0), (12, .invokevirtual 101, 3, 17), (15, .aload_n 0, 1, 0), (16, .getfield 27, 3, 0), (19, .if_icmp .ne 7, 3, 26635), (22, .iconst 1, 1, 0), (23, .goto 4, 3, 27659), (26, .iconst 0, 1, 0), (100027, .nop, 0, 11), (27, .iadd, 1, 0), (28, .istore_n 2, 1, 0), (29, .iinc 3 1, 3, 0), (32, .goto (-28), 3, 4111), (35, .iload_n 2, 1, 0), (36, .ireturn, 1, 0)]
def pgX1_count : List En := [(0, .aload_n 0, 1, 0), (1, .iconst 0, 1, 0), (2, .putfield 15, 3, 32), (5, .iconst 0, 1, 0), (6, .istore_n 2, 1, 0), (100007, .nop, 0, 7), (7, .iload_n 2, 1, 0), (8, .bipush 27, 2, 0), (10, .if_icmp .ge 46, 3, 57345), (13, .aload_n 0, 1, 0), (14, .getfield 9, 3, 34), (17, .iconst 3, 1, 0), (18, .iload_n 2, 1, 0), (19, .invokestatic 19, 3, 1139), (22, .iastore, 1, 0), (23, .aload_n 0, 1, 0), (24, .dup, 1, 0), (25, .getfield 15, 3, 32), (28, .iconst 0, 1, 0), (29, .sipush 511, 3, 0), (32, .aload_n 0, 1, 0), (33, .getfield 9, 3, 34), (36, .iconst 3, 1, 0), (37, .iaload, 1, 0), (38, .iconst (-1), 1, 0), (39, .ixor, 1, 0), (40, .iand, 1, 0), (41, .aload_n 0, 1, 0), (42, .aload_n 1, 1, 0), (43, .invokestatic 23, 3, 20), (46, .iadd, 1, 0), (47, .putfield 15, 3, 32), (50, .iinc 2 1, 3, 0), (53, .goto (-46), 3, 7175), (56, .aload_n 0, 1, 0), (57, .iconst 1, 1, 0), (58, .putfield 27, 3, 33), (61, .return_, 1, 0)]
def pgX1_countHands : List En := [(0, .iload_n 0, 1, 0), (1, .ifCond .lt 8, 3, 9216), (4, .iload_n 0, 1, 0), (5, .iconst 3, 1, 0), (6, .if_icmp .lt 5, 3, 11279), (100009, .nop, 0, 0), (9, .iconst 0, 1, 0), (10, .ireturn, 1, 0), (11, .iload_n 0, 1, 0), (12, .iconst 2, 1, 0), (13, .if_icmp .ne 27, 3, 40975), (16, .aload_n 2, 1, 0), (17, .getfield 9, 3, 34), (20, .iload_n 0, 1, 0), (21, .iload_n 1, 1, 0), (22, .iastore, 1, 0), (23, .aload_n 3, 1, 0), (24, .aload_n 2, 1, 0), (25, .getfield 9, 3, 34), (28, .invokevirtual 31, 3, 49), (31, .ifCond .eq 7, 3, 38912), (34, .iconst 1, 1, 0), (35, .goto 4, 3, 39936), (38, .iconst 0, 1, 0), (100039, .nop, 0, 0), (39, .ireturn, 1, 0), (40, .iconst 0, 1, 0), (41, .istore 4, 2, 0), (43, .iconst 0, 1, 0), (44, .istore 5, 2, 0), (100046, .nop, 0, 63), (46, .iload 5, 2, 0), (48, .bipush 9, 2, 0), (50, .if_icmp .ge 75, 3, 128016), (53, .iload 5, 2, 0), (55, .iconst 1, 1, 0), (56, .iadd, 1, 0), (57, .istore 6, 2, 0), (100059, .nop, 0, 127), (59, .iload 6, 2, 0), (61, .bipush 9, 2, 0), (63, .if_icmp .ge 56, 3, 121919), (66, .iconst 1, 1, 0), (67, .iload 5, 2, 0), (69, .ishl, 1, 0), (70, .iconst 1, 1, 0), (71, .iload 6, 2, 0), (73, .ishl, 1, 0), (74, .ior, 1, 0), (75, .istore 7, 2, 0), (77, .iload_n 1, 1, 0), (78, .iload 7, 2, 0), (80, .iand, 1, 0), (81, .iload 7, 2, 0), (83, .if_icmp .ne 30, 3, 115839), (86, .aload_n 2, 1, 0), (87, .getfield 9, 3, 34), (90, .iload_n 0, 1, 0), (91, .iload 7, 2, 0), (93, .iastore, 1, 0), (94, .iload 4, 2, 0), (96, .iload_n 0, 1, 0), (97, .iconst 1, 1, 0), (98, .iadd, 1, 0), (99, .iload_n 1, 1, 0), (100, .iload 7, 2, 0), (102, .iconst (-1), 1, 0), (103, .ixor, 1, 0), (104, .iand, 1, 0), (105, .aload_n 2, 1, 0), (106, .aload_n 3, 1, 0), (107, .invokestatic 23, 3, 20), (110, .iadd, 1, 0), (111, .istore 4, 2, 0), (100113, .nop, 0, 127), (113, .iinc 6 1, 3, 0), (116, .goto (-57), 3, 60543), (119, .iinc 5 1, 3, 0), (122, .goto (-76), 3, 47167), (125, .iload 4, 2, 0), (127, .ireturn, 1, 0)]
def pgX2_fill : List En := [(0, .aload_n 0, 1, 0), (1, .bipush 15, 2, 0), (3, .invokevirtual 15, 3, 22), (6, .bipush 36, 2, 0), (8, .istore_n 2, 1, 0), (9, .iload_n 2, 1, 0), (10, .iconst 1, 1, 0), (11, .iadd, 1, 0), (12, .istore_n 3, 1, 0), (13, .iconst 0, 1, 0), (14, .istore 4, 2, 0), (100016, .nop, 0, 31), (16, .iload 4, 2, 0), (18, .bipush 36, 2, 0), (20, .if_icmp .gt 34, 3, 55299), (23, .iload_n 2, 1, 0), (24, .iload_n 3, 1, 0), (25, .if_icmp .ge 29, 3, 55299), (28, .iload_n 2, 1, 0), (29, .istore_n 3, 1, 0), (30, .aload_n 0, 1, 0), (31, .aload_n 1, 1, 0), (32, .invokevirtual 19, 3, 26), (35, .aload_n 0, 1, 0), (36, .invokevirtual 23, 3, 28), (39, .aload_n 0, 1, 0), (40, .invokevirtual 26, 3, 29), (43, .aload_n 0, 1, 0), (44, .invokevirtual 29, 3, 23), (47, .istore_n 2, 1, 0), (48, .iinc 4 1, 3, 0), (51, .goto (-35), 3, 16415), (54, .aload_n 0, 1, 0), (55, .aload_n 0, 1, 0), (56, .invokevirtual 33, 3, 36), (59, .ifCond .ne 11, 3, 71681), (62, .aload_n 0, 1, 0), (63, .aload_n 1, 1, 0), (64, .invokevirtual 37, 3, 38), (67, .ifCond .eq 7, 3, 75777), (100070, .nop, 0, 1), (70, .iconst 1, 1, 0), (71, .goto 4, 3, 76801), (74, .iconst 0, 1, 0), (100075, .nop, 0, 1), (75, .putfield 41, 3, 64), (78, .aload_n 0, 1, 0), (79, .getfield 41, 3, 64), (82, .ifCond .eq 8, 3, 92161), (85, .aload_n 0, 1, 0), (86, .iconst 0, 1, 0), (87, .invokevirtual 15, 3, 22), (100090, .nop, 0, 1), (90, .aload_n 0, 1, 0), (91, .iconst 1, 1, 0), (92, .putfield 45, 3, 65), (95, .return_, 1, 0)]
def pgX2_setAll : List En := [(0, .iconst 0, 1, 0), (1, .istore_n 2, 1, 0), (100002, .nop, 0, 7), (2, .iload_n 2, 1, 0), (3, .bipush 9, 2, 0), (5, .if_icmp .ge 16, 3, 21504), (8, .aload_n 0, 1, 0), (9, .getfield 9, 3, 66), (12, .iload_n 2, 1, 0), (13, .iload_n 1, 1, 0), (14, .iastore, 1, 0), (15, .iinc 2 1, 3, 0), (18, .goto (-16), 3, 2055), (21, .return_, 1, 0)]
def pgX2_placesLeft : List En := [(0, .iconst 0, 1, 0), (1, .istore_n 1, 1, 0), (2, .iconst 0, 1, 0), (3, .istore_n 2, 1, 0), (100004, .nop, 0, 7), (4, .iload_n 2, 1, 0), (5, .bipush 9, 2, 0), (7, .if_icmp .ge 21, 3, 28674), (10, .iload_n 1, 1, 0), (11, .aload_n 0, 1, 0), (12, .getfield 9, 3, 66), (15, .iload_n 2, 1, 0), (16, .iaload, 1, 0), (17, .invokestatic 48, 3, 260), (20, .iadd, 1, 0), (21, .istore_n 1, 1, 0), (22, .iinc 2 1, 3, 0), (25, .goto (-21), 3, 4103), (28, .iload_n 1, 1, 0), (29, .ireturn, 1, 0)]
def pgX2_has : List En := [(0, .iload_n 1, 1, 0), (1, .ifCond .lt 26, 3, 27648), (4, .iload_n 1, 1, 0), (5, .bipush 9, 2, 0), (7, .if_icmp .ge 20, 3, 27648), (10, .aload_n 0, 1, 0), (11, .getfield 9, 3, 66), (14, .iload_n 1, 1, 0), (15, .iaload, 1, 0), (16, .iconst 1, 1, 0), (17, .iload_n 2, 1, 0), (18, .ishl, 1, 0), (19, .iand, 1, 0), (20, .ifCond .eq 7, 3, 27648), (23, .iconst 1, 1, 0), (24, .goto 4, 3, 28672), (27, .iconst 0, 1, 0), (100028, .nop, 0, 0), (28, .ireturn, 1, 0)]
def pgX2_onlyPlace : List En := [(0, .iconst 0, 1, 0), (1, .istore_n 2, 1, 0), (100002, .nop, 0, 7), (2, .iload_n 2, 1, 0), (3, .iconst 4, 1, 0), (4, .if_icmp .ge 33, 3, 37888), (7, .iload_n 1, 1, 0), (8, .ifCond .lt 23, 3, 31751), (11, .iload_n 1, 1, 0), (12, .bipush 9, 2, 0), (14, .if_icmp .ge 17, 3, 31751), (17, .aload_n 0, 1, 0), (18, .getfield 9, 3, 66), (21, .iload_n 1, 1, 0), (22, .iaload, 1, 0), (23, .iconst 1, 1, 0), (24, .iload_n 2, 1, 0), (25, .ishl, 1, 0), (26, .if_icmp .ne 5, 3, 31751), (29, .iload_n 2, 1, 0), (30, .ireturn, 1, 0), (31, .iinc 2 1, 3, 0), (34, .goto (-32), 3, 2055), (37, .iconst (-1), 1, 0), (38, .ireturn, 1, 0)]
def pgX2_applyClues : List En := [(0, .iconst 0, 1, 0), (1, .istore_n 2, 1, 0), (100002, .nop, 0, 7), (2, .iload_n 2, 1, 0), (3, .aload_n 1, 1, 0), (4, .getfield 54, 3, 100), (7, .if_icmp .ge 37, 3, 45056), (10, .iload_n 2, 1, 0), (11, .bipush 20, 2, 0), (13, .if_icmp .ge 31, 3, 45056), (16, .aload_n 0, 1, 0), (17, .aload_n 1, 1, 0), (18, .getfield 60, 3, 97), (21, .iload_n 2, 1, 0), (22, .iaload, 1, 0), (23, .aload_n 1, 1, 0), (24, .getfield 63, 3, 98), (27, .iload_n 2, 1, 0), (28, .iaload, 1, 0), (29, .aload_n 1, 1, 0), (30, .getfield 66, 3, 99), (33, .iload_n 2, 1, 0), (34, .iaload, 1, 0), (35, .invokevirtual 69, 3, 27), (38, .iinc 2 1, 3, 0), (41, .goto (-39), 3, 2055), (44, .return_, 1, 0)]
def pgX2_applyClue : List En := [(0, .iload_n 1, 1, 0), (1, .tableswitch 67 0 5 #[39, 48, 57, 48, 67, 39], 39, 13), (40, .aload_n 0, 1, 0), (41, .iload_n 3, 1, 0), (42, .iload_n 2, 1, 0), (43, .invokevirtual 73, 3, 32), (46, .goto 29, 3, 76800), (49, .aload_n 0, 1, 0), (50, .iload_n 3, 1, 0), (51, .iload_n 2, 1, 0), (52, .invokevirtual 77, 3, 33), (55, .goto 20, 3, 76800), (58, .aload_n 0, 1, 0), (59, .iconst 1, 1, 0), (60, .iload_n 3, 1, 0), (61, .iload_n 2, 1, 0), (62, .invokevirtual 80, 3, 31), (65, .goto 10, 3, 76800), (68, .aload_n 0, 1, 0), (69, .iconst 2, 1, 0), (70, .iload_n 3, 1, 0), (71, .iload_n 2, 1, 0), (72, .invokevirtual 83, 3, 30), (100075, .nop, 0, 0), (75, .return_, 1, 0)]
def pgX2_applyKinds : List En := [(0, .iconst 0, 1, 0), (1, .istore_n 1, 1, 0), (100002, .nop, 0, 3), (2, .iload_n 1, 1, 0), (3, .iconst 3, 1, 0), (4, .if_icmp .ge 29, 3, 33792), (7, .aload_n 0, 1, 0), (8, .iconst 1, 1, 0), (9, .iload_n 1, 1, 0), (10, .invokestatic 86, 3, 1138), (13, .iconst 3, 1, 0), (14, .invokevirtual 83, 3, 30), (17, .aload_n 0, 1, 0), (18, .iconst 1, 1, 0), (19, .iload_n 1, 1, 0), (20, .invokestatic 86, 3, 1138), (23, .iconst 3, 1, 0), (24, .invokevirtual 80, 3, 31), (27, .iinc 1 1, 3, 0), (30, .goto (-28), 3, 2051), (33, .return_, 1, 0)]
def pgX2_applyPlayers : List En := [(0, .iconst 0, 1, 0), (1, .istore_n 1, 1, 0), (100002, .nop, 0, 3), (2, .iload_n 1, 1, 0), (3, .iconst 3, 1, 0), (4, .if_icmp .ge 27, 3, 31744), (7, .aload_n 0, 1, 0), (8, .iconst 2, 1, 0), (9, .sipush 511, 3, 0), (12, .iload_n 1, 1, 0), (13, .invokevirtual 83, 3, 30), (16, .aload_n 0, 1, 0), (17, .iconst 2, 1, 0), (18, .sipush 511, 3, 0), (21, .iload_n 1, 1, 0), (22, .invokevirtual 80, 3, 31), (25, .iinc 1 1, 3, 0), (28, .goto (-26), 3, 2051), (31, .return_, 1, 0)]
def pgX2_crossIfSure : List En := [(0, .aload_n 0, 1, 0), (1, .iload_n 2, 1, 0), (2, .iload_n 3, 1, 0), (3, .invokevirtual 89, 3, 35), (6, .istore 4, 2, 0), (8, .iload 4, 2, 0), (10, .invokestatic 48, 3, 260), (13, .iload_n 1, 1, 0), (14, .if_icmp .ne 14, 3, 28672), (17, .aload_n 0, 1, 0), (18, .iload_n 2, 1, 0), (19, .iload 4, 2, 0), (21, .iconst (-1), 1, 0), (22, .ixor, 1, 0), (23, .iand, 1, 0), (24, .iload_n 3, 1, 0), (25, .invokevirtual 77, 3, 33), (100028, .nop, 0, 0), (28, .return_, 1, 0)]
def pgX2_keepIfJust : List En := [(0, .aload_n 0, 1, 0), (1, .iload_n 2, 1, 0), (2, .iload_n 3, 1, 0), (3, .invokevirtual 93, 3, 34), (6, .istore 4, 2, 0), (8, .iload 4, 2, 0), (10, .invokestatic 48, 3, 260), (13, .iload_n 1, 1, 0), (14, .if_icmp .ne 10, 3, 24576), (17, .aload_n 0, 1, 0), (18, .iload 4, 2, 0), (20, .iload_n 3, 1, 0), (21, .invokevirtual 73, 3, 32), (100024, .nop, 0, 0), (24, .return_, 1, 0)]
def pgX2_keepOnly : List En := [(0, .iconst 0, 1, 0), (1, .istore_n 3, 1, 0), (100002, .nop, 0, 15), (2, .iload_n 3, 1, 0), (3, .bipush 9, 2, 0), (5, .if_icmp .ge 29, 3, 34816), (8, .iload_n 1, 1, 0), (9, .iconst 1, 1, 0), (10, .iload_n 3, 1, 0), (11, .ishl, 1, 0), (12, .iand, 1, 0), (13, .ifCond .eq 15, 3, 28687), (16, .aload_n 0, 1, 0), (17, .getfield 9, 3, 66), (20, .iload_n 3, 1, 0), (21, .dup2, 1, 0), (22, .iaload, 1, 0), (23, .iconst 1, 1, 0), (24, .iload_n 2, 1, 0), (25, .ishl, 1, 0), (26, .iand, 1, 0), (27, .iastore, 1, 0), (100028, .nop, 0, 15), (28, .iinc 3 1, 3, 0), (31, .goto (-29), 3, 2063), (34, .return_, 1, 0)]
def pgX2_crossOff : List En := [(0, .iconst 0, 1, 0), (1, .istore_n 3, 1, 0), (100002, .nop, 0, 15), (2, .iload_n 3, 1, 0), (3, .bipush 9, 2, 0), (5, .if_icmp .ge 31, 3, 36864), (8, .iload_n 1, 1, 0), (9, .iconst 1, 1, 0), (10, .iload_n 3, 1, 0), (11, .ishl, 1, 0), (12, .iand, 1, 0), (13, .ifCond .eq 17, 3, 30735), (16, .aload_n 0, 1, 0), (17, .getfield 9, 3, 66), (20, .iload_n 3, 1, 0), (21, .dup2, 1, 0), (22, .iaload, 1, 0), (23, .iconst 1, 1, 0), (24, .iload_n 2, 1, 0), (25, .ishl, 1, 0), (26, .iconst (-1), 1, 0), (27, .ixor, 1, 0), (28, .iand, 1, 0), (29, .iastore, 1, 0), (100030, .nop, 0, 15), (30, .iinc 3 1, 3, 0), (33, .goto (-31), 3, 2063), (36, .return_, 1, 0)]
def pgX2_withPlace : List En := [(0, .iconst 0, 1, 0), (1, .istore_n 3, 1, 0), (2, .iconst 0, 1, 0), (3, .istore 4, 2, 0), (100005, .nop, 0, 31), (5, .iload 4, 2, 0), (7, .bipush 9, 2, 0), (9, .if_icmp .ge 39, 3, 49160), (12, .iload_n 1, 1, 0), (13, .iconst 1, 1, 0), (14, .iload 4, 2, 0), (16, .ishl, 1, 0), (17, .iand, 1, 0), (18, .ifCond .eq 24, 3, 43039), (21, .aload_n 0, 1, 0), (22, .getfield 9, 3, 66), (25, .iload 4, 2, 0), (27, .iaload, 1, 0), (28, .iconst 1, 1, 0), (29, .iload_n 2, 1, 0), (30, .ishl, 1, 0), (31, .iand, 1, 0), (32, .ifCond .eq 10, 3, 43039), (35, .iload_n 3, 1, 0), (36, .iconst 1, 1, 0), (37, .iload 4, 2, 0), (39, .ishl, 1, 0), (40, .ior, 1, 0), (41, .istore_n 3, 1, 0), (100042, .nop, 0, 31), (42, .iinc 4 1, 3, 0), (45, .goto (-40), 3, 5151), (48, .iload_n 3, 1, 0), (49, .ireturn, 1, 0)]
def pgX2_withOnly : List En := [(0, .iconst 0, 1, 0), (1, .istore_n 3, 1, 0), (2, .iconst 0, 1, 0), (3, .istore 4, 2, 0), (100005, .nop, 0, 31), (5, .iload 4, 2, 0), (7, .bipush 9, 2, 0), (9, .if_icmp .ge 38, 3, 48136), (12, .iload_n 1, 1, 0), (13, .iconst 1, 1, 0), (14, .iload 4, 2, 0), (16, .ishl, 1, 0), (17, .iand, 1, 0), (18, .ifCond .eq 23, 3, 42015), (21, .aload_n 0, 1, 0), (22, .getfield 9, 3, 66), (25, .iload 4, 2, 0), (27, .iaload, 1, 0), (28, .iconst 1, 1, 0), (29, .iload_n 2, 1, 0), (30, .ishl, 1, 0), (31, .if_icmp .ne 10, 3, 42015), (34, .iload_n 3, 1, 0), (35, .iconst 1, 1, 0), (36, .iload 4, 2, 0), (38, .ishl, 1, 0), (39, .ior, 1, 0), (40, .istore_n 3, 1, 0), (100041, .nop, 0, 31), (41, .iinc 4 1, 3, 0), (44, .goto (-39), 3, 5151), (47, .iload_n 3, 1, 0), (48, .ireturn, 1, 0)]
def pgX2_breaksDown : List En := [(0, .iconst 0, 1, 0), (1, .istore_n 1, 1, 0), (2, .iconst 0, 1, 0), (3, .istore_n 2, 1, 0), (100004, .nop, 0, 7), (4, .iload_n 2, 1, 0), (5, .bipush 9, 2, 0), (7, .if_icmp .ge 28, 3, 35843), (10, .iload_n 1, 1, 0), (11, .ifCond .ne 12, 3, 23557), (14, .aload_n 0, 1, 0), (15, .getfield 9, 3, 66), (18, .iload_n 2, 1, 0), (19, .iaload, 1, 0), (20, .ifCond .ne 7, 3, 27653), (100023, .nop, 0, 5), (23, .iconst 1, 1, 0), (24, .goto 4, 3, 28677), (27, .iconst 0, 1, 0), (100028, .nop, 0, 5), (28, .istore_n 1, 1, 0), (29, .iinc 2 1, 3, 0), (32, .goto (-28), 3, 4103), (35, .iconst 0, 1, 0), (36, .istore_n 2, 1, 0), (100037, .nop, 0, 7), (37, .iload_n 2, 1, 0), (38, .iconst 3, 1, 0), (39, .if_icmp .ge 32, 3, 72707), (42, .iload_n 1, 1, 0), (43, .ifCond .ne 16, 3, 60421), (46, .aload_n 0, 1, 0), (47, .iconst 1, 1, 0), (48, .iload_n 2, 1, 0), (49, .invokestatic 86, 3, 1138), (52, .iconst 3, 1, 0), (53, .invokevirtual 96, 3, 37), (56, .ifCond .ne 7, 3, 64517), (100059, .nop, 0, 5), (59, .iconst 1, 1, 0), (60, .goto 4, 3, 65541), (63, .iconst 0, 1, 0), (100064, .nop, 0, 5), (64, .istore_n 1, 1, 0), (65, .iinc 2 1, 3, 0), (68, .goto (-31), 3, 37895), (71, .iconst 0, 1, 0), (72, .istore_n 2, 1, 0), (100073, .nop, 0, 7), (73, .iload_n 2, 1, 0), (74, .iconst 3, 1, 0), (75, .if_icmp .ge 31, 3, 108546), (78, .iload_n 1, 1, 0), (79, .ifCond .ne 15, 3, 96261), (82, .aload_n 0, 1, 0), (83, .iconst 2, 1, 0), (84, .sipush 511, 3, 0), (87, .iload_n 2, 1, 0), (88, .invokevirtual 96, 3, 37), (91, .ifCond .ne 7, 3, 100357), (100094, .nop, 0, 5), (94, .iconst 1, 1, 0), (95, .goto 4, 3, 101381), (98, .iconst 0, 1, 0), (100099, .nop, 0, 5), (99, .istore_n 1, 1, 0), (100, .iinc 2 1, 3, 0), (103, .goto (-30), 3, 74759), (106, .iload_n 1, 1, 0), (107, .ireturn, 1, 0)]
def pgX2_fits : List En := [(0, .aload_n 0, 1, 0), (1, .iload_n 2, 1, 0), (2, .iload_n 3, 1, 0), (3, .invokevirtual 93, 3, 34), (6, .invokestatic 48, 3, 260), (9, .iload_n 1, 1, 0), (10, .if_icmp .lt 20, 3, 30720), (13, .aload_n 0, 1, 0), (14, .iload_n 2, 1, 0), (15, .iload_n 3, 1, 0), (16, .invokevirtual 89, 3, 35), (19, .invokestatic 48, 3, 260), (22, .iload_n 1, 1, 0), (23, .if_icmp .gt 7, 3, 30720), (26, .iconst 1, 1, 0), (27, .goto 4, 3, 31744), (30, .iconst 0, 1, 0), (100031, .nop, 0, 0), (31, .ireturn, 1, 0)]
def pgX2_breaksClue : List En := [(0, .iconst 0, 1, 0), (1, .istore_n 2, 1, 0), (2, .iconst 0, 1, 0), (3, .istore_n 3, 1, 0), (100004, .nop, 0, 15), (4, .iload_n 3, 1, 0), (5, .aload_n 1, 1, 0), (6, .getfield 54, 3, 100), (9, .if_icmp .ge 85, 3, 96260), (12, .iload_n 3, 1, 0), (13, .bipush 20, 2, 0), (15, .if_icmp .ge 79, 3, 96260), (18, .aload_n 1, 1, 0), (19, .getfield 66, 3, 99), (22, .iload_n 3, 1, 0), (23, .iaload, 1, 0), (24, .istore 4, 2, 0), (26, .aload_n 1, 1, 0), (27, .getfield 63, 3, 98), (30, .iload_n 3, 1, 0), (31, .iaload, 1, 0), (32, .istore 5, 2, 0), (34, .iload_n 2, 1, 0), (35, .ifCond .ne 47, 3, 83979), (38, .aload_n 1, 1, 0), (39, .getfield 60, 3, 97), (42, .iload_n 3, 1, 0), (43, .iaload, 1, 0), (44, .iconst 2, 1, 0), (45, .if_icmp .ne 14, 3, 60475), (48, .aload_n 0, 1, 0), (49, .iload 4, 2, 0), (51, .iload 5, 2, 0), (53, .invokevirtual 93, 3, 34), (56, .ifCond .eq 26, 3, 83979), (100059, .nop, 0, 59), (59, .aload_n 1, 1, 0), (60, .getfield 60, 3, 97), (63, .iload_n 3, 1, 0), (64, .iaload, 1, 0), (65, .iconst 4, 1, 0), (66, .if_icmp .ne 20, 3, 88075), (69, .aload_n 0, 1, 0), (70, .iload 4, 2, 0), (72, .iload 5, 2, 0), (74, .invokevirtual 89, 3, 35), (77, .iload 4, 2, 0), (79, .if_icmp .ne 7, 3, 88075), (100082, .nop, 0, 11), (82, .iconst 1, 1, 0), (83, .goto 4, 3, 89099), (86, .iconst 0, 1, 0), (100087, .nop, 0, 11), (87, .istore_n 2, 1, 0), (88, .iinc 3 1, 3, 0), (91, .goto (-87), 3, 4111), (94, .iload_n 2, 1, 0), (95, .ireturn, 1, 0)]
def pgX3_dealAtFirst : List En := [(0, .aload_n 0, 1, 0), (1, .getfield 9, 3, 96), (4, .iconst 0, 1, 0), (5, .bipush 6, 2, 0), (7, .iastore, 1, 0), (8, .aload_n 0, 1, 0), (9, .getfield 9, 3, 96), (12, .iconst 1, 1, 0), (13, .bipush 48, 2, 0), (15, .iastore, 1, 0), (16, .aload_n 0, 1, 0), (17, .getfield 9, 3, 96), (20, .iconst 2, 1, 0), (21, .sipush 384, 3, 0), (24, .iastore, 1, 0), (25, .aload_n 0, 1, 0), (26, .getfield 9, 3, 96), (29, .iconst 3, 1, 0), (30, .bipush 73, 2, 0), (32, .iastore, 1, 0), (33, .return_, 1, 0)]
def pgX3_copyFrom : List En := [(0, .aload_n 1, 1, 0), (1, .ifnonnull 4, 3, 5123), (4, .return_, 1, 0), (5, .iconst 0, 1, 0), (6, .istore_n 2, 1, 0), (100007, .nop, 0, 7), (7, .iload_n 2, 1, 0), (8, .iconst 4, 1, 0), (9, .if_icmp .ge 21, 3, 30723), (12, .aload_n 0, 1, 0), (13, .getfield 9, 3, 96), (16, .iload_n 2, 1, 0), (17, .aload_n 1, 1, 0), (18, .getfield 9, 3, 96), (21, .iload_n 2, 1, 0), (22, .iaload, 1, 0), (23, .iastore, 1, 0), (24, .iinc 2 1, 3, 0), (27, .goto (-20), 3, 7175), (30, .iconst 0, 1, 0), (31, .istore_n 2, 1, 0), (100032, .nop, 0, 7), (32, .iload_n 2, 1, 0), (33, .bipush 20, 2, 0), (35, .if_icmp .ge 45, 3, 81923), (38, .aload_n 0, 1, 0), (39, .getfield 15, 3, 97), (42, .iload_n 2, 1, 0), (43, .aload_n 1, 1, 0), (44, .getfield 15, 3, 97), (47, .iload_n 2, 1, 0), (48, .iaload, 1, 0), (49, .iastore, 1, 0), (50, .aload_n 0, 1, 0), (51, .getfield 18, 3, 98), (54, .iload_n 2, 1, 0), (55, .aload_n 1, 1, 0), (56, .getfield 18, 3, 98), (59, .iload_n 2, 1, 0), (60, .iaload, 1, 0), (61, .iastore, 1, 0), (62, .aload_n 0, 1, 0), (63, .getfield 21, 3, 99), (66, .iload_n 2, 1, 0), (67, .aload_n 1, 1, 0), (68, .getfield 21, 3, 99), (71, .iload_n 2, 1, 0), (72, .iaload, 1, 0), (73, .iastore, 1, 0), (74, .iinc 2 1, 3, 0), (77, .goto (-45), 3, 32775), (80, .aload_n 0, 1, 0), (81, .aload_n 1, 1, 0), (82, .getfield 24, 3, 100), (85, .putfield 24, 3, 100), (88, .aload_n 0, 1, 0), (89, .aload_n 1, 1, 0), (90, .getfield 28, 3, 101), (93, .putfield 28, 3, 101), (96, .aload_n 0, 1, 0), (97, .aload_n 1, 1, 0), (98, .getfield 31, 3, 102), (101, .putfield 31, 3, 102), (104, .return_, 1, 0)]
def pgX3_add : List En := [(0, .aload_n 0, 1, 0), (1, .getfield 24, 3, 100), (4, .ifCond .lt 52, 3, 57344), (7, .aload_n 0, 1, 0), (8, .getfield 24, 3, 100), (11, .bipush 20, 2, 0), (13, .if_icmp .ge 43, 3, 57344), (16, .aload_n 0, 1, 0), (17, .getfield 15, 3, 97), (20, .aload_n 0, 1, 0), (21, .getfield 24, 3, 100), (24, .iload_n 1, 1, 0), (25, .iastore, 1, 0), (26, .aload_n 0, 1, 0), (27, .getfield 18, 3, 98), (30, .aload_n 0, 1, 0), (31, .getfield 24, 3, 100), (34, .iload_n 2, 1, 0), (35, .iastore, 1, 0), (36, .aload_n 0, 1, 0), (37, .getfield 21, 3, 99), (40, .aload_n 0, 1, 0), (41, .getfield 24, 3, 100), (44, .iload_n 3, 1, 0), (45, .iastore, 1, 0), (46, .aload_n 0, 1, 0), (47, .dup, 1, 0), (48, .getfield 24, 3, 100), (51, .iconst 1, 1, 0), (52, .iadd, 1, 0), (53, .putfield 24, 3, 100), (100056, .nop, 0, 0), (56, .return_, 1, 0)]
def pgX3_remove : List En := [(0, .iload_n 1, 1, 0), (1, .ifCond .lt 11, 3, 12288), (4, .iload_n 1, 1, 0), (5, .aload_n 0, 1, 0), (6, .getfield 24, 3, 100), (9, .if_icmp .lt 4, 3, 13315), (100012, .nop, 0, 0), (12, .return_, 1, 0), (13, .iload_n 1, 1, 0), (14, .iconst 1, 1, 0), (15, .iadd, 1, 0), (16, .istore_n 2, 1, 0), (100017, .nop, 0, 5), (17, .iload_n 2, 1, 0), (18, .aload_n 0, 1, 0), (19, .getfield 24, 3, 100), (22, .if_icmp .ge 57, 3, 80897), (25, .iload_n 2, 1, 0), (26, .bipush 20, 2, 0), (28, .if_icmp .ge 51, 3, 80897), (31, .aload_n 0, 1, 0), (32, .getfield 15, 3, 97), (35, .iload_n 2, 1, 0), (36, .iconst 1, 1, 0), (37, .isub, 1, 0), (38, .aload_n 0, 1, 0), (39, .getfield 15, 3, 97), (42, .iload_n 2, 1, 0), (43, .iaload, 1, 0), (44, .iastore, 1, 0), (45, .aload_n 0, 1, 0), (46, .getfield 18, 3, 98), (49, .iload_n 2, 1, 0), (50, .iconst 1, 1, 0), (51, .isub, 1, 0), (52, .aload_n 0, 1, 0), (53, .getfield 18, 3, 98), (56, .iload_n 2, 1, 0), (57, .iaload, 1, 0), (58, .iastore, 1, 0), (59, .aload_n 0, 1, 0), (60, .getfield 21, 3, 99), (63, .iload_n 2, 1, 0), (64, .iconst 1, 1, 0), (65, .isub, 1, 0), (66, .aload_n 0, 1, 0), (67, .getfield 21, 3, 99), (70, .iload_n 2, 1, 0), (71, .iaload, 1, 0), (72, .iastore, 1, 0), (73, .iinc 2 1, 3, 0), (76, .goto (-59), 3, 17413), (79, .aload_n 0, 1, 0), (80, .dup, 1, 0), (81, .getfield 24, 3, 100), (84, .iconst 1, 1, 0), (85, .isub, 1, 0), (86, .putfield 24, 3, 100), (89, .return_, 1, 0)]
def pgX3_addAnswer : List En := [(0, .aload_n 0, 1, 0), (1, .iload_n 1, 1, 0), (2, .iload_n 2, 1, 0), (3, .invokevirtual 34, 3, 46), (6, .ifCond .eq 7, 3, 13319), (9, .iconst 1, 1, 0), (10, .goto 4, 3, 14343), (13, .iconst 0, 1, 0), (100014, .nop, 0, 7), (14, .istore_n 3, 1, 0), (15, .aload_n 0, 1, 0), (16, .iload_n 3, 1, 0), (17, .ifCond .eq 7, 3, 24590), (20, .iconst 2, 1, 0), (21, .goto 4, 3, 25614), (24, .iconst 3, 1, 0), (100025, .nop, 0, 14), (25, .iload_n 1, 1, 0), (26, .iload_n 2, 1, 0), (27, .invokevirtual 38, 3, 41), (30, .iload_n 3, 1, 0), (31, .ireturn, 1, 0)]
def pgX3_addSight : List En := [(0, .aload_n 0, 1, 0), (1, .iload_n 1, 1, 0), (2, .iload_n 2, 1, 0), (3, .invokevirtual 34, 3, 46), (6, .istore_n 3, 1, 0), (7, .iconst 0, 1, 0), (8, .istore 4, 2, 0), (100010, .nop, 0, 31), (10, .iload 4, 2, 0), (12, .bipush 9, 2, 0), (14, .if_icmp .ge 31, 3, 46087), (17, .iload_n 3, 1, 0), (18, .iconst 1, 1, 0), (19, .iload 4, 2, 0), (21, .ishl, 1, 0), (22, .iand, 1, 0), (23, .ifCond .eq 16, 3, 39967), (26, .aload_n 0, 1, 0), (27, .iconst 0, 1, 0), (28, .iload_n 1, 1, 0), (29, .iconst 1, 1, 0), (30, .iload 4, 2, 0), (32, .ishl, 1, 0), (33, .invokevirtual 38, 3, 41), (36, .iload 4, 2, 0), (38, .ireturn, 1, 0), (39, .iinc 4 1, 3, 0), (42, .goto (-32), 3, 10271), (45, .aload_n 0, 1, 0), (46, .iconst 3, 1, 0), (47, .iload_n 1, 1, 0), (48, .iload_n 2, 1, 0), (49, .invokevirtual 38, 3, 41), (52, .iconst (-1), 1, 0), (53, .ireturn, 1, 0)]
def pgX3_addVerdict : List En := [(0, .aload_n 0, 1, 0), (1, .getfield 9, 3, 96), (4, .iconst 3, 1, 0), (5, .iaload, 1, 0), (6, .iload_n 1, 1, 0), (7, .if_icmp .ne 7, 3, 14339), (10, .iconst 1, 1, 0), (11, .goto 4, 3, 15363), (14, .iconst 0, 1, 0), (100015, .nop, 0, 3), (15, .istore_n 2, 1, 0), (16, .aload_n 0, 1, 0), (17, .iload_n 2, 1, 0), (18, .ifCond .eq 7, 3, 25606), (21, .iconst 5, 1, 0), (22, .goto 4, 3, 26630), (25, .iconst 4, 1, 0), (100026, .nop, 0, 6), (26, .iconst 3, 1, 0), (27, .iload_n 1, 1, 0), (28, .invokevirtual 38, 3, 41), (31, .iload_n 2, 1, 0), (32, .ireturn, 1, 0)]
def pgX3_handOf : List En := [(0, .iload_n 1, 1, 0), (1, .ifCond .lt 19, 3, 20480), (4, .iload_n 1, 1, 0), (5, .iconst 3, 1, 0), (6, .if_icmp .ge 14, 3, 20480), (9, .aload_n 0, 1, 0), (10, .getfield 9, 3, 96), (13, .iload_n 1, 1, 0), (14, .iaload, 1, 0), (15, .iload_n 2, 1, 0), (16, .iand, 1, 0), (17, .goto 4, 3, 21504), (20, .iconst 0, 1, 0), (100021, .nop, 0, 0), (21, .ireturn, 1, 0)]
def pgX3_placeOf : List En := [(0, .iconst 0, 1, 0), (1, .istore_n 2, 1, 0), (100002, .nop, 0, 7), (2, .iload_n 2, 1, 0), (3, .iconst 4, 1, 0), (4, .if_icmp .ge 24, 3, 28672), (7, .aload_n 0, 1, 0), (8, .getfield 9, 3, 96), (11, .iload_n 2, 1, 0), (12, .iaload, 1, 0), (13, .iconst 1, 1, 0), (14, .iload_n 1, 1, 0), (15, .ishl, 1, 0), (16, .iand, 1, 0), (17, .ifCond .eq 5, 3, 22535), (20, .iload_n 2, 1, 0), (21, .ireturn, 1, 0), (22, .iinc 2 1, 3, 0), (25, .goto (-23), 3, 2055), (28, .iconst (-1), 1, 0), (29, .ireturn, 1, 0)]
def pgX3_agrees : List En := [(0, .iload_n 1, 1, 0), (1, .ifCond .lt 29, 3, 30720), (4, .iload_n 1, 1, 0), (5, .bipush 20, 2, 0), (7, .if_icmp .ge 23, 3, 30720), (10, .aload_n 0, 1, 0), (11, .getfield 18, 3, 98), (14, .iload_n 1, 1, 0), (15, .iaload, 1, 0), (16, .ifCond .lt 14, 3, 30720), (19, .aload_n 0, 1, 0), (20, .getfield 18, 3, 98), (23, .iload_n 1, 1, 0), (24, .iaload, 1, 0), (25, .aload_n 2, 1, 0), (26, .arraylength, 1, 0), (27, .if_icmp .lt 5, 3, 32775), (100030, .nop, 0, 0), (30, .iconst 1, 1, 0), (31, .ireturn, 1, 0), (32, .aload_n 2, 1, 0), (33, .aload_n 0, 1, 0), (34, .getfield 18, 3, 98), (37, .iload_n 1, 1, 0), (38, .iaload, 1, 0), (39, .iaload, 1, 0), (40, .aload_n 0, 1, 0), (41, .getfield 21, 3, 99), (44, .iload_n 1, 1, 0), (45, .iaload, 1, 0), (46, .iand, 1, 0), (47, .istore_n 3, 1, 0), (48, .aload_n 0, 1, 0), (49, .getfield 15, 3, 97), (52, .iload_n 1, 1, 0), (53, .iaload, 1, 0), (54, .tableswitch 70 0 4 #[34, 44, 34, 44, 54], 34, 11), (88, .iload_n 3, 1, 0), (89, .ifCond .eq 7, 3, 98304), (92, .iconst 1, 1, 0), (93, .goto 4, 3, 99328), (96, .iconst 0, 1, 0), (100097, .nop, 0, 0), (97, .ireturn, 1, 0), (98, .iload_n 3, 1, 0), (99, .ifCond .ne 7, 3, 108544), (102, .iconst 1, 1, 0), (103, .goto 4, 3, 109568), (106, .iconst 0, 1, 0), (100107, .nop, 0, 0), (107, .ireturn, 1, 0), (108, .iload_n 3, 1, 0), (109, .aload_n 0, 1, 0), (110, .getfield 21, 3, 99), (113, .iload_n 1, 1, 0), (114, .iaload, 1, 0), (115, .if_icmp .eq 7, 3, 124928), (118, .iconst 1, 1, 0), (119, .goto 4, 3, 125952), (122, .iconst 0, 1, 0), (100123, .nop, 0, 0), (123, .ireturn, 1, 0), (124, .iload_n 3, 1, 0), (125, .aload_n 0, 1, 0), (126, .getfield 21, 3, 99), (129, .iload_n 1, 1, 0), (130, .iaload, 1, 0), (131, .if_icmp .ne 7, 3, 141312), (134, .iconst 1, 1, 0), (135, .goto 4, 3, 142336), (138, .iconst 0, 1, 0), (100139, .nop, 0, 0), (139, .ireturn, 1, 0)]
def pgX3_agreesWithAll : List En := [(0, .iconst 0, 1, 0), (1, .istore_n 2, 1, 0), (100002, .nop, 0, 7), (2, .iload_n 2, 1, 0), (3, .aload_n 0, 1, 0), (4, .getfield 24, 3, 100), (7, .if_icmp .ge 20, 3, 27648), (10, .aload_n 0, 1, 0), (11, .iload_n 2, 1, 0), (12, .aload_n 1, 1, 0), (13, .invokevirtual 42, 3, 48), (16, .ifCond .ne 5, 3, 21511), (19, .iconst 0, 1, 0), (20, .ireturn, 1, 0), (21, .iinc 2 1, 3, 0), (24, .goto (-22), 3, 2055), (27, .iconst 1, 1, 0), (28, .ireturn, 1, 0)]
def pgX4_begin : List En := [(0, .aload_n 0, 1, 0), (1, .iconst 0, 1, 0), (2, .putfield 11, 3, 131), (5, .return_, 1, 0)]
def pgX4_mayEnd : List En := [(0, .aload_n 0, 1, 0), (1, .getfield 11, 3, 131), (4, .iconst 4, 1, 0), (5, .if_icmp .ne 7, 3, 12288), (8, .iconst 1, 1, 0), (9, .goto 4, 3, 13312), (12, .iconst 0, 1, 0), (100013, .nop, 0, 0), (13, .ireturn, 1, 0)]
def pgX4_take : List En := [(0, .aload_n 0, 1, 0), (1, .getfield 11, 3, 131), (4, .tableswitch 67 0 3 #[32, 38, 44, 61], 32, 3), (36, .aload_n 0, 1, 0), (37, .iload_n 1, 1, 0), (38, .invokevirtual 15, 3, 53), (41, .ireturn, 1, 0), (42, .aload_n 0, 1, 0), (43, .iload_n 1, 1, 0), (44, .invokevirtual 19, 3, 54), (47, .ireturn, 1, 0), (48, .aload_n 0, 1, 0), (49, .iconst 3, 1, 0), (50, .putfield 11, 3, 131), (53, .iload_n 1, 1, 0), (54, .bipush 58, 2, 0), (56, .if_icmp .ne 7, 3, 64512), (59, .iconst 1, 1, 0), (60, .goto 4, 3, 65536), (63, .iconst 0, 1, 0), (100064, .nop, 0, 0), (64, .ireturn, 1, 0), (65, .aload_n 0, 1, 0), (66, .iload_n 1, 1, 0), (67, .invokevirtual 22, 3, 55), (70, .ireturn, 1, 0), (71, .aload_n 0, 1, 0), (72, .iload_n 1, 1, 0), (73, .invokevirtual 25, 3, 56), (76, .ireturn, 1, 0)]
def pgX4_takeLetter : List En := [(0, .aload_n 0, 1, 0), (1, .iload_n 1, 1, 0), (2, .putfield 28, 3, 128), (5, .aload_n 0, 1, 0), (6, .iload_n 1, 1, 0), (7, .invokestatic 31, 3, 58), (10, .ifCond .eq 7, 3, 17410), (13, .iconst 1, 1, 0), (14, .goto 4, 3, 18434), (17, .iconst 3, 1, 0), (100018, .nop, 0, 2), (18, .putfield 11, 3, 131), (21, .iload_n 1, 1, 0), (22, .invokestatic 34, 3, 59), (25, .ifCond .le 7, 3, 32768), (28, .iconst 1, 1, 0), (29, .goto 4, 3, 33792), (32, .iconst 0, 1, 0), (100033, .nop, 0, 0), (33, .ireturn, 1, 0)]
def pgX4_takePlayer : List En := [(0, .aload_n 0, 1, 0), (1, .iload_n 1, 1, 0), (2, .bipush 48, 2, 0), (4, .isub, 1, 0), (5, .putfield 38, 3, 129), (8, .aload_n 0, 1, 0), (9, .iconst 2, 1, 0), (10, .putfield 11, 3, 131), (13, .aload_n 0, 1, 0), (14, .getfield 38, 3, 129), (17, .ifCond .lt 15, 3, 32768), (20, .aload_n 0, 1, 0), (21, .getfield 38, 3, 129), (24, .iconst 3, 1, 0), (25, .if_icmp .ge 7, 3, 32768), (28, .iconst 1, 1, 0), (29, .goto 4, 3, 33792), (32, .iconst 0, 1, 0), (100033, .nop, 0, 0), (33, .ireturn, 1, 0)]
def pgX4_takeFirstDigit : List En := [(0, .aload_n 0, 1, 0), (1, .iload_n 1, 1, 0), (2, .bipush 48, 2, 0), (4, .isub, 1, 0), (5, .putfield 41, 3, 130), (8, .aload_n 0, 1, 0), (9, .iconst 4, 1, 0), (10, .putfield 11, 3, 131), (13, .iload_n 1, 1, 0), (14, .invokestatic 44, 3, 57), (17, .ifCond .eq 21, 3, 38912), (20, .aload_n 0, 1, 0), (21, .getfield 41, 3, 130), (24, .aload_n 0, 1, 0), (25, .getfield 28, 3, 128), (28, .invokestatic 34, 3, 59), (31, .if_icmp .ge 7, 3, 38912), (34, .iconst 1, 1, 0), (35, .goto 4, 3, 39936), (38, .iconst 0, 1, 0), (100039, .nop, 0, 0), (39, .ireturn, 1, 0)]
def pgX4_takeMore : List En := [(0, .iload_n 1, 1, 0), (1, .bipush 59, 2, 0), (3, .if_icmp .ne 10, 3, 13315), (6, .aload_n 0, 1, 0), (7, .iconst 0, 1, 0), (8, .putfield 11, 3, 131), (11, .iconst 1, 1, 0), (12, .ireturn, 1, 0), (13, .iload_n 1, 1, 0), (14, .invokestatic 44, 3, 57), (17, .ifCond .eq 10, 3, 27648), (20, .aload_n 0, 1, 0), (21, .getfield 41, 3, 130), (24, .ifCond .ne 5, 3, 29699), (100027, .nop, 0, 0), (27, .iconst 0, 1, 0), (28, .ireturn, 1, 0), (29, .aload_n 0, 1, 0), (30, .bipush 10, 2, 0), (32, .aload_n 0, 1, 0), (33, .getfield 41, 3, 130), (36, .imul, 1, 0), (37, .iload_n 1, 1, 0), (38, .iadd, 1, 0), (39, .bipush 48, 2, 0), (41, .isub, 1, 0), (42, .putfield 41, 3, 130), (45, .aload_n 0, 1, 0), (46, .getfield 41, 3, 130), (49, .aload_n 0, 1, 0), (50, .getfield 28, 3, 128), (53, .invokestatic 34, 3, 59), (56, .if_icmp .ge 7, 3, 64512), (59, .iconst 1, 1, 0), (60, .goto 4, 3, 65536), (63, .iconst 0, 1, 0), (100064, .nop, 0, 0), (64, .ireturn, 1, 0)]
def pgX4_isDigit : List En := [(0, .iload_n 0, 1, 0), (1, .bipush 48, 2, 0), (3, .if_icmp .lt 13, 3, 16384), (6, .iload_n 0, 1, 0), (7, .bipush 57, 2, 0), (9, .if_icmp .gt 7, 3, 16384), (12, .iconst 1, 1, 0), (13, .goto 4, 3, 17408), (16, .iconst 0, 1, 0), (100017, .nop, 0, 0), (17, .ireturn, 1, 0)]
def pgX4_namesPlayer : List En := [(0, .iload_n 0, 1, 0), (1, .bipush 104, 2, 0), (3, .if_icmp .eq 33, 3, 36864), (6, .iload_n 0, 1, 0), (7, .bipush 108, 2, 0), (9, .if_icmp .eq 27, 3, 36864), (12, .iload_n 0, 1, 0), (13, .bipush 115, 2, 0), (15, .if_icmp .eq 21, 3, 36864), (18, .iload_n 0, 1, 0), (19, .bipush 112, 2, 0), (21, .if_icmp .eq 15, 3, 36864), (24, .iload_n 0, 1, 0), (25, .bipush 97, 2, 0), (27, .if_icmp .eq 9, 3, 36864), (30, .iload_n 0, 1, 0), (31, .bipush 118, 2, 0), (33, .if_icmp .ne 7, 3, 40960), (100036, .nop, 0, 0), (36, .iconst 1, 1, 0), (37, .goto 4, 3, 41984), (40, .iconst 0, 1, 0), (100041, .nop, 0, 0), (41, .ireturn, 1, 0)]
def pgX4_limitOf : List En := [(0, .iload_n 0, 1, 0), (1, .lookupswitch 100 #[(33, 94), (97, 94), (104, 91), (105, 94), (108, 91), (110, 94), (112, 94), (115, 94), (118, 94), (120, 97)], 91, 0), (92, .bipush 9, 2, 0), (94, .ireturn, 1, 0), (95, .bipush 27, 2, 0), (97, .ireturn, 1, 0), (98, .bipush 20, 2, 0), (100, .ireturn, 1, 0), (101, .iconst 0, 1, 0), (102, .ireturn, 1, 0)]
def pgX5_exchange : List En := [(0, .iload_n 1, 1, 0), (1, .invokestatic 58, 3, 128), (4, .iload_n 2, 1, 0), (5, .invokestatic 58, 3, 128), (8, .aload_n 0, 1, 0), (9, .getfield 10, 3, 160), (12, .getfield 62, 3, 96), (15, .iconst 3, 1, 0), (16, .iaload, 1, 0), (17, .iload_n 1, 1, 0), (18, .iload_n 2, 1, 0), (19, .invokestatic 65, 3, 142), (22, .invokestatic 69, 3, 141), (25, .ifCond .ne 13, 3, 38919), (28, .new 73, 3, 1), (31, .dup, 1, 0), (32, .ldc 75, 2, 0), (34, .invokespecial 77, 3, 0), (37, .athrow, 1, 0), (38, .aload_n 0, 1, 0), (39, .invokevirtual 80, 3, 122), (42, .iconst 0, 1, 0), (43, .istore_n 3, 1, 0), (100044, .nop, 0, 15), (44, .iload_n 3, 1, 0), (45, .iconst 4, 1, 0), (46, .if_icmp .ge 32, 3, 79873), (49, .aload_n 0, 1, 0), (50, .getfield 10, 3, 160), (53, .getfield 62, 3, 96), (56, .iload_n 3, 1, 0), (57, .aload_n 0, 1, 0), (58, .getfield 10, 3, 160), (61, .getfield 62, 3, 96), (64, .iload_n 3, 1, 0), (65, .iaload, 1, 0), (66, .iload_n 1, 1, 0), (67, .iload_n 2, 1, 0), (68, .invokestatic 65, 3, 142), (71, .iastore, 1, 0), (72, .iinc 3 1, 3, 0), (75, .goto (-31), 3, 45071), (78, .aload_n 0, 1, 0), (79, .getfield 10, 3, 160), (82, .getfield 62, 3, 96), (85, .iconst 3, 1, 0), (86, .iaload, 1, 0), (87, .invokestatic 83, 3, 140), (90, .ireturn, 1, 0)]
def pgX5_noteHas : List En := [(0, .iload_n 1, 1, 0), (1, .invokestatic 87, 3, 129), (4, .iload_n 2, 1, 0), (5, .invokestatic 58, 3, 128), (8, .aload_n 0, 1, 0), (9, .invokevirtual 90, 3, 134), (12, .aload_n 0, 1, 0), (13, .invokevirtual 80, 3, 122), (16, .aload_n 0, 1, 0), (17, .getfield 10, 3, 160), (20, .iconst 0, 1, 0), (21, .iload_n 1, 1, 0), (22, .iconst 1, 1, 0), (23, .iload_n 2, 1, 0), (24, .ishl, 1, 0), (25, .invokevirtual 93, 3, 41), (28, .aload_n 0, 1, 0), (29, .getfield 10, 3, 160), (32, .getfield 97, 3, 100), (35, .ireturn, 1, 0)]
def pgX5_noteLacks : List En := [(0, .iload_n 1, 1, 0), (1, .invokestatic 87, 3, 129), (4, .iload_n 2, 1, 0), (5, .invokestatic 58, 3, 128), (8, .aload_n 0, 1, 0), (9, .invokevirtual 90, 3, 134), (12, .aload_n 0, 1, 0), (13, .invokevirtual 80, 3, 122), (16, .aload_n 0, 1, 0), (17, .getfield 10, 3, 160), (20, .iconst 1, 1, 0), (21, .iload_n 1, 1, 0), (22, .iconst 1, 1, 0), (23, .iload_n 2, 1, 0), (24, .ishl, 1, 0), (25, .invokevirtual 93, 3, 41), (28, .aload_n 0, 1, 0), (29, .getfield 10, 3, 160), (32, .getfield 97, 3, 100), (35, .ireturn, 1, 0)]
def pgX5_noteShows : List En := [(0, .iload_n 1, 1, 0), (1, .invokestatic 87, 3, 129), (4, .iload_n 2, 1, 0), (5, .iload_n 3, 1, 0), (6, .iload 4, 2, 0), (8, .invokestatic 101, 3, 132), (11, .aload_n 0, 1, 0), (12, .invokevirtual 90, 3, 134), (15, .aload_n 0, 1, 0), (16, .invokevirtual 80, 3, 122), (19, .aload_n 0, 1, 0), (20, .getfield 10, 3, 160), (23, .iconst 2, 1, 0), (24, .iload_n 1, 1, 0), (25, .iload_n 2, 1, 0), (26, .iload_n 3, 1, 0), (27, .iload 4, 2, 0), (29, .invokestatic 104, 3, 137), (32, .invokevirtual 93, 3, 41), (35, .aload_n 0, 1, 0), (36, .getfield 10, 3, 160), (39, .getfield 97, 3, 100), (42, .ireturn, 1, 0)]
def pgX5_dropClue : List En := [(0, .aload_n 0, 1, 0), (1, .iload_n 1, 1, 0), (2, .invokevirtual 107, 3, 133), (5, .aload_n 0, 1, 0), (6, .invokevirtual 80, 3, 122), (9, .aload_n 0, 1, 0), (10, .getfield 10, 3, 160), (13, .iload_n 1, 1, 0), (14, .invokevirtual 110, 3, 42), (17, .aload_n 0, 1, 0), (18, .getfield 10, 3, 160), (21, .getfield 97, 3, 100), (24, .ireturn, 1, 0)]
def pgX5_dropAll : List En := [(0, .aload_n 0, 1, 0), (1, .invokevirtual 80, 3, 122), (4, .aload_n 0, 1, 0), (5, .getfield 10, 3, 160), (8, .getfield 97, 3, 100), (11, .istore_n 1, 1, 0), (12, .aload_n 0, 1, 0), (13, .getfield 10, 3, 160), (16, .iconst 0, 1, 0), (17, .putfield 97, 3, 100), (20, .iload_n 1, 1, 0), (21, .ireturn, 1, 0)]
def pgX5_ask : List En := [(0, .iload_n 1, 1, 0), (1, .invokestatic 87, 3, 129), (4, .iload_n 2, 1, 0), (5, .iload_n 3, 1, 0), (6, .iload 4, 2, 0), (8, .invokestatic 101, 3, 132), (11, .aload_n 0, 1, 0), (12, .invokevirtual 90, 3, 134), (15, .aload_n 0, 1, 0), (16, .invokevirtual 80, 3, 122), (19, .aload_n 0, 1, 0), (20, .getfield 10, 3, 160), (23, .iload_n 1, 1, 0), (24, .iload_n 2, 1, 0), (25, .iload_n 3, 1, 0), (26, .iload 4, 2, 0), (28, .invokestatic 104, 3, 137), (31, .invokevirtual 113, 3, 43), (34, .ireturn, 1, 0)]
def pgX5_look : List En := [(0, .iload_n 1, 1, 0), (1, .invokestatic 87, 3, 129), (4, .iload_n 2, 1, 0), (5, .iload_n 3, 1, 0), (6, .iload 4, 2, 0), (8, .invokestatic 101, 3, 132), (11, .aload_n 0, 1, 0), (12, .invokevirtual 90, 3, 134), (15, .aload_n 0, 1, 0), (16, .invokevirtual 80, 3, 122), (19, .aload_n 0, 1, 0), (20, .getfield 10, 3, 160), (23, .iload_n 1, 1, 0), (24, .iload_n 2, 1, 0), (25, .iload_n 3, 1, 0), (26, .iload 4, 2, 0), (28, .invokestatic 104, 3, 137), (31, .invokevirtual 117, 3, 44), (34, .ireturn, 1, 0)]
def pgX5_accuse : List En := [(0, .iload_n 1, 1, 0), (1, .iload_n 2, 1, 0), (2, .iload_n 3, 1, 0), (3, .invokestatic 101, 3, 132), (6, .aload_n 0, 1, 0), (7, .invokevirtual 90, 3, 134), (10, .aload_n 0, 1, 0), (11, .invokevirtual 80, 3, 122), (14, .aload_n 0, 1, 0), (15, .getfield 10, 3, 160), (18, .iload_n 1, 1, 0), (19, .iload_n 2, 1, 0), (20, .iload_n 3, 1, 0), (21, .invokestatic 104, 3, 137), (24, .invokevirtual 121, 3, 45), (27, .ireturn, 1, 0)]
def pgX5_append : List En := [(0, .iload_n 1, 1, 0), (1, .bipush 33, 2, 0), (3, .if_icmp .lt 9, 3, 12288), (6, .iload_n 1, 1, 0), (7, .bipush 126, 2, 0), (9, .if_icmp .le 13, 3, 22531), (100012, .nop, 0, 0), (12, .new 124, 3, 2), (15, .dup, 1, 0), (16, .ldc 126, 2, 0), (18, .invokespecial 128, 3, 0), (21, .athrow, 1, 0), (22, .aload_n 0, 1, 0), (23, .getfield 129, 3, 170), (26, .ifCond .lt 12, 3, 38912), (29, .aload_n 0, 1, 0), (30, .getfield 129, 3, 170), (33, .bipush 60, 2, 0), (35, .if_icmp .lt 13, 3, 49155), (100038, .nop, 0, 0), (38, .new 73, 3, 1), (41, .dup, 1, 0), (42, .ldc 132, 2, 0), (44, .invokespecial 77, 3, 0), (47, .athrow, 1, 0), (48, .aload_n 0, 1, 0), (49, .getfield 23, 3, 163), (52, .aload_n 0, 1, 0), (53, .getfield 129, 3, 170), (56, .iload_n 1, 1, 0), (57, .iastore, 1, 0), (58, .aload_n 0, 1, 0), (59, .dup, 1, 0), (60, .getfield 129, 3, 170), (63, .iconst 1, 1, 0), (64, .iadd, 1, 0), (65, .putfield 129, 3, 170), (68, .aload_n 0, 1, 0), (69, .getfield 129, 3, 170), (72, .ireturn, 1, 0)]
def pgX5_clearBuffer : List En := [(0, .aload_n 0, 1, 0), (1, .getfield 129, 3, 170), (4, .istore_n 1, 1, 0), (5, .aload_n 0, 1, 0), (6, .iconst 0, 1, 0), (7, .putfield 129, 3, 170), (10, .iload_n 1, 1, 0), (11, .ireturn, 1, 0)]
def pgX5_firstError : List En := [(0, .aload_n 0, 1, 0), (1, .getfield 30, 3, 164), (4, .invokevirtual 134, 3, 50), (7, .iconst 0, 1, 0), (8, .istore_n 1, 1, 0), (100009, .nop, 0, 3), (9, .iload_n 1, 1, 0), (10, .aload_n 0, 1, 0), (11, .getfield 129, 3, 170), (14, .if_icmp .ge 33, 3, 48129), (17, .iload_n 1, 1, 0), (18, .bipush 60, 2, 0), (20, .if_icmp .ge 27, 3, 48129), (23, .aload_n 0, 1, 0), (24, .getfield 30, 3, 164), (27, .aload_n 0, 1, 0), (28, .getfield 23, 3, 163), (31, .iload_n 1, 1, 0), (32, .iaload, 1, 0), (33, .invokevirtual 137, 3, 52), (36, .ifCond .ne 5, 3, 41987), (39, .iload_n 1, 1, 0), (40, .ireturn, 1, 0), (41, .iinc 1 1, 3, 0), (44, .goto (-35), 3, 9219), (47, .aload_n 0, 1, 0), (48, .getfield 129, 3, 170), (51, .ireturn, 1, 0)]
def pgX5_work : List En := [(0, .aload_n 0, 1, 0), (1, .invokevirtual 140, 3, 71), (4, .aload_n 0, 1, 0), (5, .getfield 129, 3, 170), (8, .if_icmp .lt 13, 3, 21504), (11, .aload_n 0, 1, 0), (12, .getfield 30, 3, 164), (15, .invokevirtual 144, 3, 51), (18, .ifCond .ne 13, 3, 31745), (100021, .nop, 0, 0), (21, .new 124, 3, 2), (24, .dup, 1, 0), (25, .ldc 148, 2, 0), (27, .invokespecial 128, 3, 0), (30, .athrow, 1, 0), (31, .aload_n 0, 1, 0), (32, .invokevirtual 80, 3, 122), (35, .iconst 0, 1, 0), (36, .istore_n 1, 1, 0), (37, .iconst 0, 1, 0), (38, .istore_n 2, 1, 0), (39, .aload_n 0, 1, 0), (40, .getfield 30, 3, 164), (43, .invokevirtual 134, 3, 50), (46, .iconst 0, 1, 0), (47, .istore_n 3, 1, 0), (100048, .nop, 0, 15), (48, .iload_n 3, 1, 0), (49, .aload_n 0, 1, 0), (50, .getfield 129, 3, 170), (53, .if_icmp .gt 95, 3, 151559), (56, .iload_n 2, 1, 0), (57, .ifCond .ne 91, 3, 151559), (60, .iload_n 3, 1, 0), (61, .aload_n 0, 1, 0), (62, .getfield 129, 3, 170), (65, .if_icmp .ge 18, 3, 85007), (68, .iload_n 3, 1, 0), (69, .bipush 60, 2, 0), (71, .if_icmp .ge 12, 3, 85007), (74, .aload_n 0, 1, 0), (75, .getfield 23, 3, 163), (78, .iload_n 3, 1, 0), (79, .iaload, 1, 0), (80, .goto 5, 3, 87055), (83, .bipush 59, 2, 0), (100085, .nop, 0, 15), (85, .istore 4, 2, 0), (87, .iload 4, 2, 0), (89, .bipush 59, 2, 0), (91, .if_icmp .ne 41, 3, 135199), (94, .aload_n 0, 1, 0), (95, .aload_n 0, 1, 0), (96, .getfield 30, 3, 164), (99, .getfield 150, 3, 128), (102, .aload_n 0, 1, 0), (103, .getfield 30, 3, 164), (106, .getfield 153, 3, 129), (109, .aload_n 0, 1, 0), (110, .getfield 30, 3, 164), (113, .getfield 156, 3, 130), (116, .invokevirtual 159, 3, 120), (119, .istore_n 2, 1, 0), (120, .iload_n 2, 1, 0), (121, .ifCond .ne 9, 3, 133151), (124, .iload_n 1, 1, 0), (125, .iconst 1, 1, 0), (126, .iadd, 1, 0), (127, .goto 4, 3, 134173), (130, .iload_n 1, 1, 0), (100131, .nop, 0, 29), (131, .istore_n 1, 1, 0), (100132, .nop, 0, 31), (132, .aload_n 0, 1, 0), (133, .getfield 30, 3, 164), (136, .iload 4, 2, 0), (138, .invokevirtual 137, 3, 52), (141, .pop, 1, 0), (142, .iinc 3 1, 3, 0), (145, .goto (-97), 3, 49167), (148, .aload_n 0, 1, 0), (149, .getfield 10, 3, 160), (152, .iload_n 2, 1, 0), (153, .putfield 162, 3, 102), (156, .aload_n 0, 1, 0), (157, .getfield 10, 3, 160), (160, .iload_n 2, 1, 0), (161, .ifCond .ne 7, 3, 172035), (164, .iconst 0, 1, 0), (165, .goto 4, 3, 173059), (168, .iload_n 1, 1, 0), (100169, .nop, 0, 3), (169, .putfield 165, 3, 101), (172, .aload_n 0, 1, 0), (173, .iconst 0, 1, 0), (174, .putfield 129, 3, 170), (177, .iload_n 1, 1, 0), (178, .ireturn, 1, 0)]
def pgX5_hasStopped : List En := [(0, .aload_n 0, 1, 0), (1, .getfield 10, 3, 160), (4, .getfield 162, 3, 102), (7, .ifCond .eq 7, 3, 14336), (10, .iconst 1, 1, 0), (11, .goto 4, 3, 15360), (14, .iconst 0, 1, 0), (100015, .nop, 0, 0), (15, .ireturn, 1, 0)]
def pgX5_stoppedPart : List En := [(0, .aload_n 0, 1, 0), (1, .invokevirtual 168, 3, 135), (4, .aload_n 0, 1, 0), (5, .getfield 10, 3, 160), (8, .getfield 165, 3, 101), (11, .ireturn, 1, 0)]
def pgX5_whyStopped : List En := [(0, .aload_n 0, 1, 0), (1, .invokevirtual 168, 3, 135), (4, .aload_n 0, 1, 0), (5, .getfield 10, 3, 160), (8, .getfield 162, 3, 102), (11, .ireturn, 1, 0)]
def pgX5_undo : List En := [(0, .aload_n 0, 1, 0), (1, .getfield 171, 3, 168), (4, .ifCond .le 11, 3, 15360), (7, .aload_n 0, 1, 0), (8, .getfield 171, 3, 168), (11, .iconst 5, 1, 0), (12, .if_icmp .le 13, 3, 25601), (100015, .nop, 0, 0), (15, .new 73, 3, 1), (18, .dup, 1, 0), (19, .ldc 174, 2, 0), (21, .invokespecial 77, 3, 0), (24, .athrow, 1, 0), (25, .aload_n 0, 1, 0), (26, .dup, 1, 0), (27, .getfield 171, 3, 168), (30, .iconst 1, 1, 0), (31, .isub, 1, 0), (32, .putfield 171, 3, 168), (35, .aload_n 0, 1, 0), (36, .getfield 10, 3, 160), (39, .aload_n 0, 1, 0), (40, .getfield 19, 3, 162), (43, .aload_n 0, 1, 0), (44, .getfield 171, 3, 168), (47, .aaload, 1, 0), (48, .invokevirtual 176, 3, 40), (51, .aload_n 0, 1, 0), (52, .invokevirtual 180, 3, 124), (55, .aload_n 0, 1, 0), (56, .getfield 171, 3, 168), (59, .ireturn, 1, 0)]
def pgX5_keep : List En := [(0, .aload_n 0, 1, 0), (1, .getfield 16, 3, 161), (4, .aload_n 0, 1, 0), (5, .getfield 10, 3, 160), (8, .invokevirtual 176, 3, 40), (11, .aload_n 0, 1, 0), (12, .iconst 1, 1, 0), (13, .putfield 183, 3, 169), (16, .aload_n 0, 1, 0), (17, .getfield 10, 3, 160), (20, .getfield 97, 3, 100), (23, .ireturn, 1, 0)]
def pgX5_restore : List En := [(0, .aload_n 0, 1, 0), (1, .getfield 183, 3, 169), (4, .ifCond .ne 13, 3, 17409), (7, .new 73, 3, 1), (10, .dup, 1, 0), (11, .ldc 187, 2, 0), (13, .invokespecial 77, 3, 0), (16, .athrow, 1, 0), (17, .aload_n 0, 1, 0), (18, .invokevirtual 80, 3, 122), (21, .aload_n 0, 1, 0), (22, .getfield 10, 3, 160), (25, .aload_n 0, 1, 0), (26, .getfield 16, 3, 161), (29, .invokevirtual 176, 3, 40), (32, .aload_n 0, 1, 0), (33, .getfield 10, 3, 160), (36, .getfield 97, 3, 100), (39, .ireturn, 1, 0)]
def pgX5_savedStates : List En := [(0, .aload_n 0, 1, 0), (1, .getfield 171, 3, 168), (4, .ireturn, 1, 0)]
def pgX5_truePlace : List En := [(0, .iload_n 1, 1, 0), (1, .invokestatic 58, 3, 128), (4, .aload_n 0, 1, 0), (5, .getfield 10, 3, 160), (8, .iload_n 1, 1, 0), (9, .invokevirtual 189, 3, 47), (12, .ireturn, 1, 0)]
def pgX5_trueEnvelope : List En := [(0, .aload_n 0, 1, 0), (1, .getfield 10, 3, 160), (4, .getfield 62, 3, 96), (7, .iconst 3, 1, 0), (8, .iaload, 1, 0), (9, .invokestatic 83, 3, 140), (12, .ireturn, 1, 0)]
def pgX5_clues : List En := [(0, .aload_n 0, 1, 0), (1, .getfield 10, 3, 160), (4, .getfield 97, 3, 100), (7, .ireturn, 1, 0)]
def pgX5_kindOf : List En := [(0, .aload_n 0, 1, 0), (1, .iload_n 1, 1, 0), (2, .invokevirtual 107, 3, 133), (5, .aload_n 0, 1, 0), (6, .getfield 10, 3, 160), (9, .getfield 192, 3, 97), (12, .iload_n 1, 1, 0), (13, .iaload, 1, 0), (14, .ireturn, 1, 0)]
def pgX5_playerOf : List En := [(0, .aload_n 0, 1, 0), (1, .iload_n 1, 1, 0), (2, .invokevirtual 107, 3, 133), (5, .aload_n 0, 1, 0), (6, .getfield 10, 3, 160), (9, .getfield 195, 3, 98), (12, .iload_n 1, 1, 0), (13, .iaload, 1, 0), (14, .iconst 3, 1, 0), (15, .if_icmp .ne 7, 3, 22531), (18, .iconst (-1), 1, 0), (19, .goto 12, 3, 31744), (22, .aload_n 0, 1, 0), (23, .getfield 10, 3, 160), (26, .getfield 195, 3, 98), (29, .iload_n 1, 1, 0), (30, .iaload, 1, 0), (100031, .nop, 0, 0), (31, .ireturn, 1, 0)]
def pgX5_cardsOf : List En := [(0, .aload_n 0, 1, 0), (1, .iload_n 1, 1, 0), (2, .invokevirtual 107, 3, 133), (5, .aload_n 0, 1, 0), (6, .getfield 10, 3, 160), (9, .getfield 198, 3, 99), (12, .iload_n 1, 1, 0), (13, .iaload, 1, 0), (14, .ireturn, 1, 0)]
def pgX5_isTrue : List En := [(0, .aload_n 0, 1, 0), (1, .iload_n 1, 1, 0), (2, .invokevirtual 107, 3, 133), (5, .aload_n 0, 1, 0), (6, .getfield 10, 3, 160), (9, .iload_n 1, 1, 0), (10, .aload_n 0, 1, 0), (11, .getfield 10, 3, 160), (14, .getfield 62, 3, 96), (17, .invokevirtual 201, 3, 48), (20, .ireturn, 1, 0)]
def pgX5_untrueClues : List En := [(0, .iconst 0, 1, 0), (1, .istore_n 1, 1, 0), (2, .iconst 0, 1, 0), (3, .istore_n 2, 1, 0), (100004, .nop, 0, 7), (4, .iload_n 2, 1, 0), (5, .aload_n 0, 1, 0), (6, .getfield 10, 3, 160), (9, .getfield 97, 3, 100), (12, .if_icmp .ge 35, 3, 48130), (15, .iload_n 1, 1, 0), (16, .aload_n 0, 1, 0), (17, .getfield 10, 3, 160), (20, .iload_n 2, 1, 0), (21, .aload_n 0, 1, 0), (22, .getfield 10, 3, 160), (25, .getfield 62, 3, 96), (28, .invokevirtual 201, 3, 48), (31, .ifCond .eq 7, 3, 38917), (34, .iconst 0, 1, 0), (35, .goto 4, 3, 39941), (38, .iconst 1, 1, 0), (100039, .nop, 0, 5), (39, .iadd, 1, 0), (40, .istore_n 1, 1, 0), (41, .iinc 2 1, 3, 0), (44, .goto (-40), 3, 4103), (47, .iload_n 1, 1, 0), (48, .ireturn, 1, 0)]
def pgX5_deals : List En := [(0, .aload_n 0, 1, 0), (1, .invokevirtual 205, 3, 125), (4, .getfield 209, 3, 0), (7, .ireturn, 1, 0)]
def pgX5_dealsByHands : List En := [(0, .aload_n 0, 1, 0), (1, .invokevirtual 212, 3, 127), (4, .getfield 216, 3, 32), (7, .ireturn, 1, 0)]
def pgX5_dealsWith : List En := [(0, .iload_n 1, 1, 0), (1, .invokestatic 58, 3, 128), (4, .iload_n 2, 1, 0), (5, .invokestatic 217, 3, 130), (8, .aload_n 0, 1, 0), (9, .invokevirtual 205, 3, 125), (12, .iload_n 1, 1, 0), (13, .iload_n 2, 1, 0), (14, .invokevirtual 220, 3, 6), (17, .ireturn, 1, 0)]
def pgX5_mayBe : List En := [(0, .iload_n 1, 1, 0), (1, .invokestatic 58, 3, 128), (4, .iload_n 2, 1, 0), (5, .invokestatic 217, 3, 130), (8, .aload_n 0, 1, 0), (9, .invokevirtual 205, 3, 125), (12, .iload_n 1, 1, 0), (13, .iload_n 2, 1, 0), (14, .invokevirtual 220, 3, 6), (17, .ifCond .le 7, 3, 24576), (20, .iconst 1, 1, 0), (21, .goto 4, 3, 25600), (24, .iconst 0, 1, 0), (100025, .nop, 0, 0), (25, .ireturn, 1, 0)]
def pgX5_certainPlace : List En := [(0, .iload_n 1, 1, 0), (1, .invokestatic 58, 3, 128), (4, .aload_n 0, 1, 0), (5, .invokevirtual 205, 3, 125), (8, .iload_n 1, 1, 0), (9, .invokevirtual 223, 3, 7), (12, .ireturn, 1, 0)]
def pgX5_certainCards : List En := [(0, .aload_n 0, 1, 0), (1, .invokevirtual 205, 3, 125), (4, .invokevirtual 226, 3, 8), (7, .ireturn, 1, 0)]
def pgX5_isBroken : List En := [(0, .aload_n 0, 1, 0), (1, .invokevirtual 229, 3, 126), (4, .getfield 233, 3, 64), (7, .ireturn, 1, 0)]
def pgX5_mayBeByRules : List En := [(0, .iload_n 1, 1, 0), (1, .invokestatic 58, 3, 128), (4, .iload_n 2, 1, 0), (5, .invokestatic 217, 3, 130), (8, .aload_n 0, 1, 0), (9, .invokevirtual 229, 3, 126), (12, .iload_n 1, 1, 0), (13, .iload_n 2, 1, 0), (14, .invokevirtual 236, 3, 24), (17, .ireturn, 1, 0)]
def pgX5_placeByRules : List En := [(0, .iload_n 1, 1, 0), (1, .invokestatic 58, 3, 128), (4, .aload_n 0, 1, 0), (5, .invokevirtual 229, 3, 126), (8, .iload_n 1, 1, 0), (9, .invokevirtual 239, 3, 25), (12, .ireturn, 1, 0)]
def pgX5_crossedOff : List En := [(0, .bipush 36, 2, 0), (2, .aload_n 0, 1, 0), (3, .invokevirtual 229, 3, 126), (6, .invokevirtual 242, 3, 23), (9, .isub, 1, 0), (10, .ireturn, 1, 0)]
def pgX5_hiddenCrosses : List En := [(0, .aload_n 0, 1, 0), (1, .invokevirtual 229, 3, 126), (4, .invokevirtual 242, 3, 23), (7, .aload_n 0, 1, 0), (8, .invokevirtual 205, 3, 125), (11, .invokevirtual 245, 3, 9), (14, .isub, 1, 0), (15, .ireturn, 1, 0)]
def pgX5_envelopeDeals : List En := [(0, .iload_n 1, 1, 0), (1, .invokestatic 246, 3, 131), (4, .aload_n 0, 1, 0), (5, .invokevirtual 205, 3, 125), (8, .iload_n 1, 1, 0), (9, .invokevirtual 249, 3, 10), (12, .ireturn, 1, 0)]
def pgX5_envelopes : List En := [(0, .aload_n 0, 1, 0), (1, .invokevirtual 205, 3, 125), (4, .invokevirtual 252, 3, 11), (7, .ireturn, 1, 0)]
def pgX5_bestAccusation : List En := [(0, .aload_n 0, 1, 0), (1, .invokevirtual 205, 3, 125), (4, .astore_n 1, 1, 0), (5, .aload_n 1, 1, 0), (6, .getfield 209, 3, 0), (9, .invokestatic 255, 3, 136), (12, .aload_n 1, 1, 0), (13, .invokevirtual 258, 3, 12), (16, .ireturn, 1, 0)]
def pgX5_isSolved : List En := [(0, .aload_n 0, 1, 0), (1, .invokevirtual 205, 3, 125), (4, .invokevirtual 252, 3, 11), (7, .iconst 1, 1, 0), (8, .if_icmp .ne 7, 3, 15360), (11, .iconst 1, 1, 0), (12, .goto 4, 3, 16384), (15, .iconst 0, 1, 0), (100016, .nop, 0, 0), (16, .ireturn, 1, 0)]
def pgX5_dealsIfPassed : List En := [(0, .iload_n 1, 1, 0), (1, .invokestatic 87, 3, 129), (4, .iload_n 2, 1, 0), (5, .invokestatic 246, 3, 131), (8, .aload_n 0, 1, 0), (9, .invokevirtual 205, 3, 125), (12, .iload_n 1, 1, 0), (13, .iload_n 2, 1, 0), (14, .invokevirtual 261, 3, 14), (17, .ireturn, 1, 0)]
def pgX5_leftBy : List En := [(0, .iload_n 1, 1, 0), (1, .invokestatic 87, 3, 129), (4, .iload_n 2, 1, 0), (5, .invokestatic 246, 3, 131), (8, .aload_n 0, 1, 0), (9, .invokevirtual 205, 3, 125), (12, .iload_n 1, 1, 0), (13, .iload_n 2, 1, 0), (14, .invokevirtual 264, 3, 15), (17, .ireturn, 1, 0)]
def pgX5_bestQuestion : List En := [(0, .iload_n 1, 1, 0), (1, .invokestatic 87, 3, 129), (4, .aload_n 0, 1, 0), (5, .invokevirtual 205, 3, 125), (8, .astore_n 2, 1, 0), (9, .aload_n 2, 1, 0), (10, .getfield 209, 3, 0), (13, .invokestatic 255, 3, 136), (16, .aload_n 2, 1, 0), (17, .iload_n 1, 1, 0), (18, .invokevirtual 267, 3, 16), (21, .ireturn, 1, 0)]
def pgX5_dealsWithout : List En := [(0, .aload_n 0, 1, 0), (1, .iload_n 1, 1, 0), (2, .invokevirtual 107, 3, 133), (5, .aload_n 0, 1, 0), (6, .invokevirtual 205, 3, 125), (9, .iload_n 1, 1, 0), (10, .invokevirtual 270, 3, 17), (13, .ireturn, 1, 0)]
def pgX5_idleClues : List En := [(0, .aload_n 0, 1, 0), (1, .invokevirtual 205, 3, 125), (4, .aload_n 0, 1, 0), (5, .getfield 10, 3, 160), (8, .getfield 97, 3, 100), (11, .invokevirtual 273, 3, 18), (14, .ireturn, 1, 0)]
def pgX5_chance : List En := [(0, .aload_n 0, 1, 0), (1, .invokevirtual 205, 3, 125), (4, .invokevirtual 276, 3, 13), (7, .dreturn, 1, 0)]
def pgX5_digest : List En := [(0, .aload_n 0, 1, 0), (1, .invokevirtual 205, 3, 125), (4, .astore_n 1, 1, 0), (5, .aload_n 0, 1, 0), (6, .invokevirtual 229, 3, 126), (9, .astore_n 2, 1, 0), (10, .aload_n 0, 1, 0), (11, .ldc2_w 280, 3, 9194), (14, .aload_n 1, 1, 0), (15, .aload_n 2, 1, 0), (16, .invokevirtual 282, 3, 112), (19, .lstore_n 3, 1, 0), (20, .lload_n 3, 1, 0), (21, .aload_n 1, 1, 0), (22, .invokestatic 286, 3, 113), (25, .lstore_n 3, 1, 0), (26, .aload_n 0, 1, 0), (27, .lload_n 3, 1, 0), (28, .aload_n 1, 1, 0), (29, .invokevirtual 290, 3, 114), (32, .lstore_n 3, 1, 0), (33, .aload_n 0, 1, 0), (34, .lload_n 3, 1, 0), (35, .aload_n 1, 1, 0), (36, .aload_n 2, 1, 0), (37, .invokevirtual 293, 3, 115), (40, .lstore_n 3, 1, 0), (41, .lload_n 3, 1, 0), (42, .aload_n 1, 1, 0), (43, .invokestatic 296, 3, 116), (46, .lstore_n 3, 1, 0), (47, .aload_n 0, 1, 0), (48, .lload_n 3, 1, 0), (49, .invokevirtual 299, 3, 117), (52, .lstore_n 3, 1, 0), (53, .lload_n 3, 1, 0), (54, .aload_n 1, 1, 0), (55, .invokevirtual 276, 3, 13), (58, .invokestatic 303, 3, 119), (61, .invokestatic 307, 3, 110), (64, .lstore_n 3, 1, 0), (65, .aload_n 0, 1, 0), (66, .lload_n 3, 1, 0), (67, .invokevirtual 311, 3, 118), (70, .lreturn, 1, 0)]
def pgX5_mix : List En := [(0, .ldc2_w 314, 3, 62), (3, .lload_n 0, 1, 0), (4, .lmul, 1, 0), (5, .lload_n 2, 1, 0), (6, .ladd, 1, 0), (7, .lreturn, 1, 0)]
def pgX5_mixFlag : List En := [(0, .lload_n 0, 1, 0), (1, .iload_n 2, 1, 0), (2, .ifCond .eq 7, 3, 9216), (5, .lconst 1, 1, 0), (6, .goto 4, 3, 10240), (9, .lconst 0, 1, 0), (100010, .nop, 0, 0), (10, .invokestatic 307, 3, 110), (13, .lreturn, 1, 0)]
def pgX5_mixCounts : List En := [(0, .lload_n 1, 1, 0), (1, .aload_n 0, 1, 0), (2, .invokevirtual 316, 3, 81), (5, .i2l, 1, 0), (6, .invokestatic 307, 3, 110), (9, .lstore 5, 2, 0), (11, .lload 5, 2, 0), (13, .aload_n 0, 1, 0), (14, .invokevirtual 319, 3, 82), (17, .i2l, 1, 0), (18, .invokestatic 307, 3, 110), (21, .lstore 5, 2, 0), (23, .lload 5, 2, 0), (25, .aload_n 0, 1, 0), (26, .invokevirtual 322, 3, 87), (29, .i2l, 1, 0), (30, .invokestatic 307, 3, 110), (33, .lstore 5, 2, 0), (35, .lload 5, 2, 0), (37, .aload_n 3, 1, 0), (38, .getfield 209, 3, 0), (41, .i2l, 1, 0), (42, .invokestatic 307, 3, 110), (45, .lstore 5, 2, 0), (47, .lload 5, 2, 0), (49, .aload_n 0, 1, 0), (50, .invokevirtual 212, 3, 127), (53, .getfield 216, 3, 32), (56, .i2l, 1, 0), (57, .invokestatic 307, 3, 110), (60, .lstore 5, 2, 0), (62, .lload 5, 2, 0), (64, .aload_n 3, 1, 0), (65, .invokevirtual 226, 3, 8), (68, .i2l, 1, 0), (69, .invokestatic 307, 3, 110), (72, .lstore 5, 2, 0), (74, .lload 5, 2, 0), (76, .aload 4, 2, 0), (78, .getfield 233, 3, 64), (81, .invokestatic 325, 3, 111), (84, .lstore 5, 2, 0), (86, .lload 5, 2, 0), (88, .bipush 36, 2, 0), (90, .aload 4, 2, 0), (92, .invokevirtual 242, 3, 23), (95, .isub, 1, 0), (96, .i2l, 1, 0), (97, .invokestatic 307, 3, 110), (100, .lstore 5, 2, 0), (102, .lload 5, 2, 0), (104, .aload 4, 2, 0), (106, .invokevirtual 242, 3, 23), (109, .aload_n 3, 1, 0), (110, .invokevirtual 245, 3, 9), (113, .isub, 1, 0), (114, .i2l, 1, 0), (115, .invokestatic 307, 3, 110), (118, .lstore 5, 2, 0), (120, .lload 5, 2, 0), (122, .aload_n 3, 1, 0), (123, .invokevirtual 252, 3, 11), (126, .i2l, 1, 0), (127, .invokestatic 307, 3, 110), (130, .lstore 5, 2, 0), (132, .lload 5, 2, 0), (134, .aload_n 3, 1, 0), (135, .invokevirtual 252, 3, 11), (138, .iconst 1, 1, 0), (139, .if_icmp .ne 7, 3, 149513), (142, .iconst 1, 1, 0), (143, .goto 4, 3, 150537), (146, .iconst 0, 1, 0), (100147, .nop, 0, 9), (147, .invokestatic 325, 3, 111), (150, .lstore 5, 2, 0), (152, .lload 5, 2, 0), (154, .aload_n 3, 1, 0), (155, .aload_n 0, 1, 0), (156, .getfield 10, 3, 160), (159, .getfield 97, 3, 100), (162, .invokevirtual 273, 3, 18), (165, .i2l, 1, 0), (166, .invokestatic 307, 3, 110), (169, .lstore 5, 2, 0), (171, .lload 5, 2, 0), (173, .aload_n 0, 1, 0), (174, .invokevirtual 329, 3, 79), (177, .i2l, 1, 0), (178, .invokestatic 307, 3, 110), (181, .lreturn, 1, 0)]
def pgX5_mixBest : List En := [(0, .aload_n 2, 1, 0), (1, .getfield 209, 3, 0), (4, .ifCond .gt 5, 3, 9221), (7, .lload_n 0, 1, 0), (8, .lreturn, 1, 0), (9, .lload_n 0, 1, 0), (10, .aload_n 2, 1, 0), (11, .invokevirtual 258, 3, 12), (14, .i2l, 1, 0), (15, .invokestatic 307, 3, 110), (18, .lstore_n 3, 1, 0), (19, .iconst 0, 1, 0), (20, .istore 5, 2, 0), (100022, .nop, 0, 44), (22, .iload 5, 2, 0), (24, .iconst 3, 1, 0), (25, .if_icmp .ge 21, 3, 47112), (28, .lload_n 3, 1, 0), (29, .aload_n 2, 1, 0), (30, .iload 5, 2, 0), (32, .invokevirtual 267, 3, 16), (35, .i2l, 1, 0), (36, .invokestatic 307, 3, 110), (39, .lstore_n 3, 1, 0), (40, .iinc 5 1, 3, 0), (43, .goto (-21), 3, 22572), (46, .lload_n 3, 1, 0), (47, .lreturn, 1, 0)]
def pgX5_mixClues : List En := [(0, .lload_n 1, 1, 0), (1, .lstore 4, 2, 0), (3, .iconst 0, 1, 0), (4, .istore 6, 2, 0), (100006, .nop, 0, 89), (6, .iload 6, 2, 0), (8, .aload_n 0, 1, 0), (9, .getfield 10, 3, 160), (12, .getfield 97, 3, 100), (15, .if_icmp .ge 78, 3, 95248), (18, .lload 4, 2, 0), (20, .aload_n 0, 1, 0), (21, .iload 6, 2, 0), (23, .invokevirtual 332, 3, 83), (26, .i2l, 1, 0), (27, .invokestatic 307, 3, 110), (30, .lstore 4, 2, 0), (32, .lload 4, 2, 0), (34, .aload_n 0, 1, 0), (35, .iload 6, 2, 0), (37, .invokevirtual 335, 3, 84), (40, .i2l, 1, 0), (41, .invokestatic 307, 3, 110), (44, .lstore 4, 2, 0), (46, .lload 4, 2, 0), (48, .aload_n 0, 1, 0), (49, .iload 6, 2, 0), (51, .invokevirtual 338, 3, 85), (54, .i2l, 1, 0), (55, .invokestatic 307, 3, 110), (58, .lstore 4, 2, 0), (60, .lload 4, 2, 0), (62, .aload_n 0, 1, 0), (63, .iload 6, 2, 0), (65, .invokevirtual 341, 3, 86), (68, .invokestatic 325, 3, 111), (71, .lstore 4, 2, 0), (73, .lload 4, 2, 0), (75, .aload_n 3, 1, 0), (76, .iload 6, 2, 0), (78, .invokevirtual 270, 3, 17), (81, .i2l, 1, 0), (82, .invokestatic 307, 3, 110), (85, .lstore 4, 2, 0), (87, .iinc 6 1, 3, 0), (90, .goto (-84), 3, 6233), (93, .lload 4, 2, 0), (95, .lreturn, 1, 0)]
def pgX5_mixCards : List En := [(0, .lload_n 1, 1, 0), (1, .lstore 5, 2, 0), (3, .iconst 0, 1, 0), (4, .istore 7, 2, 0), (100006, .nop, 0, 185), (6, .iload 7, 2, 0), (8, .bipush 9, 2, 0), (10, .if_icmp .ge 99, 3, 111648), (13, .lload 5, 2, 0), (15, .aload_n 0, 1, 0), (16, .iload 7, 2, 0), (18, .invokevirtual 344, 3, 80), (21, .i2l, 1, 0), (22, .invokestatic 307, 3, 110), (25, .lstore 5, 2, 0), (27, .lload 5, 2, 0), (29, .aload_n 3, 1, 0), (30, .iload 7, 2, 0), (32, .invokevirtual 223, 3, 7), (35, .i2l, 1, 0), (36, .invokestatic 307, 3, 110), (39, .lstore 5, 2, 0), (41, .lload 5, 2, 0), (43, .aload 4, 2, 0), (45, .iload 7, 2, 0), (47, .invokevirtual 239, 3, 25), (50, .i2l, 1, 0), (51, .invokestatic 307, 3, 110), (54, .lstore 5, 2, 0), (56, .iconst 0, 1, 0), (57, .istore 8, 2, 0), (100059, .nop, 0, 441), (59, .iload 8, 2, 0), (61, .iconst 4, 1, 0), (62, .if_icmp .ge 41, 3, 105657), (65, .lload 5, 2, 0), (67, .aload_n 3, 1, 0), (68, .iload 7, 2, 0), (70, .iload 8, 2, 0), (72, .invokevirtual 220, 3, 6), (75, .i2l, 1, 0), (76, .invokestatic 307, 3, 110), (79, .lstore 5, 2, 0), (81, .lload 5, 2, 0), (83, .aload 4, 2, 0), (85, .iload 7, 2, 0), (87, .iload 8, 2, 0), (89, .invokevirtual 236, 3, 24), (92, .invokestatic 325, 3, 111), (95, .lstore 5, 2, 0), (97, .iinc 8 1, 3, 0), (100, .goto (-41), 3, 60857), (103, .iinc 7 1, 3, 0), (106, .goto (-100), 3, 6329), (109, .lload 5, 2, 0), (111, .lreturn, 1, 0)]
def pgX5_mixTriples : List En := [(0, .lload_n 0, 1, 0), (1, .lstore_n 3, 1, 0), (2, .iconst 0, 1, 0), (3, .istore 5, 2, 0), (100005, .nop, 0, 44), (5, .iload 5, 2, 0), (7, .bipush 27, 2, 0), (9, .if_icmp .ge 50, 3, 60424), (12, .lload_n 3, 1, 0), (13, .aload_n 2, 1, 0), (14, .iload 5, 2, 0), (16, .invokevirtual 249, 3, 10), (19, .i2l, 1, 0), (20, .invokestatic 307, 3, 110), (23, .lstore_n 3, 1, 0), (24, .iconst 0, 1, 0), (25, .istore 6, 2, 0), (100027, .nop, 0, 108), (27, .iload 6, 2, 0), (29, .iconst 3, 1, 0), (30, .if_icmp .ge 23, 3, 54316), (33, .lload_n 3, 1, 0), (34, .aload_n 2, 1, 0), (35, .iload 6, 2, 0), (37, .iload 5, 2, 0), (39, .invokevirtual 264, 3, 15), (42, .i2l, 1, 0), (43, .invokestatic 307, 3, 110), (46, .lstore_n 3, 1, 0), (47, .iinc 6 1, 3, 0), (50, .goto (-23), 3, 27756), (53, .iinc 5 1, 3, 0), (56, .goto (-51), 3, 5164), (59, .lload_n 3, 1, 0), (60, .lreturn, 1, 0)]
def pgX5_mixStop : List En := [(0, .lload_n 1, 1, 0), (1, .aload_n 0, 1, 0), (2, .invokevirtual 347, 3, 73), (5, .invokestatic 325, 3, 111), (8, .lstore_n 3, 1, 0), (9, .aload_n 0, 1, 0), (10, .invokevirtual 347, 3, 73), (13, .ifCond .eq 23, 3, 36872), (16, .lload_n 3, 1, 0), (17, .aload_n 0, 1, 0), (18, .invokevirtual 350, 3, 74), (21, .i2l, 1, 0), (22, .invokestatic 307, 3, 110), (25, .lstore_n 3, 1, 0), (26, .lload_n 3, 1, 0), (27, .aload_n 0, 1, 0), (28, .invokevirtual 353, 3, 75), (31, .i2l, 1, 0), (32, .invokestatic 307, 3, 110), (35, .lstore_n 3, 1, 0), (100036, .nop, 0, 8), (36, .lload_n 3, 1, 0), (37, .lreturn, 1, 0)]
def pgX5_mixBuffer : List En := [(0, .lload_n 1, 1, 0), (1, .aload_n 0, 1, 0), (2, .getfield 129, 3, 170), (5, .i2l, 1, 0), (6, .invokestatic 307, 3, 110), (9, .lstore_n 3, 1, 0), (10, .iconst 0, 1, 0), (11, .istore 5, 2, 0), (100013, .nop, 0, 41), (13, .iload 5, 2, 0), (15, .aload_n 0, 1, 0), (16, .getfield 129, 3, 170), (19, .if_icmp .ge 29, 3, 49160), (22, .iload 5, 2, 0), (24, .bipush 60, 2, 0), (26, .if_icmp .ge 22, 3, 49160), (29, .lload_n 3, 1, 0), (30, .aload_n 0, 1, 0), (31, .getfield 23, 3, 163), (34, .iload 5, 2, 0), (36, .iaload, 1, 0), (37, .i2l, 1, 0), (38, .invokestatic 307, 3, 110), (41, .lstore_n 3, 1, 0), (42, .iinc 5 1, 3, 0), (45, .goto (-32), 3, 13353), (48, .lload_n 3, 1, 0), (49, .lreturn, 1, 0)]
def pgX5_bitsOfShare : List En := [(0, .dload_n 0, 1, 0), (1, .dconst 0, 1, 0), (2, .dcmp .g, 1, 0), (3, .ifCond .gt 5, 3, 8193), (6, .lconst 0, 1, 0), (7, .lreturn, 1, 0), (8, .dload_n 0, 1, 0), (9, .dstore_n 2, 1, 0), (10, .ldc2_w 356, 3, 2046), (13, .lstore 4, 2, 0), (15, .iconst 0, 1, 0), (16, .istore 6, 2, 0), (100018, .nop, 0, 84), (18, .iload 6, 2, 0), (20, .sipush 1000, 3, 0), (23, .if_icmp .ge 27, 3, 51220), (26, .dload_n 2, 1, 0), (27, .dconst 1, 1, 0), (28, .dcmp .g, 1, 0), (29, .ifCond .ge 21, 3, 51220), (32, .dload_n 2, 1, 0), (33, .ldc2_w 358, 3, 9223372036854775809), (36, .dmul, 1, 0), (37, .dstore_n 2, 1, 0), (38, .lload 4, 2, 0), (40, .lconst 1, 1, 0), (41, .lsub, 1, 0), (42, .lstore 4, 2, 0), (44, .iinc 6 1, 3, 0), (47, .goto (-29), 3, 18516), (50, .dload_n 2, 1, 0), (51, .dconst 1, 1, 0), (52, .dsub, 1, 0), (53, .ldc2_w 360, 3, 9682739198846566401), (56, .dmul, 1, 0), (57, .d2l, 1, 0), (58, .lstore 6, 2, 0), (60, .lload 4, 2, 0), (62, .bipush 52, 2, 0), (64, .lshl, 1, 0), (65, .lload 6, 2, 0), (67, .lor, 1, 0), (68, .lreturn, 1, 0)]
def pgX5_doPart : List En := [(0, .iload_n 1, 1, 0), (1, .bipush 120, 2, 0), (3, .if_icmp .ne 30, 3, 33807), (6, .iload_n 3, 1, 0), (7, .ifCond .lt 14, 3, 21504), (10, .iload_n 3, 1, 0), (11, .aload_n 0, 1, 0), (12, .getfield 10, 3, 160), (15, .getfield 97, 3, 100), (18, .if_icmp .lt 5, 3, 23561), (100021, .nop, 0, 0), (21, .iconst 2, 1, 0), (22, .ireturn, 1, 0), (23, .aload_n 0, 1, 0), (24, .getfield 10, 3, 160), (27, .iload_n 3, 1, 0), (28, .invokevirtual 110, 3, 42), (31, .iconst 0, 1, 0), (32, .ireturn, 1, 0), (33, .aload_n 0, 1, 0), (34, .getfield 10, 3, 160), (37, .getfield 97, 3, 100), (40, .bipush 20, 2, 0), (42, .if_icmp .lt 5, 3, 48143), (45, .iconst 1, 1, 0), (46, .ireturn, 1, 0), (47, .aload_n 0, 1, 0), (48, .iload_n 1, 1, 0), (49, .iload_n 2, 1, 0), (50, .iload_n 3, 1, 0), (51, .invokevirtual 362, 3, 121), (54, .iconst 0, 1, 0), (55, .ireturn, 1, 0)]
def pgX5_addPart : List En := [(0, .iload_n 1, 1, 0), (1, .tableswitch 229 97 118 #[197, 229, 229, 229, 229, 229, 229, 103, 181, 229, 229, 118, 229, 165, 229, 149, 229, 229, 133, 229, 229, 213], 103, 13), (104, .aload_n 0, 1, 0), (105, .getfield 10, 3, 160), (108, .iconst 0, 1, 0), (109, .iload_n 2, 1, 0), (110, .iconst 1, 1, 0), (111, .iload_n 3, 1, 0), (112, .ishl, 1, 0), (113, .invokevirtual 93, 3, 41), (116, .goto 126, 3, 247808), (119, .aload_n 0, 1, 0), (120, .getfield 10, 3, 160), (123, .iconst 1, 1, 0), (124, .iload_n 2, 1, 0), (125, .iconst 1, 1, 0), (126, .iload_n 3, 1, 0), (127, .ishl, 1, 0), (128, .invokevirtual 93, 3, 41), (131, .goto 111, 3, 247808), (134, .aload_n 0, 1, 0), (135, .getfield 10, 3, 160), (138, .iconst 2, 1, 0), (139, .iload_n 2, 1, 0), (140, .iload_n 3, 1, 0), (141, .invokestatic 365, 3, 139), (144, .invokevirtual 93, 3, 41), (147, .goto 95, 3, 247808), (150, .aload_n 0, 1, 0), (151, .getfield 10, 3, 160), (154, .iconst 3, 1, 0), (155, .iload_n 2, 1, 0), (156, .iload_n 3, 1, 0), (157, .invokestatic 365, 3, 139), (160, .invokevirtual 93, 3, 41), (163, .goto 79, 3, 247808), (166, .aload_n 0, 1, 0), (167, .getfield 10, 3, 160), (170, .iconst 4, 1, 0), (171, .iconst 3, 1, 0), (172, .iload_n 3, 1, 0), (173, .invokestatic 365, 3, 139), (176, .invokevirtual 93, 3, 41), (179, .goto 63, 3, 247808), (182, .aload_n 0, 1, 0), (183, .getfield 10, 3, 160), (186, .iconst 5, 1, 0), (187, .iconst 3, 1, 0), (188, .iload_n 3, 1, 0), (189, .invokestatic 365, 3, 139), (192, .invokevirtual 93, 3, 41), (195, .goto 47, 3, 247808), (198, .aload_n 0, 1, 0), (199, .getfield 10, 3, 160), (202, .iload_n 2, 1, 0), (203, .iload_n 3, 1, 0), (204, .invokestatic 365, 3, 139), (207, .invokevirtual 113, 3, 43), (210, .pop, 1, 0), (211, .goto 31, 3, 247808), (214, .aload_n 0, 1, 0), (215, .getfield 10, 3, 160), (218, .iload_n 2, 1, 0), (219, .iload_n 3, 1, 0), (220, .invokestatic 365, 3, 139), (223, .invokevirtual 117, 3, 44), (226, .pop, 1, 0), (227, .goto 15, 3, 247808), (230, .aload_n 0, 1, 0), (231, .getfield 10, 3, 160), (234, .iload_n 3, 1, 0), (235, .invokestatic 365, 3, 139), (238, .invokevirtual 121, 3, 45), (241, .pop, 1, 0), (100242, .nop, 0, 0), (242, .return_, 1, 0)]
def pgX5_remember : List En := [(0, .aload_n 0, 1, 0), (1, .getfield 171, 3, 168), (4, .iconst 5, 1, 0), (5, .if_icmp .lt 7, 3, 12289), (8, .aload_n 0, 1, 0), (9, .invokevirtual 368, 3, 123), (100012, .nop, 0, 1), (12, .aload_n 0, 1, 0), (13, .getfield 171, 3, 168), (16, .ifCond .lt 43, 3, 60417), (19, .aload_n 0, 1, 0), (20, .getfield 171, 3, 168), (23, .iconst 5, 1, 0), (24, .if_icmp .ge 35, 3, 60417), (27, .aload_n 0, 1, 0), (28, .getfield 19, 3, 162), (31, .aload_n 0, 1, 0), (32, .getfield 171, 3, 168), (35, .aaload, 1, 0), (36, .astore_n 1, 1, 0), (37, .aload_n 1, 1, 0), (38, .ifnull 21, 3, 60417), (41, .aload_n 1, 1, 0), (42, .aload_n 0, 1, 0), (43, .getfield 10, 3, 160), (46, .invokevirtual 176, 3, 40), (49, .aload_n 0, 1, 0), (50, .dup, 1, 0), (51, .getfield 171, 3, 168), (54, .iconst 1, 1, 0), (55, .iadd, 1, 0), (56, .putfield 171, 3, 168), (100059, .nop, 0, 1), (59, .aload_n 0, 1, 0), (60, .invokevirtual 180, 3, 124), (63, .return_, 1, 0)]
def pgX5_dropOldest : List En := [(0, .aload_n 0, 1, 0), (1, .getfield 19, 3, 162), (4, .iconst 0, 1, 0), (5, .aaload, 1, 0), (6, .astore_n 1, 1, 0), (7, .iconst 1, 1, 0), (8, .istore_n 2, 1, 0), (100009, .nop, 0, 7), (9, .iload_n 2, 1, 0), (10, .iconst 5, 1, 0), (11, .if_icmp .ge 23, 3, 34819), (14, .aload_n 0, 1, 0), (15, .getfield 19, 3, 162), (18, .iload_n 2, 1, 0), (19, .iconst 1, 1, 0), (20, .isub, 1, 0), (21, .aload_n 0, 1, 0), (22, .getfield 19, 3, 162), (25, .iload_n 2, 1, 0), (26, .aaload, 1, 0), (27, .aastore, 1, 0), (28, .iinc 2 1, 3, 0), (31, .goto (-22), 3, 9223), (34, .aload_n 0, 1, 0), (35, .getfield 19, 3, 162), (38, .iconst 4, 1, 0), (39, .aload_n 1, 1, 0), (40, .aastore, 1, 0), (41, .aload_n 0, 1, 0), (42, .iconst 4, 1, 0), (43, .putfield 171, 3, 168), (46, .return_, 1, 0)]
def pgX5_forgetCounts : List En := [(0, .aload_n 0, 1, 0), (1, .getfield 37, 3, 165), (4, .iconst 0, 1, 0), (5, .putfield 371, 3, 1), (8, .aload_n 0, 1, 0), (9, .getfield 44, 3, 166), (12, .iconst 0, 1, 0), (13, .putfield 374, 3, 33), (16, .aload_n 0, 1, 0), (17, .getfield 51, 3, 167), (20, .iconst 0, 1, 0), (21, .putfield 375, 3, 65), (24, .return_, 1, 0)]
def pgX5_countedDeals : List En := [(0, .aload_n 0, 1, 0), (1, .getfield 37, 3, 165), (4, .getfield 371, 3, 1), (7, .ifCond .ne 14, 3, 21505), (10, .aload_n 0, 1, 0), (11, .getfield 37, 3, 165), (14, .aload_n 0, 1, 0), (15, .getfield 10, 3, 160), (18, .invokevirtual 376, 3, 0), (100021, .nop, 0, 1), (21, .aload_n 0, 1, 0), (22, .getfield 37, 3, 165), (25, .areturn, 1, 0)]
def pgX5_filledSheet : List En := [(0, .aload_n 0, 1, 0), (1, .getfield 51, 3, 167), (4, .getfield 375, 3, 65), (7, .ifCond .ne 14, 3, 21505), (10, .aload_n 0, 1, 0), (11, .getfield 51, 3, 167), (14, .aload_n 0, 1, 0), (15, .getfield 10, 3, 160), (18, .invokevirtual 378, 3, 21), (100021, .nop, 0, 1), (21, .aload_n 0, 1, 0), (22, .getfield 51, 3, 167), (25, .areturn, 1, 0)]
def pgX5_countedHands : List En := [(0, .aload_n 0, 1, 0), (1, .getfield 44, 3, 166), (4, .getfield 374, 3, 33), (7, .ifCond .ne 14, 3, 21505), (10, .aload_n 0, 1, 0), (11, .getfield 44, 3, 166), (14, .aload_n 0, 1, 0), (15, .getfield 10, 3, 160), (18, .invokevirtual 381, 3, 19), (100021, .nop, 0, 1), (21, .aload_n 0, 1, 0), (22, .getfield 44, 3, 166), (25, .areturn, 1, 0)]
def pgX5_checkCard : List En := [(0, .iload_n 0, 1, 0), (1, .ifCond .lt 9, 3, 10240), (4, .iload_n 0, 1, 0), (5, .bipush 9, 2, 0), (7, .if_icmp .lt 14, 3, 21504), (100010, .nop, 0, 0), (10, .new 382, 3, 0), (13, .dup, 1, 0), (14, .ldc_w 384, 3, 0), (17, .invokespecial 386, 3, 0), (20, .athrow, 1, 0), (21, .return_, 1, 0)]
def pgX5_checkPlayer : List En := [(0, .iload_n 0, 1, 0), (1, .ifCond .lt 8, 3, 9216), (4, .iload_n 0, 1, 0), (5, .iconst 3, 1, 0), (6, .if_icmp .lt 14, 3, 20480), (100009, .nop, 0, 0), (9, .new 382, 3, 0), (12, .dup, 1, 0), (13, .ldc_w 387, 3, 0), (16, .invokespecial 386, 3, 0), (19, .athrow, 1, 0), (20, .return_, 1, 0)]
def pgX5_checkPlace : List En := [(0, .iload_n 0, 1, 0), (1, .ifCond .lt 8, 3, 9216), (4, .iload_n 0, 1, 0), (5, .iconst 4, 1, 0), (6, .if_icmp .lt 14, 3, 20480), (100009, .nop, 0, 0), (9, .new 382, 3, 0), (12, .dup, 1, 0), (13, .ldc_w 389, 3, 0), (16, .invokespecial 386, 3, 0), (19, .athrow, 1, 0), (20, .return_, 1, 0)]
def pgX5_checkTriple : List En := [(0, .iload_n 0, 1, 0), (1, .ifCond .lt 9, 3, 10240), (4, .iload_n 0, 1, 0), (5, .bipush 27, 2, 0), (7, .if_icmp .lt 14, 3, 21504), (100010, .nop, 0, 0), (10, .new 382, 3, 0), (13, .dup, 1, 0), (14, .ldc_w 391, 3, 0), (17, .invokespecial 386, 3, 0), (20, .athrow, 1, 0), (21, .return_, 1, 0)]
def pgX5_checkCards : List En := [(0, .iload_n 0, 1, 0), (1, .ifCond .lt 8, 3, 9216), (4, .iload_n 0, 1, 0), (5, .iconst 3, 1, 0), (6, .if_icmp .lt 14, 3, 20486), (100009, .nop, 0, 0), (9, .new 382, 3, 0), (12, .dup, 1, 0), (13, .ldc_w 393, 3, 0), (16, .invokespecial 386, 3, 0), (19, .athrow, 1, 0), (20, .iload_n 1, 1, 0), (21, .iconst 3, 1, 0), (22, .if_icmp .lt 9, 3, 31744), (25, .iload_n 1, 1, 0), (26, .bipush 6, 2, 0), (28, .if_icmp .lt 14, 3, 43012), (100031, .nop, 0, 0), (31, .new 382, 3, 0), (34, .dup, 1, 0), (35, .ldc_w 395, 3, 0), (38, .invokespecial 386, 3, 0), (41, .athrow, 1, 0), (42, .iload_n 2, 1, 0), (43, .bipush 6, 2, 0), (45, .if_icmp .lt 9, 3, 55296), (48, .iload_n 2, 1, 0), (49, .bipush 9, 2, 0), (51, .if_icmp .lt 14, 3, 66560), (100054, .nop, 0, 0), (54, .new 382, 3, 0), (57, .dup, 1, 0), (58, .ldc_w 397, 3, 0), (61, .invokespecial 386, 3, 0), (64, .athrow, 1, 0), (65, .return_, 1, 0)]
def pgX5_checkClue : List En := [(0, .iload_n 1, 1, 0), (1, .ifCond .lt 20, 3, 21504), (4, .iload_n 1, 1, 0), (5, .aload_n 0, 1, 0), (6, .getfield 10, 3, 160), (9, .getfield 97, 3, 100), (12, .if_icmp .ge 9, 3, 21504), (15, .iload_n 1, 1, 0), (16, .bipush 20, 2, 0), (18, .if_icmp .lt 14, 3, 32768), (100021, .nop, 0, 0), (21, .new 382, 3, 0), (24, .dup, 1, 0), (25, .ldc_w 399, 3, 0), (28, .invokespecial 386, 3, 0), (31, .athrow, 1, 0), (32, .return_, 1, 0)]
def pgX5_checkRoomForClue : List En := [(0, .aload_n 0, 1, 0), (1, .getfield 10, 3, 160), (4, .getfield 97, 3, 100), (7, .bipush 20, 2, 0), (9, .if_icmp .lt 14, 3, 23552), (12, .new 73, 3, 1), (15, .dup, 1, 0), (16, .ldc_w 401, 3, 0), (19, .invokespecial 77, 3, 0), (22, .athrow, 1, 0), (23, .return_, 1, 0)]
def pgX5_checkStopped : List En := [(0, .aload_n 0, 1, 0), (1, .getfield 10, 3, 160), (4, .getfield 162, 3, 102), (7, .ifCond .ne 14, 3, 21504), (10, .new 73, 3, 1), (13, .dup, 1, 0), (14, .ldc_w 403, 3, 0), (17, .invokespecial 77, 3, 0), (20, .athrow, 1, 0), (21, .return_, 1, 0)]
def pgX5_checkSome : List En := [(0, .iload_n 0, 1, 0), (1, .ifCond .gt 14, 3, 15360), (4, .new 73, 3, 1), (7, .dup, 1, 0), (8, .ldc_w 405, 3, 0), (11, .invokespecial 77, 3, 0), (14, .athrow, 1, 0), (15, .return_, 1, 0)]
def pgX5_mask : List En := [(0, .iconst 1, 1, 0), (1, .iload_n 0, 1, 0), (2, .ishl, 1, 0), (3, .iconst 1, 1, 0), (4, .iload_n 1, 1, 0), (5, .ishl, 1, 0), (6, .ior, 1, 0), (7, .iconst 1, 1, 0), (8, .iload_n 2, 1, 0), (9, .ishl, 1, 0), (10, .ior, 1, 0), (11, .ireturn, 1, 0)]
def pgX5_cardsOfKind : List En := [(0, .bipush 7, 2, 0), (2, .iconst 3, 1, 0), (3, .iload_n 0, 1, 0), (4, .imul, 1, 0), (5, .ishl, 1, 0), (6, .ireturn, 1, 0)]
def pgX5_cardsOfTriple : List En := [(0, .iload_n 0, 1, 0), (1, .bipush 9, 2, 0), (3, .idiv, 1, 0), (4, .iconst 3, 1, 0), (5, .iload_n 0, 1, 0), (6, .iconst 3, 1, 0), (7, .idiv, 1, 0), (8, .iconst 3, 1, 0), (9, .irem, 1, 0), (10, .iadd, 1, 0), (11, .bipush 6, 2, 0), (13, .iload_n 0, 1, 0), (14, .iconst 3, 1, 0), (15, .irem, 1, 0), (16, .iadd, 1, 0), (17, .invokestatic 104, 3, 137), (20, .ireturn, 1, 0)]
def pgX5_numberOfTriple : List En := [(0, .iconst 0, 1, 0), (1, .istore_n 1, 1, 0), (2, .iconst 0, 1, 0), (3, .istore_n 2, 1, 0), (100004, .nop, 0, 7), (4, .iload_n 2, 1, 0), (5, .bipush 9, 2, 0), (7, .if_icmp .ge 25, 3, 32770), (10, .iload_n 0, 1, 0), (11, .iconst 1, 1, 0), (12, .iload_n 2, 1, 0), (13, .ishl, 1, 0), (14, .iand, 1, 0), (15, .ifCond .eq 11, 3, 26631), (18, .iconst 3, 1, 0), (19, .iload_n 1, 1, 0), (20, .imul, 1, 0), (21, .iload_n 2, 1, 0), (22, .iconst 3, 1, 0), (23, .irem, 1, 0), (24, .iadd, 1, 0), (25, .istore_n 1, 1, 0), (100026, .nop, 0, 7), (26, .iinc 2 1, 3, 0), (29, .goto (-25), 3, 4103), (32, .iload_n 1, 1, 0), (33, .ireturn, 1, 0)]
def pgX5_isTriple : List En := [(0, .iconst 1, 1, 0), (1, .istore_n 1, 1, 0), (2, .iconst 0, 1, 0), (3, .istore_n 2, 1, 0), (100004, .nop, 0, 7), (4, .iload_n 2, 1, 0), (5, .iconst 3, 1, 0), (6, .if_icmp .ge 32, 3, 38914), (9, .iload_n 1, 1, 0), (10, .ifCond .eq 20, 3, 30725), (13, .iload_n 0, 1, 0), (14, .iload_n 2, 1, 0), (15, .invokestatic 407, 3, 138), (18, .iand, 1, 0), (19, .invokestatic 410, 3, 260), (22, .iconst 1, 1, 0), (23, .if_icmp .ne 7, 3, 30725), (26, .iconst 1, 1, 0), (27, .goto 4, 3, 31749), (30, .iconst 0, 1, 0), (100031, .nop, 0, 5), (31, .istore_n 1, 1, 0), (32, .iinc 2 1, 3, 0), (35, .goto (-31), 3, 4103), (38, .iload_n 1, 1, 0), (39, .ireturn, 1, 0)]
def pgX5_exchanged : List En := [(0, .iload_n 0, 1, 0), (1, .iconst 1, 1, 0), (2, .iload_n 1, 1, 0), (3, .ishl, 1, 0), (4, .iand, 1, 0), (5, .ifCond .eq 7, 3, 12295), (8, .iconst 1, 1, 0), (9, .goto 4, 3, 13319), (12, .iconst 0, 1, 0), (100013, .nop, 0, 7), (13, .istore_n 3, 1, 0), (14, .iload_n 0, 1, 0), (15, .iconst 1, 1, 0), (16, .iload_n 2, 1, 0), (17, .ishl, 1, 0), (18, .iand, 1, 0), (19, .ifCond .eq 7, 3, 26639), (22, .iconst 1, 1, 0), (23, .goto 4, 3, 27663), (26, .iconst 0, 1, 0), (100027, .nop, 0, 15), (27, .istore 4, 2, 0), (29, .iload_n 3, 1, 0), (30, .iload 4, 2, 0), (32, .if_icmp .ne 7, 3, 39943), (35, .iload_n 0, 1, 0), (36, .goto 12, 3, 49152), (39, .iload_n 0, 1, 0), (40, .iconst 1, 1, 0), (41, .iload_n 1, 1, 0), (42, .ishl, 1, 0), (43, .ixor, 1, 0), (44, .iconst 1, 1, 0), (45, .iload_n 2, 1, 0), (46, .ishl, 1, 0), (47, .ixor, 1, 0), (100048, .nop, 0, 0), (48, .ireturn, 1, 0)]
def pgX6_thrown : List En := [(0, .aload_n 0, 1, 0), (1, .getfield 40, 3, 192), (4, .ireturn, 1, 0)]
def pgX6_fails : List En := [(0, .aload_n 0, 1, 0), (1, .iload_n 1, 1, 0), (2, .putfield 40, 3, 192), (5, .iconst 0, 1, 0), (6, .ireturn, 1, 0)]
def pgX6_in : List En := [(0, .iload_n 0, 1, 0), (1, .iload_n 1, 1, 0), (2, .if_icmp .lt 12, 3, 14336), (5, .iload_n 0, 1, 0), (6, .iload_n 2, 1, 0), (7, .if_icmp .gt 7, 3, 14336), (10, .iconst 1, 1, 0), (11, .goto 4, 3, 15360), (14, .iconst 0, 1, 0), (100015, .nop, 0, 0), (15, .ireturn, 1, 0)]
def pgX6_isCard : List En := [(0, .iload_n 0, 1, 0), (1, .iconst 0, 1, 0), (2, .bipush 8, 2, 0), (4, .invokestatic 44, 3, 145), (7, .ireturn, 1, 0)]
def pgX6_isPlayer : List En := [(0, .iload_n 0, 1, 0), (1, .iconst 0, 1, 0), (2, .iconst 2, 1, 0), (3, .invokestatic 44, 3, 145), (6, .ireturn, 1, 0)]
def pgX6_isTriple : List En := [(0, .iload_n 0, 1, 0), (1, .iconst 0, 1, 0), (2, .bipush 26, 2, 0), (4, .invokestatic 44, 3, 145), (7, .ireturn, 1, 0)]
def pgX6_areOf : List En := [(0, .iload_n 0, 1, 0), (1, .iconst 0, 1, 0), (2, .iconst 2, 1, 0), (3, .invokestatic 44, 3, 145), (6, .ifCond .eq 27, 3, 33792), (9, .iload_n 1, 1, 0), (10, .iconst 3, 1, 0), (11, .iconst 5, 1, 0), (12, .invokestatic 44, 3, 145), (15, .ifCond .eq 18, 3, 33792), (18, .iload_n 2, 1, 0), (19, .bipush 6, 2, 0), (21, .bipush 8, 2, 0), (23, .invokestatic 44, 3, 145), (26, .ifCond .eq 7, 3, 33792), (29, .iconst 1, 1, 0), (30, .goto 4, 3, 34816), (33, .iconst 0, 1, 0), (100034, .nop, 0, 0), (34, .ireturn, 1, 0)]
def pgX6_isClue : List En := [(0, .iload_n 1, 1, 0), (1, .iconst 0, 1, 0), (2, .aload_n 0, 1, 0), (3, .getfield 7, 3, 193), (6, .iconst 0, 1, 0), (7, .iaload, 1, 0), (8, .iconst 1, 1, 0), (9, .isub, 1, 0), (10, .invokestatic 44, 3, 145), (13, .ireturn, 1, 0)]
def pgX6_of : List En := [(0, .aload_n 0, 1, 0), (1, .getfield 7, 3, 193), (4, .bipush 12, 2, 0), (6, .iconst 3, 1, 0), (7, .iload_n 1, 1, 0), (8, .imul, 1, 0), (9, .iadd, 1, 0), (10, .iload_n 2, 1, 0), (11, .iadd, 1, 0), (12, .iaload, 1, 0), (13, .ireturn, 1, 0)]
def pgX6_numbered : List En := [(0, .bipush 9, 2, 0), (2, .iload_n 0, 1, 0), (3, .imul, 1, 0), (4, .iconst 3, 1, 0), (5, .iload_n 1, 1, 0), (6, .iconst 3, 1, 0), (7, .isub, 1, 0), (8, .imul, 1, 0), (9, .iadd, 1, 0), (10, .iload_n 2, 1, 0), (11, .iadd, 1, 0), (12, .bipush 6, 2, 0), (14, .isub, 1, 0), (15, .ireturn, 1, 0)]
def pgX6_maskOf : List En := [(0, .iconst 1, 1, 0), (1, .iload_n 0, 1, 0), (2, .bipush 9, 2, 0), (4, .idiv, 1, 0), (5, .ishl, 1, 0), (6, .iconst 1, 1, 0), (7, .iconst 3, 1, 0), (8, .iload_n 0, 1, 0), (9, .iconst 3, 1, 0), (10, .idiv, 1, 0), (11, .iconst 3, 1, 0), (12, .irem, 1, 0), (13, .iadd, 1, 0), (14, .ishl, 1, 0), (15, .ior, 1, 0), (16, .iconst 1, 1, 0), (17, .bipush 6, 2, 0), (19, .iload_n 0, 1, 0), (20, .iconst 3, 1, 0), (21, .irem, 1, 0), (22, .iadd, 1, 0), (23, .ishl, 1, 0), (24, .ior, 1, 0), (25, .ireturn, 1, 0)]
def pgX6_records : List En := [(0, .aload_n 0, 1, 0), (1, .getfield 48, 3, 195), (4, .iconst 5, 1, 0), (5, .if_icmp .ne 43, 3, 49153), (8, .iconst 0, 1, 0), (9, .istore_n 1, 1, 0), (100010, .nop, 0, 3), (10, .iload_n 1, 1, 0), (11, .sipush 288, 3, 0), (14, .if_icmp .ge 24, 3, 38913), (17, .aload_n 0, 1, 0), (18, .getfield 13, 3, 194), (21, .iload_n 1, 1, 0), (22, .aload_n 0, 1, 0), (23, .getfield 13, 3, 194), (26, .iload_n 1, 1, 0), (27, .bipush 72, 2, 0), (29, .iadd, 1, 0), (30, .iaload, 1, 0), (31, .iastore, 1, 0), (32, .iinc 1 1, 3, 0), (35, .goto (-25), 3, 10243), (38, .aload_n 0, 1, 0), (39, .dup, 1, 0), (40, .getfield 48, 3, 195), (43, .iconst 1, 1, 0), (44, .isub, 1, 0), (45, .putfield 48, 3, 195), (100048, .nop, 0, 1), (48, .iconst 0, 1, 0), (49, .istore_n 1, 1, 0), (100050, .nop, 0, 3), (50, .iload_n 1, 1, 0), (51, .bipush 72, 2, 0), (53, .if_icmp .ge 29, 3, 83969), (56, .aload_n 0, 1, 0), (57, .getfield 13, 3, 194), (60, .bipush 72, 2, 0), (62, .aload_n 0, 1, 0), (63, .getfield 48, 3, 195), (66, .imul, 1, 0), (67, .iload_n 1, 1, 0), (68, .iadd, 1, 0), (69, .aload_n 0, 1, 0), (70, .getfield 7, 3, 193), (73, .iload_n 1, 1, 0), (74, .iaload, 1, 0), (75, .iastore, 1, 0), (76, .iinc 1 1, 3, 0), (79, .goto (-29), 3, 51203), (82, .aload_n 0, 1, 0), (83, .dup, 1, 0), (84, .getfield 48, 3, 195), (87, .iconst 1, 1, 0), (88, .iadd, 1, 0), (89, .putfield 48, 3, 195), (92, .return_, 1, 0)]
def pgX6_agrees : List En := [(0, .aload_n 0, 1, 0), (1, .iload_n 1, 1, 0), (2, .iconst 2, 1, 0), (3, .invokevirtual 51, 3, 151), (6, .istore_n 2, 1, 0), (7, .aload_n 0, 1, 0), (8, .iload_n 1, 1, 0), (9, .iconst 1, 1, 0), (10, .invokevirtual 51, 3, 151), (13, .iconst (-1), 1, 0), (14, .if_icmp .ne 12, 3, 26631), (17, .aload_n 0, 1, 0), (18, .getfield 25, 3, 204), (21, .iconst 3, 1, 0), (22, .iaload, 1, 0), (23, .goto 14, 3, 37895), (26, .aload_n 0, 1, 0), (27, .getfield 25, 3, 204), (30, .aload_n 0, 1, 0), (31, .iload_n 1, 1, 0), (32, .iconst 1, 1, 0), (33, .invokevirtual 51, 3, 151), (36, .iaload, 1, 0), (100037, .nop, 0, 7), (37, .istore_n 3, 1, 0), (38, .aload_n 0, 1, 0), (39, .iload_n 1, 1, 0), (40, .iconst 0, 1, 0), (41, .invokevirtual 51, 3, 151), (44, .tableswitch 71 0 4 #[36, 48, 36, 48, 60], 36, 12), (80, .iload_n 3, 1, 0), (81, .iload_n 2, 1, 0), (82, .iand, 1, 0), (83, .ifCond .eq 7, 3, 92160), (86, .iconst 1, 1, 0), (87, .goto 4, 3, 93184), (90, .iconst 0, 1, 0), (100091, .nop, 0, 0), (91, .ireturn, 1, 0), (92, .iload_n 3, 1, 0), (93, .iload_n 2, 1, 0), (94, .iand, 1, 0), (95, .ifCond .ne 7, 3, 104448), (98, .iconst 1, 1, 0), (99, .goto 4, 3, 105472), (102, .iconst 0, 1, 0), (100103, .nop, 0, 0), (103, .ireturn, 1, 0), (104, .iload_n 3, 1, 0), (105, .iload_n 2, 1, 0), (106, .if_icmp .eq 7, 3, 115712), (109, .iconst 1, 1, 0), (110, .goto 4, 3, 116736), (113, .iconst 0, 1, 0), (100114, .nop, 0, 0), (114, .ireturn, 1, 0), (115, .iload_n 3, 1, 0), (116, .iload_n 2, 1, 0), (117, .if_icmp .ne 7, 3, 126976), (120, .iconst 1, 1, 0), (121, .goto 4, 3, 128000), (124, .iconst 0, 1, 0), (100125, .nop, 0, 0), (125, .ireturn, 1, 0)]
def pgX6_agreesAll : List En := [(0, .iconst 1, 1, 0), (1, .istore_n 2, 1, 0), (2, .iconst 0, 1, 0), (3, .istore_n 3, 1, 0), (100004, .nop, 0, 15), (4, .iload_n 3, 1, 0), (5, .aload_n 0, 1, 0), (6, .getfield 7, 3, 193), (9, .iconst 0, 1, 0), (10, .iaload, 1, 0), (11, .if_icmp .ge 32, 3, 44036), (14, .iload_n 2, 1, 0), (15, .ifCond .eq 28, 3, 44036), (18, .iload_n 3, 1, 0), (19, .iload_n 1, 1, 0), (20, .if_icmp .eq 11, 3, 31755), (23, .aload_n 0, 1, 0), (24, .iload_n 3, 1, 0), (25, .invokevirtual 55, 3, 155), (28, .ifCond .eq 7, 3, 35851), (100031, .nop, 0, 11), (31, .iconst 1, 1, 0), (32, .goto 4, 3, 36875), (35, .iconst 0, 1, 0), (100036, .nop, 0, 11), (36, .istore_n 2, 1, 0), (37, .iinc 3 1, 3, 0), (40, .goto (-36), 3, 4111), (43, .iload_n 2, 1, 0), (44, .ireturn, 1, 0)]
def pgX6_countsDeal : List En := [(0, .aload_n 0, 1, 0), (1, .dup, 1, 0), (2, .getfield 59, 3, 205), (5, .iconst 1, 1, 0), (6, .iadd, 1, 0), (7, .putfield 59, 3, 205), (10, .aload_n 0, 1, 0), (11, .getfield 31, 3, 207), (14, .iload_n 1, 1, 0), (15, .dup2, 1, 0), (16, .iaload, 1, 0), (17, .iconst 1, 1, 0), (18, .iadd, 1, 0), (19, .iastore, 1, 0), (20, .iconst 0, 1, 0), (21, .istore_n 2, 1, 0), (100022, .nop, 0, 5), (22, .iload_n 2, 1, 0), (23, .bipush 9, 2, 0), (25, .if_icmp .ge 45, 3, 71681), (28, .iconst 0, 1, 0), (29, .istore_n 3, 1, 0), (100030, .nop, 0, 13), (30, .iload_n 3, 1, 0), (31, .iconst 4, 1, 0), (32, .if_icmp .ge 32, 3, 65541), (35, .aload_n 0, 1, 0), (36, .getfield 28, 3, 206), (39, .iconst 4, 1, 0), (40, .iload_n 2, 1, 0), (41, .imul, 1, 0), (42, .iload_n 3, 1, 0), (43, .iadd, 1, 0), (44, .dup2, 1, 0), (45, .iaload, 1, 0), (46, .aload_n 0, 1, 0), (47, .getfield 25, 3, 204), (50, .iload_n 3, 1, 0), (51, .iaload, 1, 0), (52, .iload_n 2, 1, 0), (53, .ishr, 1, 0), (54, .iconst 1, 1, 0), (55, .iand, 1, 0), (56, .iadd, 1, 0), (57, .iastore, 1, 0), (58, .iinc 3 1, 3, 0), (61, .goto (-31), 3, 30733), (64, .iinc 2 1, 3, 0), (67, .goto (-45), 3, 22533), (70, .iconst 0, 1, 0), (71, .istore_n 2, 1, 0), (100072, .nop, 0, 5), (72, .iload_n 2, 1, 0), (73, .bipush 27, 2, 0), (75, .if_icmp .ge 55, 3, 133120), (78, .iconst 0, 1, 0), (79, .istore_n 3, 1, 0), (100080, .nop, 0, 13), (80, .iload_n 3, 1, 0), (81, .iconst 3, 1, 0), (82, .if_icmp .ge 42, 3, 126981), (85, .aload_n 0, 1, 0), (86, .getfield 34, 3, 208), (89, .bipush 27, 2, 0), (91, .iload_n 3, 1, 0), (92, .imul, 1, 0), (93, .iload_n 2, 1, 0), (94, .iadd, 1, 0), (95, .dup2, 1, 0), (96, .iaload, 1, 0), (97, .aload_n 0, 1, 0), (98, .getfield 25, 3, 204), (101, .iload_n 3, 1, 0), (102, .iaload, 1, 0), (103, .iload_n 2, 1, 0), (104, .invokestatic 62, 3, 153), (107, .iand, 1, 0), (108, .ifCond .ne 7, 3, 117773), (111, .iconst 1, 1, 0), (112, .goto 4, 3, 118797), (115, .iconst 0, 1, 0), (100116, .nop, 0, 13), (116, .iadd, 1, 0), (117, .iastore, 1, 0), (118, .iinc 3 1, 3, 0), (121, .goto (-41), 3, 81933), (124, .iinc 2 1, 3, 0), (127, .goto (-55), 3, 73733), (130, .return_, 1, 0)]
def pgX6_bits : List En := [(0, .iconst 0, 1, 0), (1, .istore_n 1, 1, 0), (2, .iconst 0, 1, 0), (3, .istore_n 2, 1, 0), (100004, .nop, 0, 7), (4, .iload_n 2, 1, 0), (5, .bipush 9, 2, 0), (7, .if_icmp .ge 17, 3, 24578), (10, .iload_n 1, 1, 0), (11, .iload_n 0, 1, 0), (12, .iload_n 2, 1, 0), (13, .ishr, 1, 0), (14, .iconst 1, 1, 0), (15, .iand, 1, 0), (16, .iadd, 1, 0), (17, .istore_n 1, 1, 0), (18, .iinc 2 1, 3, 0), (21, .goto (-17), 3, 4103), (24, .iload_n 1, 1, 0), (25, .ireturn, 1, 0)]
def pgX6_goes : List En := [(0, .iconst 0, 1, 0), (1, .istore_n 3, 1, 0), (2, .iconst 0, 1, 0), (3, .istore 4, 2, 0), (100005, .nop, 0, 31), (5, .iload 4, 2, 0), (7, .bipush 27, 2, 0), (9, .if_icmp .ge 181, 3, 194568), (12, .aload_n 0, 1, 0), (13, .getfield 25, 3, 204), (16, .iconst 3, 1, 0), (17, .iload 4, 2, 0), (19, .invokestatic 62, 3, 153), (22, .iastore, 1, 0), (23, .sipush 511, 3, 0), (26, .aload_n 0, 1, 0), (27, .getfield 25, 3, 204), (30, .iconst 3, 1, 0), (31, .iaload, 1, 0), (32, .iconst (-1), 1, 0), (33, .ixor, 1, 0), (34, .iand, 1, 0), (35, .istore 5, 2, 0), (37, .iload 5, 2, 0), (39, .istore 6, 2, 0), (100041, .nop, 0, 127), (41, .iload 6, 2, 0), (43, .ifCond .le 141, 3, 188447), (46, .iload 5, 2, 0), (48, .iload 6, 2, 0), (50, .iconst (-1), 1, 0), (51, .ixor, 1, 0), (52, .iand, 1, 0), (53, .istore 7, 2, 0), (100055, .nop, 0, 255), (55, .iload 7, 2, 0), (57, .ifCond .le 115, 3, 176255), (60, .iload 6, 2, 0), (62, .invokestatic 66, 3, 158), (65, .iconst 2, 1, 0), (66, .if_icmp .ne 106, 3, 176255), (69, .aload_n 0, 1, 0), (70, .getfield 25, 3, 204), (73, .iconst 0, 1, 0), (74, .iload 6, 2, 0), (76, .iastore, 1, 0), (77, .aload_n 0, 1, 0), (78, .getfield 25, 3, 204), (81, .iconst 1, 1, 0), (82, .iload 7, 2, 0), (84, .iastore, 1, 0), (85, .aload_n 0, 1, 0), (86, .getfield 25, 3, 204), (89, .iconst 2, 1, 0), (90, .iload 5, 2, 0), (92, .iload 6, 2, 0), (94, .iconst (-1), 1, 0), (95, .ixor, 1, 0), (96, .iand, 1, 0), (97, .iload 7, 2, 0), (99, .iconst (-1), 1, 0), (100, .ixor, 1, 0), (101, .iand, 1, 0), (102, .iastore, 1, 0), (103, .iload 7, 2, 0), (105, .invokestatic 66, 3, 158), (108, .iconst 2, 1, 0), (109, .if_icmp .ne 15, 3, 127231), (112, .aload_n 0, 1, 0), (113, .iload_n 1, 1, 0), (114, .invokevirtual 69, 3, 156), (117, .ifCond .eq 7, 3, 127231), (120, .iconst 1, 1, 0), (121, .goto 4, 3, 128255), (124, .iconst 0, 1, 0), (100125, .nop, 0, 255), (125, .istore 8, 2, 0), (127, .iload_n 3, 1, 0), (128, .iload 8, 2, 0), (130, .ifCond .eq 7, 3, 140791), (133, .iconst 1, 1, 0), (134, .goto 4, 3, 141815), (137, .iconst 0, 1, 0), (100138, .nop, 0, 503), (138, .iadd, 1, 0), (139, .istore_n 3, 1, 0), (140, .iload 8, 2, 0), (142, .ifCond .eq 13, 3, 158975), (145, .iload_n 2, 1, 0), (146, .ifCond .eq 9, 3, 158975), (149, .aload_n 0, 1, 0), (150, .iload 4, 2, 0), (152, .invokevirtual 72, 3, 157), (100155, .nop, 0, 255), (155, .iload 7, 2, 0), (157, .iconst 1, 1, 0), (158, .isub, 1, 0), (159, .iload 5, 2, 0), (161, .iand, 1, 0), (162, .iload 6, 2, 0), (164, .iconst (-1), 1, 0), (165, .ixor, 1, 0), (166, .iand, 1, 0), (167, .istore 7, 2, 0), (169, .goto (-114), 3, 56575), (172, .iload 6, 2, 0), (174, .iconst 1, 1, 0), (175, .isub, 1, 0), (176, .iload 5, 2, 0), (178, .iand, 1, 0), (179, .istore 6, 2, 0), (181, .goto (-140), 3, 42111), (184, .iinc 4 1, 3, 0), (187, .goto (-182), 3, 5151), (190, .iload_n 3, 1, 0), (191, .ireturn, 1, 0)]
def pgX6_surveys : List En := [(0, .aload_n 0, 1, 0), (1, .iconst 0, 1, 0), (2, .putfield 59, 3, 205), (5, .iconst 0, 1, 0), (6, .istore_n 1, 1, 0), (100007, .nop, 0, 3), (7, .iload_n 1, 1, 0), (8, .bipush 36, 2, 0), (10, .if_icmp .ge 16, 3, 26625), (13, .aload_n 0, 1, 0), (14, .getfield 28, 3, 206), (17, .iload_n 1, 1, 0), (18, .iconst 0, 1, 0), (19, .iastore, 1, 0), (20, .iinc 1 1, 3, 0), (23, .goto (-16), 3, 7171), (26, .iconst 0, 1, 0), (27, .istore_n 1, 1, 0), (100028, .nop, 0, 3), (28, .iload_n 1, 1, 0), (29, .bipush 27, 2, 0), (31, .if_icmp .ge 16, 3, 48129), (34, .aload_n 0, 1, 0), (35, .getfield 31, 3, 207), (38, .iload_n 1, 1, 0), (39, .iconst 0, 1, 0), (40, .iastore, 1, 0), (41, .iinc 1 1, 3, 0), (44, .goto (-16), 3, 28675), (47, .iconst 0, 1, 0), (48, .istore_n 1, 1, 0), (100049, .nop, 0, 3), (49, .iload_n 1, 1, 0), (50, .bipush 81, 2, 0), (52, .if_icmp .ge 16, 3, 69633), (55, .aload_n 0, 1, 0), (56, .getfield 34, 3, 208), (59, .iload_n 1, 1, 0), (60, .iconst 0, 1, 0), (61, .iastore, 1, 0), (62, .iinc 1 1, 3, 0), (65, .goto (-16), 3, 50179), (68, .aload_n 0, 1, 0), (69, .iconst (-1), 1, 0), (70, .iconst 1, 1, 0), (71, .invokevirtual 76, 3, 159), (74, .pop, 1, 0), (75, .return_, 1, 0)]
def pgX6_certain : List En := [(0, .iconst (-1), 1, 0), (1, .istore_n 2, 1, 0), (2, .iconst 0, 1, 0), (3, .istore_n 3, 1, 0), (100004, .nop, 0, 15), (4, .iload_n 3, 1, 0), (5, .iconst 4, 1, 0), (6, .if_icmp .ge 39, 3, 46084), (9, .aload_n 0, 1, 0), (10, .getfield 59, 3, 205), (13, .ifCond .le 24, 3, 37903), (16, .aload_n 0, 1, 0), (17, .getfield 28, 3, 206), (20, .iconst 4, 1, 0), (21, .iload_n 1, 1, 0), (22, .imul, 1, 0), (23, .iload_n 3, 1, 0), (24, .iadd, 1, 0), (25, .iaload, 1, 0), (26, .aload_n 0, 1, 0), (27, .getfield 59, 3, 205), (30, .if_icmp .ne 7, 3, 37903), (33, .iload_n 3, 1, 0), (34, .goto 4, 3, 38923), (37, .iload_n 2, 1, 0), (100038, .nop, 0, 11), (38, .istore_n 2, 1, 0), (39, .iinc 3 1, 3, 0), (42, .goto (-38), 3, 4111), (45, .iload_n 2, 1, 0), (46, .ireturn, 1, 0)]
def pgX6_certainMany : List En := [(0, .iconst 0, 1, 0), (1, .istore_n 1, 1, 0), (2, .iconst 0, 1, 0), (3, .istore_n 2, 1, 0), (100004, .nop, 0, 7), (4, .iload_n 2, 1, 0), (5, .bipush 9, 2, 0), (7, .if_icmp .ge 26, 3, 33794), (10, .iload_n 1, 1, 0), (11, .aload_n 0, 1, 0), (12, .iload_n 2, 1, 0), (13, .invokevirtual 80, 3, 161), (16, .iconst (-1), 1, 0), (17, .if_icmp .ne 7, 3, 24581), (20, .iconst 0, 1, 0), (21, .goto 4, 3, 25605), (24, .iconst 1, 1, 0), (100025, .nop, 0, 5), (25, .iadd, 1, 0), (26, .istore_n 1, 1, 0), (27, .iinc 2 1, 3, 0), (30, .goto (-26), 3, 4103), (33, .iload_n 1, 1, 0), (34, .ireturn, 1, 0)]
def pgX6_envelopeMany : List En := [(0, .iconst 0, 1, 0), (1, .istore_n 1, 1, 0), (2, .iconst 0, 1, 0), (3, .istore_n 2, 1, 0), (100004, .nop, 0, 7), (4, .iload_n 2, 1, 0), (5, .bipush 27, 2, 0), (7, .if_icmp .ge 26, 3, 33794), (10, .iload_n 1, 1, 0), (11, .aload_n 0, 1, 0), (12, .getfield 31, 3, 207), (15, .iload_n 2, 1, 0), (16, .iaload, 1, 0), (17, .ifCond .le 7, 3, 24581), (20, .iconst 1, 1, 0), (21, .goto 4, 3, 25605), (24, .iconst 0, 1, 0), (100025, .nop, 0, 5), (25, .iadd, 1, 0), (26, .istore_n 1, 1, 0), (27, .iinc 2 1, 3, 0), (30, .goto (-26), 3, 4103), (33, .iload_n 1, 1, 0), (34, .ireturn, 1, 0)]
def pgX6_bestIn : List En := [(0, .iconst 0, 1, 0), (1, .istore_n 1, 1, 0), (2, .iconst 1, 1, 0), (3, .istore_n 2, 1, 0), (100004, .nop, 0, 7), (4, .iload_n 2, 1, 0), (5, .bipush 27, 2, 0), (7, .if_icmp .ge 30, 3, 37890), (10, .aload_n 0, 1, 0), (11, .getfield 31, 3, 207), (14, .iload_n 2, 1, 0), (15, .iaload, 1, 0), (16, .aload_n 0, 1, 0), (17, .getfield 31, 3, 207), (20, .iload_n 1, 1, 0), (21, .iaload, 1, 0), (22, .if_icmp .le 7, 3, 29703), (25, .iload_n 2, 1, 0), (26, .goto 4, 3, 30725), (29, .iload_n 1, 1, 0), (100030, .nop, 0, 5), (30, .istore_n 1, 1, 0), (31, .iinc 2 1, 3, 0), (34, .goto (-30), 3, 4103), (37, .iload_n 1, 1, 0), (38, .ireturn, 1, 0)]
def pgX6_leaves : List En := [(0, .aload_n 0, 1, 0), (1, .getfield 34, 3, 208), (4, .bipush 27, 2, 0), (6, .iload_n 1, 1, 0), (7, .imul, 1, 0), (8, .iload_n 2, 1, 0), (9, .iadd, 1, 0), (10, .iaload, 1, 0), (11, .istore_n 3, 1, 0), (12, .iload_n 3, 1, 0), (13, .aload_n 0, 1, 0), (14, .getfield 59, 3, 205), (17, .iload_n 3, 1, 0), (18, .isub, 1, 0), (19, .if_icmp .le 7, 3, 26633), (22, .iload_n 3, 1, 0), (23, .goto 9, 3, 32768), (26, .aload_n 0, 1, 0), (27, .getfield 59, 3, 205), (30, .iload_n 3, 1, 0), (31, .isub, 1, 0), (100032, .nop, 0, 0), (32, .ireturn, 1, 0)]
def pgX6_bestFor : List En := [(0, .iconst 0, 1, 0), (1, .istore_n 2, 1, 0), (2, .iconst 1, 1, 0), (3, .istore_n 3, 1, 0), (100004, .nop, 0, 15), (4, .iload_n 3, 1, 0), (5, .bipush 27, 2, 0), (7, .if_icmp .ge 30, 3, 37892), (10, .aload_n 0, 1, 0), (11, .iload_n 1, 1, 0), (12, .iload_n 3, 1, 0), (13, .invokevirtual 83, 3, 165), (16, .aload_n 0, 1, 0), (17, .iload_n 1, 1, 0), (18, .iload_n 2, 1, 0), (19, .invokevirtual 83, 3, 165), (22, .if_icmp .ge 7, 3, 29711), (25, .iload_n 3, 1, 0), (26, .goto 4, 3, 30731), (29, .iload_n 2, 1, 0), (100030, .nop, 0, 11), (30, .istore_n 2, 1, 0), (31, .iinc 3 1, 3, 0), (34, .goto (-30), 3, 4111), (37, .iload_n 2, 1, 0), (38, .ireturn, 1, 0)]
def pgX6_idleMany : List En := [(0, .aload_n 0, 1, 0), (1, .iconst (-1), 1, 0), (2, .iconst 0, 1, 0), (3, .invokevirtual 76, 3, 159), (6, .istore_n 1, 1, 0), (7, .iconst 0, 1, 0), (8, .istore_n 2, 1, 0), (9, .iconst 0, 1, 0), (10, .istore_n 3, 1, 0), (100011, .nop, 0, 15), (11, .iload_n 3, 1, 0), (12, .aload_n 0, 1, 0), (13, .getfield 7, 3, 193), (16, .iconst 0, 1, 0), (17, .iaload, 1, 0), (18, .if_icmp .ge 27, 3, 46084), (21, .iload_n 2, 1, 0), (22, .aload_n 0, 1, 0), (23, .iload_n 3, 1, 0), (24, .iconst 0, 1, 0), (25, .invokevirtual 76, 3, 159), (28, .iload_n 1, 1, 0), (29, .if_icmp .ne 7, 3, 36875), (32, .iconst 1, 1, 0), (33, .goto 4, 3, 37899), (36, .iconst 0, 1, 0), (100037, .nop, 0, 11), (37, .iadd, 1, 0), (38, .istore_n 2, 1, 0), (39, .iinc 3 1, 3, 0), (42, .goto (-31), 3, 11279), (45, .iload_n 2, 1, 0), (46, .ireturn, 1, 0)]
def pgX6_mayMany : List En := [(0, .iconst 0, 1, 0), (1, .istore_n 1, 1, 0), (2, .iconst 0, 1, 0), (3, .istore_n 2, 1, 0), (100004, .nop, 0, 7), (4, .iload_n 2, 1, 0), (5, .bipush 36, 2, 0), (7, .if_icmp .ge 26, 3, 33794), (10, .iload_n 1, 1, 0), (11, .aload_n 0, 1, 0), (12, .getfield 28, 3, 206), (15, .iload_n 2, 1, 0), (16, .iaload, 1, 0), (17, .ifCond .le 7, 3, 24581), (20, .iconst 1, 1, 0), (21, .goto 4, 3, 25605), (24, .iconst 0, 1, 0), (100025, .nop, 0, 5), (25, .iadd, 1, 0), (26, .istore_n 1, 1, 0), (27, .iinc 2 1, 3, 0), (30, .goto (-26), 3, 4103), (33, .iload_n 1, 1, 0), (34, .ireturn, 1, 0)]
def pgX6_looksAtMaster : List En := [(0, .iconst 0, 1, 0), (1, .istore_n 1, 1, 0), (100002, .nop, 0, 3), (2, .iload_n 1, 1, 0), (3, .iconst 4, 1, 0), (4, .if_icmp .ge 16, 3, 20481), (7, .aload_n 0, 1, 0), (8, .getfield 25, 3, 204), (11, .iload_n 1, 1, 0), (12, .iconst 0, 1, 0), (13, .iastore, 1, 0), (14, .iinc 1 1, 3, 0), (17, .goto (-15), 3, 2051), (20, .iconst 0, 1, 0), (21, .istore_n 1, 1, 0), (100022, .nop, 0, 3), (22, .iload_n 1, 1, 0), (23, .bipush 9, 2, 0), (25, .if_icmp .ge 28, 3, 54272), (28, .aload_n 0, 1, 0), (29, .getfield 25, 3, 204), (32, .aload_n 0, 1, 0), (33, .getfield 7, 3, 193), (36, .iconst 3, 1, 0), (37, .iload_n 1, 1, 0), (38, .iadd, 1, 0), (39, .iaload, 1, 0), (40, .dup2, 1, 0), (41, .iaload, 1, 0), (42, .iconst 1, 1, 0), (43, .iload_n 1, 1, 0), (44, .ishl, 1, 0), (45, .ior, 1, 0), (46, .iastore, 1, 0), (47, .iinc 1 1, 3, 0), (50, .goto (-28), 3, 22531), (53, .return_, 1, 0)]
def pgX6_masterTriple : List En := [(0, .aload_n 0, 1, 0), (1, .invokevirtual 86, 3, 169), (4, .iconst 0, 1, 0), (5, .istore_n 1, 1, 0), (6, .iconst 0, 1, 0), (7, .istore_n 2, 1, 0), (100008, .nop, 0, 7), (8, .iload_n 2, 1, 0), (9, .bipush 27, 2, 0), (11, .if_icmp .ge 28, 3, 39938), (14, .iload_n 2, 1, 0), (15, .invokestatic 62, 3, 153), (18, .aload_n 0, 1, 0), (19, .getfield 25, 3, 204), (22, .iconst 3, 1, 0), (23, .iaload, 1, 0), (24, .if_icmp .ne 7, 3, 31751), (27, .iload_n 2, 1, 0), (28, .goto 4, 3, 32773), (31, .iload_n 1, 1, 0), (100032, .nop, 0, 5), (32, .istore_n 1, 1, 0), (33, .iinc 2 1, 3, 0), (36, .goto (-28), 3, 8199), (39, .iload_n 1, 1, 0), (40, .ireturn, 1, 0)]
def pgX6_holdsTrue : List En := [(0, .aload_n 0, 1, 0), (1, .invokevirtual 86, 3, 169), (4, .aload_n 0, 1, 0), (5, .iload_n 1, 1, 0), (6, .invokevirtual 55, 3, 155), (9, .ireturn, 1, 0)]
def pgX6_untrueMany : List En := [(0, .iconst 0, 1, 0), (1, .istore_n 1, 1, 0), (2, .iconst 0, 1, 0), (3, .istore_n 2, 1, 0), (100004, .nop, 0, 7), (4, .iload_n 2, 1, 0), (5, .aload_n 0, 1, 0), (6, .getfield 7, 3, 193), (9, .iconst 0, 1, 0), (10, .iaload, 1, 0), (11, .if_icmp .ge 25, 3, 36866), (14, .iload_n 1, 1, 0), (15, .aload_n 0, 1, 0), (16, .iload_n 2, 1, 0), (17, .invokevirtual 89, 3, 171), (20, .ifCond .eq 7, 3, 27653), (23, .iconst 0, 1, 0), (24, .goto 4, 3, 28677), (27, .iconst 1, 1, 0), (100028, .nop, 0, 5), (28, .iadd, 1, 0), (29, .istore_n 1, 1, 0), (30, .iinc 2 1, 3, 0), (33, .goto (-29), 3, 4103), (36, .iload_n 1, 1, 0), (37, .ireturn, 1, 0)]
def pgX6_keeps : List En := [(0, .aload_n 0, 1, 0), (1, .getfield 37, 3, 209), (4, .iload_n 1, 1, 0), (5, .iaload, 1, 0), (6, .istore_n 3, 1, 0), (7, .aload_n 0, 1, 0), (8, .getfield 37, 3, 209), (11, .iload_n 1, 1, 0), (12, .iload_n 3, 1, 0), (13, .iload_n 2, 1, 0), (14, .iand, 1, 0), (15, .iastore, 1, 0), (16, .aload_n 0, 1, 0), (17, .getfield 37, 3, 209), (20, .iload_n 1, 1, 0), (21, .iaload, 1, 0), (22, .iload_n 3, 1, 0), (23, .if_icmp .eq 7, 3, 30720), (26, .iconst 1, 1, 0), (27, .goto 4, 3, 31744), (30, .iconst 0, 1, 0), (100031, .nop, 0, 0), (31, .ireturn, 1, 0)]
def pgX6_loses : List En := [(0, .aload_n 0, 1, 0), (1, .iload_n 1, 1, 0), (2, .bipush 15, 2, 0), (4, .iconst 1, 1, 0), (5, .iload_n 2, 1, 0), (6, .ishl, 1, 0), (7, .iconst (-1), 1, 0), (8, .ixor, 1, 0), (9, .iand, 1, 0), (10, .invokevirtual 92, 3, 173), (13, .ireturn, 1, 0)]
def pgX6_mayLie : List En := [(0, .aload_n 0, 1, 0), (1, .getfield 37, 3, 209), (4, .iload_n 1, 1, 0), (5, .iaload, 1, 0), (6, .iload_n 2, 1, 0), (7, .ishr, 1, 0), (8, .iconst 1, 1, 0), (9, .iand, 1, 0), (10, .iconst 1, 1, 0), (11, .if_icmp .ne 7, 3, 18432), (14, .iconst 1, 1, 0), (15, .goto 4, 3, 19456), (18, .iconst 0, 1, 0), (100019, .nop, 0, 0), (19, .ireturn, 1, 0)]
def pgX6_isOnly : List En := [(0, .aload_n 0, 1, 0), (1, .getfield 37, 3, 209), (4, .iload_n 1, 1, 0), (5, .iaload, 1, 0), (6, .iconst 1, 1, 0), (7, .iload_n 2, 1, 0), (8, .ishl, 1, 0), (9, .if_icmp .ne 7, 3, 16384), (12, .iconst 1, 1, 0), (13, .goto 4, 3, 17408), (16, .iconst 0, 1, 0), (100017, .nop, 0, 0), (17, .ireturn, 1, 0)]
def pgX6_counts : List En := [(0, .iconst 0, 1, 0), (1, .istore 4, 2, 0), (3, .iconst 0, 1, 0), (4, .istore 5, 2, 0), (100006, .nop, 0, 63), (6, .iload 5, 2, 0), (8, .bipush 9, 2, 0), (10, .if_icmp .ge 52, 3, 63504), (13, .iload_n 3, 1, 0), (14, .ifCond .eq 13, 3, 27711), (17, .aload_n 0, 1, 0), (18, .iload 5, 2, 0), (20, .iload_n 2, 1, 0), (21, .invokevirtual 96, 3, 176), (24, .goto 10, 3, 34879), (27, .aload_n 0, 1, 0), (28, .iload 5, 2, 0), (30, .iload_n 2, 1, 0), (31, .invokevirtual 99, 3, 175), (100034, .nop, 0, 63), (34, .istore 6, 2, 0), (36, .iload 4, 2, 0), (38, .iload 6, 2, 0), (40, .ifCond .eq 12, 3, 53295), (43, .iload_n 1, 1, 0), (44, .iload 5, 2, 0), (46, .ishr, 1, 0), (47, .iconst 1, 1, 0), (48, .iand, 1, 0), (49, .goto 4, 3, 54319), (52, .iconst 0, 1, 0), (100053, .nop, 0, 47), (53, .iadd, 1, 0), (54, .istore 4, 2, 0), (56, .iinc 5 1, 3, 0), (59, .goto (-53), 3, 6207), (62, .iload 4, 2, 0), (64, .ireturn, 1, 0)]
def pgX6_fixes : List En := [(0, .iconst 0, 1, 0), (1, .istore_n 3, 1, 0), (2, .iconst 0, 1, 0), (3, .istore 4, 2, 0), (100005, .nop, 0, 31), (5, .iload 4, 2, 0), (7, .bipush 9, 2, 0), (9, .if_icmp .ge 51, 3, 61448), (12, .iload_n 1, 1, 0), (13, .iload 4, 2, 0), (15, .ishr, 1, 0), (16, .iconst 1, 1, 0), (17, .iand, 1, 0), (18, .iconst 1, 1, 0), (19, .if_icmp .ne 35, 3, 55327), (22, .aload_n 0, 1, 0), (23, .iload 4, 2, 0), (25, .iload_n 2, 1, 0), (26, .invokevirtual 99, 3, 175), (29, .ifCond .eq 25, 3, 55327), (32, .aload_n 0, 1, 0), (33, .iload 4, 2, 0), (35, .iconst 1, 1, 0), (36, .iload_n 2, 1, 0), (37, .ishl, 1, 0), (38, .invokevirtual 92, 3, 173), (41, .ifCond .ne 7, 3, 49175), (44, .iload_n 3, 1, 0), (45, .ifCond .eq 7, 3, 53271), (100048, .nop, 0, 23), (48, .iconst 1, 1, 0), (49, .goto 4, 3, 54295), (52, .iconst 0, 1, 0), (100053, .nop, 0, 23), (53, .istore_n 3, 1, 0), (100054, .nop, 0, 31), (54, .iinc 4 1, 3, 0), (57, .goto (-52), 3, 5151), (60, .iload_n 3, 1, 0), (61, .ireturn, 1, 0)]
def pgX6_bars : List En := [(0, .iconst 0, 1, 0), (1, .istore_n 3, 1, 0), (2, .iconst 0, 1, 0), (3, .istore 4, 2, 0), (100005, .nop, 0, 31), (5, .iload 4, 2, 0), (7, .bipush 9, 2, 0), (9, .if_icmp .ge 49, 3, 59400), (12, .iload_n 1, 1, 0), (13, .iload 4, 2, 0), (15, .ishr, 1, 0), (16, .iconst 1, 1, 0), (17, .iand, 1, 0), (18, .iconst 1, 1, 0), (19, .if_icmp .ne 33, 3, 53279), (22, .aload_n 0, 1, 0), (23, .iload 4, 2, 0), (25, .iload_n 2, 1, 0), (26, .invokevirtual 96, 3, 176), (29, .ifCond .ne 23, 3, 53279), (32, .aload_n 0, 1, 0), (33, .iload 4, 2, 0), (35, .iload_n 2, 1, 0), (36, .invokevirtual 102, 3, 174), (39, .ifCond .ne 7, 3, 47127), (42, .iload_n 3, 1, 0), (43, .ifCond .eq 7, 3, 51223), (100046, .nop, 0, 23), (46, .iconst 1, 1, 0), (47, .goto 4, 3, 52247), (50, .iconst 0, 1, 0), (100051, .nop, 0, 23), (51, .istore_n 3, 1, 0), (100052, .nop, 0, 31), (52, .iinc 4 1, 3, 0), (55, .goto (-50), 3, 5151), (58, .iload_n 3, 1, 0), (59, .ireturn, 1, 0)]
def pgX6_usesClue : List En := [(0, .aload_n 0, 1, 0), (1, .iload_n 1, 1, 0), (2, .iconst 2, 1, 0), (3, .invokevirtual 51, 3, 151), (6, .istore_n 2, 1, 0), (7, .aload_n 0, 1, 0), (8, .iload_n 1, 1, 0), (9, .iconst 1, 1, 0), (10, .invokevirtual 51, 3, 151), (13, .istore_n 3, 1, 0), (14, .iconst 0, 1, 0), (15, .istore 4, 2, 0), (17, .iconst 0, 1, 0), (18, .istore 5, 2, 0), (100020, .nop, 0, 63), (20, .iload 5, 2, 0), (22, .bipush 9, 2, 0), (24, .if_icmp .ge 149, 3, 177183), (27, .iload_n 2, 1, 0), (28, .iload 5, 2, 0), (30, .ishr, 1, 0), (31, .iconst 1, 1, 0), (32, .iand, 1, 0), (33, .iconst 1, 1, 0), (34, .if_icmp .ne 7, 3, 42047), (37, .iconst 1, 1, 0), (38, .goto 4, 3, 43071), (41, .iconst 0, 1, 0), (100042, .nop, 0, 63), (42, .istore 6, 2, 0), (44, .iload 6, 2, 0), (46, .ifCond .eq 36, 3, 84095), (49, .aload_n 0, 1, 0), (50, .iload_n 1, 1, 0), (51, .iconst 0, 1, 0), (52, .invokevirtual 51, 3, 151), (55, .ifCond .ne 27, 3, 84095), (58, .aload_n 0, 1, 0), (59, .iload 5, 2, 0), (61, .iconst 1, 1, 0), (62, .iload_n 3, 1, 0), (63, .ishl, 1, 0), (64, .invokevirtual 92, 3, 173), (67, .ifCond .ne 8, 3, 76911), (70, .iload 4, 2, 0), (72, .ifCond .eq 7, 3, 81007), (100075, .nop, 0, 111), (75, .iconst 1, 1, 0), (76, .goto 4, 3, 82031), (79, .iconst 0, 1, 0), (100080, .nop, 0, 111), (80, .istore 4, 2, 0), (100082, .nop, 0, 127), (82, .iload 6, 2, 0), (84, .ifCond .eq 45, 3, 132223), (87, .aload_n 0, 1, 0), (88, .iload_n 1, 1, 0), (89, .iconst 0, 1, 0), (90, .invokevirtual 51, 3, 151), (93, .iconst 1, 1, 0), (94, .if_icmp .eq 13, 3, 109695), (97, .aload_n 0, 1, 0), (98, .iload_n 1, 1, 0), (99, .iconst 0, 1, 0), (100, .invokevirtual 51, 3, 151), (103, .iconst 3, 1, 0), (104, .if_icmp .ne 25, 3, 132223), (100107, .nop, 0, 127), (107, .aload_n 0, 1, 0), (108, .iload 5, 2, 0), (110, .iload_n 3, 1, 0), (111, .invokevirtual 102, 3, 174), (114, .ifCond .ne 8, 3, 125039), (117, .iload 4, 2, 0), (119, .ifCond .eq 7, 3, 129135), (100122, .nop, 0, 111), (122, .iconst 1, 1, 0), (123, .goto 4, 3, 130159), (126, .iconst 0, 1, 0), (100127, .nop, 0, 111), (127, .istore 4, 2, 0), (100129, .nop, 0, 127), (129, .iload 6, 2, 0), (131, .ifCond .eq 36, 3, 171071), (134, .aload_n 0, 1, 0), (135, .iload_n 1, 1, 0), (136, .iconst 0, 1, 0), (137, .invokevirtual 51, 3, 151), (140, .iconst 5, 1, 0), (141, .if_icmp .ne 26, 3, 171071), (144, .aload_n 0, 1, 0), (145, .iload 5, 2, 0), (147, .bipush 8, 2, 0), (149, .invokevirtual 92, 3, 173), (152, .ifCond .ne 8, 3, 163887), (155, .iload 4, 2, 0), (157, .ifCond .eq 7, 3, 167983), (100160, .nop, 0, 47), (160, .iconst 1, 1, 0), (161, .goto 4, 3, 169007), (164, .iconst 0, 1, 0), (100165, .nop, 0, 47), (165, .istore 4, 2, 0), (100167, .nop, 0, 63), (167, .iinc 5 1, 3, 0), (170, .goto (-150), 3, 20543), (173, .aload_n 0, 1, 0), (174, .iload_n 1, 1, 0), (175, .iconst 0, 1, 0), (176, .invokevirtual 51, 3, 151), (179, .iconst 2, 1, 0), (180, .if_icmp .ne 35, 3, 220183), (183, .aload_n 0, 1, 0), (184, .iload_n 2, 1, 0), (185, .iload_n 3, 1, 0), (186, .iconst 0, 1, 0), (187, .invokevirtual 105, 3, 177), (190, .iconst 1, 1, 0), (191, .if_icmp .ne 24, 3, 220183), (194, .aload_n 0, 1, 0), (195, .iload_n 2, 1, 0), (196, .iload_n 3, 1, 0), (197, .invokevirtual 109, 3, 178), (200, .ifCond .ne 8, 3, 212999), (203, .iload 4, 2, 0), (205, .ifCond .eq 7, 3, 217095), (100208, .nop, 0, 7), (208, .iconst 1, 1, 0), (209, .goto 4, 3, 218119), (212, .iconst 0, 1, 0), (100213, .nop, 0, 7), (213, .istore 4, 2, 0), (100215, .nop, 0, 23), (215, .aload_n 0, 1, 0), (216, .iload_n 1, 1, 0), (217, .iconst 0, 1, 0), (218, .invokevirtual 51, 3, 151), (221, .iconst 4, 1, 0), (222, .if_icmp .ne 35, 3, 263184), (225, .aload_n 0, 1, 0), (226, .iload_n 2, 1, 0), (227, .iconst 3, 1, 0), (228, .iconst 1, 1, 0), (229, .invokevirtual 105, 3, 177), (232, .iconst 2, 1, 0), (233, .if_icmp .ne 24, 3, 263184), (236, .aload_n 0, 1, 0), (237, .iload_n 2, 1, 0), (238, .iconst 3, 1, 0), (239, .invokevirtual 112, 3, 179), (242, .ifCond .ne 8, 3, 256000), (245, .iload 4, 2, 0), (247, .ifCond .eq 7, 3, 260096), (100250, .nop, 0, 0), (250, .iconst 1, 1, 0), (251, .goto 4, 3, 261120), (254, .iconst 0, 1, 0), (100255, .nop, 0, 0), (255, .istore 4, 2, 0), (100257, .nop, 0, 16), (257, .iload 4, 2, 0), (259, .ireturn, 1, 0)]
def pgX6_usesKind : List En := [(0, .bipush 7, 2, 0), (2, .iconst 3, 1, 0), (3, .iload_n 1, 1, 0), (4, .imul, 1, 0), (5, .ishl, 1, 0), (6, .istore_n 2, 1, 0), (7, .iconst 0, 1, 0), (8, .istore_n 3, 1, 0), (9, .aload_n 0, 1, 0), (10, .iload_n 2, 1, 0), (11, .iconst 3, 1, 0), (12, .iconst 1, 1, 0), (13, .invokevirtual 105, 3, 177), (16, .ifCond .le 10, 3, 26637), (19, .aload_n 0, 1, 0), (20, .iload_n 2, 1, 0), (21, .iconst 3, 1, 0), (22, .invokevirtual 112, 3, 179), (25, .istore_n 3, 1, 0), (100026, .nop, 0, 13), (26, .aload_n 0, 1, 0), (27, .iload_n 2, 1, 0), (28, .iconst 3, 1, 0), (29, .iconst 0, 1, 0), (30, .invokevirtual 105, 3, 177), (33, .iconst 1, 1, 0), (34, .if_icmp .ne 22, 3, 57352), (37, .aload_n 0, 1, 0), (38, .iload_n 2, 1, 0), (39, .iconst 3, 1, 0), (40, .invokevirtual 109, 3, 178), (43, .ifCond .ne 7, 3, 51200), (46, .iload_n 3, 1, 0), (47, .ifCond .eq 7, 3, 55296), (100050, .nop, 0, 0), (50, .iconst 1, 1, 0), (51, .goto 4, 3, 56320), (54, .iconst 0, 1, 0), (100055, .nop, 0, 0), (55, .istore_n 3, 1, 0), (100056, .nop, 0, 8), (56, .iload_n 3, 1, 0), (57, .ireturn, 1, 0)]
def pgX6_usesPlayer : List En := [(0, .iconst 0, 1, 0), (1, .istore_n 2, 1, 0), (2, .aload_n 0, 1, 0), (3, .sipush 511, 3, 0), (6, .iload_n 1, 1, 0), (7, .iconst 1, 1, 0), (8, .invokevirtual 105, 3, 177), (11, .iconst 2, 1, 0), (12, .if_icmp .ne 12, 3, 24583), (15, .aload_n 0, 1, 0), (16, .sipush 511, 3, 0), (19, .iload_n 1, 1, 0), (20, .invokevirtual 112, 3, 179), (23, .istore_n 2, 1, 0), (100024, .nop, 0, 7), (24, .aload_n 0, 1, 0), (25, .sipush 511, 3, 0), (28, .iload_n 1, 1, 0), (29, .iconst 0, 1, 0), (30, .invokevirtual 105, 3, 177), (33, .iconst 2, 1, 0), (34, .if_icmp .ne 24, 3, 59396), (37, .aload_n 0, 1, 0), (38, .sipush 511, 3, 0), (41, .iload_n 1, 1, 0), (42, .invokevirtual 109, 3, 178), (45, .ifCond .ne 7, 3, 53248), (48, .iload_n 2, 1, 0), (49, .ifCond .eq 7, 3, 57344), (100052, .nop, 0, 0), (52, .iconst 1, 1, 0), (53, .goto 4, 3, 58368), (56, .iconst 0, 1, 0), (100057, .nop, 0, 0), (57, .istore_n 2, 1, 0), (100058, .nop, 0, 4), (58, .iload_n 2, 1, 0), (59, .ireturn, 1, 0)]
def pgX6_breaksDown : List En := [(0, .iconst 0, 1, 0), (1, .istore_n 1, 1, 0), (2, .iconst 0, 1, 0), (3, .istore_n 2, 1, 0), (100004, .nop, 0, 7), (4, .iload_n 2, 1, 0), (5, .bipush 9, 2, 0), (7, .if_icmp .ge 28, 3, 35843), (10, .iload_n 1, 1, 0), (11, .ifCond .ne 12, 3, 23557), (14, .aload_n 0, 1, 0), (15, .getfield 37, 3, 209), (18, .iload_n 2, 1, 0), (19, .iaload, 1, 0), (20, .ifCond .ne 7, 3, 27653), (100023, .nop, 0, 5), (23, .iconst 1, 1, 0), (24, .goto 4, 3, 28677), (27, .iconst 0, 1, 0), (100028, .nop, 0, 5), (28, .istore_n 1, 1, 0), (29, .iinc 2 1, 3, 0), (32, .goto (-28), 3, 4103), (35, .iconst 0, 1, 0), (36, .istore_n 2, 1, 0), (100037, .nop, 0, 7), (37, .iload_n 2, 1, 0), (38, .iconst 3, 1, 0), (39, .if_icmp .ge 50, 3, 91139), (42, .iload_n 1, 1, 0), (43, .ifCond .ne 34, 3, 78853), (46, .aload_n 0, 1, 0), (47, .bipush 7, 2, 0), (49, .iconst 3, 1, 0), (50, .iload_n 2, 1, 0), (51, .imul, 1, 0), (52, .ishl, 1, 0), (53, .iconst 3, 1, 0), (54, .iconst 0, 1, 0), (55, .invokevirtual 105, 3, 177), (58, .ifCond .eq 19, 3, 78853), (61, .aload_n 0, 1, 0), (62, .bipush 7, 2, 0), (64, .iconst 3, 1, 0), (65, .iload_n 2, 1, 0), (66, .imul, 1, 0), (67, .ishl, 1, 0), (68, .iconst 3, 1, 0), (69, .iconst 1, 1, 0), (70, .invokevirtual 105, 3, 177), (73, .iconst 1, 1, 0), (74, .if_icmp .le 7, 3, 82949), (100077, .nop, 0, 5), (77, .iconst 1, 1, 0), (78, .goto 4, 3, 83973), (81, .iconst 0, 1, 0), (100082, .nop, 0, 5), (82, .istore_n 1, 1, 0), (83, .iinc 2 1, 3, 0), (86, .goto (-49), 3, 37895), (89, .iconst 0, 1, 0), (90, .istore_n 2, 1, 0), (100091, .nop, 0, 7), (91, .iload_n 2, 1, 0), (92, .iconst 3, 1, 0), (93, .if_icmp .ge 45, 3, 141315), (96, .iload_n 1, 1, 0), (97, .ifCond .ne 29, 3, 129029), (100, .aload_n 0, 1, 0), (101, .sipush 511, 3, 0), (104, .iload_n 2, 1, 0), (105, .iconst 0, 1, 0), (106, .invokevirtual 105, 3, 177), (109, .iconst 2, 1, 0), (110, .if_icmp .lt 16, 3, 129029), (113, .aload_n 0, 1, 0), (114, .sipush 511, 3, 0), (117, .iload_n 2, 1, 0), (118, .iconst 1, 1, 0), (119, .invokevirtual 105, 3, 177), (122, .iconst 2, 1, 0), (123, .if_icmp .le 7, 3, 133125), (100126, .nop, 0, 5), (126, .iconst 1, 1, 0), (127, .goto 4, 3, 134149), (130, .iconst 0, 1, 0), (100131, .nop, 0, 5), (131, .istore_n 1, 1, 0), (132, .iinc 2 1, 3, 0), (135, .goto (-44), 3, 93191), (138, .iconst 0, 1, 0), (139, .istore_n 2, 1, 0), (100140, .nop, 0, 7), (140, .iload_n 2, 1, 0), (141, .aload_n 0, 1, 0), (142, .getfield 7, 3, 193), (145, .iconst 0, 1, 0), (146, .iaload, 1, 0), (147, .if_icmp .ge 85, 3, 237570), (150, .iload_n 1, 1, 0), (151, .ifCond .ne 33, 3, 188421), (154, .aload_n 0, 1, 0), (155, .iload_n 2, 1, 0), (156, .iconst 0, 1, 0), (157, .invokevirtual 51, 3, 151), (160, .iconst 2, 1, 0), (161, .if_icmp .ne 27, 3, 192517), (164, .aload_n 0, 1, 0), (165, .aload_n 0, 1, 0), (166, .iload_n 2, 1, 0), (167, .iconst 2, 1, 0), (168, .invokevirtual 51, 3, 151), (171, .aload_n 0, 1, 0), (172, .iload_n 2, 1, 0), (173, .iconst 1, 1, 0), (174, .invokevirtual 51, 3, 151), (177, .iconst 0, 1, 0), (178, .invokevirtual 105, 3, 177), (181, .ifCond .ne 7, 3, 192517), (100184, .nop, 0, 5), (184, .iconst 1, 1, 0), (185, .goto 4, 3, 193541), (188, .iconst 0, 1, 0), (100189, .nop, 0, 5), (189, .istore_n 1, 1, 0), (190, .iload_n 1, 1, 0), (191, .ifCond .ne 29, 3, 225285), (194, .aload_n 0, 1, 0), (195, .iload_n 2, 1, 0), (196, .iconst 0, 1, 0), (197, .invokevirtual 51, 3, 151), (200, .iconst 4, 1, 0), (201, .if_icmp .ne 23, 3, 229381), (204, .aload_n 0, 1, 0), (205, .aload_n 0, 1, 0), (206, .iload_n 2, 1, 0), (207, .iconst 2, 1, 0), (208, .invokevirtual 51, 3, 151), (211, .iconst 3, 1, 0), (212, .iconst 1, 1, 0), (213, .invokevirtual 105, 3, 177), (216, .iconst 3, 1, 0), (217, .if_icmp .ne 7, 3, 229381), (100220, .nop, 0, 5), (220, .iconst 1, 1, 0), (221, .goto 4, 3, 230405), (224, .iconst 0, 1, 0), (100225, .nop, 0, 5), (225, .istore_n 1, 1, 0), (226, .iinc 2 1, 3, 0), (229, .goto (-89), 3, 143367), (232, .iload_n 1, 1, 0), (233, .ireturn, 1, 0)]
def pgX6_rules : List En := [(0, .iconst 1, 1, 0), (1, .istore_n 1, 1, 0), (2, .iconst 0, 1, 0), (3, .istore_n 2, 1, 0), (100004, .nop, 0, 7), (4, .iload_n 2, 1, 0), (5, .bipush 9, 2, 0), (7, .if_icmp .ge 17, 3, 24579), (10, .aload_n 0, 1, 0), (11, .getfield 37, 3, 209), (14, .iload_n 2, 1, 0), (15, .bipush 15, 2, 0), (17, .iastore, 1, 0), (18, .iinc 2 1, 3, 0), (21, .goto (-17), 3, 4103), (24, .iload_n 1, 1, 0), (25, .ifCond .eq 93, 3, 120833), (28, .iconst 0, 1, 0), (29, .istore_n 1, 1, 0), (30, .iconst 0, 1, 0), (31, .istore_n 2, 1, 0), (100032, .nop, 0, 7), (32, .iload_n 2, 1, 0), (33, .aload_n 0, 1, 0), (34, .getfield 7, 3, 193), (37, .iconst 0, 1, 0), (38, .iaload, 1, 0), (39, .if_icmp .ge 27, 3, 67587), (42, .aload_n 0, 1, 0), (43, .iload_n 2, 1, 0), (44, .invokevirtual 115, 3, 180), (47, .ifCond .ne 7, 3, 55301), (50, .iload_n 1, 1, 0), (51, .ifCond .eq 7, 3, 59397), (100054, .nop, 0, 5), (54, .iconst 1, 1, 0), (55, .goto 4, 3, 60421), (58, .iconst 0, 1, 0), (100059, .nop, 0, 5), (59, .istore_n 1, 1, 0), (60, .iinc 2 1, 3, 0), (63, .goto (-31), 3, 32775), (66, .iconst 0, 1, 0), (67, .istore_n 2, 1, 0), (100068, .nop, 0, 7), (68, .iload_n 2, 1, 0), (69, .iconst 3, 1, 0), (70, .if_icmp .ge 45, 3, 117763), (73, .aload_n 0, 1, 0), (74, .iload_n 2, 1, 0), (75, .invokevirtual 118, 3, 181), (78, .ifCond .ne 7, 3, 87045), (81, .iload_n 1, 1, 0), (82, .ifCond .eq 7, 3, 91141), (100085, .nop, 0, 5), (85, .iconst 1, 1, 0), (86, .goto 4, 3, 92165), (89, .iconst 0, 1, 0), (100090, .nop, 0, 5), (90, .istore_n 1, 1, 0), (91, .aload_n 0, 1, 0), (92, .iload_n 2, 1, 0), (93, .invokevirtual 121, 3, 182), (96, .ifCond .ne 7, 3, 105477), (99, .iload_n 1, 1, 0), (100, .ifCond .eq 7, 3, 109573), (100103, .nop, 0, 5), (103, .iconst 1, 1, 0), (104, .goto 4, 3, 110597), (107, .iconst 0, 1, 0), (100108, .nop, 0, 5), (108, .istore_n 1, 1, 0), (109, .iinc 2 1, 3, 0), (112, .goto (-44), 3, 69639), (115, .goto (-91), 3, 24579), (118, .aload_n 0, 1, 0), (119, .aload_n 0, 1, 0), (120, .invokevirtual 124, 3, 183), (123, .putfield 128, 3, 210), (126, .iconst 0, 1, 0), (127, .istore_n 2, 1, 0), (100128, .nop, 0, 5), (128, .iload_n 2, 1, 0), (129, .bipush 9, 2, 0), (131, .if_icmp .ge 23, 3, 157696), (134, .aload_n 0, 1, 0), (135, .getfield 128, 3, 210), (138, .ifCond .eq 16, 3, 157696), (141, .aload_n 0, 1, 0), (142, .getfield 37, 3, 209), (145, .iload_n 2, 1, 0), (146, .iconst 0, 1, 0), (147, .iastore, 1, 0), (148, .iinc 2 1, 3, 0), (151, .goto (-23), 3, 131077), (154, .return_, 1, 0)]
def pgX6_crossedMany : List En := [(0, .aload_n 0, 1, 0), (1, .invokevirtual 132, 3, 184), (4, .bipush 36, 2, 0), (6, .istore_n 1, 1, 0), (7, .iconst 0, 1, 0), (8, .istore_n 2, 1, 0), (100009, .nop, 0, 7), (9, .iload_n 2, 1, 0), (10, .bipush 9, 2, 0), (12, .if_icmp .ge 35, 3, 48130), (15, .iconst 0, 1, 0), (16, .istore_n 3, 1, 0), (100017, .nop, 0, 15), (17, .iload_n 3, 1, 0), (18, .iconst 4, 1, 0), (19, .if_icmp .ge 22, 3, 41991), (22, .iload_n 1, 1, 0), (23, .aload_n 0, 1, 0), (24, .getfield 37, 3, 209), (27, .iload_n 2, 1, 0), (28, .iaload, 1, 0), (29, .iload_n 3, 1, 0), (30, .ishr, 1, 0), (31, .iconst 1, 1, 0), (32, .iand, 1, 0), (33, .isub, 1, 0), (34, .istore_n 1, 1, 0), (35, .iinc 3 1, 3, 0), (38, .goto (-21), 3, 17423), (41, .iinc 2 1, 3, 0), (44, .goto (-35), 3, 9223), (47, .iload_n 1, 1, 0), (48, .ireturn, 1, 0)]
def pgX6_only : List En := [(0, .iconst (-1), 1, 0), (1, .istore_n 2, 1, 0), (2, .iconst 0, 1, 0), (3, .istore_n 3, 1, 0), (100004, .nop, 0, 15), (4, .iload_n 3, 1, 0), (5, .iconst 4, 1, 0), (6, .if_icmp .ge 24, 3, 30724), (9, .aload_n 0, 1, 0), (10, .iload_n 1, 1, 0), (11, .iload_n 3, 1, 0), (12, .invokevirtual 96, 3, 176), (15, .ifCond .eq 7, 3, 22543), (18, .iload_n 3, 1, 0), (19, .goto 4, 3, 23563), (22, .iload_n 2, 1, 0), (100023, .nop, 0, 11), (23, .istore_n 2, 1, 0), (24, .iinc 3 1, 3, 0), (27, .goto (-23), 3, 4111), (30, .iload_n 2, 1, 0), (31, .ireturn, 1, 0)]
def pgX6_adds : List En := [(0, .bipush 12, 2, 0), (2, .iconst 3, 1, 0), (3, .aload_n 0, 1, 0), (4, .getfield 7, 3, 193), (7, .iconst 0, 1, 0), (8, .iaload, 1, 0), (9, .imul, 1, 0), (10, .iadd, 1, 0), (11, .istore 4, 2, 0), (13, .aload_n 0, 1, 0), (14, .getfield 7, 3, 193), (17, .iload 4, 2, 0), (19, .iconst 0, 1, 0), (20, .iadd, 1, 0), (21, .iload_n 1, 1, 0), (22, .iastore, 1, 0), (23, .aload_n 0, 1, 0), (24, .getfield 7, 3, 193), (27, .iload 4, 2, 0), (29, .iconst 1, 1, 0), (30, .iadd, 1, 0), (31, .iload_n 2, 1, 0), (32, .iastore, 1, 0), (33, .aload_n 0, 1, 0), (34, .getfield 7, 3, 193), (37, .iload 4, 2, 0), (39, .iconst 2, 1, 0), (40, .iadd, 1, 0), (41, .iload_n 3, 1, 0), (42, .iastore, 1, 0), (43, .aload_n 0, 1, 0), (44, .getfield 7, 3, 193), (47, .iconst 0, 1, 0), (48, .dup2, 1, 0), (49, .iaload, 1, 0), (50, .iconst 1, 1, 0), (51, .iadd, 1, 0), (52, .iastore, 1, 0), (53, .aload_n 0, 1, 0), (54, .getfield 7, 3, 193), (57, .iconst 0, 1, 0), (58, .iaload, 1, 0), (59, .ireturn, 1, 0)]
def pgX6_drops : List En := [(0, .aload_n 0, 1, 0), (1, .getfield 7, 3, 193), (4, .iconst 0, 1, 0), (5, .dup2, 1, 0), (6, .iaload, 1, 0), (7, .iconst 1, 1, 0), (8, .isub, 1, 0), (9, .iastore, 1, 0), (10, .iconst 3, 1, 0), (11, .iload_n 1, 1, 0), (12, .imul, 1, 0), (13, .istore_n 2, 1, 0), (100014, .nop, 0, 5), (14, .iload_n 2, 1, 0), (15, .iconst 3, 1, 0), (16, .aload_n 0, 1, 0), (17, .getfield 7, 3, 193), (20, .iconst 0, 1, 0), (21, .iaload, 1, 0), (22, .imul, 1, 0), (23, .if_icmp .ge 29, 3, 53248), (26, .aload_n 0, 1, 0), (27, .getfield 7, 3, 193), (30, .bipush 12, 2, 0), (32, .iload_n 2, 1, 0), (33, .iadd, 1, 0), (34, .aload_n 0, 1, 0), (35, .getfield 7, 3, 193), (38, .bipush 12, 2, 0), (40, .iload_n 2, 1, 0), (41, .iadd, 1, 0), (42, .iconst 3, 1, 0), (43, .iadd, 1, 0), (44, .iaload, 1, 0), (45, .iastore, 1, 0), (46, .iinc 2 1, 3, 0), (49, .goto (-35), 3, 14341), (52, .return_, 1, 0)]
def pgX6_asks : List En := [(0, .aload_n 0, 1, 0), (1, .invokevirtual 86, 3, 169), (4, .aload_n 0, 1, 0), (5, .getfield 25, 3, 204), (8, .iload_n 1, 1, 0), (9, .iaload, 1, 0), (10, .iload_n 2, 1, 0), (11, .iand, 1, 0), (12, .ifCond .eq 7, 3, 19463), (15, .iconst 1, 1, 0), (16, .goto 4, 3, 20487), (19, .iconst 0, 1, 0), (100020, .nop, 0, 7), (20, .istore_n 3, 1, 0), (21, .aload_n 0, 1, 0), (22, .iload_n 3, 1, 0), (23, .ifCond .eq 7, 3, 30734), (26, .iconst 2, 1, 0), (27, .goto 4, 3, 31758), (30, .iconst 3, 1, 0), (100031, .nop, 0, 14), (31, .iload_n 1, 1, 0), (32, .iload_n 2, 1, 0), (33, .invokevirtual 135, 3, 187), (36, .pop, 1, 0), (37, .iload_n 3, 1, 0), (38, .ireturn, 1, 0)]
def pgX6_looksAt : List En := [(0, .aload_n 0, 1, 0), (1, .invokevirtual 86, 3, 169), (4, .aload_n 0, 1, 0), (5, .getfield 25, 3, 204), (8, .iload_n 1, 1, 0), (9, .iaload, 1, 0), (10, .iload_n 2, 1, 0), (11, .iand, 1, 0), (12, .istore_n 3, 1, 0), (13, .iconst 0, 1, 0), (14, .istore 4, 2, 0), (100016, .nop, 0, 31), (16, .iload_n 3, 1, 0), (17, .ifCond .eq 18, 3, 35871), (20, .iload_n 3, 1, 0), (21, .iload 4, 2, 0), (23, .ishr, 1, 0), (24, .iconst 1, 1, 0), (25, .iand, 1, 0), (26, .ifCond .ne 9, 3, 35871), (29, .iinc 4 1, 3, 0), (32, .goto (-16), 3, 16415), (35, .aload_n 0, 1, 0), (36, .iload_n 3, 1, 0), (37, .ifCond .ne 7, 3, 45086), (40, .iconst 3, 1, 0), (41, .goto 4, 3, 46110), (44, .iconst 0, 1, 0), (100045, .nop, 0, 30), (45, .iload_n 1, 1, 0), (46, .iload_n 3, 1, 0), (47, .ifCond .ne 7, 3, 55320), (50, .iload_n 2, 1, 0), (51, .goto 7, 3, 59416), (54, .iconst 1, 1, 0), (55, .iload 4, 2, 0), (57, .ishl, 1, 0), (100058, .nop, 0, 24), (58, .invokevirtual 135, 3, 187), (61, .pop, 1, 0), (62, .iload_n 3, 1, 0), (63, .ifCond .ne 7, 3, 71696), (66, .iconst (-1), 1, 0), (67, .goto 5, 3, 73728), (70, .iload 4, 2, 0), (100072, .nop, 0, 0), (72, .ireturn, 1, 0)]
def pgX6_accuses : List En := [(0, .aload_n 0, 1, 0), (1, .invokevirtual 86, 3, 169), (4, .aload_n 0, 1, 0), (5, .getfield 25, 3, 204), (8, .iconst 3, 1, 0), (9, .iaload, 1, 0), (10, .iload_n 1, 1, 0), (11, .if_icmp .ne 7, 3, 18435), (14, .iconst 1, 1, 0), (15, .goto 4, 3, 19459), (18, .iconst 0, 1, 0), (100019, .nop, 0, 3), (19, .istore_n 2, 1, 0), (20, .aload_n 0, 1, 0), (21, .iload_n 2, 1, 0), (22, .ifCond .eq 7, 3, 29702), (25, .iconst 5, 1, 0), (26, .goto 4, 3, 30726), (29, .iconst 4, 1, 0), (100030, .nop, 0, 6), (30, .iconst (-1), 1, 0), (31, .iload_n 1, 1, 0), (32, .invokevirtual 135, 3, 187), (35, .pop, 1, 0), (36, .iload_n 2, 1, 0), (37, .ireturn, 1, 0)]
def pgX6_changes : List En := [(0, .aload_n 0, 1, 0), (1, .getfield 7, 3, 193), (4, .iconst 3, 1, 0), (5, .iload_n 1, 1, 0), (6, .iadd, 1, 0), (7, .iaload, 1, 0), (8, .istore_n 3, 1, 0), (9, .aload_n 0, 1, 0), (10, .getfield 7, 3, 193), (13, .iconst 3, 1, 0), (14, .iload_n 1, 1, 0), (15, .iadd, 1, 0), (16, .aload_n 0, 1, 0), (17, .getfield 7, 3, 193), (20, .iconst 3, 1, 0), (21, .iload_n 2, 1, 0), (22, .iadd, 1, 0), (23, .iaload, 1, 0), (24, .iastore, 1, 0), (25, .aload_n 0, 1, 0), (26, .getfield 7, 3, 193), (29, .iconst 3, 1, 0), (30, .iload_n 2, 1, 0), (31, .iadd, 1, 0), (32, .iload_n 3, 1, 0), (33, .iastore, 1, 0), (34, .return_, 1, 0)]
def pgX6_exchange : List En := [(0, .aload_n 0, 1, 0), (1, .iconst 0, 1, 0), (2, .putfield 40, 3, 192), (5, .iload_n 1, 1, 0), (6, .invokestatic 139, 3, 146), (9, .ifCond .eq 10, 3, 19457), (12, .iload_n 2, 1, 0), (13, .invokestatic 139, 3, 146), (16, .ifCond .ne 9, 3, 25607), (100019, .nop, 0, 1), (19, .aload_n 0, 1, 0), (20, .iconst 1, 1, 0), (21, .invokevirtual 142, 3, 144), (24, .ireturn, 1, 0), (25, .aload_n 0, 1, 0), (26, .getfield 7, 3, 193), (29, .iconst 3, 1, 0), (30, .iload_n 1, 1, 0), (31, .iadd, 1, 0), (32, .iaload, 1, 0), (33, .iconst 3, 1, 0), (34, .if_icmp .ne 7, 3, 41991), (37, .iconst 1, 1, 0), (38, .goto 4, 3, 43015), (41, .iconst 0, 1, 0), (100042, .nop, 0, 7), (42, .istore_n 3, 1, 0), (43, .iload_n 3, 1, 0), (44, .aload_n 0, 1, 0), (45, .getfield 7, 3, 193), (48, .iconst 3, 1, 0), (49, .iload_n 2, 1, 0), (50, .iadd, 1, 0), (51, .iaload, 1, 0), (52, .iconst 3, 1, 0), (53, .if_icmp .ne 7, 3, 61447), (56, .iconst 1, 1, 0), (57, .goto 4, 3, 62471), (60, .iconst 0, 1, 0), (100061, .nop, 0, 7), (61, .if_icmp .eq 18, 3, 80903), (64, .iload_n 1, 1, 0), (65, .iconst 3, 1, 0), (66, .idiv, 1, 0), (67, .iload_n 2, 1, 0), (68, .iconst 3, 1, 0), (69, .idiv, 1, 0), (70, .if_icmp .eq 9, 3, 80903), (73, .aload_n 0, 1, 0), (74, .iconst 2, 1, 0), (75, .invokevirtual 142, 3, 144), (78, .ireturn, 1, 0), (79, .aload_n 0, 1, 0), (80, .invokevirtual 145, 3, 154), (83, .aload_n 0, 1, 0), (84, .iload_n 1, 1, 0), (85, .iload_n 2, 1, 0), (86, .invokevirtual 148, 3, 192), (89, .aload_n 0, 1, 0), (90, .invokevirtual 152, 3, 170), (93, .ireturn, 1, 0)]
def pgX6_notes : List En := [(0, .aload_n 0, 1, 0), (1, .getfield 7, 3, 193), (4, .iconst 0, 1, 0), (5, .iaload, 1, 0), (6, .bipush 20, 2, 0), (8, .if_icmp .ne 9, 3, 17423), (11, .aload_n 0, 1, 0), (12, .iconst 2, 1, 0), (13, .invokevirtual 142, 3, 144), (16, .ireturn, 1, 0), (17, .aload_n 0, 1, 0), (18, .invokevirtual 145, 3, 154), (21, .aload_n 0, 1, 0), (22, .iload_n 1, 1, 0), (23, .iload_n 2, 1, 0), (24, .iload_n 3, 1, 0), (25, .invokevirtual 135, 3, 187), (28, .ireturn, 1, 0)]
def pgX6_noteHas : List En := [(0, .aload_n 0, 1, 0), (1, .iconst 0, 1, 0), (2, .putfield 40, 3, 192), (5, .iload_n 1, 1, 0), (6, .invokestatic 156, 3, 147), (9, .ifCond .eq 22, 3, 31745), (12, .iload_n 2, 1, 0), (13, .invokestatic 139, 3, 146), (16, .ifCond .eq 15, 3, 31745), (19, .aload_n 0, 1, 0), (20, .iconst 0, 1, 0), (21, .iload_n 1, 1, 0), (22, .iconst 1, 1, 0), (23, .iload_n 2, 1, 0), (24, .ishl, 1, 0), (25, .invokevirtual 159, 3, 194), (28, .goto 8, 3, 36864), (31, .aload_n 0, 1, 0), (32, .iconst 1, 1, 0), (33, .invokevirtual 142, 3, 144), (100036, .nop, 0, 0), (36, .ireturn, 1, 0)]
def pgX6_noteLacks : List En := [(0, .aload_n 0, 1, 0), (1, .iconst 0, 1, 0), (2, .putfield 40, 3, 192), (5, .iload_n 1, 1, 0), (6, .invokestatic 156, 3, 147), (9, .ifCond .eq 22, 3, 31745), (12, .iload_n 2, 1, 0), (13, .invokestatic 139, 3, 146), (16, .ifCond .eq 15, 3, 31745), (19, .aload_n 0, 1, 0), (20, .iconst 1, 1, 0), (21, .iload_n 1, 1, 0), (22, .iconst 1, 1, 0), (23, .iload_n 2, 1, 0), (24, .ishl, 1, 0), (25, .invokevirtual 159, 3, 194), (28, .goto 8, 3, 36864), (31, .aload_n 0, 1, 0), (32, .iconst 1, 1, 0), (33, .invokevirtual 142, 3, 144), (100036, .nop, 0, 0), (36, .ireturn, 1, 0)]
def pgX6_noteShows : List En := [(0, .aload_n 0, 1, 0), (1, .iconst 0, 1, 0), (2, .putfield 40, 3, 192), (5, .iload_n 1, 1, 0), (6, .invokestatic 156, 3, 147), (9, .ifCond .eq 17, 3, 26655), (12, .iload_n 2, 1, 0), (13, .iload_n 3, 1, 0), (14, .iload 4, 2, 0), (16, .invokestatic 162, 3, 149), (19, .ifCond .eq 7, 3, 26655), (22, .iconst 1, 1, 0), (23, .goto 4, 3, 27679), (26, .iconst 0, 1, 0), (100027, .nop, 0, 31), (27, .istore 5, 2, 0), (29, .iload 5, 2, 0), (31, .ifCond .eq 22, 3, 54273), (34, .aload_n 0, 1, 0), (35, .iconst 2, 1, 0), (36, .iload_n 1, 1, 0), (37, .iload_n 2, 1, 0), (38, .iload_n 3, 1, 0), (39, .iload 4, 2, 0), (41, .invokestatic 165, 3, 152), (44, .invokestatic 62, 3, 153), (47, .invokevirtual 159, 3, 194), (50, .goto 8, 3, 59392), (53, .aload_n 0, 1, 0), (54, .iconst 1, 1, 0), (55, .invokevirtual 142, 3, 144), (100058, .nop, 0, 0), (58, .ireturn, 1, 0)]
def pgX6_dropClue : List En := [(0, .aload_n 0, 1, 0), (1, .iconst 0, 1, 0), (2, .putfield 40, 3, 192), (5, .aload_n 0, 1, 0), (6, .iload_n 1, 1, 0), (7, .invokevirtual 168, 3, 150), (10, .ifCond .ne 9, 3, 19459), (13, .aload_n 0, 1, 0), (14, .iconst 1, 1, 0), (15, .invokevirtual 142, 3, 144), (18, .ireturn, 1, 0), (19, .aload_n 0, 1, 0), (20, .invokevirtual 145, 3, 154), (23, .aload_n 0, 1, 0), (24, .iload_n 1, 1, 0), (25, .invokevirtual 171, 3, 188), (28, .aload_n 0, 1, 0), (29, .getfield 7, 3, 193), (32, .iconst 0, 1, 0), (33, .iaload, 1, 0), (34, .ireturn, 1, 0)]
def pgX6_dropAll : List En := [(0, .aload_n 0, 1, 0), (1, .iconst 0, 1, 0), (2, .putfield 40, 3, 192), (5, .aload_n 0, 1, 0), (6, .invokevirtual 145, 3, 154), (9, .aload_n 0, 1, 0), (10, .getfield 7, 3, 193), (13, .iconst 0, 1, 0), (14, .iaload, 1, 0), (15, .istore_n 1, 1, 0), (16, .aload_n 0, 1, 0), (17, .getfield 7, 3, 193), (20, .iconst 0, 1, 0), (21, .iconst 0, 1, 0), (22, .iastore, 1, 0), (23, .iload_n 1, 1, 0), (24, .ireturn, 1, 0)]
def pgX6_barsQuestion : List En := [(0, .iload_n 1, 1, 0), (1, .ifCond .ne 7, 3, 8193), (4, .iconst 1, 1, 0), (5, .goto 19, 3, 24576), (8, .aload_n 0, 1, 0), (9, .getfield 7, 3, 193), (12, .iconst 0, 1, 0), (13, .iaload, 1, 0), (14, .bipush 20, 2, 0), (16, .if_icmp .ne 7, 3, 23552), (19, .iconst 2, 1, 0), (20, .goto 4, 3, 24576), (23, .iconst 0, 1, 0), (100024, .nop, 0, 0), (24, .ireturn, 1, 0)]
def pgX6_ask : List En := [(0, .aload_n 0, 1, 0), (1, .aload_n 0, 1, 0), (2, .iload_n 1, 1, 0), (3, .invokestatic 156, 3, 147), (6, .ifCond .eq 17, 3, 23583), (9, .iload_n 2, 1, 0), (10, .iload_n 3, 1, 0), (11, .iload 4, 2, 0), (13, .invokestatic 162, 3, 149), (16, .ifCond .eq 7, 3, 23583), (19, .iconst 1, 1, 0), (20, .goto 4, 3, 24607), (23, .iconst 0, 1, 0), (100024, .nop, 0, 31), (24, .invokevirtual 174, 3, 200), (27, .putfield 40, 3, 192), (30, .aload_n 0, 1, 0), (31, .getfield 40, 3, 192), (34, .ifCond .le 5, 3, 39967), (37, .iconst 0, 1, 0), (38, .ireturn, 1, 0), (39, .aload_n 0, 1, 0), (40, .invokevirtual 145, 3, 154), (43, .aload_n 0, 1, 0), (44, .iload_n 1, 1, 0), (45, .iload_n 2, 1, 0), (46, .iload_n 3, 1, 0), (47, .iload 4, 2, 0), (49, .invokestatic 165, 3, 152), (52, .invokestatic 62, 3, 153), (55, .invokevirtual 178, 3, 189), (58, .ireturn, 1, 0)]
def pgX6_look : List En := [(0, .aload_n 0, 1, 0), (1, .aload_n 0, 1, 0), (2, .iload_n 1, 1, 0), (3, .invokestatic 156, 3, 147), (6, .ifCond .eq 17, 3, 23583), (9, .iload_n 2, 1, 0), (10, .iload_n 3, 1, 0), (11, .iload 4, 2, 0), (13, .invokestatic 162, 3, 149), (16, .ifCond .eq 7, 3, 23583), (19, .iconst 1, 1, 0), (20, .goto 4, 3, 24607), (23, .iconst 0, 1, 0), (100024, .nop, 0, 31), (24, .invokevirtual 174, 3, 200), (27, .putfield 40, 3, 192), (30, .aload_n 0, 1, 0), (31, .getfield 40, 3, 192), (34, .ifCond .le 5, 3, 39967), (37, .iconst 0, 1, 0), (38, .ireturn, 1, 0), (39, .aload_n 0, 1, 0), (40, .invokevirtual 145, 3, 154), (43, .aload_n 0, 1, 0), (44, .iload_n 1, 1, 0), (45, .iload_n 2, 1, 0), (46, .iload_n 3, 1, 0), (47, .iload 4, 2, 0), (49, .invokestatic 165, 3, 152), (52, .invokestatic 62, 3, 153), (55, .invokevirtual 181, 3, 190), (58, .ireturn, 1, 0)]
def pgX6_accuse : List En := [(0, .aload_n 0, 1, 0), (1, .aload_n 0, 1, 0), (2, .iload_n 1, 1, 0), (3, .iload_n 2, 1, 0), (4, .iload_n 3, 1, 0), (5, .invokestatic 162, 3, 149), (8, .invokevirtual 174, 3, 200), (11, .putfield 40, 3, 192), (14, .aload_n 0, 1, 0), (15, .getfield 40, 3, 192), (18, .ifCond .le 5, 3, 23567), (21, .iconst 0, 1, 0), (22, .ireturn, 1, 0), (23, .aload_n 0, 1, 0), (24, .invokevirtual 145, 3, 154), (27, .aload_n 0, 1, 0), (28, .iload_n 1, 1, 0), (29, .iload_n 2, 1, 0), (30, .iload_n 3, 1, 0), (31, .invokestatic 165, 3, 152), (34, .invokestatic 62, 3, 153), (37, .invokevirtual 184, 3, 191), (40, .ireturn, 1, 0)]
def pgX6_append : List En := [(0, .aload_n 0, 1, 0), (1, .iconst 0, 1, 0), (2, .putfield 40, 3, 192), (5, .iload_n 1, 1, 0), (6, .bipush 33, 2, 0), (8, .bipush 126, 2, 0), (10, .invokestatic 44, 3, 145), (13, .ifCond .ne 9, 3, 22531), (16, .aload_n 0, 1, 0), (17, .iconst 1, 1, 0), (18, .invokevirtual 142, 3, 144), (21, .ireturn, 1, 0), (22, .aload_n 0, 1, 0), (23, .getfield 187, 3, 199), (26, .bipush 60, 2, 0), (28, .if_icmp .ne 9, 3, 37891), (31, .aload_n 0, 1, 0), (32, .iconst 2, 1, 0), (33, .invokevirtual 142, 3, 144), (36, .ireturn, 1, 0), (37, .aload_n 0, 1, 0), (38, .getfield 19, 3, 198), (41, .aload_n 0, 1, 0), (42, .getfield 187, 3, 199), (45, .iload_n 1, 1, 0), (46, .iastore, 1, 0), (47, .aload_n 0, 1, 0), (48, .dup, 1, 0), (49, .getfield 187, 3, 199), (52, .iconst 1, 1, 0), (53, .iadd, 1, 0), (54, .putfield 187, 3, 199), (57, .aload_n 0, 1, 0), (58, .getfield 187, 3, 199), (61, .ireturn, 1, 0)]
def pgX6_clearBuffer : List En := [(0, .aload_n 0, 1, 0), (1, .iconst 0, 1, 0), (2, .putfield 40, 3, 192), (5, .aload_n 0, 1, 0), (6, .getfield 187, 3, 199), (9, .istore_n 1, 1, 0), (10, .aload_n 0, 1, 0), (11, .iconst 0, 1, 0), (12, .putfield 187, 3, 199), (15, .iload_n 1, 1, 0), (16, .ireturn, 1, 0)]
def pgX6_sign : List En := [(0, .aload_n 0, 1, 0), (1, .getfield 190, 3, 200), (4, .aload_n 0, 1, 0), (5, .getfield 187, 3, 199), (8, .if_icmp .ge 15, 3, 23552), (11, .aload_n 0, 1, 0), (12, .getfield 19, 3, 198), (15, .aload_n 0, 1, 0), (16, .getfield 190, 3, 200), (19, .iaload, 1, 0), (20, .goto 4, 3, 24576), (23, .iconst 0, 1, 0), (100024, .nop, 0, 0), (24, .ireturn, 1, 0)]
def pgX6_takes : List En := [(0, .aload_n 0, 1, 0), (1, .aload_n 0, 1, 0), (2, .getfield 193, 3, 201), (5, .ifCond .eq 19, 3, 24577), (8, .aload_n 0, 1, 0), (9, .invokevirtual 196, 3, 206), (12, .iload_n 1, 1, 0), (13, .iload_n 2, 1, 0), (14, .invokestatic 44, 3, 145), (17, .ifCond .eq 7, 3, 24577), (20, .iconst 1, 1, 0), (21, .goto 4, 3, 25601), (24, .iconst 0, 1, 0), (100025, .nop, 0, 1), (25, .putfield 193, 3, 201), (28, .aload_n 0, 1, 0), (29, .invokevirtual 196, 3, 206), (32, .bipush 48, 2, 0), (34, .isub, 1, 0), (35, .istore_n 3, 1, 0), (36, .aload_n 0, 1, 0), (37, .dup, 1, 0), (38, .getfield 190, 3, 200), (41, .aload_n 0, 1, 0), (42, .getfield 193, 3, 201), (45, .ifCond .eq 7, 3, 53256), (48, .iconst 1, 1, 0), (49, .goto 4, 3, 54280), (52, .iconst 0, 1, 0), (100053, .nop, 0, 8), (53, .iadd, 1, 0), (54, .putfield 190, 3, 200), (57, .iload_n 3, 1, 0), (58, .ireturn, 1, 0)]
def pgX6_number : List En := [(0, .aload_n 0, 1, 0), (1, .bipush 48, 2, 0), (3, .bipush 57, 2, 0), (5, .invokevirtual 199, 3, 207), (8, .istore_n 2, 1, 0), (100009, .nop, 0, 7), (9, .aload_n 0, 1, 0), (10, .getfield 193, 3, 201), (13, .ifCond .eq 63, 3, 77828), (16, .iload_n 2, 1, 0), (17, .ifCond .le 59, 3, 77828), (20, .aload_n 0, 1, 0), (21, .invokevirtual 196, 3, 206), (24, .bipush 48, 2, 0), (26, .bipush 57, 2, 0), (28, .invokestatic 44, 3, 145), (31, .ifCond .eq 45, 3, 77828), (34, .bipush 10, 2, 0), (36, .iload_n 2, 1, 0), (37, .imul, 1, 0), (38, .aload_n 0, 1, 0), (39, .invokevirtual 196, 3, 206), (42, .iadd, 1, 0), (43, .bipush 48, 2, 0), (45, .isub, 1, 0), (46, .iload_n 1, 1, 0), (47, .if_icmp .gt 29, 3, 77828), (50, .bipush 10, 2, 0), (52, .iload_n 2, 1, 0), (53, .imul, 1, 0), (54, .aload_n 0, 1, 0), (55, .invokevirtual 196, 3, 206), (58, .iadd, 1, 0), (59, .bipush 48, 2, 0), (61, .isub, 1, 0), (62, .istore_n 2, 1, 0), (63, .aload_n 0, 1, 0), (64, .dup, 1, 0), (65, .getfield 190, 3, 200), (68, .iconst 1, 1, 0), (69, .iadd, 1, 0), (70, .putfield 190, 3, 200), (73, .goto (-64), 3, 9223), (76, .iload_n 2, 1, 0), (77, .ireturn, 1, 0)]
def pgX6_readsPart : List En := [(0, .iconst 3, 1, 0), (1, .aload_n 0, 1, 0), (2, .getfield 202, 3, 203), (5, .imul, 1, 0), (6, .istore_n 1, 1, 0), (7, .aload_n 0, 1, 0), (8, .invokevirtual 196, 3, 206), (11, .istore_n 2, 1, 0), (12, .iload_n 2, 1, 0), (13, .bipush 104, 2, 0), (15, .if_icmp .eq 9, 3, 24583), (18, .iload_n 2, 1, 0), (19, .bipush 108, 2, 0), (21, .if_icmp .ne 7, 3, 28679), (100024, .nop, 0, 7), (24, .iconst 1, 1, 0), (25, .goto 4, 3, 29703), (28, .iconst 0, 1, 0), (100029, .nop, 0, 7), (29, .istore_n 3, 1, 0), (30, .iload_n 3, 1, 0), (31, .ifCond .ne 27, 3, 59407), (34, .iload_n 2, 1, 0), (35, .bipush 115, 2, 0), (37, .if_icmp .eq 21, 3, 59407), (40, .iload_n 2, 1, 0), (41, .bipush 112, 2, 0), (43, .if_icmp .eq 15, 3, 59407), (46, .iload_n 2, 1, 0), (47, .bipush 97, 2, 0), (49, .if_icmp .eq 9, 3, 59407), (52, .iload_n 2, 1, 0), (53, .bipush 118, 2, 0), (55, .if_icmp .ne 7, 3, 63503), (100058, .nop, 0, 15), (58, .iconst 1, 1, 0), (59, .goto 4, 3, 64527), (62, .iconst 0, 1, 0), (100063, .nop, 0, 15), (63, .istore 4, 2, 0), (65, .aload_n 0, 1, 0), (66, .iload 4, 2, 0), (68, .ifCond .ne 27, 3, 97311), (71, .iload_n 2, 1, 0), (72, .bipush 110, 2, 0), (74, .if_icmp .eq 21, 3, 97311), (77, .iload_n 2, 1, 0), (78, .bipush 105, 2, 0), (80, .if_icmp .eq 15, 3, 97311), (83, .iload_n 2, 1, 0), (84, .bipush 33, 2, 0), (86, .if_icmp .eq 9, 3, 97311), (89, .iload_n 2, 1, 0), (90, .bipush 120, 2, 0), (92, .if_icmp .ne 7, 3, 101407), (100095, .nop, 0, 31), (95, .iconst 1, 1, 0), (96, .goto 4, 3, 102431), (99, .iconst 0, 1, 0), (100100, .nop, 0, 31), (100, .putfield 193, 3, 201), (103, .aload_n 0, 1, 0), (104, .getfield 193, 3, 201), (107, .ifCond .eq 20, 3, 130079), (110, .aload_n 0, 1, 0), (111, .dup, 1, 0), (112, .getfield 190, 3, 200), (115, .iconst 1, 1, 0), (116, .iadd, 1, 0), (117, .putfield 190, 3, 200), (120, .aload_n 0, 1, 0), (121, .getfield 22, 3, 202), (124, .iload_n 1, 1, 0), (125, .iload_n 2, 1, 0), (126, .iastore, 1, 0), (100127, .nop, 0, 31), (127, .aload_n 0, 1, 0), (128, .getfield 193, 3, 201), (131, .ifCond .eq 33, 3, 167951), (134, .iload 4, 2, 0), (136, .ifCond .eq 28, 3, 167951), (139, .aload_n 0, 1, 0), (140, .getfield 22, 3, 202), (143, .iload_n 1, 1, 0), (144, .iconst 1, 1, 0), (145, .iadd, 1, 0), (146, .aload_n 0, 1, 0), (147, .bipush 48, 2, 0), (149, .bipush 50, 2, 0), (151, .invokevirtual 199, 3, 207), (154, .iastore, 1, 0), (155, .aload_n 0, 1, 0), (156, .bipush 58, 2, 0), (158, .bipush 58, 2, 0), (160, .invokevirtual 199, 3, 207), (163, .pop, 1, 0), (100164, .nop, 0, 15), (164, .aload_n 0, 1, 0), (165, .getfield 193, 3, 201), (168, .ifCond .eq 43, 3, 216065), (171, .aload_n 0, 1, 0), (172, .getfield 22, 3, 202), (175, .iload_n 1, 1, 0), (176, .iconst 2, 1, 0), (177, .iadd, 1, 0), (178, .iload_n 3, 1, 0), (179, .ifCond .eq 14, 3, 197637), (182, .aload_n 0, 1, 0), (183, .bipush 48, 2, 0), (185, .bipush 56, 2, 0), (187, .invokevirtual 199, 3, 207), (190, .goto 20, 3, 215041), (193, .aload_n 0, 1, 0), (194, .iload_n 2, 1, 0), (195, .bipush 120, 2, 0), (197, .if_icmp .ne 8, 3, 209921), (200, .bipush 19, 2, 0), (202, .goto 5, 3, 211969), (205, .bipush 26, 2, 0), (100207, .nop, 0, 1), (207, .invokevirtual 205, 3, 208), (100210, .nop, 0, 1), (210, .iastore, 1, 0), (100211, .nop, 0, 1), (211, .aload_n 0, 1, 0), (212, .dup, 1, 0), (213, .getfield 202, 3, 203), (216, .aload_n 0, 1, 0), (217, .getfield 193, 3, 201), (220, .ifCond .eq 7, 3, 232448), (223, .iconst 1, 1, 0), (224, .goto 4, 3, 233472), (227, .iconst 0, 1, 0), (100228, .nop, 0, 0), (228, .iadd, 1, 0), (229, .putfield 202, 3, 203), (232, .return_, 1, 0)]
def pgX6_readsWorks : List En := [(0, .aload_n 0, 1, 0), (1, .iconst 0, 1, 0), (2, .putfield 190, 3, 200), (5, .aload_n 0, 1, 0), (6, .iconst 0, 1, 0), (7, .putfield 202, 3, 203), (10, .aload_n 0, 1, 0), (11, .invokevirtual 208, 3, 209), (100014, .nop, 0, 1), (14, .aload_n 0, 1, 0), (15, .getfield 193, 3, 201), (18, .ifCond .eq 37, 3, 56321), (21, .aload_n 0, 1, 0), (22, .getfield 190, 3, 200), (25, .aload_n 0, 1, 0), (26, .getfield 187, 3, 199), (29, .if_icmp .ge 26, 3, 56321), (32, .aload_n 0, 1, 0), (33, .bipush 59, 2, 0), (35, .bipush 59, 2, 0), (37, .invokevirtual 199, 3, 207), (40, .pop, 1, 0), (41, .aload_n 0, 1, 0), (42, .getfield 193, 3, 201), (45, .ifCond .eq (-31), 3, 14337), (48, .aload_n 0, 1, 0), (49, .invokevirtual 208, 3, 209), (52, .goto (-38), 3, 14337), (55, .aload_n 0, 1, 0), (56, .getfield 193, 3, 201), (59, .ireturn, 1, 0)]
def pgX6_firstError : List En := [(0, .aload_n 0, 1, 0), (1, .iconst 0, 1, 0), (2, .putfield 40, 3, 192), (5, .aload_n 0, 1, 0), (6, .invokevirtual 211, 3, 210), (9, .ifCond .eq 10, 3, 19457), (12, .aload_n 0, 1, 0), (13, .getfield 187, 3, 199), (16, .goto 7, 3, 23552), (19, .aload_n 0, 1, 0), (20, .getfield 190, 3, 200), (100023, .nop, 0, 0), (23, .ireturn, 1, 0)]
def pgX6_does : List En := [(0, .aload_n 0, 1, 0), (1, .getfield 22, 3, 202), (4, .iload_n 1, 1, 0), (5, .iaload, 1, 0), (6, .istore_n 2, 1, 0), (7, .aload_n 0, 1, 0), (8, .getfield 22, 3, 202), (11, .iload_n 1, 1, 0), (12, .iconst 1, 1, 0), (13, .iadd, 1, 0), (14, .iaload, 1, 0), (15, .istore_n 3, 1, 0), (16, .aload_n 0, 1, 0), (17, .getfield 22, 3, 202), (20, .iload_n 1, 1, 0), (21, .iconst 2, 1, 0), (22, .iadd, 1, 0), (23, .iaload, 1, 0), (24, .istore 4, 2, 0), (26, .iload_n 2, 1, 0), (27, .bipush 120, 2, 0), (29, .if_icmp .ne 22, 3, 52253), (32, .aload_n 0, 1, 0), (33, .iload 4, 2, 0), (35, .invokevirtual 168, 3, 150), (38, .ifCond .ne 5, 3, 44049), (41, .iconst 2, 1, 0), (42, .ireturn, 1, 0), (43, .aload_n 0, 1, 0), (44, .iload 4, 2, 0), (46, .invokevirtual 171, 3, 188), (49, .iconst 0, 1, 0), (50, .ireturn, 1, 0), (51, .aload_n 0, 1, 0), (52, .getfield 7, 3, 193), (55, .iconst 0, 1, 0), (56, .iaload, 1, 0), (57, .bipush 20, 2, 0), (59, .if_icmp .ne 5, 3, 65565), (62, .iconst 1, 1, 0), (63, .ireturn, 1, 0), (64, .iload_n 2, 1, 0), (65, .tableswitch 219 97 118 #[191, 219, 219, 219, 219, 219, 219, 103, 176, 219, 219, 117, 219, 161, 219, 146, 219, 219, 131, 219, 219, 205], 103, 25), (168, .aload_n 0, 1, 0), (169, .iconst 0, 1, 0), (170, .iload_n 3, 1, 0), (171, .iconst 1, 1, 0), (172, .iload 4, 2, 0), (174, .ishl, 1, 0), (175, .invokevirtual 135, 3, 187), (178, .pop, 1, 0), (179, .goto 115, 3, 301056), (182, .aload_n 0, 1, 0), (183, .iconst 1, 1, 0), (184, .iload_n 3, 1, 0), (185, .iconst 1, 1, 0), (186, .iload 4, 2, 0), (188, .ishl, 1, 0), (189, .invokevirtual 135, 3, 187), (192, .pop, 1, 0), (193, .goto 101, 3, 301056), (196, .aload_n 0, 1, 0), (197, .iconst 2, 1, 0), (198, .iload_n 3, 1, 0), (199, .iload 4, 2, 0), (201, .invokestatic 62, 3, 153), (204, .invokevirtual 135, 3, 187), (207, .pop, 1, 0), (208, .goto 86, 3, 301056), (211, .aload_n 0, 1, 0), (212, .iconst 3, 1, 0), (213, .iload_n 3, 1, 0), (214, .iload 4, 2, 0), (216, .invokestatic 62, 3, 153), (219, .invokevirtual 135, 3, 187), (222, .pop, 1, 0), (223, .goto 71, 3, 301056), (226, .aload_n 0, 1, 0), (227, .iconst 4, 1, 0), (228, .iconst (-1), 1, 0), (229, .iload 4, 2, 0), (231, .invokestatic 62, 3, 153), (234, .invokevirtual 135, 3, 187), (237, .pop, 1, 0), (238, .goto 56, 3, 301056), (241, .aload_n 0, 1, 0), (242, .iconst 5, 1, 0), (243, .iconst (-1), 1, 0), (244, .iload 4, 2, 0), (246, .invokestatic 62, 3, 153), (249, .invokevirtual 135, 3, 187), (252, .pop, 1, 0), (253, .goto 41, 3, 301056), (256, .aload_n 0, 1, 0), (257, .iload_n 3, 1, 0), (258, .iload 4, 2, 0), (260, .invokestatic 62, 3, 153), (263, .invokevirtual 178, 3, 189), (266, .pop, 1, 0), (267, .goto 27, 3, 301056), (270, .aload_n 0, 1, 0), (271, .iload_n 3, 1, 0), (272, .iload 4, 2, 0), (274, .invokestatic 62, 3, 153), (277, .invokevirtual 181, 3, 190), (280, .pop, 1, 0), (281, .goto 13, 3, 301056), (284, .aload_n 0, 1, 0), (285, .iload 4, 2, 0), (287, .invokestatic 62, 3, 153), (290, .invokevirtual 184, 3, 191), (293, .pop, 1, 0), (100294, .nop, 0, 0), (294, .iconst 0, 1, 0), (295, .ireturn, 1, 0)]
def pgX6_work : List En := [(0, .aload_n 0, 1, 0), (1, .iconst 0, 1, 0), (2, .putfield 40, 3, 192), (5, .aload_n 0, 1, 0), (6, .invokevirtual 211, 3, 210), (9, .ifCond .ne 9, 3, 18433), (12, .aload_n 0, 1, 0), (13, .iconst 1, 1, 0), (14, .invokevirtual 142, 3, 144), (17, .ireturn, 1, 0), (18, .aload_n 0, 1, 0), (19, .invokevirtual 145, 3, 154), (22, .aload_n 0, 1, 0), (23, .iconst 0, 1, 0), (24, .putfield 187, 3, 199), (27, .iconst 0, 1, 0), (28, .istore_n 1, 1, 0), (29, .iconst 0, 1, 0), (30, .istore_n 2, 1, 0), (100031, .nop, 0, 7), (31, .iload_n 1, 1, 0), (32, .aload_n 0, 1, 0), (33, .getfield 202, 3, 203), (36, .if_icmp .ge 30, 3, 67591), (39, .iload_n 2, 1, 0), (40, .ifCond .ne 26, 3, 67591), (43, .aload_n 0, 1, 0), (44, .iconst 3, 1, 0), (45, .iload_n 1, 1, 0), (46, .imul, 1, 0), (47, .invokevirtual 214, 3, 212), (50, .istore_n 2, 1, 0), (51, .iload_n 1, 1, 0), (52, .iload_n 2, 1, 0), (53, .ifCond .ne 7, 3, 61445), (56, .iconst 1, 1, 0), (57, .goto 4, 3, 62469), (60, .iconst 0, 1, 0), (100061, .nop, 0, 5), (61, .iadd, 1, 0), (62, .istore_n 1, 1, 0), (63, .goto (-32), 3, 31751), (66, .aload_n 0, 1, 0), (67, .getfield 7, 3, 193), (70, .iconst 1, 1, 0), (71, .iload_n 2, 1, 0), (72, .ifCond .ne 7, 3, 80903), (75, .iconst (-1), 1, 0), (76, .goto 4, 3, 81927), (79, .iload_n 1, 1, 0), (100080, .nop, 0, 7), (80, .iastore, 1, 0), (81, .aload_n 0, 1, 0), (82, .getfield 7, 3, 193), (85, .iconst 2, 1, 0), (86, .iload_n 2, 1, 0), (87, .iastore, 1, 0), (88, .iload_n 1, 1, 0), (89, .ireturn, 1, 0)]
def pgX6_hasStopped : List En := [(0, .aload_n 0, 1, 0), (1, .iconst 0, 1, 0), (2, .putfield 40, 3, 192), (5, .aload_n 0, 1, 0), (6, .getfield 7, 3, 193), (9, .iconst 1, 1, 0), (10, .iaload, 1, 0), (11, .iconst (-1), 1, 0), (12, .if_icmp .eq 7, 3, 19456), (15, .iconst 1, 1, 0), (16, .goto 4, 3, 20480), (19, .iconst 0, 1, 0), (100020, .nop, 0, 0), (20, .ireturn, 1, 0)]
def pgX6_stoppedPart : List En := [(0, .aload_n 0, 1, 0), (1, .iconst 0, 1, 0), (2, .putfield 40, 3, 192), (5, .aload_n 0, 1, 0), (6, .getfield 7, 3, 193), (9, .iconst 1, 1, 0), (10, .iaload, 1, 0), (11, .iconst (-1), 1, 0), (12, .if_icmp .ne 11, 3, 23553), (15, .aload_n 0, 1, 0), (16, .iconst 1, 1, 0), (17, .invokevirtual 142, 3, 144), (20, .goto 9, 3, 29696), (23, .aload_n 0, 1, 0), (24, .getfield 7, 3, 193), (27, .iconst 1, 1, 0), (28, .iaload, 1, 0), (100029, .nop, 0, 0), (29, .ireturn, 1, 0)]
def pgX6_whyStopped : List En := [(0, .aload_n 0, 1, 0), (1, .iconst 0, 1, 0), (2, .putfield 40, 3, 192), (5, .aload_n 0, 1, 0), (6, .getfield 7, 3, 193), (9, .iconst 1, 1, 0), (10, .iaload, 1, 0), (11, .iconst (-1), 1, 0), (12, .if_icmp .ne 11, 3, 23553), (15, .aload_n 0, 1, 0), (16, .iconst 1, 1, 0), (17, .invokevirtual 142, 3, 144), (20, .goto 9, 3, 29696), (23, .aload_n 0, 1, 0), (24, .getfield 7, 3, 193), (27, .iconst 2, 1, 0), (28, .iaload, 1, 0), (100029, .nop, 0, 0), (29, .ireturn, 1, 0)]
def pgX6_undo : List En := [(0, .aload_n 0, 1, 0), (1, .iconst 0, 1, 0), (2, .putfield 40, 3, 192), (5, .aload_n 0, 1, 0), (6, .getfield 48, 3, 195), (9, .ifCond .ne 9, 3, 18433), (12, .aload_n 0, 1, 0), (13, .iconst 1, 1, 0), (14, .invokevirtual 142, 3, 144), (17, .ireturn, 1, 0), (18, .aload_n 0, 1, 0), (19, .dup, 1, 0), (20, .getfield 48, 3, 195), (23, .iconst 1, 1, 0), (24, .isub, 1, 0), (25, .putfield 48, 3, 195), (28, .iconst 0, 1, 0), (29, .istore_n 1, 1, 0), (100030, .nop, 0, 3), (30, .iload_n 1, 1, 0), (31, .bipush 72, 2, 0), (33, .if_icmp .ge 29, 3, 63489), (36, .aload_n 0, 1, 0), (37, .getfield 7, 3, 193), (40, .iload_n 1, 1, 0), (41, .aload_n 0, 1, 0), (42, .getfield 13, 3, 194), (45, .bipush 72, 2, 0), (47, .aload_n 0, 1, 0), (48, .getfield 48, 3, 195), (51, .imul, 1, 0), (52, .iload_n 1, 1, 0), (53, .iadd, 1, 0), (54, .iaload, 1, 0), (55, .iastore, 1, 0), (56, .iinc 1 1, 3, 0), (59, .goto (-29), 3, 30723), (62, .aload_n 0, 1, 0), (63, .getfield 48, 3, 195), (66, .ireturn, 1, 0)]
def pgX6_keep : List En := [(0, .aload_n 0, 1, 0), (1, .iconst 0, 1, 0), (2, .putfield 40, 3, 192), (5, .iconst 0, 1, 0), (6, .istore_n 1, 1, 0), (100007, .nop, 0, 3), (7, .iload_n 1, 1, 0), (8, .bipush 72, 2, 0), (10, .if_icmp .ge 21, 3, 31745), (13, .aload_n 0, 1, 0), (14, .getfield 16, 3, 196), (17, .iload_n 1, 1, 0), (18, .aload_n 0, 1, 0), (19, .getfield 7, 3, 193), (22, .iload_n 1, 1, 0), (23, .iaload, 1, 0), (24, .iastore, 1, 0), (25, .iinc 1 1, 3, 0), (28, .goto (-21), 3, 7171), (31, .aload_n 0, 1, 0), (32, .iconst 1, 1, 0), (33, .putfield 217, 3, 197), (36, .aload_n 0, 1, 0), (37, .getfield 7, 3, 193), (40, .iconst 0, 1, 0), (41, .iaload, 1, 0), (42, .ireturn, 1, 0)]
def pgX6_restore : List En := [(0, .aload_n 0, 1, 0), (1, .iconst 0, 1, 0), (2, .putfield 40, 3, 192), (5, .aload_n 0, 1, 0), (6, .getfield 217, 3, 197), (9, .ifCond .ne 9, 3, 18433), (12, .aload_n 0, 1, 0), (13, .iconst 1, 1, 0), (14, .invokevirtual 142, 3, 144), (17, .ireturn, 1, 0), (18, .aload_n 0, 1, 0), (19, .invokevirtual 145, 3, 154), (22, .iconst 0, 1, 0), (23, .istore_n 1, 1, 0), (100024, .nop, 0, 3), (24, .iload_n 1, 1, 0), (25, .bipush 72, 2, 0), (27, .if_icmp .ge 21, 3, 49153), (30, .aload_n 0, 1, 0), (31, .getfield 7, 3, 193), (34, .iload_n 1, 1, 0), (35, .aload_n 0, 1, 0), (36, .getfield 16, 3, 196), (39, .iload_n 1, 1, 0), (40, .iaload, 1, 0), (41, .iastore, 1, 0), (42, .iinc 1 1, 3, 0), (45, .goto (-21), 3, 24579), (48, .aload_n 0, 1, 0), (49, .getfield 7, 3, 193), (52, .iconst 0, 1, 0), (53, .iaload, 1, 0), (54, .ireturn, 1, 0)]
def pgX6_savedStates : List En := [(0, .aload_n 0, 1, 0), (1, .iconst 0, 1, 0), (2, .putfield 40, 3, 192), (5, .aload_n 0, 1, 0), (6, .getfield 48, 3, 195), (9, .ireturn, 1, 0)]
def pgX6_truePlace : List En := [(0, .aload_n 0, 1, 0), (1, .iconst 0, 1, 0), (2, .putfield 40, 3, 192), (5, .iload_n 1, 1, 0), (6, .invokestatic 139, 3, 146), (9, .ifCond .eq 14, 3, 23553), (12, .aload_n 0, 1, 0), (13, .getfield 7, 3, 193), (16, .iconst 3, 1, 0), (17, .iload_n 1, 1, 0), (18, .iadd, 1, 0), (19, .iaload, 1, 0), (20, .goto 8, 3, 28672), (23, .aload_n 0, 1, 0), (24, .iconst 1, 1, 0), (25, .invokevirtual 142, 3, 144), (100028, .nop, 0, 0), (28, .ireturn, 1, 0)]
def pgX6_trueEnvelope : List En := [(0, .aload_n 0, 1, 0), (1, .iconst 0, 1, 0), (2, .putfield 40, 3, 192), (5, .aload_n 0, 1, 0), (6, .invokevirtual 152, 3, 170), (9, .ireturn, 1, 0)]
def pgX6_clues : List En := [(0, .aload_n 0, 1, 0), (1, .iconst 0, 1, 0), (2, .putfield 40, 3, 192), (5, .aload_n 0, 1, 0), (6, .getfield 7, 3, 193), (9, .iconst 0, 1, 0), (10, .iaload, 1, 0), (11, .ireturn, 1, 0)]
def pgX6_tells : List En := [(0, .aload_n 0, 1, 0), (1, .iconst 0, 1, 0), (2, .putfield 40, 3, 192), (5, .aload_n 0, 1, 0), (6, .iload_n 1, 1, 0), (7, .invokevirtual 168, 3, 150), (10, .ifCond .eq 12, 3, 22529), (13, .aload_n 0, 1, 0), (14, .iload_n 1, 1, 0), (15, .iload_n 2, 1, 0), (16, .invokevirtual 51, 3, 151), (19, .goto 8, 3, 27648), (22, .aload_n 0, 1, 0), (23, .iconst 1, 1, 0), (24, .invokevirtual 142, 3, 144), (100027, .nop, 0, 0), (27, .ireturn, 1, 0)]
def pgX6_kindOf : List En := [(0, .aload_n 0, 1, 0), (1, .iload_n 1, 1, 0), (2, .iconst 0, 1, 0), (3, .invokevirtual 220, 3, 224), (6, .ireturn, 1, 0)]
def pgX6_playerOf : List En := [(0, .aload_n 0, 1, 0), (1, .iload_n 1, 1, 0), (2, .iconst 1, 1, 0), (3, .invokevirtual 220, 3, 224), (6, .ireturn, 1, 0)]
def pgX6_cardsOf : List En := [(0, .aload_n 0, 1, 0), (1, .iload_n 1, 1, 0), (2, .iconst 2, 1, 0), (3, .invokevirtual 220, 3, 224), (6, .ireturn, 1, 0)]
def pgX6_isTrue : List En := [(0, .aload_n 0, 1, 0), (1, .iconst 0, 1, 0), (2, .putfield 40, 3, 192), (5, .aload_n 0, 1, 0), (6, .iload_n 1, 1, 0), (7, .invokevirtual 168, 3, 150), (10, .ifCond .eq 11, 3, 21505), (13, .aload_n 0, 1, 0), (14, .iload_n 1, 1, 0), (15, .invokevirtual 89, 3, 171), (18, .goto 16, 3, 34816), (21, .aload_n 0, 1, 0), (22, .iconst 1, 1, 0), (23, .invokevirtual 142, 3, 144), (26, .ifCond .le 7, 3, 33792), (29, .iconst 1, 1, 0), (30, .goto 4, 3, 34816), (33, .iconst 0, 1, 0), (100034, .nop, 0, 0), (34, .ireturn, 1, 0)]
def pgX6_untrueClues : List En := [(0, .aload_n 0, 1, 0), (1, .iconst 0, 1, 0), (2, .putfield 40, 3, 192), (5, .aload_n 0, 1, 0), (6, .invokevirtual 223, 3, 172), (9, .ireturn, 1, 0)]
def pgX6_deals : List En := [(0, .aload_n 0, 1, 0), (1, .iconst 0, 1, 0), (2, .putfield 40, 3, 192), (5, .aload_n 0, 1, 0), (6, .iconst (-1), 1, 0), (7, .iconst 0, 1, 0), (8, .invokevirtual 76, 3, 159), (11, .ireturn, 1, 0)]
def pgX6_dealsByHands : List En := [(0, .aload_n 0, 1, 0), (1, .iconst 0, 1, 0), (2, .putfield 40, 3, 192), (5, .aload_n 0, 1, 0), (6, .iconst (-1), 1, 0), (7, .iconst 0, 1, 0), (8, .invokevirtual 76, 3, 159), (11, .ireturn, 1, 0)]
def pgX6_tellsWith : List En := [(0, .aload_n 0, 1, 0), (1, .iconst 0, 1, 0), (2, .putfield 40, 3, 192), (5, .iload_n 1, 1, 0), (6, .invokestatic 139, 3, 146), (9, .ifCond .eq 12, 3, 21505), (12, .iload_n 2, 1, 0), (13, .iconst 0, 1, 0), (14, .iconst 3, 1, 0), (15, .invokestatic 44, 3, 145), (18, .ifCond .ne 9, 3, 27655), (100021, .nop, 0, 1), (21, .aload_n 0, 1, 0), (22, .iconst 1, 1, 0), (23, .invokevirtual 142, 3, 144), (26, .ireturn, 1, 0), (27, .aload_n 0, 1, 0), (28, .invokevirtual 226, 3, 160), (31, .aload_n 0, 1, 0), (32, .getfield 28, 3, 206), (35, .iconst 4, 1, 0), (36, .iload_n 1, 1, 0), (37, .imul, 1, 0), (38, .iload_n 2, 1, 0), (39, .iadd, 1, 0), (40, .iaload, 1, 0), (41, .ireturn, 1, 0)]
def pgX6_dealsWith : List En := [(0, .aload_n 0, 1, 0), (1, .iload_n 1, 1, 0), (2, .iload_n 2, 1, 0), (3, .invokevirtual 229, 3, 232), (6, .ireturn, 1, 0)]
def pgX6_mayBe : List En := [(0, .aload_n 0, 1, 0), (1, .iload_n 1, 1, 0), (2, .iload_n 2, 1, 0), (3, .invokevirtual 229, 3, 232), (6, .ifCond .le 7, 3, 13312), (9, .iconst 1, 1, 0), (10, .goto 4, 3, 14336), (13, .iconst 0, 1, 0), (100014, .nop, 0, 0), (14, .ireturn, 1, 0)]
def pgX6_certainPlace : List En := [(0, .aload_n 0, 1, 0), (1, .iconst 0, 1, 0), (2, .putfield 40, 3, 192), (5, .iload_n 1, 1, 0), (6, .invokestatic 139, 3, 146), (9, .ifCond .ne 9, 3, 18435), (12, .aload_n 0, 1, 0), (13, .iconst 1, 1, 0), (14, .invokevirtual 142, 3, 144), (17, .ireturn, 1, 0), (18, .aload_n 0, 1, 0), (19, .invokevirtual 226, 3, 160), (22, .aload_n 0, 1, 0), (23, .iload_n 1, 1, 0), (24, .invokevirtual 80, 3, 161), (27, .ireturn, 1, 0)]
def pgX6_certainCards : List En := [(0, .aload_n 0, 1, 0), (1, .iconst 0, 1, 0), (2, .putfield 40, 3, 192), (5, .aload_n 0, 1, 0), (6, .invokevirtual 226, 3, 160), (9, .aload_n 0, 1, 0), (10, .invokevirtual 232, 3, 162), (13, .ireturn, 1, 0)]
def pgX6_isBroken : List En := [(0, .aload_n 0, 1, 0), (1, .iconst 0, 1, 0), (2, .putfield 40, 3, 192), (5, .aload_n 0, 1, 0), (6, .invokevirtual 132, 3, 184), (9, .aload_n 0, 1, 0), (10, .getfield 128, 3, 210), (13, .ireturn, 1, 0)]
def pgX6_mayBeByRules : List En := [(0, .aload_n 0, 1, 0), (1, .iconst 0, 1, 0), (2, .putfield 40, 3, 192), (5, .iload_n 1, 1, 0), (6, .invokestatic 139, 3, 146), (9, .ifCond .eq 12, 3, 21505), (12, .iload_n 2, 1, 0), (13, .iconst 0, 1, 0), (14, .iconst 3, 1, 0), (15, .invokestatic 44, 3, 145), (18, .ifCond .ne 17, 3, 35847), (100021, .nop, 0, 1), (21, .aload_n 0, 1, 0), (22, .iconst 1, 1, 0), (23, .invokevirtual 142, 3, 144), (26, .ifCond .le 7, 3, 33792), (29, .iconst 1, 1, 0), (30, .goto 4, 3, 34816), (33, .iconst 0, 1, 0), (100034, .nop, 0, 0), (34, .ireturn, 1, 0), (35, .aload_n 0, 1, 0), (36, .invokevirtual 132, 3, 184), (39, .aload_n 0, 1, 0), (40, .iload_n 1, 1, 0), (41, .iload_n 2, 1, 0), (42, .invokevirtual 99, 3, 175), (45, .ireturn, 1, 0)]
def pgX6_placeByRules : List En := [(0, .aload_n 0, 1, 0), (1, .iconst 0, 1, 0), (2, .putfield 40, 3, 192), (5, .iload_n 1, 1, 0), (6, .invokestatic 139, 3, 146), (9, .ifCond .ne 9, 3, 18435), (12, .aload_n 0, 1, 0), (13, .iconst 1, 1, 0), (14, .invokevirtual 142, 3, 144), (17, .ireturn, 1, 0), (18, .aload_n 0, 1, 0), (19, .invokevirtual 132, 3, 184), (22, .aload_n 0, 1, 0), (23, .iload_n 1, 1, 0), (24, .invokevirtual 235, 3, 186), (27, .ireturn, 1, 0)]
def pgX6_crossedOff : List En := [(0, .aload_n 0, 1, 0), (1, .iconst 0, 1, 0), (2, .putfield 40, 3, 192), (5, .aload_n 0, 1, 0), (6, .invokevirtual 238, 3, 185), (9, .ireturn, 1, 0)]
def pgX6_hidden : List En := [(0, .aload_n 0, 1, 0), (1, .invokevirtual 226, 3, 160), (4, .bipush 36, 2, 0), (6, .aload_n 0, 1, 0), (7, .invokevirtual 238, 3, 185), (10, .isub, 1, 0), (11, .aload_n 0, 1, 0), (12, .invokevirtual 241, 3, 168), (15, .isub, 1, 0), (16, .ireturn, 1, 0)]
def pgX6_hiddenCrosses : List En := [(0, .aload_n 0, 1, 0), (1, .iconst 0, 1, 0), (2, .putfield 40, 3, 192), (5, .aload_n 0, 1, 0), (6, .invokevirtual 244, 3, 241), (9, .ireturn, 1, 0)]
def pgX6_envelopeDeals : List En := [(0, .aload_n 0, 1, 0), (1, .iconst 0, 1, 0), (2, .putfield 40, 3, 192), (5, .iload_n 1, 1, 0), (6, .invokestatic 247, 3, 148), (9, .ifCond .ne 9, 3, 18435), (12, .aload_n 0, 1, 0), (13, .iconst 1, 1, 0), (14, .invokevirtual 142, 3, 144), (17, .ireturn, 1, 0), (18, .aload_n 0, 1, 0), (19, .invokevirtual 226, 3, 160), (22, .aload_n 0, 1, 0), (23, .getfield 31, 3, 207), (26, .iload_n 1, 1, 0), (27, .iaload, 1, 0), (28, .ireturn, 1, 0)]
def pgX6_envelopes : List En := [(0, .aload_n 0, 1, 0), (1, .iconst 0, 1, 0), (2, .putfield 40, 3, 192), (5, .aload_n 0, 1, 0), (6, .invokevirtual 226, 3, 160), (9, .aload_n 0, 1, 0), (10, .invokevirtual 250, 3, 163), (13, .ireturn, 1, 0)]
def pgX6_bestAccusation : List En := [(0, .aload_n 0, 1, 0), (1, .iconst 0, 1, 0), (2, .putfield 40, 3, 192), (5, .aload_n 0, 1, 0), (6, .invokevirtual 226, 3, 160), (9, .aload_n 0, 1, 0), (10, .getfield 59, 3, 205), (13, .ifCond .ne 11, 3, 24577), (16, .aload_n 0, 1, 0), (17, .iconst 1, 1, 0), (18, .invokevirtual 142, 3, 144), (21, .goto 7, 3, 28672), (24, .aload_n 0, 1, 0), (25, .invokevirtual 253, 3, 164), (100028, .nop, 0, 0), (28, .ireturn, 1, 0)]
def pgX6_isSolved : List En := [(0, .aload_n 0, 1, 0), (1, .iconst 0, 1, 0), (2, .putfield 40, 3, 192), (5, .aload_n 0, 1, 0), (6, .invokevirtual 226, 3, 160), (9, .aload_n 0, 1, 0), (10, .invokevirtual 250, 3, 163), (13, .iconst 1, 1, 0), (14, .if_icmp .ne 7, 3, 21504), (17, .iconst 1, 1, 0), (18, .goto 4, 3, 22528), (21, .iconst 0, 1, 0), (100022, .nop, 0, 0), (22, .ireturn, 1, 0)]
def pgX6_barsAsked : List En := [(0, .aload_n 0, 1, 0), (1, .invokevirtual 226, 3, 160), (4, .iload_n 1, 1, 0), (5, .invokestatic 156, 3, 147), (8, .ifCond .eq 14, 3, 22528), (11, .iload_n 2, 1, 0), (12, .invokestatic 247, 3, 148), (15, .ifCond .eq 7, 3, 22528), (18, .iconst 0, 1, 0), (19, .goto 4, 3, 23552), (22, .iconst 1, 1, 0), (100023, .nop, 0, 0), (23, .ireturn, 1, 0)]
def pgX6_dealsIfPassed : List En := [(0, .aload_n 0, 1, 0), (1, .aload_n 0, 1, 0), (2, .iload_n 1, 1, 0), (3, .iload_n 2, 1, 0), (4, .invokevirtual 256, 3, 247), (7, .putfield 40, 3, 192), (10, .aload_n 0, 1, 0), (11, .getfield 40, 3, 192), (14, .ifCond .le 7, 3, 21511), (17, .iconst 0, 1, 0), (18, .goto 14, 3, 32768), (21, .aload_n 0, 1, 0), (22, .getfield 34, 3, 208), (25, .bipush 27, 2, 0), (27, .iload_n 1, 1, 0), (28, .imul, 1, 0), (29, .iload_n 2, 1, 0), (30, .iadd, 1, 0), (31, .iaload, 1, 0), (100032, .nop, 0, 0), (32, .ireturn, 1, 0)]
def pgX6_leftBy : List En := [(0, .aload_n 0, 1, 0), (1, .aload_n 0, 1, 0), (2, .iload_n 1, 1, 0), (3, .iload_n 2, 1, 0), (4, .invokevirtual 256, 3, 247), (7, .putfield 40, 3, 192), (10, .aload_n 0, 1, 0), (11, .getfield 40, 3, 192), (14, .ifCond .le 7, 3, 21511), (17, .iconst 0, 1, 0), (18, .goto 9, 3, 27648), (21, .aload_n 0, 1, 0), (22, .iload_n 1, 1, 0), (23, .iload_n 2, 1, 0), (24, .invokevirtual 83, 3, 165), (100027, .nop, 0, 0), (27, .ireturn, 1, 0)]
def pgX6_bestQuestion : List En := [(0, .aload_n 0, 1, 0), (1, .iconst 0, 1, 0), (2, .putfield 40, 3, 192), (5, .iload_n 1, 1, 0), (6, .invokestatic 156, 3, 147), (9, .ifCond .ne 9, 3, 18435), (12, .aload_n 0, 1, 0), (13, .iconst 1, 1, 0), (14, .invokevirtual 142, 3, 144), (17, .ireturn, 1, 0), (18, .aload_n 0, 1, 0), (19, .invokevirtual 226, 3, 160), (22, .aload_n 0, 1, 0), (23, .getfield 59, 3, 205), (26, .ifCond .ne 11, 3, 37891), (29, .aload_n 0, 1, 0), (30, .iconst 2, 1, 0), (31, .invokevirtual 142, 3, 144), (34, .goto 8, 3, 43008), (37, .aload_n 0, 1, 0), (38, .iload_n 1, 1, 0), (39, .invokevirtual 259, 3, 166), (100042, .nop, 0, 0), (42, .ireturn, 1, 0)]
def pgX6_dealsWithout : List En := [(0, .aload_n 0, 1, 0), (1, .iconst 0, 1, 0), (2, .putfield 40, 3, 192), (5, .aload_n 0, 1, 0), (6, .iload_n 1, 1, 0), (7, .invokevirtual 168, 3, 150), (10, .ifCond .eq 12, 3, 22529), (13, .aload_n 0, 1, 0), (14, .iload_n 1, 1, 0), (15, .iconst 0, 1, 0), (16, .invokevirtual 76, 3, 159), (19, .goto 8, 3, 27648), (22, .aload_n 0, 1, 0), (23, .iconst 1, 1, 0), (24, .invokevirtual 142, 3, 144), (100027, .nop, 0, 0), (27, .ireturn, 1, 0)]
def pgX6_idleClues : List En := [(0, .aload_n 0, 1, 0), (1, .iconst 0, 1, 0), (2, .putfield 40, 3, 192), (5, .aload_n 0, 1, 0), (6, .invokevirtual 262, 3, 167), (9, .ireturn, 1, 0)]
def pgX6_chanceNow : List En := [(0, .aload_n 0, 1, 0), (1, .invokevirtual 226, 3, 160), (4, .aload_n 0, 1, 0), (5, .getfield 59, 3, 205), (8, .ifCond .ne 7, 3, 15361), (11, .dconst 0, 1, 0), (12, .goto 19, 3, 31744), (15, .aload_n 0, 1, 0), (16, .getfield 31, 3, 207), (19, .aload_n 0, 1, 0), (20, .invokevirtual 253, 3, 164), (23, .iaload, 1, 0), (24, .i2d, 1, 0), (25, .aload_n 0, 1, 0), (26, .getfield 59, 3, 205), (29, .i2d, 1, 0), (30, .ddiv, 1, 0), (100031, .nop, 0, 0), (31, .dreturn, 1, 0)]
def pgX6_chance : List En := [(0, .aload_n 0, 1, 0), (1, .iconst 0, 1, 0), (2, .putfield 40, 3, 192), (5, .aload_n 0, 1, 0), (6, .invokevirtual 265, 3, 253), (9, .dreturn, 1, 0)]
def pgX6_digestAll : List En := [(0, .aload_n 0, 1, 0), (1, .invokevirtual 226, 3, 160), (4, .aload_n 0, 1, 0), (5, .invokevirtual 238, 3, 185), (8, .istore_n 3, 1, 0), (9, .ldc2_w 269, 3, 62), (12, .ldc2_w 269, 3, 62), (15, .ldc2_w 269, 3, 62), (18, .lload_n 1, 1, 0), (19, .lmul, 1, 0), (20, .aload_n 0, 1, 0), (21, .invokevirtual 152, 3, 170), (24, .i2l, 1, 0), (25, .ladd, 1, 0), (26, .lmul, 1, 0), (27, .aload_n 0, 1, 0), (28, .getfield 7, 3, 193), (31, .iconst 0, 1, 0), (32, .iaload, 1, 0), (33, .i2l, 1, 0), (34, .ladd, 1, 0), (35, .lmul, 1, 0), (36, .aload_n 0, 1, 0), (37, .invokevirtual 223, 3, 172), (40, .i2l, 1, 0), (41, .ladd, 1, 0), (42, .lstore 4, 2, 0), (44, .ldc2_w 269, 3, 62), (47, .ldc2_w 269, 3, 62), (50, .ldc2_w 269, 3, 62), (53, .lload 4, 2, 0), (55, .lmul, 1, 0), (56, .aload_n 0, 1, 0), (57, .getfield 59, 3, 205), (60, .i2l, 1, 0), (61, .ladd, 1, 0), (62, .lmul, 1, 0), (63, .aload_n 0, 1, 0), (64, .getfield 59, 3, 205), (67, .i2l, 1, 0), (68, .ladd, 1, 0), (69, .lmul, 1, 0), (70, .aload_n 0, 1, 0), (71, .invokevirtual 232, 3, 162), (74, .i2l, 1, 0), (75, .ladd, 1, 0), (76, .lstore 4, 2, 0), (78, .ldc2_w 269, 3, 62), (81, .ldc2_w 269, 3, 62), (84, .ldc2_w 269, 3, 62), (87, .lload 4, 2, 0), (89, .lmul, 1, 0), (90, .aload_n 0, 1, 0), (91, .getfield 128, 3, 210), (94, .ifCond .eq 7, 3, 103433), (97, .iconst 1, 1, 0), (98, .goto 4, 3, 104457), (101, .iconst 0, 1, 0), (100102, .nop, 0, 9), (102, .i2l, 1, 0), (103, .ladd, 1, 0), (104, .lmul, 1, 0), (105, .iload_n 3, 1, 0), (106, .i2l, 1, 0), (107, .ladd, 1, 0), (108, .lmul, 1, 0), (109, .bipush 36, 2, 0), (111, .iload_n 3, 1, 0), (112, .isub, 1, 0), (113, .aload_n 0, 1, 0), (114, .invokevirtual 241, 3, 168), (117, .isub, 1, 0), (118, .i2l, 1, 0), (119, .ladd, 1, 0), (120, .lstore 4, 2, 0), (122, .ldc2_w 269, 3, 62), (125, .ldc2_w 269, 3, 62), (128, .lload 4, 2, 0), (130, .lmul, 1, 0), (131, .aload_n 0, 1, 0), (132, .invokevirtual 250, 3, 163), (135, .i2l, 1, 0), (136, .ladd, 1, 0), (137, .lmul, 1, 0), (138, .aload_n 0, 1, 0), (139, .invokevirtual 250, 3, 163), (142, .iconst 1, 1, 0), (143, .if_icmp .ne 7, 3, 153601), (146, .iconst 1, 1, 0), (147, .goto 4, 3, 154625), (150, .iconst 0, 1, 0), (100151, .nop, 0, 1), (151, .i2l, 1, 0), (152, .ladd, 1, 0), (153, .lstore 4, 2, 0), (155, .ldc2_w 269, 3, 62), (158, .ldc2_w 269, 3, 62), (161, .lload 4, 2, 0), (163, .lmul, 1, 0), (164, .aload_n 0, 1, 0), (165, .invokevirtual 262, 3, 167), (168, .i2l, 1, 0), (169, .ladd, 1, 0), (170, .lmul, 1, 0), (171, .aload_n 0, 1, 0), (172, .getfield 48, 3, 195), (175, .i2l, 1, 0), (176, .ladd, 1, 0), (177, .lstore 4, 2, 0), (179, .aload_n 0, 1, 0), (180, .getfield 59, 3, 205), (183, .ifCond .le 48, 3, 236560), (186, .ldc2_w 269, 3, 62), (189, .lload 4, 2, 0), (191, .lmul, 1, 0), (192, .aload_n 0, 1, 0), (193, .invokevirtual 253, 3, 164), (196, .i2l, 1, 0), (197, .ladd, 1, 0), (198, .lstore 4, 2, 0), (200, .iconst 0, 1, 0), (201, .istore 6, 2, 0), (100203, .nop, 0, 81), (203, .iload 6, 2, 0), (205, .iconst 3, 1, 0), (206, .if_icmp .ge 25, 3, 236560), (209, .ldc2_w 269, 3, 62), (212, .lload 4, 2, 0), (214, .lmul, 1, 0), (215, .aload_n 0, 1, 0), (216, .iload 6, 2, 0), (218, .invokevirtual 259, 3, 166), (221, .i2l, 1, 0), (222, .ladd, 1, 0), (223, .lstore 4, 2, 0), (225, .iinc 6 1, 3, 0), (228, .goto (-25), 3, 207953), (231, .lload 4, 2, 0), (233, .lreturn, 1, 0)]
def pgX6_digestClues : List En := [(0, .lload_n 1, 1, 0), (1, .lstore_n 3, 1, 0), (2, .iconst 0, 1, 0), (3, .istore 5, 2, 0), (100005, .nop, 0, 41), (5, .iload 5, 2, 0), (7, .aload_n 0, 1, 0), (8, .getfield 7, 3, 193), (11, .iconst 0, 1, 0), (12, .iaload, 1, 0), (13, .if_icmp .ge 85, 3, 100360), (16, .ldc2_w 269, 3, 62), (19, .ldc2_w 269, 3, 62), (22, .ldc2_w 269, 3, 62), (25, .lload_n 3, 1, 0), (26, .lmul, 1, 0), (27, .aload_n 0, 1, 0), (28, .iload 5, 2, 0), (30, .iconst 0, 1, 0), (31, .invokevirtual 51, 3, 151), (34, .i2l, 1, 0), (35, .ladd, 1, 0), (36, .lmul, 1, 0), (37, .aload_n 0, 1, 0), (38, .iload 5, 2, 0), (40, .iconst 1, 1, 0), (41, .invokevirtual 51, 3, 151), (44, .i2l, 1, 0), (45, .ladd, 1, 0), (46, .lmul, 1, 0), (47, .aload_n 0, 1, 0), (48, .iload 5, 2, 0), (50, .iconst 2, 1, 0), (51, .invokevirtual 51, 3, 151), (54, .i2l, 1, 0), (55, .ladd, 1, 0), (56, .lstore_n 3, 1, 0), (57, .ldc2_w 269, 3, 62), (60, .ldc2_w 269, 3, 62), (63, .lload_n 3, 1, 0), (64, .lmul, 1, 0), (65, .aload_n 0, 1, 0), (66, .iload 5, 2, 0), (68, .invokevirtual 89, 3, 171), (71, .ifCond .eq 7, 3, 79905), (74, .iconst 1, 1, 0), (75, .goto 4, 3, 80929), (78, .iconst 0, 1, 0), (100079, .nop, 0, 33), (79, .i2l, 1, 0), (80, .ladd, 1, 0), (81, .lmul, 1, 0), (82, .aload_n 0, 1, 0), (83, .iload 5, 2, 0), (85, .iconst 0, 1, 0), (86, .invokevirtual 76, 3, 159), (89, .i2l, 1, 0), (90, .ladd, 1, 0), (91, .lstore_n 3, 1, 0), (92, .iinc 5 1, 3, 0), (95, .goto (-90), 3, 5161), (98, .lload_n 3, 1, 0), (99, .lreturn, 1, 0)]
def pgX6_digestCards : List En := [(0, .lload_n 1, 1, 0), (1, .lstore_n 3, 1, 0), (2, .aload_n 0, 1, 0), (3, .invokevirtual 226, 3, 160), (6, .aload_n 0, 1, 0), (7, .invokevirtual 132, 3, 184), (10, .iconst 0, 1, 0), (11, .istore 5, 2, 0), (100013, .nop, 0, 41), (13, .iload 5, 2, 0), (15, .bipush 9, 2, 0), (17, .if_icmp .ge 107, 3, 126985), (20, .ldc2_w 269, 3, 62), (23, .ldc2_w 269, 3, 62), (26, .ldc2_w 269, 3, 62), (29, .lload_n 3, 1, 0), (30, .lmul, 1, 0), (31, .aload_n 0, 1, 0), (32, .getfield 7, 3, 193), (35, .iconst 3, 1, 0), (36, .iload 5, 2, 0), (38, .iadd, 1, 0), (39, .iaload, 1, 0), (40, .i2l, 1, 0), (41, .ladd, 1, 0), (42, .lmul, 1, 0), (43, .aload_n 0, 1, 0), (44, .iload 5, 2, 0), (46, .invokevirtual 80, 3, 161), (49, .i2l, 1, 0), (50, .ladd, 1, 0), (51, .lmul, 1, 0), (52, .aload_n 0, 1, 0), (53, .iload 5, 2, 0), (55, .invokevirtual 235, 3, 186), (58, .i2l, 1, 0), (59, .ladd, 1, 0), (60, .lstore_n 3, 1, 0), (61, .iconst 0, 1, 0), (62, .istore 6, 2, 0), (100064, .nop, 0, 105), (64, .iload 6, 2, 0), (66, .iconst 4, 1, 0), (67, .if_icmp .ge 51, 3, 120873), (70, .ldc2_w 269, 3, 62), (73, .ldc2_w 269, 3, 62), (76, .lload_n 3, 1, 0), (77, .lmul, 1, 0), (78, .aload_n 0, 1, 0), (79, .getfield 28, 3, 206), (82, .iconst 4, 1, 0), (83, .iload 5, 2, 0), (85, .imul, 1, 0), (86, .iload 6, 2, 0), (88, .iadd, 1, 0), (89, .iaload, 1, 0), (90, .i2l, 1, 0), (91, .ladd, 1, 0), (92, .lmul, 1, 0), (93, .aload_n 0, 1, 0), (94, .iload 5, 2, 0), (96, .iload 6, 2, 0), (98, .invokevirtual 99, 3, 175), (101, .ifCond .eq 7, 3, 110689), (104, .iconst 1, 1, 0), (105, .goto 4, 3, 111713), (108, .iconst 0, 1, 0), (100109, .nop, 0, 97), (109, .i2l, 1, 0), (110, .ladd, 1, 0), (111, .lstore_n 3, 1, 0), (112, .iinc 6 1, 3, 0), (115, .goto (-51), 3, 65641), (118, .iinc 5 1, 3, 0), (121, .goto (-108), 3, 13353), (124, .iconst 0, 1, 0), (125, .istore 5, 2, 0), (100127, .nop, 0, 41), (127, .iload 5, 2, 0), (129, .bipush 27, 2, 0), (131, .if_icmp .ge 55, 3, 190472), (134, .ldc2_w 269, 3, 62), (137, .lload_n 3, 1, 0), (138, .lmul, 1, 0), (139, .aload_n 0, 1, 0), (140, .getfield 31, 3, 207), (143, .iload 5, 2, 0), (145, .iaload, 1, 0), (146, .i2l, 1, 0), (147, .ladd, 1, 0), (148, .lstore_n 3, 1, 0), (149, .iconst 0, 1, 0), (150, .istore 6, 2, 0), (100152, .nop, 0, 105), (152, .iload 6, 2, 0), (154, .iconst 3, 1, 0), (155, .if_icmp .ge 25, 3, 184361), (158, .ldc2_w 269, 3, 62), (161, .lload_n 3, 1, 0), (162, .lmul, 1, 0), (163, .aload_n 0, 1, 0), (164, .iload 6, 2, 0), (166, .iload 5, 2, 0), (168, .invokevirtual 83, 3, 165), (171, .i2l, 1, 0), (172, .ladd, 1, 0), (173, .lstore_n 3, 1, 0), (174, .iinc 6 1, 3, 0), (177, .goto (-25), 3, 155753), (180, .iinc 5 1, 3, 0), (183, .goto (-56), 3, 130089), (186, .lload_n 3, 1, 0), (187, .lreturn, 1, 0)]
def pgX6_digest : List En := [(0, .aload_n 0, 1, 0), (1, .iconst 0, 1, 0), (2, .putfield 40, 3, 192), (5, .aload_n 0, 1, 0), (6, .aload_n 0, 1, 0), (7, .aload_n 0, 1, 0), (8, .ldc2_w 271, 3, 9194), (11, .invokevirtual 273, 3, 255), (14, .invokevirtual 277, 3, 256), (17, .invokevirtual 280, 3, 257), (20, .lstore_n 1, 1, 0), (21, .ldc2_w 269, 3, 62), (24, .lload_n 1, 1, 0), (25, .lmul, 1, 0), (26, .aload_n 0, 1, 0), (27, .getfield 7, 3, 193), (30, .iconst 1, 1, 0), (31, .iaload, 1, 0), (32, .iconst (-1), 1, 0), (33, .if_icmp .ne 7, 3, 40961), (36, .iconst 0, 1, 0), (37, .goto 4, 3, 41985), (40, .iconst 1, 1, 0), (100041, .nop, 0, 1), (41, .i2l, 1, 0), (42, .ladd, 1, 0), (43, .lstore_n 1, 1, 0), (44, .aload_n 0, 1, 0), (45, .getfield 7, 3, 193), (48, .iconst 1, 1, 0), (49, .iaload, 1, 0), (50, .iconst (-1), 1, 0), (51, .if_icmp .ne 7, 3, 59395), (54, .lload_n 1, 1, 0), (55, .goto 28, 3, 84993), (58, .ldc2_w 269, 3, 62), (61, .ldc2_w 269, 3, 62), (64, .lload_n 1, 1, 0), (65, .lmul, 1, 0), (66, .aload_n 0, 1, 0), (67, .getfield 7, 3, 193), (70, .iconst 1, 1, 0), (71, .iaload, 1, 0), (72, .i2l, 1, 0), (73, .ladd, 1, 0), (74, .lmul, 1, 0), (75, .aload_n 0, 1, 0), (76, .getfield 7, 3, 193), (79, .iconst 2, 1, 0), (80, .iaload, 1, 0), (81, .i2l, 1, 0), (82, .ladd, 1, 0), (100083, .nop, 0, 1), (83, .lstore_n 1, 1, 0), (84, .ldc2_w 269, 3, 62), (87, .lload_n 1, 1, 0), (88, .lmul, 1, 0), (89, .aload_n 0, 1, 0), (90, .invokevirtual 265, 3, 253), (93, .invokestatic 283, 3, 1999), (96, .ladd, 1, 0), (97, .lstore_n 1, 1, 0), (98, .ldc2_w 269, 3, 62), (101, .lload_n 1, 1, 0), (102, .lmul, 1, 0), (103, .aload_n 0, 1, 0), (104, .getfield 187, 3, 199), (107, .i2l, 1, 0), (108, .ladd, 1, 0), (109, .lstore_n 1, 1, 0), (110, .iconst 0, 1, 0), (111, .istore_n 3, 1, 0), (100112, .nop, 0, 11), (112, .iload_n 3, 1, 0), (113, .aload_n 0, 1, 0), (114, .getfield 187, 3, 199), (117, .if_icmp .ge 23, 3, 143362), (120, .ldc2_w 269, 3, 62), (123, .lload_n 1, 1, 0), (124, .lmul, 1, 0), (125, .aload_n 0, 1, 0), (126, .getfield 19, 3, 198), (129, .iload_n 3, 1, 0), (130, .iaload, 1, 0), (131, .i2l, 1, 0), (132, .ladd, 1, 0), (133, .lstore_n 1, 1, 0), (134, .iinc 3 1, 3, 0), (137, .goto (-25), 3, 114699), (140, .lload_n 1, 1, 0), (141, .lreturn, 1, 0)]
def pgJxe99ae_isNaN_b9ae7 : List En := [(0, .dload_n 0, 1, 0), (1, .dload_n 0, 1, 0), (2, .dcmp .l, 1, 0), (3, .ifCond .eq 7, 3, 10240), (6, .iconst 1, 1, 0), (7, .goto 4, 3, 11264), (10, .iconst 0, 1, 0), (100011, .nop, 0, 0), (11, .ireturn, 1, 0)]
def pgJ6_bitCount_0f7a4 : List En := [(0, .iload_n 0, 1, 0), (1, .iload_n 0, 1, 0), (2, .iconst 1, 1, 0), (3, .iushr, 1, 0), (4, .ldc_w 265, 3, 1431655765), (7, .iand, 1, 0), (8, .isub, 1, 0), (9, .istore_n 0, 1, 0), (10, .iload_n 0, 1, 0), (11, .ldc_w 266, 3, 858993459), (14, .iand, 1, 0), (15, .iload_n 0, 1, 0), (16, .iconst 2, 1, 0), (17, .iushr, 1, 0), (18, .ldc_w 266, 3, 858993459), (21, .iand, 1, 0), (22, .iadd, 1, 0), (23, .istore_n 0, 1, 0), (24, .iload_n 0, 1, 0), (25, .iload_n 0, 1, 0), (26, .iconst 4, 1, 0), (27, .iushr, 1, 0), (28, .iadd, 1, 0), (29, .ldc_w 267, 3, 252645135), (32, .iand, 1, 0), (33, .istore_n 0, 1, 0), (34, .iload_n 0, 1, 0), (35, .iload_n 0, 1, 0), (36, .bipush 8, 2, 0), (38, .iushr, 1, 0), (39, .iadd, 1, 0), (40, .istore_n 0, 1, 0), (41, .iload_n 0, 1, 0), (42, .iload_n 0, 1, 0), (43, .bipush 16, 2, 0), (45, .iushr, 1, 0), (46, .iadd, 1, 0), (47, .istore_n 0, 1, 0), (48, .iload_n 0, 1, 0), (49, .bipush 63, 2, 0), (51, .iand, 1, 0), (52, .ireturn, 1, 0)]
def MT0 : List Mrow := [(yX0_count, cX0_count, 2, none, 1, 0, pgX0_count), (yX0_clear, cX0_clear, 2, none, 1, 0, pgX0_clear), (yX0_dealFrom, cX0_dealFrom, 6, none, 4, 0, pgX0_dealFrom), (yX0_hasRoom, cX0_hasRoom, 5, (some .boolean), 2, 0, pgX0_hasRoom), (yX0_judge, cX0_judge, 6, none, 2, 0, pgX0_judge), (yX0_include, cX0_include, 4, none, 1, 0, pgX0_include), (yX0_withCardAt, cX0_withCardAt, 4, (some .int), 2, 0, pgX0_withCardAt), (yX0_surePlace, cX0_surePlace, 3, (some .int), 1, 0, pgX0_surePlace), (yX0_sureCards, cX0_sureCards, 3, (some .int), 0, 0, pgX0_sureCards), (yX0_placesLeft, cX0_placesLeft, 3, (some .int), 0, 0, pgX0_placesLeft), (yX0_withEnvelope, cX0_withEnvelope, 2, (some .int), 1, 0, pgX0_withEnvelope), (yX0_envelopesLeft, cX0_envelopesLeft, 3, (some .int), 0, 0, pgX0_envelopesLeft), (yX0_likeliestEnvelope, cX0_likeliestEnvelope, 3, (some .int), 0, 0, pgX0_likeliestEnvelope), (yX0_shareOfLikeliest, cX0_shareOfLikeliest, 1, (some .double), 0, 0, pgX0_shareOfLikeliest), (yX0_withNone, cX0_withNone, 8, (some .int), 2, 0, pgX0_withNone), (yX0_behindQuestion, cX0_behindQuestion, 4, (some .int), 2, 0, pgX0_behindQuestion), (yX0_sharpestQuestion, cX0_sharpestQuestion, 6, (some .int), 1, 0, pgX0_sharpestQuestion), (yX0_withoutClue, cX0_withoutClue, 2, (some .int), 1, 0, pgX0_withoutClue), (yX0_idleAmong, cX0_idleAmong, 4, (some .int), 1, 0, pgX0_idleAmong), (yX1_count, cX1_count, 3, none, 1, 1, pgX1_count), (yX1_countHands, cX1_countHands, 8, (some .int), 4, 1, pgX1_countHands), (yX2_fill, cX2_fill, 5, none, 1, 2, pgX2_fill), (yX2_setAll, cX2_setAll, 3, none, 1, 2, pgX2_setAll), (yX2_placesLeft, cX2_placesLeft, 3, (some .int), 0, 2, pgX2_placesLeft), (yX2_has, cX2_has, 3, (some .boolean), 2, 2, pgX2_has), (yX2_onlyPlace, cX2_onlyPlace, 3, (some .int), 1, 2, pgX2_onlyPlace), (yX2_applyClues, cX2_applyClues, 3, none, 1, 2, pgX2_applyClues), (yX2_applyClue, cX2_applyClue, 4, none, 3, 2, pgX2_applyClue), (yX2_applyKinds, cX2_applyKinds, 2, none, 0, 2, pgX2_applyKinds), (yX2_applyPlayers, cX2_applyPlayers, 2, none, 0, 2, pgX2_applyPlayers), (yX2_crossIfSure, cX2_crossIfSure, 5, none, 3, 2, pgX2_crossIfSure), (yX2_keepIfJust, cX2_keepIfJust, 5, none, 3, 2, pgX2_keepIfJust), (yX2_keepOnly, cX2_keepOnly, 4, none, 2, 2, pgX2_keepOnly)]
def MT1 : List Mrow := [(yX2_crossOff, cX2_crossOff, 4, none, 2, 2, pgX2_crossOff), (yX2_withPlace, cX2_withPlace, 5, (some .int), 2, 2, pgX2_withPlace), (yX2_withOnly, cX2_withOnly, 5, (some .int), 2, 2, pgX2_withOnly), (yX2_breaksDown, cX2_breaksDown, 3, (some .boolean), 0, 2, pgX2_breaksDown), (yX2_fits, cX2_fits, 4, (some .boolean), 3, 2, pgX2_fits), (yX2_breaksClue, cX2_breaksClue, 6, (some .boolean), 1, 2, pgX2_breaksClue), (yX3_dealAtFirst, cX3_dealAtFirst, 1, none, 0, 3, pgX3_dealAtFirst), (yX3_copyFrom, cX3_copyFrom, 3, none, 1, 3, pgX3_copyFrom), (yX3_add, cX3_add, 4, none, 3, 3, pgX3_add), (yX3_remove, cX3_remove, 3, none, 1, 3, pgX3_remove), (yX3_addAnswer, cX3_addAnswer, 4, (some .boolean), 2, 3, pgX3_addAnswer), (yX3_addSight, cX3_addSight, 5, (some .int), 2, 3, pgX3_addSight), (yX3_addVerdict, cX3_addVerdict, 3, (some .boolean), 1, 3, pgX3_addVerdict), (yX3_handOf, cX3_handOf, 3, (some .int), 2, 3, pgX3_handOf), (yX3_placeOf, cX3_placeOf, 3, (some .int), 1, 3, pgX3_placeOf), (yX3_agrees, cX3_agrees, 4, (some .boolean), 2, 3, pgX3_agrees), (yX3_agreesWithAll, cX3_agreesWithAll, 3, (some .boolean), 1, 3, pgX3_agreesWithAll), (yX4_begin, cX4_begin, 1, none, 0, 4, pgX4_begin), (yX4_mayEnd, cX4_mayEnd, 1, (some .boolean), 0, 4, pgX4_mayEnd), (yX4_take, cX4_take, 2, (some .boolean), 1, 4, pgX4_take), (yX4_takeLetter, cX4_takeLetter, 2, (some .boolean), 1, 4, pgX4_takeLetter), (yX4_takePlayer, cX4_takePlayer, 2, (some .boolean), 1, 4, pgX4_takePlayer), (yX4_takeFirstDigit, cX4_takeFirstDigit, 2, (some .boolean), 1, 4, pgX4_takeFirstDigit), (yX4_takeMore, cX4_takeMore, 2, (some .boolean), 1, 4, pgX4_takeMore), (yX4_isDigit, cX4_isDigit, 1, (some .boolean), 1, 4, pgX4_isDigit), (yX4_namesPlayer, cX4_namesPlayer, 1, (some .boolean), 1, 4, pgX4_namesPlayer), (yX4_limitOf, cX4_limitOf, 1, (some .int), 1, 4, pgX4_limitOf), (yX5_exchange, cX5_exchange, 4, (some .int), 2, 5, pgX5_exchange), (yX5_noteHas, cX5_noteHas, 3, (some .int), 2, 5, pgX5_noteHas), (yX5_noteLacks, cX5_noteLacks, 3, (some .int), 2, 5, pgX5_noteLacks), (yX5_noteShows, cX5_noteShows, 5, (some .int), 4, 5, pgX5_noteShows), (yX5_dropClue, cX5_dropClue, 2, (some .int), 1, 5, pgX5_dropClue), (yX5_dropAll, cX5_dropAll, 2, (some .int), 0, 5, pgX5_dropAll)]
def MT2 : List Mrow := [(yX5_ask, cX5_ask, 5, (some .boolean), 4, 5, pgX5_ask), (yX5_look, cX5_look, 5, (some .int), 4, 5, pgX5_look), (yX5_accuse, cX5_accuse, 4, (some .boolean), 3, 5, pgX5_accuse), (yX5_append, cX5_append, 2, (some .int), 1, 5, pgX5_append), (yX5_clearBuffer, cX5_clearBuffer, 2, (some .int), 0, 5, pgX5_clearBuffer), (yX5_firstError, cX5_firstError, 2, (some .int), 0, 5, pgX5_firstError), (yX5_work, cX5_work, 5, (some .int), 0, 5, pgX5_work), (yX5_hasStopped, cX5_hasStopped, 1, (some .boolean), 0, 5, pgX5_hasStopped), (yX5_stoppedPart, cX5_stoppedPart, 1, (some .int), 0, 5, pgX5_stoppedPart), (yX5_whyStopped, cX5_whyStopped, 1, (some .int), 0, 5, pgX5_whyStopped), (yX5_undo, cX5_undo, 1, (some .int), 0, 5, pgX5_undo), (yX5_keep, cX5_keep, 1, (some .int), 0, 5, pgX5_keep), (yX5_restore, cX5_restore, 1, (some .int), 0, 5, pgX5_restore), (yX5_savedStates, cX5_savedStates, 1, (some .int), 0, 5, pgX5_savedStates), (yX5_truePlace, cX5_truePlace, 2, (some .int), 1, 5, pgX5_truePlace), (yX5_trueEnvelope, cX5_trueEnvelope, 1, (some .int), 0, 5, pgX5_trueEnvelope), (yX5_clues, cX5_clues, 1, (some .int), 0, 5, pgX5_clues), (yX5_kindOf, cX5_kindOf, 2, (some .int), 1, 5, pgX5_kindOf), (yX5_playerOf, cX5_playerOf, 2, (some .int), 1, 5, pgX5_playerOf), (yX5_cardsOf, cX5_cardsOf, 2, (some .int), 1, 5, pgX5_cardsOf), (yX5_isTrue, cX5_isTrue, 2, (some .boolean), 1, 5, pgX5_isTrue), (yX5_untrueClues, cX5_untrueClues, 3, (some .int), 0, 5, pgX5_untrueClues), (yX5_deals, cX5_deals, 1, (some .int), 0, 5, pgX5_deals), (yX5_dealsByHands, cX5_dealsByHands, 1, (some .int), 0, 5, pgX5_dealsByHands), (yX5_dealsWith, cX5_dealsWith, 3, (some .int), 2, 5, pgX5_dealsWith), (yX5_mayBe, cX5_mayBe, 3, (some .boolean), 2, 5, pgX5_mayBe), (yX5_certainPlace, cX5_certainPlace, 2, (some .int), 1, 5, pgX5_certainPlace), (yX5_certainCards, cX5_certainCards, 1, (some .int), 0, 5, pgX5_certainCards), (yX5_isBroken, cX5_isBroken, 1, (some .boolean), 0, 5, pgX5_isBroken), (yX5_mayBeByRules, cX5_mayBeByRules, 3, (some .boolean), 2, 5, pgX5_mayBeByRules), (yX5_placeByRules, cX5_placeByRules, 2, (some .int), 1, 5, pgX5_placeByRules), (yX5_crossedOff, cX5_crossedOff, 1, (some .int), 0, 5, pgX5_crossedOff), (yX5_hiddenCrosses, cX5_hiddenCrosses, 1, (some .int), 0, 5, pgX5_hiddenCrosses)]
def MT3 : List Mrow := [(yX5_envelopeDeals, cX5_envelopeDeals, 2, (some .int), 1, 5, pgX5_envelopeDeals), (yX5_envelopes, cX5_envelopes, 1, (some .int), 0, 5, pgX5_envelopes), (yX5_bestAccusation, cX5_bestAccusation, 2, (some .int), 0, 5, pgX5_bestAccusation), (yX5_isSolved, cX5_isSolved, 1, (some .boolean), 0, 5, pgX5_isSolved), (yX5_dealsIfPassed, cX5_dealsIfPassed, 3, (some .int), 2, 5, pgX5_dealsIfPassed), (yX5_leftBy, cX5_leftBy, 3, (some .int), 2, 5, pgX5_leftBy), (yX5_bestQuestion, cX5_bestQuestion, 3, (some .int), 1, 5, pgX5_bestQuestion), (yX5_dealsWithout, cX5_dealsWithout, 2, (some .int), 1, 5, pgX5_dealsWithout), (yX5_idleClues, cX5_idleClues, 1, (some .int), 0, 5, pgX5_idleClues), (yX5_chance, cX5_chance, 1, (some .double), 0, 5, pgX5_chance), (yX5_digest, cX5_digest, 5, (some .long), 0, 5, pgX5_digest), (yX5_mix, cX5_mix, 4, (some .long), 2, 5, pgX5_mix), (yX5_mixFlag, cX5_mixFlag, 3, (some .long), 2, 5, pgX5_mixFlag), (yX5_mixCounts, cX5_mixCounts, 7, (some .long), 3, 5, pgX5_mixCounts), (yX5_mixBest, cX5_mixBest, 6, (some .long), 2, 5, pgX5_mixBest), (yX5_mixClues, cX5_mixClues, 7, (some .long), 2, 5, pgX5_mixClues), (yX5_mixCards, cX5_mixCards, 9, (some .long), 3, 5, pgX5_mixCards), (yX5_mixTriples, cX5_mixTriples, 7, (some .long), 2, 5, pgX5_mixTriples), (yX5_mixStop, cX5_mixStop, 5, (some .long), 1, 5, pgX5_mixStop), (yX5_mixBuffer, cX5_mixBuffer, 6, (some .long), 1, 5, pgX5_mixBuffer), (yX5_bitsOfShare, cX5_bitsOfShare, 8, (some .long), 1, 5, pgX5_bitsOfShare), (yX5_doPart, cX5_doPart, 4, (some .int), 3, 5, pgX5_doPart), (yX5_addPart, cX5_addPart, 4, none, 3, 5, pgX5_addPart), (yX5_remember, cX5_remember, 2, none, 0, 5, pgX5_remember), (yX5_dropOldest, cX5_dropOldest, 3, none, 0, 5, pgX5_dropOldest), (yX5_forgetCounts, cX5_forgetCounts, 1, none, 0, 5, pgX5_forgetCounts), (yX5_countedDeals, cX5_countedDeals, 1, (some (.object "AlibiDeals$DealCount")), 0, 5, pgX5_countedDeals), (yX5_filledSheet, cX5_filledSheet, 1, (some (.object "AlibiDeals$RuleSheet")), 0, 5, pgX5_filledSheet), (yX5_countedHands, cX5_countedHands, 1, (some (.object "AlibiDeals$HandCount")), 0, 5, pgX5_countedHands), (yX5_checkCard, cX5_checkCard, 1, none, 1, 5, pgX5_checkCard), (yX5_checkPlayer, cX5_checkPlayer, 1, none, 1, 5, pgX5_checkPlayer), (yX5_checkPlace, cX5_checkPlace, 1, none, 1, 5, pgX5_checkPlace), (yX5_checkTriple, cX5_checkTriple, 1, none, 1, 5, pgX5_checkTriple)]
def MT4 : List Mrow := [(yX5_checkCards, cX5_checkCards, 3, none, 3, 5, pgX5_checkCards), (yX5_checkClue, cX5_checkClue, 2, none, 1, 5, pgX5_checkClue), (yX5_checkRoomForClue, cX5_checkRoomForClue, 1, none, 0, 5, pgX5_checkRoomForClue), (yX5_checkStopped, cX5_checkStopped, 1, none, 0, 5, pgX5_checkStopped), (yX5_checkSome, cX5_checkSome, 1, none, 1, 5, pgX5_checkSome), (yX5_mask, cX5_mask, 3, (some .int), 3, 5, pgX5_mask), (yX5_cardsOfKind, cX5_cardsOfKind, 1, (some .int), 1, 5, pgX5_cardsOfKind), (yX5_cardsOfTriple, cX5_cardsOfTriple, 1, (some .int), 1, 5, pgX5_cardsOfTriple), (yX5_numberOfTriple, cX5_numberOfTriple, 3, (some .int), 1, 5, pgX5_numberOfTriple), (yX5_isTriple, cX5_isTriple, 3, (some .boolean), 1, 5, pgX5_isTriple), (yX5_exchanged, cX5_exchanged, 5, (some .int), 3, 5, pgX5_exchanged), (yX6_thrown, cX6_thrown, 1, (some .int), 0, 6, pgX6_thrown), (yX6_fails, cX6_fails, 2, (some .int), 1, 6, pgX6_fails), (yX6_in, cX6_in, 3, (some .boolean), 3, 6, pgX6_in), (yX6_isCard, cX6_isCard, 1, (some .boolean), 1, 6, pgX6_isCard), (yX6_isPlayer, cX6_isPlayer, 1, (some .boolean), 1, 6, pgX6_isPlayer), (yX6_isTriple, cX6_isTriple, 1, (some .boolean), 1, 6, pgX6_isTriple), (yX6_areOf, cX6_areOf, 3, (some .boolean), 3, 6, pgX6_areOf), (yX6_isClue, cX6_isClue, 2, (some .boolean), 1, 6, pgX6_isClue), (yX6_of, cX6_of, 3, (some .int), 2, 6, pgX6_of), (yX6_numbered, cX6_numbered, 3, (some .int), 3, 6, pgX6_numbered), (yX6_maskOf, cX6_maskOf, 1, (some .int), 1, 6, pgX6_maskOf), (yX6_records, cX6_records, 2, none, 0, 6, pgX6_records), (yX6_agrees, cX6_agrees, 4, (some .boolean), 1, 6, pgX6_agrees), (yX6_agreesAll, cX6_agreesAll, 4, (some .boolean), 1, 6, pgX6_agreesAll), (yX6_countsDeal, cX6_countsDeal, 4, none, 1, 6, pgX6_countsDeal), (yX6_bits, cX6_bits, 3, (some .int), 1, 6, pgX6_bits), (yX6_goes, cX6_goes, 9, (some .int), 2, 6, pgX6_goes), (yX6_surveys, cX6_surveys, 2, none, 0, 6, pgX6_surveys), (yX6_certain, cX6_certain, 4, (some .int), 1, 6, pgX6_certain), (yX6_certainMany, cX6_certainMany, 3, (some .int), 0, 6, pgX6_certainMany), (yX6_envelopeMany, cX6_envelopeMany, 3, (some .int), 0, 6, pgX6_envelopeMany), (yX6_bestIn, cX6_bestIn, 3, (some .int), 0, 6, pgX6_bestIn)]
def MT5 : List Mrow := [(yX6_leaves, cX6_leaves, 4, (some .int), 2, 6, pgX6_leaves), (yX6_bestFor, cX6_bestFor, 4, (some .int), 1, 6, pgX6_bestFor), (yX6_idleMany, cX6_idleMany, 4, (some .int), 0, 6, pgX6_idleMany), (yX6_mayMany, cX6_mayMany, 3, (some .int), 0, 6, pgX6_mayMany), (yX6_looksAtMaster, cX6_looksAtMaster, 2, none, 0, 6, pgX6_looksAtMaster), (yX6_masterTriple, cX6_masterTriple, 3, (some .int), 0, 6, pgX6_masterTriple), (yX6_holdsTrue, cX6_holdsTrue, 2, (some .boolean), 1, 6, pgX6_holdsTrue), (yX6_untrueMany, cX6_untrueMany, 3, (some .int), 0, 6, pgX6_untrueMany), (yX6_keeps, cX6_keeps, 4, (some .boolean), 2, 6, pgX6_keeps), (yX6_loses, cX6_loses, 3, (some .boolean), 2, 6, pgX6_loses), (yX6_mayLie, cX6_mayLie, 3, (some .boolean), 2, 6, pgX6_mayLie), (yX6_isOnly, cX6_isOnly, 3, (some .boolean), 2, 6, pgX6_isOnly), (yX6_counts, cX6_counts, 7, (some .int), 3, 6, pgX6_counts), (yX6_fixes, cX6_fixes, 5, (some .boolean), 2, 6, pgX6_fixes), (yX6_bars, cX6_bars, 5, (some .boolean), 2, 6, pgX6_bars), (yX6_usesClue, cX6_usesClue, 7, (some .boolean), 1, 6, pgX6_usesClue), (yX6_usesKind, cX6_usesKind, 4, (some .boolean), 1, 6, pgX6_usesKind), (yX6_usesPlayer, cX6_usesPlayer, 3, (some .boolean), 1, 6, pgX6_usesPlayer), (yX6_breaksDown, cX6_breaksDown, 3, (some .boolean), 0, 6, pgX6_breaksDown), (yX6_rules, cX6_rules, 3, none, 0, 6, pgX6_rules), (yX6_crossedMany, cX6_crossedMany, 4, (some .int), 0, 6, pgX6_crossedMany), (yX6_only, cX6_only, 4, (some .int), 1, 6, pgX6_only), (yX6_adds, cX6_adds, 5, (some .int), 3, 6, pgX6_adds), (yX6_drops, cX6_drops, 3, none, 1, 6, pgX6_drops), (yX6_asks, cX6_asks, 4, (some .boolean), 2, 6, pgX6_asks), (yX6_looksAt, cX6_looksAt, 5, (some .int), 2, 6, pgX6_looksAt), (yX6_accuses, cX6_accuses, 3, (some .boolean), 1, 6, pgX6_accuses), (yX6_changes, cX6_changes, 4, none, 2, 6, pgX6_changes), (yX6_exchange, cX6_exchange, 4, (some .int), 2, 6, pgX6_exchange), (yX6_notes, cX6_notes, 4, (some .int), 3, 6, pgX6_notes), (yX6_noteHas, cX6_noteHas, 3, (some .int), 2, 6, pgX6_noteHas), (yX6_noteLacks, cX6_noteLacks, 3, (some .int), 2, 6, pgX6_noteLacks), (yX6_noteShows, cX6_noteShows, 6, (some .int), 4, 6, pgX6_noteShows)]
def MT6 : List Mrow := [(yX6_dropClue, cX6_dropClue, 2, (some .int), 1, 6, pgX6_dropClue), (yX6_dropAll, cX6_dropAll, 2, (some .int), 0, 6, pgX6_dropAll), (yX6_barsQuestion, cX6_barsQuestion, 2, (some .int), 1, 6, pgX6_barsQuestion), (yX6_ask, cX6_ask, 5, (some .boolean), 4, 6, pgX6_ask), (yX6_look, cX6_look, 5, (some .int), 4, 6, pgX6_look), (yX6_accuse, cX6_accuse, 4, (some .boolean), 3, 6, pgX6_accuse), (yX6_append, cX6_append, 2, (some .int), 1, 6, pgX6_append), (yX6_clearBuffer, cX6_clearBuffer, 2, (some .int), 0, 6, pgX6_clearBuffer), (yX6_sign, cX6_sign, 1, (some .int), 0, 6, pgX6_sign), (yX6_takes, cX6_takes, 4, (some .int), 2, 6, pgX6_takes), (yX6_number, cX6_number, 3, (some .int), 1, 6, pgX6_number), (yX6_readsPart, cX6_readsPart, 5, none, 0, 6, pgX6_readsPart), (yX6_readsWorks, cX6_readsWorks, 1, (some .boolean), 0, 6, pgX6_readsWorks), (yX6_firstError, cX6_firstError, 1, (some .int), 0, 6, pgX6_firstError), (yX6_does, cX6_does, 5, (some .int), 1, 6, pgX6_does), (yX6_work, cX6_work, 3, (some .int), 0, 6, pgX6_work), (yX6_hasStopped, cX6_hasStopped, 1, (some .boolean), 0, 6, pgX6_hasStopped), (yX6_stoppedPart, cX6_stoppedPart, 1, (some .int), 0, 6, pgX6_stoppedPart), (yX6_whyStopped, cX6_whyStopped, 1, (some .int), 0, 6, pgX6_whyStopped), (yX6_undo, cX6_undo, 2, (some .int), 0, 6, pgX6_undo), (yX6_keep, cX6_keep, 2, (some .int), 0, 6, pgX6_keep), (yX6_restore, cX6_restore, 2, (some .int), 0, 6, pgX6_restore), (yX6_savedStates, cX6_savedStates, 1, (some .int), 0, 6, pgX6_savedStates), (yX6_truePlace, cX6_truePlace, 2, (some .int), 1, 6, pgX6_truePlace), (yX6_trueEnvelope, cX6_trueEnvelope, 1, (some .int), 0, 6, pgX6_trueEnvelope), (yX6_clues, cX6_clues, 1, (some .int), 0, 6, pgX6_clues), (yX6_tells, cX6_tells, 3, (some .int), 2, 6, pgX6_tells), (yX6_kindOf, cX6_kindOf, 2, (some .int), 1, 6, pgX6_kindOf), (yX6_playerOf, cX6_playerOf, 2, (some .int), 1, 6, pgX6_playerOf), (yX6_cardsOf, cX6_cardsOf, 2, (some .int), 1, 6, pgX6_cardsOf), (yX6_isTrue, cX6_isTrue, 2, (some .boolean), 1, 6, pgX6_isTrue), (yX6_untrueClues, cX6_untrueClues, 1, (some .int), 0, 6, pgX6_untrueClues), (yX6_deals, cX6_deals, 1, (some .int), 0, 6, pgX6_deals)]
def MT7 : List Mrow := [(yX6_dealsByHands, cX6_dealsByHands, 1, (some .int), 0, 6, pgX6_dealsByHands), (yX6_tellsWith, cX6_tellsWith, 3, (some .int), 2, 6, pgX6_tellsWith), (yX6_dealsWith, cX6_dealsWith, 3, (some .int), 2, 6, pgX6_dealsWith), (yX6_mayBe, cX6_mayBe, 3, (some .boolean), 2, 6, pgX6_mayBe), (yX6_certainPlace, cX6_certainPlace, 2, (some .int), 1, 6, pgX6_certainPlace), (yX6_certainCards, cX6_certainCards, 1, (some .int), 0, 6, pgX6_certainCards), (yX6_isBroken, cX6_isBroken, 1, (some .boolean), 0, 6, pgX6_isBroken), (yX6_mayBeByRules, cX6_mayBeByRules, 3, (some .boolean), 2, 6, pgX6_mayBeByRules), (yX6_placeByRules, cX6_placeByRules, 2, (some .int), 1, 6, pgX6_placeByRules), (yX6_crossedOff, cX6_crossedOff, 1, (some .int), 0, 6, pgX6_crossedOff), (yX6_hidden, cX6_hidden, 1, (some .int), 0, 6, pgX6_hidden), (yX6_hiddenCrosses, cX6_hiddenCrosses, 1, (some .int), 0, 6, pgX6_hiddenCrosses), (yX6_envelopeDeals, cX6_envelopeDeals, 2, (some .int), 1, 6, pgX6_envelopeDeals), (yX6_envelopes, cX6_envelopes, 1, (some .int), 0, 6, pgX6_envelopes), (yX6_bestAccusation, cX6_bestAccusation, 1, (some .int), 0, 6, pgX6_bestAccusation), (yX6_isSolved, cX6_isSolved, 1, (some .boolean), 0, 6, pgX6_isSolved), (yX6_barsAsked, cX6_barsAsked, 3, (some .int), 2, 6, pgX6_barsAsked), (yX6_dealsIfPassed, cX6_dealsIfPassed, 3, (some .int), 2, 6, pgX6_dealsIfPassed), (yX6_leftBy, cX6_leftBy, 3, (some .int), 2, 6, pgX6_leftBy), (yX6_bestQuestion, cX6_bestQuestion, 2, (some .int), 1, 6, pgX6_bestQuestion), (yX6_dealsWithout, cX6_dealsWithout, 2, (some .int), 1, 6, pgX6_dealsWithout), (yX6_idleClues, cX6_idleClues, 1, (some .int), 0, 6, pgX6_idleClues), (yX6_chanceNow, cX6_chanceNow, 1, (some .double), 0, 6, pgX6_chanceNow), (yX6_chance, cX6_chance, 1, (some .double), 0, 6, pgX6_chance), (yX6_digestAll, cX6_digestAll, 7, (some .long), 1, 6, pgX6_digestAll), (yX6_digestClues, cX6_digestClues, 6, (some .long), 1, 6, pgX6_digestClues), (yX6_digestCards, cX6_digestCards, 7, (some .long), 1, 6, pgX6_digestCards), (yX6_digest, cX6_digest, 4, (some .long), 0, 6, pgX6_digest), (yJxe99ae_isNaN_b9ae7, cJxe99ae_isNaN_b9ae7, 2, (some .boolean), 1, 99, pgJxe99ae_isNaN_b9ae7), (yJ6_bitCount_0f7a4, cJ6_bitCount_0f7a4, 1, (some .int), 1, 99, pgJ6_bitCount_0f7a4)]
def MT : List Mrow := MT0 ++ (MT1 ++ (MT2 ++ (MT3 ++ (MT4 ++ (MT5 ++ (MT6 ++ (MT7)))))))
def nM : Nat := 261
def m_d : Mrow := (yX0_clear, cX0_clear, 0, none, 0, 99, [])
def mr (k : Nat) : Mrow := MT.getD k m_d
def mY (k : Nat) : MethodName := (mr k).1
def mB (k : Nat) : ByteArray := (mr k).2.1
def mL (k : Nat) : Nat := (mr k).2.2.1
def mR (k : Nat) : Option FieldType := (mr k).2.2.2.1
def mN (k : Nat) : Nat := (mr k).2.2.2.2.1
def mC (k : Nat) : Nat := (mr k).2.2.2.2.2.1
def mP (k : Nat) : List En := (mr k).2.2.2.2.2.2
def TT : List Cond := lw_tbl.filter goodWord
def wsk (k : Nat) : List Cond := Cond.code (mY k) (mB k) (mL k) (mR k) :: TT
def nwords : List Cond := [.methodLinkNest "AlibiDeals$DealCount" 51 ⟨"AlibiDeals", "cardsOfKind", "(I)I"⟩ "AlibiDeals", .methodLinkNest "AlibiDeals$HandCount" 19 ⟨"AlibiDeals", "cardsOfTriple", "(I)I"⟩ "AlibiDeals", .methodLinkNest "AlibiDeals$RuleSheet" 86 ⟨"AlibiDeals", "cardsOfKind", "(I)I"⟩ "AlibiDeals", .methodLinkNest "AlibiDeals$DealCount" 87 ⟨"AlibiDeals", "cardsOfTriple", "(I)I"⟩ "AlibiDeals"]
abbrev kX0_count : Nat := 0
abbrev kX0_clear : Nat := 1
abbrev kX0_dealFrom : Nat := 2
abbrev kX0_hasRoom : Nat := 3
abbrev kX0_judge : Nat := 4
abbrev kX0_include : Nat := 5
abbrev kX0_withCardAt : Nat := 6
abbrev kX0_surePlace : Nat := 7
abbrev kX0_sureCards : Nat := 8
abbrev kX0_placesLeft : Nat := 9
abbrev kX0_withEnvelope : Nat := 10
abbrev kX0_envelopesLeft : Nat := 11
abbrev kX0_likeliestEnvelope : Nat := 12
abbrev kX0_shareOfLikeliest : Nat := 13
abbrev kX0_withNone : Nat := 14
abbrev kX0_behindQuestion : Nat := 15
abbrev kX0_sharpestQuestion : Nat := 16
abbrev kX0_withoutClue : Nat := 17
abbrev kX0_idleAmong : Nat := 18
abbrev kX1_count : Nat := 19
abbrev kX1_countHands : Nat := 20
abbrev kX2_fill : Nat := 21
abbrev kX2_setAll : Nat := 22
abbrev kX2_placesLeft : Nat := 23
abbrev kX2_has : Nat := 24
abbrev kX2_onlyPlace : Nat := 25
abbrev kX2_applyClues : Nat := 26
abbrev kX2_applyClue : Nat := 27
abbrev kX2_applyKinds : Nat := 28
abbrev kX2_applyPlayers : Nat := 29
abbrev kX2_crossIfSure : Nat := 30
abbrev kX2_keepIfJust : Nat := 31
abbrev kX2_keepOnly : Nat := 32
abbrev kX2_crossOff : Nat := 33
abbrev kX2_withPlace : Nat := 34
abbrev kX2_withOnly : Nat := 35
abbrev kX2_breaksDown : Nat := 36
abbrev kX2_fits : Nat := 37
abbrev kX2_breaksClue : Nat := 38
abbrev kX3_dealAtFirst : Nat := 39
abbrev kX3_copyFrom : Nat := 40
abbrev kX3_add : Nat := 41
abbrev kX3_remove : Nat := 42
abbrev kX3_addAnswer : Nat := 43
abbrev kX3_addSight : Nat := 44
abbrev kX3_addVerdict : Nat := 45
abbrev kX3_handOf : Nat := 46
abbrev kX3_placeOf : Nat := 47
abbrev kX3_agrees : Nat := 48
abbrev kX3_agreesWithAll : Nat := 49
abbrev kX4_begin : Nat := 50
abbrev kX4_mayEnd : Nat := 51
abbrev kX4_take : Nat := 52
abbrev kX4_takeLetter : Nat := 53
abbrev kX4_takePlayer : Nat := 54
abbrev kX4_takeFirstDigit : Nat := 55
abbrev kX4_takeMore : Nat := 56
abbrev kX4_isDigit : Nat := 57
abbrev kX4_namesPlayer : Nat := 58
abbrev kX4_limitOf : Nat := 59
abbrev kX5_exchange : Nat := 60
abbrev kX5_noteHas : Nat := 61
abbrev kX5_noteLacks : Nat := 62
abbrev kX5_noteShows : Nat := 63
abbrev kX5_dropClue : Nat := 64
abbrev kX5_dropAll : Nat := 65
abbrev kX5_ask : Nat := 66
abbrev kX5_look : Nat := 67
abbrev kX5_accuse : Nat := 68
abbrev kX5_append : Nat := 69
abbrev kX5_clearBuffer : Nat := 70
abbrev kX5_firstError : Nat := 71
abbrev kX5_work : Nat := 72
abbrev kX5_hasStopped : Nat := 73
abbrev kX5_stoppedPart : Nat := 74
abbrev kX5_whyStopped : Nat := 75
abbrev kX5_undo : Nat := 76
abbrev kX5_keep : Nat := 77
abbrev kX5_restore : Nat := 78
abbrev kX5_savedStates : Nat := 79
abbrev kX5_truePlace : Nat := 80
abbrev kX5_trueEnvelope : Nat := 81
abbrev kX5_clues : Nat := 82
abbrev kX5_kindOf : Nat := 83
abbrev kX5_playerOf : Nat := 84
abbrev kX5_cardsOf : Nat := 85
abbrev kX5_isTrue : Nat := 86
abbrev kX5_untrueClues : Nat := 87
abbrev kX5_deals : Nat := 88
abbrev kX5_dealsByHands : Nat := 89
abbrev kX5_dealsWith : Nat := 90
abbrev kX5_mayBe : Nat := 91
abbrev kX5_certainPlace : Nat := 92
abbrev kX5_certainCards : Nat := 93
abbrev kX5_isBroken : Nat := 94
abbrev kX5_mayBeByRules : Nat := 95
abbrev kX5_placeByRules : Nat := 96
abbrev kX5_crossedOff : Nat := 97
abbrev kX5_hiddenCrosses : Nat := 98
abbrev kX5_envelopeDeals : Nat := 99
abbrev kX5_envelopes : Nat := 100
abbrev kX5_bestAccusation : Nat := 101
abbrev kX5_isSolved : Nat := 102
abbrev kX5_dealsIfPassed : Nat := 103
abbrev kX5_leftBy : Nat := 104
abbrev kX5_bestQuestion : Nat := 105
abbrev kX5_dealsWithout : Nat := 106
abbrev kX5_idleClues : Nat := 107
abbrev kX5_chance : Nat := 108
abbrev kX5_digest : Nat := 109
abbrev kX5_mix : Nat := 110
abbrev kX5_mixFlag : Nat := 111
abbrev kX5_mixCounts : Nat := 112
abbrev kX5_mixBest : Nat := 113
abbrev kX5_mixClues : Nat := 114
abbrev kX5_mixCards : Nat := 115
abbrev kX5_mixTriples : Nat := 116
abbrev kX5_mixStop : Nat := 117
abbrev kX5_mixBuffer : Nat := 118
abbrev kX5_bitsOfShare : Nat := 119
abbrev kX5_doPart : Nat := 120
abbrev kX5_addPart : Nat := 121
abbrev kX5_remember : Nat := 122
abbrev kX5_dropOldest : Nat := 123
abbrev kX5_forgetCounts : Nat := 124
abbrev kX5_countedDeals : Nat := 125
abbrev kX5_filledSheet : Nat := 126
abbrev kX5_countedHands : Nat := 127
abbrev kX5_checkCard : Nat := 128
abbrev kX5_checkPlayer : Nat := 129
abbrev kX5_checkPlace : Nat := 130
abbrev kX5_checkTriple : Nat := 131
abbrev kX5_checkCards : Nat := 132
abbrev kX5_checkClue : Nat := 133
abbrev kX5_checkRoomForClue : Nat := 134
abbrev kX5_checkStopped : Nat := 135
abbrev kX5_checkSome : Nat := 136
abbrev kX5_mask : Nat := 137
abbrev kX5_cardsOfKind : Nat := 138
abbrev kX5_cardsOfTriple : Nat := 139
abbrev kX5_numberOfTriple : Nat := 140
abbrev kX5_isTriple : Nat := 141
abbrev kX5_exchanged : Nat := 142
abbrev kX6_thrown : Nat := 143
abbrev kX6_fails : Nat := 144
abbrev kX6_in : Nat := 145
abbrev kX6_isCard : Nat := 146
abbrev kX6_isPlayer : Nat := 147
abbrev kX6_isTriple : Nat := 148
abbrev kX6_areOf : Nat := 149
abbrev kX6_isClue : Nat := 150
abbrev kX6_of : Nat := 151
abbrev kX6_numbered : Nat := 152
abbrev kX6_maskOf : Nat := 153
abbrev kX6_records : Nat := 154
abbrev kX6_agrees : Nat := 155
abbrev kX6_agreesAll : Nat := 156
abbrev kX6_countsDeal : Nat := 157
abbrev kX6_bits : Nat := 158
abbrev kX6_goes : Nat := 159
abbrev kX6_surveys : Nat := 160
abbrev kX6_certain : Nat := 161
abbrev kX6_certainMany : Nat := 162
abbrev kX6_envelopeMany : Nat := 163
abbrev kX6_bestIn : Nat := 164
abbrev kX6_leaves : Nat := 165
abbrev kX6_bestFor : Nat := 166
abbrev kX6_idleMany : Nat := 167
abbrev kX6_mayMany : Nat := 168
abbrev kX6_looksAtMaster : Nat := 169
abbrev kX6_masterTriple : Nat := 170
abbrev kX6_holdsTrue : Nat := 171
abbrev kX6_untrueMany : Nat := 172
abbrev kX6_keeps : Nat := 173
abbrev kX6_loses : Nat := 174
abbrev kX6_mayLie : Nat := 175
abbrev kX6_isOnly : Nat := 176
abbrev kX6_counts : Nat := 177
abbrev kX6_fixes : Nat := 178
abbrev kX6_bars : Nat := 179
abbrev kX6_usesClue : Nat := 180
abbrev kX6_usesKind : Nat := 181
abbrev kX6_usesPlayer : Nat := 182
abbrev kX6_breaksDown : Nat := 183
abbrev kX6_rules : Nat := 184
abbrev kX6_crossedMany : Nat := 185
abbrev kX6_only : Nat := 186
abbrev kX6_adds : Nat := 187
abbrev kX6_drops : Nat := 188
abbrev kX6_asks : Nat := 189
abbrev kX6_looksAt : Nat := 190
abbrev kX6_accuses : Nat := 191
abbrev kX6_changes : Nat := 192
abbrev kX6_exchange : Nat := 193
abbrev kX6_notes : Nat := 194
abbrev kX6_noteHas : Nat := 195
abbrev kX6_noteLacks : Nat := 196
abbrev kX6_noteShows : Nat := 197
abbrev kX6_dropClue : Nat := 198
abbrev kX6_dropAll : Nat := 199
abbrev kX6_barsQuestion : Nat := 200
abbrev kX6_ask : Nat := 201
abbrev kX6_look : Nat := 202
abbrev kX6_accuse : Nat := 203
abbrev kX6_append : Nat := 204
abbrev kX6_clearBuffer : Nat := 205
abbrev kX6_sign : Nat := 206
abbrev kX6_takes : Nat := 207
abbrev kX6_number : Nat := 208
abbrev kX6_readsPart : Nat := 209
abbrev kX6_readsWorks : Nat := 210
abbrev kX6_firstError : Nat := 211
abbrev kX6_does : Nat := 212
abbrev kX6_work : Nat := 213
abbrev kX6_hasStopped : Nat := 214
abbrev kX6_stoppedPart : Nat := 215
abbrev kX6_whyStopped : Nat := 216
abbrev kX6_undo : Nat := 217
abbrev kX6_keep : Nat := 218
abbrev kX6_restore : Nat := 219
abbrev kX6_savedStates : Nat := 220
abbrev kX6_truePlace : Nat := 221
abbrev kX6_trueEnvelope : Nat := 222
abbrev kX6_clues : Nat := 223
abbrev kX6_tells : Nat := 224
abbrev kX6_kindOf : Nat := 225
abbrev kX6_playerOf : Nat := 226
abbrev kX6_cardsOf : Nat := 227
abbrev kX6_isTrue : Nat := 228
abbrev kX6_untrueClues : Nat := 229
abbrev kX6_deals : Nat := 230
abbrev kX6_dealsByHands : Nat := 231
abbrev kX6_tellsWith : Nat := 232
abbrev kX6_dealsWith : Nat := 233
abbrev kX6_mayBe : Nat := 234
abbrev kX6_certainPlace : Nat := 235
abbrev kX6_certainCards : Nat := 236
abbrev kX6_isBroken : Nat := 237
abbrev kX6_mayBeByRules : Nat := 238
abbrev kX6_placeByRules : Nat := 239
abbrev kX6_crossedOff : Nat := 240
abbrev kX6_hidden : Nat := 241
abbrev kX6_hiddenCrosses : Nat := 242
abbrev kX6_envelopeDeals : Nat := 243
abbrev kX6_envelopes : Nat := 244
abbrev kX6_bestAccusation : Nat := 245
abbrev kX6_isSolved : Nat := 246
abbrev kX6_barsAsked : Nat := 247
abbrev kX6_dealsIfPassed : Nat := 248
abbrev kX6_leftBy : Nat := 249
abbrev kX6_bestQuestion : Nat := 250
abbrev kX6_dealsWithout : Nat := 251
abbrev kX6_idleClues : Nat := 252
abbrev kX6_chanceNow : Nat := 253
abbrev kX6_chance : Nat := 254
abbrev kX6_digestAll : Nat := 255
abbrev kX6_digestClues : Nat := 256
abbrev kX6_digestCards : Nat := 257
abbrev kX6_digest : Nat := 258
abbrev kJxe99ae_isNaN_b9ae7 : Nat := 259
abbrev kJ6_bitCount_0f7a4 : Nat := 260
/-! the check -/
def wd (p : Nat) (w : Cond) : Bool := decide (lw_tbl[p]? = some w) && goodWord w
def psn (ps : List Nat) (j : Nat) : Nat := ps.getD j 0
def tgs (q : Nat) (a : List Int) : Bool := a.all (fun o => decide (0 ≤ (q : Int) + o))
def chF (k index a : Nat) (ps : List Nat) (wr : Bool) : Bool :=
  match vwCl[a / 32]? with
  | none => false
  | some (C, T, N) => decide (a % 32 < N) && decide ((T (a % 32)).1 = C) && wd (psn ps 0) (.fieldLink (mY k).cls index C (T (a % 32)).2.1 (T (a % 32)).2.2.1) && (!wr || !(T (a % 32)).2.2.2)
def chN (k index a : Nat) (ps : List Nat) : Bool :=
  if a < 1000 then decide (a < nM) && wd (psn ps 0) (.methodLink (mY k).cls index (mY a)) else decide (a - 1000 < nM) && decide (Cond.methodLinkNest (mY k).cls index (mY (a - 1000)) "AlibiDeals" ∈ nwords)
def chV (k index a : Nat) (ps : List Nat) : Bool :=
  decide (a < nM) && wd (psn ps 0) (.methodLink (mY k).cls index (mY a)) && wd (psn ps 1) (.instanceMethod (mY a)) && wd (psn ps 2) (.selects (mY a).cls (mY a) (mY a)) && wd (psn ps 3) (.initialized (mY a).cls)
    && decide ((vwCl[mC a]?).map (fun r => r.1) = some (mY a).cls)
def chS (k index a : Nat) (ps : List Nat) : Bool :=
  if a = 1999 then wd (psn ps 0) (.methodLink (mY k).cls index ⟨"java/lang/Double", "doubleToLongBits", "(D)J"⟩) && wd (psn ps 1) (.static ⟨"java/lang/Double", "doubleToLongBits", "(D)J"⟩) && wd (psn ps 2) (.initialized "java/lang/Double")
  else if a = 1998 then wd (psn ps 0) (.methodLink (mY k).cls index ⟨"java/lang/Math", "max", "(II)I"⟩) && wd (psn ps 1) (.static ⟨"java/lang/Math", "max", "(II)I"⟩) && wd (psn ps 2) (.initialized "java/lang/Math")
  else chN k index a ps && wd (psn ps 1) (.static (mY (a % 1000))) && wd (psn ps 2) (.initialized (mY (a % 1000)).cls)
def cst : Int → Int32
  | .ofNat n => nI n
  | .negSucc n => - nI (n + 1)
def ilen : Instr → Nat
  | .bipush _ => 2 | .iload _ => 2 | .istore _ => 2 | .lload _ => 2 | .lstore _ => 2 | .aload _ => 2 | .astore _ => 2 | .dload _ => 2 | .dstore _ => 2 | .ldc _ => 2
  | .sipush _ => 3 | .iinc _ _ => 3 | .ifCond _ _ => 3 | .if_icmp _ _ => 3 | .goto _ => 3 | .ifnull _ => 3 | .ifnonnull _ => 3 | .getfield _ => 3 | .putfield _ => 3 | .invokevirtual _ => 3
  | .invokestatic _ => 3 | .invokespecial _ => 3 | .new _ => 3 | .ldc_w _ => 3 | .ldc2_w _ => 3
  | .tableswitch .. => 0 | .lookupswitch .. => 0 | _ => 1
def chI (k q : Nat) (i : Instr) (a : Nat) (ps : List Nat) : Bool :=
  match i with
  | .getfield index => chF k index a ps false
  | .iconst n => decide (Int32.ofInt n = cst n)
  | .bipush n => decide ((Int8.ofInt n).toInt32 = cst n)
  | .sipush n => decide ((Int16.ofInt n).toInt32 = cst n)
  | .putfield index => chF k index a ps true
  | .invokevirtual index => chV k index a ps
  | .invokestatic index => chS k index a ps
  | .ifCond _ off => decide ((q : Int) + off = ((a / 1024 : Nat) : Int))
  | .if_icmp _ off => decide ((q : Int) + off = ((a / 1024 : Nat) : Int))
  | .goto off => decide ((q : Int) + off = ((a / 1024 : Nat) : Int))
  | .ifnull off => decide ((q : Int) + off = ((a / 1024 : Nat) : Int))
  | .ifnonnull off => decide ((q : Int) + off = ((a / 1024 : Nat) : Int))
  | .tableswitch dflt lo hi offs => decide (0 ≤ (q : Int) + dflt) && tgs q offs.toList && decide (offs.toList.length = (hi - lo + 1).toNat) && decide (-2147483648 ≤ lo ∧ hi ≤ 2147483647 ∧ lo ≤ hi)
  | .lookupswitch dflt prs => decide (0 ≤ (q : Int) + dflt) && tgs q (prs.toList.map (fun x => x.2)) && (prs.toList.zip (prs.toList.drop 1)).all (fun (a, next) => a.1 < next.1) && prs.toList.all (fun x => decide (-2147483648 ≤ x.1 ∧ x.1 ≤ 2147483647))
  | .ldc_w index => decide (a = 0) || wd (psn ps 0) (.constant (mY k).cls index (Int32.ofNat a))
  | .ldc2_w index => if a % 2 = 0 then wd (psn ps 0) (.constantLong (mY k).cls index (Int64.ofNat (a / 2))) else wd (psn ps 0) (.constantDouble (mY k).cls index (UInt64.ofNat (a / 2)))
  | .iload_n n => decide (n.val < mL k)
  | .lload_n n => decide (n.val < mL k)
  | .dload_n n => decide (n.val < mL k)
  | .aload_n n => decide (n.val < mL k)
  | .istore_n n => decide (n.val < mL k)
  | .astore_n n => decide (n.val < mL k)
  | .lstore_n n => decide (n.val + 1 < mL k)
  | .dstore_n n => decide (n.val + 1 < mL k)
  | .istore n => decide (n < mL k)
  | .astore n => decide (n < mL k)
  | .lstore n => decide (n + 1 < mL k)
  | .dstore n => decide (n + 1 < mL k)
  | .iinc n z => decide (n < mL k) && decide (Int32.ofInt z = cst z)
  | .nop => false
  | _ => true
def chE (k : Nat) : List En → List (List Nat) → Nat → Bool
  | [], _, _ => true
  | (pc, i, len, a) :: r, pss, q =>
    if pc = q + 100000 then decide (i = .nop) && chE k r pss q
    else decide (pc = q) && decide (decode (mB k) q = .ok (i, len)) && (ilen i == 0 || ilen i == len) && chI k q i a (pss.headD []) && chE k r pss.tail (q + len)
def chM (k : Nat) (cp ip : Nat) (pss : List (List Nat)) : Bool :=
  decide (lw_tbl[cp]? = some (Cond.code (mY k) (mB k) (mL k) (mR k))) && plainName (mY k).cls && decide ((mY k).cls ≠ "java/lang/invoke/MethodHandle") && decide ((mY k).cls ≠ "java/lang/invoke/VarHandle")
    && decide ((parseMethodDescriptor (mY k).desc).map (fun d => d.parameters.length) = some (mN k)) && decide ((parseMethodDescriptor (mY k).desc).map (fun d => d.returnType) = some (mR k)) && decide (mL k ≤ 30) && chE k (mP k) pss 0
def psX0_count : List (List Nat) := [[], [], [191], [], [195], [393, 394, 100], [], [196], [393, 394, 100], [], [197], [393, 394, 100], [], [198], [393, 394, 100], [], [199], [393, 394, 100], [], [], [], [], [396, 397, 100], [], [], [193], []]
def psX0_clear : List (List Nat) := [[], [], [], [], [], [], [], [], [], [], [], [], []]
def psX0_dealFrom : List (List Nat) := [[], [], [], [], [], [], [], [], [399, 401, 8, 100], [], [], [], [], [], [], [], [], [], [408, 410, 10, 100], [], [], [199], [], [], [], [], [], [], [], [], [], [], [], [], [], [], [], [], [], [], [], [], [], [], [], [], [], [], [], [396, 397, 100], [], [199], [], [], [], [], [], [], [], [], [], [], [], [], []]
def psX0_hasRoom : List (List Nat) := [[], [199], [], [], [], [], [], [412, 413, 97], [], [], [], [], [], [], [], [], [], [], [], [], [], [], [], [], [], [], [], [], [], [], [], [], [], [], [], [], [], [], [199], [], [], [415, 416, 108], [], [], [], [], [], []]
def psX0_judge : List (List Nat) := [[], [], [], [], [], [], [], [], [140], [], [], [], [], [], [], [], [199], [403, 378, 379, 98], [], [], [], [], [], [], [], [], [], [], [404, 406, 9, 100], [], [], [], [], [], [], [], [], [198], [], [], [], [], [], [], []]
def psX0_include : List (List Nat) := [[], [], [191], [], [], [191], [], [], [], [], [], [], [], [], [], [], [], [195], [], [], [], [], [], [], [], [], [199], [], [], [], [], [], [], [], [], [], [], [], [], [], [], [], [], [], [], [196], [], [], [], [], [], [], [], [], [], [], [], [], [197], [], [], [], [], [199], [], [], [], [], [], [], [], [], [], [], [], [], []]
def psX0_withCardAt : List (List Nat) := [[], [], [], [], [], [], [], [], [], [], [], [], [], [], [], [], [], [195], [], [], [], [], [], [], [], [], []]
def psX0_surePlace : List (List Nat) := [[], [], [], [], [], [], [191], [], [], [], [], [459, 460, 461, 100], [], [191], [], [], [], [], [], [], []]
def psX0_sureCards : List (List Nat) := [[], [], [], [], [], [], [], [], [], [], [455, 456, 457, 100], [], [], [], [], [], [], [], [], [], []]
def psX0_placesLeft : List (List Nat) := [[], [], [], [], [], [], [195], [], [], [], [], [195], [], [], [], [], [], [], [], [], [], [], [], []]
def psX0_withEnvelope : List (List Nat) := [[], [], [], [], [], [], [196], [], [], [], [], []]
def psX0_envelopesLeft : List (List Nat) := [[], [], [], [], [], [], [], [], [], [196], [], [], [], [], [], [], [], [], [], [], [], []]
def psX0_likeliestEnvelope : List (List Nat) := [[], [], [], [], [], [], [], [], [], [586, 587, 588, 100], [], [], [586, 587, 588, 100], [], [], [], [], [], [], [], [], []]
def psX0_shareOfLikeliest : List (List Nat) := [[], [191], [], [], [], [], [], [582, 583, 584, 100], [586, 587, 588, 100], [], [], [191], [], [], []]
def psX0_withNone : List (List Nat) := [[], [], [], [], [], [], [], [], [626, 434, 97], [], [], [], [], [], [], [], [], [], [], [], [], [], [], [], [], [], [], [], [], [], [], [], [], [], [], [], [], [], [197], [], [], [], [], [], [], [], [], [], [], [], [], [], [], [], []]
def psX0_behindQuestion : List (List Nat) := [[], [], [], [622, 623, 624, 100], [], [], [], [191], [], [], [627, 628, 111], []]
def psX0_sharpestQuestion : List (List Nat) := [[], [], [], [], [], [618, 619, 620, 100], [], [], [], [], [], [], [], [], [], [618, 619, 620, 100], [], [], [], [], [], [], [], [], [], [], [], []]
def psX0_withoutClue : List (List Nat) := [[], [], [], [], [], [], [191], [], [198], [], [], [], [], [], [191], []]
def psX0_idleAmong : List (List Nat) := [[], [], [], [], [], [], [], [], [], [], [570, 571, 572, 100], [], [191], [], [], [], [], [], [], [], [], [], []]
def psX1_count : List (List Nat) := [[], [], [221], [], [], [], [], [], [], [225], [], [], [433, 434, 97], [], [], [], [221], [], [], [], [225], [], [], [], [], [], [], [], [439, 440, 101], [], [221], [], [], [], [], [223], []]
def psX1_countHands : List (List Nat) := [[], [], [], [], [], [], [], [], [], [], [], [225], [], [], [], [], [], [225], [442, 443, 444, 98], [], [], [], [], [], [], [], [], [], [], [], [], [], [], [], [], [], [], [], [], [], [], [], [], [], [], [], [], [], [], [], [], [], [225], [], [], [], [], [], [], [], [], [], [], [], [], [], [], [439, 440, 101], [], [], [], [], [], [], [], []]
def psX2_fill : List (List Nat) := [[], [], [475, 477, 13, 102], [], [], [], [], [], [], [], [], [], [], [], [], [], [], [], [], [], [], [479, 481, 14, 102], [], [512, 514, 22, 102], [], [517, 519, 23, 102], [], [521, 522, 523, 102], [], [], [], [], [], [525, 527, 24, 102], [], [], [], [533, 535, 26, 102], [], [], [], [], [239], [], [239], [], [], [], [475, 477, 13, 102], [], [], [241], []]
def psX2_setAll : List (List Nat) := [[], [], [], [], [], [], [243], [], [], [], [], [], []]
def psX2_placesLeft : List (List Nat) := [[], [], [], [], [], [], [], [], [], [243], [], [], [503, 416, 108], [], [], [], [], [], []]
def psX2_has : List (List Nat) := [[], [], [], [], [], [], [243], [], [], [], [], [], [], [], [], [], [], []]
def psX2_onlyPlace : List (List Nat) := [[], [], [], [], [], [], [], [], [], [], [], [243], [], [], [], [], [], [], [], [], [], [], [], []]
def psX2_applyClues : List (List Nat) := [[], [], [], [], [141], [], [], [], [], [], [], [130], [], [], [], [133], [], [], [], [136], [], [], [483, 485, 15, 102], [], [], []]
def psX2_applyClue : List (List Nat) := [[], [], [], [], [], [487, 489, 16, 102], [], [], [], [], [491, 493, 17, 102], [], [], [], [], [], [495, 497, 18, 102], [], [], [], [], [], [504, 506, 20, 102], []]
def psX2_applyKinds : List (List Nat) := [[], [], [], [], [], [], [], [], [516, 413, 97], [], [504, 506, 20, 102], [], [], [], [516, 413, 97], [], [495, 497, 18, 102], [], [], []]
def psX2_applyPlayers : List (List Nat) := [[], [], [], [], [], [], [], [], [], [504, 506, 20, 102], [], [], [], [], [495, 497, 18, 102], [], [], []]
def psX2_crossIfSure : List (List Nat) := [[], [], [], [508, 510, 21, 102], [], [], [503, 416, 108], [], [], [], [], [], [], [], [], [], [491, 493, 17, 102], []]
def psX2_keepIfJust : List (List Nat) := [[], [], [], [499, 501, 19, 102], [], [], [503, 416, 108], [], [], [], [], [], [487, 489, 16, 102], []]
def psX2_keepOnly : List (List Nat) := [[], [], [], [], [], [], [], [], [], [], [], [], [243], [], [], [], [], [], [], [], [], [], [], []]
def psX2_crossOff : List (List Nat) := [[], [], [], [], [], [], [], [], [], [], [], [], [243], [], [], [], [], [], [], [], [], [], [], [], [], []]
def psX2_withPlace : List (List Nat) := [[], [], [], [], [], [], [], [], [], [], [], [], [], [], [243], [], [], [], [], [], [], [], [], [], [], [], [], [], [], [], [], []]
def psX2_withOnly : List (List Nat) := [[], [], [], [], [], [], [], [], [], [], [], [], [], [], [243], [], [], [], [], [], [], [], [], [], [], [], [], [], [], [], []]
def psX2_breaksDown : List (List Nat) := [[], [], [], [], [], [], [], [], [], [], [243], [], [], [], [], [], [], [], [], [], [], [], [], [], [], [], [], [], [], [], [516, 413, 97], [], [529, 531, 25, 102], [], [], [], [], [], [], [], [], [], [], [], [], [], [], [], [], [], [], [529, 531, 25, 102], [], [], [], [], [], [], [], [], []]
def psX2_fits : List (List Nat) := [[], [], [], [499, 501, 19, 102], [503, 416, 108], [], [], [], [], [], [508, 510, 21, 102], [503, 416, 108], [], [], [], [], [], []]
def psX2_breaksClue : List (List Nat) := [[], [], [], [], [], [], [141], [], [], [], [], [], [136], [], [], [], [], [133], [], [], [], [], [], [], [130], [], [], [], [], [], [], [], [499, 501, 19, 102], [], [], [130], [], [], [], [], [], [], [], [508, 510, 21, 102], [], [], [], [], [], [], [], [], [], []]
def psX3_dealAtFirst : List (List Nat) := [[], [127], [], [], [], [], [127], [], [], [], [], [127], [], [], [], [], [127], [], [], [], []]
def psX3_copyFrom : List (List Nat) := [[], [], [], [], [], [], [], [], [], [127], [], [], [127], [], [], [], [], [], [], [], [], [], [], [], [129], [], [], [129], [], [], [], [], [132], [], [], [132], [], [], [], [], [135], [], [], [135], [], [], [], [], [], [], [], [139], [139], [], [], [142], [142], [], [], [144], [144], []]
def psX3_add : List (List Nat) := [[], [139], [], [], [139], [], [], [], [129], [], [139], [], [], [], [132], [], [139], [], [], [], [135], [], [139], [], [], [], [], [139], [], [], [139], []]
def psX3_remove : List (List Nat) := [[], [], [], [], [139], [], [], [], [], [], [], [], [], [139], [], [], [], [], [], [129], [], [], [], [], [129], [], [], [], [], [132], [], [], [], [], [132], [], [], [], [], [135], [], [], [], [], [135], [], [], [], [], [], [], [], [139], [], [], [139], []]
def psX3_addAnswer : List (List Nat) := [[], [], [], [877, 879, 36, 98], [], [], [], [], [], [], [], [], [], [], [], [], [], [881, 832, 833, 98], [], []]
def psX3_addSight : List (List Nat) := [[], [], [], [877, 879, 36, 98], [], [], [], [], [], [], [], [], [], [], [], [], [], [], [], [], [], [], [881, 832, 833, 98], [], [], [], [], [], [], [], [], [881, 832, 833, 98], [], []]
def psX3_addVerdict : List (List Nat) := [[], [127], [], [], [], [], [], [], [], [], [], [], [], [], [], [], [], [], [881, 832, 833, 98], [], []]
def psX3_handOf : List (List Nat) := [[], [], [], [], [], [], [127], [], [], [], [], [], [], []]
def psX3_placeOf : List (List Nat) := [[], [], [], [], [], [], [127], [], [], [], [], [], [], [], [], [], [], [], [], []]
def psX3_agrees : List (List Nat) := [[], [], [], [], [], [], [132], [], [], [], [], [132], [], [], [], [], [], [], [], [], [], [132], [], [], [], [], [135], [], [], [], [], [], [129], [], [], [], [], [], [], [], [], [], [], [], [], [], [], [], [], [], [135], [], [], [], [], [], [], [], [], [], [135], [], [], [], [], [], [], []]
def psX3_agreesWithAll : List (List Nat) := [[], [], [], [], [139], [], [], [], [], [446, 378, 379, 98], [], [], [], [], [], [], []]
def psX4_begin : List (List Nat) := [[], [], [175], []]
def psX4_mayEnd : List (List Nat) := [[], [175], [], [], [], [], [], []]
def psX4_take : List (List Nat) := [[], [175], [], [], [], [325, 327, 3, 99], [], [], [], [335, 337, 4, 99], [], [], [], [175], [], [], [], [], [], [], [], [], [], [339, 341, 5, 99], [], [], [], [346, 348, 6, 99], []]
def psX4_takeLetter : List (List Nat) := [[], [], [169], [], [], [329, 330, 99], [], [], [], [], [175], [], [332, 333, 99], [], [], [], [], []]
def psX4_takePlayer : List (List Nat) := [[], [], [], [], [171], [], [], [175], [], [171], [], [], [171], [], [], [], [], [], []]
def psX4_takeFirstDigit : List (List Nat) := [[], [], [], [], [173], [], [], [175], [], [343, 344, 99], [], [], [173], [], [169], [332, 333, 99], [], [], [], [], []]
def psX4_takeMore : List (List Nat) := [[], [], [], [], [], [175], [], [], [], [343, 344, 99], [], [], [173], [], [], [], [], [], [], [173], [], [], [], [], [], [173], [], [173], [], [169], [332, 333, 99], [], [], [], [], []]
def psX4_isDigit : List (List Nat) := [[], [], [], [], [], [], [], [], [], []]
def psX4_namesPlayer : List (List Nat) := [[], [], [], [], [], [], [], [], [], [], [], [], [], [], [], [], [], [], [], [], [], []]
def psX4_limitOf : List (List Nat) := [[], [], [], [], [], [], [], [], [], []]
def psX5_exchange : List (List Nat) := [[], [731, 732, 97], [], [731, 732, 97], [], [255], [128], [], [], [], [], [806, 807, 97], [809, 810, 97], [], [], [], [], [], [], [], [293, 295, 0, 97], [], [], [], [], [], [], [255], [128], [], [], [255], [128], [], [], [], [], [806, 807, 97], [], [], [], [], [255], [128], [], [], [366, 367, 97], []]
def psX5_noteHas : List (List Nat) := [[], [822, 823, 97], [], [731, 732, 97], [], [826, 828, 35, 97], [], [293, 295, 0, 97], [], [255], [], [], [], [], [], [831, 832, 833, 98], [], [255], [138], []]
def psX5_noteLacks : List (List Nat) := [[], [822, 823, 97], [], [731, 732, 97], [], [826, 828, 35, 97], [], [293, 295, 0, 97], [], [255], [], [], [], [], [], [831, 832, 833, 98], [], [255], [138], []]
def psX5_noteShows : List (List Nat) := [[], [822, 823, 97], [], [], [], [849, 850, 97], [], [826, 828, 35, 97], [], [293, 295, 0, 97], [], [255], [], [], [], [], [], [436, 437, 97], [831, 832, 833, 98], [], [255], [138], []]
def psX5_dropClue : List (List Nat) := [[], [], [638, 640, 29, 97], [], [293, 295, 0, 97], [], [255], [], [862, 863, 864, 98], [], [255], [138], []]
def psX5_dropAll : List (List Nat) := [[], [293, 295, 0, 97], [], [255], [138], [], [], [255], [], [138], [], []]
def psX5_ask : List (List Nat) := [[], [822, 823, 97], [], [], [], [849, 850, 97], [], [826, 828, 35, 97], [], [293, 295, 0, 97], [], [255], [], [], [], [], [436, 437, 97], [873, 874, 875, 98], []]
def psX5_look : List (List Nat) := [[], [822, 823, 97], [], [], [], [849, 850, 97], [], [826, 828, 35, 97], [], [293, 295, 0, 97], [], [255], [], [], [], [], [436, 437, 97], [889, 890, 891, 98], []]
def psX5_accuse : List (List Nat) := [[], [], [], [849, 850, 97], [], [826, 828, 35, 97], [], [293, 295, 0, 97], [], [255], [], [], [], [436, 437, 97], [900, 901, 902, 98], []]
def psX5_append : List (List Nat) := [[], [], [], [], [], [], [], [], [], [], [], [], [265], [], [], [265], [], [], [], [], [], [], [], [], [258], [], [265], [], [], [], [], [265], [], [], [265], [], [265], []]
def psX5_clearBuffer : List (List Nat) := [[], [265], [], [], [], [265], [], []]
def psX5_firstError : List (List Nat) := [[], [259], [317, 318, 319, 99], [], [], [], [], [265], [], [], [], [], [], [259], [], [258], [], [], [321, 322, 323, 99], [], [], [], [], [], [], [265], []]
def psX5_work : List (List Nat) := [[], [936, 314, 315, 97], [], [265], [], [], [259], [937, 938, 939, 99], [], [], [], [], [], [], [], [293, 295, 0, 97], [], [], [], [], [], [259], [317, 318, 319, 99], [], [], [], [], [265], [], [], [], [], [], [265], [], [], [], [], [], [258], [], [], [], [], [], [], [], [], [], [], [259], [170], [], [259], [172], [], [259], [174], [942, 944, 37, 97], [], [], [], [], [], [], [], [], [], [], [259], [], [321, 322, 323, 99], [], [], [], [], [255], [], [145], [], [255], [], [], [], [], [], [143], [], [], [265], [], []]
def psX5_hasStopped : List (List Nat) := [[], [255], [145], [], [], [], [], []]
def psX5_stoppedPart : List (List Nat) := [[], [763, 765, 33, 97], [], [255], [143], []]
def psX5_whyStopped : List (List Nat) := [[], [763, 765, 33, 97], [], [255], [145], []]
def psX5_undo : List (List Nat) := [[], [263], [], [], [263], [], [], [], [], [], [], [], [], [], [263], [], [], [263], [], [255], [], [257], [], [263], [], [301, 302, 303, 98], [], [305, 307, 2, 97], [], [263], []]
def psX5_keep : List (List Nat) := [[], [256], [], [255], [301, 302, 303, 98], [], [], [264], [], [255], [138], []]
def psX5_restore : List (List Nat) := [[], [264], [], [], [], [], [], [], [], [293, 295, 0, 97], [], [255], [], [256], [301, 302, 303, 98], [], [255], [138], []]
def psX5_savedStates : List (List Nat) := [[], [263], []]
def psX5_truePlace : List (List Nat) := [[], [731, 732, 97], [], [255], [], [735, 736, 737, 98], []]
def psX5_trueEnvelope : List (List Nat) := [[], [255], [128], [], [], [366, 367, 97], []]
def psX5_clues : List (List Nat) := [[], [255], [138], []]
def psX5_kindOf : List (List Nat) := [[], [], [638, 640, 29, 97], [], [255], [131], [], [], []]
def psX5_playerOf : List (List Nat) := [[], [], [638, 640, 29, 97], [], [255], [134], [], [], [], [], [], [], [], [255], [134], [], [], []]
def psX5_cardsOf : List (List Nat) := [[], [], [638, 640, 29, 97], [], [255], [137], [], [], []]
def psX5_isTrue : List (List Nat) := [[], [], [638, 640, 29, 97], [], [255], [], [], [255], [128], [377, 378, 379, 98], []]
def psX5_untrueClues : List (List Nat) := [[], [], [], [], [], [], [255], [138], [], [], [], [255], [], [], [255], [128], [377, 378, 379, 98], [], [], [], [], [], [], [], [], [], []]
def psX5_deals : List (List Nat) := [[], [385, 387, 7, 97], [192], []]
def psX5_dealsByHands : List (List Nat) := [[], [425, 427, 11, 97], [222], []]
def psX5_dealsWith : List (List Nat) := [[], [731, 732, 97], [], [1002, 1003, 97], [], [385, 387, 7, 97], [], [], [744, 460, 461, 100], []]
def psX5_mayBe : List (List Nat) := [[], [731, 732, 97], [], [1002, 1003, 97], [], [385, 387, 7, 97], [], [], [744, 460, 461, 100], [], [], [], [], []]
def psX5_certainPlace : List (List Nat) := [[], [731, 732, 97], [], [385, 387, 7, 97], [], [739, 456, 457, 100], []]
def psX5_certainCards : List (List Nat) := [[], [385, 387, 7, 97], [451, 452, 453, 100], []]
def psX5_isBroken : List (List Nat) := [[], [467, 469, 12, 97], [240], []]
def psX5_mayBeByRules : List (List Nat) := [[], [731, 732, 97], [], [1002, 1003, 97], [], [467, 469, 12, 97], [], [], [745, 746, 747, 102], []]
def psX5_placeByRules : List (List Nat) := [[], [731, 732, 97], [], [467, 469, 12, 97], [], [740, 741, 742, 102], []]
def psX5_crossedOff : List (List Nat) := [[], [], [467, 469, 12, 97], [541, 522, 523, 102], [], []]
def psX5_hiddenCrosses : List (List Nat) := [[], [467, 469, 12, 97], [541, 522, 523, 102], [], [385, 387, 7, 97], [546, 547, 548, 100], [], []]
def psX5_envelopeDeals : List (List Nat) := [[], [1041, 1042, 97], [], [385, 387, 7, 97], [], [752, 587, 588, 100], []]
def psX5_envelopes : List (List Nat) := [[], [385, 387, 7, 97], [554, 555, 556, 100], []]
def psX5_bestAccusation : List (List Nat) := [[], [385, 387, 7, 97], [], [], [192], [1052, 1053, 97], [], [613, 583, 584, 100], []]
def psX5_isSolved : List (List Nat) := [[], [385, 387, 7, 97], [554, 555, 556, 100], [], [], [], [], [], []]
def psX5_dealsIfPassed : List (List Nat) := [[], [822, 823, 97], [], [1041, 1042, 97], [], [385, 387, 7, 97], [], [], [1063, 623, 624, 100], []]
def psX5_leftBy : List (List Nat) := [[], [822, 823, 97], [], [1041, 1042, 97], [], [385, 387, 7, 97], [], [], [753, 619, 620, 100], []]
def psX5_bestQuestion : List (List Nat) := [[], [822, 823, 97], [], [385, 387, 7, 97], [], [], [192], [1052, 1053, 97], [], [], [614, 615, 616, 100], []]
def psX5_dealsWithout : List (List Nat) := [[], [], [638, 640, 29, 97], [], [385, 387, 7, 97], [], [722, 571, 572, 100], []]
def psX5_idleClues : List (List Nat) := [[], [385, 387, 7, 97], [], [255], [138], [566, 567, 568, 100], []]
def psX5_chance : List (List Nat) := [[], [385, 387, 7, 97], [578, 579, 580, 100], []]
def psX5_digest : List (List Nat) := [[], [385, 387, 7, 97], [], [], [467, 469, 12, 97], [], [], [594], [], [], [595, 597, 27, 97], [], [], [], [610, 611, 97], [], [], [], [], [630, 632, 28, 97], [], [], [], [], [], [723, 725, 31, 97], [], [], [], [749, 750, 97], [], [], [], [754, 756, 32, 97], [], [], [], [578, 579, 580, 100], [787, 788, 97], [600, 601, 97], [], [], [], [793, 795, 34, 97], []]
def psX5_mix : List (List Nat) := [[603], [], [], [], [], []]
def psX5_mixFlag : List (List Nat) := [[], [], [], [], [], [], [600, 601, 97], []]
def psX5_mixCounts : List (List Nat) := [[], [], [599, 363, 364, 97], [], [600, 601, 97], [], [], [], [604, 370, 371, 97], [], [600, 601, 97], [], [], [], [605, 374, 375, 97], [], [600, 601, 97], [], [], [], [192], [], [600, 601, 97], [], [], [], [425, 427, 11, 97], [222], [], [600, 601, 97], [], [], [], [451, 452, 453, 100], [], [600, 601, 97], [], [], [], [240], [606, 607, 97], [], [], [], [], [541, 522, 523, 102], [], [], [600, 601, 97], [], [], [], [541, 522, 523, 102], [], [546, 547, 548, 100], [], [], [600, 601, 97], [], [], [], [554, 555, 556, 100], [], [600, 601, 97], [], [], [], [554, 555, 556, 100], [], [], [], [], [], [606, 607, 97], [], [], [], [], [255], [138], [566, 567, 568, 100], [], [600, 601, 97], [], [], [], [609, 359, 360, 97], [], [600, 601, 97], []]
def psX5_mixBest : List (List Nat) := [[], [192], [], [], [], [], [], [613, 583, 584, 100], [], [600, 601, 97], [], [], [], [], [], [], [], [], [], [614, 615, 616, 100], [], [600, 601, 97], [], [], [], [], []]
def psX5_mixClues : List (List Nat) := [[], [], [], [], [], [], [255], [138], [], [], [], [], [634, 635, 636, 97], [], [600, 601, 97], [], [], [], [], [710, 711, 712, 97], [], [600, 601, 97], [], [], [], [], [714, 715, 716, 97], [], [600, 601, 97], [], [], [], [], [718, 719, 720, 97], [606, 607, 97], [], [], [], [], [722, 571, 572, 100], [], [600, 601, 97], [], [], [], [], []]
def psX5_mixCards : List (List Nat) := [[], [], [], [], [], [], [], [], [], [], [727, 728, 729, 97], [], [600, 601, 97], [], [], [], [], [739, 456, 457, 100], [], [600, 601, 97], [], [], [], [], [740, 741, 742, 102], [], [600, 601, 97], [], [], [], [], [], [], [], [], [], [], [744, 460, 461, 100], [], [600, 601, 97], [], [], [], [], [], [745, 746, 747, 102], [606, 607, 97], [], [], [], [], [], [], []]
def psX5_mixTriples : List (List Nat) := [[], [], [], [], [], [], [], [], [], [], [752, 587, 588, 100], [], [600, 601, 97], [], [], [], [], [], [], [], [], [], [], [753, 619, 620, 100], [], [600, 601, 97], [], [], [], [], [], [], []]
def psX5_mixStop : List (List Nat) := [[], [], [758, 351, 352, 97], [606, 607, 97], [], [], [758, 351, 352, 97], [], [], [], [759, 760, 761, 97], [], [600, 601, 97], [], [], [], [783, 784, 785, 97], [], [600, 601, 97], [], [], []]
def psX5_mixBuffer : List (List Nat) := [[], [], [265], [], [600, 601, 97], [], [], [], [], [], [265], [], [], [], [], [], [], [258], [], [], [], [600, 601, 97], [], [], [], [], []]
def psX5_bitsOfShare : List (List Nat) := [[], [], [], [], [], [], [], [], [790], [], [], [], [], [], [], [], [], [], [], [], [791], [], [], [], [], [], [], [], [], [], [], [], [792], [], [], [], [], [], [], [], [], []]
def psX5_doPart : List (List Nat) := [[], [], [], [], [], [], [], [255], [138], [], [], [], [], [255], [], [862, 863, 864, 98], [], [], [], [255], [138], [], [], [], [], [], [], [], [], [946, 948, 38, 97], [], []]
def psX5_addPart : List (List Nat) := [[], [], [], [255], [], [], [], [], [], [831, 832, 833, 98], [], [], [255], [], [], [], [], [], [831, 832, 833, 98], [], [], [255], [], [], [], [950, 434, 97], [831, 832, 833, 98], [], [], [255], [], [], [], [950, 434, 97], [831, 832, 833, 98], [], [], [255], [], [], [], [950, 434, 97], [831, 832, 833, 98], [], [], [255], [], [], [], [950, 434, 97], [831, 832, 833, 98], [], [], [255], [], [], [950, 434, 97], [873, 874, 875, 98], [], [], [], [255], [], [], [950, 434, 97], [889, 890, 891, 98], [], [], [], [255], [], [950, 434, 97], [900, 901, 902, 98], [], []]
def psX5_remember : List (List Nat) := [[], [263], [], [], [], [297, 299, 1, 97], [], [263], [], [], [263], [], [], [], [257], [], [263], [], [], [], [], [], [], [255], [301, 302, 303, 98], [], [], [263], [], [], [263], [], [305, 307, 2, 97], []]
def psX5_dropOldest : List (List Nat) := [[], [257], [], [], [], [], [], [], [], [], [], [257], [], [], [], [], [257], [], [], [], [], [], [], [257], [], [], [], [], [], [263], []]
def psX5_forgetCounts : List (List Nat) := [[], [260], [], [194], [], [261], [], [224], [], [262], [], [242], []]
def psX5_countedDeals : List (List Nat) := [[], [260], [194], [], [], [260], [], [255], [389, 390, 391, 100], [], [260], []]
def psX5_filledSheet : List (List Nat) := [[], [262], [242], [], [], [262], [], [255], [471, 472, 473, 102], [], [262], []]
def psX5_countedHands : List (List Nat) := [[], [261], [224], [], [], [261], [], [255], [429, 430, 431, 101], [], [261], []]
def psX5_checkCard : List (List Nat) := [[], [], [], [], [], [], [], [], [], [], []]
def psX5_checkPlayer : List (List Nat) := [[], [], [], [], [], [], [], [], [], [], []]
def psX5_checkPlace : List (List Nat) := [[], [], [], [], [], [], [], [], [], [], []]
def psX5_checkTriple : List (List Nat) := [[], [], [], [], [], [], [], [], [], [], []]
def psX5_checkCards : List (List Nat) := [[], [], [], [], [], [], [], [], [], [], [], [], [], [], [], [], [], [], [], [], [], [], [], [], [], [], [], [], [], [], [], [], []]
def psX5_checkClue : List (List Nat) := [[], [], [], [], [255], [138], [], [], [], [], [], [], [], [], [], []]
def psX5_checkRoomForClue : List (List Nat) := [[], [255], [138], [], [], [], [], [], [], [], []]
def psX5_checkStopped : List (List Nat) := [[], [255], [145], [], [], [], [], [], [], []]
def psX5_checkSome : List (List Nat) := [[], [], [], [], [], [], [], []]
def psX5_mask : List (List Nat) := [[], [], [], [], [], [], [], [], [], [], [], []]
def psX5_cardsOfKind : List (List Nat) := [[], [], [], [], [], []]
def psX5_cardsOfTriple : List (List Nat) := [[], [], [], [], [], [], [], [], [], [], [], [], [], [], [], [436, 437, 97], []]
def psX5_numberOfTriple : List (List Nat) := [[], [], [], [], [], [], [], [], [], [], [], [], [], [], [], [], [], [], [], [], [], [], [], [], []]
def psX5_isTriple : List (List Nat) := [[], [], [], [], [], [], [], [], [], [], [], [812, 413, 97], [], [813, 416, 108], [], [], [], [], [], [], [], [], [], []]
def psX5_exchanged : List (List Nat) := [[], [], [], [], [], [], [], [], [], [], [], [], [], [], [], [], [], [], [], [], [], [], [], [], [], [], [], [], [], [], [], [], [], [], []]
def psX6_thrown : List (List Nat) := [[], [1091], []]
def psX6_fails : List (List Nat) := [[], [], [1091], [], []]
def psX6_in : List (List Nat) := [[], [], [], [], [], [], [], [], [], []]
def psX6_isCard : List (List Nat) := [[], [], [], [1160, 1161, 103], []]
def psX6_isPlayer : List (List Nat) := [[], [], [], [1160, 1161, 103], []]
def psX6_isTriple : List (List Nat) := [[], [], [], [1160, 1161, 103], []]
def psX6_areOf : List (List Nat) := [[], [], [], [1160, 1161, 103], [], [], [], [], [1160, 1161, 103], [], [], [], [], [1160, 1161, 103], [], [], [], [], []]
def psX6_isClue : List (List Nat) := [[], [], [], [1092], [], [], [], [], [1160, 1161, 103], []]
def psX6_of : List (List Nat) := [[], [1092], [], [], [], [], [], [], [], [], []]
def psX6_numbered : List (List Nat) := [[], [], [], [], [], [], [], [], [], [], [], [], [], []]
def psX6_maskOf : List (List Nat) := [[], [], [], [], [], [], [], [], [], [], [], [], [], [], [], [], [], [], [], [], [], [], [], []]
def psX6_records : List (List Nat) := [[], [1094], [], [], [], [], [], [], [], [], [1093], [], [], [1093], [], [], [], [], [], [], [], [], [], [1094], [], [], [1094], [], [], [], [], [], [], [1093], [], [], [1094], [], [], [], [], [1092], [], [], [], [], [], [], [], [1094], [], [], [1094], []]
def psX6_agrees : List (List Nat) := [[], [], [], [1347, 1349, 59, 103], [], [], [], [], [1347, 1349, 59, 103], [], [], [], [1103], [], [], [], [], [1103], [], [], [], [1347, 1349, 59, 103], [], [], [], [], [], [1347, 1349, 59, 103], [], [], [], [], [], [], [], [], [], [], [], [], [], [], [], [], [], [], [], [], [], [], [], [], [], [], [], [], [], [], []]
def psX6_agreesAll : List (List Nat) := [[], [], [], [], [], [], [1092], [], [], [], [], [], [], [], [], [], [], [1367, 1369, 61, 103], [], [], [], [], [], [], [], [], []]
def psX6_countsDeal : List (List Nat) := [[], [], [1104], [], [], [1104], [], [1106], [], [], [], [], [], [], [], [], [], [], [], [], [], [], [], [], [], [1105], [], [], [], [], [], [], [], [], [1103], [], [], [], [], [], [], [], [], [], [], [], [], [], [], [], [], [], [], [], [], [], [], [], [1107], [], [], [], [], [], [], [], [], [1103], [], [], [], [1183, 1184, 103], [], [], [], [], [], [], [], [], [], [], [], []]
def psX6_bits : List (List Nat) := [[], [], [], [], [], [], [], [], [], [], [], [], [], [], [], [], [], [], []]
def psX6_goes : List (List Nat) := [[], [], [], [], [], [], [], [], [1103], [], [], [1183, 1184, 103], [], [], [], [1103], [], [], [], [], [], [], [], [], [], [], [], [], [], [], [], [], [], [], [], [1387, 1388, 103], [], [], [], [1103], [], [], [], [], [1103], [], [], [], [], [1103], [], [], [], [], [], [], [], [], [], [], [], [], [1387, 1388, 103], [], [], [], [], [1390, 1392, 64, 103], [], [], [], [], [], [], [], [], [], [], [], [], [], [], [], [], [], [], [], [1394, 1396, 65, 103], [], [], [], [], [], [], [], [], [], [], [], [], [], [], [], [], [], [], [], [], [], []]
def psX6_surveys : List (List Nat) := [[], [], [1104], [], [], [], [], [], [], [1105], [], [], [], [], [], [], [], [], [], [], [], [1106], [], [], [], [], [], [], [], [], [], [], [], [1107], [], [], [], [], [], [], [], [], [1383, 1385, 63, 103], [], []]
def psX6_certain : List (List Nat) := [[], [], [], [], [], [], [], [], [1104], [], [], [1105], [], [], [], [], [], [], [], [1104], [], [], [], [], [], [], [], [], []]
def psX6_certainMany : List (List Nat) := [[], [], [], [], [], [], [], [], [], [], [1422, 1424, 68, 103], [], [], [], [], [], [], [], [], [], [], []]
def psX6_envelopeMany : List (List Nat) := [[], [], [], [], [], [], [], [], [], [1106], [], [], [], [], [], [], [], [], [], [], [], []]
def psX6_bestIn : List (List Nat) := [[], [], [], [], [], [], [], [], [1106], [], [], [], [1106], [], [], [], [], [], [], [], [], [], [], []]
def psX6_leaves : List (List Nat) := [[], [1107], [], [], [], [], [], [], [], [], [], [1104], [], [], [], [], [], [], [1104], [], [], []]
def psX6_bestFor : List (List Nat) := [[], [], [], [], [], [], [], [], [], [], [1557, 1559, 89, 103], [], [], [], [1557, 1559, 89, 103], [], [], [], [], [], [], [], [], []]
def psX6_idleMany : List (List Nat) := [[], [], [], [1383, 1385, 63, 103], [], [], [], [], [], [], [], [1092], [], [], [], [], [], [], [], [1383, 1385, 63, 103], [], [], [], [], [], [], [], [], [], [], []]
def psX6_mayMany : List (List Nat) := [[], [], [], [], [], [], [], [], [], [1105], [], [], [], [], [], [], [], [], [], [], [], []]
def psX6_looksAtMaster : List (List Nat) := [[], [], [], [], [], [], [1103], [], [], [], [], [], [], [], [], [], [], [], [1103], [], [1092], [], [], [], [], [], [], [], [], [], [], [], [], [], []]
def psX6_masterTriple : List (List Nat) := [[], [1179, 1181, 43, 103], [], [], [], [], [], [], [], [], [1183, 1184, 103], [], [1103], [], [], [], [], [], [], [], [], [], [], []]
def psX6_holdsTrue : List (List Nat) := [[], [1179, 1181, 43, 103], [], [], [1367, 1369, 61, 103], []]
def psX6_untrueMany : List (List Nat) := [[], [], [], [], [], [], [1092], [], [], [], [], [], [], [1363, 1365, 60, 103], [], [], [], [], [], [], [], [], [], []]
def psX6_keeps : List (List Nat) := [[], [1108], [], [], [], [], [1108], [], [], [], [], [], [], [1108], [], [], [], [], [], [], [], []]
def psX6_loses : List (List Nat) := [[], [], [], [], [], [], [], [], [], [1446, 1448, 72, 103], []]
def psX6_mayLie : List (List Nat) := [[], [1108], [], [], [], [], [], [], [], [], [], [], [], []]
def psX6_isOnly : List (List Nat) := [[], [1108], [], [], [], [], [], [], [], [], [], []]
def psX6_counts : List (List Nat) := [[], [], [], [], [], [], [], [], [], [], [], [], [1458, 1460, 75, 103], [], [], [], [], [1462, 1464, 76, 103], [], [], [], [], [], [], [], [], [], [], [], [], [], [], [], [], []]
def psX6_fixes : List (List Nat) := [[], [], [], [], [], [], [], [], [], [], [], [], [], [], [], [], [], [1462, 1464, 76, 103], [], [], [], [], [], [], [1446, 1448, 72, 103], [], [], [], [], [], [], [], [], [], [], []]
def psX6_bars : List (List Nat) := [[], [], [], [], [], [], [], [], [], [], [], [], [], [], [], [], [], [1458, 1460, 75, 103], [], [], [], [], [1450, 1452, 73, 103], [], [], [], [], [], [], [], [], [], [], []]
def psX6_usesClue : List (List Nat) := [[], [], [], [1347, 1349, 59, 103], [], [], [], [], [1347, 1349, 59, 103], [], [], [], [], [], [], [], [], [], [], [], [], [], [], [], [], [], [], [], [], [], [], [], [], [1347, 1349, 59, 103], [], [], [], [], [], [], [1446, 1448, 72, 103], [], [], [], [], [], [], [], [], [], [], [], [], [1347, 1349, 59, 103], [], [], [], [], [], [1347, 1349, 59, 103], [], [], [], [], [], [1450, 1452, 73, 103], [], [], [], [], [], [], [], [], [], [], [], [], [1347, 1349, 59, 103], [], [], [], [], [], [1446, 1448, 72, 103], [], [], [], [], [], [], [], [], [], [], [], [], [1347, 1349, 59, 103], [], [], [], [], [], [], [1454, 1456, 74, 103], [], [], [], [], [], [1466, 1468, 77, 103], [], [], [], [], [], [], [], [], [], [], [1347, 1349, 59, 103], [], [], [], [], [], [], [1454, 1456, 74, 103], [], [], [], [], [], [1470, 1472, 78, 103], [], [], [], [], [], [], [], [], []]
def psX6_usesKind : List (List Nat) := [[], [], [], [], [], [], [], [], [], [], [], [], [1454, 1456, 74, 103], [], [], [], [], [1470, 1472, 78, 103], [], [], [], [], [], [1454, 1456, 74, 103], [], [], [], [], [], [1466, 1468, 77, 103], [], [], [], [], [], [], [], [], []]
def psX6_usesPlayer : List (List Nat) := [[], [], [], [], [], [], [1454, 1456, 74, 103], [], [], [], [], [], [1470, 1472, 78, 103], [], [], [], [], [], [1454, 1456, 74, 103], [], [], [], [], [], [1466, 1468, 77, 103], [], [], [], [], [], [], [], [], []]
def psX6_breaksDown : List (List Nat) := [[], [], [], [], [], [], [], [], [], [], [1108], [], [], [], [], [], [], [], [], [], [], [], [], [], [], [], [], [], [], [], [], [], [], [], [], [1454, 1456, 74, 103], [], [], [], [], [], [], [], [], [], [1454, 1456, 74, 103], [], [], [], [], [], [], [], [], [], [], [], [], [], [], [], [], [], [], [], [1454, 1456, 74, 103], [], [], [], [], [], [], [1454, 1456, 74, 103], [], [], [], [], [], [], [], [], [], [], [], [], [1092], [], [], [], [], [], [], [], [], [1347, 1349, 59, 103], [], [], [], [], [], [], [1347, 1349, 59, 103], [], [], [], [1347, 1349, 59, 103], [], [1454, 1456, 74, 103], [], [], [], [], [], [], [], [], [], [], [1347, 1349, 59, 103], [], [], [], [], [], [], [1347, 1349, 59, 103], [], [], [1454, 1456, 74, 103], [], [], [], [], [], [], [], [], [], []]
def psX6_rules : List (List Nat) := [[], [], [], [], [], [], [], [], [1108], [], [], [], [], [], [], [], [], [], [], [], [], [], [1092], [], [], [], [], [], [1442, 1444, 71, 103], [], [], [], [], [], [], [], [], [], [], [], [], [], [], [], [], [1474, 1476, 79, 103], [], [], [], [], [], [], [], [], [], [1478, 1480, 80, 103], [], [], [], [], [], [], [], [], [], [], [], [], [1482, 1484, 81, 103], [1109], [], [], [], [], [], [], [1109], [], [], [1108], [], [], [], [], [], []]
def psX6_crossedMany : List (List Nat) := [[], [1438, 1440, 70, 103], [], [], [], [], [], [], [], [], [], [], [], [], [], [], [1108], [], [], [], [], [], [], [], [], [], [], [], [], [], []]
def psX6_only : List (List Nat) := [[], [], [], [], [], [], [], [], [], [], [1458, 1460, 75, 103], [], [], [], [], [], [], [], [], []]
def psX6_adds : List (List Nat) := [[], [], [], [1092], [], [], [], [], [], [], [1092], [], [], [], [], [], [], [1092], [], [], [], [], [], [], [1092], [], [], [], [], [], [], [1092], [], [], [], [], [], [], [], [1092], [], [], []]
def psX6_drops : List (List Nat) := [[], [1092], [], [], [], [], [], [], [], [], [], [], [], [], [], [1092], [], [], [], [], [], [1092], [], [], [], [], [1092], [], [], [], [], [], [], [], [], [], []]
def psX6_asks : List (List Nat) := [[], [1179, 1181, 43, 103], [], [1103], [], [], [], [], [], [], [], [], [], [], [], [], [], [], [], [], [], [1197, 1199, 45, 103], [], [], []]
def psX6_looksAt : List (List Nat) := [[], [1179, 1181, 43, 103], [], [1103], [], [], [], [], [], [], [], [], [], [], [], [], [], [], [], [], [], [], [], [], [], [], [], [], [], [], [], [], [], [], [], [1197, 1199, 45, 103], [], [], [], [], [], [], []]
def psX6_accuses : List (List Nat) := [[], [1179, 1181, 43, 103], [], [1103], [], [], [], [], [], [], [], [], [], [], [], [], [], [], [], [], [1197, 1199, 45, 103], [], [], []]
def psX6_changes : List (List Nat) := [[], [1092], [], [], [], [], [], [], [1092], [], [], [], [], [1092], [], [], [], [], [], [], [1092], [], [], [], [], [], []]
def psX6_exchange : List (List Nat) := [[], [], [1091], [], [1157, 1158, 103], [], [], [1157, 1158, 103], [], [], [], [1163, 1165, 39, 103], [], [], [1092], [], [], [], [], [], [], [], [], [], [], [], [], [1092], [], [], [], [], [], [], [], [], [], [], [], [], [], [], [], [], [], [], [], [1163, 1165, 39, 103], [], [], [1167, 1169, 40, 103], [], [], [], [1171, 1173, 41, 103], [], [1175, 1177, 42, 103], []]
def psX6_notes : List (List Nat) := [[], [1092], [], [], [], [], [], [], [1163, 1165, 39, 103], [], [], [1167, 1169, 40, 103], [], [], [], [], [1197, 1199, 45, 103], []]
def psX6_noteHas : List (List Nat) := [[], [], [1091], [], [1190, 1191, 103], [], [], [1157, 1158, 103], [], [], [], [], [], [], [], [1193, 1195, 44, 103], [], [], [], [1163, 1165, 39, 103], []]
def psX6_noteLacks : List (List Nat) := [[], [], [1091], [], [1190, 1191, 103], [], [], [1157, 1158, 103], [], [], [], [], [], [], [], [1193, 1195, 44, 103], [], [], [], [1163, 1165, 39, 103], []]
def psX6_noteShows : List (List Nat) := [[], [], [1091], [], [1190, 1191, 103], [], [], [], [], [1209, 1210, 103], [], [], [], [], [], [], [], [], [], [], [], [], [], [1212, 1213, 103], [1183, 1184, 103], [1193, 1195, 44, 103], [], [], [], [1163, 1165, 39, 103], []]
def psX6_dropClue : List (List Nat) := [[], [], [1091], [], [], [1219, 1221, 46, 103], [], [], [], [1163, 1165, 39, 103], [], [], [1167, 1169, 40, 103], [], [], [1223, 1225, 47, 103], [], [1092], [], [], []]
def psX6_dropAll : List (List Nat) := [[], [], [1091], [], [1167, 1169, 40, 103], [], [1092], [], [], [], [], [1092], [], [], [], [], []]
def psX6_barsQuestion : List (List Nat) := [[], [], [], [], [], [1092], [], [], [], [], [], [], [], []]
def psX6_ask : List (List Nat) := [[], [], [], [1190, 1191, 103], [], [], [], [], [1209, 1210, 103], [], [], [], [], [1235, 1237, 48, 103], [1091], [], [1091], [], [], [], [], [1167, 1169, 40, 103], [], [], [], [], [], [1212, 1213, 103], [1183, 1184, 103], [1239, 1241, 49, 103], []]
def psX6_look : List (List Nat) := [[], [], [], [1190, 1191, 103], [], [], [], [], [1209, 1210, 103], [], [], [], [], [1235, 1237, 48, 103], [1091], [], [1091], [], [], [], [], [1167, 1169, 40, 103], [], [], [], [], [], [1212, 1213, 103], [1183, 1184, 103], [1247, 1249, 50, 103], []]
def psX6_accuse : List (List Nat) := [[], [], [], [], [], [1209, 1210, 103], [1235, 1237, 48, 103], [1091], [], [1091], [], [], [], [], [1167, 1169, 40, 103], [], [], [], [], [1212, 1213, 103], [1183, 1184, 103], [1255, 1257, 51, 103], []]
def psX6_append : List (List Nat) := [[], [], [1091], [], [], [], [1160, 1161, 103], [], [], [], [1163, 1165, 39, 103], [], [], [1098], [], [], [], [], [1163, 1165, 39, 103], [], [], [1097], [], [1098], [], [], [], [], [1098], [], [], [1098], [], [1098], []]
def psX6_clearBuffer : List (List Nat) := [[], [], [1091], [], [1098], [], [], [], [1098], [], []]
def psX6_sign : List (List Nat) := [[], [1099], [], [1098], [], [], [1097], [], [1099], [], [], [], []]
def psX6_takes : List (List Nat) := [[], [], [1100], [], [], [1279, 1281, 54, 103], [], [], [1160, 1161, 103], [], [], [], [], [1100], [], [1279, 1281, 54, 103], [], [], [], [], [], [1099], [], [1100], [], [], [], [], [], [1099], [], []]
def psX6_number : List (List Nat) := [[], [], [], [1283, 1285, 55, 103], [], [], [1100], [], [], [], [], [1279, 1281, 54, 103], [], [], [1160, 1161, 103], [], [], [], [], [], [1279, 1281, 54, 103], [], [], [], [], [], [], [], [], [], [1279, 1281, 54, 103], [], [], [], [], [], [], [1099], [], [], [1099], [], [], []]
def psX6_readsPart : List (List Nat) := [[], [], [1102], [], [], [], [1279, 1281, 54, 103], [], [], [], [], [], [], [], [], [], [], [], [], [], [], [], [], [], [], [], [], [], [], [], [], [], [], [], [], [], [], [], [], [], [], [], [], [], [], [], [], [], [], [], [], [], [], [], [1100], [], [1100], [], [], [], [1099], [], [], [1099], [], [1101], [], [], [], [], [1100], [], [], [], [], [1101], [], [], [], [], [], [], [1283, 1285, 55, 103], [], [], [], [], [1283, 1285, 55, 103], [], [], [1100], [], [], [1101], [], [], [], [], [], [], [], [], [1283, 1285, 55, 103], [], [], [], [], [], [], [], [], [1287, 1289, 56, 103], [], [], [], [1102], [], [1100], [], [], [], [], [], [1102], []]
def psX6_readsWorks : List (List Nat) := [[], [], [1099], [], [], [1102], [], [1275, 1277, 53, 103], [], [1100], [], [], [1099], [], [1098], [], [], [], [], [1283, 1285, 55, 103], [], [], [1100], [], [], [1275, 1277, 53, 103], [], [], [1100], []]
def psX6_firstError : List (List Nat) := [[], [], [1091], [], [1271, 1273, 52, 103], [], [], [1098], [], [], [1099], []]
def psX6_does : List (List Nat) := [[], [1101], [], [], [], [], [1101], [], [], [], [], [], [], [1101], [], [], [], [], [], [], [], [], [], [], [1219, 1221, 46, 103], [], [], [], [], [], [1223, 1225, 47, 103], [], [], [], [1092], [], [], [], [], [], [], [], [], [], [], [], [], [], [], [1197, 1199, 45, 103], [], [], [], [], [], [], [], [], [1197, 1199, 45, 103], [], [], [], [], [], [], [1183, 1184, 103], [1197, 1199, 45, 103], [], [], [], [], [], [], [1183, 1184, 103], [1197, 1199, 45, 103], [], [], [], [], [], [], [1183, 1184, 103], [1197, 1199, 45, 103], [], [], [], [], [], [], [1183, 1184, 103], [1197, 1199, 45, 103], [], [], [], [], [], [1183, 1184, 103], [1239, 1241, 49, 103], [], [], [], [], [], [1183, 1184, 103], [1247, 1249, 50, 103], [], [], [], [], [1183, 1184, 103], [1255, 1257, 51, 103], [], [], []]
def psX6_work : List (List Nat) := [[], [], [1091], [], [1271, 1273, 52, 103], [], [], [], [1163, 1165, 39, 103], [], [], [1167, 1169, 40, 103], [], [], [1098], [], [], [], [], [], [], [1102], [], [], [], [], [], [], [], [1295, 1297, 57, 103], [], [], [], [], [], [], [], [], [], [], [], [1092], [], [], [], [], [], [], [], [], [1092], [], [], [], [], []]
def psX6_hasStopped : List (List Nat) := [[], [], [1091], [], [1092], [], [], [], [], [], [], [], []]
def psX6_stoppedPart : List (List Nat) := [[], [], [1091], [], [1092], [], [], [], [], [], [], [1163, 1165, 39, 103], [], [], [1092], [], [], []]
def psX6_whyStopped : List (List Nat) := [[], [], [1091], [], [1092], [], [], [], [], [], [], [1163, 1165, 39, 103], [], [], [1092], [], [], []]
def psX6_undo : List (List Nat) := [[], [], [1091], [], [1094], [], [], [], [1163, 1165, 39, 103], [], [], [], [1094], [], [], [1094], [], [], [], [], [], [], [1092], [], [], [1093], [], [], [1094], [], [], [], [], [], [], [], [], [1094], []]
def psX6_keep : List (List Nat) := [[], [], [1091], [], [], [], [], [], [], [1095], [], [], [1092], [], [], [], [], [], [], [], [1096], [], [1092], [], [], []]
def psX6_restore : List (List Nat) := [[], [], [1091], [], [1096], [], [], [], [1163, 1165, 39, 103], [], [], [1167, 1169, 40, 103], [], [], [], [], [], [], [1092], [], [], [1095], [], [], [], [], [], [], [1092], [], [], []]
def psX6_savedStates : List (List Nat) := [[], [], [1091], [], [1094], []]
def psX6_truePlace : List (List Nat) := [[], [], [1091], [], [1157, 1158, 103], [], [], [1092], [], [], [], [], [], [], [], [1163, 1165, 39, 103], []]
def psX6_trueEnvelope : List (List Nat) := [[], [], [1091], [], [1175, 1177, 42, 103], []]
def psX6_clues : List (List Nat) := [[], [], [1091], [], [1092], [], [], []]
def psX6_tells : List (List Nat) := [[], [], [1091], [], [], [1219, 1221, 46, 103], [], [], [], [], [1347, 1349, 59, 103], [], [], [], [1163, 1165, 39, 103], []]
def psX6_kindOf : List (List Nat) := [[], [], [], [1343, 1345, 58, 103], []]
def psX6_playerOf : List (List Nat) := [[], [], [], [1343, 1345, 58, 103], []]
def psX6_cardsOf : List (List Nat) := [[], [], [], [1343, 1345, 58, 103], []]
def psX6_isTrue : List (List Nat) := [[], [], [1091], [], [], [1219, 1221, 46, 103], [], [], [], [1363, 1365, 60, 103], [], [], [], [1163, 1165, 39, 103], [], [], [], [], []]
def psX6_untrueClues : List (List Nat) := [[], [], [1091], [], [1375, 1377, 62, 103], []]
def psX6_deals : List (List Nat) := [[], [], [1091], [], [], [], [1383, 1385, 63, 103], []]
def psX6_dealsByHands : List (List Nat) := [[], [], [1091], [], [], [], [1383, 1385, 63, 103], []]
def psX6_tellsWith : List (List Nat) := [[], [], [1091], [], [1157, 1158, 103], [], [], [], [], [1160, 1161, 103], [], [], [], [1163, 1165, 39, 103], [], [], [1410, 1412, 67, 103], [], [1105], [], [], [], [], [], [], []]
def psX6_dealsWith : List (List Nat) := [[], [], [], [1406, 1408, 66, 103], []]
def psX6_mayBe : List (List Nat) := [[], [], [], [1406, 1408, 66, 103], [], [], [], [], []]
def psX6_certainPlace : List (List Nat) := [[], [], [1091], [], [1157, 1158, 103], [], [], [], [1163, 1165, 39, 103], [], [], [1410, 1412, 67, 103], [], [], [1422, 1424, 68, 103], []]
def psX6_certainCards : List (List Nat) := [[], [], [1091], [], [1410, 1412, 67, 103], [], [1430, 1432, 69, 103], []]
def psX6_isBroken : List (List Nat) := [[], [], [1091], [], [1438, 1440, 70, 103], [], [1109], []]
def psX6_mayBeByRules : List (List Nat) := [[], [], [1091], [], [1157, 1158, 103], [], [], [], [], [1160, 1161, 103], [], [], [], [1163, 1165, 39, 103], [], [], [], [], [], [], [1438, 1440, 70, 103], [], [], [], [1462, 1464, 76, 103], []]
def psX6_placeByRules : List (List Nat) := [[], [], [1091], [], [1157, 1158, 103], [], [], [], [1163, 1165, 39, 103], [], [], [1438, 1440, 70, 103], [], [], [1494, 1496, 82, 103], []]
def psX6_crossedOff : List (List Nat) := [[], [], [1091], [], [1502, 1504, 83, 103], []]
def psX6_hidden : List (List Nat) := [[], [1410, 1412, 67, 103], [], [], [1502, 1504, 83, 103], [], [], [1514, 1516, 85, 103], [], []]
def psX6_hiddenCrosses : List (List Nat) := [[], [], [1091], [], [1510, 1512, 84, 103], []]
def psX6_envelopeDeals : List (List Nat) := [[], [], [1091], [], [1522, 1523, 103], [], [], [], [1163, 1165, 39, 103], [], [], [1410, 1412, 67, 103], [], [1106], [], [], []]
def psX6_envelopes : List (List Nat) := [[], [], [1091], [], [1410, 1412, 67, 103], [], [1529, 1531, 86, 103], []]
def psX6_bestAccusation : List (List Nat) := [[], [], [1091], [], [1410, 1412, 67, 103], [], [1104], [], [], [], [1163, 1165, 39, 103], [], [], [1537, 1539, 87, 103], []]
def psX6_isSolved : List (List Nat) := [[], [], [1091], [], [1410, 1412, 67, 103], [], [1529, 1531, 86, 103], [], [], [], [], [], []]
def psX6_barsAsked : List (List Nat) := [[], [1410, 1412, 67, 103], [], [1190, 1191, 103], [], [], [1522, 1523, 103], [], [], [], [], []]
def psX6_dealsIfPassed : List (List Nat) := [[], [], [], [], [1549, 1551, 88, 103], [1091], [], [1091], [], [], [], [], [1107], [], [], [], [], [], [], []]
def psX6_leftBy : List (List Nat) := [[], [], [], [], [1549, 1551, 88, 103], [1091], [], [1091], [], [], [], [], [], [], [1557, 1559, 89, 103], []]
def psX6_bestQuestion : List (List Nat) := [[], [], [1091], [], [1190, 1191, 103], [], [], [], [1163, 1165, 39, 103], [], [], [1410, 1412, 67, 103], [], [1104], [], [], [], [1163, 1165, 39, 103], [], [], [], [1565, 1567, 90, 103], []]
def psX6_dealsWithout : List (List Nat) := [[], [], [1091], [], [], [1219, 1221, 46, 103], [], [], [], [], [1383, 1385, 63, 103], [], [], [], [1163, 1165, 39, 103], []]
def psX6_idleClues : List (List Nat) := [[], [], [1091], [], [1577, 1579, 91, 103], []]
def psX6_chanceNow : List (List Nat) := [[], [1410, 1412, 67, 103], [], [1104], [], [], [], [], [1106], [], [1537, 1539, 87, 103], [], [], [], [1104], [], [], []]
def psX6_chance : List (List Nat) := [[], [], [1091], [], [1585, 1587, 92, 103], []]
def psX6_digestAll : List (List Nat) := [[], [1410, 1412, 67, 103], [], [1502, 1504, 83, 103], [], [1598], [1598], [1598], [], [], [], [1175, 1177, 42, 103], [], [], [], [], [1092], [], [], [], [], [], [], [1375, 1377, 62, 103], [], [], [], [1598], [1598], [1598], [], [], [], [1104], [], [], [], [], [1104], [], [], [], [], [1430, 1432, 69, 103], [], [], [], [1598], [1598], [1598], [], [], [], [1109], [], [], [], [], [], [], [], [], [], [], [], [], [], [], [], [1514, 1516, 85, 103], [], [], [], [], [1598], [1598], [], [], [], [1529, 1531, 86, 103], [], [], [], [], [1529, 1531, 86, 103], [], [], [], [], [], [], [], [], [1598], [1598], [], [], [], [1577, 1579, 91, 103], [], [], [], [], [1094], [], [], [], [], [1104], [], [1598], [], [], [], [1537, 1539, 87, 103], [], [], [], [], [], [], [], [], [1598], [], [], [], [], [1565, 1567, 90, 103], [], [], [], [], [], [], []]
def psX6_digestClues : List (List Nat) := [[], [], [], [], [], [], [1092], [], [], [], [1598], [1598], [1598], [], [], [], [], [], [1347, 1349, 59, 103], [], [], [], [], [], [], [1347, 1349, 59, 103], [], [], [], [], [], [], [1347, 1349, 59, 103], [], [], [], [1598], [1598], [], [], [], [], [1363, 1365, 60, 103], [], [], [], [], [], [], [], [], [], [], [1383, 1385, 63, 103], [], [], [], [], [], [], []]
def psX6_digestCards : List (List Nat) := [[], [], [], [1410, 1412, 67, 103], [], [1438, 1440, 70, 103], [], [], [], [], [], [1598], [1598], [1598], [], [], [], [1092], [], [], [], [], [], [], [], [], [], [1422, 1424, 68, 103], [], [], [], [], [], [1494, 1496, 82, 103], [], [], [], [], [], [], [], [], [1598], [1598], [], [], [], [1105], [], [], [], [], [], [], [], [], [], [], [], [], [1462, 1464, 76, 103], [], [], [], [], [], [], [], [], [], [], [], [], [], [], [], [], [1598], [], [], [], [1106], [], [], [], [], [], [], [], [], [], [], [1598], [], [], [], [], [], [1557, 1559, 89, 103], [], [], [], [], [], [], [], [], []]
def psX6_digest : List (List Nat) := [[], [], [1091], [], [], [], [1593], [1594, 1596, 93, 103], [1599, 1601, 94, 103], [1603, 1605, 95, 103], [], [1598], [], [], [], [1092], [], [], [], [], [], [], [], [], [], [], [], [1092], [], [], [], [], [], [], [1598], [1598], [], [], [], [1092], [], [], [], [], [], [], [1092], [], [], [], [], [], [1598], [], [], [], [1585, 1587, 92, 103], [1607, 1608, 112], [], [], [1598], [], [], [], [1098], [], [], [], [], [], [], [], [1098], [], [1598], [], [], [], [1097], [], [], [], [], [], [], [], [], []]
def psJxe99ae_isNaN_b9ae7 : List (List Nat) := [[], [], [], [], [], [], [], []]
def psJ6_bitCount_0f7a4 : List (List Nat) := [[], [], [], [], [418], [], [], [], [], [419], [], [], [], [], [419], [], [], [], [], [], [], [], [], [420], [], [], [], [], [], [], [], [], [], [], [], [], [], [], [], [], [], []]
theorem ck0 : (chM kX0_count 392 0 psX0_count && chM kX0_clear 395 0 psX0_clear && chM kX0_dealFrom 398 0 psX0_dealFrom && chM kX0_hasRoom 411 0 psX0_hasRoom) = true := by decide +kernel
theorem ck1 : (chM kX0_judge 402 0 psX0_judge && chM kX0_include 407 0 psX0_include && chM kX0_withCardAt 462 0 psX0_withCardAt && chM kX0_surePlace 458 0 psX0_surePlace) = true := by decide +kernel
theorem ck2 : (chM kX0_sureCards 454 0 psX0_sureCards && chM kX0_placesLeft 549 0 psX0_placesLeft && chM kX0_withEnvelope 589 0 psX0_withEnvelope && chM kX0_envelopesLeft 557 0 psX0_envelopesLeft) = true := by decide +kernel
theorem ck3 : (chM kX0_likeliestEnvelope 585 0 psX0_likeliestEnvelope && chM kX0_shareOfLikeliest 581 0 psX0_shareOfLikeliest && chM kX0_withNone 625 0 psX0_withNone && chM kX0_behindQuestion 621 0 psX0_behindQuestion) = true := by decide +kernel
theorem ck4 : (chM kX0_sharpestQuestion 617 0 psX0_sharpestQuestion && chM kX0_withoutClue 573 0 psX0_withoutClue && chM kX0_idleAmong 569 0 psX0_idleAmong && chM kX1_count 432 0 psX1_count) = true := by decide +kernel
theorem ck5 : (chM kX1_countHands 441 0 psX1_countHands && chM kX2_fill 474 0 psX2_fill && chM kX2_setAll 478 0 psX2_setAll && chM kX2_placesLeft 524 0 psX2_placesLeft) = true := by decide +kernel
theorem ck6 : (chM kX2_has 748 0 psX2_has && chM kX2_onlyPlace 743 0 psX2_onlyPlace && chM kX2_applyClues 482 0 psX2_applyClues && chM kX2_applyClue 486 0 psX2_applyClue) = true := by decide +kernel
theorem ck7 : (chM kX2_applyKinds 515 0 psX2_applyKinds && chM kX2_applyPlayers 520 0 psX2_applyPlayers && chM kX2_crossIfSure 507 0 psX2_crossIfSure && chM kX2_keepIfJust 498 0 psX2_keepIfJust) = true := by decide +kernel
theorem ck8 : (chM kX2_keepOnly 490 0 psX2_keepOnly && chM kX2_crossOff 494 0 psX2_crossOff && chM kX2_withPlace 502 0 psX2_withPlace && chM kX2_withOnly 511 0 psX2_withOnly) = true := by decide +kernel
theorem ck9 : (chM kX2_breaksDown 528 0 psX2_breaksDown && chM kX2_fits 532 0 psX2_fits && chM kX2_breaksClue 536 0 psX2_breaksClue && chM kX3_dealAtFirst 254 0 psX3_dealAtFirst) = true := by decide +kernel
theorem ck10 : (chM kX3_copyFrom 304 0 psX3_copyFrom && chM kX3_add 834 0 psX3_add && chM kX3_remove 865 0 psX3_remove && chM kX3_addAnswer 876 0 psX3_addAnswer) = true := by decide +kernel
theorem ck11 : (chM kX3_addSight 892 0 psX3_addSight && chM kX3_addVerdict 903 0 psX3_addVerdict && chM kX3_handOf 880 0 psX3_handOf && chM kX3_placeOf 738 0 psX3_placeOf) = true := by decide +kernel
theorem ck12 : (chM kX3_agrees 380 0 psX3_agrees && chM kX3_agreesWithAll 445 0 psX3_agreesWithAll && chM kX4_begin 320 0 psX4_begin && chM kX4_mayEnd 940 0 psX4_mayEnd) = true := by decide +kernel
theorem ck13 : (chM kX4_take 324 0 psX4_take && chM kX4_takeLetter 328 0 psX4_takeLetter && chM kX4_takePlayer 338 0 psX4_takePlayer && chM kX4_takeFirstDigit 342 0 psX4_takeFirstDigit) = true := by decide +kernel
theorem ck14 : (chM kX4_takeMore 349 0 psX4_takeMore && chM kX4_isDigit 345 0 psX4_isDigit && chM kX4_namesPlayer 331 0 psX4_namesPlayer && chM kX4_limitOf 334 0 psX4_limitOf) = true := by decide +kernel
theorem ck15 : (chM kX5_exchange 805 0 psX5_exchange && chM kX5_noteHas 821 0 psX5_noteHas && chM kX5_noteLacks 841 0 psX5_noteLacks && chM kX5_noteShows 848 0 psX5_noteShows) = true := by decide +kernel
theorem ck16 : (chM kX5_dropClue 861 0 psX5_dropClue && chM kX5_dropAll 292 0 psX5_dropAll && chM kX5_ask 872 0 psX5_ask && chM kX5_look 888 0 psX5_look) = true := by decide +kernel
theorem ck17 : (chM kX5_accuse 899 0 psX5_accuse && chM kX5_append 911 0 psX5_append && chM kX5_clearBuffer 312 0 psX5_clearBuffer && chM kX5_firstError 316 0 psX5_firstError) = true := by decide +kernel
theorem ck18 : (chM kX5_work 935 0 psX5_work && chM kX5_hasStopped 353 0 psX5_hasStopped && chM kX5_stoppedPart 762 0 psX5_stoppedPart && chM kX5_whyStopped 786 0 psX5_whyStopped) = true := by decide +kernel
theorem ck19 : (chM kX5_undo 965 0 psX5_undo && chM kX5_keep 357 0 psX5_keep && chM kX5_restore 973 0 psX5_restore && chM kX5_savedStates 361 0 psX5_savedStates) = true := by decide +kernel
theorem ck20 : (chM kX5_truePlace 730 0 psX5_truePlace && chM kX5_trueEnvelope 365 0 psX5_trueEnvelope && chM kX5_clues 372 0 psX5_clues && chM kX5_kindOf 637 0 psX5_kindOf) = true := by decide +kernel
theorem ck21 : (chM kX5_playerOf 713 0 psX5_playerOf && chM kX5_cardsOf 717 0 psX5_cardsOf && chM kX5_isTrue 721 0 psX5_isTrue && chM kX5_untrueClues 376 0 psX5_untrueClues) = true := by decide +kernel
theorem ck22 : (chM kX5_deals 384 0 psX5_deals && chM kX5_dealsByHands 424 0 psX5_dealsByHands && chM kX5_dealsWith 1001 0 psX5_dealsWith && chM kX5_mayBe 1012 0 psX5_mayBe) = true := by decide +kernel
theorem ck23 : (chM kX5_certainPlace 1019 0 psX5_certainPlace && chM kX5_certainCards 450 0 psX5_certainCards && chM kX5_isBroken 466 0 psX5_isBroken && chM kX5_mayBeByRules 1026 0 psX5_mayBeByRules) = true := by decide +kernel
theorem ck24 : (chM kX5_placeByRules 1033 0 psX5_placeByRules && chM kX5_crossedOff 540 0 psX5_crossedOff && chM kX5_hiddenCrosses 545 0 psX5_hiddenCrosses && chM kX5_envelopeDeals 1040 0 psX5_envelopeDeals) = true := by decide +kernel
theorem ck25 : (chM kX5_envelopes 553 0 psX5_envelopes && chM kX5_bestAccusation 1051 0 psX5_bestAccusation && chM kX5_isSolved 561 0 psX5_isSolved && chM kX5_dealsIfPassed 1062 0 psX5_dealsIfPassed) = true := by decide +kernel
theorem ck26 : (chM kX5_leftBy 1070 0 psX5_leftBy && chM kX5_bestQuestion 1077 0 psX5_bestQuestion && chM kX5_dealsWithout 1084 0 psX5_dealsWithout && chM kX5_idleClues 565 0 psX5_idleClues) = true := by decide +kernel
theorem ck27 : (chM kX5_chance 577 0 psX5_chance && chM kX5_digest 593 0 psX5_digest && chM kX5_mix 602 0 psX5_mix && chM kX5_mixFlag 608 0 psX5_mixFlag) = true := by decide +kernel
theorem ck28 : (chM kX5_mixCounts 598 0 psX5_mixCounts && chM kX5_mixBest 612 0 psX5_mixBest && chM kX5_mixClues 633 0 psX5_mixClues && chM kX5_mixCards 726 0 psX5_mixCards) = true := by decide +kernel
theorem ck29 : (chM kX5_mixTriples 751 0 psX5_mixTriples && chM kX5_mixStop 757 0 psX5_mixStop && chM kX5_mixBuffer 796 0 psX5_mixBuffer && chM kX5_bitsOfShare 789 0 psX5_bitsOfShare) = true := by decide +kernel
theorem ck30 : (chM kX5_doPart 945 0 psX5_doPart && chM kX5_addPart 949 0 psX5_addPart && chM kX5_remember 296 0 psX5_remember && chM kX5_dropOldest 300 0 psX5_dropOldest) = true := by decide +kernel
theorem ck31 : (chM kX5_forgetCounts 308 0 psX5_forgetCounts && chM kX5_countedDeals 388 0 psX5_countedDeals && chM kX5_filledSheet 470 0 psX5_filledSheet && chM kX5_countedHands 428 0 psX5_countedHands) = true := by decide +kernel
theorem ck32 : (chM kX5_checkCard 733 0 psX5_checkCard && chM kX5_checkPlayer 824 0 psX5_checkPlayer && chM kX5_checkPlace 1004 0 psX5_checkPlace && chM kX5_checkTriple 1043 0 psX5_checkTriple) = true := by decide +kernel
theorem ck33 : (chM kX5_checkCards 851 0 psX5_checkCards && chM kX5_checkClue 641 0 psX5_checkClue && chM kX5_checkRoomForClue 829 0 psX5_checkRoomForClue && chM kX5_checkStopped 766 0 psX5_checkStopped) = true := by decide +kernel
theorem ck34 : (chM kX5_checkSome 1054 0 psX5_checkSome && chM kX5_mask 438 0 psX5_mask && chM kX5_cardsOfKind 414 0 psX5_cardsOfKind && chM kX5_cardsOfTriple 435 0 psX5_cardsOfTriple) = true := by decide +kernel
theorem ck35 : (chM kX5_numberOfTriple 368 0 psX5_numberOfTriple && chM kX5_isTriple 811 0 psX5_isTriple && chM kX5_exchanged 808 0 psX5_exchanged && chM kX6_thrown 1152 0 psX6_thrown) = true := by decide +kernel
theorem ck36 : (chM kX6_fails 1166 0 psX6_fails && chM kX6_in 1162 0 psX6_in && chM kX6_isCard 1159 0 psX6_isCard && chM kX6_isPlayer 1192 0 psX6_isPlayer) = true := by decide +kernel
theorem ck37 : (chM kX6_isTriple 1524 0 psX6_isTriple && chM kX6_areOf 1211 0 psX6_areOf && chM kX6_isClue 1222 0 psX6_isClue && chM kX6_of 1350 0 psX6_of) = true := by decide +kernel
theorem ck38 : (chM kX6_numbered 1214 0 psX6_numbered && chM kX6_maskOf 1185 0 psX6_maskOf && chM kX6_records 1170 0 psX6_records && chM kX6_agrees 1370 0 psX6_agrees) = true := by decide +kernel
theorem ck39 : (chM kX6_agreesAll 1393 0 psX6_agreesAll && chM kX6_countsDeal 1397 0 psX6_countsDeal && chM kX6_bits 1389 0 psX6_bits && chM kX6_goes 1386 0 psX6_goes) = true := by decide +kernel
theorem ck40 : (chM kX6_surveys 1413 0 psX6_surveys && chM kX6_certain 1425 0 psX6_certain && chM kX6_certainMany 1433 0 psX6_certainMany && chM kX6_envelopeMany 1532 0 psX6_envelopeMany) = true := by decide +kernel
theorem ck41 : (chM kX6_bestIn 1540 0 psX6_bestIn && chM kX6_leaves 1560 0 psX6_leaves && chM kX6_bestFor 1568 0 psX6_bestFor && chM kX6_idleMany 1580 0 psX6_idleMany) = true := by decide +kernel
theorem ck42 : (chM kX6_mayMany 1517 0 psX6_mayMany && chM kX6_looksAtMaster 1182 0 psX6_looksAtMaster && chM kX6_masterTriple 1178 0 psX6_masterTriple && chM kX6_holdsTrue 1366 0 psX6_holdsTrue) = true := by decide +kernel
theorem ck43 : (chM kX6_untrueMany 1378 0 psX6_untrueMany && chM kX6_keeps 1449 0 psX6_keeps && chM kX6_loses 1453 0 psX6_loses && chM kX6_mayLie 1465 0 psX6_mayLie) = true := by decide +kernel
theorem ck44 : (chM kX6_isOnly 1461 0 psX6_isOnly && chM kX6_counts 1457 0 psX6_counts && chM kX6_fixes 1469 0 psX6_fixes && chM kX6_bars 1473 0 psX6_bars) = true := by decide +kernel
theorem ck45 : (chM kX6_usesClue 1445 0 psX6_usesClue && chM kX6_usesKind 1477 0 psX6_usesKind && chM kX6_usesPlayer 1481 0 psX6_usesPlayer && chM kX6_breaksDown 1485 0 psX6_breaksDown) = true := by decide +kernel
theorem ck46 : (chM kX6_rules 1441 0 psX6_rules && chM kX6_crossedMany 1505 0 psX6_crossedMany && chM kX6_only 1497 0 psX6_only && chM kX6_adds 1200 0 psX6_adds) = true := by decide +kernel
theorem ck47 : (chM kX6_drops 1226 0 psX6_drops && chM kX6_asks 1242 0 psX6_asks && chM kX6_looksAt 1250 0 psX6_looksAt && chM kX6_accuses 1258 0 psX6_accuses) = true := by decide +kernel
theorem ck48 : (chM kX6_changes 1174 0 psX6_changes && chM kX6_exchange 1156 0 psX6_exchange && chM kX6_notes 1196 0 psX6_notes && chM kX6_noteHas 1189 0 psX6_noteHas) = true := by decide +kernel
theorem ck49 : (chM kX6_noteLacks 1204 0 psX6_noteLacks && chM kX6_noteShows 1208 0 psX6_noteShows && chM kX6_dropClue 1218 0 psX6_dropClue && chM kX6_dropAll 1230 0 psX6_dropAll) = true := by decide +kernel
theorem ck50 : (chM kX6_barsQuestion 1238 0 psX6_barsQuestion && chM kX6_ask 1234 0 psX6_ask && chM kX6_look 1246 0 psX6_look && chM kX6_accuse 1254 0 psX6_accuse) = true := by decide +kernel
theorem ck51 : (chM kX6_append 1262 0 psX6_append && chM kX6_clearBuffer 1266 0 psX6_clearBuffer && chM kX6_sign 1282 0 psX6_sign && chM kX6_takes 1286 0 psX6_takes) = true := by decide +kernel
theorem ck52 : (chM kX6_number 1290 0 psX6_number && chM kX6_readsPart 1278 0 psX6_readsPart && chM kX6_readsWorks 1274 0 psX6_readsWorks && chM kX6_firstError 1270 0 psX6_firstError) = true := by decide +kernel
theorem ck53 : (chM kX6_does 1298 0 psX6_does && chM kX6_work 1294 0 psX6_work && chM kX6_hasStopped 1302 0 psX6_hasStopped && chM kX6_stoppedPart 1306 0 psX6_stoppedPart) = true := by decide +kernel
theorem ck54 : (chM kX6_whyStopped 1310 0 psX6_whyStopped && chM kX6_undo 1314 0 psX6_undo && chM kX6_keep 1318 0 psX6_keep && chM kX6_restore 1322 0 psX6_restore) = true := by decide +kernel
theorem ck55 : (chM kX6_savedStates 1326 0 psX6_savedStates && chM kX6_truePlace 1330 0 psX6_truePlace && chM kX6_trueEnvelope 1334 0 psX6_trueEnvelope && chM kX6_clues 1338 0 psX6_clues) = true := by decide +kernel
theorem ck56 : (chM kX6_tells 1346 0 psX6_tells && chM kX6_kindOf 1342 0 psX6_kindOf && chM kX6_playerOf 1354 0 psX6_playerOf && chM kX6_cardsOf 1358 0 psX6_cardsOf) = true := by decide +kernel
theorem ck57 : (chM kX6_isTrue 1362 0 psX6_isTrue && chM kX6_untrueClues 1374 0 psX6_untrueClues && chM kX6_deals 1382 0 psX6_deals && chM kX6_dealsByHands 1401 0 psX6_dealsByHands) = true := by decide +kernel
theorem ck58 : (chM kX6_tellsWith 1409 0 psX6_tellsWith && chM kX6_dealsWith 1405 0 psX6_dealsWith && chM kX6_mayBe 1417 0 psX6_mayBe && chM kX6_certainPlace 1421 0 psX6_certainPlace) = true := by decide +kernel
theorem ck59 : (chM kX6_certainCards 1429 0 psX6_certainCards && chM kX6_isBroken 1437 0 psX6_isBroken && chM kX6_mayBeByRules 1489 0 psX6_mayBeByRules && chM kX6_placeByRules 1493 0 psX6_placeByRules) = true := by decide +kernel
theorem ck60 : (chM kX6_crossedOff 1501 0 psX6_crossedOff && chM kX6_hidden 1513 0 psX6_hidden && chM kX6_hiddenCrosses 1509 0 psX6_hiddenCrosses && chM kX6_envelopeDeals 1521 0 psX6_envelopeDeals) = true := by decide +kernel
theorem ck61 : (chM kX6_envelopes 1528 0 psX6_envelopes && chM kX6_bestAccusation 1536 0 psX6_bestAccusation && chM kX6_isSolved 1544 0 psX6_isSolved && chM kX6_barsAsked 1552 0 psX6_barsAsked) = true := by decide +kernel
theorem ck62 : (chM kX6_dealsIfPassed 1548 0 psX6_dealsIfPassed && chM kX6_leftBy 1556 0 psX6_leftBy && chM kX6_bestQuestion 1564 0 psX6_bestQuestion && chM kX6_dealsWithout 1572 0 psX6_dealsWithout) = true := by decide +kernel
theorem ck63 : (chM kX6_idleClues 1576 0 psX6_idleClues && chM kX6_chanceNow 1588 0 psX6_chanceNow && chM kX6_chance 1584 0 psX6_chance && chM kX6_digestAll 1597 0 psX6_digestAll) = true := by decide +kernel
theorem ck64 : (chM kX6_digestClues 1602 0 psX6_digestClues && chM kX6_digestCards 1606 0 psX6_digestCards && chM kX6_digest 1592 0 psX6_digest && chM kJxe99ae_isNaN_b9ae7 1612 0 psJxe99ae_isNaN_b9ae7) = true := by decide +kernel
theorem ck65 : (chM kJ6_bitCount_0f7a4 417 0 psJ6_bitCount_0f7a4) = true := by decide +kernel
def CkM (k : Nat) : Prop := ∃ (cp : Nat) (pss : List (List Nat)), chM k cp 0 pss = true
theorem cq0 : ∀ k, 0 ≤ k → k < 4 → CkM k := by
  intro k h1 h2
  have h := ck0
  try simp only [Bool.and_eq_true] at h
  obtain ⟨⟨⟨c0, c1⟩, c2⟩, c3⟩ := h
  have h3 : k = 0 ∨ k = 1 ∨ k = 2 ∨ k = 3 := by omega
  rcases h3 with rfl | rfl | rfl | rfl
  · exact ⟨392, psX0_count, c0⟩
  · exact ⟨395, psX0_clear, c1⟩
  · exact ⟨398, psX0_dealFrom, c2⟩
  · exact ⟨411, psX0_hasRoom, c3⟩
theorem cq1 : ∀ k, 4 ≤ k → k < 8 → CkM k := by
  intro k h1 h2
  have h := ck1
  try simp only [Bool.and_eq_true] at h
  obtain ⟨⟨⟨c0, c1⟩, c2⟩, c3⟩ := h
  have h3 : k = 4 ∨ k = 5 ∨ k = 6 ∨ k = 7 := by omega
  rcases h3 with rfl | rfl | rfl | rfl
  · exact ⟨402, psX0_judge, c0⟩
  · exact ⟨407, psX0_include, c1⟩
  · exact ⟨462, psX0_withCardAt, c2⟩
  · exact ⟨458, psX0_surePlace, c3⟩
theorem cq2 : ∀ k, 8 ≤ k → k < 12 → CkM k := by
  intro k h1 h2
  have h := ck2
  try simp only [Bool.and_eq_true] at h
  obtain ⟨⟨⟨c0, c1⟩, c2⟩, c3⟩ := h
  have h3 : k = 8 ∨ k = 9 ∨ k = 10 ∨ k = 11 := by omega
  rcases h3 with rfl | rfl | rfl | rfl
  · exact ⟨454, psX0_sureCards, c0⟩
  · exact ⟨549, psX0_placesLeft, c1⟩
  · exact ⟨589, psX0_withEnvelope, c2⟩
  · exact ⟨557, psX0_envelopesLeft, c3⟩
theorem cq3 : ∀ k, 12 ≤ k → k < 16 → CkM k := by
  intro k h1 h2
  have h := ck3
  try simp only [Bool.and_eq_true] at h
  obtain ⟨⟨⟨c0, c1⟩, c2⟩, c3⟩ := h
  have h3 : k = 12 ∨ k = 13 ∨ k = 14 ∨ k = 15 := by omega
  rcases h3 with rfl | rfl | rfl | rfl
  · exact ⟨585, psX0_likeliestEnvelope, c0⟩
  · exact ⟨581, psX0_shareOfLikeliest, c1⟩
  · exact ⟨625, psX0_withNone, c2⟩
  · exact ⟨621, psX0_behindQuestion, c3⟩
theorem cq4 : ∀ k, 16 ≤ k → k < 20 → CkM k := by
  intro k h1 h2
  have h := ck4
  try simp only [Bool.and_eq_true] at h
  obtain ⟨⟨⟨c0, c1⟩, c2⟩, c3⟩ := h
  have h3 : k = 16 ∨ k = 17 ∨ k = 18 ∨ k = 19 := by omega
  rcases h3 with rfl | rfl | rfl | rfl
  · exact ⟨617, psX0_sharpestQuestion, c0⟩
  · exact ⟨573, psX0_withoutClue, c1⟩
  · exact ⟨569, psX0_idleAmong, c2⟩
  · exact ⟨432, psX1_count, c3⟩
theorem cq5 : ∀ k, 20 ≤ k → k < 24 → CkM k := by
  intro k h1 h2
  have h := ck5
  try simp only [Bool.and_eq_true] at h
  obtain ⟨⟨⟨c0, c1⟩, c2⟩, c3⟩ := h
  have h3 : k = 20 ∨ k = 21 ∨ k = 22 ∨ k = 23 := by omega
  rcases h3 with rfl | rfl | rfl | rfl
  · exact ⟨441, psX1_countHands, c0⟩
  · exact ⟨474, psX2_fill, c1⟩
  · exact ⟨478, psX2_setAll, c2⟩
  · exact ⟨524, psX2_placesLeft, c3⟩
theorem cq6 : ∀ k, 24 ≤ k → k < 28 → CkM k := by
  intro k h1 h2
  have h := ck6
  try simp only [Bool.and_eq_true] at h
  obtain ⟨⟨⟨c0, c1⟩, c2⟩, c3⟩ := h
  have h3 : k = 24 ∨ k = 25 ∨ k = 26 ∨ k = 27 := by omega
  rcases h3 with rfl | rfl | rfl | rfl
  · exact ⟨748, psX2_has, c0⟩
  · exact ⟨743, psX2_onlyPlace, c1⟩
  · exact ⟨482, psX2_applyClues, c2⟩
  · exact ⟨486, psX2_applyClue, c3⟩
theorem cq7 : ∀ k, 28 ≤ k → k < 32 → CkM k := by
  intro k h1 h2
  have h := ck7
  try simp only [Bool.and_eq_true] at h
  obtain ⟨⟨⟨c0, c1⟩, c2⟩, c3⟩ := h
  have h3 : k = 28 ∨ k = 29 ∨ k = 30 ∨ k = 31 := by omega
  rcases h3 with rfl | rfl | rfl | rfl
  · exact ⟨515, psX2_applyKinds, c0⟩
  · exact ⟨520, psX2_applyPlayers, c1⟩
  · exact ⟨507, psX2_crossIfSure, c2⟩
  · exact ⟨498, psX2_keepIfJust, c3⟩
theorem cq8 : ∀ k, 32 ≤ k → k < 36 → CkM k := by
  intro k h1 h2
  have h := ck8
  try simp only [Bool.and_eq_true] at h
  obtain ⟨⟨⟨c0, c1⟩, c2⟩, c3⟩ := h
  have h3 : k = 32 ∨ k = 33 ∨ k = 34 ∨ k = 35 := by omega
  rcases h3 with rfl | rfl | rfl | rfl
  · exact ⟨490, psX2_keepOnly, c0⟩
  · exact ⟨494, psX2_crossOff, c1⟩
  · exact ⟨502, psX2_withPlace, c2⟩
  · exact ⟨511, psX2_withOnly, c3⟩
theorem cq9 : ∀ k, 36 ≤ k → k < 40 → CkM k := by
  intro k h1 h2
  have h := ck9
  try simp only [Bool.and_eq_true] at h
  obtain ⟨⟨⟨c0, c1⟩, c2⟩, c3⟩ := h
  have h3 : k = 36 ∨ k = 37 ∨ k = 38 ∨ k = 39 := by omega
  rcases h3 with rfl | rfl | rfl | rfl
  · exact ⟨528, psX2_breaksDown, c0⟩
  · exact ⟨532, psX2_fits, c1⟩
  · exact ⟨536, psX2_breaksClue, c2⟩
  · exact ⟨254, psX3_dealAtFirst, c3⟩
theorem cq10 : ∀ k, 40 ≤ k → k < 44 → CkM k := by
  intro k h1 h2
  have h := ck10
  try simp only [Bool.and_eq_true] at h
  obtain ⟨⟨⟨c0, c1⟩, c2⟩, c3⟩ := h
  have h3 : k = 40 ∨ k = 41 ∨ k = 42 ∨ k = 43 := by omega
  rcases h3 with rfl | rfl | rfl | rfl
  · exact ⟨304, psX3_copyFrom, c0⟩
  · exact ⟨834, psX3_add, c1⟩
  · exact ⟨865, psX3_remove, c2⟩
  · exact ⟨876, psX3_addAnswer, c3⟩
theorem cq11 : ∀ k, 44 ≤ k → k < 48 → CkM k := by
  intro k h1 h2
  have h := ck11
  try simp only [Bool.and_eq_true] at h
  obtain ⟨⟨⟨c0, c1⟩, c2⟩, c3⟩ := h
  have h3 : k = 44 ∨ k = 45 ∨ k = 46 ∨ k = 47 := by omega
  rcases h3 with rfl | rfl | rfl | rfl
  · exact ⟨892, psX3_addSight, c0⟩
  · exact ⟨903, psX3_addVerdict, c1⟩
  · exact ⟨880, psX3_handOf, c2⟩
  · exact ⟨738, psX3_placeOf, c3⟩
theorem cq12 : ∀ k, 48 ≤ k → k < 52 → CkM k := by
  intro k h1 h2
  have h := ck12
  try simp only [Bool.and_eq_true] at h
  obtain ⟨⟨⟨c0, c1⟩, c2⟩, c3⟩ := h
  have h3 : k = 48 ∨ k = 49 ∨ k = 50 ∨ k = 51 := by omega
  rcases h3 with rfl | rfl | rfl | rfl
  · exact ⟨380, psX3_agrees, c0⟩
  · exact ⟨445, psX3_agreesWithAll, c1⟩
  · exact ⟨320, psX4_begin, c2⟩
  · exact ⟨940, psX4_mayEnd, c3⟩
theorem cq13 : ∀ k, 52 ≤ k → k < 56 → CkM k := by
  intro k h1 h2
  have h := ck13
  try simp only [Bool.and_eq_true] at h
  obtain ⟨⟨⟨c0, c1⟩, c2⟩, c3⟩ := h
  have h3 : k = 52 ∨ k = 53 ∨ k = 54 ∨ k = 55 := by omega
  rcases h3 with rfl | rfl | rfl | rfl
  · exact ⟨324, psX4_take, c0⟩
  · exact ⟨328, psX4_takeLetter, c1⟩
  · exact ⟨338, psX4_takePlayer, c2⟩
  · exact ⟨342, psX4_takeFirstDigit, c3⟩
theorem cq14 : ∀ k, 56 ≤ k → k < 60 → CkM k := by
  intro k h1 h2
  have h := ck14
  try simp only [Bool.and_eq_true] at h
  obtain ⟨⟨⟨c0, c1⟩, c2⟩, c3⟩ := h
  have h3 : k = 56 ∨ k = 57 ∨ k = 58 ∨ k = 59 := by omega
  rcases h3 with rfl | rfl | rfl | rfl
  · exact ⟨349, psX4_takeMore, c0⟩
  · exact ⟨345, psX4_isDigit, c1⟩
  · exact ⟨331, psX4_namesPlayer, c2⟩
  · exact ⟨334, psX4_limitOf, c3⟩
theorem cq15 : ∀ k, 60 ≤ k → k < 64 → CkM k := by
  intro k h1 h2
  have h := ck15
  try simp only [Bool.and_eq_true] at h
  obtain ⟨⟨⟨c0, c1⟩, c2⟩, c3⟩ := h
  have h3 : k = 60 ∨ k = 61 ∨ k = 62 ∨ k = 63 := by omega
  rcases h3 with rfl | rfl | rfl | rfl
  · exact ⟨805, psX5_exchange, c0⟩
  · exact ⟨821, psX5_noteHas, c1⟩
  · exact ⟨841, psX5_noteLacks, c2⟩
  · exact ⟨848, psX5_noteShows, c3⟩
theorem cq16 : ∀ k, 64 ≤ k → k < 68 → CkM k := by
  intro k h1 h2
  have h := ck16
  try simp only [Bool.and_eq_true] at h
  obtain ⟨⟨⟨c0, c1⟩, c2⟩, c3⟩ := h
  have h3 : k = 64 ∨ k = 65 ∨ k = 66 ∨ k = 67 := by omega
  rcases h3 with rfl | rfl | rfl | rfl
  · exact ⟨861, psX5_dropClue, c0⟩
  · exact ⟨292, psX5_dropAll, c1⟩
  · exact ⟨872, psX5_ask, c2⟩
  · exact ⟨888, psX5_look, c3⟩
theorem cq17 : ∀ k, 68 ≤ k → k < 72 → CkM k := by
  intro k h1 h2
  have h := ck17
  try simp only [Bool.and_eq_true] at h
  obtain ⟨⟨⟨c0, c1⟩, c2⟩, c3⟩ := h
  have h3 : k = 68 ∨ k = 69 ∨ k = 70 ∨ k = 71 := by omega
  rcases h3 with rfl | rfl | rfl | rfl
  · exact ⟨899, psX5_accuse, c0⟩
  · exact ⟨911, psX5_append, c1⟩
  · exact ⟨312, psX5_clearBuffer, c2⟩
  · exact ⟨316, psX5_firstError, c3⟩
theorem cq18 : ∀ k, 72 ≤ k → k < 76 → CkM k := by
  intro k h1 h2
  have h := ck18
  try simp only [Bool.and_eq_true] at h
  obtain ⟨⟨⟨c0, c1⟩, c2⟩, c3⟩ := h
  have h3 : k = 72 ∨ k = 73 ∨ k = 74 ∨ k = 75 := by omega
  rcases h3 with rfl | rfl | rfl | rfl
  · exact ⟨935, psX5_work, c0⟩
  · exact ⟨353, psX5_hasStopped, c1⟩
  · exact ⟨762, psX5_stoppedPart, c2⟩
  · exact ⟨786, psX5_whyStopped, c3⟩
theorem cq19 : ∀ k, 76 ≤ k → k < 80 → CkM k := by
  intro k h1 h2
  have h := ck19
  try simp only [Bool.and_eq_true] at h
  obtain ⟨⟨⟨c0, c1⟩, c2⟩, c3⟩ := h
  have h3 : k = 76 ∨ k = 77 ∨ k = 78 ∨ k = 79 := by omega
  rcases h3 with rfl | rfl | rfl | rfl
  · exact ⟨965, psX5_undo, c0⟩
  · exact ⟨357, psX5_keep, c1⟩
  · exact ⟨973, psX5_restore, c2⟩
  · exact ⟨361, psX5_savedStates, c3⟩
theorem cq20 : ∀ k, 80 ≤ k → k < 84 → CkM k := by
  intro k h1 h2
  have h := ck20
  try simp only [Bool.and_eq_true] at h
  obtain ⟨⟨⟨c0, c1⟩, c2⟩, c3⟩ := h
  have h3 : k = 80 ∨ k = 81 ∨ k = 82 ∨ k = 83 := by omega
  rcases h3 with rfl | rfl | rfl | rfl
  · exact ⟨730, psX5_truePlace, c0⟩
  · exact ⟨365, psX5_trueEnvelope, c1⟩
  · exact ⟨372, psX5_clues, c2⟩
  · exact ⟨637, psX5_kindOf, c3⟩
theorem cq21 : ∀ k, 84 ≤ k → k < 88 → CkM k := by
  intro k h1 h2
  have h := ck21
  try simp only [Bool.and_eq_true] at h
  obtain ⟨⟨⟨c0, c1⟩, c2⟩, c3⟩ := h
  have h3 : k = 84 ∨ k = 85 ∨ k = 86 ∨ k = 87 := by omega
  rcases h3 with rfl | rfl | rfl | rfl
  · exact ⟨713, psX5_playerOf, c0⟩
  · exact ⟨717, psX5_cardsOf, c1⟩
  · exact ⟨721, psX5_isTrue, c2⟩
  · exact ⟨376, psX5_untrueClues, c3⟩
theorem cq22 : ∀ k, 88 ≤ k → k < 92 → CkM k := by
  intro k h1 h2
  have h := ck22
  try simp only [Bool.and_eq_true] at h
  obtain ⟨⟨⟨c0, c1⟩, c2⟩, c3⟩ := h
  have h3 : k = 88 ∨ k = 89 ∨ k = 90 ∨ k = 91 := by omega
  rcases h3 with rfl | rfl | rfl | rfl
  · exact ⟨384, psX5_deals, c0⟩
  · exact ⟨424, psX5_dealsByHands, c1⟩
  · exact ⟨1001, psX5_dealsWith, c2⟩
  · exact ⟨1012, psX5_mayBe, c3⟩
theorem cq23 : ∀ k, 92 ≤ k → k < 96 → CkM k := by
  intro k h1 h2
  have h := ck23
  try simp only [Bool.and_eq_true] at h
  obtain ⟨⟨⟨c0, c1⟩, c2⟩, c3⟩ := h
  have h3 : k = 92 ∨ k = 93 ∨ k = 94 ∨ k = 95 := by omega
  rcases h3 with rfl | rfl | rfl | rfl
  · exact ⟨1019, psX5_certainPlace, c0⟩
  · exact ⟨450, psX5_certainCards, c1⟩
  · exact ⟨466, psX5_isBroken, c2⟩
  · exact ⟨1026, psX5_mayBeByRules, c3⟩
theorem cq24 : ∀ k, 96 ≤ k → k < 100 → CkM k := by
  intro k h1 h2
  have h := ck24
  try simp only [Bool.and_eq_true] at h
  obtain ⟨⟨⟨c0, c1⟩, c2⟩, c3⟩ := h
  have h3 : k = 96 ∨ k = 97 ∨ k = 98 ∨ k = 99 := by omega
  rcases h3 with rfl | rfl | rfl | rfl
  · exact ⟨1033, psX5_placeByRules, c0⟩
  · exact ⟨540, psX5_crossedOff, c1⟩
  · exact ⟨545, psX5_hiddenCrosses, c2⟩
  · exact ⟨1040, psX5_envelopeDeals, c3⟩
theorem cq25 : ∀ k, 100 ≤ k → k < 104 → CkM k := by
  intro k h1 h2
  have h := ck25
  try simp only [Bool.and_eq_true] at h
  obtain ⟨⟨⟨c0, c1⟩, c2⟩, c3⟩ := h
  have h3 : k = 100 ∨ k = 101 ∨ k = 102 ∨ k = 103 := by omega
  rcases h3 with rfl | rfl | rfl | rfl
  · exact ⟨553, psX5_envelopes, c0⟩
  · exact ⟨1051, psX5_bestAccusation, c1⟩
  · exact ⟨561, psX5_isSolved, c2⟩
  · exact ⟨1062, psX5_dealsIfPassed, c3⟩
theorem cq26 : ∀ k, 104 ≤ k → k < 108 → CkM k := by
  intro k h1 h2
  have h := ck26
  try simp only [Bool.and_eq_true] at h
  obtain ⟨⟨⟨c0, c1⟩, c2⟩, c3⟩ := h
  have h3 : k = 104 ∨ k = 105 ∨ k = 106 ∨ k = 107 := by omega
  rcases h3 with rfl | rfl | rfl | rfl
  · exact ⟨1070, psX5_leftBy, c0⟩
  · exact ⟨1077, psX5_bestQuestion, c1⟩
  · exact ⟨1084, psX5_dealsWithout, c2⟩
  · exact ⟨565, psX5_idleClues, c3⟩
theorem cq27 : ∀ k, 108 ≤ k → k < 112 → CkM k := by
  intro k h1 h2
  have h := ck27
  try simp only [Bool.and_eq_true] at h
  obtain ⟨⟨⟨c0, c1⟩, c2⟩, c3⟩ := h
  have h3 : k = 108 ∨ k = 109 ∨ k = 110 ∨ k = 111 := by omega
  rcases h3 with rfl | rfl | rfl | rfl
  · exact ⟨577, psX5_chance, c0⟩
  · exact ⟨593, psX5_digest, c1⟩
  · exact ⟨602, psX5_mix, c2⟩
  · exact ⟨608, psX5_mixFlag, c3⟩
theorem cq28 : ∀ k, 112 ≤ k → k < 116 → CkM k := by
  intro k h1 h2
  have h := ck28
  try simp only [Bool.and_eq_true] at h
  obtain ⟨⟨⟨c0, c1⟩, c2⟩, c3⟩ := h
  have h3 : k = 112 ∨ k = 113 ∨ k = 114 ∨ k = 115 := by omega
  rcases h3 with rfl | rfl | rfl | rfl
  · exact ⟨598, psX5_mixCounts, c0⟩
  · exact ⟨612, psX5_mixBest, c1⟩
  · exact ⟨633, psX5_mixClues, c2⟩
  · exact ⟨726, psX5_mixCards, c3⟩
theorem cq29 : ∀ k, 116 ≤ k → k < 120 → CkM k := by
  intro k h1 h2
  have h := ck29
  try simp only [Bool.and_eq_true] at h
  obtain ⟨⟨⟨c0, c1⟩, c2⟩, c3⟩ := h
  have h3 : k = 116 ∨ k = 117 ∨ k = 118 ∨ k = 119 := by omega
  rcases h3 with rfl | rfl | rfl | rfl
  · exact ⟨751, psX5_mixTriples, c0⟩
  · exact ⟨757, psX5_mixStop, c1⟩
  · exact ⟨796, psX5_mixBuffer, c2⟩
  · exact ⟨789, psX5_bitsOfShare, c3⟩
theorem cq30 : ∀ k, 120 ≤ k → k < 124 → CkM k := by
  intro k h1 h2
  have h := ck30
  try simp only [Bool.and_eq_true] at h
  obtain ⟨⟨⟨c0, c1⟩, c2⟩, c3⟩ := h
  have h3 : k = 120 ∨ k = 121 ∨ k = 122 ∨ k = 123 := by omega
  rcases h3 with rfl | rfl | rfl | rfl
  · exact ⟨945, psX5_doPart, c0⟩
  · exact ⟨949, psX5_addPart, c1⟩
  · exact ⟨296, psX5_remember, c2⟩
  · exact ⟨300, psX5_dropOldest, c3⟩
theorem cq31 : ∀ k, 124 ≤ k → k < 128 → CkM k := by
  intro k h1 h2
  have h := ck31
  try simp only [Bool.and_eq_true] at h
  obtain ⟨⟨⟨c0, c1⟩, c2⟩, c3⟩ := h
  have h3 : k = 124 ∨ k = 125 ∨ k = 126 ∨ k = 127 := by omega
  rcases h3 with rfl | rfl | rfl | rfl
  · exact ⟨308, psX5_forgetCounts, c0⟩
  · exact ⟨388, psX5_countedDeals, c1⟩
  · exact ⟨470, psX5_filledSheet, c2⟩
  · exact ⟨428, psX5_countedHands, c3⟩
theorem cq32 : ∀ k, 128 ≤ k → k < 132 → CkM k := by
  intro k h1 h2
  have h := ck32
  try simp only [Bool.and_eq_true] at h
  obtain ⟨⟨⟨c0, c1⟩, c2⟩, c3⟩ := h
  have h3 : k = 128 ∨ k = 129 ∨ k = 130 ∨ k = 131 := by omega
  rcases h3 with rfl | rfl | rfl | rfl
  · exact ⟨733, psX5_checkCard, c0⟩
  · exact ⟨824, psX5_checkPlayer, c1⟩
  · exact ⟨1004, psX5_checkPlace, c2⟩
  · exact ⟨1043, psX5_checkTriple, c3⟩
theorem cq33 : ∀ k, 132 ≤ k → k < 136 → CkM k := by
  intro k h1 h2
  have h := ck33
  try simp only [Bool.and_eq_true] at h
  obtain ⟨⟨⟨c0, c1⟩, c2⟩, c3⟩ := h
  have h3 : k = 132 ∨ k = 133 ∨ k = 134 ∨ k = 135 := by omega
  rcases h3 with rfl | rfl | rfl | rfl
  · exact ⟨851, psX5_checkCards, c0⟩
  · exact ⟨641, psX5_checkClue, c1⟩
  · exact ⟨829, psX5_checkRoomForClue, c2⟩
  · exact ⟨766, psX5_checkStopped, c3⟩
theorem cq34 : ∀ k, 136 ≤ k → k < 140 → CkM k := by
  intro k h1 h2
  have h := ck34
  try simp only [Bool.and_eq_true] at h
  obtain ⟨⟨⟨c0, c1⟩, c2⟩, c3⟩ := h
  have h3 : k = 136 ∨ k = 137 ∨ k = 138 ∨ k = 139 := by omega
  rcases h3 with rfl | rfl | rfl | rfl
  · exact ⟨1054, psX5_checkSome, c0⟩
  · exact ⟨438, psX5_mask, c1⟩
  · exact ⟨414, psX5_cardsOfKind, c2⟩
  · exact ⟨435, psX5_cardsOfTriple, c3⟩
theorem cq35 : ∀ k, 140 ≤ k → k < 144 → CkM k := by
  intro k h1 h2
  have h := ck35
  try simp only [Bool.and_eq_true] at h
  obtain ⟨⟨⟨c0, c1⟩, c2⟩, c3⟩ := h
  have h3 : k = 140 ∨ k = 141 ∨ k = 142 ∨ k = 143 := by omega
  rcases h3 with rfl | rfl | rfl | rfl
  · exact ⟨368, psX5_numberOfTriple, c0⟩
  · exact ⟨811, psX5_isTriple, c1⟩
  · exact ⟨808, psX5_exchanged, c2⟩
  · exact ⟨1152, psX6_thrown, c3⟩
theorem cq36 : ∀ k, 144 ≤ k → k < 148 → CkM k := by
  intro k h1 h2
  have h := ck36
  try simp only [Bool.and_eq_true] at h
  obtain ⟨⟨⟨c0, c1⟩, c2⟩, c3⟩ := h
  have h3 : k = 144 ∨ k = 145 ∨ k = 146 ∨ k = 147 := by omega
  rcases h3 with rfl | rfl | rfl | rfl
  · exact ⟨1166, psX6_fails, c0⟩
  · exact ⟨1162, psX6_in, c1⟩
  · exact ⟨1159, psX6_isCard, c2⟩
  · exact ⟨1192, psX6_isPlayer, c3⟩
theorem cq37 : ∀ k, 148 ≤ k → k < 152 → CkM k := by
  intro k h1 h2
  have h := ck37
  try simp only [Bool.and_eq_true] at h
  obtain ⟨⟨⟨c0, c1⟩, c2⟩, c3⟩ := h
  have h3 : k = 148 ∨ k = 149 ∨ k = 150 ∨ k = 151 := by omega
  rcases h3 with rfl | rfl | rfl | rfl
  · exact ⟨1524, psX6_isTriple, c0⟩
  · exact ⟨1211, psX6_areOf, c1⟩
  · exact ⟨1222, psX6_isClue, c2⟩
  · exact ⟨1350, psX6_of, c3⟩
theorem cq38 : ∀ k, 152 ≤ k → k < 156 → CkM k := by
  intro k h1 h2
  have h := ck38
  try simp only [Bool.and_eq_true] at h
  obtain ⟨⟨⟨c0, c1⟩, c2⟩, c3⟩ := h
  have h3 : k = 152 ∨ k = 153 ∨ k = 154 ∨ k = 155 := by omega
  rcases h3 with rfl | rfl | rfl | rfl
  · exact ⟨1214, psX6_numbered, c0⟩
  · exact ⟨1185, psX6_maskOf, c1⟩
  · exact ⟨1170, psX6_records, c2⟩
  · exact ⟨1370, psX6_agrees, c3⟩
theorem cq39 : ∀ k, 156 ≤ k → k < 160 → CkM k := by
  intro k h1 h2
  have h := ck39
  try simp only [Bool.and_eq_true] at h
  obtain ⟨⟨⟨c0, c1⟩, c2⟩, c3⟩ := h
  have h3 : k = 156 ∨ k = 157 ∨ k = 158 ∨ k = 159 := by omega
  rcases h3 with rfl | rfl | rfl | rfl
  · exact ⟨1393, psX6_agreesAll, c0⟩
  · exact ⟨1397, psX6_countsDeal, c1⟩
  · exact ⟨1389, psX6_bits, c2⟩
  · exact ⟨1386, psX6_goes, c3⟩
theorem cq40 : ∀ k, 160 ≤ k → k < 164 → CkM k := by
  intro k h1 h2
  have h := ck40
  try simp only [Bool.and_eq_true] at h
  obtain ⟨⟨⟨c0, c1⟩, c2⟩, c3⟩ := h
  have h3 : k = 160 ∨ k = 161 ∨ k = 162 ∨ k = 163 := by omega
  rcases h3 with rfl | rfl | rfl | rfl
  · exact ⟨1413, psX6_surveys, c0⟩
  · exact ⟨1425, psX6_certain, c1⟩
  · exact ⟨1433, psX6_certainMany, c2⟩
  · exact ⟨1532, psX6_envelopeMany, c3⟩
theorem cq41 : ∀ k, 164 ≤ k → k < 168 → CkM k := by
  intro k h1 h2
  have h := ck41
  try simp only [Bool.and_eq_true] at h
  obtain ⟨⟨⟨c0, c1⟩, c2⟩, c3⟩ := h
  have h3 : k = 164 ∨ k = 165 ∨ k = 166 ∨ k = 167 := by omega
  rcases h3 with rfl | rfl | rfl | rfl
  · exact ⟨1540, psX6_bestIn, c0⟩
  · exact ⟨1560, psX6_leaves, c1⟩
  · exact ⟨1568, psX6_bestFor, c2⟩
  · exact ⟨1580, psX6_idleMany, c3⟩
theorem cq42 : ∀ k, 168 ≤ k → k < 172 → CkM k := by
  intro k h1 h2
  have h := ck42
  try simp only [Bool.and_eq_true] at h
  obtain ⟨⟨⟨c0, c1⟩, c2⟩, c3⟩ := h
  have h3 : k = 168 ∨ k = 169 ∨ k = 170 ∨ k = 171 := by omega
  rcases h3 with rfl | rfl | rfl | rfl
  · exact ⟨1517, psX6_mayMany, c0⟩
  · exact ⟨1182, psX6_looksAtMaster, c1⟩
  · exact ⟨1178, psX6_masterTriple, c2⟩
  · exact ⟨1366, psX6_holdsTrue, c3⟩
theorem cq43 : ∀ k, 172 ≤ k → k < 176 → CkM k := by
  intro k h1 h2
  have h := ck43
  try simp only [Bool.and_eq_true] at h
  obtain ⟨⟨⟨c0, c1⟩, c2⟩, c3⟩ := h
  have h3 : k = 172 ∨ k = 173 ∨ k = 174 ∨ k = 175 := by omega
  rcases h3 with rfl | rfl | rfl | rfl
  · exact ⟨1378, psX6_untrueMany, c0⟩
  · exact ⟨1449, psX6_keeps, c1⟩
  · exact ⟨1453, psX6_loses, c2⟩
  · exact ⟨1465, psX6_mayLie, c3⟩
theorem cq44 : ∀ k, 176 ≤ k → k < 180 → CkM k := by
  intro k h1 h2
  have h := ck44
  try simp only [Bool.and_eq_true] at h
  obtain ⟨⟨⟨c0, c1⟩, c2⟩, c3⟩ := h
  have h3 : k = 176 ∨ k = 177 ∨ k = 178 ∨ k = 179 := by omega
  rcases h3 with rfl | rfl | rfl | rfl
  · exact ⟨1461, psX6_isOnly, c0⟩
  · exact ⟨1457, psX6_counts, c1⟩
  · exact ⟨1469, psX6_fixes, c2⟩
  · exact ⟨1473, psX6_bars, c3⟩
theorem cq45 : ∀ k, 180 ≤ k → k < 184 → CkM k := by
  intro k h1 h2
  have h := ck45
  try simp only [Bool.and_eq_true] at h
  obtain ⟨⟨⟨c0, c1⟩, c2⟩, c3⟩ := h
  have h3 : k = 180 ∨ k = 181 ∨ k = 182 ∨ k = 183 := by omega
  rcases h3 with rfl | rfl | rfl | rfl
  · exact ⟨1445, psX6_usesClue, c0⟩
  · exact ⟨1477, psX6_usesKind, c1⟩
  · exact ⟨1481, psX6_usesPlayer, c2⟩
  · exact ⟨1485, psX6_breaksDown, c3⟩
theorem cq46 : ∀ k, 184 ≤ k → k < 188 → CkM k := by
  intro k h1 h2
  have h := ck46
  try simp only [Bool.and_eq_true] at h
  obtain ⟨⟨⟨c0, c1⟩, c2⟩, c3⟩ := h
  have h3 : k = 184 ∨ k = 185 ∨ k = 186 ∨ k = 187 := by omega
  rcases h3 with rfl | rfl | rfl | rfl
  · exact ⟨1441, psX6_rules, c0⟩
  · exact ⟨1505, psX6_crossedMany, c1⟩
  · exact ⟨1497, psX6_only, c2⟩
  · exact ⟨1200, psX6_adds, c3⟩
theorem cq47 : ∀ k, 188 ≤ k → k < 192 → CkM k := by
  intro k h1 h2
  have h := ck47
  try simp only [Bool.and_eq_true] at h
  obtain ⟨⟨⟨c0, c1⟩, c2⟩, c3⟩ := h
  have h3 : k = 188 ∨ k = 189 ∨ k = 190 ∨ k = 191 := by omega
  rcases h3 with rfl | rfl | rfl | rfl
  · exact ⟨1226, psX6_drops, c0⟩
  · exact ⟨1242, psX6_asks, c1⟩
  · exact ⟨1250, psX6_looksAt, c2⟩
  · exact ⟨1258, psX6_accuses, c3⟩
theorem cq48 : ∀ k, 192 ≤ k → k < 196 → CkM k := by
  intro k h1 h2
  have h := ck48
  try simp only [Bool.and_eq_true] at h
  obtain ⟨⟨⟨c0, c1⟩, c2⟩, c3⟩ := h
  have h3 : k = 192 ∨ k = 193 ∨ k = 194 ∨ k = 195 := by omega
  rcases h3 with rfl | rfl | rfl | rfl
  · exact ⟨1174, psX6_changes, c0⟩
  · exact ⟨1156, psX6_exchange, c1⟩
  · exact ⟨1196, psX6_notes, c2⟩
  · exact ⟨1189, psX6_noteHas, c3⟩
theorem cq49 : ∀ k, 196 ≤ k → k < 200 → CkM k := by
  intro k h1 h2
  have h := ck49
  try simp only [Bool.and_eq_true] at h
  obtain ⟨⟨⟨c0, c1⟩, c2⟩, c3⟩ := h
  have h3 : k = 196 ∨ k = 197 ∨ k = 198 ∨ k = 199 := by omega
  rcases h3 with rfl | rfl | rfl | rfl
  · exact ⟨1204, psX6_noteLacks, c0⟩
  · exact ⟨1208, psX6_noteShows, c1⟩
  · exact ⟨1218, psX6_dropClue, c2⟩
  · exact ⟨1230, psX6_dropAll, c3⟩
theorem cq50 : ∀ k, 200 ≤ k → k < 204 → CkM k := by
  intro k h1 h2
  have h := ck50
  try simp only [Bool.and_eq_true] at h
  obtain ⟨⟨⟨c0, c1⟩, c2⟩, c3⟩ := h
  have h3 : k = 200 ∨ k = 201 ∨ k = 202 ∨ k = 203 := by omega
  rcases h3 with rfl | rfl | rfl | rfl
  · exact ⟨1238, psX6_barsQuestion, c0⟩
  · exact ⟨1234, psX6_ask, c1⟩
  · exact ⟨1246, psX6_look, c2⟩
  · exact ⟨1254, psX6_accuse, c3⟩
theorem cq51 : ∀ k, 204 ≤ k → k < 208 → CkM k := by
  intro k h1 h2
  have h := ck51
  try simp only [Bool.and_eq_true] at h
  obtain ⟨⟨⟨c0, c1⟩, c2⟩, c3⟩ := h
  have h3 : k = 204 ∨ k = 205 ∨ k = 206 ∨ k = 207 := by omega
  rcases h3 with rfl | rfl | rfl | rfl
  · exact ⟨1262, psX6_append, c0⟩
  · exact ⟨1266, psX6_clearBuffer, c1⟩
  · exact ⟨1282, psX6_sign, c2⟩
  · exact ⟨1286, psX6_takes, c3⟩
theorem cq52 : ∀ k, 208 ≤ k → k < 212 → CkM k := by
  intro k h1 h2
  have h := ck52
  try simp only [Bool.and_eq_true] at h
  obtain ⟨⟨⟨c0, c1⟩, c2⟩, c3⟩ := h
  have h3 : k = 208 ∨ k = 209 ∨ k = 210 ∨ k = 211 := by omega
  rcases h3 with rfl | rfl | rfl | rfl
  · exact ⟨1290, psX6_number, c0⟩
  · exact ⟨1278, psX6_readsPart, c1⟩
  · exact ⟨1274, psX6_readsWorks, c2⟩
  · exact ⟨1270, psX6_firstError, c3⟩
theorem cq53 : ∀ k, 212 ≤ k → k < 216 → CkM k := by
  intro k h1 h2
  have h := ck53
  try simp only [Bool.and_eq_true] at h
  obtain ⟨⟨⟨c0, c1⟩, c2⟩, c3⟩ := h
  have h3 : k = 212 ∨ k = 213 ∨ k = 214 ∨ k = 215 := by omega
  rcases h3 with rfl | rfl | rfl | rfl
  · exact ⟨1298, psX6_does, c0⟩
  · exact ⟨1294, psX6_work, c1⟩
  · exact ⟨1302, psX6_hasStopped, c2⟩
  · exact ⟨1306, psX6_stoppedPart, c3⟩
theorem cq54 : ∀ k, 216 ≤ k → k < 220 → CkM k := by
  intro k h1 h2
  have h := ck54
  try simp only [Bool.and_eq_true] at h
  obtain ⟨⟨⟨c0, c1⟩, c2⟩, c3⟩ := h
  have h3 : k = 216 ∨ k = 217 ∨ k = 218 ∨ k = 219 := by omega
  rcases h3 with rfl | rfl | rfl | rfl
  · exact ⟨1310, psX6_whyStopped, c0⟩
  · exact ⟨1314, psX6_undo, c1⟩
  · exact ⟨1318, psX6_keep, c2⟩
  · exact ⟨1322, psX6_restore, c3⟩
theorem cq55 : ∀ k, 220 ≤ k → k < 224 → CkM k := by
  intro k h1 h2
  have h := ck55
  try simp only [Bool.and_eq_true] at h
  obtain ⟨⟨⟨c0, c1⟩, c2⟩, c3⟩ := h
  have h3 : k = 220 ∨ k = 221 ∨ k = 222 ∨ k = 223 := by omega
  rcases h3 with rfl | rfl | rfl | rfl
  · exact ⟨1326, psX6_savedStates, c0⟩
  · exact ⟨1330, psX6_truePlace, c1⟩
  · exact ⟨1334, psX6_trueEnvelope, c2⟩
  · exact ⟨1338, psX6_clues, c3⟩
theorem cq56 : ∀ k, 224 ≤ k → k < 228 → CkM k := by
  intro k h1 h2
  have h := ck56
  try simp only [Bool.and_eq_true] at h
  obtain ⟨⟨⟨c0, c1⟩, c2⟩, c3⟩ := h
  have h3 : k = 224 ∨ k = 225 ∨ k = 226 ∨ k = 227 := by omega
  rcases h3 with rfl | rfl | rfl | rfl
  · exact ⟨1346, psX6_tells, c0⟩
  · exact ⟨1342, psX6_kindOf, c1⟩
  · exact ⟨1354, psX6_playerOf, c2⟩
  · exact ⟨1358, psX6_cardsOf, c3⟩
theorem cq57 : ∀ k, 228 ≤ k → k < 232 → CkM k := by
  intro k h1 h2
  have h := ck57
  try simp only [Bool.and_eq_true] at h
  obtain ⟨⟨⟨c0, c1⟩, c2⟩, c3⟩ := h
  have h3 : k = 228 ∨ k = 229 ∨ k = 230 ∨ k = 231 := by omega
  rcases h3 with rfl | rfl | rfl | rfl
  · exact ⟨1362, psX6_isTrue, c0⟩
  · exact ⟨1374, psX6_untrueClues, c1⟩
  · exact ⟨1382, psX6_deals, c2⟩
  · exact ⟨1401, psX6_dealsByHands, c3⟩
theorem cq58 : ∀ k, 232 ≤ k → k < 236 → CkM k := by
  intro k h1 h2
  have h := ck58
  try simp only [Bool.and_eq_true] at h
  obtain ⟨⟨⟨c0, c1⟩, c2⟩, c3⟩ := h
  have h3 : k = 232 ∨ k = 233 ∨ k = 234 ∨ k = 235 := by omega
  rcases h3 with rfl | rfl | rfl | rfl
  · exact ⟨1409, psX6_tellsWith, c0⟩
  · exact ⟨1405, psX6_dealsWith, c1⟩
  · exact ⟨1417, psX6_mayBe, c2⟩
  · exact ⟨1421, psX6_certainPlace, c3⟩
theorem cq59 : ∀ k, 236 ≤ k → k < 240 → CkM k := by
  intro k h1 h2
  have h := ck59
  try simp only [Bool.and_eq_true] at h
  obtain ⟨⟨⟨c0, c1⟩, c2⟩, c3⟩ := h
  have h3 : k = 236 ∨ k = 237 ∨ k = 238 ∨ k = 239 := by omega
  rcases h3 with rfl | rfl | rfl | rfl
  · exact ⟨1429, psX6_certainCards, c0⟩
  · exact ⟨1437, psX6_isBroken, c1⟩
  · exact ⟨1489, psX6_mayBeByRules, c2⟩
  · exact ⟨1493, psX6_placeByRules, c3⟩
theorem cq60 : ∀ k, 240 ≤ k → k < 244 → CkM k := by
  intro k h1 h2
  have h := ck60
  try simp only [Bool.and_eq_true] at h
  obtain ⟨⟨⟨c0, c1⟩, c2⟩, c3⟩ := h
  have h3 : k = 240 ∨ k = 241 ∨ k = 242 ∨ k = 243 := by omega
  rcases h3 with rfl | rfl | rfl | rfl
  · exact ⟨1501, psX6_crossedOff, c0⟩
  · exact ⟨1513, psX6_hidden, c1⟩
  · exact ⟨1509, psX6_hiddenCrosses, c2⟩
  · exact ⟨1521, psX6_envelopeDeals, c3⟩
theorem cq61 : ∀ k, 244 ≤ k → k < 248 → CkM k := by
  intro k h1 h2
  have h := ck61
  try simp only [Bool.and_eq_true] at h
  obtain ⟨⟨⟨c0, c1⟩, c2⟩, c3⟩ := h
  have h3 : k = 244 ∨ k = 245 ∨ k = 246 ∨ k = 247 := by omega
  rcases h3 with rfl | rfl | rfl | rfl
  · exact ⟨1528, psX6_envelopes, c0⟩
  · exact ⟨1536, psX6_bestAccusation, c1⟩
  · exact ⟨1544, psX6_isSolved, c2⟩
  · exact ⟨1552, psX6_barsAsked, c3⟩
theorem cq62 : ∀ k, 248 ≤ k → k < 252 → CkM k := by
  intro k h1 h2
  have h := ck62
  try simp only [Bool.and_eq_true] at h
  obtain ⟨⟨⟨c0, c1⟩, c2⟩, c3⟩ := h
  have h3 : k = 248 ∨ k = 249 ∨ k = 250 ∨ k = 251 := by omega
  rcases h3 with rfl | rfl | rfl | rfl
  · exact ⟨1548, psX6_dealsIfPassed, c0⟩
  · exact ⟨1556, psX6_leftBy, c1⟩
  · exact ⟨1564, psX6_bestQuestion, c2⟩
  · exact ⟨1572, psX6_dealsWithout, c3⟩
theorem cq63 : ∀ k, 252 ≤ k → k < 256 → CkM k := by
  intro k h1 h2
  have h := ck63
  try simp only [Bool.and_eq_true] at h
  obtain ⟨⟨⟨c0, c1⟩, c2⟩, c3⟩ := h
  have h3 : k = 252 ∨ k = 253 ∨ k = 254 ∨ k = 255 := by omega
  rcases h3 with rfl | rfl | rfl | rfl
  · exact ⟨1576, psX6_idleClues, c0⟩
  · exact ⟨1588, psX6_chanceNow, c1⟩
  · exact ⟨1584, psX6_chance, c2⟩
  · exact ⟨1597, psX6_digestAll, c3⟩
theorem cq64 : ∀ k, 256 ≤ k → k < 260 → CkM k := by
  intro k h1 h2
  have h := ck64
  try simp only [Bool.and_eq_true] at h
  obtain ⟨⟨⟨c0, c1⟩, c2⟩, c3⟩ := h
  have h3 : k = 256 ∨ k = 257 ∨ k = 258 ∨ k = 259 := by omega
  rcases h3 with rfl | rfl | rfl | rfl
  · exact ⟨1602, psX6_digestClues, c0⟩
  · exact ⟨1606, psX6_digestCards, c1⟩
  · exact ⟨1592, psX6_digest, c2⟩
  · exact ⟨1612, psJxe99ae_isNaN_b9ae7, c3⟩
theorem cq65 : ∀ k, 260 ≤ k → k < 261 → CkM k := by
  intro k h1 h2
  have h := ck65
  have h3 : k = 260 := by omega
  rw [h3]
  exact ⟨417, psJ6_bitCount_0f7a4, h⟩
theorem ckM : ∀ k, k < nM → CkM k := by
  intro k h
  have h0 : k < 261 := h
  by_cases h1 : k < 4
  · exact cq0 k (by omega) h1
  by_cases h2 : k < 8
  · exact cq1 k (by omega) h2
  by_cases h3 : k < 12
  · exact cq2 k (by omega) h3
  by_cases h4 : k < 16
  · exact cq3 k (by omega) h4
  by_cases h5 : k < 20
  · exact cq4 k (by omega) h5
  by_cases h6 : k < 24
  · exact cq5 k (by omega) h6
  by_cases h7 : k < 28
  · exact cq6 k (by omega) h7
  by_cases h8 : k < 32
  · exact cq7 k (by omega) h8
  by_cases h9 : k < 36
  · exact cq8 k (by omega) h9
  by_cases h10 : k < 40
  · exact cq9 k (by omega) h10
  by_cases h11 : k < 44
  · exact cq10 k (by omega) h11
  by_cases h12 : k < 48
  · exact cq11 k (by omega) h12
  by_cases h13 : k < 52
  · exact cq12 k (by omega) h13
  by_cases h14 : k < 56
  · exact cq13 k (by omega) h14
  by_cases h15 : k < 60
  · exact cq14 k (by omega) h15
  by_cases h16 : k < 64
  · exact cq15 k (by omega) h16
  by_cases h17 : k < 68
  · exact cq16 k (by omega) h17
  by_cases h18 : k < 72
  · exact cq17 k (by omega) h18
  by_cases h19 : k < 76
  · exact cq18 k (by omega) h19
  by_cases h20 : k < 80
  · exact cq19 k (by omega) h20
  by_cases h21 : k < 84
  · exact cq20 k (by omega) h21
  by_cases h22 : k < 88
  · exact cq21 k (by omega) h22
  by_cases h23 : k < 92
  · exact cq22 k (by omega) h23
  by_cases h24 : k < 96
  · exact cq23 k (by omega) h24
  by_cases h25 : k < 100
  · exact cq24 k (by omega) h25
  by_cases h26 : k < 104
  · exact cq25 k (by omega) h26
  by_cases h27 : k < 108
  · exact cq26 k (by omega) h27
  by_cases h28 : k < 112
  · exact cq27 k (by omega) h28
  by_cases h29 : k < 116
  · exact cq28 k (by omega) h29
  by_cases h30 : k < 120
  · exact cq29 k (by omega) h30
  by_cases h31 : k < 124
  · exact cq30 k (by omega) h31
  by_cases h32 : k < 128
  · exact cq31 k (by omega) h32
  by_cases h33 : k < 132
  · exact cq32 k (by omega) h33
  by_cases h34 : k < 136
  · exact cq33 k (by omega) h34
  by_cases h35 : k < 140
  · exact cq34 k (by omega) h35
  by_cases h36 : k < 144
  · exact cq35 k (by omega) h36
  by_cases h37 : k < 148
  · exact cq36 k (by omega) h37
  by_cases h38 : k < 152
  · exact cq37 k (by omega) h38
  by_cases h39 : k < 156
  · exact cq38 k (by omega) h39
  by_cases h40 : k < 160
  · exact cq39 k (by omega) h40
  by_cases h41 : k < 164
  · exact cq40 k (by omega) h41
  by_cases h42 : k < 168
  · exact cq41 k (by omega) h42
  by_cases h43 : k < 172
  · exact cq42 k (by omega) h43
  by_cases h44 : k < 176
  · exact cq43 k (by omega) h44
  by_cases h45 : k < 180
  · exact cq44 k (by omega) h45
  by_cases h46 : k < 184
  · exact cq45 k (by omega) h46
  by_cases h47 : k < 188
  · exact cq46 k (by omega) h47
  by_cases h48 : k < 192
  · exact cq47 k (by omega) h48
  by_cases h49 : k < 196
  · exact cq48 k (by omega) h49
  by_cases h50 : k < 200
  · exact cq49 k (by omega) h50
  by_cases h51 : k < 204
  · exact cq50 k (by omega) h51
  by_cases h52 : k < 208
  · exact cq51 k (by omega) h52
  by_cases h53 : k < 212
  · exact cq52 k (by omega) h53
  by_cases h54 : k < 216
  · exact cq53 k (by omega) h54
  by_cases h55 : k < 220
  · exact cq54 k (by omega) h55
  by_cases h56 : k < 224
  · exact cq55 k (by omega) h56
  by_cases h57 : k < 228
  · exact cq56 k (by omega) h57
  by_cases h58 : k < 232
  · exact cq57 k (by omega) h58
  by_cases h59 : k < 236
  · exact cq58 k (by omega) h59
  by_cases h60 : k < 240
  · exact cq59 k (by omega) h60
  by_cases h61 : k < 244
  · exact cq60 k (by omega) h61
  by_cases h62 : k < 248
  · exact cq61 k (by omega) h62
  by_cases h63 : k < 252
  · exact cq62 k (by omega) h63
  by_cases h64 : k < 256
  · exact cq63 k (by omega) h64
  by_cases h65 : k < 260
  · exact cq64 k (by omega) h65
  by_cases h66 : k < 261
  · exact cq65 k (by omega) h66
  exact absurd h0 h66
