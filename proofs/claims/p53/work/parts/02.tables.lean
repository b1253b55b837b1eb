/-! the table of methods: an entry is (pc, instruction, length, operand): of a field 32 * class + place, of a call the callee's number (+ 1000: by a nest link),
of a branch 1024 * target + the locals that live there, of a constant its value; '.nop' entries (pc + 100000) stand ahead of labels that are reached from above -/
abbrev En : Type := Nat × (Instr × (Nat × Nat))
abbrev Mrow : Type := MethodName × (ByteArray × (Nat × (Option FieldType × (Nat × (Nat × List En)))))
def pgX0_count : List En := [(0, .aload_n 0, 1, 0), (1, .iconst 0, 1, 0), (2, .putfield 27, 3, 0), (5, .aload_n 0, 1, 0), (6, .getfield 9, 3, 2), (9, .invokestatic 31, 3, 1), (12, .aload_n 0, 1, 0), (13, .getfield 15, 3, 3), (16, .invokestatic 31, 3, 1), (19, .aload_n 0, 1, 0), (20, .getfield 18, 3, 4), (23, .invokestatic 31, 3, 1), (26, .aload_n 0, 1, 0), (27, .getfield 21, 3, 5), (30, .invokestatic 31, 3, 1), (33, .aload_n 0, 1, 0), (34, .getfield 24, 3, 6), (37, .invokestatic 31, 3, 1), (40, .iconst 0, 1, 0), (41, .iconst 0, 1, 0), (42, .aload_n 0, 1, 0), (43, .aload_n 1, 1, 0), (44, .invokestatic 35, 3, 2), (47, .aload_n 0, 1, 0), (48, .iconst 1, 1, 0), (49, .putfield 39, 3, 1), (52, .return_, 1, 0)]
def pgX0_clear : List En := [(0, .iconst 0, 1, 0), (1, .istore_n 1, 1, 0), (100002, .nop, 0, 3), (2, .iload_n 1, 1, 0), (3, .aload_n 0, 1, 0), (4, .arraylength, 1, 0), (5, .if_icmp .ge 13, 3, 18432), (8, .aload_n 0, 1, 0), (9, .iload_n 1, 1, 0), (10, .iconst 0, 1, 0), (11, .iastore, 1, 0), (12, .iinc 1 1, 3, 0), (15, .goto (-13), 3, 2051), (18, .return_, 1, 0)]
def pgX0_dealFrom : List En := [(0, .iload_n 0, 1, 0), (1, .ifCond .lt 9, 3, 10254), (4, .iload_n 0, 1, 0), (5, .bipush 9, 2, 0), (7, .if_icmp .lt 10, 3, 17423), (100010, .nop, 0, 14), (10, .aload_n 2, 1, 0), (11, .iload_n 1, 1, 0), (12, .aload_n 3, 1, 0), (13, .invokevirtual 43, 3, 4), (16, .return_, 1, 0), (17, .iconst 0, 1, 0), (18, .istore 4, 2, 0), (100020, .nop, 0, 31), (20, .iload 4, 2, 0), (22, .iconst 4, 1, 0), (23, .if_icmp .ge 76, 3, 101376), (26, .aload_n 2, 1, 0), (27, .iload_n 0, 1, 0), (28, .iload 4, 2, 0), (30, .invokevirtual 47, 3, 3), (33, .ifCond .eq 60, 3, 95263), (36, .aload_n 2, 1, 0), (37, .getfield 24, 3, 6), (40, .iload 4, 2, 0), (42, .dup2, 1, 0), (43, .iaload, 1, 0), (44, .iconst 1, 1, 0), (45, .iload_n 0, 1, 0), (46, .ishl, 1, 0), (47, .ior, 1, 0), (48, .iastore, 1, 0), (49, .iload 4, 2, 0), (51, .iconst 3, 1, 0), (52, .if_icmp .ne 13, 3, 66591), (55, .iconst 3, 1, 0), (56, .iload_n 1, 1, 0), (57, .imul, 1, 0), (58, .iload_n 0, 1, 0), (59, .iconst 3, 1, 0), (60, .irem, 1, 0), (61, .iadd, 1, 0), (62, .goto 4, 3, 67615), (65, .iload_n 1, 1, 0), (100066, .nop, 0, 31), (66, .istore 5, 2, 0), (68, .iload_n 0, 1, 0), (69, .iconst 1, 1, 0), (70, .iadd, 1, 0), (71, .iload 5, 2, 0), (73, .aload_n 2, 1, 0), (74, .aload_n 3, 1, 0), (75, .invokestatic 35, 3, 2), (78, .aload_n 2, 1, 0), (79, .getfield 24, 3, 6), (82, .iload 4, 2, 0), (84, .dup2, 1, 0), (85, .iaload, 1, 0), (86, .iconst 1, 1, 0), (87, .iload_n 0, 1, 0), (88, .ishl, 1, 0), (89, .iconst (-1), 1, 0), (90, .ixor, 1, 0), (91, .iand, 1, 0), (92, .iastore, 1, 0), (100093, .nop, 0, 31), (93, .iinc 4 1, 3, 0), (96, .goto (-76), 3, 20511), (99, .return_, 1, 0)]
def pgX0_hasRoom : List En := [(0, .aload_n 0, 1, 0), (1, .getfield 24, 3, 6), (4, .iconst 3, 1, 0), (5, .iaload, 1, 0), (6, .iload_n 1, 1, 0), (7, .iconst 3, 1, 0), (8, .idiv, 1, 0), (9, .invokestatic 51, 3, 1103), (12, .iand, 1, 0), (13, .ifCond .ne 7, 3, 20487), (16, .iconst 1, 1, 0), (17, .goto 4, 3, 21511), (20, .iconst 0, 1, 0), (100021, .nop, 0, 7), (21, .istore_n 3, 1, 0), (22, .iload_n 2, 1, 0), (23, .iconst 3, 1, 0), (24, .if_icmp .ne 5, 3, 29711), (27, .iload_n 3, 1, 0), (28, .ireturn, 1, 0), (29, .iload_n 1, 1, 0), (30, .iconst 3, 1, 0), (31, .irem, 1, 0), (32, .iconst 2, 1, 0), (33, .if_icmp .ne 7, 3, 40973), (36, .iconst 1, 1, 0), (37, .goto 4, 3, 41997), (40, .iconst 0, 1, 0), (100041, .nop, 0, 13), (41, .istore 4, 2, 0), (43, .iload 4, 2, 0), (45, .ifCond .eq 7, 3, 53253), (48, .iload_n 3, 1, 0), (49, .ifCond .ne 29, 3, 79872), (100052, .nop, 0, 5), (52, .iload_n 2, 1, 0), (53, .ifCond .lt 25, 3, 79872), (56, .iload_n 2, 1, 0), (57, .iconst 3, 1, 0), (58, .if_icmp .ge 20, 3, 79872), (61, .aload_n 0, 1, 0), (62, .getfield 24, 3, 6), (65, .iload_n 2, 1, 0), (66, .iaload, 1, 0), (67, .invokestatic 55, 3, 112), (70, .iconst 2, 1, 0), (71, .if_icmp .ge 7, 3, 79872), (74, .iconst 1, 1, 0), (75, .goto 4, 3, 80896), (78, .iconst 0, 1, 0), (100079, .nop, 0, 0), (79, .ireturn, 1, 0)]
def pgX0_judge : List En := [(0, .iconst 0, 1, 0), (1, .istore_n 3, 1, 0), (2, .iconst 0, 1, 0), (3, .istore 4, 2, 0), (5, .iconst 0, 1, 0), (6, .istore 5, 2, 0), (100008, .nop, 0, 63), (8, .iload 5, 2, 0), (10, .aload_n 2, 1, 0), (11, .getfield 60, 3, 100), (14, .if_icmp .ge 34, 3, 49179), (17, .iload_n 3, 1, 0), (18, .iconst 2, 1, 0), (19, .if_icmp .ge 29, 3, 49179), (22, .aload_n 2, 1, 0), (23, .iload 5, 2, 0), (25, .aload_n 0, 1, 0), (26, .getfield 24, 3, 6), (29, .invokevirtual 65, 3, 47), (32, .ifCond .ne 10, 3, 43071), (35, .iinc 3 1, 3, 0), (38, .iload 5, 2, 0), (40, .istore 4, 2, 0), (100042, .nop, 0, 63), (42, .iinc 5 1, 3, 0), (45, .goto (-37), 3, 8255), (48, .iload_n 3, 1, 0), (49, .ifCond .ne 11, 3, 61465), (52, .aload_n 0, 1, 0), (53, .iload_n 1, 1, 0), (54, .invokevirtual 69, 3, 5), (57, .goto 26, 3, 84992), (60, .iload_n 3, 1, 0), (61, .iconst 1, 1, 0), (62, .if_icmp .ne 21, 3, 84992), (65, .iload 4, 2, 0), (67, .bipush 20, 2, 0), (69, .if_icmp .ge 14, 3, 84992), (72, .aload_n 0, 1, 0), (73, .getfield 21, 3, 5), (76, .iload 4, 2, 0), (78, .dup2, 1, 0), (79, .iaload, 1, 0), (80, .iconst 1, 1, 0), (81, .iadd, 1, 0), (82, .iastore, 1, 0), (100083, .nop, 0, 0), (83, .return_, 1, 0)]
def pgX0_include : List En := [(0, .aload_n 0, 1, 0), (1, .dup, 1, 0), (2, .getfield 27, 3, 0), (5, .iconst 1, 1, 0), (6, .iadd, 1, 0), (7, .putfield 27, 3, 0), (10, .iconst 0, 1, 0), (11, .istore_n 2, 1, 0), (100012, .nop, 0, 7), (12, .iload_n 2, 1, 0), (13, .bipush 9, 2, 0), (15, .if_icmp .ge 45, 3, 61443), (18, .iconst 0, 1, 0), (19, .istore_n 3, 1, 0), (100020, .nop, 0, 15), (20, .iload_n 3, 1, 0), (21, .iconst 4, 1, 0), (22, .if_icmp .ge 32, 3, 55303), (25, .aload_n 0, 1, 0), (26, .getfield 9, 3, 2), (29, .iload_n 2, 1, 0), (30, .iconst 4, 1, 0), (31, .imul, 1, 0), (32, .iload_n 3, 1, 0), (33, .iadd, 1, 0), (34, .dup2, 1, 0), (35, .iaload, 1, 0), (36, .aload_n 0, 1, 0), (37, .getfield 24, 3, 6), (40, .iload_n 3, 1, 0), (41, .iaload, 1, 0), (42, .iload_n 2, 1, 0), (43, .ishr, 1, 0), (44, .iconst 1, 1, 0), (45, .iand, 1, 0), (46, .iadd, 1, 0), (47, .iastore, 1, 0), (48, .iinc 3 1, 3, 0), (51, .goto (-31), 3, 20495), (54, .iinc 2 1, 3, 0), (57, .goto (-45), 3, 12295), (60, .iload_n 1, 1, 0), (61, .ifCond .lt 19, 3, 81921), (64, .iload_n 1, 1, 0), (65, .bipush 27, 2, 0), (67, .if_icmp .ge 13, 3, 81921), (70, .aload_n 0, 1, 0), (71, .getfield 15, 3, 3), (74, .iload_n 1, 1, 0), (75, .dup2, 1, 0), (76, .iaload, 1, 0), (77, .iconst 1, 1, 0), (78, .iadd, 1, 0), (79, .iastore, 1, 0), (100080, .nop, 0, 1), (80, .iconst 0, 1, 0), (81, .istore_n 2, 1, 0), (100082, .nop, 0, 5), (82, .iload_n 2, 1, 0), (83, .iconst 3, 1, 0), (84, .if_icmp .ge 34, 3, 120832), (87, .aload_n 0, 1, 0), (88, .getfield 18, 3, 4), (91, .iload_n 2, 1, 0), (92, .sipush 512, 3, 0), (95, .imul, 1, 0), (96, .aload_n 0, 1, 0), (97, .getfield 24, 3, 6), (100, .iload_n 2, 1, 0), (101, .iaload, 1, 0), (102, .sipush 511, 3, 0), (105, .iand, 1, 0), (106, .iadd, 1, 0), (107, .dup2, 1, 0), (108, .iaload, 1, 0), (109, .iconst 1, 1, 0), (110, .iadd, 1, 0), (111, .iastore, 1, 0), (112, .iinc 2 1, 3, 0), (115, .goto (-33), 3, 83973), (118, .return_, 1, 0)]
def pgX0_withCardAt : List En := [(0, .iload_n 1, 1, 0), (1, .ifCond .lt 22, 3, 23559), (4, .iload_n 1, 1, 0), (5, .bipush 9, 2, 0), (7, .if_icmp .ge 16, 3, 23559), (10, .iload_n 2, 1, 0), (11, .ifCond .lt 12, 3, 23559), (14, .iload_n 2, 1, 0), (15, .iconst 4, 1, 0), (16, .if_icmp .ge 7, 3, 23559), (19, .iconst 1, 1, 0), (20, .goto 4, 3, 24583), (23, .iconst 0, 1, 0), (100024, .nop, 0, 7), (24, .istore_n 3, 1, 0), (25, .iload_n 3, 1, 0), (26, .ifCond .eq 16, 3, 43008), (29, .aload_n 0, 1, 0), (30, .getfield 9, 3, 2), (33, .iload_n 1, 1, 0), (34, .iconst 4, 1, 0), (35, .imul, 1, 0), (36, .iload_n 2, 1, 0), (37, .iadd, 1, 0), (38, .iaload, 1, 0), (39, .goto 4, 3, 44032), (42, .iconst 0, 1, 0), (100043, .nop, 0, 0), (43, .ireturn, 1, 0)]
def pgX0_surePlace : List En := [(0, .iconst 0, 1, 0), (1, .istore_n 2, 1, 0), (100002, .nop, 0, 7), (2, .iload_n 2, 1, 0), (3, .iconst 4, 1, 0), (4, .if_icmp .ge 31, 3, 35840), (7, .aload_n 0, 1, 0), (8, .getfield 27, 3, 0), (11, .ifCond .le 18, 3, 29703), (14, .aload_n 0, 1, 0), (15, .iload_n 1, 1, 0), (16, .iload_n 2, 1, 0), (17, .invokevirtual 73, 3, 6), (20, .aload_n 0, 1, 0), (21, .getfield 27, 3, 0), (24, .if_icmp .ne 5, 3, 29703), (27, .iload_n 2, 1, 0), (28, .ireturn, 1, 0), (29, .iinc 2 1, 3, 0), (32, .goto (-30), 3, 2055), (35, .iconst (-1), 1, 0), (36, .ireturn, 1, 0)]
def pgX0_sureCards : List En := [(0, .iconst 0, 1, 0), (1, .istore_n 1, 1, 0), (2, .iconst 0, 1, 0), (3, .istore_n 2, 1, 0), (100004, .nop, 0, 7), (4, .iload_n 2, 1, 0), (5, .bipush 9, 2, 0), (7, .if_icmp .ge 25, 3, 32770), (10, .iload_n 1, 1, 0), (11, .aload_n 0, 1, 0), (12, .iload_n 2, 1, 0), (13, .invokevirtual 77, 3, 7), (16, .ifCond .lt 7, 3, 23557), (19, .iconst 1, 1, 0), (20, .goto 4, 3, 24581), (23, .iconst 0, 1, 0), (100024, .nop, 0, 5), (24, .iadd, 1, 0), (25, .istore_n 1, 1, 0), (26, .iinc 2 1, 3, 0), (29, .goto (-25), 3, 4103), (32, .iload_n 1, 1, 0), (33, .ireturn, 1, 0)]
def pgX0_placesLeft : List En := [(0, .iconst 0, 1, 0), (1, .istore_n 1, 1, 0), (2, .iconst 0, 1, 0), (3, .istore_n 2, 1, 0), (100004, .nop, 0, 7), (4, .iload_n 2, 1, 0), (5, .aload_n 0, 1, 0), (6, .getfield 9, 3, 2), (9, .arraylength, 1, 0), (10, .if_icmp .ge 26, 3, 36866), (13, .iload_n 1, 1, 0), (14, .aload_n 0, 1, 0), (15, .getfield 9, 3, 2), (18, .iload_n 2, 1, 0), (19, .iaload, 1, 0), (20, .ifCond .le 7, 3, 27653), (23, .iconst 1, 1, 0), (24, .goto 4, 3, 28677), (27, .iconst 0, 1, 0), (100028, .nop, 0, 5), (28, .iadd, 1, 0), (29, .istore_n 1, 1, 0), (30, .iinc 2 1, 3, 0), (33, .goto (-29), 3, 4103), (36, .iload_n 1, 1, 0), (37, .ireturn, 1, 0)]
def pgX0_withEnvelope : List En := [(0, .iload_n 1, 1, 0), (1, .ifCond .lt 18, 3, 19456), (4, .iload_n 1, 1, 0), (5, .bipush 27, 2, 0), (7, .if_icmp .ge 12, 3, 19456), (10, .aload_n 0, 1, 0), (11, .getfield 15, 3, 3), (14, .iload_n 1, 1, 0), (15, .iaload, 1, 0), (16, .goto 4, 3, 20480), (19, .iconst 0, 1, 0), (100020, .nop, 0, 0), (20, .ireturn, 1, 0)]
def pgX0_envelopesLeft : List En := [(0, .iconst 0, 1, 0), (1, .istore_n 1, 1, 0), (2, .iconst 0, 1, 0), (3, .istore_n 2, 1, 0), (100004, .nop, 0, 7), (4, .iload_n 2, 1, 0), (5, .bipush 27, 2, 0), (7, .if_icmp .ge 26, 3, 33794), (10, .iload_n 1, 1, 0), (11, .aload_n 0, 1, 0), (12, .getfield 15, 3, 3), (15, .iload_n 2, 1, 0), (16, .iaload, 1, 0), (17, .ifCond .le 7, 3, 24581), (20, .iconst 1, 1, 0), (21, .goto 4, 3, 25605), (24, .iconst 0, 1, 0), (100025, .nop, 0, 5), (25, .iadd, 1, 0), (26, .istore_n 1, 1, 0), (27, .iinc 2 1, 3, 0), (30, .goto (-26), 3, 4103), (33, .iload_n 1, 1, 0), (34, .ireturn, 1, 0)]
def pgX0_likeliestEnvelope : List En := [(0, .iconst 0, 1, 0), (1, .istore_n 1, 1, 0), (2, .iconst 1, 1, 0), (3, .istore_n 2, 1, 0), (100004, .nop, 0, 7), (4, .iload_n 2, 1, 0), (5, .bipush 27, 2, 0), (7, .if_icmp .ge 28, 3, 35842), (10, .aload_n 0, 1, 0), (11, .iload_n 2, 1, 0), (12, .invokevirtual 80, 3, 10), (15, .aload_n 0, 1, 0), (16, .iload_n 1, 1, 0), (17, .invokevirtual 80, 3, 10), (20, .if_icmp .le 7, 3, 27655), (23, .iload_n 2, 1, 0), (24, .goto 4, 3, 28677), (27, .iload_n 1, 1, 0), (100028, .nop, 0, 5), (28, .istore_n 1, 1, 0), (29, .iinc 2 1, 3, 0), (32, .goto (-28), 3, 4103), (35, .iload_n 1, 1, 0), (36, .ireturn, 1, 0)]
def pgX0_shareOfLikeliest : List En := [(0, .aload_n 0, 1, 0), (1, .getfield 27, 3, 0), (4, .ifCond .gt 7, 3, 11265), (7, .dconst 0, 1, 0), (8, .goto 18, 3, 26624), (11, .aload_n 0, 1, 0), (12, .aload_n 0, 1, 0), (13, .invokevirtual 83, 3, 12), (16, .invokevirtual 80, 3, 10), (19, .i2d, 1, 0), (20, .aload_n 0, 1, 0), (21, .getfield 27, 3, 0), (24, .i2d, 1, 0), (25, .ddiv, 1, 0), (100026, .nop, 0, 0), (26, .dreturn, 1, 0)]
def pgX0_withNone : List En := [(0, .iload_n 1, 1, 0), (1, .ifCond .lt 8, 3, 9216), (4, .iload_n 1, 1, 0), (5, .iconst 3, 1, 0), (6, .if_icmp .lt 5, 3, 11271), (100009, .nop, 0, 0), (9, .iconst 0, 1, 0), (10, .ireturn, 1, 0), (11, .iload_n 2, 1, 0), (12, .invokestatic 87, 3, 1104), (15, .istore_n 3, 1, 0), (16, .iconst 0, 1, 0), (17, .istore 4, 2, 0), (19, .iconst 0, 1, 0), (20, .istore 5, 2, 0), (100022, .nop, 0, 59), (22, .iload 5, 2, 0), (24, .bipush 9, 2, 0), (26, .if_icmp .ge 68, 3, 96272), (29, .iload 5, 2, 0), (31, .iconst 1, 1, 0), (32, .iadd, 1, 0), (33, .istore 6, 2, 0), (100035, .nop, 0, 123), (35, .iload 6, 2, 0), (37, .bipush 9, 2, 0), (39, .if_icmp .ge 49, 3, 90171), (42, .iconst 1, 1, 0), (43, .iload 5, 2, 0), (45, .ishl, 1, 0), (46, .iconst 1, 1, 0), (47, .iload 6, 2, 0), (49, .ishl, 1, 0), (50, .ior, 1, 0), (51, .istore 7, 2, 0), (53, .iload 4, 2, 0), (55, .iload 7, 2, 0), (57, .iload_n 3, 1, 0), (58, .iand, 1, 0), (59, .ifCond .ne 19, 3, 79979), (62, .aload_n 0, 1, 0), (63, .getfield 18, 3, 4), (66, .iload_n 1, 1, 0), (67, .sipush 512, 3, 0), (70, .imul, 1, 0), (71, .iload 7, 2, 0), (73, .iadd, 1, 0), (74, .iaload, 1, 0), (75, .goto 4, 3, 81003), (78, .iconst 0, 1, 0), (100079, .nop, 0, 107), (79, .iadd, 1, 0), (80, .istore 4, 2, 0), (82, .iinc 6 1, 3, 0), (85, .goto (-50), 3, 35963), (88, .iinc 5 1, 3, 0), (91, .goto (-69), 3, 22587), (94, .iload 4, 2, 0), (96, .ireturn, 1, 0)]
def pgX0_behindQuestion : List En := [(0, .aload_n 0, 1, 0), (1, .iload_n 1, 1, 0), (2, .iload_n 2, 1, 0), (3, .invokevirtual 90, 3, 14), (6, .istore_n 3, 1, 0), (7, .iload_n 3, 1, 0), (8, .aload_n 0, 1, 0), (9, .getfield 27, 3, 0), (12, .iload_n 3, 1, 0), (13, .isub, 1, 0), (14, .invokestatic 93, 3, 1998), (17, .ireturn, 1, 0)]
def pgX0_sharpestQuestion : List En := [(0, .iconst 0, 1, 0), (1, .istore_n 2, 1, 0), (2, .aload_n 0, 1, 0), (3, .iload_n 1, 1, 0), (4, .iconst 0, 1, 0), (5, .invokevirtual 98, 3, 15), (8, .istore_n 3, 1, 0), (9, .iconst 1, 1, 0), (10, .istore 4, 2, 0), (100012, .nop, 0, 31), (12, .iload 4, 2, 0), (14, .bipush 27, 2, 0), (16, .if_icmp .ge 30, 3, 47108), (19, .aload_n 0, 1, 0), (20, .iload_n 1, 1, 0), (21, .iload 4, 2, 0), (23, .invokevirtual 98, 3, 15), (26, .istore 5, 2, 0), (28, .iload 5, 2, 0), (30, .iload_n 3, 1, 0), (31, .if_icmp .ge 9, 3, 40991), (34, .iload 5, 2, 0), (36, .istore_n 3, 1, 0), (37, .iload 4, 2, 0), (39, .istore_n 2, 1, 0), (100040, .nop, 0, 31), (40, .iinc 4 1, 3, 0), (43, .goto (-31), 3, 12319), (46, .iload_n 2, 1, 0), (47, .ireturn, 1, 0)]
def pgX0_withoutClue : List En := [(0, .iload_n 1, 1, 0), (1, .ifCond .lt 23, 3, 24577), (4, .iload_n 1, 1, 0), (5, .bipush 20, 2, 0), (7, .if_icmp .ge 17, 3, 24577), (10, .aload_n 0, 1, 0), (11, .getfield 27, 3, 0), (14, .aload_n 0, 1, 0), (15, .getfield 21, 3, 5), (18, .iload_n 1, 1, 0), (19, .iaload, 1, 0), (20, .iadd, 1, 0), (21, .goto 7, 3, 28672), (24, .aload_n 0, 1, 0), (25, .getfield 27, 3, 0), (100028, .nop, 0, 0), (28, .ireturn, 1, 0)]
def pgX0_idleAmong : List En := [(0, .iconst 0, 1, 0), (1, .istore_n 2, 1, 0), (2, .iconst 0, 1, 0), (3, .istore_n 3, 1, 0), (100004, .nop, 0, 15), (4, .iload_n 3, 1, 0), (5, .iload_n 1, 1, 0), (6, .if_icmp .ge 29, 3, 35844), (9, .iload_n 2, 1, 0), (10, .aload_n 0, 1, 0), (11, .iload_n 3, 1, 0), (12, .invokevirtual 101, 3, 17), (15, .aload_n 0, 1, 0), (16, .getfield 27, 3, 0), (19, .if_icmp .ne 7, 3, 26635), (22, .iconst 1, 1, 0), (23, .goto 4, 3, 27659), (26, .iconst 0, 1, 0), (100027, .nop, 0, 11), (27, .iadd, 1, 0), (28, .istore_n 2, 1, 0), (29, .iinc 3 1, 3, 0), (32, .goto (-28), 3, 4111), (35, .iload_n 2, 1, 0), (36, .ireturn, 1, 0)]
def pgX1_count : List En := [(0, .aload_n 0, 1, 0), (1, .iconst 0, 1, 0), (2, .putfield 15, 3, 32), (5, .iconst 0, 1, 0), (6, .istore_n 2, 1, 0), (100007, .nop, 0, 7), (7, .iload_n 2, 1, 0), (8, .bipush 27, 2, 0), (10, .if_icmp .ge 46, 3, 57345), (13, .aload_n 0, 1, 0), (14, .getfield 9, 3, 34), (17, .iconst 3, 1, 0), (18, .iload_n 2, 1, 0), (19, .invokestatic 19, 3, 1104), (22, .iastore, 1, 0), (23, .aload_n 0, 1, 0), (24, .dup, 1, 0), (25, .getfield 15, 3, 32), (28, .iconst 0, 1, 0), (29, .sipush 511, 3, 0), (32, .aload_n 0, 1, 0), (33, .getfield 9, 3, 34), (36, .iconst 3, 1, 0), (37, .iaload, 1, 0), (38, .iconst (-1), 1, 0), (39, .ixor, 1, 0), (40, .iand, 1, 0), (41, .aload_n 0, 1, 0), (42, .aload_n 1, 1, 0), (43, .invokestatic 23, 3, 20), (46, .iadd, 1, 0), (47, .putfield 15, 3, 32), (50, .iinc 2 1, 3, 0), (53, .goto (-46), 3, 7175), (56, .aload_n 0, 1, 0), (57, .iconst 1, 1, 0), (58, .putfield 27, 3, 33), (61, .return_, 1, 0)]
def pgX1_countHands : List En := [(0, .iload_n 0, 1, 0), (1, .ifCond .lt 8, 3, 9216), (4, .iload_n 0, 1, 0), (5, .iconst 3, 1, 0), (6, .if_icmp .lt 5, 3, 11279), (100009, .nop, 0, 0), (9, .iconst 0, 1, 0), (10, .ireturn, 1, 0), (11, .iload_n 0, 1, 0), (12, .iconst 2, 1, 0), (13, .if_icmp .ne 27, 3, 40975), (16, .aload_n 2, 1, 0), (17, .getfield 9, 3, 34), (20, .iload_n 0, 1, 0), (21, .iload_n 1, 1, 0), (22, .iastore, 1, 0), (23, .aload_n 3, 1, 0), (24, .aload_n 2, 1, 0), (25, .getfield 9, 3, 34), (28, .invokevirtual 31, 3, 48), (31, .ifCond .eq 7, 3, 38912), (34, .iconst 1, 1, 0), (35, .goto 4, 3, 39936), (38, .iconst 0, 1, 0), (100039, .nop, 0, 0), (39, .ireturn, 1, 0), (40, .iconst 0, 1, 0), (41, .istore 4, 2, 0), (43, .iconst 0, 1, 0), (44, .istore 5, 2, 0), (100046, .nop, 0, 63), (46, .iload 5, 2, 0), (48, .bipush 9, 2, 0), (50, .if_icmp .ge 75, 3, 128016), (53, .iload 5, 2, 0), (55, .iconst 1, 1, 0), (56, .iadd, 1, 0), (57, .istore 6, 2, 0), (100059, .nop, 0, 127), (59, .iload 6, 2, 0), (61, .bipush 9, 2, 0), (63, .if_icmp .ge 56, 3, 121919), (66, .iconst 1, 1, 0), (67, .iload 5, 2, 0), (69, .ishl, 1, 0), (70, .iconst 1, 1, 0), (71, .iload 6, 2, 0), (73, .ishl, 1, 0), (74, .ior, 1, 0), (75, .istore 7, 2, 0), (77, .iload_n 1, 1, 0), (78, .iload 7, 2, 0), (80, .iand, 1, 0), (81, .iload 7, 2, 0), (83, .if_icmp .ne 30, 3, 115839), (86, .aload_n 2, 1, 0), (87, .getfield 9, 3, 34), (90, .iload_n 0, 1, 0), (91, .iload 7, 2, 0), (93, .iastore, 1, 0), (94, .iload 4, 2, 0), (96, .iload_n 0, 1, 0), (97, .iconst 1, 1, 0), (98, .iadd, 1, 0), (99, .iload_n 1, 1, 0), (100, .iload 7, 2, 0), (102, .iconst (-1), 1, 0), (103, .ixor, 1, 0), (104, .iand, 1, 0), (105, .aload_n 2, 1, 0), (106, .aload_n 3, 1, 0), (107, .invokestatic 23, 3, 20), (110, .iadd, 1, 0), (111, .istore 4, 2, 0), (100113, .nop, 0, 127), (113, .iinc 6 1, 3, 0), (116, .goto (-57), 3, 60543), (119, .iinc 5 1, 3, 0), (122, .goto (-76), 3, 47167), (125, .iload 4, 2, 0), (127, .ireturn, 1, 0)]
def pgX2_fill : List En := [(0, .aload_n 0, 1, 0), (1, .bipush 15, 2, 0), (3, .invokevirtual 15, 3, 22), (6, .bipush 36, 2, 0), (8, .istore_n 2, 1, 0), (9, .iload_n 2, 1, 0), (10, .iconst 1, 1, 0), (11, .iadd, 1, 0), (12, .istore_n 3, 1, 0), (13, .iconst 0, 1, 0), (14, .istore 4, 2, 0), (100016, .nop, 0, 31), (16, .iload 4, 2, 0), (18, .bipush 36, 2, 0), (20, .if_icmp .gt 34, 3, 55299), (23, .iload_n 2, 1, 0), (24, .iload_n 3, 1, 0), (25, .if_icmp .ge 29, 3, 55299), (28, .iload_n 2, 1, 0), (29, .istore_n 3, 1, 0), (30, .aload_n 0, 1, 0), (31, .aload_n 1, 1, 0), (32, .invokevirtual 19, 3, 25), (35, .aload_n 0, 1, 0), (36, .invokevirtual 23, 3, 27), (39, .aload_n 0, 1, 0), (40, .invokevirtual 26, 3, 28), (43, .aload_n 0, 1, 0), (44, .invokevirtual 29, 3, 23), (47, .istore_n 2, 1, 0), (48, .iinc 4 1, 3, 0), (51, .goto (-35), 3, 16415), (54, .aload_n 0, 1, 0), (55, .aload_n 0, 1, 0), (56, .invokevirtual 33, 3, 35), (59, .ifCond .ne 11, 3, 71681), (62, .aload_n 0, 1, 0), (63, .aload_n 1, 1, 0), (64, .invokevirtual 37, 3, 37), (67, .ifCond .eq 7, 3, 75777), (100070, .nop, 0, 1), (70, .iconst 1, 1, 0), (71, .goto 4, 3, 76801), (74, .iconst 0, 1, 0), (100075, .nop, 0, 1), (75, .putfield 41, 3, 64), (78, .aload_n 0, 1, 0), (79, .getfield 41, 3, 64), (82, .ifCond .eq 8, 3, 92161), (85, .aload_n 0, 1, 0), (86, .iconst 0, 1, 0), (87, .invokevirtual 15, 3, 22), (100090, .nop, 0, 1), (90, .aload_n 0, 1, 0), (91, .iconst 1, 1, 0), (92, .putfield 45, 3, 65), (95, .return_, 1, 0)]
def pgX2_setAll : List En := [(0, .iconst 0, 1, 0), (1, .istore_n 2, 1, 0), (100002, .nop, 0, 7), (2, .iload_n 2, 1, 0), (3, .bipush 9, 2, 0), (5, .if_icmp .ge 16, 3, 21504), (8, .aload_n 0, 1, 0), (9, .getfield 9, 3, 66), (12, .iload_n 2, 1, 0), (13, .iload_n 1, 1, 0), (14, .iastore, 1, 0), (15, .iinc 2 1, 3, 0), (18, .goto (-16), 3, 2055), (21, .return_, 1, 0)]
def pgX2_placesLeft : List En := [(0, .iconst 0, 1, 0), (1, .istore_n 1, 1, 0), (2, .iconst 0, 1, 0), (3, .istore_n 2, 1, 0), (100004, .nop, 0, 7), (4, .iload_n 2, 1, 0), (5, .bipush 9, 2, 0), (7, .if_icmp .ge 21, 3, 28674), (10, .iload_n 1, 1, 0), (11, .aload_n 0, 1, 0), (12, .getfield 9, 3, 66), (15, .iload_n 2, 1, 0), (16, .iaload, 1, 0), (17, .invokestatic 48, 3, 112), (20, .iadd, 1, 0), (21, .istore_n 1, 1, 0), (22, .iinc 2 1, 3, 0), (25, .goto (-21), 3, 4103), (28, .iload_n 1, 1, 0), (29, .ireturn, 1, 0)]
def pgX2_onlyPlace : List En := [(0, .iconst 0, 1, 0), (1, .istore_n 2, 1, 0), (100002, .nop, 0, 7), (2, .iload_n 2, 1, 0), (3, .iconst 4, 1, 0), (4, .if_icmp .ge 33, 3, 37888), (7, .iload_n 1, 1, 0), (8, .ifCond .lt 23, 3, 31751), (11, .iload_n 1, 1, 0), (12, .bipush 9, 2, 0), (14, .if_icmp .ge 17, 3, 31751), (17, .aload_n 0, 1, 0), (18, .getfield 9, 3, 66), (21, .iload_n 1, 1, 0), (22, .iaload, 1, 0), (23, .iconst 1, 1, 0), (24, .iload_n 2, 1, 0), (25, .ishl, 1, 0), (26, .if_icmp .ne 5, 3, 31751), (29, .iload_n 2, 1, 0), (30, .ireturn, 1, 0), (31, .iinc 2 1, 3, 0), (34, .goto (-32), 3, 2055), (37, .iconst (-1), 1, 0), (38, .ireturn, 1, 0)]
def pgX2_applyClues : List En := [(0, .iconst 0, 1, 0), (1, .istore_n 2, 1, 0), (100002, .nop, 0, 7), (2, .iload_n 2, 1, 0), (3, .aload_n 1, 1, 0), (4, .getfield 54, 3, 100), (7, .if_icmp .ge 37, 3, 45056), (10, .iload_n 2, 1, 0), (11, .bipush 20, 2, 0), (13, .if_icmp .ge 31, 3, 45056), (16, .aload_n 0, 1, 0), (17, .aload_n 1, 1, 0), (18, .getfield 60, 3, 97), (21, .iload_n 2, 1, 0), (22, .iaload, 1, 0), (23, .aload_n 1, 1, 0), (24, .getfield 63, 3, 98), (27, .iload_n 2, 1, 0), (28, .iaload, 1, 0), (29, .aload_n 1, 1, 0), (30, .getfield 66, 3, 99), (33, .iload_n 2, 1, 0), (34, .iaload, 1, 0), (35, .invokevirtual 69, 3, 26), (38, .iinc 2 1, 3, 0), (41, .goto (-39), 3, 2055), (44, .return_, 1, 0)]
def pgX2_applyClue : List En := [(0, .iload_n 1, 1, 0), (1, .tableswitch 67 0 5 #[39, 48, 57, 48, 67, 39], 39, 13), (40, .aload_n 0, 1, 0), (41, .iload_n 3, 1, 0), (42, .iload_n 2, 1, 0), (43, .invokevirtual 73, 3, 31), (46, .goto 29, 3, 76800), (49, .aload_n 0, 1, 0), (50, .iload_n 3, 1, 0), (51, .iload_n 2, 1, 0), (52, .invokevirtual 77, 3, 32), (55, .goto 20, 3, 76800), (58, .aload_n 0, 1, 0), (59, .iconst 1, 1, 0), (60, .iload_n 3, 1, 0), (61, .iload_n 2, 1, 0), (62, .invokevirtual 80, 3, 30), (65, .goto 10, 3, 76800), (68, .aload_n 0, 1, 0), (69, .iconst 2, 1, 0), (70, .iload_n 3, 1, 0), (71, .iload_n 2, 1, 0), (72, .invokevirtual 83, 3, 29), (100075, .nop, 0, 0), (75, .return_, 1, 0)]
def pgX2_applyKinds : List En := [(0, .iconst 0, 1, 0), (1, .istore_n 1, 1, 0), (100002, .nop, 0, 3), (2, .iload_n 1, 1, 0), (3, .iconst 3, 1, 0), (4, .if_icmp .ge 29, 3, 33792), (7, .aload_n 0, 1, 0), (8, .iconst 1, 1, 0), (9, .iload_n 1, 1, 0), (10, .invokestatic 86, 3, 1103), (13, .iconst 3, 1, 0), (14, .invokevirtual 83, 3, 29), (17, .aload_n 0, 1, 0), (18, .iconst 1, 1, 0), (19, .iload_n 1, 1, 0), (20, .invokestatic 86, 3, 1103), (23, .iconst 3, 1, 0), (24, .invokevirtual 80, 3, 30), (27, .iinc 1 1, 3, 0), (30, .goto (-28), 3, 2051), (33, .return_, 1, 0)]
def pgX2_applyPlayers : List En := [(0, .iconst 0, 1, 0), (1, .istore_n 1, 1, 0), (100002, .nop, 0, 3), (2, .iload_n 1, 1, 0), (3, .iconst 3, 1, 0), (4, .if_icmp .ge 27, 3, 31744), (7, .aload_n 0, 1, 0), (8, .iconst 2, 1, 0), (9, .sipush 511, 3, 0), (12, .iload_n 1, 1, 0), (13, .invokevirtual 83, 3, 29), (16, .aload_n 0, 1, 0), (17, .iconst 2, 1, 0), (18, .sipush 511, 3, 0), (21, .iload_n 1, 1, 0), (22, .invokevirtual 80, 3, 30), (25, .iinc 1 1, 3, 0), (28, .goto (-26), 3, 2051), (31, .return_, 1, 0)]
def pgX2_crossIfSure : List En := [(0, .aload_n 0, 1, 0), (1, .iload_n 2, 1, 0), (2, .iload_n 3, 1, 0), (3, .invokevirtual 89, 3, 34), (6, .istore 4, 2, 0), (8, .iload 4, 2, 0), (10, .invokestatic 48, 3, 112), (13, .iload_n 1, 1, 0), (14, .if_icmp .ne 14, 3, 28672), (17, .aload_n 0, 1, 0), (18, .iload_n 2, 1, 0), (19, .iload 4, 2, 0), (21, .iconst (-1), 1, 0), (22, .ixor, 1, 0), (23, .iand, 1, 0), (24, .iload_n 3, 1, 0), (25, .invokevirtual 77, 3, 32), (100028, .nop, 0, 0), (28, .return_, 1, 0)]
def pgX2_keepIfJust : List En := [(0, .aload_n 0, 1, 0), (1, .iload_n 2, 1, 0), (2, .iload_n 3, 1, 0), (3, .invokevirtual 93, 3, 33), (6, .istore 4, 2, 0), (8, .iload 4, 2, 0), (10, .invokestatic 48, 3, 112), (13, .iload_n 1, 1, 0), (14, .if_icmp .ne 10, 3, 24576), (17, .aload_n 0, 1, 0), (18, .iload 4, 2, 0), (20, .iload_n 3, 1, 0), (21, .invokevirtual 73, 3, 31), (100024, .nop, 0, 0), (24, .return_, 1, 0)]
def pgX2_keepOnly : List En := [(0, .iconst 0, 1, 0), (1, .istore_n 3, 1, 0), (100002, .nop, 0, 15), (2, .iload_n 3, 1, 0), (3, .bipush 9, 2, 0), (5, .if_icmp .ge 29, 3, 34816), (8, .iload_n 1, 1, 0), (9, .iconst 1, 1, 0), (10, .iload_n 3, 1, 0), (11, .ishl, 1, 0), (12, .iand, 1, 0), (13, .ifCond .eq 15, 3, 28687), (16, .aload_n 0, 1, 0), (17, .getfield 9, 3, 66), (20, .iload_n 3, 1, 0), (21, .dup2, 1, 0), (22, .iaload, 1, 0), (23, .iconst 1, 1, 0), (24, .iload_n 2, 1, 0), (25, .ishl, 1, 0), (26, .iand, 1, 0), (27, .iastore, 1, 0), (100028, .nop, 0, 15), (28, .iinc 3 1, 3, 0), (31, .goto (-29), 3, 2063), (34, .return_, 1, 0)]
def pgX2_crossOff : List En := [(0, .iconst 0, 1, 0), (1, .istore_n 3, 1, 0), (100002, .nop, 0, 15), (2, .iload_n 3, 1, 0), (3, .bipush 9, 2, 0), (5, .if_icmp .ge 31, 3, 36864), (8, .iload_n 1, 1, 0), (9, .iconst 1, 1, 0), (10, .iload_n 3, 1, 0), (11, .ishl, 1, 0), (12, .iand, 1, 0), (13, .ifCond .eq 17, 3, 30735), (16, .aload_n 0, 1, 0), (17, .getfield 9, 3, 66), (20, .iload_n 3, 1, 0), (21, .dup2, 1, 0), (22, .iaload, 1, 0), (23, .iconst 1, 1, 0), (24, .iload_n 2, 1, 0), (25, .ishl, 1, 0), (26, .iconst (-1), 1, 0), (27, .ixor, 1, 0), (28, .iand, 1, 0), (29, .iastore, 1, 0), (100030, .nop, 0, 15), (30, .iinc 3 1, 3, 0), (33, .goto (-31), 3, 2063), (36, .return_, 1, 0)]
def pgX2_withPlace : List En := [(0, .iconst 0, 1, 0), (1, .istore_n 3, 1, 0), (2, .iconst 0, 1, 0), (3, .istore 4, 2, 0), (100005, .nop, 0, 31), (5, .iload 4, 2, 0), (7, .bipush 9, 2, 0), (9, .if_icmp .ge 39, 3, 49160), (12, .iload_n 1, 1, 0), (13, .iconst 1, 1, 0), (14, .iload 4, 2, 0), (16, .ishl, 1, 0), (17, .iand, 1, 0), (18, .ifCond .eq 24, 3, 43039), (21, .aload_n 0, 1, 0), (22, .getfield 9, 3, 66), (25, .iload 4, 2, 0), (27, .iaload, 1, 0), (28, .iconst 1, 1, 0), (29, .iload_n 2, 1, 0), (30, .ishl, 1, 0), (31, .iand, 1, 0), (32, .ifCond .eq 10, 3, 43039), (35, .iload_n 3, 1, 0), (36, .iconst 1, 1, 0), (37, .iload 4, 2, 0), (39, .ishl, 1, 0), (40, .ior, 1, 0), (41, .istore_n 3, 1, 0), (100042, .nop, 0, 31), (42, .iinc 4 1, 3, 0), (45, .goto (-40), 3, 5151), (48, .iload_n 3, 1, 0), (49, .ireturn, 1, 0)]
def pgX2_withOnly : List En := [(0, .iconst 0, 1, 0), (1, .istore_n 3, 1, 0), (2, .iconst 0, 1, 0), (3, .istore 4, 2, 0), (100005, .nop, 0, 31), (5, .iload 4, 2, 0), (7, .bipush 9, 2, 0), (9, .if_icmp .ge 38, 3, 48136), (12, .iload_n 1, 1, 0), (13, .iconst 1, 1, 0), (14, .iload 4, 2, 0), (16, .ishl, 1, 0), (17, .iand, 1, 0), (18, .ifCond .eq 23, 3, 42015), (21, .aload_n 0, 1, 0), (22, .getfield 9, 3, 66), (25, .iload 4, 2, 0), (27, .iaload, 1, 0), (28, .iconst 1, 1, 0), (29, .iload_n 2, 1, 0), (30, .ishl, 1, 0), (31, .if_icmp .ne 10, 3, 42015), (34, .iload_n 3, 1, 0), (35, .iconst 1, 1, 0), (36, .iload 4, 2, 0), (38, .ishl, 1, 0), (39, .ior, 1, 0), (40, .istore_n 3, 1, 0), (100041, .nop, 0, 31), (41, .iinc 4 1, 3, 0), (44, .goto (-39), 3, 5151), (47, .iload_n 3, 1, 0), (48, .ireturn, 1, 0)]
def pgX2_breaksDown : List En := [(0, .iconst 0, 1, 0), (1, .istore_n 1, 1, 0), (2, .iconst 0, 1, 0), (3, .istore_n 2, 1, 0), (100004, .nop, 0, 7), (4, .iload_n 2, 1, 0), (5, .bipush 9, 2, 0), (7, .if_icmp .ge 28, 3, 35843), (10, .iload_n 1, 1, 0), (11, .ifCond .ne 12, 3, 23557), (14, .aload_n 0, 1, 0), (15, .getfield 9, 3, 66), (18, .iload_n 2, 1, 0), (19, .iaload, 1, 0), (20, .ifCond .ne 7, 3, 27653), (100023, .nop, 0, 5), (23, .iconst 1, 1, 0), (24, .goto 4, 3, 28677), (27, .iconst 0, 1, 0), (100028, .nop, 0, 5), (28, .istore_n 1, 1, 0), (29, .iinc 2 1, 3, 0), (32, .goto (-28), 3, 4103), (35, .iconst 0, 1, 0), (36, .istore_n 2, 1, 0), (100037, .nop, 0, 7), (37, .iload_n 2, 1, 0), (38, .iconst 3, 1, 0), (39, .if_icmp .ge 32, 3, 72707), (42, .iload_n 1, 1, 0), (43, .ifCond .ne 16, 3, 60421), (46, .aload_n 0, 1, 0), (47, .iconst 1, 1, 0), (48, .iload_n 2, 1, 0), (49, .invokestatic 86, 3, 1103), (52, .iconst 3, 1, 0), (53, .invokevirtual 96, 3, 36), (56, .ifCond .ne 7, 3, 64517), (100059, .nop, 0, 5), (59, .iconst 1, 1, 0), (60, .goto 4, 3, 65541), (63, .iconst 0, 1, 0), (100064, .nop, 0, 5), (64, .istore_n 1, 1, 0), (65, .iinc 2 1, 3, 0), (68, .goto (-31), 3, 37895), (71, .iconst 0, 1, 0), (72, .istore_n 2, 1, 0), (100073, .nop, 0, 7), (73, .iload_n 2, 1, 0), (74, .iconst 3, 1, 0), (75, .if_icmp .ge 31, 3, 108546), (78, .iload_n 1, 1, 0), (79, .ifCond .ne 15, 3, 96261), (82, .aload_n 0, 1, 0), (83, .iconst 2, 1, 0), (84, .sipush 511, 3, 0), (87, .iload_n 2, 1, 0), (88, .invokevirtual 96, 3, 36), (91, .ifCond .ne 7, 3, 100357), (100094, .nop, 0, 5), (94, .iconst 1, 1, 0), (95, .goto 4, 3, 101381), (98, .iconst 0, 1, 0), (100099, .nop, 0, 5), (99, .istore_n 1, 1, 0), (100, .iinc 2 1, 3, 0), (103, .goto (-30), 3, 74759), (106, .iload_n 1, 1, 0), (107, .ireturn, 1, 0)]
def pgX2_fits : List En := [(0, .aload_n 0, 1, 0), (1, .iload_n 2, 1, 0), (2, .iload_n 3, 1, 0), (3, .invokevirtual 93, 3, 33), (6, .invokestatic 48, 3, 112), (9, .iload_n 1, 1, 0), (10, .if_icmp .lt 20, 3, 30720), (13, .aload_n 0, 1, 0), (14, .iload_n 2, 1, 0), (15, .iload_n 3, 1, 0), (16, .invokevirtual 89, 3, 34), (19, .invokestatic 48, 3, 112), (22, .iload_n 1, 1, 0), (23, .if_icmp .gt 7, 3, 30720), (26, .iconst 1, 1, 0), (27, .goto 4, 3, 31744), (30, .iconst 0, 1, 0), (100031, .nop, 0, 0), (31, .ireturn, 1, 0)]
def pgX2_breaksClue : List En := [(0, .iconst 0, 1, 0), (1, .istore_n 2, 1, 0), (2, .iconst 0, 1, 0), (3, .istore_n 3, 1, 0), (100004, .nop, 0, 15), (4, .iload_n 3, 1, 0), (5, .aload_n 1, 1, 0), (6, .getfield 54, 3, 100), (9, .if_icmp .ge 85, 3, 96260), (12, .iload_n 3, 1, 0), (13, .bipush 20, 2, 0), (15, .if_icmp .ge 79, 3, 96260), (18, .aload_n 1, 1, 0), (19, .getfield 66, 3, 99), (22, .iload_n 3, 1, 0), (23, .iaload, 1, 0), (24, .istore 4, 2, 0), (26, .aload_n 1, 1, 0), (27, .getfield 63, 3, 98), (30, .iload_n 3, 1, 0), (31, .iaload, 1, 0), (32, .istore 5, 2, 0), (34, .iload_n 2, 1, 0), (35, .ifCond .ne 47, 3, 83979), (38, .aload_n 1, 1, 0), (39, .getfield 60, 3, 97), (42, .iload_n 3, 1, 0), (43, .iaload, 1, 0), (44, .iconst 2, 1, 0), (45, .if_icmp .ne 14, 3, 60475), (48, .aload_n 0, 1, 0), (49, .iload 4, 2, 0), (51, .iload 5, 2, 0), (53, .invokevirtual 93, 3, 33), (56, .ifCond .eq 26, 3, 83979), (100059, .nop, 0, 59), (59, .aload_n 1, 1, 0), (60, .getfield 60, 3, 97), (63, .iload_n 3, 1, 0), (64, .iaload, 1, 0), (65, .iconst 4, 1, 0), (66, .if_icmp .ne 20, 3, 88075), (69, .aload_n 0, 1, 0), (70, .iload 4, 2, 0), (72, .iload 5, 2, 0), (74, .invokevirtual 89, 3, 34), (77, .iload 4, 2, 0), (79, .if_icmp .ne 7, 3, 88075), (100082, .nop, 0, 11), (82, .iconst 1, 1, 0), (83, .goto 4, 3, 89099), (86, .iconst 0, 1, 0), (100087, .nop, 0, 11), (87, .istore_n 2, 1, 0), (88, .iinc 3 1, 3, 0), (91, .goto (-87), 3, 4111), (94, .iload_n 2, 1, 0), (95, .ireturn, 1, 0)]
def pgX3_dealAtFirst : List En := [(0, .aload_n 0, 1, 0), (1, .getfield 9, 3, 96), (4, .iconst 0, 1, 0), (5, .bipush 6, 2, 0), (7, .iastore, 1, 0), (8, .aload_n 0, 1, 0), (9, .getfield 9, 3, 96), (12, .iconst 1, 1, 0), (13, .bipush 48, 2, 0), (15, .iastore, 1, 0), (16, .aload_n 0, 1, 0), (17, .getfield 9, 3, 96), (20, .iconst 2, 1, 0), (21, .sipush 384, 3, 0), (24, .iastore, 1, 0), (25, .aload_n 0, 1, 0), (26, .getfield 9, 3, 96), (29, .iconst 3, 1, 0), (30, .bipush 73, 2, 0), (32, .iastore, 1, 0), (33, .return_, 1, 0)]
def pgX3_copyFrom : List En := [(0, .aload_n 1, 1, 0), (1, .ifnonnull 4, 3, 5123), (4, .return_, 1, 0), (5, .iconst 0, 1, 0), (6, .istore_n 2, 1, 0), (100007, .nop, 0, 7), (7, .iload_n 2, 1, 0), (8, .iconst 4, 1, 0), (9, .if_icmp .ge 21, 3, 30723), (12, .aload_n 0, 1, 0), (13, .getfield 9, 3, 96), (16, .iload_n 2, 1, 0), (17, .aload_n 1, 1, 0), (18, .getfield 9, 3, 96), (21, .iload_n 2, 1, 0), (22, .iaload, 1, 0), (23, .iastore, 1, 0), (24, .iinc 2 1, 3, 0), (27, .goto (-20), 3, 7175), (30, .iconst 0, 1, 0), (31, .istore_n 2, 1, 0), (100032, .nop, 0, 7), (32, .iload_n 2, 1, 0), (33, .bipush 20, 2, 0), (35, .if_icmp .ge 45, 3, 81923), (38, .aload_n 0, 1, 0), (39, .getfield 15, 3, 97), (42, .iload_n 2, 1, 0), (43, .aload_n 1, 1, 0), (44, .getfield 15, 3, 97), (47, .iload_n 2, 1, 0), (48, .iaload, 1, 0), (49, .iastore, 1, 0), (50, .aload_n 0, 1, 0), (51, .getfield 18, 3, 98), (54, .iload_n 2, 1, 0), (55, .aload_n 1, 1, 0), (56, .getfield 18, 3, 98), (59, .iload_n 2, 1, 0), (60, .iaload, 1, 0), (61, .iastore, 1, 0), (62, .aload_n 0, 1, 0), (63, .getfield 21, 3, 99), (66, .iload_n 2, 1, 0), (67, .aload_n 1, 1, 0), (68, .getfield 21, 3, 99), (71, .iload_n 2, 1, 0), (72, .iaload, 1, 0), (73, .iastore, 1, 0), (74, .iinc 2 1, 3, 0), (77, .goto (-45), 3, 32775), (80, .aload_n 0, 1, 0), (81, .aload_n 1, 1, 0), (82, .getfield 24, 3, 100), (85, .putfield 24, 3, 100), (88, .aload_n 0, 1, 0), (89, .aload_n 1, 1, 0), (90, .getfield 28, 3, 101), (93, .putfield 28, 3, 101), (96, .aload_n 0, 1, 0), (97, .aload_n 1, 1, 0), (98, .getfield 31, 3, 102), (101, .putfield 31, 3, 102), (104, .return_, 1, 0)]
def pgX3_add : List En := [(0, .aload_n 0, 1, 0), (1, .getfield 24, 3, 100), (4, .ifCond .lt 52, 3, 57344), (7, .aload_n 0, 1, 0), (8, .getfield 24, 3, 100), (11, .bipush 20, 2, 0), (13, .if_icmp .ge 43, 3, 57344), (16, .aload_n 0, 1, 0), (17, .getfield 15, 3, 97), (20, .aload_n 0, 1, 0), (21, .getfield 24, 3, 100), (24, .iload_n 1, 1, 0), (25, .iastore, 1, 0), (26, .aload_n 0, 1, 0), (27, .getfield 18, 3, 98), (30, .aload_n 0, 1, 0), (31, .getfield 24, 3, 100), (34, .iload_n 2, 1, 0), (35, .iastore, 1, 0), (36, .aload_n 0, 1, 0), (37, .getfield 21, 3, 99), (40, .aload_n 0, 1, 0), (41, .getfield 24, 3, 100), (44, .iload_n 3, 1, 0), (45, .iastore, 1, 0), (46, .aload_n 0, 1, 0), (47, .dup, 1, 0), (48, .getfield 24, 3, 100), (51, .iconst 1, 1, 0), (52, .iadd, 1, 0), (53, .putfield 24, 3, 100), (100056, .nop, 0, 0), (56, .return_, 1, 0)]
def pgX3_remove : List En := [(0, .iload_n 1, 1, 0), (1, .ifCond .lt 11, 3, 12288), (4, .iload_n 1, 1, 0), (5, .aload_n 0, 1, 0), (6, .getfield 24, 3, 100), (9, .if_icmp .lt 4, 3, 13315), (100012, .nop, 0, 0), (12, .return_, 1, 0), (13, .iload_n 1, 1, 0), (14, .iconst 1, 1, 0), (15, .iadd, 1, 0), (16, .istore_n 2, 1, 0), (100017, .nop, 0, 5), (17, .iload_n 2, 1, 0), (18, .aload_n 0, 1, 0), (19, .getfield 24, 3, 100), (22, .if_icmp .ge 57, 3, 80897), (25, .iload_n 2, 1, 0), (26, .bipush 20, 2, 0), (28, .if_icmp .ge 51, 3, 80897), (31, .aload_n 0, 1, 0), (32, .getfield 15, 3, 97), (35, .iload_n 2, 1, 0), (36, .iconst 1, 1, 0), (37, .isub, 1, 0), (38, .aload_n 0, 1, 0), (39, .getfield 15, 3, 97), (42, .iload_n 2, 1, 0), (43, .iaload, 1, 0), (44, .iastore, 1, 0), (45, .aload_n 0, 1, 0), (46, .getfield 18, 3, 98), (49, .iload_n 2, 1, 0), (50, .iconst 1, 1, 0), (51, .isub, 1, 0), (52, .aload_n 0, 1, 0), (53, .getfield 18, 3, 98), (56, .iload_n 2, 1, 0), (57, .iaload, 1, 0), (58, .iastore, 1, 0), (59, .aload_n 0, 1, 0), (60, .getfield 21, 3, 99), (63, .iload_n 2, 1, 0), (64, .iconst 1, 1, 0), (65, .isub, 1, 0), (66, .aload_n 0, 1, 0), (67, .getfield 21, 3, 99), (70, .iload_n 2, 1, 0), (71, .iaload, 1, 0), (72, .iastore, 1, 0), (73, .iinc 2 1, 3, 0), (76, .goto (-59), 3, 17413), (79, .aload_n 0, 1, 0), (80, .dup, 1, 0), (81, .getfield 24, 3, 100), (84, .iconst 1, 1, 0), (85, .isub, 1, 0), (86, .putfield 24, 3, 100), (89, .return_, 1, 0)]
def pgX3_addAnswer : List En := [(0, .aload_n 0, 1, 0), (1, .iload_n 1, 1, 0), (2, .iload_n 2, 1, 0), (3, .invokevirtual 34, 3, 45), (6, .ifCond .eq 7, 3, 13319), (9, .iconst 1, 1, 0), (10, .goto 4, 3, 14343), (13, .iconst 0, 1, 0), (100014, .nop, 0, 7), (14, .istore_n 3, 1, 0), (15, .aload_n 0, 1, 0), (16, .iload_n 3, 1, 0), (17, .ifCond .eq 7, 3, 24590), (20, .iconst 2, 1, 0), (21, .goto 4, 3, 25614), (24, .iconst 3, 1, 0), (100025, .nop, 0, 14), (25, .iload_n 1, 1, 0), (26, .iload_n 2, 1, 0), (27, .invokevirtual 38, 3, 40), (30, .iload_n 3, 1, 0), (31, .ireturn, 1, 0)]
def pgX3_addSight : List En := [(0, .aload_n 0, 1, 0), (1, .iload_n 1, 1, 0), (2, .iload_n 2, 1, 0), (3, .invokevirtual 34, 3, 45), (6, .istore_n 3, 1, 0), (7, .iconst 0, 1, 0), (8, .istore 4, 2, 0), (100010, .nop, 0, 31), (10, .iload 4, 2, 0), (12, .bipush 9, 2, 0), (14, .if_icmp .ge 31, 3, 46087), (17, .iload_n 3, 1, 0), (18, .iconst 1, 1, 0), (19, .iload 4, 2, 0), (21, .ishl, 1, 0), (22, .iand, 1, 0), (23, .ifCond .eq 16, 3, 39967), (26, .aload_n 0, 1, 0), (27, .iconst 0, 1, 0), (28, .iload_n 1, 1, 0), (29, .iconst 1, 1, 0), (30, .iload 4, 2, 0), (32, .ishl, 1, 0), (33, .invokevirtual 38, 3, 40), (36, .iload 4, 2, 0), (38, .ireturn, 1, 0), (39, .iinc 4 1, 3, 0), (42, .goto (-32), 3, 10271), (45, .aload_n 0, 1, 0), (46, .iconst 3, 1, 0), (47, .iload_n 1, 1, 0), (48, .iload_n 2, 1, 0), (49, .invokevirtual 38, 3, 40), (52, .iconst (-1), 1, 0), (53, .ireturn, 1, 0)]
def pgX3_addVerdict : List En := [(0, .aload_n 0, 1, 0), (1, .getfield 9, 3, 96), (4, .iconst 3, 1, 0), (5, .iaload, 1, 0), (6, .iload_n 1, 1, 0), (7, .if_icmp .ne 7, 3, 14339), (10, .iconst 1, 1, 0), (11, .goto 4, 3, 15363), (14, .iconst 0, 1, 0), (100015, .nop, 0, 3), (15, .istore_n 2, 1, 0), (16, .aload_n 0, 1, 0), (17, .iload_n 2, 1, 0), (18, .ifCond .eq 7, 3, 25606), (21, .iconst 5, 1, 0), (22, .goto 4, 3, 26630), (25, .iconst 4, 1, 0), (100026, .nop, 0, 6), (26, .iconst 3, 1, 0), (27, .iload_n 1, 1, 0), (28, .invokevirtual 38, 3, 40), (31, .iload_n 2, 1, 0), (32, .ireturn, 1, 0)]
def pgX3_handOf : List En := [(0, .iload_n 1, 1, 0), (1, .ifCond .lt 19, 3, 20480), (4, .iload_n 1, 1, 0), (5, .iconst 3, 1, 0), (6, .if_icmp .ge 14, 3, 20480), (9, .aload_n 0, 1, 0), (10, .getfield 9, 3, 96), (13, .iload_n 1, 1, 0), (14, .iaload, 1, 0), (15, .iload_n 2, 1, 0), (16, .iand, 1, 0), (17, .goto 4, 3, 21504), (20, .iconst 0, 1, 0), (100021, .nop, 0, 0), (21, .ireturn, 1, 0)]
def pgX3_placeOf : List En := [(0, .iconst 0, 1, 0), (1, .istore_n 2, 1, 0), (100002, .nop, 0, 7), (2, .iload_n 2, 1, 0), (3, .iconst 4, 1, 0), (4, .if_icmp .ge 24, 3, 28672), (7, .aload_n 0, 1, 0), (8, .getfield 9, 3, 96), (11, .iload_n 2, 1, 0), (12, .iaload, 1, 0), (13, .iconst 1, 1, 0), (14, .iload_n 1, 1, 0), (15, .ishl, 1, 0), (16, .iand, 1, 0), (17, .ifCond .eq 5, 3, 22535), (20, .iload_n 2, 1, 0), (21, .ireturn, 1, 0), (22, .iinc 2 1, 3, 0), (25, .goto (-23), 3, 2055), (28, .iconst (-1), 1, 0), (29, .ireturn, 1, 0)]
def pgX3_agrees : List En := [(0, .iload_n 1, 1, 0), (1, .ifCond .lt 29, 3, 30720), (4, .iload_n 1, 1, 0), (5, .bipush 20, 2, 0), (7, .if_icmp .ge 23, 3, 30720), (10, .aload_n 0, 1, 0), (11, .getfield 18, 3, 98), (14, .iload_n 1, 1, 0), (15, .iaload, 1, 0), (16, .ifCond .lt 14, 3, 30720), (19, .aload_n 0, 1, 0), (20, .getfield 18, 3, 98), (23, .iload_n 1, 1, 0), (24, .iaload, 1, 0), (25, .aload_n 2, 1, 0), (26, .arraylength, 1, 0), (27, .if_icmp .lt 5, 3, 32775), (100030, .nop, 0, 0), (30, .iconst 1, 1, 0), (31, .ireturn, 1, 0), (32, .aload_n 2, 1, 0), (33, .aload_n 0, 1, 0), (34, .getfield 18, 3, 98), (37, .iload_n 1, 1, 0), (38, .iaload, 1, 0), (39, .iaload, 1, 0), (40, .aload_n 0, 1, 0), (41, .getfield 21, 3, 99), (44, .iload_n 1, 1, 0), (45, .iaload, 1, 0), (46, .iand, 1, 0), (47, .istore_n 3, 1, 0), (48, .aload_n 0, 1, 0), (49, .getfield 15, 3, 97), (52, .iload_n 1, 1, 0), (53, .iaload, 1, 0), (54, .tableswitch 70 0 4 #[34, 44, 34, 44, 54], 34, 11), (88, .iload_n 3, 1, 0), (89, .ifCond .eq 7, 3, 98304), (92, .iconst 1, 1, 0), (93, .goto 4, 3, 99328), (96, .iconst 0, 1, 0), (100097, .nop, 0, 0), (97, .ireturn, 1, 0), (98, .iload_n 3, 1, 0), (99, .ifCond .ne 7, 3, 108544), (102, .iconst 1, 1, 0), (103, .goto 4, 3, 109568), (106, .iconst 0, 1, 0), (100107, .nop, 0, 0), (107, .ireturn, 1, 0), (108, .iload_n 3, 1, 0), (109, .aload_n 0, 1, 0), (110, .getfield 21, 3, 99), (113, .iload_n 1, 1, 0), (114, .iaload, 1, 0), (115, .if_icmp .eq 7, 3, 124928), (118, .iconst 1, 1, 0), (119, .goto 4, 3, 125952), (122, .iconst 0, 1, 0), (100123, .nop, 0, 0), (123, .ireturn, 1, 0), (124, .iload_n 3, 1, 0), (125, .aload_n 0, 1, 0), (126, .getfield 21, 3, 99), (129, .iload_n 1, 1, 0), (130, .iaload, 1, 0), (131, .if_icmp .ne 7, 3, 141312), (134, .iconst 1, 1, 0), (135, .goto 4, 3, 142336), (138, .iconst 0, 1, 0), (100139, .nop, 0, 0), (139, .ireturn, 1, 0)]
def pgX3_agreesWithAll : List En := [(0, .iconst 0, 1, 0), (1, .istore_n 2, 1, 0), (100002, .nop, 0, 7), (2, .iload_n 2, 1, 0), (3, .aload_n 0, 1, 0), (4, .getfield 24, 3, 100), (7, .if_icmp .ge 20, 3, 27648), (10, .aload_n 0, 1, 0), (11, .iload_n 2, 1, 0), (12, .aload_n 1, 1, 0), (13, .invokevirtual 42, 3, 47), (16, .ifCond .ne 5, 3, 21511), (19, .iconst 0, 1, 0), (20, .ireturn, 1, 0), (21, .iinc 2 1, 3, 0), (24, .goto (-22), 3, 2055), (27, .iconst 1, 1, 0), (28, .ireturn, 1, 0)]
def pgX5_exchange : List En := [(0, .iload_n 1, 1, 0), (1, .invokestatic 58, 3, 93), (4, .iload_n 2, 1, 0), (5, .invokestatic 58, 3, 93), (8, .aload_n 0, 1, 0), (9, .getfield 10, 3, 160), (12, .getfield 62, 3, 96), (15, .iconst 3, 1, 0), (16, .iaload, 1, 0), (17, .iload_n 1, 1, 0), (18, .iload_n 2, 1, 0), (19, .invokestatic 65, 3, 107), (22, .invokestatic 69, 3, 106), (25, .ifCond .ne 13, 3, 38919), (28, .new 73, 3, 1), (31, .dup, 1, 0), (32, .ldc 75, 2, 0), (34, .invokespecial 77, 3, 0), (37, .athrow, 1, 0), (38, .aload_n 0, 1, 0), (39, .invokevirtual 80, 3, 87), (42, .iconst 0, 1, 0), (43, .istore_n 3, 1, 0), (100044, .nop, 0, 15), (44, .iload_n 3, 1, 0), (45, .iconst 4, 1, 0), (46, .if_icmp .ge 32, 3, 79873), (49, .aload_n 0, 1, 0), (50, .getfield 10, 3, 160), (53, .getfield 62, 3, 96), (56, .iload_n 3, 1, 0), (57, .aload_n 0, 1, 0), (58, .getfield 10, 3, 160), (61, .getfield 62, 3, 96), (64, .iload_n 3, 1, 0), (65, .iaload, 1, 0), (66, .iload_n 1, 1, 0), (67, .iload_n 2, 1, 0), (68, .invokestatic 65, 3, 107), (71, .iastore, 1, 0), (72, .iinc 3 1, 3, 0), (75, .goto (-31), 3, 45071), (78, .aload_n 0, 1, 0), (79, .getfield 10, 3, 160), (82, .getfield 62, 3, 96), (85, .iconst 3, 1, 0), (86, .iaload, 1, 0), (87, .invokestatic 83, 3, 105), (90, .ireturn, 1, 0)]
def pgX5_noteHas : List En := [(0, .iload_n 1, 1, 0), (1, .invokestatic 87, 3, 94), (4, .iload_n 2, 1, 0), (5, .invokestatic 58, 3, 93), (8, .aload_n 0, 1, 0), (9, .invokevirtual 90, 3, 99), (12, .aload_n 0, 1, 0), (13, .invokevirtual 80, 3, 87), (16, .aload_n 0, 1, 0), (17, .getfield 10, 3, 160), (20, .iconst 0, 1, 0), (21, .iload_n 1, 1, 0), (22, .iconst 1, 1, 0), (23, .iload_n 2, 1, 0), (24, .ishl, 1, 0), (25, .invokevirtual 93, 3, 40), (28, .aload_n 0, 1, 0), (29, .getfield 10, 3, 160), (32, .getfield 97, 3, 100), (35, .ireturn, 1, 0)]
def pgX5_noteLacks : List En := [(0, .iload_n 1, 1, 0), (1, .invokestatic 87, 3, 94), (4, .iload_n 2, 1, 0), (5, .invokestatic 58, 3, 93), (8, .aload_n 0, 1, 0), (9, .invokevirtual 90, 3, 99), (12, .aload_n 0, 1, 0), (13, .invokevirtual 80, 3, 87), (16, .aload_n 0, 1, 0), (17, .getfield 10, 3, 160), (20, .iconst 1, 1, 0), (21, .iload_n 1, 1, 0), (22, .iconst 1, 1, 0), (23, .iload_n 2, 1, 0), (24, .ishl, 1, 0), (25, .invokevirtual 93, 3, 40), (28, .aload_n 0, 1, 0), (29, .getfield 10, 3, 160), (32, .getfield 97, 3, 100), (35, .ireturn, 1, 0)]
def pgX5_noteShows : List En := [(0, .iload_n 1, 1, 0), (1, .invokestatic 87, 3, 94), (4, .iload_n 2, 1, 0), (5, .iload_n 3, 1, 0), (6, .iload 4, 2, 0), (8, .invokestatic 101, 3, 97), (11, .aload_n 0, 1, 0), (12, .invokevirtual 90, 3, 99), (15, .aload_n 0, 1, 0), (16, .invokevirtual 80, 3, 87), (19, .aload_n 0, 1, 0), (20, .getfield 10, 3, 160), (23, .iconst 2, 1, 0), (24, .iload_n 1, 1, 0), (25, .iload_n 2, 1, 0), (26, .iload_n 3, 1, 0), (27, .iload 4, 2, 0), (29, .invokestatic 104, 3, 102), (32, .invokevirtual 93, 3, 40), (35, .aload_n 0, 1, 0), (36, .getfield 10, 3, 160), (39, .getfield 97, 3, 100), (42, .ireturn, 1, 0)]
def pgX5_dropClue : List En := [(0, .aload_n 0, 1, 0), (1, .iload_n 1, 1, 0), (2, .invokevirtual 107, 3, 98), (5, .aload_n 0, 1, 0), (6, .invokevirtual 80, 3, 87), (9, .aload_n 0, 1, 0), (10, .getfield 10, 3, 160), (13, .iload_n 1, 1, 0), (14, .invokevirtual 110, 3, 41), (17, .aload_n 0, 1, 0), (18, .getfield 10, 3, 160), (21, .getfield 97, 3, 100), (24, .ireturn, 1, 0)]
def pgX5_dropAll : List En := [(0, .aload_n 0, 1, 0), (1, .invokevirtual 80, 3, 87), (4, .aload_n 0, 1, 0), (5, .getfield 10, 3, 160), (8, .getfield 97, 3, 100), (11, .istore_n 1, 1, 0), (12, .aload_n 0, 1, 0), (13, .getfield 10, 3, 160), (16, .iconst 0, 1, 0), (17, .putfield 97, 3, 100), (20, .iload_n 1, 1, 0), (21, .ireturn, 1, 0)]
def pgX5_ask : List En := [(0, .iload_n 1, 1, 0), (1, .invokestatic 87, 3, 94), (4, .iload_n 2, 1, 0), (5, .iload_n 3, 1, 0), (6, .iload 4, 2, 0), (8, .invokestatic 101, 3, 97), (11, .aload_n 0, 1, 0), (12, .invokevirtual 90, 3, 99), (15, .aload_n 0, 1, 0), (16, .invokevirtual 80, 3, 87), (19, .aload_n 0, 1, 0), (20, .getfield 10, 3, 160), (23, .iload_n 1, 1, 0), (24, .iload_n 2, 1, 0), (25, .iload_n 3, 1, 0), (26, .iload 4, 2, 0), (28, .invokestatic 104, 3, 102), (31, .invokevirtual 113, 3, 42), (34, .ireturn, 1, 0)]
def pgX5_look : List En := [(0, .iload_n 1, 1, 0), (1, .invokestatic 87, 3, 94), (4, .iload_n 2, 1, 0), (5, .iload_n 3, 1, 0), (6, .iload 4, 2, 0), (8, .invokestatic 101, 3, 97), (11, .aload_n 0, 1, 0), (12, .invokevirtual 90, 3, 99), (15, .aload_n 0, 1, 0), (16, .invokevirtual 80, 3, 87), (19, .aload_n 0, 1, 0), (20, .getfield 10, 3, 160), (23, .iload_n 1, 1, 0), (24, .iload_n 2, 1, 0), (25, .iload_n 3, 1, 0), (26, .iload 4, 2, 0), (28, .invokestatic 104, 3, 102), (31, .invokevirtual 117, 3, 43), (34, .ireturn, 1, 0)]
def pgX5_accuse : List En := [(0, .iload_n 1, 1, 0), (1, .iload_n 2, 1, 0), (2, .iload_n 3, 1, 0), (3, .invokestatic 101, 3, 97), (6, .aload_n 0, 1, 0), (7, .invokevirtual 90, 3, 99), (10, .aload_n 0, 1, 0), (11, .invokevirtual 80, 3, 87), (14, .aload_n 0, 1, 0), (15, .getfield 10, 3, 160), (18, .iload_n 1, 1, 0), (19, .iload_n 2, 1, 0), (20, .iload_n 3, 1, 0), (21, .invokestatic 104, 3, 102), (24, .invokevirtual 121, 3, 44), (27, .ireturn, 1, 0)]
def pgX5_hasStopped : List En := [(0, .aload_n 0, 1, 0), (1, .getfield 10, 3, 160), (4, .getfield 162, 3, 102), (7, .ifCond .eq 7, 3, 14336), (10, .iconst 1, 1, 0), (11, .goto 4, 3, 15360), (14, .iconst 0, 1, 0), (100015, .nop, 0, 0), (15, .ireturn, 1, 0)]
def pgX5_stoppedPart : List En := [(0, .aload_n 0, 1, 0), (1, .invokevirtual 168, 3, 100), (4, .aload_n 0, 1, 0), (5, .getfield 10, 3, 160), (8, .getfield 165, 3, 101), (11, .ireturn, 1, 0)]
def pgX5_whyStopped : List En := [(0, .aload_n 0, 1, 0), (1, .invokevirtual 168, 3, 100), (4, .aload_n 0, 1, 0), (5, .getfield 10, 3, 160), (8, .getfield 162, 3, 102), (11, .ireturn, 1, 0)]
def pgX5_undo : List En := [(0, .aload_n 0, 1, 0), (1, .getfield 171, 3, 168), (4, .ifCond .le 11, 3, 15360), (7, .aload_n 0, 1, 0), (8, .getfield 171, 3, 168), (11, .iconst 5, 1, 0), (12, .if_icmp .le 13, 3, 25601), (100015, .nop, 0, 0), (15, .new 73, 3, 1), (18, .dup, 1, 0), (19, .ldc 174, 2, 0), (21, .invokespecial 77, 3, 0), (24, .athrow, 1, 0), (25, .aload_n 0, 1, 0), (26, .dup, 1, 0), (27, .getfield 171, 3, 168), (30, .iconst 1, 1, 0), (31, .isub, 1, 0), (32, .putfield 171, 3, 168), (35, .aload_n 0, 1, 0), (36, .getfield 10, 3, 160), (39, .aload_n 0, 1, 0), (40, .getfield 19, 3, 162), (43, .aload_n 0, 1, 0), (44, .getfield 171, 3, 168), (47, .aaload, 1, 0), (48, .invokevirtual 176, 3, 39), (51, .aload_n 0, 1, 0), (52, .invokevirtual 180, 3, 89), (55, .aload_n 0, 1, 0), (56, .getfield 171, 3, 168), (59, .ireturn, 1, 0)]
def pgX5_savedStates : List En := [(0, .aload_n 0, 1, 0), (1, .getfield 171, 3, 168), (4, .ireturn, 1, 0)]
def pgX5_truePlace : List En := [(0, .iload_n 1, 1, 0), (1, .invokestatic 58, 3, 93), (4, .aload_n 0, 1, 0), (5, .getfield 10, 3, 160), (8, .iload_n 1, 1, 0), (9, .invokevirtual 189, 3, 46), (12, .ireturn, 1, 0)]
def pgX5_trueEnvelope : List En := [(0, .aload_n 0, 1, 0), (1, .getfield 10, 3, 160), (4, .getfield 62, 3, 96), (7, .iconst 3, 1, 0), (8, .iaload, 1, 0), (9, .invokestatic 83, 3, 105), (12, .ireturn, 1, 0)]
def pgX5_clues : List En := [(0, .aload_n 0, 1, 0), (1, .getfield 10, 3, 160), (4, .getfield 97, 3, 100), (7, .ireturn, 1, 0)]
def pgX5_kindOf : List En := [(0, .aload_n 0, 1, 0), (1, .iload_n 1, 1, 0), (2, .invokevirtual 107, 3, 98), (5, .aload_n 0, 1, 0), (6, .getfield 10, 3, 160), (9, .getfield 192, 3, 97), (12, .iload_n 1, 1, 0), (13, .iaload, 1, 0), (14, .ireturn, 1, 0)]
def pgX5_playerOf : List En := [(0, .aload_n 0, 1, 0), (1, .iload_n 1, 1, 0), (2, .invokevirtual 107, 3, 98), (5, .aload_n 0, 1, 0), (6, .getfield 10, 3, 160), (9, .getfield 195, 3, 98), (12, .iload_n 1, 1, 0), (13, .iaload, 1, 0), (14, .iconst 3, 1, 0), (15, .if_icmp .ne 7, 3, 22531), (18, .iconst (-1), 1, 0), (19, .goto 12, 3, 31744), (22, .aload_n 0, 1, 0), (23, .getfield 10, 3, 160), (26, .getfield 195, 3, 98), (29, .iload_n 1, 1, 0), (30, .iaload, 1, 0), (100031, .nop, 0, 0), (31, .ireturn, 1, 0)]
def pgX5_cardsOf : List En := [(0, .aload_n 0, 1, 0), (1, .iload_n 1, 1, 0), (2, .invokevirtual 107, 3, 98), (5, .aload_n 0, 1, 0), (6, .getfield 10, 3, 160), (9, .getfield 198, 3, 99), (12, .iload_n 1, 1, 0), (13, .iaload, 1, 0), (14, .ireturn, 1, 0)]
def pgX5_untrueClues : List En := [(0, .iconst 0, 1, 0), (1, .istore_n 1, 1, 0), (2, .iconst 0, 1, 0), (3, .istore_n 2, 1, 0), (100004, .nop, 0, 7), (4, .iload_n 2, 1, 0), (5, .aload_n 0, 1, 0), (6, .getfield 10, 3, 160), (9, .getfield 97, 3, 100), (12, .if_icmp .ge 35, 3, 48130), (15, .iload_n 1, 1, 0), (16, .aload_n 0, 1, 0), (17, .getfield 10, 3, 160), (20, .iload_n 2, 1, 0), (21, .aload_n 0, 1, 0), (22, .getfield 10, 3, 160), (25, .getfield 62, 3, 96), (28, .invokevirtual 201, 3, 47), (31, .ifCond .eq 7, 3, 38917), (34, .iconst 0, 1, 0), (35, .goto 4, 3, 39941), (38, .iconst 1, 1, 0), (100039, .nop, 0, 5), (39, .iadd, 1, 0), (40, .istore_n 1, 1, 0), (41, .iinc 2 1, 3, 0), (44, .goto (-40), 3, 4103), (47, .iload_n 1, 1, 0), (48, .ireturn, 1, 0)]
def pgX5_deals : List En := [(0, .aload_n 0, 1, 0), (1, .invokevirtual 205, 3, 90), (4, .getfield 209, 3, 0), (7, .ireturn, 1, 0)]
def pgX5_dealsByHands : List En := [(0, .aload_n 0, 1, 0), (1, .invokevirtual 212, 3, 92), (4, .getfield 216, 3, 32), (7, .ireturn, 1, 0)]
def pgX5_dealsWith : List En := [(0, .iload_n 1, 1, 0), (1, .invokestatic 58, 3, 93), (4, .iload_n 2, 1, 0), (5, .invokestatic 217, 3, 95), (8, .aload_n 0, 1, 0), (9, .invokevirtual 205, 3, 90), (12, .iload_n 1, 1, 0), (13, .iload_n 2, 1, 0), (14, .invokevirtual 220, 3, 6), (17, .ireturn, 1, 0)]
def pgX5_certainPlace : List En := [(0, .iload_n 1, 1, 0), (1, .invokestatic 58, 3, 93), (4, .aload_n 0, 1, 0), (5, .invokevirtual 205, 3, 90), (8, .iload_n 1, 1, 0), (9, .invokevirtual 223, 3, 7), (12, .ireturn, 1, 0)]
def pgX5_certainCards : List En := [(0, .aload_n 0, 1, 0), (1, .invokevirtual 205, 3, 90), (4, .invokevirtual 226, 3, 8), (7, .ireturn, 1, 0)]
def pgX5_isBroken : List En := [(0, .aload_n 0, 1, 0), (1, .invokevirtual 229, 3, 91), (4, .getfield 233, 3, 64), (7, .ireturn, 1, 0)]
def pgX5_placeByRules : List En := [(0, .iload_n 1, 1, 0), (1, .invokestatic 58, 3, 93), (4, .aload_n 0, 1, 0), (5, .invokevirtual 229, 3, 91), (8, .iload_n 1, 1, 0), (9, .invokevirtual 239, 3, 24), (12, .ireturn, 1, 0)]
def pgX5_crossedOff : List En := [(0, .bipush 36, 2, 0), (2, .aload_n 0, 1, 0), (3, .invokevirtual 229, 3, 91), (6, .invokevirtual 242, 3, 23), (9, .isub, 1, 0), (10, .ireturn, 1, 0)]
def pgX5_hiddenCrosses : List En := [(0, .aload_n 0, 1, 0), (1, .invokevirtual 229, 3, 91), (4, .invokevirtual 242, 3, 23), (7, .aload_n 0, 1, 0), (8, .invokevirtual 205, 3, 90), (11, .invokevirtual 245, 3, 9), (14, .isub, 1, 0), (15, .ireturn, 1, 0)]
def pgX5_envelopeDeals : List En := [(0, .iload_n 1, 1, 0), (1, .invokestatic 246, 3, 96), (4, .aload_n 0, 1, 0), (5, .invokevirtual 205, 3, 90), (8, .iload_n 1, 1, 0), (9, .invokevirtual 249, 3, 10), (12, .ireturn, 1, 0)]
def pgX5_envelopes : List En := [(0, .aload_n 0, 1, 0), (1, .invokevirtual 205, 3, 90), (4, .invokevirtual 252, 3, 11), (7, .ireturn, 1, 0)]
def pgX5_bestAccusation : List En := [(0, .aload_n 0, 1, 0), (1, .invokevirtual 205, 3, 90), (4, .astore_n 1, 1, 0), (5, .aload_n 1, 1, 0), (6, .getfield 209, 3, 0), (9, .invokestatic 255, 3, 101), (12, .aload_n 1, 1, 0), (13, .invokevirtual 258, 3, 12), (16, .ireturn, 1, 0)]
def pgX5_isSolved : List En := [(0, .aload_n 0, 1, 0), (1, .invokevirtual 205, 3, 90), (4, .invokevirtual 252, 3, 11), (7, .iconst 1, 1, 0), (8, .if_icmp .ne 7, 3, 15360), (11, .iconst 1, 1, 0), (12, .goto 4, 3, 16384), (15, .iconst 0, 1, 0), (100016, .nop, 0, 0), (16, .ireturn, 1, 0)]
def pgX5_leftBy : List En := [(0, .iload_n 1, 1, 0), (1, .invokestatic 87, 3, 94), (4, .iload_n 2, 1, 0), (5, .invokestatic 246, 3, 96), (8, .aload_n 0, 1, 0), (9, .invokevirtual 205, 3, 90), (12, .iload_n 1, 1, 0), (13, .iload_n 2, 1, 0), (14, .invokevirtual 264, 3, 15), (17, .ireturn, 1, 0)]
def pgX5_bestQuestion : List En := [(0, .iload_n 1, 1, 0), (1, .invokestatic 87, 3, 94), (4, .aload_n 0, 1, 0), (5, .invokevirtual 205, 3, 90), (8, .astore_n 2, 1, 0), (9, .aload_n 2, 1, 0), (10, .getfield 209, 3, 0), (13, .invokestatic 255, 3, 101), (16, .aload_n 2, 1, 0), (17, .iload_n 1, 1, 0), (18, .invokevirtual 267, 3, 16), (21, .ireturn, 1, 0)]
def pgX5_idleClues : List En := [(0, .aload_n 0, 1, 0), (1, .invokevirtual 205, 3, 90), (4, .aload_n 0, 1, 0), (5, .getfield 10, 3, 160), (8, .getfield 97, 3, 100), (11, .invokevirtual 273, 3, 18), (14, .ireturn, 1, 0)]
def pgX5_chance : List En := [(0, .aload_n 0, 1, 0), (1, .invokevirtual 205, 3, 90), (4, .invokevirtual 276, 3, 13), (7, .dreturn, 1, 0)]
def pgX5_remember : List En := [(0, .aload_n 0, 1, 0), (1, .getfield 171, 3, 168), (4, .iconst 5, 1, 0), (5, .if_icmp .lt 7, 3, 12289), (8, .aload_n 0, 1, 0), (9, .invokevirtual 368, 3, 88), (100012, .nop, 0, 1), (12, .aload_n 0, 1, 0), (13, .getfield 171, 3, 168), (16, .ifCond .lt 43, 3, 60417), (19, .aload_n 0, 1, 0), (20, .getfield 171, 3, 168), (23, .iconst 5, 1, 0), (24, .if_icmp .ge 35, 3, 60417), (27, .aload_n 0, 1, 0), (28, .getfield 19, 3, 162), (31, .aload_n 0, 1, 0), (32, .getfield 171, 3, 168), (35, .aaload, 1, 0), (36, .astore_n 1, 1, 0), (37, .aload_n 1, 1, 0), (38, .ifnull 21, 3, 60417), (41, .aload_n 1, 1, 0), (42, .aload_n 0, 1, 0), (43, .getfield 10, 3, 160), (46, .invokevirtual 176, 3, 39), (49, .aload_n 0, 1, 0), (50, .dup, 1, 0), (51, .getfield 171, 3, 168), (54, .iconst 1, 1, 0), (55, .iadd, 1, 0), (56, .putfield 171, 3, 168), (100059, .nop, 0, 1), (59, .aload_n 0, 1, 0), (60, .invokevirtual 180, 3, 89), (63, .return_, 1, 0)]
def pgX5_dropOldest : List En := [(0, .aload_n 0, 1, 0), (1, .getfield 19, 3, 162), (4, .iconst 0, 1, 0), (5, .aaload, 1, 0), (6, .astore_n 1, 1, 0), (7, .iconst 1, 1, 0), (8, .istore_n 2, 1, 0), (100009, .nop, 0, 7), (9, .iload_n 2, 1, 0), (10, .iconst 5, 1, 0), (11, .if_icmp .ge 23, 3, 34819), (14, .aload_n 0, 1, 0), (15, .getfield 19, 3, 162), (18, .iload_n 2, 1, 0), (19, .iconst 1, 1, 0), (20, .isub, 1, 0), (21, .aload_n 0, 1, 0), (22, .getfield 19, 3, 162), (25, .iload_n 2, 1, 0), (26, .aaload, 1, 0), (27, .aastore, 1, 0), (28, .iinc 2 1, 3, 0), (31, .goto (-22), 3, 9223), (34, .aload_n 0, 1, 0), (35, .getfield 19, 3, 162), (38, .iconst 4, 1, 0), (39, .aload_n 1, 1, 0), (40, .aastore, 1, 0), (41, .aload_n 0, 1, 0), (42, .iconst 4, 1, 0), (43, .putfield 171, 3, 168), (46, .return_, 1, 0)]
def pgX5_forgetCounts : List En := [(0, .aload_n 0, 1, 0), (1, .getfield 37, 3, 165), (4, .iconst 0, 1, 0), (5, .putfield 371, 3, 1), (8, .aload_n 0, 1, 0), (9, .getfield 44, 3, 166), (12, .iconst 0, 1, 0), (13, .putfield 374, 3, 33), (16, .aload_n 0, 1, 0), (17, .getfield 51, 3, 167), (20, .iconst 0, 1, 0), (21, .putfield 375, 3, 65), (24, .return_, 1, 0)]
def pgX5_countedDeals : List En := [(0, .aload_n 0, 1, 0), (1, .getfield 37, 3, 165), (4, .getfield 371, 3, 1), (7, .ifCond .ne 14, 3, 21505), (10, .aload_n 0, 1, 0), (11, .getfield 37, 3, 165), (14, .aload_n 0, 1, 0), (15, .getfield 10, 3, 160), (18, .invokevirtual 376, 3, 0), (100021, .nop, 0, 1), (21, .aload_n 0, 1, 0), (22, .getfield 37, 3, 165), (25, .areturn, 1, 0)]
def pgX5_filledSheet : List En := [(0, .aload_n 0, 1, 0), (1, .getfield 51, 3, 167), (4, .getfield 375, 3, 65), (7, .ifCond .ne 14, 3, 21505), (10, .aload_n 0, 1, 0), (11, .getfield 51, 3, 167), (14, .aload_n 0, 1, 0), (15, .getfield 10, 3, 160), (18, .invokevirtual 378, 3, 21), (100021, .nop, 0, 1), (21, .aload_n 0, 1, 0), (22, .getfield 51, 3, 167), (25, .areturn, 1, 0)]
def pgX5_countedHands : List En := [(0, .aload_n 0, 1, 0), (1, .getfield 44, 3, 166), (4, .getfield 374, 3, 33), (7, .ifCond .ne 14, 3, 21505), (10, .aload_n 0, 1, 0), (11, .getfield 44, 3, 166), (14, .aload_n 0, 1, 0), (15, .getfield 10, 3, 160), (18, .invokevirtual 381, 3, 19), (100021, .nop, 0, 1), (21, .aload_n 0, 1, 0), (22, .getfield 44, 3, 166), (25, .areturn, 1, 0)]
def pgX5_checkCard : List En := [(0, .iload_n 0, 1, 0), (1, .ifCond .lt 9, 3, 10240), (4, .iload_n 0, 1, 0), (5, .bipush 9, 2, 0), (7, .if_icmp .lt 14, 3, 21504), (100010, .nop, 0, 0), (10, .new 382, 3, 0), (13, .dup, 1, 0), (14, .ldc_w 384, 3, 0), (17, .invokespecial 386, 3, 0), (20, .athrow, 1, 0), (21, .return_, 1, 0)]
def pgX5_checkPlayer : List En := [(0, .iload_n 0, 1, 0), (1, .ifCond .lt 8, 3, 9216), (4, .iload_n 0, 1, 0), (5, .iconst 3, 1, 0), (6, .if_icmp .lt 14, 3, 20480), (100009, .nop, 0, 0), (9, .new 382, 3, 0), (12, .dup, 1, 0), (13, .ldc_w 387, 3, 0), (16, .invokespecial 386, 3, 0), (19, .athrow, 1, 0), (20, .return_, 1, 0)]
def pgX5_checkPlace : List En := [(0, .iload_n 0, 1, 0), (1, .ifCond .lt 8, 3, 9216), (4, .iload_n 0, 1, 0), (5, .iconst 4, 1, 0), (6, .if_icmp .lt 14, 3, 20480), (100009, .nop, 0, 0), (9, .new 382, 3, 0), (12, .dup, 1, 0), (13, .ldc_w 389, 3, 0), (16, .invokespecial 386, 3, 0), (19, .athrow, 1, 0), (20, .return_, 1, 0)]
def pgX5_checkTriple : List En := [(0, .iload_n 0, 1, 0), (1, .ifCond .lt 9, 3, 10240), (4, .iload_n 0, 1, 0), (5, .bipush 27, 2, 0), (7, .if_icmp .lt 14, 3, 21504), (100010, .nop, 0, 0), (10, .new 382, 3, 0), (13, .dup, 1, 0), (14, .ldc_w 391, 3, 0), (17, .invokespecial 386, 3, 0), (20, .athrow, 1, 0), (21, .return_, 1, 0)]
def pgX5_checkCards : List En := [(0, .iload_n 0, 1, 0), (1, .ifCond .lt 8, 3, 9216), (4, .iload_n 0, 1, 0), (5, .iconst 3, 1, 0), (6, .if_icmp .lt 14, 3, 20486), (100009, .nop, 0, 0), (9, .new 382, 3, 0), (12, .dup, 1, 0), (13, .ldc_w 393, 3, 0), (16, .invokespecial 386, 3, 0), (19, .athrow, 1, 0), (20, .iload_n 1, 1, 0), (21, .iconst 3, 1, 0), (22, .if_icmp .lt 9, 3, 31744), (25, .iload_n 1, 1, 0), (26, .bipush 6, 2, 0), (28, .if_icmp .lt 14, 3, 43012), (100031, .nop, 0, 0), (31, .new 382, 3, 0), (34, .dup, 1, 0), (35, .ldc_w 395, 3, 0), (38, .invokespecial 386, 3, 0), (41, .athrow, 1, 0), (42, .iload_n 2, 1, 0), (43, .bipush 6, 2, 0), (45, .if_icmp .lt 9, 3, 55296), (48, .iload_n 2, 1, 0), (49, .bipush 9, 2, 0), (51, .if_icmp .lt 14, 3, 66560), (100054, .nop, 0, 0), (54, .new 382, 3, 0), (57, .dup, 1, 0), (58, .ldc_w 397, 3, 0), (61, .invokespecial 386, 3, 0), (64, .athrow, 1, 0), (65, .return_, 1, 0)]
def pgX5_checkClue : List En := [(0, .iload_n 1, 1, 0), (1, .ifCond .lt 20, 3, 21504), (4, .iload_n 1, 1, 0), (5, .aload_n 0, 1, 0), (6, .getfield 10, 3, 160), (9, .getfield 97, 3, 100), (12, .if_icmp .ge 9, 3, 21504), (15, .iload_n 1, 1, 0), (16, .bipush 20, 2, 0), (18, .if_icmp .lt 14, 3, 32768), (100021, .nop, 0, 0), (21, .new 382, 3, 0), (24, .dup, 1, 0), (25, .ldc_w 399, 3, 0), (28, .invokespecial 386, 3, 0), (31, .athrow, 1, 0), (32, .return_, 1, 0)]
def pgX5_checkRoomForClue : List En := [(0, .aload_n 0, 1, 0), (1, .getfield 10, 3, 160), (4, .getfield 97, 3, 100), (7, .bipush 20, 2, 0), (9, .if_icmp .lt 14, 3, 23552), (12, .new 73, 3, 1), (15, .dup, 1, 0), (16, .ldc_w 401, 3, 0), (19, .invokespecial 77, 3, 0), (22, .athrow, 1, 0), (23, .return_, 1, 0)]
def pgX5_checkStopped : List En := [(0, .aload_n 0, 1, 0), (1, .getfield 10, 3, 160), (4, .getfield 162, 3, 102), (7, .ifCond .ne 14, 3, 21504), (10, .new 73, 3, 1), (13, .dup, 1, 0), (14, .ldc_w 403, 3, 0), (17, .invokespecial 77, 3, 0), (20, .athrow, 1, 0), (21, .return_, 1, 0)]
def pgX5_checkSome : List En := [(0, .iload_n 0, 1, 0), (1, .ifCond .gt 14, 3, 15360), (4, .new 73, 3, 1), (7, .dup, 1, 0), (8, .ldc_w 405, 3, 0), (11, .invokespecial 77, 3, 0), (14, .athrow, 1, 0), (15, .return_, 1, 0)]
def pgX5_mask : List En := [(0, .iconst 1, 1, 0), (1, .iload_n 0, 1, 0), (2, .ishl, 1, 0), (3, .iconst 1, 1, 0), (4, .iload_n 1, 1, 0), (5, .ishl, 1, 0), (6, .ior, 1, 0), (7, .iconst 1, 1, 0), (8, .iload_n 2, 1, 0), (9, .ishl, 1, 0), (10, .ior, 1, 0), (11, .ireturn, 1, 0)]
def pgX5_cardsOfKind : List En := [(0, .bipush 7, 2, 0), (2, .iconst 3, 1, 0), (3, .iload_n 0, 1, 0), (4, .imul, 1, 0), (5, .ishl, 1, 0), (6, .ireturn, 1, 0)]
def pgX5_cardsOfTriple : List En := [(0, .iload_n 0, 1, 0), (1, .bipush 9, 2, 0), (3, .idiv, 1, 0), (4, .iconst 3, 1, 0), (5, .iload_n 0, 1, 0), (6, .iconst 3, 1, 0), (7, .idiv, 1, 0), (8, .iconst 3, 1, 0), (9, .irem, 1, 0), (10, .iadd, 1, 0), (11, .bipush 6, 2, 0), (13, .iload_n 0, 1, 0), (14, .iconst 3, 1, 0), (15, .irem, 1, 0), (16, .iadd, 1, 0), (17, .invokestatic 104, 3, 102), (20, .ireturn, 1, 0)]
def pgX5_numberOfTriple : List En := [(0, .iconst 0, 1, 0), (1, .istore_n 1, 1, 0), (2, .iconst 0, 1, 0), (3, .istore_n 2, 1, 0), (100004, .nop, 0, 7), (4, .iload_n 2, 1, 0), (5, .bipush 9, 2, 0), (7, .if_icmp .ge 25, 3, 32770), (10, .iload_n 0, 1, 0), (11, .iconst 1, 1, 0), (12, .iload_n 2, 1, 0), (13, .ishl, 1, 0), (14, .iand, 1, 0), (15, .ifCond .eq 11, 3, 26631), (18, .iconst 3, 1, 0), (19, .iload_n 1, 1, 0), (20, .imul, 1, 0), (21, .iload_n 2, 1, 0), (22, .iconst 3, 1, 0), (23, .irem, 1, 0), (24, .iadd, 1, 0), (25, .istore_n 1, 1, 0), (100026, .nop, 0, 7), (26, .iinc 2 1, 3, 0), (29, .goto (-25), 3, 4103), (32, .iload_n 1, 1, 0), (33, .ireturn, 1, 0)]
def pgX5_isTriple : List En := [(0, .iconst 1, 1, 0), (1, .istore_n 1, 1, 0), (2, .iconst 0, 1, 0), (3, .istore_n 2, 1, 0), (100004, .nop, 0, 7), (4, .iload_n 2, 1, 0), (5, .iconst 3, 1, 0), (6, .if_icmp .ge 32, 3, 38914), (9, .iload_n 1, 1, 0), (10, .ifCond .eq 20, 3, 30725), (13, .iload_n 0, 1, 0), (14, .iload_n 2, 1, 0), (15, .invokestatic 407, 3, 103), (18, .iand, 1, 0), (19, .invokestatic 410, 3, 112), (22, .iconst 1, 1, 0), (23, .if_icmp .ne 7, 3, 30725), (26, .iconst 1, 1, 0), (27, .goto 4, 3, 31749), (30, .iconst 0, 1, 0), (100031, .nop, 0, 5), (31, .istore_n 1, 1, 0), (32, .iinc 2 1, 3, 0), (35, .goto (-31), 3, 4103), (38, .iload_n 1, 1, 0), (39, .ireturn, 1, 0)]
def pgX5_exchanged : List En := [(0, .iload_n 0, 1, 0), (1, .iconst 1, 1, 0), (2, .iload_n 1, 1, 0), (3, .ishl, 1, 0), (4, .iand, 1, 0), (5, .ifCond .eq 7, 3, 12295), (8, .iconst 1, 1, 0), (9, .goto 4, 3, 13319), (12, .iconst 0, 1, 0), (100013, .nop, 0, 7), (13, .istore_n 3, 1, 0), (14, .iload_n 0, 1, 0), (15, .iconst 1, 1, 0), (16, .iload_n 2, 1, 0), (17, .ishl, 1, 0), (18, .iand, 1, 0), (19, .ifCond .eq 7, 3, 26639), (22, .iconst 1, 1, 0), (23, .goto 4, 3, 27663), (26, .iconst 0, 1, 0), (100027, .nop, 0, 15), (27, .istore 4, 2, 0), (29, .iload_n 3, 1, 0), (30, .iload 4, 2, 0), (32, .if_icmp .ne 7, 3, 39943), (35, .iload_n 0, 1, 0), (36, .goto 12, 3, 49152), (39, .iload_n 0, 1, 0), (40, .iconst 1, 1, 0), (41, .iload_n 1, 1, 0), (42, .ishl, 1, 0), (43, .ixor, 1, 0), (44, .iconst 1, 1, 0), (45, .iload_n 2, 1, 0), (46, .ishl, 1, 0), (47, .ixor, 1, 0), (100048, .nop, 0, 0), (48, .ireturn, 1, 0)]
def pgL_low : List En := [(0, .iload_n 0, 1, 0), (1, .ldc 7, 2, 2147483647), (3, .iand, 1, 0), (4, .iload_n 1, 1, 0), (5, .irem, 1, 0), (6, .ireturn, 1, 0)]
def pgL_told : List En := [(0, .ldc2_w 8, 3, 6), (3, .lstore_n 1, 1, 0), (4, .ldc2_w 10, 3, 62), (7, .ldc2_w 10, 3, 62), (10, .lload_n 1, 1, 0), (11, .lmul, 1, 0), (12, .aload_n 0, 1, 0), (13, .invokevirtual 12, 3, 65), (16, .i2l, 1, 0), (17, .ladd, 1, 0), (18, .lmul, 1, 0), (19, .aload_n 0, 1, 0), (20, .invokevirtual 18, 3, 64), (23, .i2l, 1, 0), (24, .ladd, 1, 0), (25, .lstore_n 1, 1, 0), (26, .iconst 0, 1, 0), (27, .istore_n 3, 1, 0), (100028, .nop, 0, 11), (28, .iload_n 3, 1, 0), (29, .bipush 9, 2, 0), (31, .if_icmp .ge 22, 3, 54275), (34, .ldc2_w 10, 3, 62), (37, .lload_n 1, 1, 0), (38, .lmul, 1, 0), (39, .aload_n 0, 1, 0), (40, .iload_n 3, 1, 0), (41, .invokevirtual 21, 3, 63), (44, .i2l, 1, 0), (45, .ladd, 1, 0), (46, .lstore_n 1, 1, 0), (47, .iinc 3 1, 3, 0), (50, .goto (-22), 3, 28683), (53, .iconst 0, 1, 0), (54, .istore_n 3, 1, 0), (100055, .nop, 0, 11), (55, .iload_n 3, 1, 0), (56, .aload_n 0, 1, 0), (57, .invokevirtual 12, 3, 65), (60, .if_icmp .ge 44, 3, 106499), (63, .ldc2_w 10, 3, 62), (66, .ldc2_w 10, 3, 62), (69, .ldc2_w 10, 3, 62), (72, .lload_n 1, 1, 0), (73, .lmul, 1, 0), (74, .aload_n 0, 1, 0), (75, .iload_n 3, 1, 0), (76, .invokevirtual 25, 3, 66), (79, .i2l, 1, 0), (80, .ladd, 1, 0), (81, .lmul, 1, 0), (82, .aload_n 0, 1, 0), (83, .iload_n 3, 1, 0), (84, .invokevirtual 28, 3, 67), (87, .i2l, 1, 0), (88, .ladd, 1, 0), (89, .lmul, 1, 0), (90, .aload_n 0, 1, 0), (91, .iload_n 3, 1, 0), (92, .invokevirtual 31, 3, 68), (95, .i2l, 1, 0), (96, .ladd, 1, 0), (97, .lstore_n 1, 1, 0), (98, .iinc 3 1, 3, 0), (101, .goto (-46), 3, 56331), (104, .ldc2_w 10, 3, 62), (107, .lload_n 1, 1, 0), (108, .lmul, 1, 0), (109, .aload_n 0, 1, 0), (110, .invokevirtual 34, 3, 58), (113, .ifCond .eq 20, 3, 136192), (116, .bipush 10, 2, 0), (118, .iconst 1, 1, 0), (119, .aload_n 0, 1, 0), (120, .invokevirtual 38, 3, 59), (123, .iadd, 1, 0), (124, .imul, 1, 0), (125, .aload_n 0, 1, 0), (126, .invokevirtual 41, 3, 60), (129, .iadd, 1, 0), (130, .goto 4, 3, 137216), (133, .iconst 0, 1, 0), (100134, .nop, 0, 0), (134, .i2l, 1, 0), (135, .ladd, 1, 0), (136, .lreturn, 1, 0)]
def pgL_act : List En := [(0, .iload_n 1, 1, 0), (1, .iconst 4, 1, 0), (2, .ishr, 1, 0), (3, .iconst 3, 1, 0), (4, .invokestatic 44, 3, 108), (7, .istore_n 3, 1, 0), (8, .iload_n 2, 1, 0), (9, .bipush 9, 2, 0), (11, .invokestatic 44, 3, 108), (14, .istore 4, 2, 0), (16, .iload_n 2, 1, 0), (17, .iconst 3, 1, 0), (18, .invokestatic 44, 3, 108), (21, .istore 5, 2, 0), (23, .iconst 3, 1, 0), (24, .iload_n 2, 1, 0), (25, .iconst 3, 1, 0), (26, .ishr, 1, 0), (27, .iconst 3, 1, 0), (28, .invokestatic 44, 3, 108), (31, .iadd, 1, 0), (32, .istore 6, 2, 0), (34, .bipush 6, 2, 0), (36, .iload_n 2, 1, 0), (37, .bipush 6, 2, 0), (39, .ishr, 1, 0), (40, .iconst 3, 1, 0), (41, .invokestatic 44, 3, 108), (44, .iadd, 1, 0), (45, .istore 7, 2, 0), (47, .iload_n 1, 1, 0), (48, .bipush 15, 2, 0), (50, .iand, 1, 0), (51, .istore 8, 2, 0), (53, .iload 8, 2, 0), (55, .bipush 11, 2, 0), (57, .if_icmp .ge 14, 3, 73213), (60, .aload_n 0, 1, 0), (61, .invokevirtual 12, 3, 65), (64, .bipush 20, 2, 0), (66, .if_icmp .ne 5, 3, 73213), (69, .iconst 0, 1, 0), (70, .ireturn, 1, 0), (71, .iload 8, 2, 0), (73, .tableswitch 190 0 13 #[71, 81, 81, 91, 105, 105, 105, 119, 119, 133, 133, 146, 146, 172], 71, 253), (144, .aload_n 0, 1, 0), (145, .iload_n 3, 1, 0), (146, .iload 4, 2, 0), (148, .invokevirtual 50, 3, 50), (151, .pop, 1, 0), (152, .iconst 1, 1, 0), (153, .ireturn, 1, 0), (154, .aload_n 0, 1, 0), (155, .iload_n 3, 1, 0), (156, .iload 4, 2, 0), (158, .invokevirtual 53, 3, 51), (161, .pop, 1, 0), (162, .iconst 1, 1, 0), (163, .ireturn, 1, 0), (164, .aload_n 0, 1, 0), (165, .iload_n 3, 1, 0), (166, .iload 5, 2, 0), (168, .iload 6, 2, 0), (170, .iload 7, 2, 0), (172, .invokevirtual 56, 3, 52), (175, .pop, 1, 0), (176, .iconst 1, 1, 0), (177, .ireturn, 1, 0), (178, .aload_n 0, 1, 0), (179, .iload_n 3, 1, 0), (180, .iload 5, 2, 0), (182, .iload 6, 2, 0), (184, .iload 7, 2, 0), (186, .invokevirtual 60, 3, 55), (189, .pop, 1, 0), (190, .iconst 1, 1, 0), (191, .ireturn, 1, 0), (192, .aload_n 0, 1, 0), (193, .iload_n 3, 1, 0), (194, .iload 5, 2, 0), (196, .iload 6, 2, 0), (198, .iload 7, 2, 0), (200, .invokevirtual 64, 3, 56), (203, .pop, 1, 0), (204, .iconst 1, 1, 0), (205, .ireturn, 1, 0), (206, .aload_n 0, 1, 0), (207, .iload 5, 2, 0), (209, .iload 6, 2, 0), (211, .iload 7, 2, 0), (213, .invokevirtual 67, 3, 57), (216, .pop, 1, 0), (217, .iconst 1, 1, 0), (218, .ireturn, 1, 0), (219, .aload_n 0, 1, 0), (220, .invokevirtual 12, 3, 65), (223, .ifCond .ne 5, 3, 233477), (226, .iconst 0, 1, 0), (227, .ireturn, 1, 0), (228, .aload_n 0, 1, 0), (229, .iload_n 2, 1, 0), (230, .iconst 2, 1, 0), (231, .ishr, 1, 0), (232, .aload_n 0, 1, 0), (233, .invokevirtual 12, 3, 65), (236, .invokestatic 44, 3, 108), (239, .invokevirtual 71, 3, 53), (242, .pop, 1, 0), (243, .iconst 1, 1, 0), (244, .ireturn, 1, 0), (245, .iload_n 2, 1, 0), (246, .bipush 9, 2, 0), (248, .ishr, 1, 0), (249, .iconst 1, 1, 0), (250, .iand, 1, 0), (251, .ifCond .ne 5, 3, 262145), (254, .iconst 0, 1, 0), (255, .ireturn, 1, 0), (256, .aload_n 0, 1, 0), (257, .invokevirtual 74, 3, 54), (260, .pop, 1, 0), (261, .iconst 1, 1, 0), (262, .ireturn, 1, 0), (263, .iload_n 2, 1, 0), (264, .iconst 4, 1, 0), (265, .ishr, 1, 0), (266, .bipush 9, 2, 0), (268, .invokestatic 44, 3, 108), (271, .istore 9, 2, 0), (273, .aload_n 0, 1, 0), (274, .iload 4, 2, 0), (276, .invokevirtual 21, 3, 63), (279, .iconst 3, 1, 0), (280, .if_icmp .ne 7, 3, 294417), (283, .iconst 1, 1, 0), (284, .goto 4, 3, 295441), (287, .iconst 0, 1, 0), (100288, .nop, 0, 529), (288, .aload_n 0, 1, 0), (289, .iload 9, 2, 0), (291, .invokevirtual 21, 3, 63), (294, .iconst 3, 1, 0), (295, .if_icmp .ne 7, 3, 309777), (298, .iconst 1, 1, 0), (299, .goto 4, 3, 310801), (302, .iconst 0, 1, 0), (100303, .nop, 0, 529), (303, .if_icmp .eq 16, 3, 327185), (306, .iload 4, 2, 0), (308, .iconst 3, 1, 0), (309, .idiv, 1, 0), (310, .iload 9, 2, 0), (312, .iconst 3, 1, 0), (313, .idiv, 1, 0), (314, .if_icmp .eq 5, 3, 327185), (317, .iconst 0, 1, 0), (318, .ireturn, 1, 0), (319, .aload_n 0, 1, 0), (320, .iload 4, 2, 0), (322, .iload 9, 2, 0), (324, .invokevirtual 77, 3, 49), (327, .pop, 1, 0), (328, .iconst 1, 1, 0), (329, .ireturn, 1, 0)]
def pgL_holds : List En := [(0, .aload_n 0, 1, 0), (1, .invokevirtual 80, 3, 70), (4, .istore_n 3, 1, 0), (5, .iload_n 3, 1, 0), (6, .aload_n 0, 1, 0), (7, .invokevirtual 83, 3, 71), (10, .if_icmp .ne 59, 3, 70671), (13, .iload_n 3, 1, 0), (14, .ifCond .lt 55, 3, 70671), (17, .iload_n 3, 1, 0), (18, .sipush 2430, 3, 0), (21, .if_icmp .gt 48, 3, 70671), (24, .aload_n 0, 1, 0), (25, .invokevirtual 12, 3, 65), (28, .ifCond .gt 10, 3, 38927), (31, .iload_n 3, 1, 0), (32, .sipush 2430, 3, 0), (35, .if_icmp .ne 34, 3, 70671), (100038, .nop, 0, 15), (38, .aload_n 0, 1, 0), (39, .invokevirtual 86, 3, 75), (42, .ifCond .eq 16, 3, 59407), (45, .iload_n 3, 1, 0), (46, .ifCond .ne 23, 3, 70671), (49, .aload_n 0, 1, 0), (50, .invokevirtual 89, 3, 77), (53, .bipush 36, 2, 0), (55, .if_icmp .ne 14, 3, 70671), (100058, .nop, 0, 15), (58, .aload_n 0, 1, 0), (59, .invokevirtual 92, 3, 78), (62, .ifCond .lt 7, 3, 70671), (65, .iconst 1, 1, 0), (66, .goto 4, 3, 71695), (69, .iconst 0, 1, 0), (100070, .nop, 0, 15), (70, .istore 4, 2, 0), (72, .iconst 0, 1, 0), (73, .istore 5, 2, 0), (75, .iconst 0, 1, 0), (76, .istore 6, 2, 0), (100078, .nop, 0, 127), (78, .iload 6, 2, 0), (80, .bipush 9, 2, 0), (82, .if_icmp .ge 90, 3, 176191), (85, .aload_n 0, 1, 0), (86, .iload 6, 2, 0), (88, .invokevirtual 95, 3, 76), (91, .istore 7, 2, 0), (93, .aload_n 0, 1, 0), (94, .iload 6, 2, 0), (96, .invokevirtual 98, 3, 73), (99, .istore 8, 2, 0), (101, .iload 5, 2, 0), (103, .iload 8, 2, 0), (105, .ifCond .ge 7, 3, 115167), (108, .iconst 0, 1, 0), (109, .goto 4, 3, 116191), (112, .iconst 1, 1, 0), (100113, .nop, 0, 479), (113, .iadd, 1, 0), (114, .istore 5, 2, 0), (116, .iload 4, 2, 0), (118, .ifCond .eq 45, 3, 167023), (121, .iload 7, 2, 0), (123, .ifCond .lt 15, 3, 141679), (126, .aload_n 0, 1, 0), (127, .iload 6, 2, 0), (129, .iload 7, 2, 0), (131, .invokevirtual 101, 3, 72), (134, .iload_n 3, 1, 0), (135, .if_icmp .ne 28, 3, 167023), (100138, .nop, 0, 367), (138, .iload 8, 2, 0), (140, .ifCond .lt 19, 3, 162927), (143, .iload_n 3, 1, 0), (144, .ifCond .le 19, 3, 167023), (147, .aload_n 0, 1, 0), (148, .iload 6, 2, 0), (150, .iload 8, 2, 0), (152, .invokevirtual 101, 3, 72), (155, .iload_n 3, 1, 0), (156, .if_icmp .ne 7, 3, 167023), (100159, .nop, 0, 111), (159, .iconst 1, 1, 0), (160, .goto 4, 3, 168047), (163, .iconst 0, 1, 0), (100164, .nop, 0, 111), (164, .istore 4, 2, 0), (166, .iinc 6 1, 3, 0), (169, .goto (-91), 3, 79999), (172, .iload 4, 2, 0), (174, .ifCond .eq 16, 3, 194575), (177, .iload 5, 2, 0), (179, .aload_n 0, 1, 0), (180, .invokevirtual 104, 3, 74), (183, .if_icmp .ne 7, 3, 194575), (186, .iconst 1, 1, 0), (187, .goto 4, 3, 195599), (190, .iconst 0, 1, 0), (100191, .nop, 0, 15), (191, .istore 4, 2, 0), (193, .aload_n 0, 1, 0), (194, .invokevirtual 107, 3, 69), (197, .ifCond .ne 37, 3, 239647), (200, .iload 4, 2, 0), (202, .ifCond .eq 29, 3, 236559), (205, .iload_n 3, 1, 0), (206, .ifCond .le 25, 3, 236559), (209, .aload_n 0, 1, 0), (210, .invokevirtual 86, 3, 75), (213, .ifCond .ne 18, 3, 236559), (216, .aload_n 0, 1, 0), (217, .aload_n 0, 1, 0), (218, .invokevirtual 18, 3, 64), (221, .invokevirtual 110, 3, 79), (224, .ifCond .le 7, 3, 236559), (227, .iconst 1, 1, 0), (228, .goto 4, 3, 237583), (231, .iconst 0, 1, 0), (100232, .nop, 0, 15), (232, .istore 4, 2, 0), (100234, .nop, 0, 31), (234, .iload_n 3, 1, 0), (235, .ifCond .le 50, 3, 291857), (238, .iload 4, 2, 0), (240, .ifCond .eq 42, 3, 288769), (243, .aload_n 0, 1, 0), (244, .aload_n 0, 1, 0), (245, .invokevirtual 113, 3, 81), (248, .invokevirtual 110, 3, 79), (251, .aload_n 0, 1, 0), (252, .iload_n 2, 1, 0), (253, .invokevirtual 110, 3, 79), (256, .if_icmp .lt 26, 3, 288769), (259, .aload_n 0, 1, 0), (260, .iload_n 1, 1, 0), (261, .aload_n 0, 1, 0), (262, .iload_n 1, 1, 0), (263, .invokevirtual 116, 3, 84), (266, .invokevirtual 119, 3, 83), (269, .aload_n 0, 1, 0), (270, .iload_n 1, 1, 0), (271, .iload_n 2, 1, 0), (272, .invokevirtual 119, 3, 83), (275, .if_icmp .gt 7, 3, 288769), (278, .iconst 1, 1, 0), (279, .goto 4, 3, 289793), (282, .iconst 0, 1, 0), (100283, .nop, 0, 1), (283, .istore 4, 2, 0), (100285, .nop, 0, 17), (285, .iload 4, 2, 0), (287, .ifCond .eq 56, 3, 351232), (290, .aload_n 0, 1, 0), (291, .invokevirtual 122, 3, 85), (294, .aload_n 0, 1, 0), (295, .invokevirtual 12, 3, 65), (298, .if_icmp .gt 45, 3, 351232), (301, .aload_n 0, 1, 0), (302, .invokevirtual 125, 3, 82), (305, .aload_n 0, 1, 0), (306, .invokevirtual 128, 3, 80), (309, .iconst 1, 1, 0), (310, .if_icmp .ne 7, 3, 324609), (313, .iconst 1, 1, 0), (314, .goto 4, 3, 325633), (317, .iconst 0, 1, 0), (100318, .nop, 0, 1), (318, .if_icmp .ne 25, 3, 351232), (321, .aload_n 0, 1, 0), (322, .invokevirtual 131, 3, 86), (325, .dconst 0, 1, 0), (326, .dcmp .l, 1, 0), (327, .ifCond .lt 16, 3, 351232), (330, .aload_n 0, 1, 0), (331, .invokevirtual 131, 3, 86), (334, .dconst 1, 1, 0), (335, .dcmp .g, 1, 0), (336, .ifCond .gt 7, 3, 351232), (339, .iconst 1, 1, 0), (340, .goto 4, 3, 352256), (343, .iconst 0, 1, 0), (100344, .nop, 0, 0), (344, .ireturn, 1, 0)]
def pgJ6_bitCount_0f7a4 : List En := [(0, .iload_n 0, 1, 0), (1, .iload_n 0, 1, 0), (2, .iconst 1, 1, 0), (3, .iushr, 1, 0), (4, .ldc_w 265, 3, 1431655765), (7, .iand, 1, 0), (8, .isub, 1, 0), (9, .istore_n 0, 1, 0), (10, .iload_n 0, 1, 0), (11, .ldc_w 266, 3, 858993459), (14, .iand, 1, 0), (15, .iload_n 0, 1, 0), (16, .iconst 2, 1, 0), (17, .iushr, 1, 0), (18, .ldc_w 266, 3, 858993459), (21, .iand, 1, 0), (22, .iadd, 1, 0), (23, .istore_n 0, 1, 0), (24, .iload_n 0, 1, 0), (25, .iload_n 0, 1, 0), (26, .iconst 4, 1, 0), (27, .iushr, 1, 0), (28, .iadd, 1, 0), (29, .ldc_w 267, 3, 252645135), (32, .iand, 1, 0), (33, .istore_n 0, 1, 0), (34, .iload_n 0, 1, 0), (35, .iload_n 0, 1, 0), (36, .bipush 8, 2, 0), (38, .iushr, 1, 0), (39, .iadd, 1, 0), (40, .istore_n 0, 1, 0), (41, .iload_n 0, 1, 0), (42, .iload_n 0, 1, 0), (43, .bipush 16, 2, 0), (45, .iushr, 1, 0), (46, .iadd, 1, 0), (47, .istore_n 0, 1, 0), (48, .iload_n 0, 1, 0), (49, .bipush 63, 2, 0), (51, .iand, 1, 0), (52, .ireturn, 1, 0)]
def MT0 : List Mrow := [(yX0_count, cX0_count, 2, none, 1, 0, pgX0_count), (yX0_clear, cX0_clear, 2, none, 1, 0, pgX0_clear), (yX0_dealFrom, cX0_dealFrom, 6, none, 4, 0, pgX0_dealFrom), (yX0_hasRoom, cX0_hasRoom, 5, (some .boolean), 2, 0, pgX0_hasRoom), (yX0_judge, cX0_judge, 6, none, 2, 0, pgX0_judge), (yX0_include, cX0_include, 4, none, 1, 0, pgX0_include), (yX0_withCardAt, cX0_withCardAt, 4, (some .int), 2, 0, pgX0_withCardAt), (yX0_surePlace, cX0_surePlace, 3, (some .int), 1, 0, pgX0_surePlace), (yX0_sureCards, cX0_sureCards, 3, (some .int), 0, 0, pgX0_sureCards), (yX0_placesLeft, cX0_placesLeft, 3, (some .int), 0, 0, pgX0_placesLeft), (yX0_withEnvelope, cX0_withEnvelope, 2, (some .int), 1, 0, pgX0_withEnvelope), (yX0_envelopesLeft, cX0_envelopesLeft, 3, (some .int), 0, 0, pgX0_envelopesLeft), (yX0_likeliestEnvelope, cX0_likeliestEnvelope, 3, (some .int), 0, 0, pgX0_likeliestEnvelope), (yX0_shareOfLikeliest, cX0_shareOfLikeliest, 1, (some .double), 0, 0, pgX0_shareOfLikeliest), (yX0_withNone, cX0_withNone, 8, (some .int), 2, 0, pgX0_withNone), (yX0_behindQuestion, cX0_behindQuestion, 4, (some .int), 2, 0, pgX0_behindQuestion), (yX0_sharpestQuestion, cX0_sharpestQuestion, 6, (some .int), 1, 0, pgX0_sharpestQuestion), (yX0_withoutClue, cX0_withoutClue, 2, (some .int), 1, 0, pgX0_withoutClue), (yX0_idleAmong, cX0_idleAmong, 4, (some .int), 1, 0, pgX0_idleAmong), (yX1_count, cX1_count, 3, none, 1, 1, pgX1_count), (yX1_countHands, cX1_countHands, 8, (some .int), 4, 1, pgX1_countHands), (yX2_fill, cX2_fill, 5, none, 1, 2, pgX2_fill), (yX2_setAll, cX2_setAll, 3, none, 1, 2, pgX2_setAll), (yX2_placesLeft, cX2_placesLeft, 3, (some .int), 0, 2, pgX2_placesLeft), (yX2_onlyPlace, cX2_onlyPlace, 3, (some .int), 1, 2, pgX2_onlyPlace), (yX2_applyClues, cX2_applyClues, 3, none, 1, 2, pgX2_applyClues), (yX2_applyClue, cX2_applyClue, 4, none, 3, 2, pgX2_applyClue), (yX2_applyKinds, cX2_applyKinds, 2, none, 0, 2, pgX2_applyKinds), (yX2_applyPlayers, cX2_applyPlayers, 2, none, 0, 2, pgX2_applyPlayers), (yX2_crossIfSure, cX2_crossIfSure, 5, none, 3, 2, pgX2_crossIfSure), (yX2_keepIfJust, cX2_keepIfJust, 5, none, 3, 2, pgX2_keepIfJust), (yX2_keepOnly, cX2_keepOnly, 4, none, 2, 2, pgX2_keepOnly), (yX2_crossOff, cX2_crossOff, 4, none, 2, 2, pgX2_crossOff)]
def MT1 : List Mrow := [(yX2_withPlace, cX2_withPlace, 5, (some .int), 2, 2, pgX2_withPlace), (yX2_withOnly, cX2_withOnly, 5, (some .int), 2, 2, pgX2_withOnly), (yX2_breaksDown, cX2_breaksDown, 3, (some .boolean), 0, 2, pgX2_breaksDown), (yX2_fits, cX2_fits, 4, (some .boolean), 3, 2, pgX2_fits), (yX2_breaksClue, cX2_breaksClue, 6, (some .boolean), 1, 2, pgX2_breaksClue), (yX3_dealAtFirst, cX3_dealAtFirst, 1, none, 0, 3, pgX3_dealAtFirst), (yX3_copyFrom, cX3_copyFrom, 3, none, 1, 3, pgX3_copyFrom), (yX3_add, cX3_add, 4, none, 3, 3, pgX3_add), (yX3_remove, cX3_remove, 3, none, 1, 3, pgX3_remove), (yX3_addAnswer, cX3_addAnswer, 4, (some .boolean), 2, 3, pgX3_addAnswer), (yX3_addSight, cX3_addSight, 5, (some .int), 2, 3, pgX3_addSight), (yX3_addVerdict, cX3_addVerdict, 3, (some .boolean), 1, 3, pgX3_addVerdict), (yX3_handOf, cX3_handOf, 3, (some .int), 2, 3, pgX3_handOf), (yX3_placeOf, cX3_placeOf, 3, (some .int), 1, 3, pgX3_placeOf), (yX3_agrees, cX3_agrees, 4, (some .boolean), 2, 3, pgX3_agrees), (yX3_agreesWithAll, cX3_agreesWithAll, 3, (some .boolean), 1, 3, pgX3_agreesWithAll), (yX5_exchange, cX5_exchange, 4, (some .int), 2, 5, pgX5_exchange), (yX5_noteHas, cX5_noteHas, 3, (some .int), 2, 5, pgX5_noteHas), (yX5_noteLacks, cX5_noteLacks, 3, (some .int), 2, 5, pgX5_noteLacks), (yX5_noteShows, cX5_noteShows, 5, (some .int), 4, 5, pgX5_noteShows), (yX5_dropClue, cX5_dropClue, 2, (some .int), 1, 5, pgX5_dropClue), (yX5_dropAll, cX5_dropAll, 2, (some .int), 0, 5, pgX5_dropAll), (yX5_ask, cX5_ask, 5, (some .boolean), 4, 5, pgX5_ask), (yX5_look, cX5_look, 5, (some .int), 4, 5, pgX5_look), (yX5_accuse, cX5_accuse, 4, (some .boolean), 3, 5, pgX5_accuse), (yX5_hasStopped, cX5_hasStopped, 1, (some .boolean), 0, 5, pgX5_hasStopped), (yX5_stoppedPart, cX5_stoppedPart, 1, (some .int), 0, 5, pgX5_stoppedPart), (yX5_whyStopped, cX5_whyStopped, 1, (some .int), 0, 5, pgX5_whyStopped), (yX5_undo, cX5_undo, 1, (some .int), 0, 5, pgX5_undo), (yX5_savedStates, cX5_savedStates, 1, (some .int), 0, 5, pgX5_savedStates), (yX5_truePlace, cX5_truePlace, 2, (some .int), 1, 5, pgX5_truePlace), (yX5_trueEnvelope, cX5_trueEnvelope, 1, (some .int), 0, 5, pgX5_trueEnvelope), (yX5_clues, cX5_clues, 1, (some .int), 0, 5, pgX5_clues)]
def MT2 : List Mrow := [(yX5_kindOf, cX5_kindOf, 2, (some .int), 1, 5, pgX5_kindOf), (yX5_playerOf, cX5_playerOf, 2, (some .int), 1, 5, pgX5_playerOf), (yX5_cardsOf, cX5_cardsOf, 2, (some .int), 1, 5, pgX5_cardsOf), (yX5_untrueClues, cX5_untrueClues, 3, (some .int), 0, 5, pgX5_untrueClues), (yX5_deals, cX5_deals, 1, (some .int), 0, 5, pgX5_deals), (yX5_dealsByHands, cX5_dealsByHands, 1, (some .int), 0, 5, pgX5_dealsByHands), (yX5_dealsWith, cX5_dealsWith, 3, (some .int), 2, 5, pgX5_dealsWith), (yX5_certainPlace, cX5_certainPlace, 2, (some .int), 1, 5, pgX5_certainPlace), (yX5_certainCards, cX5_certainCards, 1, (some .int), 0, 5, pgX5_certainCards), (yX5_isBroken, cX5_isBroken, 1, (some .boolean), 0, 5, pgX5_isBroken), (yX5_placeByRules, cX5_placeByRules, 2, (some .int), 1, 5, pgX5_placeByRules), (yX5_crossedOff, cX5_crossedOff, 1, (some .int), 0, 5, pgX5_crossedOff), (yX5_hiddenCrosses, cX5_hiddenCrosses, 1, (some .int), 0, 5, pgX5_hiddenCrosses), (yX5_envelopeDeals, cX5_envelopeDeals, 2, (some .int), 1, 5, pgX5_envelopeDeals), (yX5_envelopes, cX5_envelopes, 1, (some .int), 0, 5, pgX5_envelopes), (yX5_bestAccusation, cX5_bestAccusation, 2, (some .int), 0, 5, pgX5_bestAccusation), (yX5_isSolved, cX5_isSolved, 1, (some .boolean), 0, 5, pgX5_isSolved), (yX5_leftBy, cX5_leftBy, 3, (some .int), 2, 5, pgX5_leftBy), (yX5_bestQuestion, cX5_bestQuestion, 3, (some .int), 1, 5, pgX5_bestQuestion), (yX5_idleClues, cX5_idleClues, 1, (some .int), 0, 5, pgX5_idleClues), (yX5_chance, cX5_chance, 1, (some .double), 0, 5, pgX5_chance), (yX5_remember, cX5_remember, 2, none, 0, 5, pgX5_remember), (yX5_dropOldest, cX5_dropOldest, 3, none, 0, 5, pgX5_dropOldest), (yX5_forgetCounts, cX5_forgetCounts, 1, none, 0, 5, pgX5_forgetCounts), (yX5_countedDeals, cX5_countedDeals, 1, (some (.object "AlibiDeals$DealCount")), 0, 5, pgX5_countedDeals), (yX5_filledSheet, cX5_filledSheet, 1, (some (.object "AlibiDeals$RuleSheet")), 0, 5, pgX5_filledSheet), (yX5_countedHands, cX5_countedHands, 1, (some (.object "AlibiDeals$HandCount")), 0, 5, pgX5_countedHands), (yX5_checkCard, cX5_checkCard, 1, none, 1, 5, pgX5_checkCard), (yX5_checkPlayer, cX5_checkPlayer, 1, none, 1, 5, pgX5_checkPlayer), (yX5_checkPlace, cX5_checkPlace, 1, none, 1, 5, pgX5_checkPlace), (yX5_checkTriple, cX5_checkTriple, 1, none, 1, 5, pgX5_checkTriple), (yX5_checkCards, cX5_checkCards, 3, none, 3, 5, pgX5_checkCards), (yX5_checkClue, cX5_checkClue, 2, none, 1, 5, pgX5_checkClue)]
def MT3 : List Mrow := [(yX5_checkRoomForClue, cX5_checkRoomForClue, 1, none, 0, 5, pgX5_checkRoomForClue), (yX5_checkStopped, cX5_checkStopped, 1, none, 0, 5, pgX5_checkStopped), (yX5_checkSome, cX5_checkSome, 1, none, 1, 5, pgX5_checkSome), (yX5_mask, cX5_mask, 3, (some .int), 3, 5, pgX5_mask), (yX5_cardsOfKind, cX5_cardsOfKind, 1, (some .int), 1, 5, pgX5_cardsOfKind), (yX5_cardsOfTriple, cX5_cardsOfTriple, 1, (some .int), 1, 5, pgX5_cardsOfTriple), (yX5_numberOfTriple, cX5_numberOfTriple, 3, (some .int), 1, 5, pgX5_numberOfTriple), (yX5_isTriple, cX5_isTriple, 3, (some .boolean), 1, 5, pgX5_isTriple), (yX5_exchanged, cX5_exchanged, 5, (some .int), 3, 5, pgX5_exchanged), (yL_low, cL_low, 2, (some .int), 2, 99, pgL_low), (yL_told, cL_told, 4, (some .long), 1, 99, pgL_told), (yL_act, cL_act, 10, (some .boolean), 3, 99, pgL_act), (yL_holds, cL_holds, 9, (some .boolean), 3, 99, pgL_holds), (yJ6_bitCount_0f7a4, cJ6_bitCount_0f7a4, 1, (some .int), 1, 99, pgJ6_bitCount_0f7a4)]
def MT : List Mrow := MT0 ++ (MT1 ++ (MT2 ++ (MT3)))
def nM : Nat := 113
def m_d : Mrow := (yX0_clear, cX0_clear, 0, none, 0, 99, [])
def mr (k : Nat) : Mrow := MT.getD k m_d
def mY (k : Nat) : MethodName := (mr k).1
def mB (k : Nat) : ByteArray := (mr k).2.1
def mL (k : Nat) : Nat := (mr k).2.2.1
def mR (k : Nat) : Option FieldType := (mr k).2.2.2.1
def mN (k : Nat) : Nat := (mr k).2.2.2.2.1
def mC (k : Nat) : Nat := (mr k).2.2.2.2.2.1
def mP (k : Nat) : List En := (mr k).2.2.2.2.2.2
def TT : List Cond := lw_tbl.filter goodWord
def wsk (k : Nat) : List Cond := Cond.code (mY k) (mB k) (mL k) (mR k) :: TT
def nwords : List Cond := [.methodLinkNest "AlibiDeals$DealCount" 51 ⟨"AlibiDeals", "cardsOfKind", "(I)I"⟩ "AlibiDeals", .methodLinkNest "AlibiDeals$RuleSheet" 86 ⟨"AlibiDeals", "cardsOfKind", "(I)I"⟩ "AlibiDeals", .methodLinkNest "AlibiDeals$HandCount" 19 ⟨"AlibiDeals", "cardsOfTriple", "(I)I"⟩ "AlibiDeals", .methodLinkNest "AlibiDeals$DealCount" 87 ⟨"AlibiDeals", "cardsOfTriple", "(I)I"⟩ "AlibiDeals"]
abbrev kX0_count : Nat := 0
abbrev kX0_clear : Nat := 1
abbrev kX0_dealFrom : Nat := 2
abbrev kX0_hasRoom : Nat := 3
abbrev kX0_judge : Nat := 4
abbrev kX0_include : Nat := 5
abbrev kX0_withCardAt : Nat := 6
abbrev kX0_surePlace : Nat := 7
abbrev kX0_sureCards : Nat := 8
abbrev kX0_placesLeft : Nat := 9
abbrev kX0_withEnvelope : Nat := 10
abbrev kX0_envelopesLeft : Nat := 11
abbrev kX0_likeliestEnvelope : Nat := 12
abbrev kX0_shareOfLikeliest : Nat := 13
abbrev kX0_withNone : Nat := 14
abbrev kX0_behindQuestion : Nat := 15
abbrev kX0_sharpestQuestion : Nat := 16
abbrev kX0_withoutClue : Nat := 17
abbrev kX0_idleAmong : Nat := 18
abbrev kX1_count : Nat := 19
abbrev kX1_countHands : Nat := 20
abbrev kX2_fill : Nat := 21
abbrev kX2_setAll : Nat := 22
abbrev kX2_placesLeft : Nat := 23
abbrev kX2_onlyPlace : Nat := 24
abbrev kX2_applyClues : Nat := 25
abbrev kX2_applyClue : Nat := 26
abbrev kX2_applyKinds : Nat := 27
abbrev kX2_applyPlayers : Nat := 28
abbrev kX2_crossIfSure : Nat := 29
abbrev kX2_keepIfJust : Nat := 30
abbrev kX2_keepOnly : Nat := 31
abbrev kX2_crossOff : Nat := 32
abbrev kX2_withPlace : Nat := 33
abbrev kX2_withOnly : Nat := 34
abbrev kX2_breaksDown : Nat := 35
abbrev kX2_fits : Nat := 36
abbrev kX2_breaksClue : Nat := 37
abbrev kX3_dealAtFirst : Nat := 38
abbrev kX3_copyFrom : Nat := 39
abbrev kX3_add : Nat := 40
abbrev kX3_remove : Nat := 41
abbrev kX3_addAnswer : Nat := 42
abbrev kX3_addSight : Nat := 43
abbrev kX3_addVerdict : Nat := 44
abbrev kX3_handOf : Nat := 45
abbrev kX3_placeOf : Nat := 46
abbrev kX3_agrees : Nat := 47
abbrev kX3_agreesWithAll : Nat := 48
abbrev kX5_exchange : Nat := 49
abbrev kX5_noteHas : Nat := 50
abbrev kX5_noteLacks : Nat := 51
abbrev kX5_noteShows : Nat := 52
abbrev kX5_dropClue : Nat := 53
abbrev kX5_dropAll : Nat := 54
abbrev kX5_ask : Nat := 55
abbrev kX5_look : Nat := 56
abbrev kX5_accuse : Nat := 57
abbrev kX5_hasStopped : Nat := 58
abbrev kX5_stoppedPart : Nat := 59
abbrev kX5_whyStopped : Nat := 60
abbrev kX5_undo : Nat := 61
abbrev kX5_savedStates : Nat := 62
abbrev kX5_truePlace : Nat := 63
abbrev kX5_trueEnvelope : Nat := 64
abbrev kX5_clues : Nat := 65
abbrev kX5_kindOf : Nat := 66
abbrev kX5_playerOf : Nat := 67
abbrev kX5_cardsOf : Nat := 68
abbrev kX5_untrueClues : Nat := 69
abbrev kX5_deals : Nat := 70
abbrev kX5_dealsByHands : Nat := 71
abbrev kX5_dealsWith : Nat := 72
abbrev kX5_certainPlace : Nat := 73
abbrev kX5_certainCards : Nat := 74
abbrev kX5_isBroken : Nat := 75
abbrev kX5_placeByRules : Nat := 76
abbrev kX5_crossedOff : Nat := 77
abbrev kX5_hiddenCrosses : Nat := 78
abbrev kX5_envelopeDeals : Nat := 79
abbrev kX5_envelopes : Nat := 80
abbrev kX5_bestAccusation : Nat := 81
abbrev kX5_isSolved : Nat := 82
abbrev kX5_leftBy : Nat := 83
abbrev kX5_bestQuestion : Nat := 84
abbrev kX5_idleClues : Nat := 85
abbrev kX5_chance : Nat := 86
abbrev kX5_remember : Nat := 87
abbrev kX5_dropOldest : Nat := 88
abbrev kX5_forgetCounts : Nat := 89
abbrev kX5_countedDeals : Nat := 90
abbrev kX5_filledSheet : Nat := 91
abbrev kX5_countedHands : Nat := 92
abbrev kX5_checkCard : Nat := 93
abbrev kX5_checkPlayer : Nat := 94
abbrev kX5_checkPlace : Nat := 95
abbrev kX5_checkTriple : Nat := 96
abbrev kX5_checkCards : Nat := 97
abbrev kX5_checkClue : Nat := 98
abbrev kX5_checkRoomForClue : Nat := 99
abbrev kX5_checkStopped : Nat := 100
abbrev kX5_checkSome : Nat := 101
abbrev kX5_mask : Nat := 102
abbrev kX5_cardsOfKind : Nat := 103
abbrev kX5_cardsOfTriple : Nat := 104
abbrev kX5_numberOfTriple : Nat := 105
abbrev kX5_isTriple : Nat := 106
abbrev kX5_exchanged : Nat := 107
abbrev kL_low : Nat := 108
abbrev kL_told : Nat := 109
abbrev kL_act : Nat := 110
abbrev kL_holds : Nat := 111
abbrev kJ6_bitCount_0f7a4 : Nat := 112
/-! the check -/
def wd (p : Nat) (w : Cond) : Bool := decide (lw_tbl[p]? = some w) && goodWord w
def psn (ps : List Nat) (j : Nat) : Nat := ps.getD j 0
def tgs (q : Nat) (a : List Int) : Bool := a.all (fun o => decide (0 ≤ (q : Int) + o))
def chF (k index a : Nat) (ps : List Nat) (wr : Bool) : Bool :=
  match vwCl[a / 32]? with
  | none => false
  | some (C, T, N) => decide (a % 32 < N) && decide ((T (a % 32)).1 = C) && wd (psn ps 0) (.fieldLink (mY k).cls index C (T (a % 32)).2.1 (T (a % 32)).2.2.1) && (!wr || !(T (a % 32)).2.2.2)
def chN (k index a : Nat) (ps : List Nat) : Bool :=
  if a < 1000 then decide (a < nM) && wd (psn ps 0) (.methodLink (mY k).cls index (mY a)) else decide (a - 1000 < nM) && decide (Cond.methodLinkNest (mY k).cls index (mY (a - 1000)) "AlibiDeals" ∈ nwords)
def chV (k index a : Nat) (ps : List Nat) : Bool :=
  decide (a < nM) && wd (psn ps 0) (.methodLink (mY k).cls index (mY a)) && wd (psn ps 1) (.instanceMethod (mY a)) && wd (psn ps 2) (.selects (mY a).cls (mY a) (mY a)) && wd (psn ps 3) (.initialized (mY a).cls)
    && decide ((vwCl[mC a]?).map (fun r => r.1) = some (mY a).cls)
def chS (k index a : Nat) (ps : List Nat) : Bool :=
  if a = 1999 then wd (psn ps 0) (.methodLink (mY k).cls index ⟨"java/lang/Double", "doubleToLongBits", "(D)J"⟩) && wd (psn ps 1) (.static ⟨"java/lang/Double", "doubleToLongBits", "(D)J"⟩) && wd (psn ps 2) (.initialized "java/lang/Double")
  else if a = 1998 then wd (psn ps 0) (.methodLink (mY k).cls index ⟨"java/lang/Math", "max", "(II)I"⟩) && wd (psn ps 1) (.static ⟨"java/lang/Math", "max", "(II)I"⟩) && wd (psn ps 2) (.initialized "java/lang/Math")
  else chN k index a ps && wd (psn ps 1) (.static (mY (a % 1000))) && wd (psn ps 2) (.initialized (mY (a % 1000)).cls)
def cst : Int → Int32
  | .ofNat n => nI n
  | .negSucc n => - nI (n + 1)
def ilen : Instr → Nat
  | .bipush _ => 2 | .iload _ => 2 | .istore _ => 2 | .lload _ => 2 | .lstore _ => 2 | .aload _ => 2 | .astore _ => 2 | .dload _ => 2 | .dstore _ => 2 | .ldc _ => 2
  | .sipush _ => 3 | .iinc _ _ => 3 | .ifCond _ _ => 3 | .if_icmp _ _ => 3 | .goto _ => 3 | .ifnull _ => 3 | .ifnonnull _ => 3 | .getfield _ => 3 | .putfield _ => 3 | .invokevirtual _ => 3
  | .invokestatic _ => 3 | .invokespecial _ => 3 | .new _ => 3 | .ldc_w _ => 3 | .ldc2_w _ => 3
  | .tableswitch .. => 0 | .lookupswitch .. => 0 | _ => 1
def chI (k q : Nat) (i : Instr) (a : Nat) (ps : List Nat) : Bool :=
  match i with
  | .getfield index => chF k index a ps false
  | .iconst n => decide (Int32.ofInt n = cst n)
  | .bipush n => decide ((Int8.ofInt n).toInt32 = cst n)
  | .sipush n => decide ((Int16.ofInt n).toInt32 = cst n)
  | .putfield index => chF k index a ps true
  | .invokevirtual index => chV k index a ps
  | .invokestatic index => chS k index a ps
  | .ifCond _ off => decide ((q : Int) + off = ((a / 1024 : Nat) : Int))
  | .if_icmp _ off => decide ((q : Int) + off = ((a / 1024 : Nat) : Int))
  | .goto off => decide ((q : Int) + off = ((a / 1024 : Nat) : Int))
  | .ifnull off => decide ((q : Int) + off = ((a / 1024 : Nat) : Int))
  | .ifnonnull off => decide ((q : Int) + off = ((a / 1024 : Nat) : Int))
  | .tableswitch dflt lo hi offs => decide (0 ≤ (q : Int) + dflt) && tgs q offs.toList && decide (offs.toList.length = (hi - lo + 1).toNat) && decide (-2147483648 ≤ lo ∧ hi ≤ 2147483647 ∧ lo ≤ hi)
  | .lookupswitch dflt prs => decide (0 ≤ (q : Int) + dflt) && tgs q (prs.toList.map (fun x => x.2)) && (prs.toList.zip (prs.toList.drop 1)).all (fun (a, next) => a.1 < next.1) && prs.toList.all (fun x => decide (-2147483648 ≤ x.1 ∧ x.1 ≤ 2147483647))
  | .ldc index => decide (a = 0) || wd (psn ps 0) (.constant (mY k).cls index (Int32.ofNat a))
  | .ldc_w index => decide (a = 0) || wd (psn ps 0) (.constant (mY k).cls index (Int32.ofNat a))
  | .ldc2_w index => if a % 2 = 0 then wd (psn ps 0) (.constantLong (mY k).cls index (Int64.ofNat (a / 2))) else wd (psn ps 0) (.constantDouble (mY k).cls index (UInt64.ofNat (a / 2)))
  | .iload_n n => decide (n.val < mL k)
  | .lload_n n => decide (n.val < mL k)
  | .dload_n n => decide (n.val < mL k)
  | .aload_n n => decide (n.val < mL k)
  | .istore_n n => decide (n.val < mL k)
  | .astore_n n => decide (n.val < mL k)
  | .lstore_n n => decide (n.val + 1 < mL k)
  | .dstore_n n => decide (n.val + 1 < mL k)
  | .istore n => decide (n < mL k)
  | .astore n => decide (n < mL k)
  | .lstore n => decide (n + 1 < mL k)
  | .dstore n => decide (n + 1 < mL k)
  | .iinc n z => decide (n < mL k) && decide (Int32.ofInt z = cst z)
  | .nop => false
  | _ => true
def chE (k : Nat) : List En → List (List Nat) → Nat → Bool
  | [], _, _ => true
  | (pc, i, len, a) :: r, pss, q =>
    if pc = q + 100000 then decide (i = .nop) && chE k r pss q
    else decide (pc = q) && decide (decode (mB k) q = .ok (i, len)) && (ilen i == 0 || ilen i == len) && chI k q i a (pss.headD []) && chE k r pss.tail (q + len)
def chM (k : Nat) (cp ip : Nat) (pss : List (List Nat)) : Bool :=
  decide (lw_tbl[cp]? = some (Cond.code (mY k) (mB k) (mL k) (mR k))) && plainName (mY k).cls && decide ((mY k).cls ≠ "java/lang/invoke/MethodHandle") && decide ((mY k).cls ≠ "java/lang/invoke/VarHandle")
    && decide ((parseMethodDescriptor (mY k).desc).map (fun d => d.parameters.length) = some (mN k)) && decide ((parseMethodDescriptor (mY k).desc).map (fun d => d.returnType) = some (mR k)) && decide (mL k ≤ 30) && chE k (mP k) pss 0
def psX0_count : List (List Nat) := [[], [], [113], [], [117], [346, 347, 32], [], [118], [346, 347, 32], [], [119], [346, 347, 32], [], [120], [346, 347, 32], [], [121], [346, 347, 32], [], [], [], [], [349, 350, 32], [], [], [115], []]
def psX0_clear : List (List Nat) := [[], [], [], [], [], [], [], [], [], [], [], [], []]
def psX0_dealFrom : List (List Nat) := [[], [], [], [], [], [], [], [], [352, 354, 3, 32], [], [], [], [], [], [], [], [], [], [364, 366, 5, 32], [], [], [121], [], [], [], [], [], [], [], [], [], [], [], [], [], [], [], [], [], [], [], [], [], [], [], [], [], [], [], [349, 350, 32], [], [121], [], [], [], [], [], [], [], [], [], [], [], [], []]
def psX0_hasRoom : List (List Nat) := [[], [121], [], [], [], [], [], [368, 369, 29], [], [], [], [], [], [], [], [], [], [], [], [], [], [], [], [], [], [], [], [], [], [], [], [], [], [], [], [], [], [], [121], [], [], [371, 372, 35], [], [], [], [], [], []]
def psX0_judge : List (List Nat) := [[], [], [], [], [], [], [], [], [69], [], [], [], [], [], [], [], [121], [356, 357, 358, 30], [], [], [], [], [], [], [], [], [], [], [360, 362, 4, 32], [], [], [], [], [], [], [], [], [120], [], [], [], [], [], [], []]
def psX0_include : List (List Nat) := [[], [], [113], [], [], [113], [], [], [], [], [], [], [], [], [], [], [], [117], [], [], [], [], [], [], [], [], [121], [], [], [], [], [], [], [], [], [], [], [], [], [], [], [], [], [], [], [118], [], [], [], [], [], [], [], [], [], [], [], [], [119], [], [], [], [], [121], [], [], [], [], [], [], [], [], [], [], [], [], []]
def psX0_withCardAt : List (List Nat) := [[], [], [], [], [], [], [], [], [], [], [], [], [], [], [], [], [], [117], [], [], [], [], [], [], [], [], []]
def psX0_surePlace : List (List Nat) := [[], [], [], [], [], [], [113], [], [], [], [], [389, 390, 391, 32], [], [113], [], [], [], [], [], [], []]
def psX0_sureCards : List (List Nat) := [[], [], [], [], [], [], [], [], [], [], [385, 386, 387, 32], [], [], [], [], [], [], [], [], [], []]
def psX0_placesLeft : List (List Nat) := [[], [], [], [], [], [], [117], [], [], [], [], [117], [], [], [], [], [], [], [], [], [], [], [], []]
def psX0_withEnvelope : List (List Nat) := [[], [], [], [], [], [], [118], [], [], [], [], []]
def psX0_envelopesLeft : List (List Nat) := [[], [], [], [], [], [], [], [], [], [118], [], [], [], [], [], [], [], [], [], [], [], []]
def psX0_likeliestEnvelope : List (List Nat) := [[], [], [], [], [], [], [], [], [], [706, 691, 692, 32], [], [], [706, 691, 692, 32], [], [], [], [], [], [], [], [], []]
def psX0_shareOfLikeliest : List (List Nat) := [[], [113], [], [], [], [], [], [756, 703, 704, 32], [706, 691, 692, 32], [], [], [113], [], [], []]
def psX0_withNone : List (List Nat) := [[], [], [], [], [], [], [], [], [723, 637, 29], [], [], [], [], [], [], [], [], [], [], [], [], [], [], [], [], [], [], [], [], [], [], [], [], [], [], [], [], [], [119], [], [], [], [], [], [], [], [], [], [], [], [], [], [], [], []]
def psX0_behindQuestion : List (List Nat) := [[], [], [], [719, 720, 721, 32], [], [], [], [113], [], [], [724, 725, 41], []]
def psX0_sharpestQuestion : List (List Nat) := [[], [], [], [], [], [715, 716, 717, 32], [], [], [], [], [], [], [], [], [], [715, 716, 717, 32], [], [], [], [], [], [], [], [], [], [], [], []]
def psX0_withoutClue : List (List Nat) := [[], [], [], [], [], [], [113], [], [120], [], [], [], [], [], [113], []]
def psX0_idleAmong : List (List Nat) := [[], [], [], [], [], [], [], [], [], [], [740, 741, 742, 32], [], [113], [], [], [], [], [], [], [], [], [], []]
def psX1_count : List (List Nat) := [[], [], [143], [], [], [], [], [], [], [147], [], [], [636, 637, 29], [], [], [], [143], [], [], [], [147], [], [], [], [], [], [], [], [639, 640, 33], [], [143], [], [], [], [], [145], []]
def psX1_countHands : List (List Nat) := [[], [], [], [], [], [], [], [], [], [], [], [147], [], [], [], [], [], [147], [642, 643, 644, 30], [], [], [], [], [], [], [], [], [], [], [], [], [], [], [], [], [], [], [], [], [], [], [], [], [], [], [], [], [], [], [], [], [], [147], [], [], [], [], [], [], [], [], [], [], [], [], [], [], [639, 640, 33], [], [], [], [], [], [], [], []]
def psX2_fill : List (List Nat) := [[], [], [405, 407, 7, 34], [], [], [], [], [], [], [], [], [], [], [], [], [], [], [], [], [], [], [409, 411, 8, 34], [], [442, 444, 16, 34], [], [447, 449, 17, 34], [], [451, 452, 453, 34], [], [], [], [], [], [455, 457, 18, 34], [], [], [], [463, 465, 20, 34], [], [], [], [], [161], [], [161], [], [], [], [405, 407, 7, 34], [], [], [163], []]
def psX2_setAll : List (List Nat) := [[], [], [], [], [], [], [165], [], [], [], [], [], []]
def psX2_placesLeft : List (List Nat) := [[], [], [], [], [], [], [], [], [], [165], [], [], [433, 372, 35], [], [], [], [], [], []]
def psX2_onlyPlace : List (List Nat) := [[], [], [], [], [], [], [], [], [], [], [], [165], [], [], [], [], [], [], [], [], [], [], [], []]
def psX2_applyClues : List (List Nat) := [[], [], [], [], [70], [], [], [], [], [], [], [59], [], [], [], [62], [], [], [], [65], [], [], [413, 415, 9, 34], [], [], []]
def psX2_applyClue : List (List Nat) := [[], [], [], [], [], [417, 419, 10, 34], [], [], [], [], [421, 423, 11, 34], [], [], [], [], [], [425, 427, 12, 34], [], [], [], [], [], [434, 436, 14, 34], []]
def psX2_applyKinds : List (List Nat) := [[], [], [], [], [], [], [], [], [446, 369, 29], [], [434, 436, 14, 34], [], [], [], [446, 369, 29], [], [425, 427, 12, 34], [], [], []]
def psX2_applyPlayers : List (List Nat) := [[], [], [], [], [], [], [], [], [], [434, 436, 14, 34], [], [], [], [], [425, 427, 12, 34], [], [], []]
def psX2_crossIfSure : List (List Nat) := [[], [], [], [438, 440, 15, 34], [], [], [433, 372, 35], [], [], [], [], [], [], [], [], [], [421, 423, 11, 34], []]
def psX2_keepIfJust : List (List Nat) := [[], [], [], [429, 431, 13, 34], [], [], [433, 372, 35], [], [], [], [], [], [417, 419, 10, 34], []]
def psX2_keepOnly : List (List Nat) := [[], [], [], [], [], [], [], [], [], [], [], [], [165], [], [], [], [], [], [], [], [], [], [], []]
def psX2_crossOff : List (List Nat) := [[], [], [], [], [], [], [], [], [], [], [], [], [165], [], [], [], [], [], [], [], [], [], [], [], [], []]
def psX2_withPlace : List (List Nat) := [[], [], [], [], [], [], [], [], [], [], [], [], [], [], [165], [], [], [], [], [], [], [], [], [], [], [], [], [], [], [], [], []]
def psX2_withOnly : List (List Nat) := [[], [], [], [], [], [], [], [], [], [], [], [], [], [], [165], [], [], [], [], [], [], [], [], [], [], [], [], [], [], [], []]
def psX2_breaksDown : List (List Nat) := [[], [], [], [], [], [], [], [], [], [], [165], [], [], [], [], [], [], [], [], [], [], [], [], [], [], [], [], [], [], [], [446, 369, 29], [], [459, 461, 19, 34], [], [], [], [], [], [], [], [], [], [], [], [], [], [], [], [], [], [], [459, 461, 19, 34], [], [], [], [], [], [], [], [], []]
def psX2_fits : List (List Nat) := [[], [], [], [429, 431, 13, 34], [433, 372, 35], [], [], [], [], [], [438, 440, 15, 34], [433, 372, 35], [], [], [], [], [], []]
def psX2_breaksClue : List (List Nat) := [[], [], [], [], [], [], [70], [], [], [], [], [], [65], [], [], [], [], [62], [], [], [], [], [], [], [59], [], [], [], [], [], [], [], [429, 431, 13, 34], [], [], [59], [], [], [], [], [], [], [], [438, 440, 15, 34], [], [], [], [], [], [], [], [], [], []]
def psX3_dealAtFirst : List (List Nat) := [[], [56], [], [], [], [], [56], [], [], [], [], [56], [], [], [], [], [56], [], [], [], []]
def psX3_copyFrom : List (List Nat) := [[], [], [], [], [], [], [], [], [], [56], [], [], [56], [], [], [], [], [], [], [], [], [], [], [], [58], [], [], [58], [], [], [], [], [61], [], [], [61], [], [], [], [], [64], [], [], [64], [], [], [], [], [], [], [], [68], [68], [], [], [71], [71], [], [], [73], [73], []]
def psX3_add : List (List Nat) := [[], [68], [], [], [68], [], [], [], [58], [], [68], [], [], [], [61], [], [68], [], [], [], [64], [], [68], [], [], [], [], [68], [], [], [68], []]
def psX3_remove : List (List Nat) := [[], [], [], [], [68], [], [], [], [], [], [], [], [], [68], [], [], [], [], [], [58], [], [], [], [], [58], [], [], [], [], [61], [], [], [], [], [61], [], [], [], [], [64], [], [], [], [], [64], [], [], [], [], [], [], [], [68], [], [], [68], []]
def psX3_addAnswer : List (List Nat) := [[], [], [], [575, 577, 26, 30], [], [], [], [], [], [], [], [], [], [], [], [], [], [579, 547, 548, 30], [], []]
def psX3_addSight : List (List Nat) := [[], [], [], [575, 577, 26, 30], [], [], [], [], [], [], [], [], [], [], [], [], [], [], [], [], [], [], [579, 547, 548, 30], [], [], [], [], [], [], [], [], [579, 547, 548, 30], [], []]
def psX3_addVerdict : List (List Nat) := [[], [56], [], [], [], [], [], [], [], [], [], [], [], [], [], [], [], [], [579, 547, 548, 30], [], []]
def psX3_handOf : List (List Nat) := [[], [], [], [], [], [], [56], [], [], [], [], [], [], []]
def psX3_placeOf : List (List Nat) := [[], [], [], [], [], [], [56], [], [], [], [], [], [], [], [], [], [], [], [], []]
def psX3_agrees : List (List Nat) := [[], [], [], [], [], [], [61], [], [], [], [], [61], [], [], [], [], [], [], [], [], [], [61], [], [], [], [], [64], [], [], [], [], [], [58], [], [], [], [], [], [], [], [], [], [], [], [], [], [], [], [], [], [64], [], [], [], [], [], [], [], [], [], [64], [], [], [], [], [], [], []]
def psX3_agreesWithAll : List (List Nat) := [[], [], [], [], [68], [], [], [], [], [646, 357, 358, 30], [], [], [], [], [], [], []]
def psX5_exchange : List (List Nat) := [[], [300, 301, 29], [], [300, 301, 29], [], [177], [57], [], [], [], [], [612, 613, 29], [615, 616, 29], [], [], [], [], [], [], [], [538, 540, 24, 29], [], [], [], [], [], [], [177], [57], [], [], [177], [57], [], [], [], [], [612, 613, 29], [], [], [], [], [177], [57], [], [], [327, 328, 29], []]
def psX5_noteHas : List (List Nat) := [[], [529, 530, 29], [], [300, 301, 29], [], [533, 535, 23, 29], [], [538, 540, 24, 29], [], [177], [], [], [], [], [], [546, 547, 548, 30], [], [177], [67], []]
def psX5_noteLacks : List (List Nat) := [[], [529, 530, 29], [], [300, 301, 29], [], [533, 535, 23, 29], [], [538, 540, 24, 29], [], [177], [], [], [], [], [], [546, 547, 548, 30], [], [177], [67], []]
def psX5_noteShows : List (List Nat) := [[], [529, 530, 29], [], [], [], [558, 559, 29], [], [533, 535, 23, 29], [], [538, 540, 24, 29], [], [177], [], [], [], [], [], [564, 565, 29], [546, 547, 548, 30], [], [177], [67], []]
def psX5_dropClue : List (List Nat) := [[], [], [496, 498, 21, 29], [], [538, 540, 24, 29], [], [177], [], [600, 601, 602, 30], [], [177], [67], []]
def psX5_dropAll : List (List Nat) := [[], [538, 540, 24, 29], [], [177], [67], [], [], [177], [], [67], [], []]
def psX5_ask : List (List Nat) := [[], [529, 530, 29], [], [], [], [558, 559, 29], [], [533, 535, 23, 29], [], [538, 540, 24, 29], [], [177], [], [], [], [], [564, 565, 29], [571, 572, 573, 30], []]
def psX5_look : List (List Nat) := [[], [529, 530, 29], [], [], [], [558, 559, 29], [], [533, 535, 23, 29], [], [538, 540, 24, 29], [], [177], [], [], [], [], [564, 565, 29], [584, 585, 586, 30], []]
def psX5_accuse : List (List Nat) := [[], [], [], [558, 559, 29], [], [533, 535, 23, 29], [], [538, 540, 24, 29], [], [177], [], [], [], [564, 565, 29], [592, 593, 594, 30], []]
def psX5_hasStopped : List (List Nat) := [[], [177], [74], [], [], [], [], []]
def psX5_stoppedPart : List (List Nat) := [[], [513, 515, 22, 29], [], [177], [72], []]
def psX5_whyStopped : List (List Nat) := [[], [513, 515, 22, 29], [], [177], [74], []]
def psX5_undo : List (List Nat) := [[], [185], [], [], [185], [], [], [], [], [], [], [], [], [], [185], [], [], [185], [], [177], [], [179], [], [185], [], [284, 285, 286, 30], [], [288, 290, 1, 29], [], [185], []]
def psX5_savedStates : List (List Nat) := [[], [185], []]
def psX5_truePlace : List (List Nat) := [[], [300, 301, 29], [], [177], [], [319, 320, 321, 30], []]
def psX5_trueEnvelope : List (List Nat) := [[], [177], [57], [], [], [327, 328, 29], []]
def psX5_clues : List (List Nat) := [[], [177], [67], []]
def psX5_kindOf : List (List Nat) := [[], [], [496, 498, 21, 29], [], [177], [60], [], [], []]
def psX5_playerOf : List (List Nat) := [[], [], [496, 498, 21, 29], [], [177], [63], [], [], [], [], [], [], [], [177], [63], [], [], []]
def psX5_cardsOf : List (List Nat) := [[], [], [496, 498, 21, 29], [], [177], [66], [], [], []]
def psX5_untrueClues : List (List Nat) := [[], [], [], [], [], [], [177], [67], [], [], [], [177], [], [], [177], [57], [681, 357, 358, 30], [], [], [], [], [], [], [], [], [], []]
def psX5_deals : List (List Nat) := [[], [338, 340, 2, 29], [114], []]
def psX5_dealsByHands : List (List Nat) := [[], [628, 630, 27, 29], [144], []]
def psX5_dealsWith : List (List Nat) := [[], [300, 301, 29], [], [672, 673, 29], [], [338, 340, 2, 29], [], [], [676, 390, 391, 32], []]
def psX5_certainPlace : List (List Nat) := [[], [300, 301, 29], [], [338, 340, 2, 29], [], [667, 386, 387, 32], []]
def psX5_certainCards : List (List Nat) := [[], [338, 340, 2, 29], [381, 382, 383, 32], []]
def psX5_isBroken : List (List Nat) := [[], [397, 399, 6, 29], [162], []]
def psX5_placeByRules : List (List Nat) := [[], [300, 301, 29], [], [397, 399, 6, 29], [], [659, 660, 661, 34], []]
def psX5_crossedOff : List (List Nat) := [[], [], [397, 399, 6, 29], [471, 452, 453, 34], [], []]
def psX5_hiddenCrosses : List (List Nat) := [[], [397, 399, 6, 29], [471, 452, 453, 34], [], [338, 340, 2, 29], [651, 652, 653, 32], [], []]
def psX5_envelopeDeals : List (List Nat) := [[], [686, 687, 29], [], [338, 340, 2, 29], [], [690, 691, 692, 32], []]
def psX5_envelopes : List (List Nat) := [[], [338, 340, 2, 29], [476, 477, 478, 32], []]
def psX5_bestAccusation : List (List Nat) := [[], [338, 340, 2, 29], [], [], [114], [698, 699, 29], [], [702, 703, 704, 32], []]
def psX5_isSolved : List (List Nat) := [[], [338, 340, 2, 29], [476, 477, 478, 32], [], [], [], [], [], []]
def psX5_leftBy : List (List Nat) := [[], [529, 530, 29], [], [686, 687, 29], [], [338, 340, 2, 29], [], [], [731, 716, 717, 32], []]
def psX5_bestQuestion : List (List Nat) := [[], [529, 530, 29], [], [338, 340, 2, 29], [], [], [114], [698, 699, 29], [], [], [711, 712, 713, 32], []]
def psX5_idleClues : List (List Nat) := [[], [338, 340, 2, 29], [], [177], [67], [736, 737, 738, 32], []]
def psX5_chance : List (List Nat) := [[], [338, 340, 2, 29], [752, 753, 754, 32], []]
def psX5_remember : List (List Nat) := [[], [185], [], [], [], [542, 544, 25, 29], [], [185], [], [], [185], [], [], [], [179], [], [185], [], [], [], [], [], [], [177], [284, 285, 286, 30], [], [], [185], [], [], [185], [], [288, 290, 1, 29], []]
def psX5_dropOldest : List (List Nat) := [[], [179], [], [], [], [], [], [], [], [], [], [179], [], [], [], [], [179], [], [], [], [], [], [], [179], [], [], [], [], [], [185], []]
def psX5_forgetCounts : List (List Nat) := [[], [182], [], [116], [], [183], [], [146], [], [184], [], [164], []]
def psX5_countedDeals : List (List Nat) := [[], [182], [116], [], [], [182], [], [177], [342, 343, 344, 32], [], [182], []]
def psX5_filledSheet : List (List Nat) := [[], [184], [164], [], [], [184], [], [177], [401, 402, 403, 34], [], [184], []]
def psX5_countedHands : List (List Nat) := [[], [183], [146], [], [], [183], [], [177], [632, 633, 634, 33], [], [183], []]
def psX5_checkCard : List (List Nat) := [[], [], [], [], [], [], [], [], [], [], []]
def psX5_checkPlayer : List (List Nat) := [[], [], [], [], [], [], [], [], [], [], []]
def psX5_checkPlace : List (List Nat) := [[], [], [], [], [], [], [], [], [], [], []]
def psX5_checkTriple : List (List Nat) := [[], [], [], [], [], [], [], [], [], [], []]
def psX5_checkCards : List (List Nat) := [[], [], [], [], [], [], [], [], [], [], [], [], [], [], [], [], [], [], [], [], [], [], [], [], [], [], [], [], [], [], [], [], []]
def psX5_checkClue : List (List Nat) := [[], [], [], [], [177], [67], [], [], [], [], [], [], [], [], [], []]
def psX5_checkRoomForClue : List (List Nat) := [[], [177], [67], [], [], [], [], [], [], [], []]
def psX5_checkStopped : List (List Nat) := [[], [177], [74], [], [], [], [], [], [], []]
def psX5_checkSome : List (List Nat) := [[], [], [], [], [], [], [], []]
def psX5_mask : List (List Nat) := [[], [], [], [], [], [], [], [], [], [], [], []]
def psX5_cardsOfKind : List (List Nat) := [[], [], [], [], [], []]
def psX5_cardsOfTriple : List (List Nat) := [[], [], [], [], [], [], [], [], [], [], [], [], [], [], [], [564, 565, 29], []]
def psX5_numberOfTriple : List (List Nat) := [[], [], [], [], [], [], [], [], [], [], [], [], [], [], [], [], [], [], [], [], [], [], [], [], []]
def psX5_isTriple : List (List Nat) := [[], [], [], [], [], [], [], [], [], [], [], [618, 369, 29], [], [619, 372, 35], [], [], [], [], [], [], [], [], [], []]
def psX5_exchanged : List (List Nat) := [[], [], [], [], [], [], [], [], [], [], [], [], [], [], [], [], [], [], [], [], [], [], [], [], [], [], [], [], [], [], [], [], [], [], []]
def psL_low : List (List Nat) := [[], [486], [], [], [], []]
def psL_told : List (List Nat) := [[490], [], [491], [491], [], [], [], [330, 331, 332, 29], [], [], [], [], [323, 324, 325, 29], [], [], [], [], [], [], [], [], [491], [], [], [], [], [296, 297, 298, 29], [], [], [], [], [], [], [], [], [], [330, 331, 332, 29], [], [491], [491], [491], [], [], [], [], [492, 493, 494, 29], [], [], [], [], [], [501, 502, 503, 29], [], [], [], [], [], [505, 506, 507, 29], [], [], [], [], [], [491], [], [], [], [209, 210, 211, 29], [], [], [], [], [509, 510, 511, 29], [], [], [], [518, 519, 520, 29], [], [], [], [], [], []]
def psL_act : List (List Nat) := [[], [], [], [], [483, 484, 28], [], [], [], [483, 484, 28], [], [], [], [483, 484, 28], [], [], [], [], [], [], [483, 484, 28], [], [], [], [], [], [], [], [483, 484, 28], [], [], [], [], [], [], [], [], [], [], [330, 331, 332, 29], [], [], [], [], [], [], [], [], [], [525, 526, 527, 29], [], [], [], [], [], [], [550, 551, 552, 29], [], [], [], [], [], [], [], [], [554, 555, 556, 29], [], [], [], [], [], [], [], [], [567, 568, 569, 29], [], [], [], [], [], [], [], [], [580, 581, 582, 29], [], [], [], [], [], [], [], [588, 589, 590, 29], [], [], [], [], [330, 331, 332, 29], [], [], [], [], [], [], [], [], [330, 331, 332, 29], [483, 484, 28], [596, 597, 598, 29], [], [], [], [], [], [], [], [], [], [], [], [], [604, 605, 606, 29], [], [], [], [], [], [], [], [483, 484, 28], [], [], [], [296, 297, 298, 29], [], [], [], [], [], [], [], [296, 297, 298, 29], [], [], [], [], [], [], [], [], [], [], [], [], [], [], [], [], [], [], [608, 609, 610, 29], [], [], []]
def psL_holds : List (List Nat) := [[], [334, 335, 336, 29], [], [], [], [624, 625, 626, 29], [], [], [], [], [], [], [], [330, 331, 332, 29], [], [], [], [], [], [393, 394, 395, 29], [], [], [], [], [467, 468, 469, 29], [], [], [], [647, 648, 649, 29], [], [], [], [], [], [], [], [], [], [], [], [], [], [], [655, 656, 657, 29], [], [], [], [663, 664, 665, 29], [], [], [], [], [], [], [], [], [], [], [], [], [], [], [], [], [668, 669, 670, 29], [], [], [], [], [], [], [], [], [], [668, 669, 670, 29], [], [], [], [], [], [], [], [], [], [], [], [], [377, 378, 379, 29], [], [], [], [], [], [], [677, 678, 679, 29], [], [], [], [], [], [], [393, 394, 395, 29], [], [], [], [323, 324, 325, 29], [682, 683, 684, 29], [], [], [], [], [], [], [], [], [], [], [], [694, 695, 696, 29], [682, 683, 684, 29], [], [], [682, 683, 684, 29], [], [], [], [], [], [707, 708, 709, 29], [727, 728, 729, 29], [], [], [], [727, 728, 729, 29], [], [], [], [], [], [], [], [], [732, 733, 734, 29], [], [330, 331, 332, 29], [], [], [744, 745, 746, 29], [], [472, 473, 474, 29], [], [], [], [], [], [], [], [748, 749, 750, 29], [], [], [], [], [748, 749, 750, 29], [], [], [], [], [], [], []]
def psJ6_bitCount_0f7a4 : List (List Nat) := [[], [], [], [], [374], [], [], [], [], [375], [], [], [], [], [375], [], [], [], [], [], [], [], [], [376], [], [], [], [], [], [], [], [], [], [], [], [], [], [], [], [], [], []]
theorem ck0 : (chM kX0_count 345 0 psX0_count && chM kX0_clear 348 0 psX0_clear && chM kX0_dealFrom 351 0 psX0_dealFrom && chM kX0_hasRoom 367 0 psX0_hasRoom) = true := by decide +kernel
theorem ck1 : (chM kX0_judge 355 0 psX0_judge && chM kX0_include 363 0 psX0_include && chM kX0_withCardAt 392 0 psX0_withCardAt && chM kX0_surePlace 388 0 psX0_surePlace) = true := by decide +kernel
theorem ck2 : (chM kX0_sureCards 384 0 psX0_sureCards && chM kX0_placesLeft 654 0 psX0_placesLeft && chM kX0_withEnvelope 693 0 psX0_withEnvelope && chM kX0_envelopesLeft 479 0 psX0_envelopesLeft) = true := by decide +kernel
theorem ck3 : (chM kX0_likeliestEnvelope 705 0 psX0_likeliestEnvelope && chM kX0_shareOfLikeliest 755 0 psX0_shareOfLikeliest && chM kX0_withNone 722 0 psX0_withNone && chM kX0_behindQuestion 718 0 psX0_behindQuestion) = true := by decide +kernel
theorem ck4 : (chM kX0_sharpestQuestion 714 0 psX0_sharpestQuestion && chM kX0_withoutClue 743 0 psX0_withoutClue && chM kX0_idleAmong 739 0 psX0_idleAmong && chM kX1_count 635 0 psX1_count) = true := by decide +kernel
theorem ck5 : (chM kX1_countHands 641 0 psX1_countHands && chM kX2_fill 404 0 psX2_fill && chM kX2_setAll 408 0 psX2_setAll && chM kX2_placesLeft 454 0 psX2_placesLeft) = true := by decide +kernel
theorem ck6 : (chM kX2_onlyPlace 662 0 psX2_onlyPlace && chM kX2_applyClues 412 0 psX2_applyClues && chM kX2_applyClue 416 0 psX2_applyClue && chM kX2_applyKinds 445 0 psX2_applyKinds) = true := by decide +kernel
theorem ck7 : (chM kX2_applyPlayers 450 0 psX2_applyPlayers && chM kX2_crossIfSure 437 0 psX2_crossIfSure && chM kX2_keepIfJust 428 0 psX2_keepIfJust && chM kX2_keepOnly 420 0 psX2_keepOnly) = true := by decide +kernel
theorem ck8 : (chM kX2_crossOff 424 0 psX2_crossOff && chM kX2_withPlace 432 0 psX2_withPlace && chM kX2_withOnly 441 0 psX2_withOnly && chM kX2_breaksDown 458 0 psX2_breaksDown) = true := by decide +kernel
theorem ck9 : (chM kX2_fits 462 0 psX2_fits && chM kX2_breaksClue 466 0 psX2_breaksClue && chM kX3_dealAtFirst 176 0 psX3_dealAtFirst && chM kX3_copyFrom 287 0 psX3_copyFrom) = true := by decide +kernel
theorem ck10 : (chM kX3_add 549 0 psX3_add && chM kX3_remove 603 0 psX3_remove && chM kX3_addAnswer 574 0 psX3_addAnswer && chM kX3_addSight 587 0 psX3_addSight) = true := by decide +kernel
theorem ck11 : (chM kX3_addVerdict 595 0 psX3_addVerdict && chM kX3_handOf 578 0 psX3_handOf && chM kX3_placeOf 322 0 psX3_placeOf && chM kX3_agrees 359 0 psX3_agrees) = true := by decide +kernel
theorem ck12 : (chM kX3_agreesWithAll 645 0 psX3_agreesWithAll && chM kX5_exchange 611 0 psX5_exchange && chM kX5_noteHas 528 0 psX5_noteHas && chM kX5_noteLacks 553 0 psX5_noteLacks) = true := by decide +kernel
theorem ck13 : (chM kX5_noteShows 557 0 psX5_noteShows && chM kX5_dropClue 599 0 psX5_dropClue && chM kX5_dropAll 607 0 psX5_dropAll && chM kX5_ask 570 0 psX5_ask) = true := by decide +kernel
theorem ck14 : (chM kX5_look 583 0 psX5_look && chM kX5_accuse 591 0 psX5_accuse && chM kX5_hasStopped 212 0 psX5_hasStopped && chM kX5_stoppedPart 512 0 psX5_stoppedPart) = true := by decide +kernel
theorem ck15 : (chM kX5_whyStopped 521 0 psX5_whyStopped && chM kX5_undo 216 0 psX5_undo && chM kX5_savedStates 295 0 psX5_savedStates && chM kX5_truePlace 299 0 psX5_truePlace) = true := by decide +kernel
theorem ck16 : (chM kX5_trueEnvelope 326 0 psX5_trueEnvelope && chM kX5_clues 333 0 psX5_clues && chM kX5_kindOf 495 0 psX5_kindOf && chM kX5_playerOf 504 0 psX5_playerOf) = true := by decide +kernel
theorem ck17 : (chM kX5_cardsOf 508 0 psX5_cardsOf && chM kX5_untrueClues 680 0 psX5_untrueClues && chM kX5_deals 337 0 psX5_deals && chM kX5_dealsByHands 627 0 psX5_dealsByHands) = true := by decide +kernel
theorem ck18 : (chM kX5_dealsWith 671 0 psX5_dealsWith && chM kX5_certainPlace 666 0 psX5_certainPlace && chM kX5_certainCards 380 0 psX5_certainCards && chM kX5_isBroken 396 0 psX5_isBroken) = true := by decide +kernel
theorem ck19 : (chM kX5_placeByRules 658 0 psX5_placeByRules && chM kX5_crossedOff 470 0 psX5_crossedOff && chM kX5_hiddenCrosses 650 0 psX5_hiddenCrosses && chM kX5_envelopeDeals 685 0 psX5_envelopeDeals) = true := by decide +kernel
theorem ck20 : (chM kX5_envelopes 475 0 psX5_envelopes && chM kX5_bestAccusation 697 0 psX5_bestAccusation && chM kX5_isSolved 747 0 psX5_isSolved && chM kX5_leftBy 730 0 psX5_leftBy) = true := by decide +kernel
theorem ck21 : (chM kX5_bestQuestion 710 0 psX5_bestQuestion && chM kX5_idleClues 735 0 psX5_idleClues && chM kX5_chance 751 0 psX5_chance && chM kX5_remember 541 0 psX5_remember) = true := by decide +kernel
theorem ck22 : (chM kX5_dropOldest 545 0 psX5_dropOldest && chM kX5_forgetCounts 291 0 psX5_forgetCounts && chM kX5_countedDeals 341 0 psX5_countedDeals && chM kX5_filledSheet 400 0 psX5_filledSheet) = true := by decide +kernel
theorem ck23 : (chM kX5_countedHands 631 0 psX5_countedHands && chM kX5_checkCard 302 0 psX5_checkCard && chM kX5_checkPlayer 531 0 psX5_checkPlayer && chM kX5_checkPlace 674 0 psX5_checkPlace) = true := by decide +kernel
theorem ck24 : (chM kX5_checkTriple 688 0 psX5_checkTriple && chM kX5_checkCards 560 0 psX5_checkCards && chM kX5_checkClue 499 0 psX5_checkClue && chM kX5_checkRoomForClue 536 0 psX5_checkRoomForClue) = true := by decide +kernel
theorem ck25 : (chM kX5_checkStopped 516 0 psX5_checkStopped && chM kX5_checkSome 700 0 psX5_checkSome && chM kX5_mask 566 0 psX5_mask && chM kX5_cardsOfKind 370 0 psX5_cardsOfKind) = true := by decide +kernel
theorem ck26 : (chM kX5_cardsOfTriple 638 0 psX5_cardsOfTriple && chM kX5_numberOfTriple 329 0 psX5_numberOfTriple && chM kX5_isTriple 617 0 psX5_isTriple && chM kX5_exchanged 614 0 psX5_exchanged) = true := by decide +kernel
theorem ck27 : (chM kL_low 485 0 psL_low) = true := by decide +kernel
theorem ck28 : (chM kL_told 489 0 psL_told) = true := by decide +kernel
theorem ck29 : (chM kL_act 524 0 psL_act) = true := by decide +kernel
theorem ck30 : (chM kL_holds 623 0 psL_holds) = true := by decide +kernel
theorem ck31 : (chM kJ6_bitCount_0f7a4 373 0 psJ6_bitCount_0f7a4) = true := by decide +kernel
def CkM (k : Nat) : Prop := ∃ (cp : Nat) (pss : List (List Nat)), chM k cp 0 pss = true
theorem cq0 : ∀ k, 0 ≤ k → k < 4 → CkM k := by
  intro k h1 h2
  have h := ck0
  try simp only [Bool.and_eq_true] at h
  obtain ⟨⟨⟨c0, c1⟩, c2⟩, c3⟩ := h
  have h3 : k = 0 ∨ k = 1 ∨ k = 2 ∨ k = 3 := by omega
  rcases h3 with rfl | rfl | rfl | rfl
  · exact ⟨345, psX0_count, c0⟩
  · exact ⟨348, psX0_clear, c1⟩
  · exact ⟨351, psX0_dealFrom, c2⟩
  · exact ⟨367, psX0_hasRoom, c3⟩
theorem cq1 : ∀ k, 4 ≤ k → k < 8 → CkM k := by
  intro k h1 h2
  have h := ck1
  try simp only [Bool.and_eq_true] at h
  obtain ⟨⟨⟨c0, c1⟩, c2⟩, c3⟩ := h
  have h3 : k = 4 ∨ k = 5 ∨ k = 6 ∨ k = 7 := by omega
  rcases h3 with rfl | rfl | rfl | rfl
  · exact ⟨355, psX0_judge, c0⟩
  · exact ⟨363, psX0_include, c1⟩
  · exact ⟨392, psX0_withCardAt, c2⟩
  · exact ⟨388, psX0_surePlace, c3⟩
theorem cq2 : ∀ k, 8 ≤ k → k < 12 → CkM k := by
  intro k h1 h2
  have h := ck2
  try simp only [Bool.and_eq_true] at h
  obtain ⟨⟨⟨c0, c1⟩, c2⟩, c3⟩ := h
  have h3 : k = 8 ∨ k = 9 ∨ k = 10 ∨ k = 11 := by omega
  rcases h3 with rfl | rfl | rfl | rfl
  · exact ⟨384, psX0_sureCards, c0⟩
  · exact ⟨654, psX0_placesLeft, c1⟩
  · exact ⟨693, psX0_withEnvelope, c2⟩
  · exact ⟨479, psX0_envelopesLeft, c3⟩
theorem cq3 : ∀ k, 12 ≤ k → k < 16 → CkM k := by
  intro k h1 h2
  have h := ck3
  try simp only [Bool.and_eq_true] at h
  obtain ⟨⟨⟨c0, c1⟩, c2⟩, c3⟩ := h
  have h3 : k = 12 ∨ k = 13 ∨ k = 14 ∨ k = 15 := by omega
  rcases h3 with rfl | rfl | rfl | rfl
  · exact ⟨705, psX0_likeliestEnvelope, c0⟩
  · exact ⟨755, psX0_shareOfLikeliest, c1⟩
  · exact ⟨722, psX0_withNone, c2⟩
  · exact ⟨718, psX0_behindQuestion, c3⟩
theorem cq4 : ∀ k, 16 ≤ k → k < 20 → CkM k := by
  intro k h1 h2
  have h := ck4
  try simp only [Bool.and_eq_true] at h
  obtain ⟨⟨⟨c0, c1⟩, c2⟩, c3⟩ := h
  have h3 : k = 16 ∨ k = 17 ∨ k = 18 ∨ k = 19 := by omega
  rcases h3 with rfl | rfl | rfl | rfl
  · exact ⟨714, psX0_sharpestQuestion, c0⟩
  · exact ⟨743, psX0_withoutClue, c1⟩
  · exact ⟨739, psX0_idleAmong, c2⟩
  · exact ⟨635, psX1_count, c3⟩
theorem cq5 : ∀ k, 20 ≤ k → k < 24 → CkM k := by
  intro k h1 h2
  have h := ck5
  try simp only [Bool.and_eq_true] at h
  obtain ⟨⟨⟨c0, c1⟩, c2⟩, c3⟩ := h
  have h3 : k = 20 ∨ k = 21 ∨ k = 22 ∨ k = 23 := by omega
  rcases h3 with rfl | rfl | rfl | rfl
  · exact ⟨641, psX1_countHands, c0⟩
  · exact ⟨404, psX2_fill, c1⟩
  · exact ⟨408, psX2_setAll, c2⟩
  · exact ⟨454, psX2_placesLeft, c3⟩
theorem cq6 : ∀ k, 24 ≤ k → k < 28 → CkM k := by
  intro k h1 h2
  have h := ck6
  try simp only [Bool.and_eq_true] at h
  obtain ⟨⟨⟨c0, c1⟩, c2⟩, c3⟩ := h
  have h3 : k = 24 ∨ k = 25 ∨ k = 26 ∨ k = 27 := by omega
  rcases h3 with rfl | rfl | rfl | rfl
  · exact ⟨662, psX2_onlyPlace, c0⟩
  · exact ⟨412, psX2_applyClues, c1⟩
  · exact ⟨416, psX2_applyClue, c2⟩
  · exact ⟨445, psX2_applyKinds, c3⟩
theorem cq7 : ∀ k, 28 ≤ k → k < 32 → CkM k := by
  intro k h1 h2
  have h := ck7
  try simp only [Bool.and_eq_true] at h
  obtain ⟨⟨⟨c0, c1⟩, c2⟩, c3⟩ := h
  have h3 : k = 28 ∨ k = 29 ∨ k = 30 ∨ k = 31 := by omega
  rcases h3 with rfl | rfl | rfl | rfl
  · exact ⟨450, psX2_applyPlayers, c0⟩
  · exact ⟨437, psX2_crossIfSure, c1⟩
  · exact ⟨428, psX2_keepIfJust, c2⟩
  · exact ⟨420, psX2_keepOnly, c3⟩
theorem cq8 : ∀ k, 32 ≤ k → k < 36 → CkM k := by
  intro k h1 h2
  have h := ck8
  try simp only [Bool.and_eq_true] at h
  obtain ⟨⟨⟨c0, c1⟩, c2⟩, c3⟩ := h
  have h3 : k = 32 ∨ k = 33 ∨ k = 34 ∨ k = 35 := by omega
  rcases h3 with rfl | rfl | rfl | rfl
  · exact ⟨424, psX2_crossOff, c0⟩
  · exact ⟨432, psX2_withPlace, c1⟩
  · exact ⟨441, psX2_withOnly, c2⟩
  · exact ⟨458, psX2_breaksDown, c3⟩
theorem cq9 : ∀ k, 36 ≤ k → k < 40 → CkM k := by
  intro k h1 h2
  have h := ck9
  try simp only [Bool.and_eq_true] at h
  obtain ⟨⟨⟨c0, c1⟩, c2⟩, c3⟩ := h
  have h3 : k = 36 ∨ k = 37 ∨ k = 38 ∨ k = 39 := by omega
  rcases h3 with rfl | rfl | rfl | rfl
  · exact ⟨462, psX2_fits, c0⟩
  · exact ⟨466, psX2_breaksClue, c1⟩
  · exact ⟨176, psX3_dealAtFirst, c2⟩
  · exact ⟨287, psX3_copyFrom, c3⟩
theorem cq10 : ∀ k, 40 ≤ k → k < 44 → CkM k := by
  intro k h1 h2
  have h := ck10
  try simp only [Bool.and_eq_true] at h
  obtain ⟨⟨⟨c0, c1⟩, c2⟩, c3⟩ := h
  have h3 : k = 40 ∨ k = 41 ∨ k = 42 ∨ k = 43 := by omega
  rcases h3 with rfl | rfl | rfl | rfl
  · exact ⟨549, psX3_add, c0⟩
  · exact ⟨603, psX3_remove, c1⟩
  · exact ⟨574, psX3_addAnswer, c2⟩
  · exact ⟨587, psX3_addSight, c3⟩
theorem cq11 : ∀ k, 44 ≤ k → k < 48 → CkM k := by
  intro k h1 h2
  have h := ck11
  try simp only [Bool.and_eq_true] at h
  obtain ⟨⟨⟨c0, c1⟩, c2⟩, c3⟩ := h
  have h3 : k = 44 ∨ k = 45 ∨ k = 46 ∨ k = 47 := by omega
  rcases h3 with rfl | rfl | rfl | rfl
  · exact ⟨595, psX3_addVerdict, c0⟩
  · exact ⟨578, psX3_handOf, c1⟩
  · exact ⟨322, psX3_placeOf, c2⟩
  · exact ⟨359, psX3_agrees, c3⟩
theorem cq12 : ∀ k, 48 ≤ k → k < 52 → CkM k := by
  intro k h1 h2
  have h := ck12
  try simp only [Bool.and_eq_true] at h
  obtain ⟨⟨⟨c0, c1⟩, c2⟩, c3⟩ := h
  have h3 : k = 48 ∨ k = 49 ∨ k = 50 ∨ k = 51 := by omega
  rcases h3 with rfl | rfl | rfl | rfl
  · exact ⟨645, psX3_agreesWithAll, c0⟩
  · exact ⟨611, psX5_exchange, c1⟩
  · exact ⟨528, psX5_noteHas, c2⟩
  · exact ⟨553, psX5_noteLacks, c3⟩
theorem cq13 : ∀ k, 52 ≤ k → k < 56 → CkM k := by
  intro k h1 h2
  have h := ck13
  try simp only [Bool.and_eq_true] at h
  obtain ⟨⟨⟨c0, c1⟩, c2⟩, c3⟩ := h
  have h3 : k = 52 ∨ k = 53 ∨ k = 54 ∨ k = 55 := by omega
  rcases h3 with rfl | rfl | rfl | rfl
  · exact ⟨557, psX5_noteShows, c0⟩
  · exact ⟨599, psX5_dropClue, c1⟩
  · exact ⟨607, psX5_dropAll, c2⟩
  · exact ⟨570, psX5_ask, c3⟩
theorem cq14 : ∀ k, 56 ≤ k → k < 60 → CkM k := by
  intro k h1 h2
  have h := ck14
  try simp only [Bool.and_eq_true] at h
  obtain ⟨⟨⟨c0, c1⟩, c2⟩, c3⟩ := h
  have h3 : k = 56 ∨ k = 57 ∨ k = 58 ∨ k = 59 := by omega
  rcases h3 with rfl | rfl | rfl | rfl
  · exact ⟨583, psX5_look, c0⟩
  · exact ⟨591, psX5_accuse, c1⟩
  · exact ⟨212, psX5_hasStopped, c2⟩
  · exact ⟨512, psX5_stoppedPart, c3⟩
theorem cq15 : ∀ k, 60 ≤ k → k < 64 → CkM k := by
  intro k h1 h2
  have h := ck15
  try simp only [Bool.and_eq_true] at h
  obtain ⟨⟨⟨c0, c1⟩, c2⟩, c3⟩ := h
  have h3 : k = 60 ∨ k = 61 ∨ k = 62 ∨ k = 63 := by omega
  rcases h3 with rfl | rfl | rfl | rfl
  · exact ⟨521, psX5_whyStopped, c0⟩
  · exact ⟨216, psX5_undo, c1⟩
  · exact ⟨295, psX5_savedStates, c2⟩
  · exact ⟨299, psX5_truePlace, c3⟩
theorem cq16 : ∀ k, 64 ≤ k → k < 68 → CkM k := by
  intro k h1 h2
  have h := ck16
  try simp only [Bool.and_eq_true] at h
  obtain ⟨⟨⟨c0, c1⟩, c2⟩, c3⟩ := h
  have h3 : k = 64 ∨ k = 65 ∨ k = 66 ∨ k = 67 := by omega
  rcases h3 with rfl | rfl | rfl | rfl
  · exact ⟨326, psX5_trueEnvelope, c0⟩
  · exact ⟨333, psX5_clues, c1⟩
  · exact ⟨495, psX5_kindOf, c2⟩
  · exact ⟨504, psX5_playerOf, c3⟩
theorem cq17 : ∀ k, 68 ≤ k → k < 72 → CkM k := by
  intro k h1 h2
  have h := ck17
  try simp only [Bool.and_eq_true] at h
  obtain ⟨⟨⟨c0, c1⟩, c2⟩, c3⟩ := h
  have h3 : k = 68 ∨ k = 69 ∨ k = 70 ∨ k = 71 := by omega
  rcases h3 with rfl | rfl | rfl | rfl
  · exact ⟨508, psX5_cardsOf, c0⟩
  · exact ⟨680, psX5_untrueClues, c1⟩
  · exact ⟨337, psX5_deals, c2⟩
  · exact ⟨627, psX5_dealsByHands, c3⟩
theorem cq18 : ∀ k, 72 ≤ k → k < 76 → CkM k := by
  intro k h1 h2
  have h := ck18
  try simp only [Bool.and_eq_true] at h
  obtain ⟨⟨⟨c0, c1⟩, c2⟩, c3⟩ := h
  have h3 : k = 72 ∨ k = 73 ∨ k = 74 ∨ k = 75 := by omega
  rcases h3 with rfl | rfl | rfl | rfl
  · exact ⟨671, psX5_dealsWith, c0⟩
  · exact ⟨666, psX5_certainPlace, c1⟩
  · exact ⟨380, psX5_certainCards, c2⟩
  · exact ⟨396, psX5_isBroken, c3⟩
theorem cq19 : ∀ k, 76 ≤ k → k < 80 → CkM k := by
  intro k h1 h2
  have h := ck19
  try simp only [Bool.and_eq_true] at h
  obtain ⟨⟨⟨c0, c1⟩, c2⟩, c3⟩ := h
  have h3 : k = 76 ∨ k = 77 ∨ k = 78 ∨ k = 79 := by omega
  rcases h3 with rfl | rfl | rfl | rfl
  · exact ⟨658, psX5_placeByRules, c0⟩
  · exact ⟨470, psX5_crossedOff, c1⟩
  · exact ⟨650, psX5_hiddenCrosses, c2⟩
  · exact ⟨685, psX5_envelopeDeals, c3⟩
theorem cq20 : ∀ k, 80 ≤ k → k < 84 → CkM k := by
  intro k h1 h2
  have h := ck20
  try simp only [Bool.and_eq_true] at h
  obtain ⟨⟨⟨c0, c1⟩, c2⟩, c3⟩ := h
  have h3 : k = 80 ∨ k = 81 ∨ k = 82 ∨ k = 83 := by omega
  rcases h3 with rfl | rfl | rfl | rfl
  · exact ⟨475, psX5_envelopes, c0⟩
  · exact ⟨697, psX5_bestAccusation, c1⟩
  · exact ⟨747, psX5_isSolved, c2⟩
  · exact ⟨730, psX5_leftBy, c3⟩
theorem cq21 : ∀ k, 84 ≤ k → k < 88 → CkM k := by
  intro k h1 h2
  have h := ck21
  try simp only [Bool.and_eq_true] at h
  obtain ⟨⟨⟨c0, c1⟩, c2⟩, c3⟩ := h
  have h3 : k = 84 ∨ k = 85 ∨ k = 86 ∨ k = 87 := by omega
  rcases h3 with rfl | rfl | rfl | rfl
  · exact ⟨710, psX5_bestQuestion, c0⟩
  · exact ⟨735, psX5_idleClues, c1⟩
  · exact ⟨751, psX5_chance, c2⟩
  · exact ⟨541, psX5_remember, c3⟩
theorem cq22 : ∀ k, 88 ≤ k → k < 92 → CkM k := by
  intro k h1 h2
  have h := ck22
  try simp only [Bool.and_eq_true] at h
  obtain ⟨⟨⟨c0, c1⟩, c2⟩, c3⟩ := h
  have h3 : k = 88 ∨ k = 89 ∨ k = 90 ∨ k = 91 := by omega
  rcases h3 with rfl | rfl | rfl | rfl
  · exact ⟨545, psX5_dropOldest, c0⟩
  · exact ⟨291, psX5_forgetCounts, c1⟩
  · exact ⟨341, psX5_countedDeals, c2⟩
  · exact ⟨400, psX5_filledSheet, c3⟩
theorem cq23 : ∀ k, 92 ≤ k → k < 96 → CkM k := by
  intro k h1 h2
  have h := ck23
  try simp only [Bool.and_eq_true] at h
  obtain ⟨⟨⟨c0, c1⟩, c2⟩, c3⟩ := h
  have h3 : k = 92 ∨ k = 93 ∨ k = 94 ∨ k = 95 := by omega
  rcases h3 with rfl | rfl | rfl | rfl
  · exact ⟨631, psX5_countedHands, c0⟩
  · exact ⟨302, psX5_checkCard, c1⟩
  · exact ⟨531, psX5_checkPlayer, c2⟩
  · exact ⟨674, psX5_checkPlace, c3⟩
theorem cq24 : ∀ k, 96 ≤ k → k < 100 → CkM k := by
  intro k h1 h2
  have h := ck24
  try simp only [Bool.and_eq_true] at h
  obtain ⟨⟨⟨c0, c1⟩, c2⟩, c3⟩ := h
  have h3 : k = 96 ∨ k = 97 ∨ k = 98 ∨ k = 99 := by omega
  rcases h3 with rfl | rfl | rfl | rfl
  · exact ⟨688, psX5_checkTriple, c0⟩
  · exact ⟨560, psX5_checkCards, c1⟩
  · exact ⟨499, psX5_checkClue, c2⟩
  · exact ⟨536, psX5_checkRoomForClue, c3⟩
theorem cq25 : ∀ k, 100 ≤ k → k < 104 → CkM k := by
  intro k h1 h2
  have h := ck25
  try simp only [Bool.and_eq_true] at h
  obtain ⟨⟨⟨c0, c1⟩, c2⟩, c3⟩ := h
  have h3 : k = 100 ∨ k = 101 ∨ k = 102 ∨ k = 103 := by omega
  rcases h3 with rfl | rfl | rfl | rfl
  · exact ⟨516, psX5_checkStopped, c0⟩
  · exact ⟨700, psX5_checkSome, c1⟩
  · exact ⟨566, psX5_mask, c2⟩
  · exact ⟨370, psX5_cardsOfKind, c3⟩
theorem cq26 : ∀ k, 104 ≤ k → k < 108 → CkM k := by
  intro k h1 h2
  have h := ck26
  try simp only [Bool.and_eq_true] at h
  obtain ⟨⟨⟨c0, c1⟩, c2⟩, c3⟩ := h
  have h3 : k = 104 ∨ k = 105 ∨ k = 106 ∨ k = 107 := by omega
  rcases h3 with rfl | rfl | rfl | rfl
  · exact ⟨638, psX5_cardsOfTriple, c0⟩
  · exact ⟨329, psX5_numberOfTriple, c1⟩
  · exact ⟨617, psX5_isTriple, c2⟩
  · exact ⟨614, psX5_exchanged, c3⟩
theorem cq27 : ∀ k, 108 ≤ k → k < 109 → CkM k := by
  intro k h1 h2
  have h := ck27
  have h3 : k = 108 := by omega
  rw [h3]
  exact ⟨485, psL_low, h⟩
theorem cq28 : ∀ k, 109 ≤ k → k < 110 → CkM k := by
  intro k h1 h2
  have h := ck28
  have h3 : k = 109 := by omega
  rw [h3]
  exact ⟨489, psL_told, h⟩
theorem cq29 : ∀ k, 110 ≤ k → k < 111 → CkM k := by
  intro k h1 h2
  have h := ck29
  have h3 : k = 110 := by omega
  rw [h3]
  exact ⟨524, psL_act, h⟩
theorem cq30 : ∀ k, 111 ≤ k → k < 112 → CkM k := by
  intro k h1 h2
  have h := ck30
  have h3 : k = 111 := by omega
  rw [h3]
  exact ⟨623, psL_holds, h⟩
theorem cq31 : ∀ k, 112 ≤ k → k < 113 → CkM k := by
  intro k h1 h2
  have h := ck31
  have h3 : k = 112 := by omega
  rw [h3]
  exact ⟨373, psJ6_bitCount_0f7a4, h⟩
theorem ckM : ∀ k, k < nM → CkM k := by
  intro k h
  have h0 : k < 113 := h
  by_cases h1 : k < 4
  · exact cq0 k (by omega) h1
  by_cases h2 : k < 8
  · exact cq1 k (by omega) h2
  by_cases h3 : k < 12
  · exact cq2 k (by omega) h3
  by_cases h4 : k < 16
  · exact cq3 k (by omega) h4
  by_cases h5 : k < 20
  · exact cq4 k (by omega) h5
  by_cases h6 : k < 24
  · exact cq5 k (by omega) h6
  by_cases h7 : k < 28
  · exact cq6 k (by omega) h7
  by_cases h8 : k < 32
  · exact cq7 k (by omega) h8
  by_cases h9 : k < 36
  · exact cq8 k (by omega) h9
  by_cases h10 : k < 40
  · exact cq9 k (by omega) h10
  by_cases h11 : k < 44
  · exact cq10 k (by omega) h11
  by_cases h12 : k < 48
  · exact cq11 k (by omega) h12
  by_cases h13 : k < 52
  · exact cq12 k (by omega) h13
  by_cases h14 : k < 56
  · exact cq13 k (by omega) h14
  by_cases h15 : k < 60
  · exact cq14 k (by omega) h15
  by_cases h16 : k < 64
  · exact cq15 k (by omega) h16
  by_cases h17 : k < 68
  · exact cq16 k (by omega) h17
  by_cases h18 : k < 72
  · exact cq17 k (by omega) h18
  by_cases h19 : k < 76
  · exact cq18 k (by omega) h19
  by_cases h20 : k < 80
  · exact cq19 k (by omega) h20
  by_cases h21 : k < 84
  · exact cq20 k (by omega) h21
  by_cases h22 : k < 88
  · exact cq21 k (by omega) h22
  by_cases h23 : k < 92
  · exact cq22 k (by omega) h23
  by_cases h24 : k < 96
  · exact cq23 k (by omega) h24
  by_cases h25 : k < 100
  · exact cq24 k (by omega) h25
  by_cases h26 : k < 104
  · exact cq25 k (by omega) h26
  by_cases h27 : k < 108
  · exact cq26 k (by omega) h27
  by_cases h28 : k < 109
  · exact cq27 k (by omega) h28
  by_cases h29 : k < 110
  · exact cq28 k (by omega) h29
  by_cases h30 : k < 111
  · exact cq29 k (by omega) h30
  by_cases h31 : k < 112
  · exact cq30 k (by omega) h31
  by_cases h32 : k < 113
  · exact cq31 k (by omega) h32
  exact absurd h0 h32
