def tbX0_size : TB := [(0, .aload_n 0, 1, []), (1, .getfield 16, 3, []), (4, .ireturn, 1, [])]
theorem tbX0_size_ok : tbOK cX0_size tbX0_size = true := by decide +kernel
def tbX0_forget : TB := [(0, .aload_n 0, 1, []), (1, .iconst 0, 1, []), (2, .putfield 20, 3, []), (5, .aload_n 0, 1, []), (6, .iconst 0, 1, []), (7, .putfield 16, 3, []), (10, .return_, 1, [])]
theorem tbX0_forget_ok : tbOK cX0_forget tbX0_forget = true := by decide +kernel
def tbX0_record : TB := [(0, .aload_n 0, 1, []), (1, .getfield 16, 3, []), (4, .bipush 12, 2, []), (6, .if_icmp .ne 22, 3, [28]), (9, .aload_n 0, 1, []), (10, .aload_n 0, 1, []), (11, .iconst 1, 1, []), (12, .invokevirtual 23, 3, []), (15, .putfield 20, 3, []), (18, .aload_n 0, 1, []), (19, .dup, 1, []), (20, .getfield 16, 3, []), (23, .iconst 1, 1, []), (24, .isub, 1, []), (25, .putfield 16, 3, []), (28, .aload_n 1, 1, []), (29, .iconst 0, 1, []), (30, .aload_n 0, 1, []), (31, .getfield 11, 3, []), (34, .aload_n 0, 1, []), (35, .aload_n 0, 1, []), (36, .getfield 16, 3, []), (39, .invokevirtual 23, 3, []), (42, .aaload, 1, []), (43, .iconst 0, 1, []), (44, .sipush 144, 3, []), (47, .invokestatic 27, 3, []), (50, .aload_n 0, 1, []), (51, .dup, 1, []), (52, .getfield 16, 3, []), (55, .iconst 1, 1, []), (56, .iadd, 1, []), (57, .putfield 16, 3, []), (60, .return_, 1, [])]
theorem tbX0_record_ok : tbOK cX0_record tbX0_record = true := by decide +kernel
def tbX0_restore : TB := [(0, .aload_n 0, 1, []), (1, .getfield 16, 3, []), (4, .ifCond .le 35, 3, [39]), (7, .aload_n 0, 1, []), (8, .dup, 1, []), (9, .getfield 16, 3, []), (12, .iconst 1, 1, []), (13, .isub, 1, []), (14, .putfield 16, 3, []), (17, .aload_n 0, 1, []), (18, .getfield 11, 3, []), (21, .aload_n 0, 1, []), (22, .aload_n 0, 1, []), (23, .getfield 16, 3, []), (26, .invokevirtual 23, 3, []), (29, .aaload, 1, []), (30, .iconst 0, 1, []), (31, .aload_n 1, 1, []), (32, .iconst 0, 1, []), (33, .sipush 144, 3, []), (36, .invokestatic 27, 3, []), (39, .return_, 1, [])]
theorem tbX0_restore_ok : tbOK cX0_restore tbX0_restore = true := by decide +kernel
def tbX0_place : TB := [(0, .aload_n 0, 1, []), (1, .getfield 20, 3, []), (4, .iload_n 1, 1, []), (5, .iadd, 1, []), (6, .istore_n 2, 1, []), (7, .iload_n 2, 1, []), (8, .bipush 12, 2, []), (10, .if_icmp .ge 7, 3, [17]), (13, .iload_n 2, 1, []), (14, .goto 7, 3, [21]), (17, .iload_n 2, 1, []), (18, .bipush 12, 2, []), (20, .isub, 1, []), (21, .ireturn, 1, [])]
theorem tbX0_place_ok : tbOK cX0_place tbX0_place = true := by decide +kernel
def tbX1_number : TB := [(0, .aload_n 0, 1, []), (1, .getfield 42, 3, []), (4, .ireturn, 1, [])]
theorem tbX1_number_ok : tbOK cX1_number tbX1_number = true := by decide +kernel
def tbX1_labelOf : TB := [(0, .aload_n 0, 1, []), (1, .getfield 9, 3, []), (4, .iload_n 1, 1, []), (5, .iaload, 1, []), (6, .ireturn, 1, [])]
theorem tbX1_labelOf_ok : tbOK cX1_labelOf tbX1_labelOf = true := by decide +kernel
def tbX1_sizeOf : TB := [(0, .aload_n 0, 1, []), (1, .getfield 15, 3, []), (4, .iload_n 1, 1, []), (5, .iaload, 1, []), (6, .ireturn, 1, [])]
theorem tbX1_sizeOf_ok : tbOK cX1_sizeOf tbX1_sizeOf = true := by decide +kernel
def tbX1_find : TB := [(0, .iconst 0, 1, []), (1, .istore_n 1, 1, []), (2, .iload_n 1, 1, []), (3, .aload_n 0, 1, []), (4, .getfield 35, 3, []), (7, .invokevirtual 46, 3, []), (10, .if_icmp .ge 17, 3, [27]), (13, .aload_n 0, 1, []), (14, .getfield 9, 3, []), (17, .iload_n 1, 1, []), (18, .bipush (-5), 2, []), (20, .iastore, 1, []), (21, .iinc 1 1, 3, []), (24, .goto (-22), 3, [2]), (27, .aload_n 0, 1, []), (28, .iconst 0, 1, []), (29, .putfield 42, 3, []), (32, .iconst 0, 1, []), (33, .istore_n 1, 1, []), (34, .iload_n 1, 1, []), (35, .aload_n 0, 1, []), (36, .getfield 35, 3, []), (39, .invokevirtual 46, 3, []), (42, .if_icmp .ge 35, 3, [77]), (45, .aload_n 0, 1, []), (46, .getfield 9, 3, []), (49, .iload_n 1, 1, []), (50, .iaload, 1, []), (51, .bipush (-5), 2, []), (53, .if_icmp .ne 18, 3, [71]), (56, .aload_n 0, 1, []), (57, .iload_n 1, 1, []), (58, .invokevirtual 52, 3, []), (61, .aload_n 0, 1, []), (62, .dup, 1, []), (63, .getfield 42, 3, []), (66, .iconst 1, 1, []), (67, .iadd, 1, []), (68, .putfield 42, 3, []), (71, .iinc 1 1, 3, []), (74, .goto (-40), 3, [34]), (77, .return_, 1, [])]
theorem tbX1_find_ok : tbOK cX1_find tbX1_find = true := by decide +kernel
def tbX1_flood : TB := [(0, .aload_n 0, 1, []), (1, .getfield 31, 3, []), (4, .invokevirtual 56, 3, []), (7, .aload_n 0, 1, []), (8, .iload_n 1, 1, []), (9, .iload_n 1, 1, []), (10, .iconst 0, 1, []), (11, .iconst 0, 1, []), (12, .invokevirtual 59, 3, []), (15, .iconst 0, 1, []), (16, .istore_n 2, 1, []), (17, .iload_n 2, 1, []), (18, .sipush 144, 3, []), (21, .if_icmp .ge 32, 3, [53]), (24, .iload_n 2, 1, []), (25, .aload_n 0, 1, []), (26, .getfield 31, 3, []), (29, .invokevirtual 63, 3, []), (32, .if_icmp .ge 21, 3, [53]), (35, .aload_n 0, 1, []), (36, .aload_n 0, 1, []), (37, .getfield 31, 3, []), (40, .iload_n 2, 1, []), (41, .invokevirtual 65, 3, []), (44, .invokevirtual 69, 3, []), (47, .iinc 2 1, 3, []), (50, .goto (-33), 3, [17]), (53, .aload_n 0, 1, []), (54, .getfield 15, 3, []), (57, .iload_n 1, 1, []), (58, .aload_n 0, 1, []), (59, .getfield 31, 3, []), (62, .invokevirtual 63, 3, []), (65, .iastore, 1, []), (66, .return_, 1, [])]
theorem tbX1_flood_ok : tbOK cX1_flood tbX1_flood = true := by decide +kernel
def tbX1_enter : TB := [(0, .aload_n 0, 1, []), (1, .getfield 9, 3, []), (4, .iload_n 1, 1, []), (5, .iload_n 2, 1, []), (6, .iastore, 1, []), (7, .aload_n 0, 1, []), (8, .getfield 18, 3, []), (11, .iload_n 1, 1, []), (12, .iload_n 3, 1, []), (13, .iastore, 1, []), (14, .aload_n 0, 1, []), (15, .getfield 21, 3, []), (18, .iload_n 1, 1, []), (19, .iload 4, 2, []), (21, .iastore, 1, []), (22, .aload_n 0, 1, []), (23, .getfield 31, 3, []), (26, .iload_n 1, 1, []), (27, .invokevirtual 72, 3, []), (30, .return_, 1, [])]
theorem tbX1_enter_ok : tbOK cX1_enter tbX1_enter = true := by decide +kernel
def tbX1_spread : TB := [(0, .iconst 0, 1, []), (1, .istore_n 2, 1, []), (2, .iload_n 2, 1, []), (3, .iconst 4, 1, []), (4, .if_icmp .ge 88, 3, [92]), (7, .aload_n 0, 1, []), (8, .getfield 35, 3, []), (11, .iload_n 1, 1, []), (12, .iload_n 2, 1, []), (13, .invokevirtual 75, 3, []), (16, .istore_n 3, 1, []), (17, .iload_n 3, 1, []), (18, .ifCond .lt 68, 3, [86]), (21, .aload_n 0, 1, []), (22, .getfield 39, 3, []), (25, .iload_n 3, 1, []), (26, .iaload, 1, []), (27, .aload_n 0, 1, []), (28, .getfield 39, 3, []), (31, .iload_n 1, 1, []), (32, .iaload, 1, []), (33, .if_icmp .ne 53, 3, [86]), (36, .aload_n 0, 1, []), (37, .getfield 9, 3, []), (40, .iload_n 3, 1, []), (41, .iaload, 1, []), (42, .bipush (-5), 2, []), (44, .if_icmp .ne 42, 3, [86]), (47, .aload_n 0, 1, []), (48, .getfield 21, 3, []), (51, .iload_n 1, 1, []), (52, .iaload, 1, []), (53, .aload_n 0, 1, []), (54, .getfield 35, 3, []), (57, .iload_n 1, 1, []), (58, .iload_n 2, 1, []), (59, .invokevirtual 79, 3, []), (62, .ixor, 1, []), (63, .istore 4, 2, []), (65, .aload_n 0, 1, []), (66, .iload_n 3, 1, []), (67, .aload_n 0, 1, []), (68, .getfield 9, 3, []), (71, .iload_n 1, 1, []), (72, .iaload, 1, []), (73, .aload_n 0, 1, []), (74, .getfield 18, 3, []), (77, .iload_n 1, 1, []), (78, .iaload, 1, []), (79, .iconst 1, 1, []), (80, .iadd, 1, []), (81, .iload 4, 2, []), (83, .invokevirtual 59, 3, []), (86, .iinc 2 1, 3, []), (89, .goto (-87), 3, [2]), (92, .return_, 1, [])]
theorem tbX1_spread_ok : tbOK cX1_spread tbX1_spread = true := by decide +kernel
def tbX1_changesSince : TB := [(0, .iconst 0, 1, []), (1, .istore_n 3, 1, []), (2, .iconst 0, 1, []), (3, .istore 4, 2, []), (5, .iload 4, 2, []), (7, .aload_n 0, 1, []), (8, .getfield 35, 3, []), (11, .invokevirtual 46, 3, []), (14, .if_icmp .ge 35, 3, [49]), (17, .iload 4, 2, []), (19, .iload_n 2, 1, []), (20, .if_icmp .eq 23, 3, [43]), (23, .aload_n 0, 1, []), (24, .getfield 9, 3, []), (27, .iload 4, 2, []), (29, .iaload, 1, []), (30, .aload_n 1, 1, []), (31, .getfield 9, 3, []), (34, .iload 4, 2, []), (36, .iaload, 1, []), (37, .if_icmp .eq 6, 3, [43]), (40, .iinc 3 1, 3, []), (43, .iinc 4 1, 3, []), (46, .goto (-41), 3, [5]), (49, .iload_n 3, 1, []), (50, .ireturn, 1, [])]
theorem tbX1_changesSince_ok : tbOK cX1_changesSince tbX1_changesSince = true := by decide +kernel
def tbX1_labelNumber : TB := [(0, .iconst 0, 1, []), (1, .istore_n 2, 1, []), (2, .iconst 0, 1, []), (3, .istore_n 3, 1, []), (4, .iload_n 3, 1, []), (5, .aload_n 0, 1, []), (6, .getfield 35, 3, []), (9, .invokevirtual 46, 3, []), (12, .if_icmp .ge 29, 3, [41]), (15, .aload_n 0, 1, []), (16, .getfield 9, 3, []), (19, .iload_n 3, 1, []), (20, .iaload, 1, []), (21, .iload_n 3, 1, []), (22, .if_icmp .ne 13, 3, [35]), (25, .iload_n 2, 1, []), (26, .iload_n 1, 1, []), (27, .if_icmp .ne 5, 3, [32]), (30, .iload_n 3, 1, []), (31, .ireturn, 1, []), (32, .iinc 2 1, 3, []), (35, .iinc 3 1, 3, []), (38, .goto (-34), 3, [4]), (41, .bipush (-5), 2, []), (43, .ireturn, 1, [])]
theorem tbX1_labelNumber_ok : tbOK cX1_labelNumber tbX1_labelNumber = true := by decide +kernel
def tbX1_greatestOf : TB := [(0, .bipush (-5), 2, []), (2, .istore_n 2, 1, []), (3, .iconst 0, 1, []), (4, .istore_n 3, 1, []), (5, .iload_n 3, 1, []), (6, .aload_n 0, 1, []), (7, .getfield 35, 3, []), (10, .invokevirtual 46, 3, []), (13, .if_icmp .ge 52, 3, [65]), (16, .aload_n 0, 1, []), (17, .getfield 9, 3, []), (20, .iload_n 3, 1, []), (21, .iaload, 1, []), (22, .iload_n 3, 1, []), (23, .if_icmp .ne 36, 3, [59]), (26, .aload_n 0, 1, []), (27, .getfield 39, 3, []), (30, .iload_n 3, 1, []), (31, .iaload, 1, []), (32, .iload_n 1, 1, []), (33, .if_icmp .ne 26, 3, [59]), (36, .iload_n 2, 1, []), (37, .bipush (-5), 2, []), (39, .if_icmp .eq 18, 3, [57]), (42, .aload_n 0, 1, []), (43, .getfield 15, 3, []), (46, .iload_n 3, 1, []), (47, .iaload, 1, []), (48, .aload_n 0, 1, []), (49, .getfield 15, 3, []), (52, .iload_n 2, 1, []), (53, .iaload, 1, []), (54, .if_icmp .le 5, 3, [59]), (57, .iload_n 3, 1, []), (58, .istore_n 2, 1, []), (59, .iinc 3 1, 3, []), (62, .goto (-57), 3, [5]), (65, .iload_n 2, 1, []), (66, .ireturn, 1, [])]
theorem tbX1_greatestOf_ok : tbOK cX1_greatestOf tbX1_greatestOf = true := by decide +kernel
def tbX1_property : TB := [(0, .iload_n 2, 1, []), (1, .tableswitch 95 0 6 #[43, 50, 57, 63, 69, 75, 89], 43, [96, 44, 51, 58, 64, 70, 76, 90]), (44, .aload_n 0, 1, []), (45, .getfield 39, 3, []), (48, .iload_n 1, 1, []), (49, .iaload, 1, []), (50, .ireturn, 1, []), (51, .aload_n 0, 1, []), (52, .getfield 15, 3, []), (55, .iload_n 1, 1, []), (56, .iaload, 1, []), (57, .ireturn, 1, []), (58, .aload_n 0, 1, []), (59, .iload_n 1, 1, []), (60, .invokevirtual 82, 3, []), (63, .ireturn, 1, []), (64, .aload_n 0, 1, []), (65, .iload_n 1, 1, []), (66, .invokevirtual 85, 3, []), (69, .ireturn, 1, []), (70, .aload_n 0, 1, []), (71, .iload_n 1, 1, []), (72, .invokevirtual 88, 3, []), (75, .ireturn, 1, []), (76, .aload_n 0, 1, []), (77, .iload_n 1, 1, []), (78, .invokevirtual 91, 3, []), (81, .ifCond .eq 7, 3, [88]), (84, .iconst 1, 1, []), (85, .goto 4, 3, [89]), (88, .iconst 0, 1, []), (89, .ireturn, 1, []), (90, .aload_n 0, 1, []), (91, .iload_n 1, 1, []), (92, .invokevirtual 95, 3, []), (95, .ireturn, 1, []), (96, .aload_n 0, 1, []), (97, .iload_n 1, 1, []), (98, .invokevirtual 98, 3, []), (101, .ireturn, 1, [])]
theorem tbX1_property_ok : tbOK cX1_property tbX1_property = true := by decide +kernel
def tbX1_leadsOut : TB := [(0, .aload_n 0, 1, []), (1, .getfield 35, 3, []), (4, .iload_n 1, 1, []), (5, .iload_n 2, 1, []), (6, .invokevirtual 75, 3, []), (9, .istore_n 3, 1, []), (10, .iload_n 3, 1, []), (11, .ifCond .lt 22, 3, [33]), (14, .aload_n 0, 1, []), (15, .getfield 9, 3, []), (18, .iload_n 3, 1, []), (19, .iaload, 1, []), (20, .aload_n 0, 1, []), (21, .getfield 9, 3, []), (24, .iload_n 1, 1, []), (25, .iaload, 1, []), (26, .if_icmp .eq 7, 3, [33]), (29, .iconst 1, 1, []), (30, .goto 4, 3, [34]), (33, .iconst 0, 1, []), (34, .ireturn, 1, [])]
theorem tbX1_leadsOut_ok : tbOK cX1_leadsOut tbX1_leadsOut = true := by decide +kernel
def tbX1_bordersToOthers : TB := [(0, .iconst 0, 1, []), (1, .istore_n 2, 1, []), (2, .iload_n 1, 1, []), (3, .istore_n 3, 1, []), (4, .iload_n 3, 1, []), (5, .aload_n 0, 1, []), (6, .getfield 35, 3, []), (9, .invokevirtual 46, 3, []), (12, .if_icmp .ge 47, 3, [59]), (15, .iconst 0, 1, []), (16, .istore 4, 2, []), (18, .iload 4, 2, []), (20, .iconst 4, 1, []), (21, .if_icmp .ge 32, 3, [53]), (24, .aload_n 0, 1, []), (25, .getfield 9, 3, []), (28, .iload_n 3, 1, []), (29, .iaload, 1, []), (30, .iload_n 1, 1, []), (31, .if_icmp .ne 16, 3, [47]), (34, .aload_n 0, 1, []), (35, .iload_n 3, 1, []), (36, .iload 4, 2, []), (38, .invokevirtual 101, 3, []), (41, .ifCond .eq 6, 3, [47]), (44, .iinc 2 1, 3, []), (47, .iinc 4 1, 3, []), (50, .goto (-32), 3, [18]), (53, .iinc 3 1, 3, []), (56, .goto (-52), 3, [4]), (59, .iload_n 2, 1, []), (60, .ireturn, 1, [])]
theorem tbX1_bordersToOthers_ok : tbOK cX1_bordersToOthers tbX1_bordersToOthers = true := by decide +kernel
def tbX1_bordersToNothing : TB := [(0, .iconst 0, 1, []), (1, .istore_n 2, 1, []), (2, .iload_n 1, 1, []), (3, .istore_n 3, 1, []), (4, .iload_n 3, 1, []), (5, .aload_n 0, 1, []), (6, .getfield 35, 3, []), (9, .invokevirtual 46, 3, []), (12, .if_icmp .ge 52, 3, [64]), (15, .iconst 0, 1, []), (16, .istore 4, 2, []), (18, .iload 4, 2, []), (20, .iconst 4, 1, []), (21, .if_icmp .ge 37, 3, [58]), (24, .aload_n 0, 1, []), (25, .getfield 9, 3, []), (28, .iload_n 3, 1, []), (29, .iaload, 1, []), (30, .iload_n 1, 1, []), (31, .if_icmp .ne 21, 3, [52]), (34, .aload_n 0, 1, []), (35, .getfield 35, 3, []), (38, .iload_n 3, 1, []), (39, .iload 4, 2, []), (41, .invokevirtual 75, 3, []), (44, .bipush (-5), 2, []), (46, .if_icmp .ne 6, 3, [52]), (49, .iinc 2 1, 3, []), (52, .iinc 4 1, 3, []), (55, .goto (-37), 3, [18]), (58, .iinc 3 1, 3, []), (61, .goto (-57), 3, [4]), (64, .iload_n 2, 1, []), (65, .ireturn, 1, [])]
theorem tbX1_bordersToNothing_ok : tbOK cX1_bordersToNothing tbX1_bordersToNothing = true := by decide +kernel
def tbX1_loopOver : TB := [(0, .aload_n 0, 1, []), (1, .getfield 35, 3, []), (4, .iload_n 1, 1, []), (5, .iload_n 2, 1, []), (6, .invokevirtual 75, 3, []), (9, .istore_n 3, 1, []), (10, .iload_n 3, 1, []), (11, .ifCond .lt 18, 3, [29]), (14, .aload_n 0, 1, []), (15, .getfield 9, 3, []), (18, .iload_n 3, 1, []), (19, .iaload, 1, []), (20, .aload_n 0, 1, []), (21, .getfield 9, 3, []), (24, .iload_n 1, 1, []), (25, .iaload, 1, []), (26, .if_icmp .eq 5, 3, [31]), (29, .iconst 0, 1, []), (30, .ireturn, 1, []), (31, .aload_n 0, 1, []), (32, .getfield 21, 3, []), (35, .iload_n 1, 1, []), (36, .iaload, 1, []), (37, .aload_n 0, 1, []), (38, .getfield 35, 3, []), (41, .iload_n 1, 1, []), (42, .iload_n 2, 1, []), (43, .invokevirtual 79, 3, []), (46, .ixor, 1, []), (47, .aload_n 0, 1, []), (48, .getfield 21, 3, []), (51, .iload_n 3, 1, []), (52, .iaload, 1, []), (53, .ixor, 1, []), (54, .ireturn, 1, [])]
theorem tbX1_loopOver_ok : tbOK cX1_loopOver tbX1_loopOver = true := by decide +kernel
def tbX1_loops : TB := [(0, .iconst 1, 1, []), (1, .istore_n 2, 1, []), (2, .iload_n 1, 1, []), (3, .istore_n 3, 1, []), (4, .iload_n 3, 1, []), (5, .aload_n 0, 1, []), (6, .getfield 35, 3, []), (9, .invokevirtual 46, 3, []), (12, .if_icmp .ge 48, 3, [60]), (15, .iconst 0, 1, []), (16, .istore 4, 2, []), (18, .iload 4, 2, []), (20, .iconst 4, 1, []), (21, .if_icmp .ge 33, 3, [54]), (24, .aload_n 0, 1, []), (25, .getfield 9, 3, []), (28, .iload_n 3, 1, []), (29, .iaload, 1, []), (30, .iload_n 1, 1, []), (31, .if_icmp .ne 17, 3, [48]), (34, .iload_n 2, 1, []), (35, .aload_n 0, 1, []), (36, .iload_n 3, 1, []), (37, .iload 4, 2, []), (39, .invokevirtual 105, 3, []), (42, .iconst 3, 1, []), (43, .iand, 1, []), (44, .invokestatic 108, 3, []), (47, .istore_n 2, 1, []), (48, .iinc 4 1, 3, []), (51, .goto (-33), 3, [18]), (54, .iinc 3 1, 3, []), (57, .goto (-53), 3, [4]), (60, .iload_n 2, 1, []), (61, .ireturn, 1, [])]
theorem tbX1_loops_ok : tbOK cX1_loops tbX1_loops = true := by decide +kernel
def tbX1_withLoop : TB := [(0, .iload_n 0, 1, []), (1, .istore_n 2, 1, []), (2, .iconst 0, 1, []), (3, .istore_n 3, 1, []), (4, .iload_n 3, 1, []), (5, .iconst 4, 1, []), (6, .if_icmp .ge 26, 3, [32]), (9, .iload_n 0, 1, []), (10, .iload_n 3, 1, []), (11, .ishr, 1, []), (12, .iconst 1, 1, []), (13, .iand, 1, []), (14, .iconst 1, 1, []), (15, .if_icmp .ne 11, 3, [26]), (18, .iload_n 2, 1, []), (19, .iconst 1, 1, []), (20, .iload_n 3, 1, []), (21, .iload_n 1, 1, []), (22, .ixor, 1, []), (23, .ishl, 1, []), (24, .ior, 1, []), (25, .istore_n 2, 1, []), (26, .iinc 3 1, 3, []), (29, .goto (-25), 3, [4]), (32, .iload_n 2, 1, []), (33, .ireturn, 1, [])]
theorem tbX1_withLoop_ok : tbOK cX1_withLoop tbX1_withLoop = true := by decide +kernel
def tbX1_isOneSided : TB := [(0, .iload_n 1, 1, []), (1, .istore_n 2, 1, []), (2, .iload_n 2, 1, []), (3, .aload_n 0, 1, []), (4, .getfield 35, 3, []), (7, .invokevirtual 46, 3, []), (10, .if_icmp .ge 45, 3, [55]), (13, .iconst 0, 1, []), (14, .istore_n 3, 1, []), (15, .iload_n 3, 1, []), (16, .iconst 4, 1, []), (17, .if_icmp .ge 32, 3, [49]), (20, .aload_n 0, 1, []), (21, .getfield 9, 3, []), (24, .iload_n 2, 1, []), (25, .iaload, 1, []), (26, .iload_n 1, 1, []), (27, .if_icmp .ne 16, 3, [43]), (30, .aload_n 0, 1, []), (31, .iload_n 2, 1, []), (32, .iload_n 3, 1, []), (33, .invokevirtual 105, 3, []), (36, .iconst 4, 1, []), (37, .iand, 1, []), (38, .ifCond .eq 5, 3, [43]), (41, .iconst 1, 1, []), (42, .ireturn, 1, []), (43, .iinc 3 1, 3, []), (46, .goto (-31), 3, [15]), (49, .iinc 2 1, 3, []), (52, .goto (-50), 3, [2]), (55, .iconst 0, 1, []), (56, .ireturn, 1, [])]
theorem tbX1_isOneSided_ok : tbOK cX1_isOneSided tbX1_isOneSided = true := by decide +kernel
def tbX1_partsBeside : TB := [(0, .iconst 0, 1, []), (1, .istore_n 2, 1, []), (2, .iload_n 2, 1, []), (3, .aload_n 0, 1, []), (4, .getfield 35, 3, []), (7, .invokevirtual 46, 3, []), (10, .if_icmp .ge 16, 3, [26]), (13, .aload_n 0, 1, []), (14, .getfield 24, 3, []), (17, .iload_n 2, 1, []), (18, .iconst 0, 1, []), (19, .bastore, 1, []), (20, .iinc 2 1, 3, []), (23, .goto (-21), 3, [2]), (26, .iconst 0, 1, []), (27, .istore_n 2, 1, []), (28, .iload_n 1, 1, []), (29, .istore_n 3, 1, []), (30, .iload_n 3, 1, []), (31, .aload_n 0, 1, []), (32, .getfield 35, 3, []), (35, .invokevirtual 46, 3, []), (38, .if_icmp .ge 64, 3, [102]), (41, .iconst 0, 1, []), (42, .istore 4, 2, []), (44, .iload 4, 2, []), (46, .iconst 4, 1, []), (47, .if_icmp .ge 49, 3, [96]), (50, .aload_n 0, 1, []), (51, .getfield 9, 3, []), (54, .iload_n 3, 1, []), (55, .iaload, 1, []), (56, .iload_n 1, 1, []), (57, .if_icmp .ne 33, 3, [90]), (60, .aload_n 0, 1, []), (61, .iload_n 3, 1, []), (62, .iload 4, 2, []), (64, .invokevirtual 101, 3, []), (67, .ifCond .eq 23, 3, [90]), (70, .aload_n 0, 1, []), (71, .aload_n 0, 1, []), (72, .getfield 35, 3, []), (75, .iload_n 3, 1, []), (76, .iload 4, 2, []), (78, .invokevirtual 75, 3, []), (81, .invokevirtual 111, 3, []), (84, .ifCond .eq 6, 3, [90]), (87, .iinc 2 1, 3, []), (90, .iinc 4 1, 3, []), (93, .goto (-49), 3, [44]), (96, .iinc 3 1, 3, []), (99, .goto (-69), 3, [30]), (102, .iload_n 2, 1, []), (103, .ireturn, 1, [])]
theorem tbX1_partsBeside_ok : tbOK cX1_partsBeside tbX1_partsBeside = true := by decide +kernel
def tbX1_isFirstMeeting : TB := [(0, .aload_n 0, 1, []), (1, .getfield 9, 3, []), (4, .iload_n 1, 1, []), (5, .iaload, 1, []), (6, .istore_n 2, 1, []), (7, .aload_n 0, 1, []), (8, .getfield 24, 3, []), (11, .iload_n 2, 1, []), (12, .baload, 1, []), (13, .ifCond .ne 7, 3, [20]), (16, .iconst 1, 1, []), (17, .goto 4, 3, [21]), (20, .iconst 0, 1, []), (21, .istore_n 3, 1, []), (22, .aload_n 0, 1, []), (23, .getfield 24, 3, []), (26, .iload_n 2, 1, []), (27, .iconst 1, 1, []), (28, .bastore, 1, []), (29, .iload_n 3, 1, []), (30, .ireturn, 1, [])]
theorem tbX1_isFirstMeeting_ok : tbOK cX1_isFirstMeeting tbX1_isFirstMeeting = true := by decide +kernel
def tbX1_greatestDepth : TB := [(0, .iconst 0, 1, []), (1, .istore_n 2, 1, []), (2, .iload_n 1, 1, []), (3, .istore_n 3, 1, []), (4, .iload_n 3, 1, []), (5, .aload_n 0, 1, []), (6, .getfield 35, 3, []), (9, .invokevirtual 46, 3, []), (12, .if_icmp .ge 36, 3, [48]), (15, .aload_n 0, 1, []), (16, .getfield 9, 3, []), (19, .iload_n 3, 1, []), (20, .iaload, 1, []), (21, .iload_n 1, 1, []), (22, .if_icmp .ne 20, 3, [42]), (25, .aload_n 0, 1, []), (26, .getfield 18, 3, []), (29, .iload_n 3, 1, []), (30, .iaload, 1, []), (31, .iload_n 2, 1, []), (32, .if_icmp .le 10, 3, [42]), (35, .aload_n 0, 1, []), (36, .getfield 18, 3, []), (39, .iload_n 3, 1, []), (40, .iaload, 1, []), (41, .istore_n 2, 1, []), (42, .iinc 3 1, 3, []), (45, .goto (-41), 3, [4]), (48, .iload_n 2, 1, []), (49, .ireturn, 1, [])]
theorem tbX1_greatestDepth_ok : tbOK cX1_greatestDepth tbX1_greatestDepth = true := by decide +kernel
def tbX2_style : TB := [(0, .aload_n 0, 1, []), (1, .getfield 9, 3, []), (4, .ireturn, 1, [])]
theorem tbX2_style_ok : tbOK cX2_style tbX2_style = true := by decide +kernel
def tbX2_offset : TB := [(0, .aload_n 0, 1, []), (1, .getfield 15, 3, []), (4, .ireturn, 1, [])]
theorem tbX2_offset_ok : tbOK cX2_offset tbX2_offset = true := by decide +kernel
def tbX2_change : TB := [(0, .aload_n 0, 1, []), (1, .getfield 9, 3, []), (4, .iload_n 1, 1, []), (5, .if_icmp .ne 11, 3, [16]), (8, .aload_n 0, 1, []), (9, .getfield 15, 3, []), (12, .iload_n 2, 1, []), (13, .if_icmp .eq 7, 3, [20]), (16, .iconst 1, 1, []), (17, .goto 4, 3, [21]), (20, .iconst 0, 1, []), (21, .istore_n 3, 1, []), (22, .aload_n 0, 1, []), (23, .iload_n 1, 1, []), (24, .putfield 9, 3, []), (27, .aload_n 0, 1, []), (28, .iload_n 2, 1, []), (29, .putfield 15, 3, []), (32, .iload_n 3, 1, []), (33, .ireturn, 1, [])]
theorem tbX2_change_ok : tbOK cX2_change tbX2_change = true := by decide +kernel
def tbX2_crossing : TB := [(0, .aload_n 0, 1, []), (1, .getfield 9, 3, []), (4, .iconst 2, 1, []), (5, .if_icmp .ne 9, 3, [14]), (8, .iload_n 1, 1, []), (9, .iconst 4, 1, []), (10, .ior, 1, []), (11, .goto 4, 3, [15]), (14, .iload_n 1, 1, []), (15, .ireturn, 1, [])]
theorem tbX2_crossing_ok : tbOK cX2_crossing tbX2_crossing = true := by decide +kernel
def tbX2_placeBeyond : TB := [(0, .aload_n 0, 1, []), (1, .getfield 9, 3, []), (4, .iconst 2, 1, []), (5, .if_icmp .ne 12, 3, [17]), (8, .aload_n 0, 1, []), (9, .getfield 15, 3, []), (12, .iload_n 1, 1, []), (13, .isub, 1, []), (14, .goto 9, 3, [23]), (17, .iload_n 1, 1, []), (18, .aload_n 0, 1, []), (19, .getfield 15, 3, []), (22, .iadd, 1, []), (23, .iload_n 2, 1, []), (24, .invokestatic 18, 3, []), (27, .ireturn, 1, [])]
theorem tbX2_placeBeyond_ok : tbOK cX2_placeBeyond tbX2_placeBeyond = true := by decide +kernel
def tbX2_modulo : TB := [(0, .iload_n 0, 1, []), (1, .ifCond .ge 7, 3, [8]), (4, .iload_n 0, 1, []), (5, .iload_n 1, 1, []), (6, .iadd, 1, []), (7, .ireturn, 1, []), (8, .iload_n 0, 1, []), (9, .iload_n 1, 1, []), (10, .if_icmp .ge 7, 3, [17]), (13, .iload_n 0, 1, []), (14, .goto 6, 3, [20]), (17, .iload_n 0, 1, []), (18, .iload_n 1, 1, []), (19, .isub, 1, []), (20, .ireturn, 1, [])]
theorem tbX2_modulo_ok : tbOK cX2_modulo tbX2_modulo = true := by decide +kernel
def tbX3_columns : TB := [(0, .aload_n 0, 1, []), (1, .getfield 28, 3, []), (4, .ireturn, 1, [])]
theorem tbX3_columns_ok : tbOK cX3_columns tbX3_columns = true := by decide +kernel
def tbX3_rows : TB := [(0, .aload_n 0, 1, []), (1, .getfield 32, 3, []), (4, .ireturn, 1, [])]
theorem tbX3_rows_ok : tbOK cX3_rows tbX3_rows = true := by decide +kernel
def tbX3_tiles : TB := [(0, .aload_n 0, 1, []), (1, .getfield 28, 3, []), (4, .aload_n 0, 1, []), (5, .getfield 32, 3, []), (8, .imul, 1, []), (9, .ireturn, 1, [])]
theorem tbX3_tiles_ok : tbOK cX3_tiles tbX3_tiles = true := by decide +kernel
def tbX3_sideSeam : TB := [(0, .aload_n 0, 1, []), (1, .getfield 12, 3, []), (4, .areturn, 1, [])]
theorem tbX3_sideSeam_ok : tbOK cX3_sideSeam tbX3_sideSeam = true := by decide +kernel
def tbX3_endSeam : TB := [(0, .aload_n 0, 1, []), (1, .getfield 18, 3, []), (4, .areturn, 1, [])]
theorem tbX3_endSeam_ok : tbOK cX3_endSeam tbX3_endSeam = true := by decide +kernel
def tbX3_has : TB := [(0, .iload_n 1, 1, []), (1, .ifCond .lt 15, 3, [16]), (4, .iload_n 1, 1, []), (5, .aload_n 0, 1, []), (6, .invokevirtual 35, 3, []), (9, .if_icmp .ge 7, 3, [16]), (12, .iconst 1, 1, []), (13, .goto 4, 3, [17]), (16, .iconst 0, 1, []), (17, .ireturn, 1, [])]
theorem tbX3_has_ok : tbOK cX3_has tbX3_has = true := by decide +kernel
def tbX3_next : TB := [(0, .aload_n 0, 1, []), (1, .getfield 21, 3, []), (4, .iload_n 1, 1, []), (5, .iconst 4, 1, []), (6, .imul, 1, []), (7, .iload_n 2, 1, []), (8, .iadd, 1, []), (9, .iaload, 1, []), (10, .ireturn, 1, [])]
theorem tbX3_next_ok : tbOK cX3_next tbX3_next = true := by decide +kernel
def tbX3_crossing : TB := [(0, .aload_n 0, 1, []), (1, .getfield 25, 3, []), (4, .iload_n 1, 1, []), (5, .iconst 4, 1, []), (6, .imul, 1, []), (7, .iload_n 2, 1, []), (8, .iadd, 1, []), (9, .iaload, 1, []), (10, .ireturn, 1, [])]
theorem tbX3_crossing_ok : tbOK cX3_crossing tbX3_crossing = true := by decide +kernel
def tbX3_openBorders : TB := [(0, .iconst 0, 1, []), (1, .istore_n 1, 1, []), (2, .iconst 0, 1, []), (3, .istore_n 2, 1, []), (4, .iload_n 2, 1, []), (5, .aload_n 0, 1, []), (6, .invokevirtual 35, 3, []), (9, .iconst 4, 1, []), (10, .imul, 1, []), (11, .if_icmp .ge 23, 3, [34]), (14, .aload_n 0, 1, []), (15, .getfield 21, 3, []), (18, .iload_n 2, 1, []), (19, .iaload, 1, []), (20, .bipush (-5), 2, []), (22, .if_icmp .eq 6, 3, [28]), (25, .iinc 1 1, 3, []), (28, .iinc 2 1, 3, []), (31, .goto (-27), 3, [4]), (34, .iload_n 1, 1, []), (35, .ireturn, 1, [])]
theorem tbX3_openBorders_ok : tbOK cX3_openBorders tbX3_openBorders = true := by decide +kernel
def tbX3_begin : TB := [(0, .aload_n 0, 1, []), (1, .iload_n 1, 1, []), (2, .putfield 28, 3, []), (5, .aload_n 0, 1, []), (6, .iload_n 2, 1, []), (7, .putfield 32, 3, []), (10, .aload_n 0, 1, []), (11, .getfield 12, 3, []), (14, .iconst 0, 1, []), (15, .iconst 0, 1, []), (16, .invokevirtual 39, 3, []), (19, .pop, 1, []), (20, .aload_n 0, 1, []), (21, .getfield 18, 3, []), (24, .iconst 0, 1, []), (25, .iconst 0, 1, []), (26, .invokevirtual 39, 3, []), (29, .pop, 1, []), (30, .aload_n 0, 1, []), (31, .invokevirtual 43, 3, []), (34, .return_, 1, [])]
theorem tbX3_begin_ok : tbOK cX3_begin tbX3_begin = true := by decide +kernel
def tbX3_changeSeam : TB := [(0, .iload_n 1, 1, []), (1, .ifCond .eq 10, 3, [11]), (4, .aload_n 0, 1, []), (5, .getfield 18, 3, []), (8, .goto 7, 3, [15]), (11, .aload_n 0, 1, []), (12, .getfield 12, 3, []), (15, .astore 4, 2, []), (17, .aload 4, 2, []), (19, .iload_n 2, 1, []), (20, .iload_n 3, 1, []), (21, .invokevirtual 39, 3, []), (24, .ifCond .ne 5, 3, [29]), (27, .iconst 0, 1, []), (28, .ireturn, 1, []), (29, .aload_n 0, 1, []), (30, .invokevirtual 43, 3, []), (33, .iconst 1, 1, []), (34, .ireturn, 1, [])]
theorem tbX3_changeSeam_ok : tbOK cX3_changeSeam tbX3_changeSeam = true := by decide +kernel
def tbX3_joinTiles : TB := [(0, .iconst 0, 1, []), (1, .istore_n 1, 1, []), (2, .iload_n 1, 1, []), (3, .aload_n 0, 1, []), (4, .invokevirtual 35, 3, []), (7, .iconst 4, 1, []), (8, .imul, 1, []), (9, .if_icmp .ge 24, 3, [33]), (12, .aload_n 0, 1, []), (13, .getfield 21, 3, []), (16, .iload_n 1, 1, []), (17, .bipush (-5), 2, []), (19, .iastore, 1, []), (20, .aload_n 0, 1, []), (21, .getfield 25, 3, []), (24, .iload_n 1, 1, []), (25, .iconst 0, 1, []), (26, .iastore, 1, []), (27, .iinc 1 1, 3, []), (30, .goto (-28), 3, [2]), (33, .aload_n 0, 1, []), (34, .invokevirtual 46, 3, []), (37, .aload_n 0, 1, []), (38, .invokevirtual 49, 3, []), (41, .aload_n 0, 1, []), (42, .invokevirtual 52, 3, []), (45, .return_, 1, [])]
theorem tbX3_joinTiles_ok : tbOK cX3_joinTiles tbX3_joinTiles = true := by decide +kernel
def tbX3_joinInside : TB := [(0, .iconst 0, 1, []), (1, .istore_n 1, 1, []), (2, .iload_n 1, 1, []), (3, .aload_n 0, 1, []), (4, .getfield 32, 3, []), (7, .if_icmp .ge 77, 3, [84]), (10, .iconst 0, 1, []), (11, .istore_n 2, 1, []), (12, .iload_n 2, 1, []), (13, .aload_n 0, 1, []), (14, .getfield 28, 3, []), (17, .if_icmp .ge 61, 3, [78]), (20, .iload_n 1, 1, []), (21, .aload_n 0, 1, []), (22, .getfield 28, 3, []), (25, .imul, 1, []), (26, .iload_n 2, 1, []), (27, .iadd, 1, []), (28, .istore_n 3, 1, []), (29, .iload_n 2, 1, []), (30, .aload_n 0, 1, []), (31, .getfield 28, 3, []), (34, .iconst 1, 1, []), (35, .isub, 1, []), (36, .if_icmp .ge 13, 3, [49]), (39, .aload_n 0, 1, []), (40, .iload_n 3, 1, []), (41, .iconst 0, 1, []), (42, .iload_n 3, 1, []), (43, .iconst 1, 1, []), (44, .iadd, 1, []), (45, .iconst 0, 1, []), (46, .invokevirtual 55, 3, []), (49, .iload_n 1, 1, []), (50, .aload_n 0, 1, []), (51, .getfield 32, 3, []), (54, .iconst 1, 1, []), (55, .isub, 1, []), (56, .if_icmp .ge 16, 3, [72]), (59, .aload_n 0, 1, []), (60, .iload_n 3, 1, []), (61, .iconst 1, 1, []), (62, .iload_n 3, 1, []), (63, .aload_n 0, 1, []), (64, .getfield 28, 3, []), (67, .iadd, 1, []), (68, .iconst 0, 1, []), (69, .invokevirtual 55, 3, []), (72, .iinc 2 1, 3, []), (75, .goto (-63), 3, [12]), (78, .iinc 1 1, 3, []), (81, .goto (-79), 3, [2]), (84, .return_, 1, [])]
theorem tbX3_joinInside_ok : tbOK cX3_joinInside tbX3_joinInside = true := by decide +kernel
def tbX3_joinSide : TB := [(0, .aload_n 0, 1, []), (1, .getfield 12, 3, []), (4, .invokevirtual 59, 3, []), (7, .ifCond .ne 4, 3, [11]), (10, .return_, 1, []), (11, .iconst 0, 1, []), (12, .istore_n 1, 1, []), (13, .iload_n 1, 1, []), (14, .aload_n 0, 1, []), (15, .getfield 32, 3, []), (18, .if_icmp .ge 56, 3, [74]), (21, .iload_n 1, 1, []), (22, .aload_n 0, 1, []), (23, .getfield 28, 3, []), (26, .imul, 1, []), (27, .aload_n 0, 1, []), (28, .getfield 28, 3, []), (31, .iadd, 1, []), (32, .iconst 1, 1, []), (33, .isub, 1, []), (34, .istore_n 2, 1, []), (35, .aload_n 0, 1, []), (36, .getfield 12, 3, []), (39, .iload_n 1, 1, []), (40, .aload_n 0, 1, []), (41, .getfield 32, 3, []), (44, .invokevirtual 62, 3, []), (47, .aload_n 0, 1, []), (48, .getfield 28, 3, []), (51, .imul, 1, []), (52, .istore_n 3, 1, []), (53, .aload_n 0, 1, []), (54, .iload_n 2, 1, []), (55, .iconst 0, 1, []), (56, .iload_n 3, 1, []), (57, .aload_n 0, 1, []), (58, .getfield 12, 3, []), (61, .iconst 1, 1, []), (62, .invokevirtual 66, 3, []), (65, .invokevirtual 55, 3, []), (68, .iinc 1 1, 3, []), (71, .goto (-58), 3, [13]), (74, .return_, 1, [])]
theorem tbX3_joinSide_ok : tbOK cX3_joinSide tbX3_joinSide = true := by decide +kernel
def tbX3_joinEnd : TB := [(0, .aload_n 0, 1, []), (1, .getfield 18, 3, []), (4, .invokevirtual 59, 3, []), (7, .ifCond .ne 4, 3, [11]), (10, .return_, 1, []), (11, .iconst 0, 1, []), (12, .istore_n 1, 1, []), (13, .iload_n 1, 1, []), (14, .aload_n 0, 1, []), (15, .getfield 28, 3, []), (18, .if_icmp .ge 51, 3, [69]), (21, .aload_n 0, 1, []), (22, .getfield 32, 3, []), (25, .iconst 1, 1, []), (26, .isub, 1, []), (27, .aload_n 0, 1, []), (28, .getfield 28, 3, []), (31, .imul, 1, []), (32, .iload_n 1, 1, []), (33, .iadd, 1, []), (34, .istore_n 2, 1, []), (35, .aload_n 0, 1, []), (36, .getfield 18, 3, []), (39, .iload_n 1, 1, []), (40, .aload_n 0, 1, []), (41, .getfield 28, 3, []), (44, .invokevirtual 62, 3, []), (47, .istore_n 3, 1, []), (48, .aload_n 0, 1, []), (49, .iload_n 2, 1, []), (50, .iconst 1, 1, []), (51, .iload_n 3, 1, []), (52, .aload_n 0, 1, []), (53, .getfield 18, 3, []), (56, .iconst 2, 1, []), (57, .invokevirtual 66, 3, []), (60, .invokevirtual 55, 3, []), (63, .iinc 1 1, 3, []), (66, .goto (-53), 3, [13]), (69, .return_, 1, [])]
theorem tbX3_joinEnd_ok : tbOK cX3_joinEnd tbX3_joinEnd = true := by decide +kernel
def tbX3_join : TB := [(0, .iload_n 1, 1, []), (1, .iconst 4, 1, []), (2, .imul, 1, []), (3, .iload_n 2, 1, []), (4, .iadd, 1, []), (5, .istore 5, 2, []), (7, .iload_n 3, 1, []), (8, .iconst 4, 1, []), (9, .imul, 1, []), (10, .iload_n 2, 1, []), (11, .ifCond .ne 7, 3, [18]), (14, .iconst 2, 1, []), (15, .goto 4, 3, [19]), (18, .iconst 3, 1, []), (19, .iadd, 1, []), (20, .istore 6, 2, []), (22, .aload_n 0, 1, []), (23, .getfield 21, 3, []), (26, .iload 5, 2, []), (28, .iload_n 3, 1, []), (29, .iastore, 1, []), (30, .aload_n 0, 1, []), (31, .getfield 21, 3, []), (34, .iload 6, 2, []), (36, .iload_n 1, 1, []), (37, .iastore, 1, []), (38, .aload_n 0, 1, []), (39, .getfield 25, 3, []), (42, .iload 5, 2, []), (44, .iload 4, 2, []), (46, .iastore, 1, []), (47, .aload_n 0, 1, []), (48, .getfield 25, 3, []), (51, .iload 6, 2, []), (53, .iload 4, 2, []), (55, .iastore, 1, []), (56, .return_, 1, [])]
theorem tbX3_join_ok : tbOK cX3_join tbX3_join = true := by decide +kernel
def tbX4_length : TB := [(0, .aload_n 0, 1, []), (1, .getfield 15, 3, []), (4, .ireturn, 1, [])]
theorem tbX4_length_ok : tbOK cX4_length tbX4_length = true := by decide +kernel
def tbX4_at : TB := [(0, .aload_n 0, 1, []), (1, .getfield 9, 3, []), (4, .iload_n 1, 1, []), (5, .caload, 1, []), (6, .ireturn, 1, [])]
theorem tbX4_at_ok : tbOK cX4_at tbX4_at = true := by decide +kernel
def tbX4_append : TB := [(0, .aload_n 0, 1, []), (1, .getfield 15, 3, []), (4, .sipush 160, 3, []), (7, .if_icmp .lt 6, 3, [13]), (10, .bipush (-3), 2, []), (12, .ireturn, 1, []), (13, .aload_n 0, 1, []), (14, .getfield 9, 3, []), (17, .aload_n 0, 1, []), (18, .getfield 15, 3, []), (21, .iload_n 1, 1, []), (22, .castore, 1, []), (23, .aload_n 0, 1, []), (24, .dup, 1, []), (25, .getfield 15, 3, []), (28, .iconst 1, 1, []), (29, .iadd, 1, []), (30, .putfield 15, 3, []), (33, .aload_n 0, 1, []), (34, .getfield 15, 3, []), (37, .ireturn, 1, [])]
theorem tbX4_append_ok : tbOK cX4_append tbX4_append = true := by decide +kernel
def tbX4_empty : TB := [(0, .aload_n 0, 1, []), (1, .getfield 15, 3, []), (4, .istore_n 1, 1, []), (5, .aload_n 0, 1, []), (6, .iconst 0, 1, []), (7, .putfield 15, 3, []), (10, .iload_n 1, 1, []), (11, .ireturn, 1, [])]
theorem tbX4_empty_ok : tbOK cX4_empty tbX4_empty = true := by decide +kernel
def tbX4_faultAsTiles : TB := [(0, .iload_n 2, 1, []), (1, .iload_n 1, 1, []), (2, .iconst 1, 1, []), (3, .iadd, 1, []), (4, .imul, 1, []), (5, .iconst 1, 1, []), (6, .isub, 1, []), (7, .istore_n 3, 1, []), (8, .iconst 0, 1, []), (9, .istore 4, 2, []), (11, .iconst 0, 1, []), (12, .istore 5, 2, []), (14, .iload 5, 2, []), (16, .aload_n 0, 1, []), (17, .getfield 15, 3, []), (20, .if_icmp .ge 58, 3, [78]), (23, .iload 5, 2, []), (25, .iload_n 3, 1, []), (26, .if_icmp .ge 27, 3, [53]), (29, .aload_n 0, 1, []), (30, .getfield 9, 3, []), (33, .iload 5, 2, []), (35, .caload, 1, []), (36, .iload 4, 2, []), (38, .iload_n 1, 1, []), (39, .if_icmp .ne 7, 3, [46]), (42, .iconst 1, 1, []), (43, .goto 4, 3, [47]), (46, .iconst 0, 1, []), (47, .invokestatic 19, 3, []), (50, .ifCond .ne 6, 3, [56]), (53, .iload 5, 2, []), (55, .ireturn, 1, []), (56, .iload 4, 2, []), (58, .iload_n 1, 1, []), (59, .if_icmp .ne 7, 3, [66]), (62, .iconst 0, 1, []), (63, .goto 7, 3, [70]), (66, .iload 4, 2, []), (68, .iconst 1, 1, []), (69, .iadd, 1, []), (70, .istore 4, 2, []), (72, .iinc 5 1, 3, []), (75, .goto (-61), 3, [14]), (78, .aload_n 0, 1, []), (79, .getfield 15, 3, []), (82, .iload_n 3, 1, []), (83, .if_icmp .ge 10, 3, [93]), (86, .aload_n 0, 1, []), (87, .getfield 15, 3, []), (90, .goto 4, 3, [94]), (93, .iconst (-1), 1, []), (94, .ireturn, 1, [])]
theorem tbX4_faultAsTiles_ok : tbOK cX4_faultAsTiles tbX4_faultAsTiles = true := by decide +kernel
def tbX4_isFitting : TB := [(0, .iload_n 1, 1, []), (1, .ifCond .eq 17, 3, [18]), (4, .iload_n 0, 1, []), (5, .bipush 47, 2, []), (7, .if_icmp .ne 7, 3, [14]), (10, .iconst 1, 1, []), (11, .goto 24, 3, [35]), (14, .iconst 0, 1, []), (15, .goto 20, 3, [35]), (18, .iload_n 0, 1, []), (19, .bipush 48, 2, []), (21, .if_icmp .lt 13, 3, [34]), (24, .iload_n 0, 1, []), (25, .bipush 53, 2, []), (27, .if_icmp .gt 7, 3, [34]), (30, .iconst 1, 1, []), (31, .goto 4, 3, [35]), (34, .iconst 0, 1, []), (35, .ireturn, 1, [])]
theorem tbX4_isFitting_ok : tbOK cX4_isFitting tbX4_isFitting = true := by decide +kernel
def tbX4_kindAt : TB := [(0, .aload_n 0, 1, []), (1, .getfield 9, 3, []), (4, .iload_n 2, 1, []), (5, .iload_n 3, 1, []), (6, .iconst 1, 1, []), (7, .iadd, 1, []), (8, .imul, 1, []), (9, .iload_n 1, 1, []), (10, .iadd, 1, []), (11, .caload, 1, []), (12, .bipush 48, 2, []), (14, .isub, 1, []), (15, .ireturn, 1, [])]
theorem tbX4_kindAt_ok : tbOK cX4_kindAt tbX4_kindAt = true := by decide +kernel
def tbX4_faultAsWalk : TB := [(0, .iconst 0, 1, []), (1, .istore_n 1, 1, []), (2, .iload_n 1, 1, []), (3, .aload_n 0, 1, []), (4, .getfield 15, 3, []), (7, .if_icmp .ge 36, 3, [43]), (10, .aload_n 0, 1, []), (11, .getfield 9, 3, []), (14, .iload_n 1, 1, []), (15, .caload, 1, []), (16, .istore_n 2, 1, []), (17, .iload_n 2, 1, []), (18, .bipush 102, 2, []), (20, .if_icmp .eq 17, 3, [37]), (23, .iload_n 2, 1, []), (24, .bipush 114, 2, []), (26, .if_icmp .eq 11, 3, [37]), (29, .iload_n 2, 1, []), (30, .bipush 108, 2, []), (32, .if_icmp .eq 5, 3, [37]), (35, .iload_n 1, 1, []), (36, .ireturn, 1, []), (37, .iinc 1 1, 3, []), (40, .goto (-38), 3, [2]), (43, .iconst (-1), 1, []), (44, .ireturn, 1, [])]
theorem tbX4_faultAsWalk_ok : tbOK cX4_faultAsWalk tbX4_faultAsWalk = true := by decide +kernel
def tbX5_number : TB := [(0, .aload_n 0, 1, []), (1, .getfield 15, 3, []), (4, .ireturn, 1, [])]
theorem tbX5_number_ok : tbOK cX5_number tbX5_number = true := by decide +kernel
def tbX5_at : TB := [(0, .aload_n 0, 1, []), (1, .getfield 9, 3, []), (4, .iload_n 1, 1, []), (5, .iaload, 1, []), (6, .ireturn, 1, [])]
theorem tbX5_at_ok : tbOK cX5_at tbX5_at = true := by decide +kernel
def tbX5_clear : TB := [(0, .aload_n 0, 1, []), (1, .iconst 0, 1, []), (2, .putfield 15, 3, []), (5, .return_, 1, [])]
theorem tbX5_clear_ok : tbOK cX5_clear tbX5_clear = true := by decide +kernel
def tbX5_add : TB := [(0, .aload_n 0, 1, []), (1, .getfield 15, 3, []), (4, .sipush 144, 3, []), (7, .if_icmp .ge 23, 3, [30]), (10, .aload_n 0, 1, []), (11, .getfield 9, 3, []), (14, .aload_n 0, 1, []), (15, .getfield 15, 3, []), (18, .iload_n 1, 1, []), (19, .iastore, 1, []), (20, .aload_n 0, 1, []), (21, .dup, 1, []), (22, .getfield 15, 3, []), (25, .iconst 1, 1, []), (26, .iadd, 1, []), (27, .putfield 15, 3, []), (30, .return_, 1, [])]
theorem tbX5_add_ok : tbOK cX5_add tbX5_add = true := by decide +kernel
def tbX5_takeOut : TB := [(0, .aload_n 0, 1, []), (1, .getfield 9, 3, []), (4, .iload_n 1, 1, []), (5, .iaload, 1, []), (6, .istore_n 2, 1, []), (7, .aload_n 0, 1, []), (8, .dup, 1, []), (9, .getfield 15, 3, []), (12, .iconst 1, 1, []), (13, .isub, 1, []), (14, .putfield 15, 3, []), (17, .aload_n 0, 1, []), (18, .getfield 9, 3, []), (21, .iload_n 1, 1, []), (22, .aload_n 0, 1, []), (23, .getfield 9, 3, []), (26, .aload_n 0, 1, []), (27, .getfield 15, 3, []), (30, .iaload, 1, []), (31, .iastore, 1, []), (32, .iload_n 2, 1, []), (33, .ireturn, 1, [])]
theorem tbX5_takeOut_ok : tbOK cX5_takeOut tbX5_takeOut = true := by decide +kernel
def tbX6_follow : TB := [(0, .aload_n 0, 1, []), (1, .iload_n 2, 1, []), (2, .iload_n 3, 1, []), (3, .invokevirtual 19, 3, []), (6, .iconst 1, 1, []), (7, .istore 4, 2, []), (9, .iconst 0, 1, []), (10, .istore 5, 2, []), (12, .iload 5, 2, []), (14, .aload_n 1, 1, []), (15, .invokevirtual 23, 3, []), (18, .if_icmp .ge 26, 3, [44]), (21, .iload 4, 2, []), (23, .ifCond .eq 21, 3, [44]), (26, .aload_n 0, 1, []), (27, .aload_n 1, 1, []), (28, .iload 5, 2, []), (30, .invokevirtual 29, 3, []), (33, .invokevirtual 33, 3, []), (36, .istore 4, 2, []), (38, .iinc 5 1, 3, []), (41, .goto (-29), 3, [12]), (44, .return_, 1, [])]
theorem tbX6_follow_ok : tbOK cX6_follow tbX6_follow = true := by decide +kernel
def tbX6_begin : TB := [(0, .iconst 0, 1, []), (1, .istore_n 3, 1, []), (2, .iload_n 3, 1, []), (3, .sipush 144, 3, []), (6, .if_icmp .ge 16, 3, [22]), (9, .aload_n 0, 1, []), (10, .getfield 9, 3, []), (13, .iload_n 3, 1, []), (14, .iconst 0, 1, []), (15, .bastore, 1, []), (16, .iinc 3 1, 3, []), (19, .goto (-17), 3, [2]), (22, .aload_n 0, 1, []), (23, .iload_n 2, 1, []), (24, .putfield 37, 3, []), (27, .aload_n 0, 1, []), (28, .iconst 0, 1, []), (29, .putfield 41, 3, []), (32, .aload_n 0, 1, []), (33, .iconst 0, 1, []), (34, .putfield 44, 3, []), (37, .aload_n 0, 1, []), (38, .iconst 0, 1, []), (39, .putfield 47, 3, []), (42, .aload_n 0, 1, []), (43, .iload_n 1, 1, []), (44, .invokevirtual 50, 3, []), (47, .return_, 1, [])]
theorem tbX6_begin_ok : tbOK cX6_begin tbX6_begin = true := by decide +kernel
def tbX6_obey : TB := [(0, .iload_n 1, 1, []), (1, .bipush 102, 2, []), (3, .if_icmp .ne 8, 3, [11]), (6, .aload_n 0, 1, []), (7, .invokevirtual 54, 3, []), (10, .ireturn, 1, []), (11, .aload_n 0, 1, []), (12, .iload_n 1, 1, []), (13, .bipush 114, 2, []), (15, .if_icmp .ne 7, 3, [22]), (18, .iconst 1, 1, []), (19, .goto 4, 3, [23]), (22, .iconst 0, 1, []), (23, .invokevirtual 58, 3, []), (26, .iconst 1, 1, []), (27, .ireturn, 1, [])]
theorem tbX6_obey_ok : tbOK cX6_obey tbX6_obey = true := by decide +kernel
def tbX6_step : TB := [(0, .aload_n 0, 1, []), (1, .getfield 15, 3, []), (4, .aload_n 0, 1, []), (5, .getfield 62, 3, []), (8, .aload_n 0, 1, []), (9, .getfield 37, 3, []), (12, .invokevirtual 65, 3, []), (15, .istore_n 1, 1, []), (16, .iload_n 1, 1, []), (17, .ifCond .ge 5, 3, [22]), (20, .iconst 0, 1, []), (21, .ireturn, 1, []), (22, .aload_n 0, 1, []), (23, .getfield 15, 3, []), (26, .aload_n 0, 1, []), (27, .getfield 62, 3, []), (30, .aload_n 0, 1, []), (31, .getfield 37, 3, []), (34, .invokevirtual 71, 3, []), (37, .iconst 4, 1, []), (38, .iand, 1, []), (39, .ifCond .eq 13, 3, [52]), (42, .aload_n 0, 1, []), (43, .iconst 1, 1, []), (44, .aload_n 0, 1, []), (45, .getfield 41, 3, []), (48, .isub, 1, []), (49, .putfield 41, 3, []), (52, .aload_n 0, 1, []), (53, .dup, 1, []), (54, .getfield 44, 3, []), (57, .iconst 1, 1, []), (58, .iadd, 1, []), (59, .putfield 44, 3, []), (62, .aload_n 0, 1, []), (63, .iload_n 1, 1, []), (64, .invokevirtual 50, 3, []), (67, .iconst 1, 1, []), (68, .ireturn, 1, [])]
theorem tbX6_step_ok : tbOK cX6_step tbX6_step = true := by decide +kernel
def tbX6_enter : TB := [(0, .aload_n 0, 1, []), (1, .iload_n 1, 1, []), (2, .putfield 62, 3, []), (5, .aload_n 0, 1, []), (6, .getfield 9, 3, []), (9, .iload_n 1, 1, []), (10, .baload, 1, []), (11, .ifCond .ne 20, 3, [31]), (14, .aload_n 0, 1, []), (15, .getfield 9, 3, []), (18, .iload_n 1, 1, []), (19, .iconst 1, 1, []), (20, .bastore, 1, []), (21, .aload_n 0, 1, []), (22, .dup, 1, []), (23, .getfield 47, 3, []), (26, .iconst 1, 1, []), (27, .iadd, 1, []), (28, .putfield 47, 3, []), (31, .return_, 1, [])]
theorem tbX6_enter_ok : tbOK cX6_enter tbX6_enter = true := by decide +kernel
def tbX6_turn : TB := [(0, .iload_n 1, 1, []), (1, .aload_n 0, 1, []), (2, .getfield 41, 3, []), (5, .ifCond .ne 7, 3, [12]), (8, .iconst 1, 1, []), (9, .goto 4, 3, [13]), (12, .iconst 0, 1, []), (13, .if_icmp .ne 7, 3, [20]), (16, .iconst 1, 1, []), (17, .goto 4, 3, [21]), (20, .iconst 0, 1, []), (21, .istore_n 2, 1, []), (22, .iload_n 2, 1, []), (23, .ifCond .eq 28, 3, [51]), (26, .aload_n 0, 1, []), (27, .aload_n 0, 1, []), (28, .getfield 37, 3, []), (31, .iconst 3, 1, []), (32, .if_icmp .ne 7, 3, [39]), (35, .iconst 0, 1, []), (36, .goto 9, 3, [45]), (39, .aload_n 0, 1, []), (40, .getfield 37, 3, []), (43, .iconst 1, 1, []), (44, .iadd, 1, []), (45, .putfield 37, 3, []), (48, .goto 24, 3, [72]), (51, .aload_n 0, 1, []), (52, .aload_n 0, 1, []), (53, .getfield 37, 3, []), (56, .ifCond .ne 7, 3, [63]), (59, .iconst 3, 1, []), (60, .goto 9, 3, [69]), (63, .aload_n 0, 1, []), (64, .getfield 37, 3, []), (67, .iconst 1, 1, []), (68, .isub, 1, []), (69, .putfield 37, 3, []), (72, .return_, 1, [])]
theorem tbX6_turn_ok : tbOK cX6_turn tbX6_turn = true := by decide +kernel
def tbX6_tell : TB := [(0, .iload_n 1, 1, []), (1, .tableswitch 51 0 3 #[31, 36, 41, 46], 31, [52, 32, 37, 42, 47]), (32, .aload_n 0, 1, []), (33, .getfield 62, 3, []), (36, .ireturn, 1, []), (37, .aload_n 0, 1, []), (38, .getfield 37, 3, []), (41, .ireturn, 1, []), (42, .aload_n 0, 1, []), (43, .getfield 41, 3, []), (46, .ireturn, 1, []), (47, .aload_n 0, 1, []), (48, .getfield 44, 3, []), (51, .ireturn, 1, []), (52, .aload_n 0, 1, []), (53, .getfield 47, 3, []), (56, .ireturn, 1, [])]
theorem tbX6_tell_ok : tbOK cX6_tell tbX6_tell = true := by decide +kernel
def tbX7_levelWeights : TB := [(0, .iconst 0, 1, []), (1, .istore_n 1, 1, []), (2, .iload_n 1, 1, []), (3, .bipush 6, 2, []), (5, .if_icmp .ge 16, 3, [21]), (8, .aload_n 0, 1, []), (9, .getfield 9, 3, []), (12, .iload_n 1, 1, []), (13, .iconst 1, 1, []), (14, .iastore, 1, []), (15, .iinc 1 1, 3, []), (18, .goto (-16), 3, [2]), (21, .return_, 1, [])]
theorem tbX7_levelWeights_ok : tbOK cX7_levelWeights tbX7_levelWeights = true := by decide +kernel
def tbX7_changeWeight : TB := [(0, .aload_n 0, 1, []), (1, .getfield 9, 3, []), (4, .iload_n 1, 1, []), (5, .iaload, 1, []), (6, .istore_n 3, 1, []), (7, .aload_n 0, 1, []), (8, .getfield 9, 3, []), (11, .iload_n 1, 1, []), (12, .iload_n 2, 1, []), (13, .iastore, 1, []), (14, .iload_n 3, 1, []), (15, .ireturn, 1, [])]
theorem tbX7_changeWeight_ok : tbOK cX7_changeWeight tbX7_changeWeight = true := by decide +kernel
def tbX7_lengthTo : TB := [(0, .aload_n 0, 1, []), (1, .getfield 15, 3, []), (4, .iload_n 1, 1, []), (5, .iaload, 1, []), (6, .ireturn, 1, [])]
theorem tbX7_lengthTo_ok : tbOK cX7_lengthTo tbX7_lengthTo = true := by decide +kernel
def tbX7_measureFrom : TB := [(0, .iconst 0, 1, []), (1, .istore_n 2, 1, []), (2, .iload_n 2, 1, []), (3, .aload_n 0, 1, []), (4, .getfield 25, 3, []), (7, .invokevirtual 32, 3, []), (10, .if_icmp .ge 17, 3, [27]), (13, .aload_n 0, 1, []), (14, .getfield 15, 3, []), (17, .iload_n 2, 1, []), (18, .bipush (-4), 2, []), (20, .iastore, 1, []), (21, .iinc 2 1, 3, []), (24, .goto (-22), 3, [2]), (27, .aload_n 0, 1, []), (28, .getfield 21, 3, []), (31, .invokevirtual 38, 3, []), (34, .aload_n 0, 1, []), (35, .iload_n 1, 1, []), (36, .iconst 0, 1, []), (37, .invokevirtual 41, 3, []), (40, .iconst 0, 1, []), (41, .istore_n 2, 1, []), (42, .iload_n 2, 1, []), (43, .sipush 144, 3, []), (46, .if_icmp .ge 27, 3, [73]), (49, .aload_n 0, 1, []), (50, .getfield 21, 3, []), (53, .invokevirtual 45, 3, []), (56, .ifCond .le 17, 3, [73]), (59, .aload_n 0, 1, []), (60, .aload_n 0, 1, []), (61, .invokevirtual 48, 3, []), (64, .invokevirtual 51, 3, []), (67, .iinc 2 1, 3, []), (70, .goto (-28), 3, [42]), (73, .return_, 1, [])]
theorem tbX7_measureFrom_ok : tbOK cX7_measureFrom tbX7_measureFrom = true := by decide +kernel
def tbX7_takeNearestOpen : TB := [(0, .iconst 0, 1, []), (1, .istore_n 1, 1, []), (2, .iconst 1, 1, []), (3, .istore_n 2, 1, []), (4, .iload_n 2, 1, []), (5, .aload_n 0, 1, []), (6, .getfield 21, 3, []), (9, .invokevirtual 45, 3, []), (12, .if_icmp .ge 40, 3, [52]), (15, .aload_n 0, 1, []), (16, .getfield 15, 3, []), (19, .aload_n 0, 1, []), (20, .getfield 21, 3, []), (23, .iload_n 2, 1, []), (24, .invokevirtual 55, 3, []), (27, .iaload, 1, []), (28, .aload_n 0, 1, []), (29, .getfield 15, 3, []), (32, .aload_n 0, 1, []), (33, .getfield 21, 3, []), (36, .iload_n 1, 1, []), (37, .invokevirtual 55, 3, []), (40, .iaload, 1, []), (41, .if_icmp .ge 5, 3, [46]), (44, .iload_n 2, 1, []), (45, .istore_n 1, 1, []), (46, .iinc 2 1, 3, []), (49, .goto (-45), 3, [4]), (52, .aload_n 0, 1, []), (53, .getfield 21, 3, []), (56, .iload_n 1, 1, []), (57, .invokevirtual 59, 3, []), (60, .ireturn, 1, [])]
theorem tbX7_takeNearestOpen_ok : tbOK cX7_takeNearestOpen tbX7_takeNearestOpen = true := by decide +kernel
def tbX7_spread : TB := [(0, .iconst 0, 1, []), (1, .istore_n 2, 1, []), (2, .iload_n 2, 1, []), (3, .iconst 4, 1, []), (4, .if_icmp .ge 41, 3, [45]), (7, .aload_n 0, 1, []), (8, .iload_n 1, 1, []), (9, .iload_n 2, 1, []), (10, .invokevirtual 62, 3, []), (13, .istore_n 3, 1, []), (14, .iload_n 3, 1, []), (15, .ifCond .le 24, 3, [39]), (18, .aload_n 0, 1, []), (19, .aload_n 0, 1, []), (20, .getfield 25, 3, []), (23, .iload_n 1, 1, []), (24, .iload_n 2, 1, []), (25, .invokevirtual 66, 3, []), (28, .aload_n 0, 1, []), (29, .getfield 15, 3, []), (32, .iload_n 1, 1, []), (33, .iaload, 1, []), (34, .iload_n 3, 1, []), (35, .iadd, 1, []), (36, .invokevirtual 41, 3, []), (39, .iinc 2 1, 3, []), (42, .goto (-40), 3, [2]), (45, .return_, 1, [])]
theorem tbX7_spread_ok : tbOK cX7_spread tbX7_spread = true := by decide +kernel
def tbX7_reach : TB := [(0, .aload_n 0, 1, []), (1, .getfield 15, 3, []), (4, .iload_n 1, 1, []), (5, .iaload, 1, []), (6, .bipush (-4), 2, []), (8, .if_icmp .ne 21, 3, [29]), (11, .aload_n 0, 1, []), (12, .getfield 15, 3, []), (15, .iload_n 1, 1, []), (16, .iload_n 2, 1, []), (17, .iastore, 1, []), (18, .aload_n 0, 1, []), (19, .getfield 21, 3, []), (22, .iload_n 1, 1, []), (23, .invokevirtual 69, 3, []), (26, .goto 20, 3, [46]), (29, .iload_n 2, 1, []), (30, .aload_n 0, 1, []), (31, .getfield 15, 3, []), (34, .iload_n 1, 1, []), (35, .iaload, 1, []), (36, .if_icmp .ge 10, 3, [46]), (39, .aload_n 0, 1, []), (40, .getfield 15, 3, []), (43, .iload_n 1, 1, []), (44, .iload_n 2, 1, []), (45, .iastore, 1, []), (46, .return_, 1, [])]
theorem tbX7_reach_ok : tbOK cX7_reach tbX7_reach = true := by decide +kernel
def tbX7_stepLength : TB := [(0, .aload_n 0, 1, []), (1, .getfield 25, 3, []), (4, .iload_n 1, 1, []), (5, .iload_n 2, 1, []), (6, .invokevirtual 66, 3, []), (9, .istore_n 3, 1, []), (10, .iload_n 3, 1, []), (11, .ifCond .ge 5, 3, [16]), (14, .iconst 0, 1, []), (15, .ireturn, 1, []), (16, .aload_n 0, 1, []), (17, .getfield 9, 3, []), (20, .aload_n 0, 1, []), (21, .getfield 29, 3, []), (24, .iload_n 1, 1, []), (25, .iaload, 1, []), (26, .iaload, 1, []), (27, .istore 4, 2, []), (29, .aload_n 0, 1, []), (30, .getfield 9, 3, []), (33, .aload_n 0, 1, []), (34, .getfield 29, 3, []), (37, .iload_n 3, 1, []), (38, .iaload, 1, []), (39, .iaload, 1, []), (40, .istore 5, 2, []), (42, .iload 4, 2, []), (44, .ifCond .eq 8, 3, [52]), (47, .iload 5, 2, []), (49, .ifCond .ne 7, 3, [56]), (52, .iconst 0, 1, []), (53, .goto 8, 3, [61]), (56, .iload 4, 2, []), (58, .iload 5, 2, []), (60, .iadd, 1, []), (61, .ireturn, 1, [])]
theorem tbX7_stepLength_ok : tbOK cX7_stepLength tbX7_stepLength = true := by decide +kernel
def tbX7_routeTile : TB := [(0, .iload_n 1, 1, []), (1, .istore 4, 2, []), (3, .iconst 0, 1, []), (4, .istore 5, 2, []), (6, .iload 4, 2, []), (8, .iload_n 2, 1, []), (9, .if_icmp .eq 31, 3, [40]), (12, .iload 5, 2, []), (14, .iload_n 3, 1, []), (15, .if_icmp .eq 25, 3, [40]), (18, .iload 5, 2, []), (20, .sipush 144, 3, []), (23, .if_icmp .ge 17, 3, [40]), (26, .aload_n 0, 1, []), (27, .iload 4, 2, []), (29, .invokevirtual 72, 3, []), (32, .istore 4, 2, []), (34, .iinc 5 1, 3, []), (37, .goto (-31), 3, [6]), (40, .iload_n 3, 1, []), (41, .iconst (-1), 1, []), (42, .if_icmp .ne 6, 3, [48]), (45, .iload 5, 2, []), (47, .ireturn, 1, []), (48, .iload 5, 2, []), (50, .iload_n 3, 1, []), (51, .if_icmp .ne 8, 3, [59]), (54, .iload 4, 2, []), (56, .goto 5, 3, [61]), (59, .bipush (-5), 2, []), (61, .ireturn, 1, [])]
theorem tbX7_routeTile_ok : tbOK cX7_routeTile tbX7_routeTile = true := by decide +kernel
def tbX7_nextOnRoute : TB := [(0, .iconst 0, 1, []), (1, .istore_n 2, 1, []), (2, .iload_n 2, 1, []), (3, .iconst 4, 1, []), (4, .if_icmp .ge 52, 3, [56]), (7, .aload_n 0, 1, []), (8, .iload_n 1, 1, []), (9, .iload_n 2, 1, []), (10, .invokevirtual 62, 3, []), (13, .istore_n 3, 1, []), (14, .iload_n 3, 1, []), (15, .ifCond .le 35, 3, [50]), (18, .aload_n 0, 1, []), (19, .getfield 25, 3, []), (22, .iload_n 1, 1, []), (23, .iload_n 2, 1, []), (24, .invokevirtual 66, 3, []), (27, .istore 4, 2, []), (29, .aload_n 0, 1, []), (30, .getfield 15, 3, []), (33, .iload 4, 2, []), (35, .iaload, 1, []), (36, .iload_n 3, 1, []), (37, .iadd, 1, []), (38, .aload_n 0, 1, []), (39, .getfield 15, 3, []), (42, .iload_n 1, 1, []), (43, .iaload, 1, []), (44, .if_icmp .ne 6, 3, [50]), (47, .iload 4, 2, []), (49, .ireturn, 1, []), (50, .iinc 2 1, 3, []), (53, .goto (-51), 3, [2]), (56, .iload_n 1, 1, []), (57, .ireturn, 1, [])]
theorem tbX7_nextOnRoute_ok : tbOK cX7_nextOnRoute tbX7_nextOnRoute = true := by decide +kernel
def tbX7_farthestTile : TB := [(0, .iload_n 1, 1, []), (1, .istore_n 2, 1, []), (2, .iconst 0, 1, []), (3, .istore_n 3, 1, []), (4, .iload_n 3, 1, []), (5, .aload_n 0, 1, []), (6, .getfield 25, 3, []), (9, .invokevirtual 32, 3, []), (12, .if_icmp .ge 26, 3, [38]), (15, .aload_n 0, 1, []), (16, .getfield 15, 3, []), (19, .iload_n 3, 1, []), (20, .iaload, 1, []), (21, .aload_n 0, 1, []), (22, .getfield 15, 3, []), (25, .iload_n 2, 1, []), (26, .iaload, 1, []), (27, .if_icmp .le 5, 3, [32]), (30, .iload_n 3, 1, []), (31, .istore_n 2, 1, []), (32, .iinc 3 1, 3, []), (35, .goto (-31), 3, [4]), (38, .iload_n 2, 1, []), (39, .ireturn, 1, [])]
theorem tbX7_farthestTile_ok : tbOK cX7_farthestTile tbX7_farthestTile = true := by decide +kernel
def tbX7_tilesUpTo : TB := [(0, .iconst 0, 1, []), (1, .istore_n 2, 1, []), (2, .iconst 0, 1, []), (3, .istore_n 3, 1, []), (4, .iload_n 3, 1, []), (5, .aload_n 0, 1, []), (6, .getfield 25, 3, []), (9, .invokevirtual 32, 3, []), (12, .if_icmp .ge 33, 3, [45]), (15, .aload_n 0, 1, []), (16, .getfield 15, 3, []), (19, .iload_n 3, 1, []), (20, .iaload, 1, []), (21, .bipush (-4), 2, []), (23, .if_icmp .eq 16, 3, [39]), (26, .aload_n 0, 1, []), (27, .getfield 15, 3, []), (30, .iload_n 3, 1, []), (31, .iaload, 1, []), (32, .iload_n 1, 1, []), (33, .if_icmp .gt 6, 3, [39]), (36, .iinc 2 1, 3, []), (39, .iinc 3 1, 3, []), (42, .goto (-38), 3, [4]), (45, .iload_n 2, 1, []), (46, .ireturn, 1, [])]
theorem tbX7_tilesUpTo_ok : tbOK cX7_tilesUpTo tbX7_tilesUpTo = true := by decide +kernel
def tbX7_nearestOf : TB := [(0, .bipush (-5), 2, []), (2, .istore_n 2, 1, []), (3, .iconst 0, 1, []), (4, .istore_n 3, 1, []), (5, .iload_n 3, 1, []), (6, .aload_n 0, 1, []), (7, .getfield 25, 3, []), (10, .invokevirtual 32, 3, []), (13, .if_icmp .ge 53, 3, [66]), (16, .aload_n 0, 1, []), (17, .getfield 29, 3, []), (20, .iload_n 3, 1, []), (21, .iaload, 1, []), (22, .iload_n 1, 1, []), (23, .if_icmp .ne 37, 3, [60]), (26, .aload_n 0, 1, []), (27, .getfield 15, 3, []), (30, .iload_n 3, 1, []), (31, .iaload, 1, []), (32, .bipush (-4), 2, []), (34, .if_icmp .eq 26, 3, [60]), (37, .iload_n 2, 1, []), (38, .bipush (-5), 2, []), (40, .if_icmp .eq 18, 3, [58]), (43, .aload_n 0, 1, []), (44, .getfield 15, 3, []), (47, .iload_n 3, 1, []), (48, .iaload, 1, []), (49, .aload_n 0, 1, []), (50, .getfield 15, 3, []), (53, .iload_n 2, 1, []), (54, .iaload, 1, []), (55, .if_icmp .ge 5, 3, [60]), (58, .iload_n 3, 1, []), (59, .istore_n 2, 1, []), (60, .iinc 3 1, 3, []), (63, .goto (-58), 3, [5]), (66, .iload_n 2, 1, []), (67, .ireturn, 1, [])]
theorem tbX7_nearestOf_ok : tbOK cX7_nearestOf tbX7_nearestOf = true := by decide +kernel
def tbX8_reset : TB := [(0, .iload_n 1, 1, []), (1, .invokestatic 66, 3, []), (4, .ifCond .eq 10, 3, [14]), (7, .iload_n 2, 1, []), (8, .invokestatic 66, 3, []), (11, .ifCond .ne 6, 3, [17]), (14, .bipush (-2), 2, []), (16, .ireturn, 1, []), (17, .aload_n 0, 1, []), (18, .iload_n 1, 1, []), (19, .iload_n 2, 1, []), (20, .invokevirtual 62, 3, []), (23, .aload_n 0, 1, []), (24, .getfield 12, 3, []), (27, .invokevirtual 70, 3, []), (30, .ireturn, 1, [])]
theorem tbX8_reset_ok : tbOK cX8_reset tbX8_reset = true := by decide +kernel
def tbX8_setSeam : TB := [(0, .iload_n 1, 1, []), (1, .ifCond .eq 13, 3, [14]), (4, .aload_n 0, 1, []), (5, .getfield 12, 3, []), (8, .invokevirtual 74, 3, []), (11, .goto 10, 3, [21]), (14, .aload_n 0, 1, []), (15, .getfield 12, 3, []), (18, .invokevirtual 77, 3, []), (21, .istore 4, 2, []), (23, .iload_n 2, 1, []), (24, .ifCond .lt 18, 3, [42]), (27, .iload_n 2, 1, []), (28, .iconst 2, 1, []), (29, .if_icmp .gt 13, 3, [42]), (32, .iload_n 3, 1, []), (33, .ifCond .lt 9, 3, [42]), (36, .iload_n 3, 1, []), (37, .iload 4, 2, []), (39, .if_icmp .lt 6, 3, [45]), (42, .bipush (-2), 2, []), (44, .ireturn, 1, []), (45, .aload_n 0, 1, []), (46, .getfield 12, 3, []), (49, .iload_n 1, 1, []), (50, .iload_n 2, 1, []), (51, .iload_n 3, 1, []), (52, .invokevirtual 80, 3, []), (55, .ifCond .ne 5, 3, [60]), (58, .iconst 0, 1, []), (59, .ireturn, 1, []), (60, .aload_n 0, 1, []), (61, .invokevirtual 84, 3, []), (64, .iconst 1, 1, []), (65, .ireturn, 1, [])]
theorem tbX8_setSeam_ok : tbOK cX8_setSeam tbX8_setSeam = true := by decide +kernel
def tbX8_value : TB := [(0, .iload_n 1, 1, []), (1, .tableswitch 135 0 8 #[51, 59, 67, 78, 89, 100, 111, 119, 127], 51, [136, 52, 60, 68, 79, 90, 101, 112, 120, 128]), (52, .aload_n 0, 1, []), (53, .getfield 12, 3, []), (56, .invokevirtual 74, 3, []), (59, .ireturn, 1, []), (60, .aload_n 0, 1, []), (61, .getfield 12, 3, []), (64, .invokevirtual 77, 3, []), (67, .ireturn, 1, []), (68, .aload_n 0, 1, []), (69, .getfield 12, 3, []), (72, .invokevirtual 87, 3, []), (75, .invokevirtual 91, 3, []), (78, .ireturn, 1, []), (79, .aload_n 0, 1, []), (80, .getfield 12, 3, []), (83, .invokevirtual 87, 3, []), (86, .invokevirtual 96, 3, []), (89, .ireturn, 1, []), (90, .aload_n 0, 1, []), (91, .getfield 12, 3, []), (94, .invokevirtual 99, 3, []), (97, .invokevirtual 91, 3, []), (100, .ireturn, 1, []), (101, .aload_n 0, 1, []), (102, .getfield 12, 3, []), (105, .invokevirtual 99, 3, []), (108, .invokevirtual 96, 3, []), (111, .ireturn, 1, []), (112, .aload_n 0, 1, []), (113, .getfield 55, 3, []), (116, .invokevirtual 102, 3, []), (119, .ireturn, 1, []), (120, .aload_n 0, 1, []), (121, .getfield 12, 3, []), (124, .invokevirtual 105, 3, []), (127, .ireturn, 1, []), (128, .aload_n 0, 1, []), (129, .getfield 48, 3, []), (132, .invokevirtual 108, 3, []), (135, .ireturn, 1, []), (136, .bipush (-2), 2, []), (138, .ireturn, 1, [])]
theorem tbX8_value_ok : tbOK cX8_value tbX8_value = true := by decide +kernel
def tbX8_kind : TB := [(0, .aload_n 0, 1, []), (1, .getfield 12, 3, []), (4, .iload_n 1, 1, []), (5, .invokevirtual 111, 3, []), (8, .ifCond .eq 12, 3, [20]), (11, .aload_n 0, 1, []), (12, .getfield 16, 3, []), (15, .iload_n 1, 1, []), (16, .iaload, 1, []), (17, .goto 4, 3, [21]), (20, .iconst (-1), 1, []), (21, .ireturn, 1, [])]
theorem tbX8_kind_ok : tbOK cX8_kind tbX8_kind = true := by decide +kernel
def tbX8_neighbour : TB := [(0, .aload_n 0, 1, []), (1, .getfield 12, 3, []), (4, .iload_n 1, 1, []), (5, .invokevirtual 111, 3, []), (8, .ifCond .ne 5, 3, [13]), (11, .iconst (-1), 1, []), (12, .ireturn, 1, []), (13, .iload_n 2, 1, []), (14, .invokestatic 114, 3, []), (17, .ifCond .ne 6, 3, [23]), (20, .bipush (-2), 2, []), (22, .ireturn, 1, []), (23, .aload_n 0, 1, []), (24, .getfield 12, 3, []), (27, .iload_n 1, 1, []), (28, .iload_n 2, 1, []), (29, .invokevirtual 117, 3, []), (32, .ireturn, 1, [])]
theorem tbX8_neighbour_ok : tbOK cX8_neighbour tbX8_neighbour = true := by decide +kernel
def tbX8_type : TB := [(0, .aload_n 0, 1, []), (1, .getfield 32, 3, []), (4, .iload_n 1, 1, []), (5, .invokevirtual 121, 3, []), (8, .ireturn, 1, [])]
theorem tbX8_type_ok : tbOK cX8_type tbX8_type = true := by decide +kernel
def tbX8_clearText : TB := [(0, .aload_n 0, 1, []), (1, .getfield 32, 3, []), (4, .invokevirtual 125, 3, []), (7, .ireturn, 1, [])]
theorem tbX8_clearText_ok : tbOK cX8_clearText tbX8_clearText = true := by decide +kernel
def tbX8_readTiles : TB := [(0, .aload_n 0, 1, []), (1, .getfield 32, 3, []), (4, .aload_n 0, 1, []), (5, .getfield 12, 3, []), (8, .invokevirtual 74, 3, []), (11, .aload_n 0, 1, []), (12, .getfield 12, 3, []), (15, .invokevirtual 77, 3, []), (18, .invokevirtual 128, 3, []), (21, .istore_n 1, 1, []), (22, .iload_n 1, 1, []), (23, .iconst (-1), 1, []), (24, .if_icmp .eq 8, 3, [32]), (27, .bipush (-100), 2, []), (29, .iload_n 1, 1, []), (30, .isub, 1, []), (31, .ireturn, 1, []), (32, .aload_n 0, 1, []), (33, .getfield 48, 3, []), (36, .aload_n 0, 1, []), (37, .getfield 16, 3, []), (40, .invokevirtual 131, 3, []), (43, .aload_n 0, 1, []), (44, .invokevirtual 135, 3, []), (47, .istore_n 2, 1, []), (48, .aload_n 0, 1, []), (49, .invokevirtual 84, 3, []), (52, .iload_n 2, 1, []), (53, .ireturn, 1, [])]
theorem tbX8_readTiles_ok : tbOK cX8_readTiles tbX8_readTiles = true := by decide +kernel
def tbX8_walk : TB := [(0, .aload_n 0, 1, []), (1, .getfield 12, 3, []), (4, .iload_n 1, 1, []), (5, .invokevirtual 111, 3, []), (8, .ifCond .ne 5, 3, [13]), (11, .iconst (-1), 1, []), (12, .ireturn, 1, []), (13, .iload_n 2, 1, []), (14, .invokestatic 114, 3, []), (17, .ifCond .eq 12, 3, [29]), (20, .iload_n 3, 1, []), (21, .ifCond .lt 8, 3, [29]), (24, .iload_n 3, 1, []), (25, .iconst 4, 1, []), (26, .if_icmp .le 6, 3, [32]), (29, .bipush (-2), 2, []), (31, .ireturn, 1, []), (32, .aload_n 0, 1, []), (33, .getfield 32, 3, []), (36, .invokevirtual 138, 3, []), (39, .istore 4, 2, []), (41, .iload 4, 2, []), (43, .iconst (-1), 1, []), (44, .if_icmp .eq 9, 3, [53]), (47, .bipush (-100), 2, []), (49, .iload 4, 2, []), (51, .isub, 1, []), (52, .ireturn, 1, []), (53, .aload_n 0, 1, []), (54, .getfield 41, 3, []), (57, .aload_n 0, 1, []), (58, .getfield 32, 3, []), (61, .iload_n 1, 1, []), (62, .iload_n 2, 1, []), (63, .invokevirtual 141, 3, []), (66, .aload_n 0, 1, []), (67, .getfield 41, 3, []), (70, .iload_n 3, 1, []), (71, .invokevirtual 145, 3, []), (74, .ireturn, 1, [])]
theorem tbX8_walk_ok : tbOK cX8_walk tbX8_walk = true := by decide +kernel
def tbX8_setTile : TB := [(0, .aload_n 0, 1, []), (1, .getfield 12, 3, []), (4, .iload_n 1, 1, []), (5, .invokevirtual 111, 3, []), (8, .ifCond .ne 5, 3, [13]), (11, .iconst (-1), 1, []), (12, .ireturn, 1, []), (13, .iload_n 2, 1, []), (14, .invokestatic 149, 3, []), (17, .ifCond .ne 6, 3, [23]), (20, .bipush (-2), 2, []), (22, .ireturn, 1, []), (23, .aload_n 0, 1, []), (24, .getfield 48, 3, []), (27, .aload_n 0, 1, []), (28, .getfield 16, 3, []), (31, .invokevirtual 131, 3, []), (34, .aload_n 0, 1, []), (35, .getfield 16, 3, []), (38, .iload_n 1, 1, []), (39, .iload_n 2, 1, []), (40, .iastore, 1, []), (41, .aload_n 0, 1, []), (42, .invokevirtual 84, 3, []), (45, .aload_n 0, 1, []), (46, .getfield 55, 3, []), (49, .aload_n 0, 1, []), (50, .getfield 59, 3, []), (53, .iload_n 1, 1, []), (54, .invokevirtual 152, 3, []), (57, .ireturn, 1, [])]
theorem tbX8_setTile_ok : tbOK cX8_setTile tbX8_setTile = true := by decide +kernel
def tbX8_fill : TB := [(0, .aload_n 0, 1, []), (1, .getfield 12, 3, []), (4, .iload_n 1, 1, []), (5, .invokevirtual 111, 3, []), (8, .ifCond .ne 5, 3, [13]), (11, .iconst (-1), 1, []), (12, .ireturn, 1, []), (13, .iload_n 2, 1, []), (14, .invokestatic 149, 3, []), (17, .ifCond .ne 6, 3, [23]), (20, .bipush (-2), 2, []), (22, .ireturn, 1, []), (23, .aload_n 0, 1, []), (24, .getfield 48, 3, []), (27, .aload_n 0, 1, []), (28, .getfield 16, 3, []), (31, .invokevirtual 131, 3, []), (34, .aload_n 0, 1, []), (35, .aload_n 0, 1, []), (36, .getfield 55, 3, []), (39, .iload_n 1, 1, []), (40, .invokevirtual 156, 3, []), (43, .iload_n 2, 1, []), (44, .invokevirtual 159, 3, []), (47, .aload_n 0, 1, []), (48, .invokevirtual 84, 3, []), (51, .aload_n 0, 1, []), (52, .getfield 55, 3, []), (55, .aload_n 0, 1, []), (56, .getfield 55, 3, []), (59, .iload_n 1, 1, []), (60, .invokevirtual 156, 3, []), (63, .invokevirtual 162, 3, []), (66, .ireturn, 1, [])]
theorem tbX8_fill_ok : tbOK cX8_fill tbX8_fill = true := by decide +kernel
def tbX8_undo : TB := [(0, .aload_n 0, 1, []), (1, .getfield 48, 3, []), (4, .invokevirtual 108, 3, []), (7, .ifCond .ne 6, 3, [13]), (10, .bipush (-5), 2, []), (12, .ireturn, 1, []), (13, .aload_n 0, 1, []), (14, .getfield 48, 3, []), (17, .aload_n 0, 1, []), (18, .getfield 16, 3, []), (21, .invokevirtual 165, 3, []), (24, .aload_n 0, 1, []), (25, .invokevirtual 84, 3, []), (28, .aload_n 0, 1, []), (29, .getfield 48, 3, []), (32, .invokevirtual 108, 3, []), (35, .ireturn, 1, [])]
theorem tbX8_undo_ok : tbOK cX8_undo tbX8_undo = true := by decide +kernel
def tbX8_label : TB := [(0, .aload_n 0, 1, []), (1, .getfield 12, 3, []), (4, .iload_n 1, 1, []), (5, .invokevirtual 111, 3, []), (8, .ifCond .eq 14, 3, [22]), (11, .aload_n 0, 1, []), (12, .getfield 55, 3, []), (15, .iload_n 1, 1, []), (16, .invokevirtual 156, 3, []), (19, .goto 4, 3, [23]), (22, .iconst (-1), 1, []), (23, .ireturn, 1, [])]
theorem tbX8_label_ok : tbOK cX8_label tbX8_label = true := by decide +kernel
def tbX8_part : TB := [(0, .iload_n 1, 1, []), (1, .ifCond .ge 8, 3, [9]), (4, .bipush (-2), 2, []), (6, .goto 11, 3, [17]), (9, .aload_n 0, 1, []), (10, .getfield 55, 3, []), (13, .iload_n 1, 1, []), (14, .invokevirtual 168, 3, []), (17, .ireturn, 1, [])]
theorem tbX8_part_ok : tbOK cX8_part tbX8_part = true := by decide +kernel
def tbX8_ofPart : TB := [(0, .aload_n 0, 1, []), (1, .getfield 12, 3, []), (4, .iload_n 1, 1, []), (5, .invokevirtual 111, 3, []), (8, .ifCond .eq 15, 3, [23]), (11, .aload_n 0, 1, []), (12, .getfield 55, 3, []), (15, .iload_n 1, 1, []), (16, .invokevirtual 156, 3, []), (19, .iload_n 1, 1, []), (20, .if_icmp .eq 5, 3, [25]), (23, .iconst (-1), 1, []), (24, .ireturn, 1, []), (25, .iload_n 2, 1, []), (26, .ifCond .lt 9, 3, [35]), (29, .iload_n 2, 1, []), (30, .bipush 7, 2, []), (32, .if_icmp .le 6, 3, [38]), (35, .bipush (-2), 2, []), (37, .ireturn, 1, []), (38, .aload_n 0, 1, []), (39, .getfield 55, 3, []), (42, .iload_n 1, 1, []), (43, .iload_n 2, 1, []), (44, .invokevirtual 171, 3, []), (47, .ireturn, 1, [])]
theorem tbX8_ofPart_ok : tbOK cX8_ofPart tbX8_ofPart = true := by decide +kernel
def tbX8_greatestPart : TB := [(0, .iload_n 1, 1, []), (1, .invokestatic 149, 3, []), (4, .ifCond .eq 14, 3, [18]), (7, .aload_n 0, 1, []), (8, .getfield 55, 3, []), (11, .iload_n 1, 1, []), (12, .invokevirtual 174, 3, []), (15, .goto 5, 3, [20]), (18, .bipush (-2), 2, []), (20, .ireturn, 1, [])]
theorem tbX8_greatestPart_ok : tbOK cX8_greatestPart tbX8_greatestPart = true := by decide +kernel
def tbX8_partsIf : TB := [(0, .aload_n 0, 1, []), (1, .getfield 12, 3, []), (4, .iload_n 1, 1, []), (5, .invokevirtual 111, 3, []), (8, .ifCond .ne 5, 3, [13]), (11, .iconst (-1), 1, []), (12, .ireturn, 1, []), (13, .iload_n 2, 1, []), (14, .invokestatic 149, 3, []), (17, .ifCond .ne 6, 3, [23]), (20, .bipush (-2), 2, []), (22, .ireturn, 1, []), (23, .aload_n 0, 1, []), (24, .getfield 16, 3, []), (27, .iload_n 1, 1, []), (28, .iaload, 1, []), (29, .istore_n 3, 1, []), (30, .aload_n 0, 1, []), (31, .getfield 16, 3, []), (34, .iload_n 1, 1, []), (35, .iload_n 2, 1, []), (36, .iastore, 1, []), (37, .aload_n 0, 1, []), (38, .getfield 59, 3, []), (41, .invokevirtual 177, 3, []), (44, .aload_n 0, 1, []), (45, .getfield 16, 3, []), (48, .iload_n 1, 1, []), (49, .iload_n 3, 1, []), (50, .iastore, 1, []), (51, .aload_n 0, 1, []), (52, .getfield 59, 3, []), (55, .invokevirtual 102, 3, []), (58, .ireturn, 1, [])]
theorem tbX8_partsIf_ok : tbOK cX8_partsIf tbX8_partsIf = true := by decide +kernel
def tbX8_setWeight : TB := [(0, .iload_n 1, 1, []), (1, .invokestatic 149, 3, []), (4, .ifCond .eq 13, 3, [17]), (7, .iload_n 2, 1, []), (8, .ifCond .lt 9, 3, [17]), (11, .iload_n 2, 1, []), (12, .bipush 9, 2, []), (14, .if_icmp .le 6, 3, [20]), (17, .bipush (-2), 2, []), (19, .ireturn, 1, []), (20, .aload_n 0, 1, []), (21, .getfield 25, 3, []), (24, .iload_n 1, 1, []), (25, .iload_n 2, 1, []), (26, .invokevirtual 180, 3, []), (29, .ireturn, 1, [])]
theorem tbX8_setWeight_ok : tbOK cX8_setWeight tbX8_setWeight = true := by decide +kernel
def tbX8_distance : TB := [(0, .aload_n 0, 1, []), (1, .getfield 12, 3, []), (4, .iload_n 1, 1, []), (5, .invokevirtual 111, 3, []), (8, .ifCond .eq 14, 3, [22]), (11, .aload_n 0, 1, []), (12, .getfield 12, 3, []), (15, .iload_n 2, 1, []), (16, .invokevirtual 111, 3, []), (19, .ifCond .ne 5, 3, [24]), (22, .iconst (-1), 1, []), (23, .ireturn, 1, []), (24, .aload_n 0, 1, []), (25, .getfield 25, 3, []), (28, .iload_n 1, 1, []), (29, .invokevirtual 183, 3, []), (32, .aload_n 0, 1, []), (33, .getfield 25, 3, []), (36, .iload_n 2, 1, []), (37, .invokevirtual 187, 3, []), (40, .ireturn, 1, [])]
theorem tbX8_distance_ok : tbOK cX8_distance tbX8_distance = true := by decide +kernel
def tbX8_route : TB := [(0, .aload_n 0, 1, []), (1, .getfield 12, 3, []), (4, .iload_n 1, 1, []), (5, .invokevirtual 111, 3, []), (8, .ifCond .eq 14, 3, [22]), (11, .aload_n 0, 1, []), (12, .getfield 12, 3, []), (15, .iload_n 2, 1, []), (16, .invokevirtual 111, 3, []), (19, .ifCond .ne 5, 3, [24]), (22, .iconst (-1), 1, []), (23, .ireturn, 1, []), (24, .iload_n 3, 1, []), (25, .iconst (-1), 1, []), (26, .if_icmp .ge 6, 3, [32]), (29, .bipush (-2), 2, []), (31, .ireturn, 1, []), (32, .aload_n 0, 1, []), (33, .getfield 25, 3, []), (36, .iload_n 2, 1, []), (37, .invokevirtual 183, 3, []), (40, .aload_n 0, 1, []), (41, .getfield 25, 3, []), (44, .iload_n 1, 1, []), (45, .invokevirtual 187, 3, []), (48, .bipush (-4), 2, []), (50, .if_icmp .ne 8, 3, [58]), (53, .bipush (-4), 2, []), (55, .goto 13, 3, [68]), (58, .aload_n 0, 1, []), (59, .getfield 25, 3, []), (62, .iload_n 1, 1, []), (63, .iload_n 2, 1, []), (64, .iload_n 3, 1, []), (65, .invokevirtual 190, 3, []), (68, .ireturn, 1, [])]
theorem tbX8_route_ok : tbOK cX8_route tbX8_route = true := by decide +kernel
def tbX8_farthest : TB := [(0, .aload_n 0, 1, []), (1, .getfield 12, 3, []), (4, .iload_n 1, 1, []), (5, .invokevirtual 111, 3, []), (8, .ifCond .ne 5, 3, [13]), (11, .iconst (-1), 1, []), (12, .ireturn, 1, []), (13, .aload_n 0, 1, []), (14, .getfield 25, 3, []), (17, .iload_n 1, 1, []), (18, .invokevirtual 183, 3, []), (21, .aload_n 0, 1, []), (22, .getfield 25, 3, []), (25, .iload_n 1, 1, []), (26, .invokevirtual 194, 3, []), (29, .ireturn, 1, [])]
theorem tbX8_farthest_ok : tbOK cX8_farthest tbX8_farthest = true := by decide +kernel
def tbX8_within : TB := [(0, .aload_n 0, 1, []), (1, .getfield 12, 3, []), (4, .iload_n 1, 1, []), (5, .invokevirtual 111, 3, []), (8, .ifCond .ne 5, 3, [13]), (11, .iconst (-1), 1, []), (12, .ireturn, 1, []), (13, .iload_n 2, 1, []), (14, .ifCond .ge 6, 3, [20]), (17, .bipush (-2), 2, []), (19, .ireturn, 1, []), (20, .aload_n 0, 1, []), (21, .getfield 25, 3, []), (24, .iload_n 1, 1, []), (25, .invokevirtual 183, 3, []), (28, .aload_n 0, 1, []), (29, .getfield 25, 3, []), (32, .iload_n 2, 1, []), (33, .invokevirtual 197, 3, []), (36, .ireturn, 1, [])]
theorem tbX8_within_ok : tbOK cX8_within tbX8_within = true := by decide +kernel
def tbX8_nearest : TB := [(0, .aload_n 0, 1, []), (1, .getfield 12, 3, []), (4, .iload_n 1, 1, []), (5, .invokevirtual 111, 3, []), (8, .ifCond .ne 5, 3, [13]), (11, .iconst (-1), 1, []), (12, .ireturn, 1, []), (13, .iload_n 2, 1, []), (14, .invokestatic 149, 3, []), (17, .ifCond .ne 6, 3, [23]), (20, .bipush (-2), 2, []), (22, .ireturn, 1, []), (23, .aload_n 0, 1, []), (24, .getfield 25, 3, []), (27, .iload_n 1, 1, []), (28, .invokevirtual 183, 3, []), (31, .aload_n 0, 1, []), (32, .getfield 25, 3, []), (35, .iload_n 2, 1, []), (36, .invokevirtual 200, 3, []), (39, .ireturn, 1, [])]
theorem tbX8_nearest_ok : tbOK cX8_nearest tbX8_nearest = true := by decide +kernel
def tbX8_isSize : TB := [(0, .iload_n 0, 1, []), (1, .iconst 3, 1, []), (2, .if_icmp .lt 13, 3, [15]), (5, .iload_n 0, 1, []), (6, .bipush 12, 2, []), (8, .if_icmp .gt 7, 3, [15]), (11, .iconst 1, 1, []), (12, .goto 4, 3, [16]), (15, .iconst 0, 1, []), (16, .ireturn, 1, [])]
theorem tbX8_isSize_ok : tbOK cX8_isSize tbX8_isSize = true := by decide +kernel
def tbX8_isKind : TB := [(0, .iload_n 0, 1, []), (1, .ifCond .lt 13, 3, [14]), (4, .iload_n 0, 1, []), (5, .bipush 6, 2, []), (7, .if_icmp .ge 7, 3, [14]), (10, .iconst 1, 1, []), (11, .goto 4, 3, [15]), (14, .iconst 0, 1, []), (15, .ireturn, 1, [])]
theorem tbX8_isKind_ok : tbOK cX8_isKind tbX8_isKind = true := by decide +kernel
def tbX8_isDirection : TB := [(0, .iload_n 0, 1, []), (1, .ifCond .lt 12, 3, [13]), (4, .iload_n 0, 1, []), (5, .iconst 4, 1, []), (6, .if_icmp .ge 7, 3, [13]), (9, .iconst 1, 1, []), (10, .goto 4, 3, [14]), (13, .iconst 0, 1, []), (14, .ireturn, 1, [])]
theorem tbX8_isDirection_ok : tbOK cX8_isDirection tbX8_isDirection = true := by decide +kernel
def tbX8_beginAnew : TB := [(0, .iconst 0, 1, []), (1, .istore_n 3, 1, []), (2, .iload_n 3, 1, []), (3, .sipush 144, 3, []), (6, .if_icmp .ge 16, 3, [22]), (9, .aload_n 0, 1, []), (10, .getfield 16, 3, []), (13, .iload_n 3, 1, []), (14, .iconst 0, 1, []), (15, .iastore, 1, []), (16, .iinc 3 1, 3, []), (19, .goto (-17), 3, [2]), (22, .aload_n 0, 1, []), (23, .getfield 12, 3, []), (26, .iload_n 1, 1, []), (27, .iload_n 2, 1, []), (28, .invokevirtual 203, 3, []), (31, .aload_n 0, 1, []), (32, .getfield 25, 3, []), (35, .invokevirtual 206, 3, []), (38, .aload_n 0, 1, []), (39, .getfield 48, 3, []), (42, .invokevirtual 209, 3, []), (45, .aload_n 0, 1, []), (46, .getfield 55, 3, []), (49, .invokevirtual 177, 3, []), (52, .return_, 1, [])]
theorem tbX8_beginAnew_ok : tbOK cX8_beginAnew tbX8_beginAnew = true := by decide +kernel
def tbX8_repairParts : TB := [(0, .aload_n 0, 1, []), (1, .getfield 55, 3, []), (4, .astore_n 1, 1, []), (5, .aload_n 0, 1, []), (6, .aload_n 0, 1, []), (7, .getfield 59, 3, []), (10, .putfield 55, 3, []), (13, .aload_n 0, 1, []), (14, .aload_n 1, 1, []), (15, .putfield 59, 3, []), (18, .aload_n 0, 1, []), (19, .getfield 55, 3, []), (22, .invokevirtual 177, 3, []), (25, .return_, 1, [])]
theorem tbX8_repairParts_ok : tbOK cX8_repairParts tbX8_repairParts = true := by decide +kernel
def tbX8_takeKindsFromText : TB := [(0, .iconst 0, 1, []), (1, .istore_n 1, 1, []), (2, .iconst 0, 1, []), (3, .istore_n 2, 1, []), (4, .iconst 0, 1, []), (5, .istore_n 3, 1, []), (6, .iload_n 3, 1, []), (7, .aload_n 0, 1, []), (8, .getfield 12, 3, []), (11, .invokevirtual 77, 3, []), (14, .if_icmp .ge 74, 3, [88]), (17, .iconst 0, 1, []), (18, .istore 4, 2, []), (20, .iload 4, 2, []), (22, .aload_n 0, 1, []), (23, .getfield 12, 3, []), (26, .invokevirtual 74, 3, []), (29, .if_icmp .ge 53, 3, [82]), (32, .aload_n 0, 1, []), (33, .getfield 32, 3, []), (36, .iload 4, 2, []), (38, .iload_n 3, 1, []), (39, .aload_n 0, 1, []), (40, .getfield 12, 3, []), (43, .invokevirtual 74, 3, []), (46, .invokevirtual 212, 3, []), (49, .istore 5, 2, []), (51, .aload_n 0, 1, []), (52, .getfield 16, 3, []), (55, .iload_n 2, 1, []), (56, .iaload, 1, []), (57, .iload 5, 2, []), (59, .if_icmp .eq 14, 3, [73]), (62, .aload_n 0, 1, []), (63, .getfield 16, 3, []), (66, .iload_n 2, 1, []), (67, .iload 5, 2, []), (69, .iastore, 1, []), (70, .iinc 1 1, 3, []), (73, .iinc 2 1, 3, []), (76, .iinc 4 1, 3, []), (79, .goto (-59), 3, [20]), (82, .iinc 3 1, 3, []), (85, .goto (-79), 3, [6]), (88, .iload_n 1, 1, []), (89, .ireturn, 1, [])]
theorem tbX8_takeKindsFromText_ok : tbOK cX8_takeKindsFromText tbX8_takeKindsFromText = true := by decide +kernel
def tbX8_giveKindToPart : TB := [(0, .iconst 0, 1, []), (1, .istore_n 3, 1, []), (2, .iload_n 3, 1, []), (3, .aload_n 0, 1, []), (4, .getfield 12, 3, []), (7, .invokevirtual 70, 3, []), (10, .if_icmp .ge 28, 3, [38]), (13, .aload_n 0, 1, []), (14, .getfield 55, 3, []), (17, .iload_n 3, 1, []), (18, .invokevirtual 156, 3, []), (21, .iload_n 1, 1, []), (22, .if_icmp .ne 10, 3, [32]), (25, .aload_n 0, 1, []), (26, .getfield 16, 3, []), (29, .iload_n 3, 1, []), (30, .iload_n 2, 1, []), (31, .iastore, 1, []), (32, .iinc 3 1, 3, []), (35, .goto (-33), 3, [2]), (38, .return_, 1, [])]
theorem tbX8_giveKindToPart_ok : tbOK cX8_giveKindToPart tbX8_giveKindToPart = true := by decide +kernel
def tbL_cell : TB := [(0, .iload_n 1, 1, []), (1, .aload_n 0, 1, []), (2, .arraylength, 1, []), (3, .if_icmp .ge 9, 3, [12]), (6, .aload_n 0, 1, []), (7, .iload_n 1, 1, []), (8, .iaload, 1, []), (9, .goto 11, 3, [20]), (12, .ldc 7, 2, []), (14, .iload_n 1, 1, []), (15, .imul, 1, []), (16, .sipush 173, 3, []), (19, .iadd, 1, []), (20, .ireturn, 1, [])]
theorem tbL_cell_ok : tbOK cL_cell tbL_cell = true := by decide +kernel
def tbL_low : TB := [(0, .iload_n 0, 1, []), (1, .ldc 8, 2, []), (3, .iand, 1, []), (4, .iload_n 1, 1, []), (5, .irem, 1, []), (6, .ireturn, 1, [])]
theorem tbL_low_ok : tbOK cL_low tbL_low = true := by decide +kernel
def tbL_steps : TB := [(0, .aload_n 0, 1, []), (1, .iconst 0, 1, []), (2, .invokevirtual 9, 3, []), (5, .aload_n 0, 1, []), (6, .iconst 1, 1, []), (7, .invokevirtual 9, 3, []), (10, .imul, 1, []), (11, .istore_n 1, 1, []), (12, .iconst 0, 1, []), (13, .istore_n 2, 1, []), (14, .iconst 0, 1, []), (15, .istore_n 3, 1, []), (16, .iload_n 3, 1, []), (17, .iload_n 1, 1, []), (18, .if_icmp .ge 85, 3, [103]), (21, .iconst 0, 1, []), (22, .istore 4, 2, []), (24, .iload 4, 2, []), (26, .iconst 4, 1, []), (27, .if_icmp .ge 70, 3, [97]), (30, .aload_n 0, 1, []), (31, .iload_n 3, 1, []), (32, .iload 4, 2, []), (34, .invokevirtual 15, 3, []), (37, .istore 5, 2, []), (39, .iload_n 2, 1, []), (40, .iload 5, 2, []), (42, .ifCond .lt 7, 3, [49]), (45, .iconst 1, 1, []), (46, .goto 4, 3, [50]), (49, .iconst 0, 1, []), (50, .iadd, 1, []), (51, .istore_n 2, 1, []), (52, .iload 5, 2, []), (54, .ifCond .lt 28, 3, [82]), (57, .iload 5, 2, []), (59, .iload_n 1, 1, []), (60, .if_icmp .ge 29, 3, [89]), (63, .aload_n 0, 1, []), (64, .iload 5, 2, []), (66, .iload 4, 2, []), (68, .iconst 2, 1, []), (69, .iadd, 1, []), (70, .iconst 4, 1, []), (71, .irem, 1, []), (72, .invokevirtual 15, 3, []), (75, .iload_n 3, 1, []), (76, .if_icmp .eq 15, 3, [91]), (79, .goto 10, 3, [89]), (82, .iload 5, 2, []), (84, .bipush (-5), 2, []), (86, .if_icmp .eq 5, 3, [91]), (89, .iconst 0, 1, []), (90, .ireturn, 1, []), (91, .iinc 4 1, 3, []), (94, .goto (-70), 3, [24]), (97, .iinc 3 1, 3, []), (100, .goto (-84), 3, [16]), (103, .iload_n 2, 1, []), (104, .aload_n 0, 1, []), (105, .bipush 7, 2, []), (107, .invokevirtual 9, 3, []), (110, .if_icmp .ne 7, 3, [117]), (113, .iconst 1, 1, []), (114, .goto 4, 3, [118]), (117, .iconst 0, 1, []), (118, .ireturn, 1, [])]
theorem tbL_steps_ok : tbOK cL_steps tbL_steps = true := by decide +kernel
def tbL_parts : TB := [(0, .aload_n 0, 1, []), (1, .iconst 0, 1, []), (2, .invokevirtual 9, 3, []), (5, .aload_n 0, 1, []), (6, .iconst 1, 1, []), (7, .invokevirtual 9, 3, []), (10, .imul, 1, []), (11, .istore_n 1, 1, []), (12, .aload_n 0, 1, []), (13, .bipush 6, 2, []), (15, .invokevirtual 9, 3, []), (18, .istore_n 2, 1, []), (19, .iconst 0, 1, []), (20, .istore_n 3, 1, []), (21, .iconst 0, 1, []), (22, .istore 4, 2, []), (24, .iconst 0, 1, []), (25, .istore 5, 2, []), (27, .iconst (-1), 1, []), (28, .istore 6, 2, []), (30, .iconst 0, 1, []), (31, .istore 7, 2, []), (33, .iload 7, 2, []), (35, .iload_n 2, 1, []), (36, .if_icmp .ge 337, 3, [373]), (39, .aload_n 0, 1, []), (40, .iload 7, 2, []), (42, .invokevirtual 19, 3, []), (45, .istore 8, 2, []), (47, .iload 8, 2, []), (49, .iload 6, 2, []), (51, .if_icmp .le 30, 3, [81]), (54, .aload_n 0, 1, []), (55, .iload 8, 2, []), (57, .invokevirtual 22, 3, []), (60, .iload 8, 2, []), (62, .if_icmp .ne 19, 3, [81]), (65, .aload_n 0, 1, []), (66, .iload 8, 2, []), (68, .invokevirtual 25, 3, []), (71, .aload_n 0, 1, []), (72, .iload 8, 2, []), (74, .iconst 0, 1, []), (75, .invokevirtual 28, 3, []), (78, .if_icmp .eq 5, 3, [83]), (81, .iconst 0, 1, []), (82, .ireturn, 1, []), (83, .iload 8, 2, []), (85, .istore 6, 2, []), (87, .iload_n 3, 1, []), (88, .aload_n 0, 1, []), (89, .iload 8, 2, []), (91, .iconst 1, 1, []), (92, .invokevirtual 28, 3, []), (95, .iadd, 1, []), (96, .istore_n 3, 1, []), (97, .iload 4, 2, []), (99, .aload_n 0, 1, []), (100, .iload 8, 2, []), (102, .iconst 2, 1, []), (103, .invokevirtual 28, 3, []), (106, .iadd, 1, []), (107, .istore 4, 2, []), (109, .iload 5, 2, []), (111, .aload_n 0, 1, []), (112, .iload 8, 2, []), (114, .iconst 3, 1, []), (115, .invokevirtual 28, 3, []), (118, .iadd, 1, []), (119, .istore 5, 2, []), (121, .aload_n 0, 1, []), (122, .iload 8, 2, []), (124, .iconst 4, 1, []), (125, .invokevirtual 28, 3, []), (128, .istore 9, 2, []), (130, .aload_n 0, 1, []), (131, .iload 8, 2, []), (133, .iconst 5, 1, []), (134, .invokevirtual 28, 3, []), (137, .istore 10, 2, []), (139, .iload 9, 2, []), (141, .iconst 1, 1, []), (142, .if_icmp .eq 29, 3, [171]), (145, .iload 9, 2, []), (147, .iconst 3, 1, []), (148, .if_icmp .eq 23, 3, [171]), (151, .iload 9, 2, []), (153, .iconst 5, 1, []), (154, .if_icmp .eq 17, 3, [171]), (157, .iload 9, 2, []), (159, .bipush 9, 2, []), (161, .if_icmp .eq 10, 3, [171]), (164, .iload 9, 2, []), (166, .bipush 15, 2, []), (168, .if_icmp .ne 7, 3, [175]), (171, .iconst 1, 1, []), (172, .goto 4, 3, [176]), (175, .iconst 0, 1, []), (176, .istore 11, 2, []), (178, .iload 9, 2, []), (180, .iconst 2, 1, []), (181, .iand, 1, []), (182, .ifCond .le 12, 3, [194]), (185, .aload_n 0, 1, []), (186, .iconst 2, 1, []), (187, .invokevirtual 9, 3, []), (190, .iconst 2, 1, []), (191, .if_icmp .eq 58, 3, [249]), (194, .iload 9, 2, []), (196, .iconst 4, 1, []), (197, .iand, 1, []), (198, .ifCond .le 12, 3, [210]), (201, .aload_n 0, 1, []), (202, .iconst 4, 1, []), (203, .invokevirtual 9, 3, []), (206, .iconst 2, 1, []), (207, .if_icmp .eq 42, 3, [249]), (210, .iload 9, 2, []), (212, .bipush 8, 2, []), (214, .iand, 1, []), (215, .ifCond .le 38, 3, [253]), (218, .aload_n 0, 1, []), (219, .iconst 2, 1, []), (220, .invokevirtual 9, 3, []), (223, .iconst 2, 1, []), (224, .if_icmp .ne 7, 3, [231]), (227, .iconst 1, 1, []), (228, .goto 4, 3, [232]), (231, .iconst 0, 1, []), (232, .aload_n 0, 1, []), (233, .iconst 4, 1, []), (234, .invokevirtual 9, 3, []), (237, .iconst 2, 1, []), (238, .if_icmp .ne 7, 3, [245]), (241, .iconst 1, 1, []), (242, .goto 4, 3, [246]), (245, .iconst 0, 1, []), (246, .if_icmp .eq 7, 3, [253]), (249, .iconst 1, 1, []), (250, .goto 4, 3, [254]), (253, .iconst 0, 1, []), (254, .istore 12, 2, []), (256, .aload_n 0, 1, []), (257, .iconst 2, 1, []), (258, .invokevirtual 9, 3, []), (261, .ifCond .gt 11, 3, [272]), (264, .iload 9, 2, []), (266, .bipush 10, 2, []), (268, .iand, 1, []), (269, .ifCond .ne 23, 3, [292]), (272, .aload_n 0, 1, []), (273, .iconst 4, 1, []), (274, .invokevirtual 9, 3, []), (277, .ifCond .gt 11, 3, [288]), (280, .iload 9, 2, []), (282, .bipush 12, 2, []), (284, .iand, 1, []), (285, .ifCond .ne 7, 3, [292]), (288, .iconst 1, 1, []), (289, .goto 4, 3, [293]), (292, .iconst 0, 1, []), (293, .istore 13, 2, []), (295, .iload 11, 2, []), (297, .ifCond .eq 68, 3, [365]), (300, .iload 10, 2, []), (302, .iload 12, 2, []), (304, .ifCond .eq 7, 3, [311]), (307, .iconst 1, 1, []), (308, .goto 4, 3, [312]), (311, .iconst 0, 1, []), (312, .if_icmp .ne 53, 3, [365]), (315, .iload 13, 2, []), (317, .ifCond .eq 48, 3, [365]), (320, .aload_n 0, 1, []), (321, .iload 8, 2, []), (323, .bipush 6, 2, []), (325, .invokevirtual 28, 3, []), (328, .iload_n 2, 1, []), (329, .iconst 1, 1, []), (330, .isub, 1, []), (331, .if_icmp .gt 34, 3, [365]), (334, .aload_n 0, 1, []), (335, .iload 8, 2, []), (337, .bipush 7, 2, []), (339, .invokevirtual 28, 3, []), (342, .aload_n 0, 1, []), (343, .iload 8, 2, []), (345, .iconst 1, 1, []), (346, .invokevirtual 28, 3, []), (349, .if_icmp .ge 16, 3, [365]), (352, .aload_n 0, 1, []), (353, .iload 8, 2, []), (355, .bipush 8, 2, []), (357, .invokevirtual 28, 3, []), (360, .bipush (-2), 2, []), (362, .if_icmp .eq 5, 3, [367]), (365, .iconst 0, 1, []), (366, .ireturn, 1, []), (367, .iinc 7 1, 3, []), (370, .goto (-337), 3, [33]), (373, .iconst 0, 1, []), (374, .istore 7, 2, []), (376, .iconst 0, 1, []), (377, .istore 8, 2, []), (379, .iconst 0, 1, []), (380, .istore 9, 2, []), (382, .iload 9, 2, []), (384, .iload_n 1, 1, []), (385, .if_icmp .ge 167, 3, [552]), (388, .aload_n 0, 1, []), (389, .iload 9, 2, []), (391, .invokevirtual 22, 3, []), (394, .istore 10, 2, []), (396, .iload 10, 2, []), (398, .iload 9, 2, []), (400, .if_icmp .gt 41, 3, [441]), (403, .iload 10, 2, []), (405, .ifCond .lt 36, 3, [441]), (408, .aload_n 0, 1, []), (409, .iload 10, 2, []), (411, .invokevirtual 25, 3, []), (414, .aload_n 0, 1, []), (415, .iload 9, 2, []), (417, .invokevirtual 25, 3, []), (420, .if_icmp .ne 21, 3, [441]), (423, .iload 10, 2, []), (425, .iload 9, 2, []), (427, .if_icmp .eq 16, 3, [443]), (430, .aload_n 0, 1, []), (431, .iload 9, 2, []), (433, .iconst 0, 1, []), (434, .invokevirtual 28, 3, []), (437, .iconst (-1), 1, []), (438, .if_icmp .eq 5, 3, [443]), (441, .iconst 0, 1, []), (442, .ireturn, 1, []), (443, .iconst 0, 1, []), (444, .istore 11, 2, []), (446, .iload 11, 2, []), (448, .iconst 4, 1, []), (449, .if_icmp .ge 97, 3, [546]), (452, .aload_n 0, 1, []), (453, .iload 9, 2, []), (455, .iload 11, 2, []), (457, .invokevirtual 15, 3, []), (460, .istore 12, 2, []), (462, .iload 8, 2, []), (464, .iload 12, 2, []), (466, .ifCond .ge 7, 3, [473]), (469, .iconst 1, 1, []), (470, .goto 4, 3, [474]), (473, .iconst 0, 1, []), (474, .iadd, 1, []), (475, .istore 8, 2, []), (477, .iload 7, 2, []), (479, .iload 12, 2, []), (481, .ifCond .lt 22, 3, [503]), (484, .aload_n 0, 1, []), (485, .iload 12, 2, []), (487, .invokevirtual 25, 3, []), (490, .aload_n 0, 1, []), (491, .iload 9, 2, []), (493, .invokevirtual 25, 3, []), (496, .if_icmp .eq 7, 3, [503]), (499, .iconst 1, 1, []), (500, .goto 4, 3, [504]), (503, .iconst 0, 1, []), (504, .iadd, 1, []), (505, .istore 7, 2, []), (507, .iload 12, 2, []), (509, .ifCond .lt 31, 3, [540]), (512, .aload_n 0, 1, []), (513, .iload 12, 2, []), (515, .invokevirtual 25, 3, []), (518, .aload_n 0, 1, []), (519, .iload 9, 2, []), (521, .invokevirtual 25, 3, []), (524, .if_icmp .ne 16, 3, [540]), (527, .aload_n 0, 1, []), (528, .iload 12, 2, []), (530, .invokevirtual 22, 3, []), (533, .iload 10, 2, []), (535, .if_icmp .eq 5, 3, [540]), (538, .iconst 0, 1, []), (539, .ireturn, 1, []), (540, .iinc 11 1, 3, []), (543, .goto (-97), 3, [446]), (546, .iinc 9 1, 3, []), (549, .goto (-167), 3, [382]), (552, .iload_n 3, 1, []), (553, .iload_n 1, 1, []), (554, .if_icmp .ne 41, 3, [595]), (557, .iload 4, 2, []), (559, .iload 7, 2, []), (561, .if_icmp .ne 34, 3, [595]), (564, .iload 5, 2, []), (566, .iload 8, 2, []), (568, .if_icmp .ne 27, 3, [595]), (571, .aload_n 0, 1, []), (572, .iload_n 2, 1, []), (573, .invokevirtual 19, 3, []), (576, .bipush (-5), 2, []), (578, .if_icmp .ne 17, 3, [595]), (581, .aload_n 0, 1, []), (582, .iconst (-1), 1, []), (583, .invokevirtual 19, 3, []), (586, .bipush (-2), 2, []), (588, .if_icmp .ne 7, 3, [595]), (591, .iconst 1, 1, []), (592, .goto 4, 3, [596]), (595, .iconst 0, 1, []), (596, .ireturn, 1, [])]
theorem tbL_parts_ok : tbOK cL_parts tbL_parts = true := by decide +kernel
def tbL_greatest : TB := [(0, .bipush (-5), 2, []), (2, .istore_n 2, 1, []), (3, .iconst 0, 1, []), (4, .istore_n 3, 1, []), (5, .iload_n 3, 1, []), (6, .aload_n 0, 1, []), (7, .bipush 6, 2, []), (9, .invokevirtual 9, 3, []), (12, .if_icmp .ge 50, 3, [62]), (15, .aload_n 0, 1, []), (16, .iload_n 3, 1, []), (17, .invokevirtual 19, 3, []), (20, .istore 4, 2, []), (22, .aload_n 0, 1, []), (23, .iload 4, 2, []), (25, .iconst 0, 1, []), (26, .invokevirtual 28, 3, []), (29, .iload_n 1, 1, []), (30, .if_icmp .ne 26, 3, [56]), (33, .iload_n 2, 1, []), (34, .ifCond .lt 19, 3, [53]), (37, .aload_n 0, 1, []), (38, .iload 4, 2, []), (40, .iconst 1, 1, []), (41, .invokevirtual 28, 3, []), (44, .aload_n 0, 1, []), (45, .iload_n 2, 1, []), (46, .iconst 1, 1, []), (47, .invokevirtual 28, 3, []), (50, .if_icmp .le 6, 3, [56]), (53, .iload 4, 2, []), (55, .istore_n 2, 1, []), (56, .iinc 3 1, 3, []), (59, .goto (-54), 3, [5]), (62, .aload_n 0, 1, []), (63, .iload_n 1, 1, []), (64, .invokevirtual 31, 3, []), (67, .iload_n 2, 1, []), (68, .if_icmp .ne 7, 3, [75]), (71, .iconst 1, 1, []), (72, .goto 4, 3, [76]), (75, .iconst 0, 1, []), (76, .ireturn, 1, [])]
theorem tbL_greatest_ok : tbOK cL_greatest tbL_greatest = true := by decide +kernel
def tbL_distances : TB := [(0, .aload_n 0, 1, []), (1, .iconst 0, 1, []), (2, .invokevirtual 9, 3, []), (5, .aload_n 0, 1, []), (6, .iconst 1, 1, []), (7, .invokevirtual 9, 3, []), (10, .imul, 1, []), (11, .istore 5, 2, []), (13, .aload_n 0, 1, []), (14, .iload_n 2, 1, []), (15, .iload_n 3, 1, []), (16, .invokevirtual 34, 3, []), (19, .istore 6, 2, []), (21, .aload_n 0, 1, []), (22, .iload_n 3, 1, []), (23, .iload_n 2, 1, []), (24, .invokevirtual 34, 3, []), (27, .iload 6, 2, []), (29, .if_icmp .ne 12, 3, [41]), (32, .aload_n 0, 1, []), (33, .iload_n 2, 1, []), (34, .iload_n 2, 1, []), (35, .invokevirtual 34, 3, []), (38, .ifCond .eq 5, 3, [43]), (41, .iconst 0, 1, []), (42, .ireturn, 1, []), (43, .iconst 0, 1, []), (44, .istore 7, 2, []), (46, .iload 7, 2, []), (48, .iconst 4, 1, []), (49, .if_icmp .ge 157, 3, [206]), (52, .aload_n 0, 1, []), (53, .iload_n 3, 1, []), (54, .iload 7, 2, []), (56, .invokevirtual 15, 3, []), (59, .istore 8, 2, []), (61, .iload 8, 2, []), (63, .ifCond .lt 28, 3, [91]), (66, .aload_n 1, 1, []), (67, .aload_n 0, 1, []), (68, .iload_n 3, 1, []), (69, .invokevirtual 25, 3, []), (72, .iaload, 1, []), (73, .ifCond .le 18, 3, [91]), (76, .aload_n 1, 1, []), (77, .aload_n 0, 1, []), (78, .iload 8, 2, []), (80, .invokevirtual 25, 3, []), (83, .iaload, 1, []), (84, .ifCond .le 7, 3, [91]), (87, .iconst 1, 1, []), (88, .goto 4, 3, [92]), (91, .iconst 0, 1, []), (92, .istore 9, 2, []), (94, .iload 9, 2, []), (96, .ifCond .eq 13, 3, [109]), (99, .aload_n 0, 1, []), (100, .iload_n 2, 1, []), (101, .iload 8, 2, []), (103, .invokevirtual 34, 3, []), (106, .goto 5, 3, [111]), (109, .bipush (-4), 2, []), (111, .istore 10, 2, []), (113, .iload 9, 2, []), (115, .ifCond .eq 22, 3, [137]), (118, .aload_n 1, 1, []), (119, .aload_n 0, 1, []), (120, .iload_n 3, 1, []), (121, .invokevirtual 25, 3, []), (124, .iaload, 1, []), (125, .aload_n 1, 1, []), (126, .aload_n 0, 1, []), (127, .iload 8, 2, []), (129, .invokevirtual 25, 3, []), (132, .iaload, 1, []), (133, .iadd, 1, []), (134, .goto 4, 3, [138]), (137, .iconst 0, 1, []), (138, .istore 11, 2, []), (140, .iload 9, 2, []), (142, .ifCond .eq 26, 3, [168]), (145, .iload 6, 2, []), (147, .ifCond .ge 7, 3, [154]), (150, .iconst 1, 1, []), (151, .goto 4, 3, [155]), (154, .iconst 0, 1, []), (155, .iload 10, 2, []), (157, .ifCond .ge 7, 3, [164]), (160, .iconst 1, 1, []), (161, .goto 4, 3, [165]), (164, .iconst 0, 1, []), (165, .if_icmp .ne 33, 3, [198]), (168, .iload 9, 2, []), (170, .ifCond .eq 30, 3, [200]), (173, .iload 6, 2, []), (175, .ifCond .lt 25, 3, [200]), (178, .iload 10, 2, []), (180, .iload 6, 2, []), (182, .iload 11, 2, []), (184, .iadd, 1, []), (185, .if_icmp .gt 13, 3, [198]), (188, .iload 6, 2, []), (190, .iload 10, 2, []), (192, .iload 11, 2, []), (194, .iadd, 1, []), (195, .if_icmp .le 5, 3, [200]), (198, .iconst 0, 1, []), (199, .ireturn, 1, []), (200, .iinc 7 1, 3, []), (203, .goto (-157), 3, [46]), (206, .aload_n 0, 1, []), (207, .iload_n 2, 1, []), (208, .iload_n 3, 1, []), (209, .iconst (-1), 1, []), (210, .invokevirtual 37, 3, []), (213, .istore 7, 2, []), (215, .iload 6, 2, []), (217, .ifCond .ge 48, 3, [265]), (220, .iload 6, 2, []), (222, .bipush (-4), 2, []), (224, .if_icmp .ne 39, 3, [263]), (227, .iload 7, 2, []), (229, .bipush (-4), 2, []), (231, .if_icmp .ne 32, 3, [263]), (234, .aload_n 0, 1, []), (235, .iload_n 2, 1, []), (236, .iload_n 3, 1, []), (237, .iconst 0, 1, []), (238, .invokevirtual 37, 3, []), (241, .bipush (-4), 2, []), (243, .if_icmp .ne 20, 3, [263]), (246, .aload_n 0, 1, []), (247, .iload_n 2, 1, []), (248, .iload_n 3, 1, []), (249, .bipush (-2), 2, []), (251, .invokevirtual 37, 3, []), (254, .bipush (-2), 2, []), (256, .if_icmp .ne 7, 3, [263]), (259, .iconst 1, 1, []), (260, .goto 4, 3, [264]), (263, .iconst 0, 1, []), (264, .ireturn, 1, []), (265, .iconst 0, 1, []), (266, .istore 8, 2, []), (268, .iconst 0, 1, []), (269, .istore 9, 2, []), (271, .iload 9, 2, []), (273, .iload 7, 2, []), (275, .if_icmp .ge 206, 3, [481]), (278, .aload_n 0, 1, []), (279, .iload_n 2, 1, []), (280, .iload_n 3, 1, []), (281, .iload 9, 2, []), (283, .invokevirtual 37, 3, []), (286, .istore 10, 2, []), (288, .aload_n 0, 1, []), (289, .iload_n 2, 1, []), (290, .iload_n 3, 1, []), (291, .iload 9, 2, []), (293, .iconst 1, 1, []), (294, .iadd, 1, []), (295, .invokevirtual 37, 3, []), (298, .istore 11, 2, []), (300, .aload_n 1, 1, []), (301, .aload_n 0, 1, []), (302, .iload 10, 2, []), (304, .invokevirtual 25, 3, []), (307, .iaload, 1, []), (308, .aload_n 1, 1, []), (309, .aload_n 0, 1, []), (310, .iload 11, 2, []), (312, .invokevirtual 25, 3, []), (315, .iaload, 1, []), (316, .iadd, 1, []), (317, .istore 12, 2, []), (319, .iconst 0, 1, []), (320, .istore 13, 2, []), (322, .iconst 0, 1, []), (323, .istore 14, 2, []), (325, .iload 14, 2, []), (327, .iconst 4, 1, []), (328, .if_icmp .ge 113, 3, [441]), (331, .aload_n 0, 1, []), (332, .iload 10, 2, []), (334, .iload 14, 2, []), (336, .invokevirtual 15, 3, []), (339, .istore 15, 2, []), (341, .iload 15, 2, []), (343, .ifCond .lt 53, 3, [396]), (346, .aload_n 1, 1, []), (347, .aload_n 0, 1, []), (348, .iload 15, 2, []), (350, .invokevirtual 25, 3, []), (353, .iaload, 1, []), (354, .ifCond .le 42, 3, [396]), (357, .aload_n 0, 1, []), (358, .iload 15, 2, []), (360, .iload_n 3, 1, []), (361, .invokevirtual 34, 3, []), (364, .aload_n 1, 1, []), (365, .aload_n 0, 1, []), (366, .iload 15, 2, []), (368, .invokevirtual 25, 3, []), (371, .iaload, 1, []), (372, .iadd, 1, []), (373, .aload_n 1, 1, []), (374, .aload_n 0, 1, []), (375, .iload 10, 2, []), (377, .invokevirtual 25, 3, []), (380, .iaload, 1, []), (381, .iadd, 1, []), (382, .aload_n 0, 1, []), (383, .iload 10, 2, []), (385, .iload_n 3, 1, []), (386, .invokevirtual 34, 3, []), (389, .if_icmp .ne 7, 3, [396]), (392, .iconst 1, 1, []), (393, .goto 4, 3, [397]), (396, .iconst 0, 1, []), (397, .istore 16, 2, []), (399, .iload 16, 2, []), (401, .ifCond .eq 17, 3, [418]), (404, .iload 13, 2, []), (406, .ifCond .ne 12, 3, [418]), (409, .iload 15, 2, []), (411, .iload 11, 2, []), (413, .if_icmp .eq 5, 3, [418]), (416, .iconst 0, 1, []), (417, .ireturn, 1, []), (418, .iload 13, 2, []), (420, .ifCond .ne 8, 3, [428]), (423, .iload 16, 2, []), (425, .ifCond .eq 7, 3, [432]), (428, .iconst 1, 1, []), (429, .goto 4, 3, [433]), (432, .iconst 0, 1, []), (433, .istore 13, 2, []), (435, .iinc 14 1, 3, []), (438, .goto (-113), 3, [325]), (441, .iload 8, 2, []), (443, .iload 12, 2, []), (445, .iadd, 1, []), (446, .istore 8, 2, []), (448, .iload 13, 2, []), (450, .ifCond .eq 23, 3, [473]), (453, .aload_n 0, 1, []), (454, .iload 10, 2, []), (456, .iload_n 3, 1, []), (457, .invokevirtual 34, 3, []), (460, .aload_n 0, 1, []), (461, .iload 11, 2, []), (463, .iload_n 3, 1, []), (464, .invokevirtual 34, 3, []), (467, .iload 12, 2, []), (469, .iadd, 1, []), (470, .if_icmp .eq 5, 3, [475]), (473, .iconst 0, 1, []), (474, .ireturn, 1, []), (475, .iinc 9 1, 3, []), (478, .goto (-207), 3, [271]), (481, .aload_n 0, 1, []), (482, .iload_n 2, 1, []), (483, .invokevirtual 41, 3, []), (486, .istore 9, 2, []), (488, .aload_n 0, 1, []), (489, .iload_n 2, 1, []), (490, .iload 9, 2, []), (492, .invokevirtual 34, 3, []), (495, .istore 10, 2, []), (497, .iconst 0, 1, []), (498, .istore 11, 2, []), (500, .iload 4, 2, []), (502, .bipush 6, 2, []), (504, .invokestatic 44, 3, []), (507, .istore 12, 2, []), (509, .bipush (-5), 2, []), (511, .istore 13, 2, []), (513, .iconst 0, 1, []), (514, .istore 14, 2, []), (516, .iload 14, 2, []), (518, .iload 5, 2, []), (520, .if_icmp .ge 105, 3, [625]), (523, .aload_n 0, 1, []), (524, .iload_n 2, 1, []), (525, .iload 14, 2, []), (527, .invokevirtual 34, 3, []), (530, .istore 15, 2, []), (532, .iload 11, 2, []), (534, .iload 15, 2, []), (536, .ifCond .lt 14, 3, [550]), (539, .iload 15, 2, []), (541, .iload 6, 2, []), (543, .if_icmp .gt 7, 3, [550]), (546, .iconst 1, 1, []), (547, .goto 4, 3, [551]), (550, .iconst 0, 1, []), (551, .iadd, 1, []), (552, .istore 11, 2, []), (554, .iload 15, 2, []), (556, .iload 10, 2, []), (558, .if_icmp .gt 17, 3, [575]), (561, .iload 15, 2, []), (563, .iload 10, 2, []), (565, .if_icmp .ne 12, 3, [577]), (568, .iload 14, 2, []), (570, .iload 9, 2, []), (572, .if_icmp .ge 5, 3, [577]), (575, .iconst 0, 1, []), (576, .ireturn, 1, []), (577, .iload 15, 2, []), (579, .ifCond .lt 36, 3, [615]), (582, .aload_n 0, 1, []), (583, .iload 14, 2, []), (585, .invokevirtual 25, 3, []), (588, .iload 12, 2, []), (590, .if_icmp .ne 25, 3, [615]), (593, .iload 13, 2, []), (595, .ifCond .lt 15, 3, [610]), (598, .iload 15, 2, []), (600, .aload_n 0, 1, []), (601, .iload_n 2, 1, []), (602, .iload 13, 2, []), (604, .invokevirtual 34, 3, []), (607, .if_icmp .ge 8, 3, [615]), (610, .iload 14, 2, []), (612, .goto 5, 3, [617]), (615, .iload 13, 2, []), (617, .istore 13, 2, []), (619, .iinc 14 1, 3, []), (622, .goto (-106), 3, [516]), (625, .iload 8, 2, []), (627, .iload 6, 2, []), (629, .if_icmp .ne 92, 3, [721]), (632, .aload_n 0, 1, []), (633, .iload_n 2, 1, []), (634, .iload_n 3, 1, []), (635, .iconst 0, 1, []), (636, .invokevirtual 37, 3, []), (639, .iload_n 2, 1, []), (640, .if_icmp .ne 81, 3, [721]), (643, .aload_n 0, 1, []), (644, .iload_n 2, 1, []), (645, .iload_n 3, 1, []), (646, .iload 7, 2, []), (648, .invokevirtual 37, 3, []), (651, .iload_n 3, 1, []), (652, .if_icmp .ne 69, 3, [721]), (655, .aload_n 0, 1, []), (656, .iload_n 2, 1, []), (657, .iload_n 3, 1, []), (658, .iload 7, 2, []), (660, .iconst 1, 1, []), (661, .iadd, 1, []), (662, .invokevirtual 37, 3, []), (665, .bipush (-5), 2, []), (667, .if_icmp .ne 54, 3, [721]), (670, .aload_n 0, 1, []), (671, .iload_n 2, 1, []), (672, .iload 6, 2, []), (674, .invokevirtual 49, 3, []), (677, .iload 11, 2, []), (679, .if_icmp .ne 42, 3, [721]), (682, .aload_n 0, 1, []), (683, .iload_n 2, 1, []), (684, .iconst (-1), 1, []), (685, .invokevirtual 49, 3, []), (688, .bipush (-2), 2, []), (690, .if_icmp .ne 31, 3, [721]), (693, .aload_n 0, 1, []), (694, .iload_n 2, 1, []), (695, .iload 12, 2, []), (697, .invokevirtual 52, 3, []), (700, .iload 13, 2, []), (702, .if_icmp .ne 19, 3, [721]), (705, .aload_n 0, 1, []), (706, .iload_n 2, 1, []), (707, .bipush 6, 2, []), (709, .invokevirtual 52, 3, []), (712, .bipush (-2), 2, []), (714, .if_icmp .ne 7, 3, [721]), (717, .iconst 1, 1, []), (718, .goto 4, 3, [722]), (721, .iconst 0, 1, []), (722, .ireturn, 1, [])]
theorem tbL_distances_ok : tbOK cL_distances tbL_distances = true := by decide +kernel
def tbL_print : TB := [(0, .lconst 0, 1, []), (1, .lstore_n 1, 1, []), (2, .iconst 0, 1, []), (3, .istore_n 3, 1, []), (4, .iload_n 3, 1, []), (5, .aload_n 0, 1, []), (6, .iconst 0, 1, []), (7, .invokevirtual 9, 3, []), (10, .aload_n 0, 1, []), (11, .iconst 1, 1, []), (12, .invokevirtual 9, 3, []), (15, .imul, 1, []), (16, .if_icmp .ge 28, 3, [44]), (19, .ldc2_w 55, 3, []), (22, .lload_n 1, 1, []), (23, .lmul, 1, []), (24, .ldc2_w 57, 3, []), (27, .aload_n 0, 1, []), (28, .iload_n 3, 1, []), (29, .invokevirtual 25, 3, []), (32, .i2l, 1, []), (33, .lmul, 1, []), (34, .ladd, 1, []), (35, .lconst 1, 1, []), (36, .ladd, 1, []), (37, .lstore_n 1, 1, []), (38, .iinc 3 1, 3, []), (41, .goto (-37), 3, [4]), (44, .lload_n 1, 1, []), (45, .lreturn, 1, [])]
theorem tbL_print_ok : tbOK cL_print tbL_print = true := by decide +kernel
def tbL_walks : TB := [(0, .aload_n 0, 1, []), (1, .invokevirtual 59, 3, []), (4, .pop, 1, []), (5, .iload_n 1, 1, []), (6, .istore 5, 2, []), (8, .iload_n 2, 1, []), (9, .istore 6, 2, []), (11, .iconst 0, 1, []), (12, .istore 7, 2, []), (14, .iconst 0, 1, []), (15, .istore 8, 2, []), (17, .iconst 1, 1, []), (18, .istore 9, 2, []), (20, .iconst 1, 1, []), (21, .istore 10, 2, []), (23, .bipush 32, 2, []), (25, .newarray .int, 2, []), (27, .astore 11, 2, []), (29, .aload 11, 2, []), (31, .iconst 0, 1, []), (32, .iload_n 1, 1, []), (33, .iastore, 1, []), (34, .aload_n 0, 1, []), (35, .iconst 0, 1, []), (36, .invokevirtual 9, 3, []), (39, .istore 12, 2, []), (41, .iconst 0, 1, []), (42, .istore 13, 2, []), (44, .iconst 0, 1, []), (45, .istore 14, 2, []), (47, .iload 14, 2, []), (49, .bipush 20, 2, []), (51, .if_icmp .ge 348, 3, [399]), (54, .iload 14, 2, []), (56, .bipush 10, 2, []), (58, .if_icmp .ge 7, 3, [65]), (61, .iload_n 3, 1, []), (62, .goto 5, 3, [67]), (65, .iload 4, 2, []), (67, .iconst 3, 1, []), (68, .iload 14, 2, []), (70, .bipush 10, 2, []), (72, .irem, 1, []), (73, .imul, 1, []), (74, .ishr, 1, []), (75, .bipush 7, 2, []), (77, .iand, 1, []), (78, .istore 15, 2, []), (80, .aload_n 0, 1, []), (81, .iload 15, 2, []), (83, .iconst 4, 1, []), (84, .if_icmp .ge 8, 3, [92]), (87, .bipush 102, 2, []), (89, .goto 17, 3, [106]), (92, .iload 15, 2, []), (94, .bipush 6, 2, []), (96, .if_icmp .ge 8, 3, [104]), (99, .bipush 114, 2, []), (101, .goto 5, 3, [106]), (104, .bipush 108, 2, []), (106, .invokevirtual 63, 3, []), (109, .istore 13, 2, []), (111, .iload 10, 2, []), (113, .ifCond .eq 233, 3, [346]), (116, .iload 15, 2, []), (118, .iconst 4, 1, []), (119, .if_icmp .ge 227, 3, [346]), (122, .aload_n 0, 1, []), (123, .iload 5, 2, []), (125, .iload 6, 2, []), (127, .invokevirtual 15, 3, []), (130, .istore 16, 2, []), (132, .iload 16, 2, []), (134, .ifCond .lt 7, 3, [141]), (137, .iconst 1, 1, []), (138, .goto 4, 3, [142]), (141, .iconst 0, 1, []), (142, .istore 10, 2, []), (144, .iload 5, 2, []), (146, .iload 12, 2, []), (148, .irem, 1, []), (149, .istore 17, 2, []), (151, .iload 6, 2, []), (153, .ifCond .ne 12, 3, [165]), (156, .iload 17, 2, []), (158, .iload 12, 2, []), (160, .iconst 1, 1, []), (161, .isub, 1, []), (162, .if_icmp .eq 14, 3, [176]), (165, .iload 6, 2, []), (167, .iconst 2, 1, []), (168, .if_icmp .ne 12, 3, [180]), (171, .iload 17, 2, []), (173, .ifCond .ne 7, 3, [180]), (176, .iconst 1, 1, []), (177, .goto 4, 3, [181]), (180, .iconst 0, 1, []), (181, .istore 18, 2, []), (183, .iload 6, 2, []), (185, .iconst 1, 1, []), (186, .if_icmp .ne 18, 3, [204]), (189, .iload 5, 2, []), (191, .iload 12, 2, []), (193, .idiv, 1, []), (194, .aload_n 0, 1, []), (195, .iconst 1, 1, []), (196, .invokevirtual 9, 3, []), (199, .iconst 1, 1, []), (200, .isub, 1, []), (201, .if_icmp .eq 16, 3, [217]), (204, .iload 6, 2, []), (206, .iconst 3, 1, []), (207, .if_icmp .ne 14, 3, [221]), (210, .iload 5, 2, []), (212, .iload 12, 2, []), (214, .if_icmp .ge 7, 3, [221]), (217, .iconst 1, 1, []), (218, .goto 4, 3, [222]), (221, .iconst 0, 1, []), (222, .istore 19, 2, []), (224, .iload 18, 2, []), (226, .ifCond .eq 12, 3, [238]), (229, .aload_n 0, 1, []), (230, .iconst 2, 1, []), (231, .invokevirtual 9, 3, []), (234, .iconst 2, 1, []), (235, .if_icmp .eq 17, 3, [252]), (238, .iload 19, 2, []), (240, .ifCond .eq 16, 3, [256]), (243, .aload_n 0, 1, []), (244, .iconst 4, 1, []), (245, .invokevirtual 9, 3, []), (248, .iconst 2, 1, []), (249, .if_icmp .ne 7, 3, [256]), (252, .iconst 1, 1, []), (253, .goto 4, 3, [257]), (256, .iconst 0, 1, []), (257, .istore 20, 2, []), (259, .iload 10, 2, []), (261, .ifCond .eq 82, 3, [343]), (264, .iload 20, 2, []), (266, .ifCond .eq 10, 3, [276]), (269, .iconst 1, 1, []), (270, .iload 7, 2, []), (272, .isub, 1, []), (273, .goto 5, 3, [278]), (276, .iload 7, 2, []), (278, .istore 7, 2, []), (280, .iinc 8 1, 3, []), (283, .iload 16, 2, []), (285, .istore 5, 2, []), (287, .iconst 0, 1, []), (288, .istore 21, 2, []), (290, .iconst 0, 1, []), (291, .istore 22, 2, []), (293, .iload 22, 2, []), (295, .iload 9, 2, []), (297, .if_icmp .ge 31, 3, [328]), (300, .iload 21, 2, []), (302, .ifCond .ne 13, 3, [315]), (305, .aload 11, 2, []), (307, .iload 22, 2, []), (309, .iaload, 1, []), (310, .iload 5, 2, []), (312, .if_icmp .ne 7, 3, [319]), (315, .iconst 1, 1, []), (316, .goto 4, 3, [320]), (319, .iconst 0, 1, []), (320, .istore 21, 2, []), (322, .iinc 22 1, 3, []), (325, .goto (-32), 3, [293]), (328, .iload 21, 2, []), (330, .ifCond .ne 13, 3, [343]), (333, .aload 11, 2, []), (335, .iload 9, 2, []), (337, .iload 5, 2, []), (339, .iastore, 1, []), (340, .iinc 9 1, 3, []), (343, .goto 50, 3, [393]), (346, .iload 10, 2, []), (348, .ifCond .eq 45, 3, [393]), (351, .iload 15, 2, []), (353, .bipush 6, 2, []), (355, .if_icmp .ge 7, 3, [362]), (358, .iconst 1, 1, []), (359, .goto 4, 3, [363]), (362, .iconst 0, 1, []), (363, .iload 7, 2, []), (365, .ifCond .ne 7, 3, [372]), (368, .iconst 1, 1, []), (369, .goto 4, 3, [373]), (372, .iconst 0, 1, []), (373, .if_icmp .ne 12, 3, [385]), (376, .iload 6, 2, []), (378, .iconst 1, 1, []), (379, .iadd, 1, []), (380, .iconst 4, 1, []), (381, .irem, 1, []), (382, .goto 9, 3, [391]), (385, .iload 6, 2, []), (387, .iconst 3, 1, []), (388, .iadd, 1, []), (389, .iconst 4, 1, []), (390, .irem, 1, []), (391, .istore 6, 2, []), (393, .iinc 14 1, 3, []), (396, .goto (-349), 3, [47]), (399, .aload_n 0, 1, []), (400, .iload_n 1, 1, []), (401, .iload_n 2, 1, []), (402, .iconst 0, 1, []), (403, .invokevirtual 67, 3, []), (406, .iload 5, 2, []), (408, .if_icmp .ne 55, 3, [463]), (411, .aload_n 0, 1, []), (412, .iload_n 1, 1, []), (413, .iload_n 2, 1, []), (414, .iconst 1, 1, []), (415, .invokevirtual 67, 3, []), (418, .iload 6, 2, []), (420, .if_icmp .ne 43, 3, [463]), (423, .aload_n 0, 1, []), (424, .iload_n 1, 1, []), (425, .iload_n 2, 1, []), (426, .iconst 2, 1, []), (427, .invokevirtual 67, 3, []), (430, .iload 7, 2, []), (432, .if_icmp .ne 31, 3, [463]), (435, .aload_n 0, 1, []), (436, .iload_n 1, 1, []), (437, .iload_n 2, 1, []), (438, .iconst 3, 1, []), (439, .invokevirtual 67, 3, []), (442, .iload 8, 2, []), (444, .if_icmp .ne 19, 3, [463]), (447, .aload_n 0, 1, []), (448, .iload_n 1, 1, []), (449, .iload_n 2, 1, []), (450, .iconst 4, 1, []), (451, .invokevirtual 67, 3, []), (454, .iload 9, 2, []), (456, .if_icmp .ne 7, 3, [463]), (459, .iconst 1, 1, []), (460, .goto 4, 3, [464]), (463, .iconst 0, 1, []), (464, .istore 14, 2, []), (466, .aload_n 0, 1, []), (467, .bipush 120, 2, []), (469, .invokevirtual 63, 3, []), (472, .pop, 1, []), (473, .iload 14, 2, []), (475, .ifCond .eq 46, 3, [521]), (478, .aload_n 0, 1, []), (479, .iload_n 1, 1, []), (480, .iload_n 2, 1, []), (481, .iconst 0, 1, []), (482, .invokevirtual 67, 3, []), (485, .bipush (-100), 2, []), (487, .iload 13, 2, []), (489, .isub, 1, []), (490, .if_icmp .ne 31, 3, [521]), (493, .aload_n 0, 1, []), (494, .iload_n 1, 1, []), (495, .iconst 4, 1, []), (496, .iconst 0, 1, []), (497, .invokevirtual 67, 3, []), (500, .bipush (-2), 2, []), (502, .if_icmp .ne 19, 3, [521]), (505, .aload_n 0, 1, []), (506, .iload_n 1, 1, []), (507, .iconst 0, 1, []), (508, .iconst 5, 1, []), (509, .invokevirtual 67, 3, []), (512, .bipush (-2), 2, []), (514, .if_icmp .ne 7, 3, [521]), (517, .iconst 1, 1, []), (518, .goto 4, 3, [522]), (521, .iconst 0, 1, []), (522, .ireturn, 1, [])]
theorem tbL_walks_ok : tbOK cL_walks tbL_walks = true := by decide +kernel
def tbL_edits : TB := [(0, .aload_n 0, 1, []), (1, .iconst 0, 1, []), (2, .invokevirtual 9, 3, []), (5, .aload_n 0, 1, []), (6, .iconst 1, 1, []), (7, .invokevirtual 9, 3, []), (10, .imul, 1, []), (11, .istore 4, 2, []), (13, .iload_n 1, 1, []), (14, .iconst 3, 1, []), (15, .ishr, 1, []), (16, .iload 4, 2, []), (18, .invokestatic 44, 3, []), (21, .istore 5, 2, []), (23, .iload_n 1, 1, []), (24, .bipush 11, 2, []), (26, .ishr, 1, []), (27, .iconst 3, 1, []), (28, .invokestatic 44, 3, []), (31, .istore 6, 2, []), (33, .aload_n 0, 1, []), (34, .invokestatic 70, 3, []), (37, .lstore 7, 2, []), (39, .iload_n 1, 1, []), (40, .iconst 5, 1, []), (41, .invokestatic 44, 3, []), (44, .istore 9, 2, []), (46, .iload 9, 2, []), (48, .iconst 3, 1, []), (49, .if_icmp .ge 171, 3, [220]), (52, .aload_n 0, 1, []), (53, .iload 5, 2, []), (55, .iload 6, 2, []), (57, .invokevirtual 74, 3, []), (60, .istore 10, 2, []), (62, .bipush 64, 2, []), (64, .newarray .int, 2, []), (66, .astore 11, 2, []), (68, .iconst 0, 1, []), (69, .istore 12, 2, []), (71, .iload 12, 2, []), (73, .iload 4, 2, []), (75, .if_icmp .ge 27, 3, [102]), (78, .iload 12, 2, []), (80, .bipush 64, 2, []), (82, .if_icmp .ge 20, 3, [102]), (85, .aload 11, 2, []), (87, .iload 12, 2, []), (89, .aload_n 0, 1, []), (90, .iload 12, 2, []), (92, .invokevirtual 22, 3, []), (95, .iastore, 1, []), (96, .iinc 12 1, 3, []), (99, .goto (-28), 3, [71]), (102, .aload_n 0, 1, []), (103, .iload 5, 2, []), (105, .iload 6, 2, []), (107, .invokevirtual 77, 3, []), (110, .istore 12, 2, []), (112, .iconst 0, 1, []), (113, .istore 13, 2, []), (115, .iconst 0, 1, []), (116, .istore 14, 2, []), (118, .iload 14, 2, []), (120, .iload 4, 2, []), (122, .if_icmp .ge 47, 3, [169]), (125, .iload 14, 2, []), (127, .bipush 64, 2, []), (129, .if_icmp .ge 40, 3, [169]), (132, .iload 13, 2, []), (134, .iload 14, 2, []), (136, .iload 5, 2, []), (138, .if_icmp .eq 21, 3, [159]), (141, .aload_n 0, 1, []), (142, .iload 14, 2, []), (144, .invokevirtual 22, 3, []), (147, .aload 11, 2, []), (149, .iload 14, 2, []), (151, .iaload, 1, []), (152, .if_icmp .eq 7, 3, [159]), (155, .iconst 1, 1, []), (156, .goto 4, 3, [160]), (159, .iconst 0, 1, []), (160, .iadd, 1, []), (161, .istore 13, 2, []), (163, .iinc 14 1, 3, []), (166, .goto (-48), 3, [118]), (169, .aload_n 0, 1, []), (170, .bipush 6, 2, []), (172, .invokevirtual 9, 3, []), (175, .iload 10, 2, []), (177, .if_icmp .ne 38, 3, [215]), (180, .aload_n 0, 1, []), (181, .iload 5, 2, []), (183, .invokevirtual 25, 3, []), (186, .iload 6, 2, []), (188, .if_icmp .ne 27, 3, [215]), (191, .iload 4, 2, []), (193, .bipush 64, 2, []), (195, .if_icmp .gt 13, 3, [208]), (198, .iload 12, 2, []), (200, .iload 13, 2, []), (202, .if_icmp .eq 15, 3, [217]), (205, .goto 10, 3, [215]), (208, .iload 12, 2, []), (210, .iload 13, 2, []), (212, .if_icmp .ge 5, 3, [217]), (215, .iconst (-1), 1, []), (216, .ireturn, 1, []), (217, .goto 265, 3, [482]), (220, .iload 9, 2, []), (222, .iconst 3, 1, []), (223, .if_icmp .ne 65, 3, [288]), (226, .aload_n 0, 1, []), (227, .aload_n 0, 1, []), (228, .iload 5, 2, []), (230, .invokevirtual 22, 3, []), (233, .iconst 1, 1, []), (234, .invokevirtual 28, 3, []), (237, .istore 10, 2, []), (239, .aload_n 0, 1, []), (240, .iload 5, 2, []), (242, .iload 6, 2, []), (244, .invokevirtual 80, 3, []), (247, .istore 11, 2, []), (249, .iload 11, 2, []), (251, .iload 10, 2, []), (253, .if_icmp .lt 30, 3, [283]), (256, .aload_n 0, 1, []), (257, .iload 5, 2, []), (259, .invokevirtual 25, 3, []), (262, .iload 6, 2, []), (264, .if_icmp .ne 19, 3, [283]), (267, .aload_n 0, 1, []), (268, .aload_n 0, 1, []), (269, .iload 5, 2, []), (271, .invokevirtual 22, 3, []), (274, .iconst 1, 1, []), (275, .invokevirtual 28, 3, []), (278, .iload 11, 2, []), (280, .if_icmp .eq 5, 3, [285]), (283, .iconst (-1), 1, []), (284, .ireturn, 1, []), (285, .goto 197, 3, [482]), (288, .aload_n 0, 1, []), (289, .invokevirtual 59, 3, []), (292, .pop, 1, []), (293, .iconst 0, 1, []), (294, .istore 10, 2, []), (296, .aload_n 0, 1, []), (297, .iconst 0, 1, []), (298, .invokevirtual 9, 3, []), (301, .istore 11, 2, []), (303, .iconst 0, 1, []), (304, .istore 12, 2, []), (306, .iconst 0, 1, []), (307, .istore 13, 2, []), (309, .iload 13, 2, []), (311, .iload 4, 2, []), (313, .if_icmp .ge 81, 3, [394]), (316, .iload 13, 2, []), (318, .ifCond .le 18, 3, [336]), (321, .iload 13, 2, []), (323, .iload 11, 2, []), (325, .irem, 1, []), (326, .ifCond .ne 10, 3, [336]), (329, .aload_n 0, 1, []), (330, .bipush 47, 2, []), (332, .invokevirtual 63, 3, []), (335, .pop, 1, []), (336, .iload_n 2, 1, []), (337, .iload 13, 2, []), (339, .bipush 13, 2, []), (341, .irem, 1, []), (342, .iload 13, 2, []), (344, .bipush 29, 2, []), (346, .idiv, 1, []), (347, .iadd, 1, []), (348, .ishr, 1, []), (349, .iconst 3, 1, []), (350, .invokestatic 44, 3, []), (353, .istore 14, 2, []), (355, .iload 10, 2, []), (357, .aload_n 0, 1, []), (358, .iload 13, 2, []), (360, .invokevirtual 25, 3, []), (363, .iload 14, 2, []), (365, .if_icmp .eq 7, 3, [372]), (368, .iconst 1, 1, []), (369, .goto 4, 3, [373]), (372, .iconst 0, 1, []), (373, .iadd, 1, []), (374, .istore 10, 2, []), (376, .aload_n 0, 1, []), (377, .bipush 48, 2, []), (379, .iload 14, 2, []), (381, .iadd, 1, []), (382, .i2c, 1, []), (383, .invokevirtual 63, 3, []), (386, .istore 12, 2, []), (388, .iinc 13 1, 3, []), (391, .goto (-82), 3, [309]), (394, .aload_n 0, 1, []), (395, .invokevirtual 83, 3, []), (398, .iload 10, 2, []), (400, .if_icmp .eq 5, 3, [405]), (403, .iconst (-1), 1, []), (404, .ireturn, 1, []), (405, .aload_n 0, 1, []), (406, .bipush 47, 2, []), (408, .invokevirtual 63, 3, []), (411, .pop, 1, []), (412, .aload_n 0, 1, []), (413, .invokevirtual 83, 3, []), (416, .bipush (-100), 2, []), (418, .iload 12, 2, []), (420, .isub, 1, []), (421, .if_icmp .ne 18, 3, [439]), (424, .iload 12, 2, []), (426, .iload 4, 2, []), (428, .aload_n 0, 1, []), (429, .iconst 1, 1, []), (430, .invokevirtual 9, 3, []), (433, .iadd, 1, []), (434, .iconst 1, 1, []), (435, .isub, 1, []), (436, .if_icmp .eq 5, 3, [441]), (439, .iconst (-1), 1, []), (440, .ireturn, 1, []), (441, .aload_n 0, 1, []), (442, .invokevirtual 59, 3, []), (445, .pop, 1, []), (446, .aload_n 0, 1, []), (447, .bipush 48, 2, []), (449, .invokevirtual 63, 3, []), (452, .pop, 1, []), (453, .aload_n 0, 1, []), (454, .invokevirtual 83, 3, []), (457, .bipush (-101), 2, []), (459, .if_icmp .eq 5, 3, [464]), (462, .iconst (-1), 1, []), (463, .ireturn, 1, []), (464, .aload_n 0, 1, []), (465, .bipush 54, 2, []), (467, .invokevirtual 63, 3, []), (470, .pop, 1, []), (471, .aload_n 0, 1, []), (472, .invokevirtual 83, 3, []), (475, .bipush (-101), 2, []), (477, .if_icmp .eq 5, 3, [482]), (480, .iconst (-1), 1, []), (481, .ireturn, 1, []), (482, .aload_n 0, 1, []), (483, .bipush 8, 2, []), (485, .invokevirtual 9, 3, []), (488, .iload_n 3, 1, []), (489, .bipush 12, 2, []), (491, .if_icmp .ge 9, 3, [500]), (494, .iload_n 3, 1, []), (495, .iconst 1, 1, []), (496, .iadd, 1, []), (497, .goto 5, 3, [502]), (500, .bipush 12, 2, []), (502, .if_icmp .eq 5, 3, [507]), (505, .iconst (-1), 1, []), (506, .ireturn, 1, []), (507, .iload_n 2, 1, []), (508, .bipush 25, 2, []), (510, .ishr, 1, []), (511, .iconst 3, 1, []), (512, .iand, 1, []), (513, .ifCond .ne 43, 3, [556]), (516, .aload_n 0, 1, []), (517, .invokevirtual 86, 3, []), (520, .istore 10, 2, []), (522, .iload 10, 2, []), (524, .iload_n 3, 1, []), (525, .bipush 12, 2, []), (527, .if_icmp .ge 7, 3, [534]), (530, .iload_n 3, 1, []), (531, .goto 5, 3, [536]), (534, .bipush 11, 2, []), (536, .if_icmp .ne 18, 3, [554]), (539, .aload_n 0, 1, []), (540, .invokestatic 70, 3, []), (543, .lload 7, 2, []), (545, .lcmp, 1, []), (546, .ifCond .ne 8, 3, [554]), (549, .iload 10, 2, []), (551, .goto 4, 3, [555]), (554, .iconst (-1), 1, []), (555, .ireturn, 1, []), (556, .iload_n 3, 1, []), (557, .bipush 12, 2, []), (559, .if_icmp .ge 9, 3, [568]), (562, .iload_n 3, 1, []), (563, .iconst 1, 1, []), (564, .iadd, 1, []), (565, .goto 5, 3, [570]), (568, .bipush 12, 2, []), (570, .ireturn, 1, [])]
theorem tbL_edits_ok : tbOK cL_edits tbL_edits = true := by decide +kernel
def tbL_errors : TB := [(0, .aload_n 0, 1, []), (1, .iconst 0, 1, []), (2, .invokevirtual 9, 3, []), (5, .aload_n 0, 1, []), (6, .iconst 1, 1, []), (7, .invokevirtual 9, 3, []), (10, .imul, 1, []), (11, .istore_n 1, 1, []), (12, .bipush (-2), 2, []), (14, .istore_n 2, 1, []), (15, .aload_n 0, 1, []), (16, .iconst 2, 1, []), (17, .iconst 5, 1, []), (18, .invokevirtual 89, 3, []), (21, .iload_n 2, 1, []), (22, .if_icmp .ne 153, 3, [175]), (25, .aload_n 0, 1, []), (26, .iconst 5, 1, []), (27, .bipush 13, 2, []), (29, .invokevirtual 89, 3, []), (32, .iload_n 2, 1, []), (33, .if_icmp .ne 142, 3, [175]), (36, .aload_n 0, 1, []), (37, .iconst 1, 1, []), (38, .iconst 3, 1, []), (39, .iconst 0, 1, []), (40, .invokevirtual 92, 3, []), (43, .iload_n 2, 1, []), (44, .if_icmp .ne 131, 3, [175]), (47, .aload_n 0, 1, []), (48, .iconst 1, 1, []), (49, .iconst 0, 1, []), (50, .aload_n 0, 1, []), (51, .iconst 0, 1, []), (52, .invokevirtual 9, 3, []), (55, .invokevirtual 92, 3, []), (58, .iload_n 2, 1, []), (59, .if_icmp .ne 116, 3, [175]), (62, .aload_n 0, 1, []), (63, .iconst 0, 1, []), (64, .iconst 0, 1, []), (65, .aload_n 0, 1, []), (66, .iconst 1, 1, []), (67, .invokevirtual 9, 3, []), (70, .invokevirtual 92, 3, []), (73, .iload_n 2, 1, []), (74, .if_icmp .ne 101, 3, [175]), (77, .aload_n 0, 1, []), (78, .iconst 0, 1, []), (79, .iconst 1, 1, []), (80, .iconst (-1), 1, []), (81, .invokevirtual 92, 3, []), (84, .iload_n 2, 1, []), (85, .if_icmp .ne 90, 3, [175]), (88, .aload_n 0, 1, []), (89, .bipush 9, 2, []), (91, .invokevirtual 9, 3, []), (94, .iload_n 2, 1, []), (95, .if_icmp .ne 80, 3, [175]), (98, .aload_n 0, 1, []), (99, .iload_n 1, 1, []), (100, .invokevirtual 25, 3, []), (103, .iconst (-1), 1, []), (104, .if_icmp .ne 71, 3, [175]), (107, .aload_n 0, 1, []), (108, .iload_n 1, 1, []), (109, .bipush 9, 2, []), (111, .invokevirtual 15, 3, []), (114, .iconst (-1), 1, []), (115, .if_icmp .ne 60, 3, [175]), (118, .aload_n 0, 1, []), (119, .iconst 0, 1, []), (120, .iconst 4, 1, []), (121, .invokevirtual 15, 3, []), (124, .iload_n 2, 1, []), (125, .if_icmp .ne 50, 3, [175]), (128, .aload_n 0, 1, []), (129, .iload_n 1, 1, []), (130, .bipush 9, 2, []), (132, .invokevirtual 77, 3, []), (135, .iconst (-1), 1, []), (136, .if_icmp .ne 39, 3, [175]), (139, .aload_n 0, 1, []), (140, .iconst 0, 1, []), (141, .bipush 6, 2, []), (143, .invokevirtual 77, 3, []), (146, .iload_n 2, 1, []), (147, .if_icmp .ne 28, 3, [175]), (150, .aload_n 0, 1, []), (151, .iconst (-1), 1, []), (152, .bipush 9, 2, []), (154, .invokevirtual 80, 3, []), (157, .iconst (-1), 1, []), (158, .if_icmp .ne 17, 3, [175]), (161, .aload_n 0, 1, []), (162, .iconst 0, 1, []), (163, .iconst (-1), 1, []), (164, .invokevirtual 80, 3, []), (167, .iload_n 2, 1, []), (168, .if_icmp .ne 7, 3, [175]), (171, .iconst 1, 1, []), (172, .goto 4, 3, [176]), (175, .iconst 0, 1, []), (176, .istore_n 3, 1, []), (177, .iload_n 3, 1, []), (178, .ifCond .eq 156, 3, [334]), (181, .aload_n 0, 1, []), (182, .iload_n 1, 1, []), (183, .bipush 9, 2, []), (185, .bipush 9, 2, []), (187, .invokevirtual 67, 3, []), (190, .iconst (-1), 1, []), (191, .if_icmp .ne 143, 3, [334]), (194, .aload_n 0, 1, []), (195, .iload_n 1, 1, []), (196, .invokevirtual 22, 3, []), (199, .iconst (-1), 1, []), (200, .if_icmp .ne 134, 3, [334]), (203, .aload_n 0, 1, []), (204, .iload_n 1, 1, []), (205, .bipush 9, 2, []), (207, .invokevirtual 28, 3, []), (210, .iconst (-1), 1, []), (211, .if_icmp .ne 123, 3, [334]), (214, .aload_n 0, 1, []), (215, .iconst (-1), 1, []), (216, .iconst 0, 1, []), (217, .invokevirtual 28, 3, []), (220, .iconst (-1), 1, []), (221, .if_icmp .ne 113, 3, [334]), (224, .aload_n 0, 1, []), (225, .bipush 6, 2, []), (227, .invokevirtual 31, 3, []), (230, .iload_n 2, 1, []), (231, .if_icmp .ne 103, 3, [334]), (234, .aload_n 0, 1, []), (235, .iload_n 1, 1, []), (236, .bipush 9, 2, []), (238, .invokevirtual 74, 3, []), (241, .iconst (-1), 1, []), (242, .if_icmp .ne 92, 3, [334]), (245, .aload_n 0, 1, []), (246, .iconst 0, 1, []), (247, .bipush 6, 2, []), (249, .invokevirtual 74, 3, []), (252, .iload_n 2, 1, []), (253, .if_icmp .ne 81, 3, [334]), (256, .aload_n 0, 1, []), (257, .bipush 6, 2, []), (259, .iconst 0, 1, []), (260, .invokevirtual 96, 3, []), (263, .iload_n 2, 1, []), (264, .if_icmp .ne 70, 3, [334]), (267, .aload_n 0, 1, []), (268, .iconst 0, 1, []), (269, .bipush 10, 2, []), (271, .invokevirtual 96, 3, []), (274, .iload_n 2, 1, []), (275, .if_icmp .ne 59, 3, [334]), (278, .aload_n 0, 1, []), (279, .iconst 0, 1, []), (280, .iload_n 1, 1, []), (281, .invokevirtual 34, 3, []), (284, .iconst (-1), 1, []), (285, .if_icmp .ne 49, 3, [334]), (288, .aload_n 0, 1, []), (289, .iload_n 1, 1, []), (290, .iconst 0, 1, []), (291, .bipush (-9), 2, []), (293, .invokevirtual 37, 3, []), (296, .iconst (-1), 1, []), (297, .if_icmp .ne 37, 3, [334]), (300, .aload_n 0, 1, []), (301, .iload_n 1, 1, []), (302, .invokevirtual 41, 3, []), (305, .iconst (-1), 1, []), (306, .if_icmp .ne 28, 3, [334]), (309, .aload_n 0, 1, []), (310, .iload_n 1, 1, []), (311, .iconst (-1), 1, []), (312, .invokevirtual 49, 3, []), (315, .iconst (-1), 1, []), (316, .if_icmp .ne 18, 3, [334]), (319, .aload_n 0, 1, []), (320, .iload_n 1, 1, []), (321, .bipush 9, 2, []), (323, .invokevirtual 52, 3, []), (326, .iconst (-1), 1, []), (327, .if_icmp .ne 7, 3, [334]), (330, .iconst 1, 1, []), (331, .goto 4, 3, [335]), (334, .iconst 0, 1, []), (335, .ireturn, 1, [])]
theorem tbL_errors_ok : tbOK cL_errors tbL_errors = true := by decide +kernel
theorem dX0_init_0 : decode cX0_init 0 = .ok (.aload_n 0, 1) := by decide +kernel
theorem dX0_init_1 : decode cX0_init 1 = .ok (.invokespecial 3, 3) := by decide +kernel
theorem dX0_init_4 : decode cX0_init 4 = .ok (.aload_n 0, 1) := by decide +kernel
theorem dX0_init_5 : decode cX0_init 5 = .ok (.bipush 12, 2) := by decide +kernel
theorem dX0_init_7 : decode cX0_init 7 = .ok (.sipush 144, 3) := by decide +kernel
theorem dX0_init_10 : decode cX0_init 10 = .ok (.multianewarray 9 2, 4) := by decide +kernel
theorem dX0_init_14 : decode cX0_init 14 = .ok (.putfield 11, 3) := by decide +kernel
theorem dX0_init_17 : decode cX0_init 17 = .ok (.return_, 1) := by decide +kernel
theorem dX1_init_0 : decode cX1_init 0 = .ok (.aload_n 0, 1) := by decide +kernel
theorem dX1_init_1 : decode cX1_init 1 = .ok (.invokespecial 3, 3) := by decide +kernel
theorem dX1_init_4 : decode cX1_init 4 = .ok (.aload_n 0, 1) := by decide +kernel
theorem dX1_init_5 : decode cX1_init 5 = .ok (.sipush 144, 3) := by decide +kernel
theorem dX1_init_8 : decode cX1_init 8 = .ok (.newarray .int, 2) := by decide +kernel
theorem dX1_init_10 : decode cX1_init 10 = .ok (.putfield 9, 3) := by decide +kernel
theorem dX1_init_13 : decode cX1_init 13 = .ok (.aload_n 0, 1) := by decide +kernel
theorem dX1_init_14 : decode cX1_init 14 = .ok (.sipush 144, 3) := by decide +kernel
theorem dX1_init_17 : decode cX1_init 17 = .ok (.newarray .int, 2) := by decide +kernel
theorem dX1_init_19 : decode cX1_init 19 = .ok (.putfield 15, 3) := by decide +kernel
theorem dX1_init_22 : decode cX1_init 22 = .ok (.aload_n 0, 1) := by decide +kernel
theorem dX1_init_23 : decode cX1_init 23 = .ok (.sipush 144, 3) := by decide +kernel
theorem dX1_init_26 : decode cX1_init 26 = .ok (.newarray .int, 2) := by decide +kernel
theorem dX1_init_28 : decode cX1_init 28 = .ok (.putfield 18, 3) := by decide +kernel
theorem dX1_init_31 : decode cX1_init 31 = .ok (.aload_n 0, 1) := by decide +kernel
theorem dX1_init_32 : decode cX1_init 32 = .ok (.sipush 144, 3) := by decide +kernel
theorem dX1_init_35 : decode cX1_init 35 = .ok (.newarray .int, 2) := by decide +kernel
theorem dX1_init_37 : decode cX1_init 37 = .ok (.putfield 21, 3) := by decide +kernel
theorem dX1_init_40 : decode cX1_init 40 = .ok (.aload_n 0, 1) := by decide +kernel
theorem dX1_init_41 : decode cX1_init 41 = .ok (.sipush 144, 3) := by decide +kernel
theorem dX1_init_44 : decode cX1_init 44 = .ok (.newarray .boolean, 2) := by decide +kernel
theorem dX1_init_46 : decode cX1_init 46 = .ok (.putfield 24, 3) := by decide +kernel
theorem dX1_init_49 : decode cX1_init 49 = .ok (.aload_n 0, 1) := by decide +kernel
theorem dX1_init_50 : decode cX1_init 50 = .ok (.new 28, 3) := by decide +kernel
theorem dX1_init_53 : decode cX1_init 53 = .ok (.dup, 1) := by decide +kernel
theorem dX1_init_54 : decode cX1_init 54 = .ok (.invokespecial 30, 3) := by decide +kernel
theorem dX1_init_57 : decode cX1_init 57 = .ok (.putfield 31, 3) := by decide +kernel
theorem dX1_init_60 : decode cX1_init 60 = .ok (.aload_n 0, 1) := by decide +kernel
theorem dX1_init_61 : decode cX1_init 61 = .ok (.aload_n 1, 1) := by decide +kernel
theorem dX1_init_62 : decode cX1_init 62 = .ok (.putfield 35, 3) := by decide +kernel
theorem dX1_init_65 : decode cX1_init 65 = .ok (.aload_n 0, 1) := by decide +kernel
theorem dX1_init_66 : decode cX1_init 66 = .ok (.aload_n 2, 1) := by decide +kernel
theorem dX1_init_67 : decode cX1_init 67 = .ok (.putfield 39, 3) := by decide +kernel
theorem dX1_init_70 : decode cX1_init 70 = .ok (.return_, 1) := by decide +kernel
theorem dX2_init_0 : decode cX2_init 0 = .ok (.aload_n 0, 1) := by decide +kernel
theorem dX2_init_1 : decode cX2_init 1 = .ok (.invokespecial 3, 3) := by decide +kernel
theorem dX2_init_4 : decode cX2_init 4 = .ok (.return_, 1) := by decide +kernel
theorem dX3_init_0 : decode cX3_init 0 = .ok (.aload_n 0, 1) := by decide +kernel
theorem dX3_init_1 : decode cX3_init 1 = .ok (.invokespecial 3, 3) := by decide +kernel
theorem dX3_init_4 : decode cX3_init 4 = .ok (.aload_n 0, 1) := by decide +kernel
theorem dX3_init_5 : decode cX3_init 5 = .ok (.new 9, 3) := by decide +kernel
theorem dX3_init_8 : decode cX3_init 8 = .ok (.dup, 1) := by decide +kernel
theorem dX3_init_9 : decode cX3_init 9 = .ok (.invokespecial 11, 3) := by decide +kernel
theorem dX3_init_12 : decode cX3_init 12 = .ok (.putfield 12, 3) := by decide +kernel
theorem dX3_init_15 : decode cX3_init 15 = .ok (.aload_n 0, 1) := by decide +kernel
theorem dX3_init_16 : decode cX3_init 16 = .ok (.new 9, 3) := by decide +kernel
theorem dX3_init_19 : decode cX3_init 19 = .ok (.dup, 1) := by decide +kernel
theorem dX3_init_20 : decode cX3_init 20 = .ok (.invokespecial 11, 3) := by decide +kernel
theorem dX3_init_23 : decode cX3_init 23 = .ok (.putfield 18, 3) := by decide +kernel
theorem dX3_init_26 : decode cX3_init 26 = .ok (.aload_n 0, 1) := by decide +kernel
theorem dX3_init_27 : decode cX3_init 27 = .ok (.sipush 576, 3) := by decide +kernel
theorem dX3_init_30 : decode cX3_init 30 = .ok (.newarray .int, 2) := by decide +kernel
theorem dX3_init_32 : decode cX3_init 32 = .ok (.putfield 21, 3) := by decide +kernel
theorem dX3_init_35 : decode cX3_init 35 = .ok (.aload_n 0, 1) := by decide +kernel
theorem dX3_init_36 : decode cX3_init 36 = .ok (.sipush 576, 3) := by decide +kernel
theorem dX3_init_39 : decode cX3_init 39 = .ok (.newarray .int, 2) := by decide +kernel
theorem dX3_init_41 : decode cX3_init 41 = .ok (.putfield 25, 3) := by decide +kernel
theorem dX3_init_44 : decode cX3_init 44 = .ok (.return_, 1) := by decide +kernel
theorem dX4_init_0 : decode cX4_init 0 = .ok (.aload_n 0, 1) := by decide +kernel
theorem dX4_init_1 : decode cX4_init 1 = .ok (.invokespecial 3, 3) := by decide +kernel
theorem dX4_init_4 : decode cX4_init 4 = .ok (.aload_n 0, 1) := by decide +kernel
theorem dX4_init_5 : decode cX4_init 5 = .ok (.sipush 160, 3) := by decide +kernel
theorem dX4_init_8 : decode cX4_init 8 = .ok (.newarray .char, 2) := by decide +kernel
theorem dX4_init_10 : decode cX4_init 10 = .ok (.putfield 9, 3) := by decide +kernel
theorem dX4_init_13 : decode cX4_init 13 = .ok (.return_, 1) := by decide +kernel
theorem dX5_init_0 : decode cX5_init 0 = .ok (.aload_n 0, 1) := by decide +kernel
theorem dX5_init_1 : decode cX5_init 1 = .ok (.invokespecial 3, 3) := by decide +kernel
theorem dX5_init_4 : decode cX5_init 4 = .ok (.aload_n 0, 1) := by decide +kernel
theorem dX5_init_5 : decode cX5_init 5 = .ok (.sipush 144, 3) := by decide +kernel
theorem dX5_init_8 : decode cX5_init 8 = .ok (.newarray .int, 2) := by decide +kernel
theorem dX5_init_10 : decode cX5_init 10 = .ok (.putfield 9, 3) := by decide +kernel
theorem dX5_init_13 : decode cX5_init 13 = .ok (.return_, 1) := by decide +kernel
theorem dX6_init_0 : decode cX6_init 0 = .ok (.aload_n 0, 1) := by decide +kernel
theorem dX6_init_1 : decode cX6_init 1 = .ok (.invokespecial 3, 3) := by decide +kernel
theorem dX6_init_4 : decode cX6_init 4 = .ok (.aload_n 0, 1) := by decide +kernel
theorem dX6_init_5 : decode cX6_init 5 = .ok (.sipush 144, 3) := by decide +kernel
theorem dX6_init_8 : decode cX6_init 8 = .ok (.newarray .boolean, 2) := by decide +kernel
theorem dX6_init_10 : decode cX6_init 10 = .ok (.putfield 9, 3) := by decide +kernel
theorem dX6_init_13 : decode cX6_init 13 = .ok (.aload_n 0, 1) := by decide +kernel
theorem dX6_init_14 : decode cX6_init 14 = .ok (.aload_n 1, 1) := by decide +kernel
theorem dX6_init_15 : decode cX6_init 15 = .ok (.putfield 15, 3) := by decide +kernel
theorem dX6_init_18 : decode cX6_init 18 = .ok (.return_, 1) := by decide +kernel
theorem dX7_init_0 : decode cX7_init 0 = .ok (.aload_n 0, 1) := by decide +kernel
theorem dX7_init_1 : decode cX7_init 1 = .ok (.invokespecial 3, 3) := by decide +kernel
theorem dX7_init_4 : decode cX7_init 4 = .ok (.aload_n 0, 1) := by decide +kernel
theorem dX7_init_5 : decode cX7_init 5 = .ok (.bipush 6, 2) := by decide +kernel
theorem dX7_init_7 : decode cX7_init 7 = .ok (.newarray .int, 2) := by decide +kernel
theorem dX7_init_9 : decode cX7_init 9 = .ok (.putfield 9, 3) := by decide +kernel
theorem dX7_init_12 : decode cX7_init 12 = .ok (.aload_n 0, 1) := by decide +kernel
theorem dX7_init_13 : decode cX7_init 13 = .ok (.sipush 144, 3) := by decide +kernel
theorem dX7_init_16 : decode cX7_init 16 = .ok (.newarray .int, 2) := by decide +kernel
theorem dX7_init_18 : decode cX7_init 18 = .ok (.putfield 15, 3) := by decide +kernel
theorem dX7_init_21 : decode cX7_init 21 = .ok (.aload_n 0, 1) := by decide +kernel
theorem dX7_init_22 : decode cX7_init 22 = .ok (.new 18, 3) := by decide +kernel
theorem dX7_init_25 : decode cX7_init 25 = .ok (.dup, 1) := by decide +kernel
theorem dX7_init_26 : decode cX7_init 26 = .ok (.invokespecial 20, 3) := by decide +kernel
theorem dX7_init_29 : decode cX7_init 29 = .ok (.putfield 21, 3) := by decide +kernel
theorem dX7_init_32 : decode cX7_init 32 = .ok (.aload_n 0, 1) := by decide +kernel
theorem dX7_init_33 : decode cX7_init 33 = .ok (.aload_n 1, 1) := by decide +kernel
theorem dX7_init_34 : decode cX7_init 34 = .ok (.putfield 25, 3) := by decide +kernel
theorem dX7_init_37 : decode cX7_init 37 = .ok (.aload_n 0, 1) := by decide +kernel
theorem dX7_init_38 : decode cX7_init 38 = .ok (.aload_n 2, 1) := by decide +kernel
theorem dX7_init_39 : decode cX7_init 39 = .ok (.putfield 29, 3) := by decide +kernel
theorem dX7_init_42 : decode cX7_init 42 = .ok (.return_, 1) := by decide +kernel
theorem dX8_init_0 : decode cX8_init 0 = .ok (.aload_n 0, 1) := by decide +kernel
theorem dX8_init_1 : decode cX8_init 1 = .ok (.invokespecial 3, 3) := by decide +kernel
theorem dX8_init_4 : decode cX8_init 4 = .ok (.aload_n 0, 1) := by decide +kernel
theorem dX8_init_5 : decode cX8_init 5 = .ok (.new 9, 3) := by decide +kernel
theorem dX8_init_8 : decode cX8_init 8 = .ok (.dup, 1) := by decide +kernel
theorem dX8_init_9 : decode cX8_init 9 = .ok (.invokespecial 11, 3) := by decide +kernel
theorem dX8_init_12 : decode cX8_init 12 = .ok (.putfield 12, 3) := by decide +kernel
theorem dX8_init_15 : decode cX8_init 15 = .ok (.aload_n 0, 1) := by decide +kernel
theorem dX8_init_16 : decode cX8_init 16 = .ok (.sipush 144, 3) := by decide +kernel
theorem dX8_init_19 : decode cX8_init 19 = .ok (.newarray .int, 2) := by decide +kernel
theorem dX8_init_21 : decode cX8_init 21 = .ok (.putfield 16, 3) := by decide +kernel
theorem dX8_init_24 : decode cX8_init 24 = .ok (.aload_n 0, 1) := by decide +kernel
theorem dX8_init_25 : decode cX8_init 25 = .ok (.new 20, 3) := by decide +kernel
theorem dX8_init_28 : decode cX8_init 28 = .ok (.dup, 1) := by decide +kernel
theorem dX8_init_29 : decode cX8_init 29 = .ok (.aload_n 0, 1) := by decide +kernel
theorem dX8_init_30 : decode cX8_init 30 = .ok (.getfield 12, 3) := by decide +kernel
theorem dX8_init_33 : decode cX8_init 33 = .ok (.aload_n 0, 1) := by decide +kernel
theorem dX8_init_34 : decode cX8_init 34 = .ok (.getfield 16, 3) := by decide +kernel
theorem dX8_init_37 : decode cX8_init 37 = .ok (.invokespecial 22, 3) := by decide +kernel
theorem dX8_init_40 : decode cX8_init 40 = .ok (.putfield 25, 3) := by decide +kernel
theorem dX8_init_43 : decode cX8_init 43 = .ok (.aload_n 0, 1) := by decide +kernel
theorem dX8_init_44 : decode cX8_init 44 = .ok (.new 29, 3) := by decide +kernel
theorem dX8_init_47 : decode cX8_init 47 = .ok (.dup, 1) := by decide +kernel
theorem dX8_init_48 : decode cX8_init 48 = .ok (.invokespecial 31, 3) := by decide +kernel
theorem dX8_init_51 : decode cX8_init 51 = .ok (.putfield 32, 3) := by decide +kernel
theorem dX8_init_54 : decode cX8_init 54 = .ok (.aload_n 0, 1) := by decide +kernel
theorem dX8_init_55 : decode cX8_init 55 = .ok (.new 36, 3) := by decide +kernel
theorem dX8_init_58 : decode cX8_init 58 = .ok (.dup, 1) := by decide +kernel
theorem dX8_init_59 : decode cX8_init 59 = .ok (.aload_n 0, 1) := by decide +kernel
theorem dX8_init_60 : decode cX8_init 60 = .ok (.getfield 12, 3) := by decide +kernel
theorem dX8_init_63 : decode cX8_init 63 = .ok (.invokespecial 38, 3) := by decide +kernel
theorem dX8_init_66 : decode cX8_init 66 = .ok (.putfield 41, 3) := by decide +kernel
theorem dX8_init_69 : decode cX8_init 69 = .ok (.aload_n 0, 1) := by decide +kernel
theorem dX8_init_70 : decode cX8_init 70 = .ok (.new 45, 3) := by decide +kernel
theorem dX8_init_73 : decode cX8_init 73 = .ok (.dup, 1) := by decide +kernel
theorem dX8_init_74 : decode cX8_init 74 = .ok (.invokespecial 47, 3) := by decide +kernel
theorem dX8_init_77 : decode cX8_init 77 = .ok (.putfield 48, 3) := by decide +kernel
theorem dX8_init_80 : decode cX8_init 80 = .ok (.aload_n 0, 1) := by decide +kernel
theorem dX8_init_81 : decode cX8_init 81 = .ok (.new 52, 3) := by decide +kernel
theorem dX8_init_84 : decode cX8_init 84 = .ok (.dup, 1) := by decide +kernel
theorem dX8_init_85 : decode cX8_init 85 = .ok (.aload_n 0, 1) := by decide +kernel
theorem dX8_init_86 : decode cX8_init 86 = .ok (.getfield 12, 3) := by decide +kernel
theorem dX8_init_89 : decode cX8_init 89 = .ok (.aload_n 0, 1) := by decide +kernel
theorem dX8_init_90 : decode cX8_init 90 = .ok (.getfield 16, 3) := by decide +kernel
theorem dX8_init_93 : decode cX8_init 93 = .ok (.invokespecial 54, 3) := by decide +kernel
theorem dX8_init_96 : decode cX8_init 96 = .ok (.putfield 55, 3) := by decide +kernel
theorem dX8_init_99 : decode cX8_init 99 = .ok (.aload_n 0, 1) := by decide +kernel
theorem dX8_init_100 : decode cX8_init 100 = .ok (.new 52, 3) := by decide +kernel
theorem dX8_init_103 : decode cX8_init 103 = .ok (.dup, 1) := by decide +kernel
theorem dX8_init_104 : decode cX8_init 104 = .ok (.aload_n 0, 1) := by decide +kernel
theorem dX8_init_105 : decode cX8_init 105 = .ok (.getfield 12, 3) := by decide +kernel
theorem dX8_init_108 : decode cX8_init 108 = .ok (.aload_n 0, 1) := by decide +kernel
theorem dX8_init_109 : decode cX8_init 109 = .ok (.getfield 16, 3) := by decide +kernel
theorem dX8_init_112 : decode cX8_init 112 = .ok (.invokespecial 54, 3) := by decide +kernel
theorem dX8_init_115 : decode cX8_init 115 = .ok (.putfield 59, 3) := by decide +kernel
theorem dX8_init_118 : decode cX8_init 118 = .ok (.aload_n 0, 1) := by decide +kernel
theorem dX8_init_119 : decode cX8_init 119 = .ok (.bipush 6, 2) := by decide +kernel
theorem dX8_init_121 : decode cX8_init 121 = .ok (.iconst 5, 1) := by decide +kernel
theorem dX8_init_122 : decode cX8_init 122 = .ok (.invokevirtual 62, 3) := by decide +kernel
theorem dX8_init_125 : decode cX8_init 125 = .ok (.return_, 1) := by decide +kernel
theorem dL_cell_0 : decode cL_cell 0 = .ok (.iload_n 1, 1) := by decide +kernel
theorem dL_cell_1 : decode cL_cell 1 = .ok (.aload_n 0, 1) := by decide +kernel
theorem dL_cell_2 : decode cL_cell 2 = .ok (.arraylength, 1) := by decide +kernel
theorem dL_cell_3 : decode cL_cell 3 = .ok (.if_icmp .ge 9, 3) := by decide +kernel
theorem dL_cell_6 : decode cL_cell 6 = .ok (.aload_n 0, 1) := by decide +kernel
theorem dL_cell_7 : decode cL_cell 7 = .ok (.iload_n 1, 1) := by decide +kernel
theorem dL_cell_8 : decode cL_cell 8 = .ok (.iaload, 1) := by decide +kernel
theorem dL_cell_9 : decode cL_cell 9 = .ok (.goto 11, 3) := by decide +kernel
theorem dL_cell_12 : decode cL_cell 12 = .ok (.ldc 7, 2) := by decide +kernel
theorem dL_cell_14 : decode cL_cell 14 = .ok (.iload_n 1, 1) := by decide +kernel
theorem dL_cell_15 : decode cL_cell 15 = .ok (.imul, 1) := by decide +kernel
theorem dL_cell_16 : decode cL_cell 16 = .ok (.sipush 173, 3) := by decide +kernel
theorem dL_cell_19 : decode cL_cell 19 = .ok (.iadd, 1) := by decide +kernel
theorem dL_cell_20 : decode cL_cell 20 = .ok (.ireturn, 1) := by decide +kernel
theorem dL_print_0 : decode cL_print 0 = .ok (.lconst 0, 1) := by decide +kernel
theorem dL_print_1 : decode cL_print 1 = .ok (.lstore_n 1, 1) := by decide +kernel
theorem dL_print_2 : decode cL_print 2 = .ok (.iconst 0, 1) := by decide +kernel
theorem dL_print_3 : decode cL_print 3 = .ok (.istore_n 3, 1) := by decide +kernel
theorem dL_print_4 : decode cL_print 4 = .ok (.iload_n 3, 1) := by decide +kernel
theorem dL_print_5 : decode cL_print 5 = .ok (.aload_n 0, 1) := by decide +kernel
theorem dL_print_6 : decode cL_print 6 = .ok (.iconst 0, 1) := by decide +kernel
theorem dL_print_7 : decode cL_print 7 = .ok (.invokevirtual 9, 3) := by decide +kernel
theorem dL_print_10 : decode cL_print 10 = .ok (.aload_n 0, 1) := by decide +kernel
theorem dL_print_11 : decode cL_print 11 = .ok (.iconst 1, 1) := by decide +kernel
theorem dL_print_12 : decode cL_print 12 = .ok (.invokevirtual 9, 3) := by decide +kernel
theorem dL_print_15 : decode cL_print 15 = .ok (.imul, 1) := by decide +kernel
theorem dL_print_16 : decode cL_print 16 = .ok (.if_icmp .ge 28, 3) := by decide +kernel
theorem dL_print_19 : decode cL_print 19 = .ok (.ldc2_w 55, 3) := by decide +kernel
theorem dL_print_22 : decode cL_print 22 = .ok (.lload_n 1, 1) := by decide +kernel
theorem dL_print_23 : decode cL_print 23 = .ok (.lmul, 1) := by decide +kernel
theorem dL_print_24 : decode cL_print 24 = .ok (.ldc2_w 57, 3) := by decide +kernel
theorem dL_print_27 : decode cL_print 27 = .ok (.aload_n 0, 1) := by decide +kernel
theorem dL_print_28 : decode cL_print 28 = .ok (.iload_n 3, 1) := by decide +kernel
theorem dL_print_29 : decode cL_print 29 = .ok (.invokevirtual 25, 3) := by decide +kernel
theorem dL_print_32 : decode cL_print 32 = .ok (.i2l, 1) := by decide +kernel
theorem dL_print_33 : decode cL_print 33 = .ok (.lmul, 1) := by decide +kernel
theorem dL_print_34 : decode cL_print 34 = .ok (.ladd, 1) := by decide +kernel
theorem dL_print_35 : decode cL_print 35 = .ok (.lconst 1, 1) := by decide +kernel
theorem dL_print_36 : decode cL_print 36 = .ok (.ladd, 1) := by decide +kernel
theorem dL_print_37 : decode cL_print 37 = .ok (.lstore_n 1, 1) := by decide +kernel
theorem dL_print_38 : decode cL_print 38 = .ok (.iinc 3 1, 3) := by decide +kernel
theorem dL_print_41 : decode cL_print 41 = .ok (.goto (-37), 3) := by decide +kernel
theorem dL_print_44 : decode cL_print 44 = .ok (.lload_n 1, 1) := by decide +kernel
theorem dL_print_45 : decode cL_print 45 = .ok (.lreturn, 1) := by decide +kernel
theorem dL_walks_0 : decode cL_walks 0 = .ok (.aload_n 0, 1) := by decide +kernel
theorem dL_walks_1 : decode cL_walks 1 = .ok (.invokevirtual 59, 3) := by decide +kernel
theorem dL_walks_4 : decode cL_walks 4 = .ok (.pop, 1) := by decide +kernel
theorem dL_walks_5 : decode cL_walks 5 = .ok (.iload_n 1, 1) := by decide +kernel
theorem dL_walks_6 : decode cL_walks 6 = .ok (.istore 5, 2) := by decide +kernel
theorem dL_walks_8 : decode cL_walks 8 = .ok (.iload_n 2, 1) := by decide +kernel
theorem dL_walks_9 : decode cL_walks 9 = .ok (.istore 6, 2) := by decide +kernel
theorem dL_walks_11 : decode cL_walks 11 = .ok (.iconst 0, 1) := by decide +kernel
theorem dL_walks_12 : decode cL_walks 12 = .ok (.istore 7, 2) := by decide +kernel
theorem dL_walks_14 : decode cL_walks 14 = .ok (.iconst 0, 1) := by decide +kernel
theorem dL_walks_15 : decode cL_walks 15 = .ok (.istore 8, 2) := by decide +kernel
theorem dL_walks_17 : decode cL_walks 17 = .ok (.iconst 1, 1) := by decide +kernel
theorem dL_walks_18 : decode cL_walks 18 = .ok (.istore 9, 2) := by decide +kernel
theorem dL_walks_20 : decode cL_walks 20 = .ok (.iconst 1, 1) := by decide +kernel
theorem dL_walks_21 : decode cL_walks 21 = .ok (.istore 10, 2) := by decide +kernel
theorem dL_walks_23 : decode cL_walks 23 = .ok (.bipush 32, 2) := by decide +kernel
theorem dL_walks_25 : decode cL_walks 25 = .ok (.newarray .int, 2) := by decide +kernel
theorem dL_walks_27 : decode cL_walks 27 = .ok (.astore 11, 2) := by decide +kernel
theorem dL_walks_29 : decode cL_walks 29 = .ok (.aload 11, 2) := by decide +kernel
theorem dL_walks_31 : decode cL_walks 31 = .ok (.iconst 0, 1) := by decide +kernel
theorem dL_walks_32 : decode cL_walks 32 = .ok (.iload_n 1, 1) := by decide +kernel
theorem dL_walks_33 : decode cL_walks 33 = .ok (.iastore, 1) := by decide +kernel
theorem dL_walks_34 : decode cL_walks 34 = .ok (.aload_n 0, 1) := by decide +kernel
theorem dL_walks_35 : decode cL_walks 35 = .ok (.iconst 0, 1) := by decide +kernel
theorem dL_walks_36 : decode cL_walks 36 = .ok (.invokevirtual 9, 3) := by decide +kernel
theorem dL_walks_39 : decode cL_walks 39 = .ok (.istore 12, 2) := by decide +kernel
theorem dL_walks_41 : decode cL_walks 41 = .ok (.iconst 0, 1) := by decide +kernel
theorem dL_walks_42 : decode cL_walks 42 = .ok (.istore 13, 2) := by decide +kernel
theorem dL_walks_44 : decode cL_walks 44 = .ok (.iconst 0, 1) := by decide +kernel
theorem dL_walks_45 : decode cL_walks 45 = .ok (.istore 14, 2) := by decide +kernel
theorem dL_walks_47 : decode cL_walks 47 = .ok (.iload 14, 2) := by decide +kernel
theorem dL_walks_49 : decode cL_walks 49 = .ok (.bipush 20, 2) := by decide +kernel
theorem dL_walks_51 : decode cL_walks 51 = .ok (.if_icmp .ge 348, 3) := by decide +kernel
theorem dL_walks_54 : decode cL_walks 54 = .ok (.iload 14, 2) := by decide +kernel
theorem dL_walks_56 : decode cL_walks 56 = .ok (.bipush 10, 2) := by decide +kernel
theorem dL_walks_58 : decode cL_walks 58 = .ok (.if_icmp .ge 7, 3) := by decide +kernel
theorem dL_walks_61 : decode cL_walks 61 = .ok (.iload_n 3, 1) := by decide +kernel
theorem dL_walks_62 : decode cL_walks 62 = .ok (.goto 5, 3) := by decide +kernel
theorem dL_walks_65 : decode cL_walks 65 = .ok (.iload 4, 2) := by decide +kernel
theorem dL_walks_67 : decode cL_walks 67 = .ok (.iconst 3, 1) := by decide +kernel
theorem dL_walks_68 : decode cL_walks 68 = .ok (.iload 14, 2) := by decide +kernel
theorem dL_walks_70 : decode cL_walks 70 = .ok (.bipush 10, 2) := by decide +kernel
theorem dL_walks_72 : decode cL_walks 72 = .ok (.irem, 1) := by decide +kernel
theorem dL_walks_73 : decode cL_walks 73 = .ok (.imul, 1) := by decide +kernel
theorem dL_walks_74 : decode cL_walks 74 = .ok (.ishr, 1) := by decide +kernel
theorem dL_walks_75 : decode cL_walks 75 = .ok (.bipush 7, 2) := by decide +kernel
theorem dL_walks_77 : decode cL_walks 77 = .ok (.iand, 1) := by decide +kernel
theorem dL_walks_78 : decode cL_walks 78 = .ok (.istore 15, 2) := by decide +kernel
theorem dL_walks_80 : decode cL_walks 80 = .ok (.aload_n 0, 1) := by decide +kernel
theorem dL_walks_81 : decode cL_walks 81 = .ok (.iload 15, 2) := by decide +kernel
theorem dL_walks_83 : decode cL_walks 83 = .ok (.iconst 4, 1) := by decide +kernel
theorem dL_walks_84 : decode cL_walks 84 = .ok (.if_icmp .ge 8, 3) := by decide +kernel
theorem dL_walks_87 : decode cL_walks 87 = .ok (.bipush 102, 2) := by decide +kernel
theorem dL_walks_89 : decode cL_walks 89 = .ok (.goto 17, 3) := by decide +kernel
theorem dL_walks_92 : decode cL_walks 92 = .ok (.iload 15, 2) := by decide +kernel
theorem dL_walks_94 : decode cL_walks 94 = .ok (.bipush 6, 2) := by decide +kernel
theorem dL_walks_96 : decode cL_walks 96 = .ok (.if_icmp .ge 8, 3) := by decide +kernel
theorem dL_walks_99 : decode cL_walks 99 = .ok (.bipush 114, 2) := by decide +kernel
theorem dL_walks_101 : decode cL_walks 101 = .ok (.goto 5, 3) := by decide +kernel
theorem dL_walks_104 : decode cL_walks 104 = .ok (.bipush 108, 2) := by decide +kernel
theorem dL_walks_106 : decode cL_walks 106 = .ok (.invokevirtual 63, 3) := by decide +kernel
theorem dL_walks_109 : decode cL_walks 109 = .ok (.istore 13, 2) := by decide +kernel
theorem dL_walks_111 : decode cL_walks 111 = .ok (.iload 10, 2) := by decide +kernel
theorem dL_walks_113 : decode cL_walks 113 = .ok (.ifCond .eq 233, 3) := by decide +kernel
theorem dL_walks_116 : decode cL_walks 116 = .ok (.iload 15, 2) := by decide +kernel
theorem dL_walks_118 : decode cL_walks 118 = .ok (.iconst 4, 1) := by decide +kernel
theorem dL_walks_119 : decode cL_walks 119 = .ok (.if_icmp .ge 227, 3) := by decide +kernel
theorem dL_walks_122 : decode cL_walks 122 = .ok (.aload_n 0, 1) := by decide +kernel
theorem dL_walks_123 : decode cL_walks 123 = .ok (.iload 5, 2) := by decide +kernel
theorem dL_walks_125 : decode cL_walks 125 = .ok (.iload 6, 2) := by decide +kernel
theorem dL_walks_127 : decode cL_walks 127 = .ok (.invokevirtual 15, 3) := by decide +kernel
theorem dL_walks_130 : decode cL_walks 130 = .ok (.istore 16, 2) := by decide +kernel
theorem dL_walks_132 : decode cL_walks 132 = .ok (.iload 16, 2) := by decide +kernel
theorem dL_walks_134 : decode cL_walks 134 = .ok (.ifCond .lt 7, 3) := by decide +kernel
theorem dL_walks_137 : decode cL_walks 137 = .ok (.iconst 1, 1) := by decide +kernel
theorem dL_walks_138 : decode cL_walks 138 = .ok (.goto 4, 3) := by decide +kernel
theorem dL_walks_141 : decode cL_walks 141 = .ok (.iconst 0, 1) := by decide +kernel
theorem dL_walks_142 : decode cL_walks 142 = .ok (.istore 10, 2) := by decide +kernel
theorem dL_walks_144 : decode cL_walks 144 = .ok (.iload 5, 2) := by decide +kernel
theorem dL_walks_146 : decode cL_walks 146 = .ok (.iload 12, 2) := by decide +kernel
theorem dL_walks_148 : decode cL_walks 148 = .ok (.irem, 1) := by decide +kernel
theorem dL_walks_149 : decode cL_walks 149 = .ok (.istore 17, 2) := by decide +kernel
theorem dL_walks_151 : decode cL_walks 151 = .ok (.iload 6, 2) := by decide +kernel
theorem dL_walks_153 : decode cL_walks 153 = .ok (.ifCond .ne 12, 3) := by decide +kernel
theorem dL_walks_156 : decode cL_walks 156 = .ok (.iload 17, 2) := by decide +kernel
theorem dL_walks_158 : decode cL_walks 158 = .ok (.iload 12, 2) := by decide +kernel
theorem dL_walks_160 : decode cL_walks 160 = .ok (.iconst 1, 1) := by decide +kernel
theorem dL_walks_161 : decode cL_walks 161 = .ok (.isub, 1) := by decide +kernel
theorem dL_walks_162 : decode cL_walks 162 = .ok (.if_icmp .eq 14, 3) := by decide +kernel
theorem dL_walks_165 : decode cL_walks 165 = .ok (.iload 6, 2) := by decide +kernel
theorem dL_walks_167 : decode cL_walks 167 = .ok (.iconst 2, 1) := by decide +kernel
theorem dL_walks_168 : decode cL_walks 168 = .ok (.if_icmp .ne 12, 3) := by decide +kernel
theorem dL_walks_171 : decode cL_walks 171 = .ok (.iload 17, 2) := by decide +kernel
theorem dL_walks_173 : decode cL_walks 173 = .ok (.ifCond .ne 7, 3) := by decide +kernel
theorem dL_walks_176 : decode cL_walks 176 = .ok (.iconst 1, 1) := by decide +kernel
theorem dL_walks_177 : decode cL_walks 177 = .ok (.goto 4, 3) := by decide +kernel
theorem dL_walks_180 : decode cL_walks 180 = .ok (.iconst 0, 1) := by decide +kernel
theorem dL_walks_181 : decode cL_walks 181 = .ok (.istore 18, 2) := by decide +kernel
theorem dL_walks_183 : decode cL_walks 183 = .ok (.iload 6, 2) := by decide +kernel
theorem dL_walks_185 : decode cL_walks 185 = .ok (.iconst 1, 1) := by decide +kernel
theorem dL_walks_186 : decode cL_walks 186 = .ok (.if_icmp .ne 18, 3) := by decide +kernel
theorem dL_walks_189 : decode cL_walks 189 = .ok (.iload 5, 2) := by decide +kernel
theorem dL_walks_191 : decode cL_walks 191 = .ok (.iload 12, 2) := by decide +kernel
theorem dL_walks_193 : decode cL_walks 193 = .ok (.idiv, 1) := by decide +kernel
theorem dL_walks_194 : decode cL_walks 194 = .ok (.aload_n 0, 1) := by decide +kernel
theorem dL_walks_195 : decode cL_walks 195 = .ok (.iconst 1, 1) := by decide +kernel
theorem dL_walks_196 : decode cL_walks 196 = .ok (.invokevirtual 9, 3) := by decide +kernel
theorem dL_walks_199 : decode cL_walks 199 = .ok (.iconst 1, 1) := by decide +kernel
theorem dL_walks_200 : decode cL_walks 200 = .ok (.isub, 1) := by decide +kernel
theorem dL_walks_201 : decode cL_walks 201 = .ok (.if_icmp .eq 16, 3) := by decide +kernel
theorem dL_walks_204 : decode cL_walks 204 = .ok (.iload 6, 2) := by decide +kernel
theorem dL_walks_206 : decode cL_walks 206 = .ok (.iconst 3, 1) := by decide +kernel
theorem dL_walks_207 : decode cL_walks 207 = .ok (.if_icmp .ne 14, 3) := by decide +kernel
theorem dL_walks_210 : decode cL_walks 210 = .ok (.iload 5, 2) := by decide +kernel
theorem dL_walks_212 : decode cL_walks 212 = .ok (.iload 12, 2) := by decide +kernel
theorem dL_walks_214 : decode cL_walks 214 = .ok (.if_icmp .ge 7, 3) := by decide +kernel
theorem dL_walks_217 : decode cL_walks 217 = .ok (.iconst 1, 1) := by decide +kernel
theorem dL_walks_218 : decode cL_walks 218 = .ok (.goto 4, 3) := by decide +kernel
theorem dL_walks_221 : decode cL_walks 221 = .ok (.iconst 0, 1) := by decide +kernel
theorem dL_walks_222 : decode cL_walks 222 = .ok (.istore 19, 2) := by decide +kernel
theorem dL_walks_224 : decode cL_walks 224 = .ok (.iload 18, 2) := by decide +kernel
theorem dL_walks_226 : decode cL_walks 226 = .ok (.ifCond .eq 12, 3) := by decide +kernel
theorem dL_walks_229 : decode cL_walks 229 = .ok (.aload_n 0, 1) := by decide +kernel
theorem dL_walks_230 : decode cL_walks 230 = .ok (.iconst 2, 1) := by decide +kernel
theorem dL_walks_231 : decode cL_walks 231 = .ok (.invokevirtual 9, 3) := by decide +kernel
theorem dL_walks_234 : decode cL_walks 234 = .ok (.iconst 2, 1) := by decide +kernel
theorem dL_walks_235 : decode cL_walks 235 = .ok (.if_icmp .eq 17, 3) := by decide +kernel
theorem dL_walks_238 : decode cL_walks 238 = .ok (.iload 19, 2) := by decide +kernel
theorem dL_walks_240 : decode cL_walks 240 = .ok (.ifCond .eq 16, 3) := by decide +kernel
theorem dL_walks_243 : decode cL_walks 243 = .ok (.aload_n 0, 1) := by decide +kernel
theorem dL_walks_244 : decode cL_walks 244 = .ok (.iconst 4, 1) := by decide +kernel
theorem dL_walks_245 : decode cL_walks 245 = .ok (.invokevirtual 9, 3) := by decide +kernel
theorem dL_walks_248 : decode cL_walks 248 = .ok (.iconst 2, 1) := by decide +kernel
theorem dL_walks_249 : decode cL_walks 249 = .ok (.if_icmp .ne 7, 3) := by decide +kernel
theorem dL_walks_252 : decode cL_walks 252 = .ok (.iconst 1, 1) := by decide +kernel
theorem dL_walks_253 : decode cL_walks 253 = .ok (.goto 4, 3) := by decide +kernel
theorem dL_walks_256 : decode cL_walks 256 = .ok (.iconst 0, 1) := by decide +kernel
theorem dL_walks_257 : decode cL_walks 257 = .ok (.istore 20, 2) := by decide +kernel
theorem dL_walks_259 : decode cL_walks 259 = .ok (.iload 10, 2) := by decide +kernel
theorem dL_walks_261 : decode cL_walks 261 = .ok (.ifCond .eq 82, 3) := by decide +kernel
theorem dL_walks_264 : decode cL_walks 264 = .ok (.iload 20, 2) := by decide +kernel
theorem dL_walks_266 : decode cL_walks 266 = .ok (.ifCond .eq 10, 3) := by decide +kernel
theorem dL_walks_269 : decode cL_walks 269 = .ok (.iconst 1, 1) := by decide +kernel
theorem dL_walks_270 : decode cL_walks 270 = .ok (.iload 7, 2) := by decide +kernel
theorem dL_walks_272 : decode cL_walks 272 = .ok (.isub, 1) := by decide +kernel
theorem dL_walks_273 : decode cL_walks 273 = .ok (.goto 5, 3) := by decide +kernel
theorem dL_walks_276 : decode cL_walks 276 = .ok (.iload 7, 2) := by decide +kernel
theorem dL_walks_278 : decode cL_walks 278 = .ok (.istore 7, 2) := by decide +kernel
theorem dL_walks_280 : decode cL_walks 280 = .ok (.iinc 8 1, 3) := by decide +kernel
theorem dL_walks_283 : decode cL_walks 283 = .ok (.iload 16, 2) := by decide +kernel
theorem dL_walks_285 : decode cL_walks 285 = .ok (.istore 5, 2) := by decide +kernel
theorem dL_walks_287 : decode cL_walks 287 = .ok (.iconst 0, 1) := by decide +kernel
theorem dL_walks_288 : decode cL_walks 288 = .ok (.istore 21, 2) := by decide +kernel
theorem dL_walks_290 : decode cL_walks 290 = .ok (.iconst 0, 1) := by decide +kernel
theorem dL_walks_291 : decode cL_walks 291 = .ok (.istore 22, 2) := by decide +kernel
theorem dL_walks_293 : decode cL_walks 293 = .ok (.iload 22, 2) := by decide +kernel
theorem dL_walks_295 : decode cL_walks 295 = .ok (.iload 9, 2) := by decide +kernel
theorem dL_walks_297 : decode cL_walks 297 = .ok (.if_icmp .ge 31, 3) := by decide +kernel
theorem dL_walks_300 : decode cL_walks 300 = .ok (.iload 21, 2) := by decide +kernel
theorem dL_walks_302 : decode cL_walks 302 = .ok (.ifCond .ne 13, 3) := by decide +kernel
theorem dL_walks_305 : decode cL_walks 305 = .ok (.aload 11, 2) := by decide +kernel
theorem dL_walks_307 : decode cL_walks 307 = .ok (.iload 22, 2) := by decide +kernel
theorem dL_walks_309 : decode cL_walks 309 = .ok (.iaload, 1) := by decide +kernel
theorem dL_walks_310 : decode cL_walks 310 = .ok (.iload 5, 2) := by decide +kernel
theorem dL_walks_312 : decode cL_walks 312 = .ok (.if_icmp .ne 7, 3) := by decide +kernel
theorem dL_walks_315 : decode cL_walks 315 = .ok (.iconst 1, 1) := by decide +kernel
theorem dL_walks_316 : decode cL_walks 316 = .ok (.goto 4, 3) := by decide +kernel
theorem dL_walks_319 : decode cL_walks 319 = .ok (.iconst 0, 1) := by decide +kernel
theorem dL_walks_320 : decode cL_walks 320 = .ok (.istore 21, 2) := by decide +kernel
theorem dL_walks_322 : decode cL_walks 322 = .ok (.iinc 22 1, 3) := by decide +kernel
theorem dL_walks_325 : decode cL_walks 325 = .ok (.goto (-32), 3) := by decide +kernel
theorem dL_walks_328 : decode cL_walks 328 = .ok (.iload 21, 2) := by decide +kernel
theorem dL_walks_330 : decode cL_walks 330 = .ok (.ifCond .ne 13, 3) := by decide +kernel
theorem dL_walks_333 : decode cL_walks 333 = .ok (.aload 11, 2) := by decide +kernel
theorem dL_walks_335 : decode cL_walks 335 = .ok (.iload 9, 2) := by decide +kernel
theorem dL_walks_337 : decode cL_walks 337 = .ok (.iload 5, 2) := by decide +kernel
theorem dL_walks_339 : decode cL_walks 339 = .ok (.iastore, 1) := by decide +kernel
theorem dL_walks_340 : decode cL_walks 340 = .ok (.iinc 9 1, 3) := by decide +kernel
theorem dL_walks_343 : decode cL_walks 343 = .ok (.goto 50, 3) := by decide +kernel
theorem dL_walks_346 : decode cL_walks 346 = .ok (.iload 10, 2) := by decide +kernel
theorem dL_walks_348 : decode cL_walks 348 = .ok (.ifCond .eq 45, 3) := by decide +kernel
theorem dL_walks_351 : decode cL_walks 351 = .ok (.iload 15, 2) := by decide +kernel
theorem dL_walks_353 : decode cL_walks 353 = .ok (.bipush 6, 2) := by decide +kernel
theorem dL_walks_355 : decode cL_walks 355 = .ok (.if_icmp .ge 7, 3) := by decide +kernel
theorem dL_walks_358 : decode cL_walks 358 = .ok (.iconst 1, 1) := by decide +kernel
theorem dL_walks_359 : decode cL_walks 359 = .ok (.goto 4, 3) := by decide +kernel
theorem dL_walks_362 : decode cL_walks 362 = .ok (.iconst 0, 1) := by decide +kernel
theorem dL_walks_363 : decode cL_walks 363 = .ok (.iload 7, 2) := by decide +kernel
theorem dL_walks_365 : decode cL_walks 365 = .ok (.ifCond .ne 7, 3) := by decide +kernel
theorem dL_walks_368 : decode cL_walks 368 = .ok (.iconst 1, 1) := by decide +kernel
theorem dL_walks_369 : decode cL_walks 369 = .ok (.goto 4, 3) := by decide +kernel
theorem dL_walks_372 : decode cL_walks 372 = .ok (.iconst 0, 1) := by decide +kernel
theorem dL_walks_373 : decode cL_walks 373 = .ok (.if_icmp .ne 12, 3) := by decide +kernel
theorem dL_walks_376 : decode cL_walks 376 = .ok (.iload 6, 2) := by decide +kernel
theorem dL_walks_378 : decode cL_walks 378 = .ok (.iconst 1, 1) := by decide +kernel
theorem dL_walks_379 : decode cL_walks 379 = .ok (.iadd, 1) := by decide +kernel
theorem dL_walks_380 : decode cL_walks 380 = .ok (.iconst 4, 1) := by decide +kernel
theorem dL_walks_381 : decode cL_walks 381 = .ok (.irem, 1) := by decide +kernel
theorem dL_walks_382 : decode cL_walks 382 = .ok (.goto 9, 3) := by decide +kernel
theorem dL_walks_385 : decode cL_walks 385 = .ok (.iload 6, 2) := by decide +kernel
theorem dL_walks_387 : decode cL_walks 387 = .ok (.iconst 3, 1) := by decide +kernel
theorem dL_walks_388 : decode cL_walks 388 = .ok (.iadd, 1) := by decide +kernel
theorem dL_walks_389 : decode cL_walks 389 = .ok (.iconst 4, 1) := by decide +kernel
theorem dL_walks_390 : decode cL_walks 390 = .ok (.irem, 1) := by decide +kernel
theorem dL_walks_391 : decode cL_walks 391 = .ok (.istore 6, 2) := by decide +kernel
theorem dL_walks_393 : decode cL_walks 393 = .ok (.iinc 14 1, 3) := by decide +kernel
theorem dL_walks_396 : decode cL_walks 396 = .ok (.goto (-349), 3) := by decide +kernel
theorem dL_walks_399 : decode cL_walks 399 = .ok (.aload_n 0, 1) := by decide +kernel
theorem dL_walks_400 : decode cL_walks 400 = .ok (.iload_n 1, 1) := by decide +kernel
theorem dL_walks_401 : decode cL_walks 401 = .ok (.iload_n 2, 1) := by decide +kernel
theorem dL_walks_402 : decode cL_walks 402 = .ok (.iconst 0, 1) := by decide +kernel
theorem dL_walks_403 : decode cL_walks 403 = .ok (.invokevirtual 67, 3) := by decide +kernel
theorem dL_walks_406 : decode cL_walks 406 = .ok (.iload 5, 2) := by decide +kernel
theorem dL_walks_408 : decode cL_walks 408 = .ok (.if_icmp .ne 55, 3) := by decide +kernel
theorem dL_walks_411 : decode cL_walks 411 = .ok (.aload_n 0, 1) := by decide +kernel
theorem dL_walks_412 : decode cL_walks 412 = .ok (.iload_n 1, 1) := by decide +kernel
theorem dL_walks_413 : decode cL_walks 413 = .ok (.iload_n 2, 1) := by decide +kernel
theorem dL_walks_414 : decode cL_walks 414 = .ok (.iconst 1, 1) := by decide +kernel
theorem dL_walks_415 : decode cL_walks 415 = .ok (.invokevirtual 67, 3) := by decide +kernel
theorem dL_walks_418 : decode cL_walks 418 = .ok (.iload 6, 2) := by decide +kernel
theorem dL_walks_420 : decode cL_walks 420 = .ok (.if_icmp .ne 43, 3) := by decide +kernel
theorem dL_walks_423 : decode cL_walks 423 = .ok (.aload_n 0, 1) := by decide +kernel
theorem dL_walks_424 : decode cL_walks 424 = .ok (.iload_n 1, 1) := by decide +kernel
theorem dL_walks_425 : decode cL_walks 425 = .ok (.iload_n 2, 1) := by decide +kernel
theorem dL_walks_426 : decode cL_walks 426 = .ok (.iconst 2, 1) := by decide +kernel
theorem dL_walks_427 : decode cL_walks 427 = .ok (.invokevirtual 67, 3) := by decide +kernel
theorem dL_walks_430 : decode cL_walks 430 = .ok (.iload 7, 2) := by decide +kernel
theorem dL_walks_432 : decode cL_walks 432 = .ok (.if_icmp .ne 31, 3) := by decide +kernel
theorem dL_walks_435 : decode cL_walks 435 = .ok (.aload_n 0, 1) := by decide +kernel
theorem dL_walks_436 : decode cL_walks 436 = .ok (.iload_n 1, 1) := by decide +kernel
theorem dL_walks_437 : decode cL_walks 437 = .ok (.iload_n 2, 1) := by decide +kernel
theorem dL_walks_438 : decode cL_walks 438 = .ok (.iconst 3, 1) := by decide +kernel
theorem dL_walks_439 : decode cL_walks 439 = .ok (.invokevirtual 67, 3) := by decide +kernel
theorem dL_walks_442 : decode cL_walks 442 = .ok (.iload 8, 2) := by decide +kernel
theorem dL_walks_444 : decode cL_walks 444 = .ok (.if_icmp .ne 19, 3) := by decide +kernel
theorem dL_walks_447 : decode cL_walks 447 = .ok (.aload_n 0, 1) := by decide +kernel
theorem dL_walks_448 : decode cL_walks 448 = .ok (.iload_n 1, 1) := by decide +kernel
theorem dL_walks_449 : decode cL_walks 449 = .ok (.iload_n 2, 1) := by decide +kernel
theorem dL_walks_450 : decode cL_walks 450 = .ok (.iconst 4, 1) := by decide +kernel
theorem dL_walks_451 : decode cL_walks 451 = .ok (.invokevirtual 67, 3) := by decide +kernel
theorem dL_walks_454 : decode cL_walks 454 = .ok (.iload 9, 2) := by decide +kernel
theorem dL_walks_456 : decode cL_walks 456 = .ok (.if_icmp .ne 7, 3) := by decide +kernel
theorem dL_walks_459 : decode cL_walks 459 = .ok (.iconst 1, 1) := by decide +kernel
theorem dL_walks_460 : decode cL_walks 460 = .ok (.goto 4, 3) := by decide +kernel
theorem dL_walks_463 : decode cL_walks 463 = .ok (.iconst 0, 1) := by decide +kernel
theorem dL_walks_464 : decode cL_walks 464 = .ok (.istore 14, 2) := by decide +kernel
theorem dL_walks_466 : decode cL_walks 466 = .ok (.aload_n 0, 1) := by decide +kernel
theorem dL_walks_467 : decode cL_walks 467 = .ok (.bipush 120, 2) := by decide +kernel
theorem dL_walks_469 : decode cL_walks 469 = .ok (.invokevirtual 63, 3) := by decide +kernel
theorem dL_walks_472 : decode cL_walks 472 = .ok (.pop, 1) := by decide +kernel
theorem dL_walks_473 : decode cL_walks 473 = .ok (.iload 14, 2) := by decide +kernel
theorem dL_walks_475 : decode cL_walks 475 = .ok (.ifCond .eq 46, 3) := by decide +kernel
theorem dL_walks_478 : decode cL_walks 478 = .ok (.aload_n 0, 1) := by decide +kernel
theorem dL_walks_479 : decode cL_walks 479 = .ok (.iload_n 1, 1) := by decide +kernel
theorem dL_walks_480 : decode cL_walks 480 = .ok (.iload_n 2, 1) := by decide +kernel
theorem dL_walks_481 : decode cL_walks 481 = .ok (.iconst 0, 1) := by decide +kernel
theorem dL_walks_482 : decode cL_walks 482 = .ok (.invokevirtual 67, 3) := by decide +kernel
theorem dL_walks_485 : decode cL_walks 485 = .ok (.bipush (-100), 2) := by decide +kernel
theorem dL_walks_487 : decode cL_walks 487 = .ok (.iload 13, 2) := by decide +kernel
theorem dL_walks_489 : decode cL_walks 489 = .ok (.isub, 1) := by decide +kernel
theorem dL_walks_490 : decode cL_walks 490 = .ok (.if_icmp .ne 31, 3) := by decide +kernel
theorem dL_walks_493 : decode cL_walks 493 = .ok (.aload_n 0, 1) := by decide +kernel
theorem dL_walks_494 : decode cL_walks 494 = .ok (.iload_n 1, 1) := by decide +kernel
theorem dL_walks_495 : decode cL_walks 495 = .ok (.iconst 4, 1) := by decide +kernel
theorem dL_walks_496 : decode cL_walks 496 = .ok (.iconst 0, 1) := by decide +kernel
theorem dL_walks_497 : decode cL_walks 497 = .ok (.invokevirtual 67, 3) := by decide +kernel
theorem dL_walks_500 : decode cL_walks 500 = .ok (.bipush (-2), 2) := by decide +kernel
theorem dL_walks_502 : decode cL_walks 502 = .ok (.if_icmp .ne 19, 3) := by decide +kernel
theorem dL_walks_505 : decode cL_walks 505 = .ok (.aload_n 0, 1) := by decide +kernel
theorem dL_walks_506 : decode cL_walks 506 = .ok (.iload_n 1, 1) := by decide +kernel
theorem dL_walks_507 : decode cL_walks 507 = .ok (.iconst 0, 1) := by decide +kernel
theorem dL_walks_508 : decode cL_walks 508 = .ok (.iconst 5, 1) := by decide +kernel
theorem dL_walks_509 : decode cL_walks 509 = .ok (.invokevirtual 67, 3) := by decide +kernel
theorem dL_walks_512 : decode cL_walks 512 = .ok (.bipush (-2), 2) := by decide +kernel
theorem dL_walks_514 : decode cL_walks 514 = .ok (.if_icmp .ne 7, 3) := by decide +kernel
theorem dL_walks_517 : decode cL_walks 517 = .ok (.iconst 1, 1) := by decide +kernel
theorem dL_walks_518 : decode cL_walks 518 = .ok (.goto 4, 3) := by decide +kernel
theorem dL_walks_521 : decode cL_walks 521 = .ok (.iconst 0, 1) := by decide +kernel
theorem dL_walks_522 : decode cL_walks 522 = .ok (.ireturn, 1) := by decide +kernel
theorem dL_edits_0 : decode cL_edits 0 = .ok (.aload_n 0, 1) := by decide +kernel
theorem dL_edits_1 : decode cL_edits 1 = .ok (.iconst 0, 1) := by decide +kernel
theorem dL_edits_2 : decode cL_edits 2 = .ok (.invokevirtual 9, 3) := by decide +kernel
theorem dL_edits_5 : decode cL_edits 5 = .ok (.aload_n 0, 1) := by decide +kernel
theorem dL_edits_6 : decode cL_edits 6 = .ok (.iconst 1, 1) := by decide +kernel
theorem dL_edits_7 : decode cL_edits 7 = .ok (.invokevirtual 9, 3) := by decide +kernel
theorem dL_edits_10 : decode cL_edits 10 = .ok (.imul, 1) := by decide +kernel
theorem dL_edits_11 : decode cL_edits 11 = .ok (.istore 4, 2) := by decide +kernel
theorem dL_edits_13 : decode cL_edits 13 = .ok (.iload_n 1, 1) := by decide +kernel
theorem dL_edits_14 : decode cL_edits 14 = .ok (.iconst 3, 1) := by decide +kernel
theorem dL_edits_15 : decode cL_edits 15 = .ok (.ishr, 1) := by decide +kernel
theorem dL_edits_16 : decode cL_edits 16 = .ok (.iload 4, 2) := by decide +kernel
theorem dL_edits_18 : decode cL_edits 18 = .ok (.invokestatic 44, 3) := by decide +kernel
theorem dL_edits_21 : decode cL_edits 21 = .ok (.istore 5, 2) := by decide +kernel
theorem dL_edits_23 : decode cL_edits 23 = .ok (.iload_n 1, 1) := by decide +kernel
theorem dL_edits_24 : decode cL_edits 24 = .ok (.bipush 11, 2) := by decide +kernel
theorem dL_edits_26 : decode cL_edits 26 = .ok (.ishr, 1) := by decide +kernel
theorem dL_edits_27 : decode cL_edits 27 = .ok (.iconst 3, 1) := by decide +kernel
theorem dL_edits_28 : decode cL_edits 28 = .ok (.invokestatic 44, 3) := by decide +kernel
theorem dL_edits_31 : decode cL_edits 31 = .ok (.istore 6, 2) := by decide +kernel
theorem dL_edits_33 : decode cL_edits 33 = .ok (.aload_n 0, 1) := by decide +kernel
theorem dL_edits_34 : decode cL_edits 34 = .ok (.invokestatic 70, 3) := by decide +kernel
theorem dL_edits_37 : decode cL_edits 37 = .ok (.lstore 7, 2) := by decide +kernel
theorem dL_edits_39 : decode cL_edits 39 = .ok (.iload_n 1, 1) := by decide +kernel
theorem dL_edits_40 : decode cL_edits 40 = .ok (.iconst 5, 1) := by decide +kernel
theorem dL_edits_41 : decode cL_edits 41 = .ok (.invokestatic 44, 3) := by decide +kernel
theorem dL_edits_44 : decode cL_edits 44 = .ok (.istore 9, 2) := by decide +kernel
theorem dL_edits_46 : decode cL_edits 46 = .ok (.iload 9, 2) := by decide +kernel
theorem dL_edits_48 : decode cL_edits 48 = .ok (.iconst 3, 1) := by decide +kernel
theorem dL_edits_49 : decode cL_edits 49 = .ok (.if_icmp .ge 171, 3) := by decide +kernel
theorem dL_edits_52 : decode cL_edits 52 = .ok (.aload_n 0, 1) := by decide +kernel
theorem dL_edits_53 : decode cL_edits 53 = .ok (.iload 5, 2) := by decide +kernel
theorem dL_edits_55 : decode cL_edits 55 = .ok (.iload 6, 2) := by decide +kernel
theorem dL_edits_57 : decode cL_edits 57 = .ok (.invokevirtual 74, 3) := by decide +kernel
theorem dL_edits_60 : decode cL_edits 60 = .ok (.istore 10, 2) := by decide +kernel
theorem dL_edits_62 : decode cL_edits 62 = .ok (.bipush 64, 2) := by decide +kernel
theorem dL_edits_64 : decode cL_edits 64 = .ok (.newarray .int, 2) := by decide +kernel
theorem dL_edits_66 : decode cL_edits 66 = .ok (.astore 11, 2) := by decide +kernel
theorem dL_edits_68 : decode cL_edits 68 = .ok (.iconst 0, 1) := by decide +kernel
theorem dL_edits_69 : decode cL_edits 69 = .ok (.istore 12, 2) := by decide +kernel
theorem dL_edits_71 : decode cL_edits 71 = .ok (.iload 12, 2) := by decide +kernel
theorem dL_edits_73 : decode cL_edits 73 = .ok (.iload 4, 2) := by decide +kernel
theorem dL_edits_75 : decode cL_edits 75 = .ok (.if_icmp .ge 27, 3) := by decide +kernel
theorem dL_edits_78 : decode cL_edits 78 = .ok (.iload 12, 2) := by decide +kernel
theorem dL_edits_80 : decode cL_edits 80 = .ok (.bipush 64, 2) := by decide +kernel
theorem dL_edits_82 : decode cL_edits 82 = .ok (.if_icmp .ge 20, 3) := by decide +kernel
theorem dL_edits_85 : decode cL_edits 85 = .ok (.aload 11, 2) := by decide +kernel
theorem dL_edits_87 : decode cL_edits 87 = .ok (.iload 12, 2) := by decide +kernel
theorem dL_edits_89 : decode cL_edits 89 = .ok (.aload_n 0, 1) := by decide +kernel
theorem dL_edits_90 : decode cL_edits 90 = .ok (.iload 12, 2) := by decide +kernel
theorem dL_edits_92 : decode cL_edits 92 = .ok (.invokevirtual 22, 3) := by decide +kernel
theorem dL_edits_95 : decode cL_edits 95 = .ok (.iastore, 1) := by decide +kernel
theorem dL_edits_96 : decode cL_edits 96 = .ok (.iinc 12 1, 3) := by decide +kernel
theorem dL_edits_99 : decode cL_edits 99 = .ok (.goto (-28), 3) := by decide +kernel
theorem dL_edits_102 : decode cL_edits 102 = .ok (.aload_n 0, 1) := by decide +kernel
theorem dL_edits_103 : decode cL_edits 103 = .ok (.iload 5, 2) := by decide +kernel
theorem dL_edits_105 : decode cL_edits 105 = .ok (.iload 6, 2) := by decide +kernel
theorem dL_edits_107 : decode cL_edits 107 = .ok (.invokevirtual 77, 3) := by decide +kernel
theorem dL_edits_110 : decode cL_edits 110 = .ok (.istore 12, 2) := by decide +kernel
theorem dL_edits_112 : decode cL_edits 112 = .ok (.iconst 0, 1) := by decide +kernel
theorem dL_edits_113 : decode cL_edits 113 = .ok (.istore 13, 2) := by decide +kernel
theorem dL_edits_115 : decode cL_edits 115 = .ok (.iconst 0, 1) := by decide +kernel
theorem dL_edits_116 : decode cL_edits 116 = .ok (.istore 14, 2) := by decide +kernel
theorem dL_edits_118 : decode cL_edits 118 = .ok (.iload 14, 2) := by decide +kernel
theorem dL_edits_120 : decode cL_edits 120 = .ok (.iload 4, 2) := by decide +kernel
theorem dL_edits_122 : decode cL_edits 122 = .ok (.if_icmp .ge 47, 3) := by decide +kernel
theorem dL_edits_125 : decode cL_edits 125 = .ok (.iload 14, 2) := by decide +kernel
theorem dL_edits_127 : decode cL_edits 127 = .ok (.bipush 64, 2) := by decide +kernel
theorem dL_edits_129 : decode cL_edits 129 = .ok (.if_icmp .ge 40, 3) := by decide +kernel
theorem dL_edits_132 : decode cL_edits 132 = .ok (.iload 13, 2) := by decide +kernel
theorem dL_edits_134 : decode cL_edits 134 = .ok (.iload 14, 2) := by decide +kernel
theorem dL_edits_136 : decode cL_edits 136 = .ok (.iload 5, 2) := by decide +kernel
theorem dL_edits_138 : decode cL_edits 138 = .ok (.if_icmp .eq 21, 3) := by decide +kernel
theorem dL_edits_141 : decode cL_edits 141 = .ok (.aload_n 0, 1) := by decide +kernel
theorem dL_edits_142 : decode cL_edits 142 = .ok (.iload 14, 2) := by decide +kernel
theorem dL_edits_144 : decode cL_edits 144 = .ok (.invokevirtual 22, 3) := by decide +kernel
theorem dL_edits_147 : decode cL_edits 147 = .ok (.aload 11, 2) := by decide +kernel
theorem dL_edits_149 : decode cL_edits 149 = .ok (.iload 14, 2) := by decide +kernel
theorem dL_edits_151 : decode cL_edits 151 = .ok (.iaload, 1) := by decide +kernel
theorem dL_edits_152 : decode cL_edits 152 = .ok (.if_icmp .eq 7, 3) := by decide +kernel
theorem dL_edits_155 : decode cL_edits 155 = .ok (.iconst 1, 1) := by decide +kernel
theorem dL_edits_156 : decode cL_edits 156 = .ok (.goto 4, 3) := by decide +kernel
theorem dL_edits_159 : decode cL_edits 159 = .ok (.iconst 0, 1) := by decide +kernel
theorem dL_edits_160 : decode cL_edits 160 = .ok (.iadd, 1) := by decide +kernel
theorem dL_edits_161 : decode cL_edits 161 = .ok (.istore 13, 2) := by decide +kernel
theorem dL_edits_163 : decode cL_edits 163 = .ok (.iinc 14 1, 3) := by decide +kernel
theorem dL_edits_166 : decode cL_edits 166 = .ok (.goto (-48), 3) := by decide +kernel
theorem dL_edits_169 : decode cL_edits 169 = .ok (.aload_n 0, 1) := by decide +kernel
theorem dL_edits_170 : decode cL_edits 170 = .ok (.bipush 6, 2) := by decide +kernel
theorem dL_edits_172 : decode cL_edits 172 = .ok (.invokevirtual 9, 3) := by decide +kernel
theorem dL_edits_175 : decode cL_edits 175 = .ok (.iload 10, 2) := by decide +kernel
theorem dL_edits_177 : decode cL_edits 177 = .ok (.if_icmp .ne 38, 3) := by decide +kernel
theorem dL_edits_180 : decode cL_edits 180 = .ok (.aload_n 0, 1) := by decide +kernel
theorem dL_edits_181 : decode cL_edits 181 = .ok (.iload 5, 2) := by decide +kernel
theorem dL_edits_183 : decode cL_edits 183 = .ok (.invokevirtual 25, 3) := by decide +kernel
theorem dL_edits_186 : decode cL_edits 186 = .ok (.iload 6, 2) := by decide +kernel
theorem dL_edits_188 : decode cL_edits 188 = .ok (.if_icmp .ne 27, 3) := by decide +kernel
theorem dL_edits_191 : decode cL_edits 191 = .ok (.iload 4, 2) := by decide +kernel
theorem dL_edits_193 : decode cL_edits 193 = .ok (.bipush 64, 2) := by decide +kernel
theorem dL_edits_195 : decode cL_edits 195 = .ok (.if_icmp .gt 13, 3) := by decide +kernel
theorem dL_edits_198 : decode cL_edits 198 = .ok (.iload 12, 2) := by decide +kernel
theorem dL_edits_200 : decode cL_edits 200 = .ok (.iload 13, 2) := by decide +kernel
theorem dL_edits_202 : decode cL_edits 202 = .ok (.if_icmp .eq 15, 3) := by decide +kernel
theorem dL_edits_205 : decode cL_edits 205 = .ok (.goto 10, 3) := by decide +kernel
theorem dL_edits_208 : decode cL_edits 208 = .ok (.iload 12, 2) := by decide +kernel
theorem dL_edits_210 : decode cL_edits 210 = .ok (.iload 13, 2) := by decide +kernel
theorem dL_edits_212 : decode cL_edits 212 = .ok (.if_icmp .ge 5, 3) := by decide +kernel
theorem dL_edits_215 : decode cL_edits 215 = .ok (.iconst (-1), 1) := by decide +kernel
theorem dL_edits_216 : decode cL_edits 216 = .ok (.ireturn, 1) := by decide +kernel
theorem dL_edits_217 : decode cL_edits 217 = .ok (.goto 265, 3) := by decide +kernel
theorem dL_edits_220 : decode cL_edits 220 = .ok (.iload 9, 2) := by decide +kernel
theorem dL_edits_222 : decode cL_edits 222 = .ok (.iconst 3, 1) := by decide +kernel
theorem dL_edits_223 : decode cL_edits 223 = .ok (.if_icmp .ne 65, 3) := by decide +kernel
theorem dL_edits_226 : decode cL_edits 226 = .ok (.aload_n 0, 1) := by decide +kernel
theorem dL_edits_227 : decode cL_edits 227 = .ok (.aload_n 0, 1) := by decide +kernel
theorem dL_edits_228 : decode cL_edits 228 = .ok (.iload 5, 2) := by decide +kernel
theorem dL_edits_230 : decode cL_edits 230 = .ok (.invokevirtual 22, 3) := by decide +kernel
theorem dL_edits_233 : decode cL_edits 233 = .ok (.iconst 1, 1) := by decide +kernel
theorem dL_edits_234 : decode cL_edits 234 = .ok (.invokevirtual 28, 3) := by decide +kernel
theorem dL_edits_237 : decode cL_edits 237 = .ok (.istore 10, 2) := by decide +kernel
theorem dL_edits_239 : decode cL_edits 239 = .ok (.aload_n 0, 1) := by decide +kernel
theorem dL_edits_240 : decode cL_edits 240 = .ok (.iload 5, 2) := by decide +kernel
theorem dL_edits_242 : decode cL_edits 242 = .ok (.iload 6, 2) := by decide +kernel
theorem dL_edits_244 : decode cL_edits 244 = .ok (.invokevirtual 80, 3) := by decide +kernel
theorem dL_edits_247 : decode cL_edits 247 = .ok (.istore 11, 2) := by decide +kernel
theorem dL_edits_249 : decode cL_edits 249 = .ok (.iload 11, 2) := by decide +kernel
theorem dL_edits_251 : decode cL_edits 251 = .ok (.iload 10, 2) := by decide +kernel
theorem dL_edits_253 : decode cL_edits 253 = .ok (.if_icmp .lt 30, 3) := by decide +kernel
theorem dL_edits_256 : decode cL_edits 256 = .ok (.aload_n 0, 1) := by decide +kernel
theorem dL_edits_257 : decode cL_edits 257 = .ok (.iload 5, 2) := by decide +kernel
theorem dL_edits_259 : decode cL_edits 259 = .ok (.invokevirtual 25, 3) := by decide +kernel
theorem dL_edits_262 : decode cL_edits 262 = .ok (.iload 6, 2) := by decide +kernel
theorem dL_edits_264 : decode cL_edits 264 = .ok (.if_icmp .ne 19, 3) := by decide +kernel
theorem dL_edits_267 : decode cL_edits 267 = .ok (.aload_n 0, 1) := by decide +kernel
theorem dL_edits_268 : decode cL_edits 268 = .ok (.aload_n 0, 1) := by decide +kernel
theorem dL_edits_269 : decode cL_edits 269 = .ok (.iload 5, 2) := by decide +kernel
theorem dL_edits_271 : decode cL_edits 271 = .ok (.invokevirtual 22, 3) := by decide +kernel
theorem dL_edits_274 : decode cL_edits 274 = .ok (.iconst 1, 1) := by decide +kernel
theorem dL_edits_275 : decode cL_edits 275 = .ok (.invokevirtual 28, 3) := by decide +kernel
theorem dL_edits_278 : decode cL_edits 278 = .ok (.iload 11, 2) := by decide +kernel
theorem dL_edits_280 : decode cL_edits 280 = .ok (.if_icmp .eq 5, 3) := by decide +kernel
theorem dL_edits_283 : decode cL_edits 283 = .ok (.iconst (-1), 1) := by decide +kernel
theorem dL_edits_284 : decode cL_edits 284 = .ok (.ireturn, 1) := by decide +kernel
theorem dL_edits_285 : decode cL_edits 285 = .ok (.goto 197, 3) := by decide +kernel
theorem dL_edits_288 : decode cL_edits 288 = .ok (.aload_n 0, 1) := by decide +kernel
theorem dL_edits_289 : decode cL_edits 289 = .ok (.invokevirtual 59, 3) := by decide +kernel
theorem dL_edits_292 : decode cL_edits 292 = .ok (.pop, 1) := by decide +kernel
theorem dL_edits_293 : decode cL_edits 293 = .ok (.iconst 0, 1) := by decide +kernel
theorem dL_edits_294 : decode cL_edits 294 = .ok (.istore 10, 2) := by decide +kernel
theorem dL_edits_296 : decode cL_edits 296 = .ok (.aload_n 0, 1) := by decide +kernel
theorem dL_edits_297 : decode cL_edits 297 = .ok (.iconst 0, 1) := by decide +kernel
theorem dL_edits_298 : decode cL_edits 298 = .ok (.invokevirtual 9, 3) := by decide +kernel
theorem dL_edits_301 : decode cL_edits 301 = .ok (.istore 11, 2) := by decide +kernel
theorem dL_edits_303 : decode cL_edits 303 = .ok (.iconst 0, 1) := by decide +kernel
theorem dL_edits_304 : decode cL_edits 304 = .ok (.istore 12, 2) := by decide +kernel
theorem dL_edits_306 : decode cL_edits 306 = .ok (.iconst 0, 1) := by decide +kernel
theorem dL_edits_307 : decode cL_edits 307 = .ok (.istore 13, 2) := by decide +kernel
theorem dL_edits_309 : decode cL_edits 309 = .ok (.iload 13, 2) := by decide +kernel
theorem dL_edits_311 : decode cL_edits 311 = .ok (.iload 4, 2) := by decide +kernel
theorem dL_edits_313 : decode cL_edits 313 = .ok (.if_icmp .ge 81, 3) := by decide +kernel
theorem dL_edits_316 : decode cL_edits 316 = .ok (.iload 13, 2) := by decide +kernel
theorem dL_edits_318 : decode cL_edits 318 = .ok (.ifCond .le 18, 3) := by decide +kernel
theorem dL_edits_321 : decode cL_edits 321 = .ok (.iload 13, 2) := by decide +kernel
theorem dL_edits_323 : decode cL_edits 323 = .ok (.iload 11, 2) := by decide +kernel
theorem dL_edits_325 : decode cL_edits 325 = .ok (.irem, 1) := by decide +kernel
theorem dL_edits_326 : decode cL_edits 326 = .ok (.ifCond .ne 10, 3) := by decide +kernel
theorem dL_edits_329 : decode cL_edits 329 = .ok (.aload_n 0, 1) := by decide +kernel
theorem dL_edits_330 : decode cL_edits 330 = .ok (.bipush 47, 2) := by decide +kernel
theorem dL_edits_332 : decode cL_edits 332 = .ok (.invokevirtual 63, 3) := by decide +kernel
theorem dL_edits_335 : decode cL_edits 335 = .ok (.pop, 1) := by decide +kernel
theorem dL_edits_336 : decode cL_edits 336 = .ok (.iload_n 2, 1) := by decide +kernel
theorem dL_edits_337 : decode cL_edits 337 = .ok (.iload 13, 2) := by decide +kernel
theorem dL_edits_339 : decode cL_edits 339 = .ok (.bipush 13, 2) := by decide +kernel
theorem dL_edits_341 : decode cL_edits 341 = .ok (.irem, 1) := by decide +kernel
theorem dL_edits_342 : decode cL_edits 342 = .ok (.iload 13, 2) := by decide +kernel
theorem dL_edits_344 : decode cL_edits 344 = .ok (.bipush 29, 2) := by decide +kernel
theorem dL_edits_346 : decode cL_edits 346 = .ok (.idiv, 1) := by decide +kernel
theorem dL_edits_347 : decode cL_edits 347 = .ok (.iadd, 1) := by decide +kernel
theorem dL_edits_348 : decode cL_edits 348 = .ok (.ishr, 1) := by decide +kernel
theorem dL_edits_349 : decode cL_edits 349 = .ok (.iconst 3, 1) := by decide +kernel
theorem dL_edits_350 : decode cL_edits 350 = .ok (.invokestatic 44, 3) := by decide +kernel
theorem dL_edits_353 : decode cL_edits 353 = .ok (.istore 14, 2) := by decide +kernel
theorem dL_edits_355 : decode cL_edits 355 = .ok (.iload 10, 2) := by decide +kernel
theorem dL_edits_357 : decode cL_edits 357 = .ok (.aload_n 0, 1) := by decide +kernel
theorem dL_edits_358 : decode cL_edits 358 = .ok (.iload 13, 2) := by decide +kernel
theorem dL_edits_360 : decode cL_edits 360 = .ok (.invokevirtual 25, 3) := by decide +kernel
theorem dL_edits_363 : decode cL_edits 363 = .ok (.iload 14, 2) := by decide +kernel
theorem dL_edits_365 : decode cL_edits 365 = .ok (.if_icmp .eq 7, 3) := by decide +kernel
theorem dL_edits_368 : decode cL_edits 368 = .ok (.iconst 1, 1) := by decide +kernel
theorem dL_edits_369 : decode cL_edits 369 = .ok (.goto 4, 3) := by decide +kernel
theorem dL_edits_372 : decode cL_edits 372 = .ok (.iconst 0, 1) := by decide +kernel
theorem dL_edits_373 : decode cL_edits 373 = .ok (.iadd, 1) := by decide +kernel
theorem dL_edits_374 : decode cL_edits 374 = .ok (.istore 10, 2) := by decide +kernel
theorem dL_edits_376 : decode cL_edits 376 = .ok (.aload_n 0, 1) := by decide +kernel
theorem dL_edits_377 : decode cL_edits 377 = .ok (.bipush 48, 2) := by decide +kernel
theorem dL_edits_379 : decode cL_edits 379 = .ok (.iload 14, 2) := by decide +kernel
theorem dL_edits_381 : decode cL_edits 381 = .ok (.iadd, 1) := by decide +kernel
theorem dL_edits_382 : decode cL_edits 382 = .ok (.i2c, 1) := by decide +kernel
theorem dL_edits_383 : decode cL_edits 383 = .ok (.invokevirtual 63, 3) := by decide +kernel
theorem dL_edits_386 : decode cL_edits 386 = .ok (.istore 12, 2) := by decide +kernel
theorem dL_edits_388 : decode cL_edits 388 = .ok (.iinc 13 1, 3) := by decide +kernel
theorem dL_edits_391 : decode cL_edits 391 = .ok (.goto (-82), 3) := by decide +kernel
theorem dL_edits_394 : decode cL_edits 394 = .ok (.aload_n 0, 1) := by decide +kernel
theorem dL_edits_395 : decode cL_edits 395 = .ok (.invokevirtual 83, 3) := by decide +kernel
theorem dL_edits_398 : decode cL_edits 398 = .ok (.iload 10, 2) := by decide +kernel
theorem dL_edits_400 : decode cL_edits 400 = .ok (.if_icmp .eq 5, 3) := by decide +kernel
theorem dL_edits_403 : decode cL_edits 403 = .ok (.iconst (-1), 1) := by decide +kernel
theorem dL_edits_404 : decode cL_edits 404 = .ok (.ireturn, 1) := by decide +kernel
theorem dL_edits_405 : decode cL_edits 405 = .ok (.aload_n 0, 1) := by decide +kernel
theorem dL_edits_406 : decode cL_edits 406 = .ok (.bipush 47, 2) := by decide +kernel
theorem dL_edits_408 : decode cL_edits 408 = .ok (.invokevirtual 63, 3) := by decide +kernel
theorem dL_edits_411 : decode cL_edits 411 = .ok (.pop, 1) := by decide +kernel
theorem dL_edits_412 : decode cL_edits 412 = .ok (.aload_n 0, 1) := by decide +kernel
theorem dL_edits_413 : decode cL_edits 413 = .ok (.invokevirtual 83, 3) := by decide +kernel
theorem dL_edits_416 : decode cL_edits 416 = .ok (.bipush (-100), 2) := by decide +kernel
theorem dL_edits_418 : decode cL_edits 418 = .ok (.iload 12, 2) := by decide +kernel
theorem dL_edits_420 : decode cL_edits 420 = .ok (.isub, 1) := by decide +kernel
theorem dL_edits_421 : decode cL_edits 421 = .ok (.if_icmp .ne 18, 3) := by decide +kernel
theorem dL_edits_424 : decode cL_edits 424 = .ok (.iload 12, 2) := by decide +kernel
theorem dL_edits_426 : decode cL_edits 426 = .ok (.iload 4, 2) := by decide +kernel
theorem dL_edits_428 : decode cL_edits 428 = .ok (.aload_n 0, 1) := by decide +kernel
theorem dL_edits_429 : decode cL_edits 429 = .ok (.iconst 1, 1) := by decide +kernel
theorem dL_edits_430 : decode cL_edits 430 = .ok (.invokevirtual 9, 3) := by decide +kernel
theorem dL_edits_433 : decode cL_edits 433 = .ok (.iadd, 1) := by decide +kernel
theorem dL_edits_434 : decode cL_edits 434 = .ok (.iconst 1, 1) := by decide +kernel
theorem dL_edits_435 : decode cL_edits 435 = .ok (.isub, 1) := by decide +kernel
theorem dL_edits_436 : decode cL_edits 436 = .ok (.if_icmp .eq 5, 3) := by decide +kernel
theorem dL_edits_439 : decode cL_edits 439 = .ok (.iconst (-1), 1) := by decide +kernel
theorem dL_edits_440 : decode cL_edits 440 = .ok (.ireturn, 1) := by decide +kernel
theorem dL_edits_441 : decode cL_edits 441 = .ok (.aload_n 0, 1) := by decide +kernel
theorem dL_edits_442 : decode cL_edits 442 = .ok (.invokevirtual 59, 3) := by decide +kernel
theorem dL_edits_445 : decode cL_edits 445 = .ok (.pop, 1) := by decide +kernel
theorem dL_edits_446 : decode cL_edits 446 = .ok (.aload_n 0, 1) := by decide +kernel
theorem dL_edits_447 : decode cL_edits 447 = .ok (.bipush 48, 2) := by decide +kernel
theorem dL_edits_449 : decode cL_edits 449 = .ok (.invokevirtual 63, 3) := by decide +kernel
theorem dL_edits_452 : decode cL_edits 452 = .ok (.pop, 1) := by decide +kernel
theorem dL_edits_453 : decode cL_edits 453 = .ok (.aload_n 0, 1) := by decide +kernel
theorem dL_edits_454 : decode cL_edits 454 = .ok (.invokevirtual 83, 3) := by decide +kernel
theorem dL_edits_457 : decode cL_edits 457 = .ok (.bipush (-101), 2) := by decide +kernel
theorem dL_edits_459 : decode cL_edits 459 = .ok (.if_icmp .eq 5, 3) := by decide +kernel
theorem dL_edits_462 : decode cL_edits 462 = .ok (.iconst (-1), 1) := by decide +kernel
theorem dL_edits_463 : decode cL_edits 463 = .ok (.ireturn, 1) := by decide +kernel
theorem dL_edits_464 : decode cL_edits 464 = .ok (.aload_n 0, 1) := by decide +kernel
theorem dL_edits_465 : decode cL_edits 465 = .ok (.bipush 54, 2) := by decide +kernel
theorem dL_edits_467 : decode cL_edits 467 = .ok (.invokevirtual 63, 3) := by decide +kernel
theorem dL_edits_470 : decode cL_edits 470 = .ok (.pop, 1) := by decide +kernel
theorem dL_edits_471 : decode cL_edits 471 = .ok (.aload_n 0, 1) := by decide +kernel
theorem dL_edits_472 : decode cL_edits 472 = .ok (.invokevirtual 83, 3) := by decide +kernel
theorem dL_edits_475 : decode cL_edits 475 = .ok (.bipush (-101), 2) := by decide +kernel
theorem dL_edits_477 : decode cL_edits 477 = .ok (.if_icmp .eq 5, 3) := by decide +kernel
theorem dL_edits_480 : decode cL_edits 480 = .ok (.iconst (-1), 1) := by decide +kernel
theorem dL_edits_481 : decode cL_edits 481 = .ok (.ireturn, 1) := by decide +kernel
theorem dL_edits_482 : decode cL_edits 482 = .ok (.aload_n 0, 1) := by decide +kernel
theorem dL_edits_483 : decode cL_edits 483 = .ok (.bipush 8, 2) := by decide +kernel
theorem dL_edits_485 : decode cL_edits 485 = .ok (.invokevirtual 9, 3) := by decide +kernel
theorem dL_edits_488 : decode cL_edits 488 = .ok (.iload_n 3, 1) := by decide +kernel
theorem dL_edits_489 : decode cL_edits 489 = .ok (.bipush 12, 2) := by decide +kernel
theorem dL_edits_491 : decode cL_edits 491 = .ok (.if_icmp .ge 9, 3) := by decide +kernel
theorem dL_edits_494 : decode cL_edits 494 = .ok (.iload_n 3, 1) := by decide +kernel
theorem dL_edits_495 : decode cL_edits 495 = .ok (.iconst 1, 1) := by decide +kernel
theorem dL_edits_496 : decode cL_edits 496 = .ok (.iadd, 1) := by decide +kernel
theorem dL_edits_497 : decode cL_edits 497 = .ok (.goto 5, 3) := by decide +kernel
theorem dL_edits_500 : decode cL_edits 500 = .ok (.bipush 12, 2) := by decide +kernel
theorem dL_edits_502 : decode cL_edits 502 = .ok (.if_icmp .eq 5, 3) := by decide +kernel
theorem dL_edits_505 : decode cL_edits 505 = .ok (.iconst (-1), 1) := by decide +kernel
theorem dL_edits_506 : decode cL_edits 506 = .ok (.ireturn, 1) := by decide +kernel
theorem dL_edits_507 : decode cL_edits 507 = .ok (.iload_n 2, 1) := by decide +kernel
theorem dL_edits_508 : decode cL_edits 508 = .ok (.bipush 25, 2) := by decide +kernel
theorem dL_edits_510 : decode cL_edits 510 = .ok (.ishr, 1) := by decide +kernel
theorem dL_edits_511 : decode cL_edits 511 = .ok (.iconst 3, 1) := by decide +kernel
theorem dL_edits_512 : decode cL_edits 512 = .ok (.iand, 1) := by decide +kernel
theorem dL_edits_513 : decode cL_edits 513 = .ok (.ifCond .ne 43, 3) := by decide +kernel
theorem dL_edits_516 : decode cL_edits 516 = .ok (.aload_n 0, 1) := by decide +kernel
theorem dL_edits_517 : decode cL_edits 517 = .ok (.invokevirtual 86, 3) := by decide +kernel
theorem dL_edits_520 : decode cL_edits 520 = .ok (.istore 10, 2) := by decide +kernel
theorem dL_edits_522 : decode cL_edits 522 = .ok (.iload 10, 2) := by decide +kernel
theorem dL_edits_524 : decode cL_edits 524 = .ok (.iload_n 3, 1) := by decide +kernel
theorem dL_edits_525 : decode cL_edits 525 = .ok (.bipush 12, 2) := by decide +kernel
theorem dL_edits_527 : decode cL_edits 527 = .ok (.if_icmp .ge 7, 3) := by decide +kernel
theorem dL_edits_530 : decode cL_edits 530 = .ok (.iload_n 3, 1) := by decide +kernel
theorem dL_edits_531 : decode cL_edits 531 = .ok (.goto 5, 3) := by decide +kernel
theorem dL_edits_534 : decode cL_edits 534 = .ok (.bipush 11, 2) := by decide +kernel
theorem dL_edits_536 : decode cL_edits 536 = .ok (.if_icmp .ne 18, 3) := by decide +kernel
theorem dL_edits_539 : decode cL_edits 539 = .ok (.aload_n 0, 1) := by decide +kernel
theorem dL_edits_540 : decode cL_edits 540 = .ok (.invokestatic 70, 3) := by decide +kernel
theorem dL_edits_543 : decode cL_edits 543 = .ok (.lload 7, 2) := by decide +kernel
theorem dL_edits_545 : decode cL_edits 545 = .ok (.lcmp, 1) := by decide +kernel
theorem dL_edits_546 : decode cL_edits 546 = .ok (.ifCond .ne 8, 3) := by decide +kernel
theorem dL_edits_549 : decode cL_edits 549 = .ok (.iload 10, 2) := by decide +kernel
theorem dL_edits_551 : decode cL_edits 551 = .ok (.goto 4, 3) := by decide +kernel
theorem dL_edits_554 : decode cL_edits 554 = .ok (.iconst (-1), 1) := by decide +kernel
theorem dL_edits_555 : decode cL_edits 555 = .ok (.ireturn, 1) := by decide +kernel
theorem dL_edits_556 : decode cL_edits 556 = .ok (.iload_n 3, 1) := by decide +kernel
theorem dL_edits_557 : decode cL_edits 557 = .ok (.bipush 12, 2) := by decide +kernel
theorem dL_edits_559 : decode cL_edits 559 = .ok (.if_icmp .ge 9, 3) := by decide +kernel
theorem dL_edits_562 : decode cL_edits 562 = .ok (.iload_n 3, 1) := by decide +kernel
theorem dL_edits_563 : decode cL_edits 563 = .ok (.iconst 1, 1) := by decide +kernel
theorem dL_edits_564 : decode cL_edits 564 = .ok (.iadd, 1) := by decide +kernel
theorem dL_edits_565 : decode cL_edits 565 = .ok (.goto 5, 3) := by decide +kernel
theorem dL_edits_568 : decode cL_edits 568 = .ok (.bipush 12, 2) := by decide +kernel
theorem dL_edits_570 : decode cL_edits 570 = .ok (.ireturn, 1) := by decide +kernel
theorem dL_law_0 : decode cL_law 0 = .ok (.new 10, 3) := by decide +kernel
theorem dL_law_3 : decode cL_law 3 = .ok (.dup, 1) := by decide +kernel
theorem dL_law_4 : decode cL_law 4 = .ok (.invokespecial 99, 3) := by decide +kernel
theorem dL_law_7 : decode cL_law 7 = .ok (.astore_n 1, 1) := by decide +kernel
theorem dL_law_8 : decode cL_law 8 = .ok (.bipush 8, 2) := by decide +kernel
theorem dL_law_10 : decode cL_law 10 = .ok (.newarray .int, 2) := by decide +kernel
theorem dL_law_12 : decode cL_law 12 = .ok (.astore_n 2, 1) := by decide +kernel
theorem dL_law_13 : decode cL_law 13 = .ok (.aload_n 0, 1) := by decide +kernel
theorem dL_law_14 : decode cL_law 14 = .ok (.iconst 0, 1) := by decide +kernel
theorem dL_law_15 : decode cL_law 15 = .ok (.invokestatic 100, 3) := by decide +kernel
theorem dL_law_18 : decode cL_law 18 = .ok (.istore_n 3, 1) := by decide +kernel
theorem dL_law_19 : decode cL_law 19 = .ok (.iconst 3, 1) := by decide +kernel
theorem dL_law_20 : decode cL_law 20 = .ok (.iload_n 3, 1) := by decide +kernel
theorem dL_law_21 : decode cL_law 21 = .ok (.bipush 6, 2) := by decide +kernel
theorem dL_law_23 : decode cL_law 23 = .ok (.invokestatic 44, 3) := by decide +kernel
theorem dL_law_26 : decode cL_law 26 = .ok (.iadd, 1) := by decide +kernel
theorem dL_law_27 : decode cL_law 27 = .ok (.istore 4, 2) := by decide +kernel
theorem dL_law_29 : decode cL_law 29 = .ok (.iconst 3, 1) := by decide +kernel
theorem dL_law_30 : decode cL_law 30 = .ok (.iload_n 3, 1) := by decide +kernel
theorem dL_law_31 : decode cL_law 31 = .ok (.iconst 4, 1) := by decide +kernel
theorem dL_law_32 : decode cL_law 32 = .ok (.ishr, 1) := by decide +kernel
theorem dL_law_33 : decode cL_law 33 = .ok (.bipush 6, 2) := by decide +kernel
theorem dL_law_35 : decode cL_law 35 = .ok (.invokestatic 44, 3) := by decide +kernel
theorem dL_law_38 : decode cL_law 38 = .ok (.iadd, 1) := by decide +kernel
theorem dL_law_39 : decode cL_law 39 = .ok (.istore 5, 2) := by decide +kernel
theorem dL_law_41 : decode cL_law 41 = .ok (.aload_n 1, 1) := by decide +kernel
theorem dL_law_42 : decode cL_law 42 = .ok (.iconst 0, 1) := by decide +kernel
theorem dL_law_43 : decode cL_law 43 = .ok (.invokevirtual 9, 3) := by decide +kernel
theorem dL_law_46 : decode cL_law 46 = .ok (.bipush 6, 2) := by decide +kernel
theorem dL_law_48 : decode cL_law 48 = .ok (.if_icmp .ne 47, 3) := by decide +kernel
theorem dL_law_51 : decode cL_law 51 = .ok (.aload_n 1, 1) := by decide +kernel
theorem dL_law_52 : decode cL_law 52 = .ok (.iconst 1, 1) := by decide +kernel
theorem dL_law_53 : decode cL_law 53 = .ok (.invokevirtual 9, 3) := by decide +kernel
theorem dL_law_56 : decode cL_law 56 = .ok (.iconst 5, 1) := by decide +kernel
theorem dL_law_57 : decode cL_law 57 = .ok (.if_icmp .ne 38, 3) := by decide +kernel
theorem dL_law_60 : decode cL_law 60 = .ok (.aload_n 1, 1) := by decide +kernel
theorem dL_law_61 : decode cL_law 61 = .ok (.bipush 6, 2) := by decide +kernel
theorem dL_law_63 : decode cL_law 63 = .ok (.invokevirtual 9, 3) := by decide +kernel
theorem dL_law_66 : decode cL_law 66 = .ok (.iconst 1, 1) := by decide +kernel
theorem dL_law_67 : decode cL_law 67 = .ok (.if_icmp .ne 28, 3) := by decide +kernel
theorem dL_law_70 : decode cL_law 70 = .ok (.aload_n 1, 1) := by decide +kernel
theorem dL_law_71 : decode cL_law 71 = .ok (.invokevirtual 86, 3) := by decide +kernel
theorem dL_law_74 : decode cL_law 74 = .ok (.bipush (-5), 2) := by decide +kernel
theorem dL_law_76 : decode cL_law 76 = .ok (.if_icmp .ne 19, 3) := by decide +kernel
theorem dL_law_79 : decode cL_law 79 = .ok (.aload_n 1, 1) := by decide +kernel
theorem dL_law_80 : decode cL_law 80 = .ok (.iload 4, 2) := by decide +kernel
theorem dL_law_82 : decode cL_law 82 = .ok (.iload 5, 2) := by decide +kernel
theorem dL_law_84 : decode cL_law 84 = .ok (.invokevirtual 89, 3) := by decide +kernel
theorem dL_law_87 : decode cL_law 87 = .ok (.iload 4, 2) := by decide +kernel
theorem dL_law_89 : decode cL_law 89 = .ok (.iload 5, 2) := by decide +kernel
theorem dL_law_91 : decode cL_law 91 = .ok (.imul, 1) := by decide +kernel
theorem dL_law_92 : decode cL_law 92 = .ok (.if_icmp .eq 5, 3) := by decide +kernel
theorem dL_law_95 : decode cL_law 95 = .ok (.iconst 0, 1) := by decide +kernel
theorem dL_law_96 : decode cL_law 96 = .ok (.ireturn, 1) := by decide +kernel
theorem dL_law_97 : decode cL_law 97 = .ok (.iconst 0, 1) := by decide +kernel
theorem dL_law_98 : decode cL_law 98 = .ok (.istore 6, 2) := by decide +kernel
theorem dL_law_100 : decode cL_law 100 = .ok (.iload 6, 2) := by decide +kernel
theorem dL_law_102 : decode cL_law 102 = .ok (.bipush 6, 2) := by decide +kernel
theorem dL_law_104 : decode cL_law 104 = .ok (.if_icmp .ge 14, 3) := by decide +kernel
theorem dL_law_107 : decode cL_law 107 = .ok (.aload_n 2, 1) := by decide +kernel
theorem dL_law_108 : decode cL_law 108 = .ok (.iload 6, 2) := by decide +kernel
theorem dL_law_110 : decode cL_law 110 = .ok (.iconst 1, 1) := by decide +kernel
theorem dL_law_111 : decode cL_law 111 = .ok (.iastore, 1) := by decide +kernel
theorem dL_law_112 : decode cL_law 112 = .ok (.iinc 6 1, 3) := by decide +kernel
theorem dL_law_115 : decode cL_law 115 = .ok (.goto (-15), 3) := by decide +kernel
theorem dL_law_118 : decode cL_law 118 = .ok (.iconst 0, 1) := by decide +kernel
theorem dL_law_119 : decode cL_law 119 = .ok (.istore 6, 2) := by decide +kernel
theorem dL_law_121 : decode cL_law 121 = .ok (.iconst 0, 1) := by decide +kernel
theorem dL_law_122 : decode cL_law 122 = .ok (.istore 7, 2) := by decide +kernel
theorem dL_law_124 : decode cL_law 124 = .ok (.iload 7, 2) := by decide +kernel
theorem dL_law_126 : decode cL_law 126 = .ok (.bipush 22, 2) := by decide +kernel
theorem dL_law_128 : decode cL_law 128 = .ok (.if_icmp .ge 383, 3) := by decide +kernel
theorem dL_law_131 : decode cL_law 131 = .ok (.aload_n 0, 1) := by decide +kernel
theorem dL_law_132 : decode cL_law 132 = .ok (.iconst 1, 1) := by decide +kernel
theorem dL_law_133 : decode cL_law 133 = .ok (.iconst 2, 1) := by decide +kernel
theorem dL_law_134 : decode cL_law 134 = .ok (.iload 7, 2) := by decide +kernel
theorem dL_law_136 : decode cL_law 136 = .ok (.imul, 1) := by decide +kernel
theorem dL_law_137 : decode cL_law 137 = .ok (.iadd, 1) := by decide +kernel
theorem dL_law_138 : decode cL_law 138 = .ok (.invokestatic 100, 3) := by decide +kernel
theorem dL_law_141 : decode cL_law 141 = .ok (.istore 8, 2) := by decide +kernel
theorem dL_law_143 : decode cL_law 143 = .ok (.aload_n 0, 1) := by decide +kernel
theorem dL_law_144 : decode cL_law 144 = .ok (.iconst 2, 1) := by decide +kernel
theorem dL_law_145 : decode cL_law 145 = .ok (.iconst 2, 1) := by decide +kernel
theorem dL_law_146 : decode cL_law 146 = .ok (.iload 7, 2) := by decide +kernel
theorem dL_law_148 : decode cL_law 148 = .ok (.imul, 1) := by decide +kernel
theorem dL_law_149 : decode cL_law 149 = .ok (.iadd, 1) := by decide +kernel
theorem dL_law_150 : decode cL_law 150 = .ok (.invokestatic 100, 3) := by decide +kernel
theorem dL_law_153 : decode cL_law 153 = .ok (.istore 9, 2) := by decide +kernel
theorem dL_law_155 : decode cL_law 155 = .ok (.iload 4, 2) := by decide +kernel
theorem dL_law_157 : decode cL_law 157 = .ok (.iload 5, 2) := by decide +kernel
theorem dL_law_159 : decode cL_law 159 = .ok (.imul, 1) := by decide +kernel
theorem dL_law_160 : decode cL_law 160 = .ok (.istore 10, 2) := by decide +kernel
theorem dL_law_162 : decode cL_law 162 = .ok (.iload 8, 2) := by decide +kernel
theorem dL_law_164 : decode cL_law 164 = .ok (.bipush 20, 2) := by decide +kernel
theorem dL_law_166 : decode cL_law 166 = .ok (.ishr, 1) := by decide +kernel
theorem dL_law_167 : decode cL_law 167 = .ok (.bipush 6, 2) := by decide +kernel
theorem dL_law_169 : decode cL_law 169 = .ok (.invokestatic 44, 3) := by decide +kernel
theorem dL_law_172 : decode cL_law 172 = .ok (.istore 11, 2) := by decide +kernel
theorem dL_law_174 : decode cL_law 174 = .ok (.iload 11, 2) := by decide +kernel
theorem dL_law_176 : decode cL_law 176 = .ok (.iconst 3, 1) := by decide +kernel
theorem dL_law_177 : decode cL_law 177 = .ok (.if_icmp .ge 22, 3) := by decide +kernel
theorem dL_law_180 : decode cL_law 180 = .ok (.aload_n 1, 1) := by decide +kernel
theorem dL_law_181 : decode cL_law 181 = .ok (.iload 8, 2) := by decide +kernel
theorem dL_law_183 : decode cL_law 183 = .ok (.iload 9, 2) := by decide +kernel
theorem dL_law_185 : decode cL_law 185 = .ok (.iload 6, 2) := by decide +kernel
theorem dL_law_187 : decode cL_law 187 = .ok (.invokestatic 104, 3) := by decide +kernel
theorem dL_law_190 : decode cL_law 190 = .ok (.istore 6, 2) := by decide +kernel
theorem dL_law_192 : decode cL_law 192 = .ok (.iload 6, 2) := by decide +kernel
theorem dL_law_194 : decode cL_law 194 = .ok (.ifCond .ge 254, 3) := by decide +kernel
theorem dL_law_197 : decode cL_law 197 = .ok (.iconst 0, 1) := by decide +kernel
theorem dL_law_198 : decode cL_law 198 = .ok (.ireturn, 1) := by decide +kernel
theorem dL_law_199 : decode cL_law 199 = .ok (.iload 11, 2) := by decide +kernel
theorem dL_law_201 : decode cL_law 201 = .ok (.iconst 3, 1) := by decide +kernel
theorem dL_law_202 : decode cL_law 202 = .ok (.if_icmp .ne 167, 3) := by decide +kernel
theorem dL_law_205 : decode cL_law 205 = .ok (.iload 8, 2) := by decide +kernel
theorem dL_law_207 : decode cL_law 207 = .ok (.iconst 1, 1) := by decide +kernel
theorem dL_law_208 : decode cL_law 208 = .ok (.iand, 1) := by decide +kernel
theorem dL_law_209 : decode cL_law 209 = .ok (.iconst 1, 1) := by decide +kernel
theorem dL_law_210 : decode cL_law 210 = .ok (.if_icmp .ne 7, 3) := by decide +kernel
theorem dL_law_213 : decode cL_law 213 = .ok (.iconst 1, 1) := by decide +kernel
theorem dL_law_214 : decode cL_law 214 = .ok (.goto 4, 3) := by decide +kernel
theorem dL_law_217 : decode cL_law 217 = .ok (.iconst 0, 1) := by decide +kernel
theorem dL_law_218 : decode cL_law 218 = .ok (.istore 12, 2) := by decide +kernel
theorem dL_law_220 : decode cL_law 220 = .ok (.iload 8, 2) := by decide +kernel
theorem dL_law_222 : decode cL_law 222 = .ok (.iconst 1, 1) := by decide +kernel
theorem dL_law_223 : decode cL_law 223 = .ok (.ishr, 1) := by decide +kernel
theorem dL_law_224 : decode cL_law 224 = .ok (.iconst 3, 1) := by decide +kernel
theorem dL_law_225 : decode cL_law 225 = .ok (.invokestatic 44, 3) := by decide +kernel
theorem dL_law_228 : decode cL_law 228 = .ok (.istore 13, 2) := by decide +kernel
theorem dL_law_230 : decode cL_law 230 = .ok (.iload 8, 2) := by decide +kernel
theorem dL_law_232 : decode cL_law 232 = .ok (.iconst 4, 1) := by decide +kernel
theorem dL_law_233 : decode cL_law 233 = .ok (.ishr, 1) := by decide +kernel
theorem dL_law_234 : decode cL_law 234 = .ok (.iload 12, 2) := by decide +kernel
theorem dL_law_236 : decode cL_law 236 = .ok (.ifCond .eq 8, 3) := by decide +kernel
theorem dL_law_239 : decode cL_law 239 = .ok (.iload 4, 2) := by decide +kernel
theorem dL_law_241 : decode cL_law 241 = .ok (.goto 5, 3) := by decide +kernel
theorem dL_law_244 : decode cL_law 244 = .ok (.iload 5, 2) := by decide +kernel
theorem dL_law_246 : decode cL_law 246 = .ok (.invokestatic 44, 3) := by decide +kernel
theorem dL_law_249 : decode cL_law 249 = .ok (.istore 14, 2) := by decide +kernel
theorem dL_law_251 : decode cL_law 251 = .ok (.aload_n 1, 1) := by decide +kernel
theorem dL_law_252 : decode cL_law 252 = .ok (.iload 12, 2) := by decide +kernel
theorem dL_law_254 : decode cL_law 254 = .ok (.ifCond .eq 7, 3) := by decide +kernel
theorem dL_law_257 : decode cL_law 257 = .ok (.iconst 4, 1) := by decide +kernel
theorem dL_law_258 : decode cL_law 258 = .ok (.goto 4, 3) := by decide +kernel
theorem dL_law_261 : decode cL_law 261 = .ok (.iconst 2, 1) := by decide +kernel
theorem dL_law_262 : decode cL_law 262 = .ok (.invokevirtual 9, 3) := by decide +kernel
theorem dL_law_265 : decode cL_law 265 = .ok (.iload 13, 2) := by decide +kernel
theorem dL_law_267 : decode cL_law 267 = .ok (.if_icmp .ne 26, 3) := by decide +kernel
theorem dL_law_270 : decode cL_law 270 = .ok (.aload_n 1, 1) := by decide +kernel
theorem dL_law_271 : decode cL_law 271 = .ok (.iload 12, 2) := by decide +kernel
theorem dL_law_273 : decode cL_law 273 = .ok (.ifCond .eq 7, 3) := by decide +kernel
theorem dL_law_276 : decode cL_law 276 = .ok (.iconst 5, 1) := by decide +kernel
theorem dL_law_277 : decode cL_law 277 = .ok (.goto 4, 3) := by decide +kernel
theorem dL_law_280 : decode cL_law 280 = .ok (.iconst 3, 1) := by decide +kernel
theorem dL_law_281 : decode cL_law 281 = .ok (.invokevirtual 9, 3) := by decide +kernel
theorem dL_law_284 : decode cL_law 284 = .ok (.iload 14, 2) := by decide +kernel
theorem dL_law_286 : decode cL_law 286 = .ok (.if_icmp .ne 7, 3) := by decide +kernel
theorem dL_law_289 : decode cL_law 289 = .ok (.iconst 1, 1) := by decide +kernel
theorem dL_law_290 : decode cL_law 290 = .ok (.goto 4, 3) := by decide +kernel
theorem dL_law_293 : decode cL_law 293 = .ok (.iconst 0, 1) := by decide +kernel
theorem dL_law_294 : decode cL_law 294 = .ok (.istore 15, 2) := by decide +kernel
theorem dL_law_296 : decode cL_law 296 = .ok (.aload_n 1, 1) := by decide +kernel
theorem dL_law_297 : decode cL_law 297 = .ok (.iload 12, 2) := by decide +kernel
theorem dL_law_299 : decode cL_law 299 = .ok (.iload 13, 2) := by decide +kernel
theorem dL_law_301 : decode cL_law 301 = .ok (.iload 14, 2) := by decide +kernel
theorem dL_law_303 : decode cL_law 303 = .ok (.invokevirtual 92, 3) := by decide +kernel
theorem dL_law_306 : decode cL_law 306 = .ok (.iload 15, 2) := by decide +kernel
theorem dL_law_308 : decode cL_law 308 = .ok (.ifCond .eq 7, 3) := by decide +kernel
theorem dL_law_311 : decode cL_law 311 = .ok (.iconst 0, 1) := by decide +kernel
theorem dL_law_312 : decode cL_law 312 = .ok (.goto 4, 3) := by decide +kernel
theorem dL_law_315 : decode cL_law 315 = .ok (.iconst 1, 1) := by decide +kernel
theorem dL_law_316 : decode cL_law 316 = .ok (.if_icmp .ne 48, 3) := by decide +kernel
theorem dL_law_319 : decode cL_law 319 = .ok (.aload_n 1, 1) := by decide +kernel
theorem dL_law_320 : decode cL_law 320 = .ok (.iload 12, 2) := by decide +kernel
theorem dL_law_322 : decode cL_law 322 = .ok (.ifCond .eq 7, 3) := by decide +kernel
theorem dL_law_325 : decode cL_law 325 = .ok (.iconst 4, 1) := by decide +kernel
theorem dL_law_326 : decode cL_law 326 = .ok (.goto 4, 3) := by decide +kernel
theorem dL_law_329 : decode cL_law 329 = .ok (.iconst 2, 1) := by decide +kernel
theorem dL_law_330 : decode cL_law 330 = .ok (.invokevirtual 9, 3) := by decide +kernel
theorem dL_law_333 : decode cL_law 333 = .ok (.iload 13, 2) := by decide +kernel
theorem dL_law_335 : decode cL_law 335 = .ok (.if_icmp .ne 29, 3) := by decide +kernel
theorem dL_law_338 : decode cL_law 338 = .ok (.aload_n 1, 1) := by decide +kernel
theorem dL_law_339 : decode cL_law 339 = .ok (.iload 12, 2) := by decide +kernel
theorem dL_law_341 : decode cL_law 341 = .ok (.ifCond .eq 7, 3) := by decide +kernel
theorem dL_law_344 : decode cL_law 344 = .ok (.iconst 5, 1) := by decide +kernel
theorem dL_law_345 : decode cL_law 345 = .ok (.goto 4, 3) := by decide +kernel
theorem dL_law_348 : decode cL_law 348 = .ok (.iconst 3, 1) := by decide +kernel
theorem dL_law_349 : decode cL_law 349 = .ok (.invokevirtual 9, 3) := by decide +kernel
theorem dL_law_352 : decode cL_law 352 = .ok (.iload 14, 2) := by decide +kernel
theorem dL_law_354 : decode cL_law 354 = .ok (.if_icmp .ne 10, 3) := by decide +kernel
theorem dL_law_357 : decode cL_law 357 = .ok (.aload_n 1, 1) := by decide +kernel
theorem dL_law_358 : decode cL_law 358 = .ok (.invokestatic 108, 3) := by decide +kernel
theorem dL_law_361 : decode cL_law 361 = .ok (.ifCond .ne 5, 3) := by decide +kernel
theorem dL_law_364 : decode cL_law 364 = .ok (.iconst 0, 1) := by decide +kernel
theorem dL_law_365 : decode cL_law 365 = .ok (.ireturn, 1) := by decide +kernel
theorem dL_law_366 : decode cL_law 366 = .ok (.goto 82, 3) := by decide +kernel
theorem dL_law_369 : decode cL_law 369 = .ok (.iload 11, 2) := by decide +kernel
theorem dL_law_371 : decode cL_law 371 = .ok (.iconst 4, 1) := by decide +kernel
theorem dL_law_372 : decode cL_law 372 = .ok (.if_icmp .ne 50, 3) := by decide +kernel
theorem dL_law_375 : decode cL_law 375 = .ok (.iload 8, 2) := by decide +kernel
theorem dL_law_377 : decode cL_law 377 = .ok (.iconst 3, 1) := by decide +kernel
theorem dL_law_378 : decode cL_law 378 = .ok (.invokestatic 44, 3) := by decide +kernel
theorem dL_law_381 : decode cL_law 381 = .ok (.istore 12, 2) := by decide +kernel
theorem dL_law_383 : decode cL_law 383 = .ok (.aload_n 2, 1) := by decide +kernel
theorem dL_law_384 : decode cL_law 384 = .ok (.iload 12, 2) := by decide +kernel
theorem dL_law_386 : decode cL_law 386 = .ok (.iaload, 1) := by decide +kernel
theorem dL_law_387 : decode cL_law 387 = .ok (.istore 13, 2) := by decide +kernel
theorem dL_law_389 : decode cL_law 389 = .ok (.aload_n 2, 1) := by decide +kernel
theorem dL_law_390 : decode cL_law 390 = .ok (.iload 12, 2) := by decide +kernel
theorem dL_law_392 : decode cL_law 392 = .ok (.iload 8, 2) := by decide +kernel
theorem dL_law_394 : decode cL_law 394 = .ok (.iconst 4, 1) := by decide +kernel
theorem dL_law_395 : decode cL_law 395 = .ok (.ishr, 1) := by decide +kernel
theorem dL_law_396 : decode cL_law 396 = .ok (.bipush 10, 2) := by decide +kernel
theorem dL_law_398 : decode cL_law 398 = .ok (.invokestatic 44, 3) := by decide +kernel
theorem dL_law_401 : decode cL_law 401 = .ok (.iastore, 1) := by decide +kernel
theorem dL_law_402 : decode cL_law 402 = .ok (.aload_n 1, 1) := by decide +kernel
theorem dL_law_403 : decode cL_law 403 = .ok (.iload 12, 2) := by decide +kernel
theorem dL_law_405 : decode cL_law 405 = .ok (.aload_n 2, 1) := by decide +kernel
theorem dL_law_406 : decode cL_law 406 = .ok (.iload 12, 2) := by decide +kernel
theorem dL_law_408 : decode cL_law 408 = .ok (.iaload, 1) := by decide +kernel
theorem dL_law_409 : decode cL_law 409 = .ok (.invokevirtual 96, 3) := by decide +kernel
theorem dL_law_412 : decode cL_law 412 = .ok (.iload 13, 2) := by decide +kernel
theorem dL_law_414 : decode cL_law 414 = .ok (.if_icmp .eq 5, 3) := by decide +kernel
theorem dL_law_417 : decode cL_law 417 = .ok (.iconst 0, 1) := by decide +kernel
theorem dL_law_418 : decode cL_law 418 = .ok (.ireturn, 1) := by decide +kernel
theorem dL_law_419 : decode cL_law 419 = .ok (.goto 29, 3) := by decide +kernel
theorem dL_law_422 : decode cL_law 422 = .ok (.aload_n 1, 1) := by decide +kernel
theorem dL_law_423 : decode cL_law 423 = .ok (.iload 8, 2) := by decide +kernel
theorem dL_law_425 : decode cL_law 425 = .ok (.iload 10, 2) := by decide +kernel
theorem dL_law_427 : decode cL_law 427 = .ok (.invokestatic 44, 3) := by decide +kernel
theorem dL_law_430 : decode cL_law 430 = .ok (.iload 9, 2) := by decide +kernel
theorem dL_law_432 : decode cL_law 432 = .ok (.iconst 3, 1) := by decide +kernel
theorem dL_law_433 : decode cL_law 433 = .ok (.iand, 1) := by decide +kernel
theorem dL_law_434 : decode cL_law 434 = .ok (.iload 8, 2) := by decide +kernel
theorem dL_law_436 : decode cL_law 436 = .ok (.iconst 2, 1) := by decide +kernel
theorem dL_law_437 : decode cL_law 437 = .ok (.ishr, 1) := by decide +kernel
theorem dL_law_438 : decode cL_law 438 = .ok (.iload 9, 2) := by decide +kernel
theorem dL_law_440 : decode cL_law 440 = .ok (.invokestatic 112, 3) := by decide +kernel
theorem dL_law_443 : decode cL_law 443 = .ok (.ifCond .ne 5, 3) := by decide +kernel
theorem dL_law_446 : decode cL_law 446 = .ok (.iconst 0, 1) := by decide +kernel
theorem dL_law_447 : decode cL_law 447 = .ok (.ireturn, 1) := by decide +kernel
theorem dL_law_448 : decode cL_law 448 = .ok (.aload_n 1, 1) := by decide +kernel
theorem dL_law_449 : decode cL_law 449 = .ok (.invokestatic 116, 3) := by decide +kernel
theorem dL_law_452 : decode cL_law 452 = .ok (.ifCond .eq 51, 3) := by decide +kernel
theorem dL_law_455 : decode cL_law 455 = .ok (.aload_n 1, 1) := by decide +kernel
theorem dL_law_456 : decode cL_law 456 = .ok (.iload 8, 2) := by decide +kernel
theorem dL_law_458 : decode cL_law 458 = .ok (.bipush 6, 2) := by decide +kernel
theorem dL_law_460 : decode cL_law 460 = .ok (.invokestatic 44, 3) := by decide +kernel
theorem dL_law_463 : decode cL_law 463 = .ok (.invokestatic 119, 3) := by decide +kernel
theorem dL_law_466 : decode cL_law 466 = .ok (.ifCond .eq 37, 3) := by decide +kernel
theorem dL_law_469 : decode cL_law 469 = .ok (.iload 7, 2) := by decide +kernel
theorem dL_law_471 : decode cL_law 471 = .ok (.iconst 2, 1) := by decide +kernel
theorem dL_law_472 : decode cL_law 472 = .ok (.irem, 1) := by decide +kernel
theorem dL_law_473 : decode cL_law 473 = .ok (.ifCond .ne 32, 3) := by decide +kernel
theorem dL_law_476 : decode cL_law 476 = .ok (.aload_n 1, 1) := by decide +kernel
theorem dL_law_477 : decode cL_law 477 = .ok (.aload_n 2, 1) := by decide +kernel
theorem dL_law_478 : decode cL_law 478 = .ok (.iload 9, 2) := by decide +kernel
theorem dL_law_480 : decode cL_law 480 = .ok (.iload 10, 2) := by decide +kernel
theorem dL_law_482 : decode cL_law 482 = .ok (.invokestatic 44, 3) := by decide +kernel
theorem dL_law_485 : decode cL_law 485 = .ok (.iload 9, 2) := by decide +kernel
theorem dL_law_487 : decode cL_law 487 = .ok (.bipush 8, 2) := by decide +kernel
theorem dL_law_489 : decode cL_law 489 = .ok (.ishr, 1) := by decide +kernel
theorem dL_law_490 : decode cL_law 490 = .ok (.iload 10, 2) := by decide +kernel
theorem dL_law_492 : decode cL_law 492 = .ok (.invokestatic 44, 3) := by decide +kernel
theorem dL_law_495 : decode cL_law 495 = .ok (.iload 8, 2) := by decide +kernel
theorem dL_law_497 : decode cL_law 497 = .ok (.invokestatic 123, 3) := by decide +kernel
theorem dL_law_500 : decode cL_law 500 = .ok (.ifCond .ne 5, 3) := by decide +kernel
theorem dL_law_503 : decode cL_law 503 = .ok (.iconst 0, 1) := by decide +kernel
theorem dL_law_504 : decode cL_law 504 = .ok (.ireturn, 1) := by decide +kernel
theorem dL_law_505 : decode cL_law 505 = .ok (.iinc 7 1, 3) := by decide +kernel
theorem dL_law_508 : decode cL_law 508 = .ok (.goto (-384), 3) := by decide +kernel
theorem dL_law_511 : decode cL_law 511 = .ok (.iload 6, 2) := by decide +kernel
theorem dL_law_513 : decode cL_law 513 = .ok (.ifCond .le 17, 3) := by decide +kernel
theorem dL_law_516 : decode cL_law 516 = .ok (.iinc 6 (-1), 3) := by decide +kernel
theorem dL_law_519 : decode cL_law 519 = .ok (.aload_n 1, 1) := by decide +kernel
theorem dL_law_520 : decode cL_law 520 = .ok (.invokevirtual 86, 3) := by decide +kernel
theorem dL_law_523 : decode cL_law 523 = .ok (.iload 6, 2) := by decide +kernel
theorem dL_law_525 : decode cL_law 525 = .ok (.if_icmp .eq (-14), 3) := by decide +kernel
theorem dL_law_528 : decode cL_law 528 = .ok (.iconst 0, 1) := by decide +kernel
theorem dL_law_529 : decode cL_law 529 = .ok (.ireturn, 1) := by decide +kernel
theorem dL_law_530 : decode cL_law 530 = .ok (.aload_n 1, 1) := by decide +kernel
theorem dL_law_531 : decode cL_law 531 = .ok (.invokevirtual 86, 3) := by decide +kernel
theorem dL_law_534 : decode cL_law 534 = .ok (.bipush (-5), 2) := by decide +kernel
theorem dL_law_536 : decode cL_law 536 = .ok (.if_icmp .ne 14, 3) := by decide +kernel
theorem dL_law_539 : decode cL_law 539 = .ok (.aload_n 1, 1) := by decide +kernel
theorem dL_law_540 : decode cL_law 540 = .ok (.invokestatic 127, 3) := by decide +kernel
theorem dL_law_543 : decode cL_law 543 = .ok (.ifCond .eq 7, 3) := by decide +kernel
theorem dL_law_546 : decode cL_law 546 = .ok (.iconst 1, 1) := by decide +kernel
theorem dL_law_547 : decode cL_law 547 = .ok (.goto 4, 3) := by decide +kernel
theorem dL_law_550 : decode cL_law 550 = .ok (.iconst 0, 1) := by decide +kernel
theorem dL_law_551 : decode cL_law 551 = .ok (.ireturn, 1) := by decide +kernel
